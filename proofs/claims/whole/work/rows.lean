section
-- ===== PART A: goes FIRST, ahead of the names: the tables' words, and 'selects' of the private methods out of them =====
/-- a private method of a class that the tables say can be made, by its rows of tables_1 -/
def lw_okq (q : MethodName × Nat) : Prop := (q.1.cls ≠ "java/lang/invoke/MethodHandle" ∧ q.1.cls ≠ "java/lang/invoke/VarHandle") ∧ Cond.instantiable q.1.cls q.2 ∈ tables_1 ∧ Cond.privateMethod q.1 ∈ tables_1 ∧ Cond.instanceMethod q.1 ∈ tables_1
theorem lw_p0 : lw_okq (⟨"BeggarBridge$Shelves", "refusalOfRow", "(I)I"⟩, 3) := ⟨⟨by decide +kernel, by decide +kernel⟩, List.mem_of_getElem? (i := 322) (by decide +kernel), List.mem_of_getElem? (i := 418) (by decide +kernel), List.mem_of_getElem? (i := 419) (by decide +kernel)⟩
theorem lw_p1 : lw_okq (⟨"BeggarBridge$Shelves", "isRow", "(I)Z"⟩, 3) := ⟨⟨by decide +kernel, by decide +kernel⟩, List.mem_of_getElem? (i := 322) (by decide +kernel), List.mem_of_getElem? (i := 427) (by decide +kernel), List.mem_of_getElem? (i := 428) (by decide +kernel)⟩
theorem lw_p2 : lw_okq (⟨"BeggarBridge", "comes", "(II)Z"⟩, 11) := ⟨⟨by decide +kernel, by decide +kernel⟩, List.mem_of_getElem? (i := 19) (by decide +kernel), List.mem_of_getElem? (i := 436) (by decide +kernel), List.mem_of_getElem? (i := 437) (by decide +kernel)⟩
theorem lw_p3 : lw_okq (⟨"BeggarBridge$County", "numbersOf", "(I)[I"⟩, 15) := ⟨⟨by decide +kernel, by decide +kernel⟩, List.mem_of_getElem? (i := 27) (by decide +kernel), List.mem_of_getElem? (i := 462) (by decide +kernel), List.mem_of_getElem? (i := 463) (by decide +kernel)⟩
theorem lw_p4 : lw_okq (⟨"BeggarBridge$Changes", "dropOldest", "()V"⟩, 6) := ⟨⟨by decide +kernel, by decide +kernel⟩, List.mem_of_getElem? (i := 253) (by decide +kernel), List.mem_of_getElem? (i := 471) (by decide +kernel), List.mem_of_getElem? (i := 472) (by decide +kernel)⟩
theorem lw_p5 : lw_okq (⟨"BeggarBridge$Tape", "line", "()V"⟩, 7) := ⟨⟨by decide +kernel, by decide +kernel⟩, List.mem_of_getElem? (i := 96) (by decide +kernel), List.mem_of_getElem? (i := 502) (by decide +kernel), List.mem_of_getElem? (i := 503) (by decide +kernel)⟩
theorem lw_p6 : lw_okq (⟨"BeggarBridge$Tape", "climb", "(II)V"⟩, 7) := ⟨⟨by decide +kernel, by decide +kernel⟩, List.mem_of_getElem? (i := 96) (by decide +kernel), List.mem_of_getElem? (i := 506) (by decide +kernel), List.mem_of_getElem? (i := 507) (by decide +kernel)⟩
theorem lw_p7 : lw_okq (⟨"BeggarBridge$Tape", "operand", "(I)V"⟩, 7) := ⟨⟨by decide +kernel, by decide +kernel⟩, List.mem_of_getElem? (i := 96) (by decide +kernel), List.mem_of_getElem? (i := 510) (by decide +kernel), List.mem_of_getElem? (i := 511) (by decide +kernel)⟩
theorem lw_p8 : lw_okq (⟨"BeggarBridge$Tape", "peek", "()I"⟩, 7) := ⟨⟨by decide +kernel, by decide +kernel⟩, List.mem_of_getElem? (i := 96) (by decide +kernel), List.mem_of_getElem? (i := 514) (by decide +kernel), List.mem_of_getElem? (i := 515) (by decide +kernel)⟩
theorem lw_p9 : lw_okq (⟨"BeggarBridge$Tape", "number", "()V"⟩, 7) := ⟨⟨by decide +kernel, by decide +kernel⟩, List.mem_of_getElem? (i := 96) (by decide +kernel), List.mem_of_getElem? (i := 521) (by decide +kernel), List.mem_of_getElem? (i := 522) (by decide +kernel)⟩
theorem lw_p10 : lw_okq (⟨"BeggarBridge$Tape", "emit", "(II)V"⟩, 7) := ⟨⟨by decide +kernel, by decide +kernel⟩, List.mem_of_getElem? (i := 96) (by decide +kernel), List.mem_of_getElem? (i := 525) (by decide +kernel), List.mem_of_getElem? (i := 526) (by decide +kernel)⟩
theorem lw_p11 : lw_okq (⟨"BeggarBridge$Tape", "enclosed", "(I)V"⟩, 7) := ⟨⟨by decide +kernel, by decide +kernel⟩, List.mem_of_getElem? (i := 96) (by decide +kernel), List.mem_of_getElem? (i := 532) (by decide +kernel), List.mem_of_getElem? (i := 533) (by decide +kernel)⟩
theorem lw_p12 : lw_okq (⟨"BeggarBridge$County", "tallyOne", "(I)V"⟩, 15) := ⟨⟨by decide +kernel, by decide +kernel⟩, List.mem_of_getElem? (i := 27) (by decide +kernel), List.mem_of_getElem? (i := 560) (by decide +kernel), List.mem_of_getElem? (i := 561) (by decide +kernel)⟩
theorem lw_p13 : lw_okq (⟨"BeggarBridge$Law", "worth", "()I"⟩, 5) := ⟨⟨by decide +kernel, by decide +kernel⟩, List.mem_of_getElem? (i := 128) (by decide +kernel), List.mem_of_getElem? (i := 578) (by decide +kernel), List.mem_of_getElem? (i := 579) (by decide +kernel)⟩
theorem lw_p14 : lw_okq (⟨"BeggarBridge$Thought", "prefer", "(II)V"⟩, 10) := ⟨⟨by decide +kernel, by decide +kernel⟩, List.mem_of_getElem? (i := 150) (by decide +kernel), List.mem_of_getElem? (i := 691) (by decide +kernel), List.mem_of_getElem? (i := 692) (by decide +kernel)⟩
theorem lw_p15 : lw_okq (⟨"BeggarBridge$Seats", "finds", "(II)Z"⟩, 4) := ⟨⟨by decide +kernel, by decide +kernel⟩, List.mem_of_getElem? (i := 221) (by decide +kernel), List.mem_of_getElem? (i := 712) (by decide +kernel), List.mem_of_getElem? (i := 713) (by decide +kernel)⟩
def lw_privs_1 : List (MethodName × Nat) := [(⟨"BeggarBridge$Shelves", "refusalOfRow", "(I)I"⟩, 3), (⟨"BeggarBridge$Shelves", "isRow", "(I)Z"⟩, 3), (⟨"BeggarBridge", "comes", "(II)Z"⟩, 11), (⟨"BeggarBridge$County", "numbersOf", "(I)[I"⟩, 15), (⟨"BeggarBridge$Changes", "dropOldest", "()V"⟩, 6), (⟨"BeggarBridge$Tape", "line", "()V"⟩, 7), (⟨"BeggarBridge$Tape", "climb", "(II)V"⟩, 7), (⟨"BeggarBridge$Tape", "operand", "(I)V"⟩, 7), (⟨"BeggarBridge$Tape", "peek", "()I"⟩, 7), (⟨"BeggarBridge$Tape", "number", "()V"⟩, 7), (⟨"BeggarBridge$Tape", "emit", "(II)V"⟩, 7), (⟨"BeggarBridge$Tape", "enclosed", "(I)V"⟩, 7), (⟨"BeggarBridge$County", "tallyOne", "(I)V"⟩, 15), (⟨"BeggarBridge$Law", "worth", "()I"⟩, 5), (⟨"BeggarBridge$Thought", "prefer", "(II)V"⟩, 10), (⟨"BeggarBridge$Seats", "finds", "(II)Z"⟩, 4)]
theorem lw_r1 : ∀ q ∈ lw_privs_1, lw_okq q := List.forall_mem_cons.mpr ⟨lw_p0, List.forall_mem_cons.mpr ⟨lw_p1, List.forall_mem_cons.mpr ⟨lw_p2, List.forall_mem_cons.mpr ⟨lw_p3, List.forall_mem_cons.mpr ⟨lw_p4, List.forall_mem_cons.mpr ⟨lw_p5, List.forall_mem_cons.mpr ⟨lw_p6, List.forall_mem_cons.mpr ⟨lw_p7, List.forall_mem_cons.mpr ⟨lw_p8, List.forall_mem_cons.mpr ⟨lw_p9, List.forall_mem_cons.mpr ⟨lw_p10, List.forall_mem_cons.mpr ⟨lw_p11, List.forall_mem_cons.mpr ⟨lw_p12, List.forall_mem_cons.mpr ⟨lw_p13, List.forall_mem_cons.mpr ⟨lw_p14, List.forall_mem_cons.mpr ⟨lw_p15, fun _ h => absurd h List.not_mem_nil⟩⟩⟩⟩⟩⟩⟩⟩⟩⟩⟩⟩⟩⟩⟩⟩
theorem lw_p16 : lw_okq (⟨"BeggarBridge$Seats", "firstFor", "(III)I"⟩, 4) := ⟨⟨by decide +kernel, by decide +kernel⟩, List.mem_of_getElem? (i := 221) (by decide +kernel), List.mem_of_getElem? (i := 721) (by decide +kernel), List.mem_of_getElem? (i := 722) (by decide +kernel)⟩
theorem lw_p17 : lw_okq (⟨"BeggarBridge$Ways", "shorten", "(I)V"⟩, 2) := ⟨⟨by decide +kernel, by decide +kernel⟩, List.mem_of_getElem? (i := 240) (by decide +kernel), List.mem_of_getElem? (i := 737) (by decide +kernel), List.mem_of_getElem? (i := 738) (by decide +kernel)⟩
theorem lw_p18 : lw_okq (⟨"BeggarBridge$Ways", "isWay", "(III)Z"⟩, 2) := ⟨⟨by decide +kernel, by decide +kernel⟩, List.mem_of_getElem? (i := 240) (by decide +kernel), List.mem_of_getElem? (i := 753) (by decide +kernel), List.mem_of_getElem? (i := 754) (by decide +kernel)⟩
theorem lw_p19 : lw_okq (⟨"BeggarBridge$Turns", "engineer", "(III)I"⟩, 6) := ⟨⟨by decide +kernel, by decide +kernel⟩, List.mem_of_getElem? (i := 193) (by decide +kernel), List.mem_of_getElem? (i := 813) (by decide +kernel), List.mem_of_getElem? (i := 814) (by decide +kernel)⟩
theorem lw_p20 : lw_okq (⟨"BeggarBridge$Turns", "banker", "(III)I"⟩, 6) := ⟨⟨by decide +kernel, by decide +kernel⟩, List.mem_of_getElem? (i := 193) (by decide +kernel), List.mem_of_getElem? (i := 821) (by decide +kernel), List.mem_of_getElem? (i := 822) (by decide +kernel)⟩
theorem lw_p21 : lw_okq (⟨"BeggarBridge$Arches", "own", "(IIII)I"⟩, 4) := ⟨⟨by decide +kernel, by decide +kernel⟩, List.mem_of_getElem? (i := 301) (by decide +kernel), List.mem_of_getElem? (i := 931) (by decide +kernel), List.mem_of_getElem? (i := 932) (by decide +kernel)⟩
theorem lw_p22 : lw_okq (⟨"BeggarBridge$Arches", "run", "(IIIII)I"⟩, 4) := ⟨⟨by decide +kernel, by decide +kernel⟩, List.mem_of_getElem? (i := 301) (by decide +kernel), List.mem_of_getElem? (i := 939) (by decide +kernel), List.mem_of_getElem? (i := 940) (by decide +kernel)⟩
theorem lw_p23 : lw_okq (⟨"BeggarBridge$Arches", "note", "(I)V"⟩, 4) := ⟨⟨by decide +kernel, by decide +kernel⟩, List.mem_of_getElem? (i := 301) (by decide +kernel), List.mem_of_getElem? (i := 953) (by decide +kernel), List.mem_of_getElem? (i := 954) (by decide +kernel)⟩
theorem lw_p24 : lw_okq (⟨"BeggarBridgeModel", "mayCome", "(JJJJ)Z"⟩, 50) := ⟨⟨by decide +kernel, by decide +kernel⟩, List.mem_of_getElem? (i := 1045) (by decide +kernel), List.mem_of_getElem? (i := 1230) (by decide +kernel), List.mem_of_getElem? (i := 1231) (by decide +kernel)⟩
theorem lw_p25 : lw_okq (⟨"BeggarBridgeModel", "maySit", "(J)Z"⟩, 50) := ⟨⟨by decide +kernel, by decide +kernel⟩, List.mem_of_getElem? (i := 1045) (by decide +kernel), List.mem_of_getElem? (i := 1235) (by decide +kernel), List.mem_of_getElem? (i := 1236) (by decide +kernel)⟩
theorem lw_p26 : lw_okq (⟨"BeggarBridgeModel", "isBridge", "(J)Z"⟩, 50) := ⟨⟨by decide +kernel, by decide +kernel⟩, List.mem_of_getElem? (i := 1045) (by decide +kernel), List.mem_of_getElem? (i := 1239) (by decide +kernel), List.mem_of_getElem? (i := 1240) (by decide +kernel)⟩
theorem lw_p27 : lw_okq (⟨"BeggarBridgeModel", "adds", "(IIII)V"⟩, 50) := ⟨⟨by decide +kernel, by decide +kernel⟩, List.mem_of_getElem? (i := 1045) (by decide +kernel), List.mem_of_getElem? (i := 1243) (by decide +kernel), List.mem_of_getElem? (i := 1244) (by decide +kernel)⟩
theorem lw_p28 : lw_okq (⟨"BeggarBridgeModel", "placeOf", "(II)I"⟩, 50) := ⟨⟨by decide +kernel, by decide +kernel⟩, List.mem_of_getElem? (i := 1045) (by decide +kernel), List.mem_of_getElem? (i := 1259) (by decide +kernel), List.mem_of_getElem? (i := 1260) (by decide +kernel)⟩
theorem lw_p29 : lw_okq (⟨"BeggarBridgeModel", "isBeggar", "(J)Z"⟩, 50) := ⟨⟨by decide +kernel, by decide +kernel⟩, List.mem_of_getElem? (i := 1045) (by decide +kernel), List.mem_of_getElem? (i := 1266) (by decide +kernel), List.mem_of_getElem? (i := 1267) (by decide +kernel)⟩
theorem lw_p30 : lw_okq (⟨"BeggarBridgeModel", "mayBecome", "(II)Z"⟩, 50) := ⟨⟨by decide +kernel, by decide +kernel⟩, List.mem_of_getElem? (i := 1045) (by decide +kernel), List.mem_of_getElem? (i := 1271) (by decide +kernel), List.mem_of_getElem? (i := 1272) (by decide +kernel)⟩
theorem lw_p31 : lw_okq (⟨"BeggarBridgeModel", "becomes", "(II)I"⟩, 50) := ⟨⟨by decide +kernel, by decide +kernel⟩, List.mem_of_getElem? (i := 1045) (by decide +kernel), List.mem_of_getElem? (i := 1275) (by decide +kernel), List.mem_of_getElem? (i := 1276) (by decide +kernel)⟩
def lw_privs_2 : List (MethodName × Nat) := [(⟨"BeggarBridge$Seats", "firstFor", "(III)I"⟩, 4), (⟨"BeggarBridge$Ways", "shorten", "(I)V"⟩, 2), (⟨"BeggarBridge$Ways", "isWay", "(III)Z"⟩, 2), (⟨"BeggarBridge$Turns", "engineer", "(III)I"⟩, 6), (⟨"BeggarBridge$Turns", "banker", "(III)I"⟩, 6), (⟨"BeggarBridge$Arches", "own", "(IIII)I"⟩, 4), (⟨"BeggarBridge$Arches", "run", "(IIIII)I"⟩, 4), (⟨"BeggarBridge$Arches", "note", "(I)V"⟩, 4), (⟨"BeggarBridgeModel", "mayCome", "(JJJJ)Z"⟩, 50), (⟨"BeggarBridgeModel", "maySit", "(J)Z"⟩, 50), (⟨"BeggarBridgeModel", "isBridge", "(J)Z"⟩, 50), (⟨"BeggarBridgeModel", "adds", "(IIII)V"⟩, 50), (⟨"BeggarBridgeModel", "placeOf", "(II)I"⟩, 50), (⟨"BeggarBridgeModel", "isBeggar", "(J)Z"⟩, 50), (⟨"BeggarBridgeModel", "mayBecome", "(II)Z"⟩, 50), (⟨"BeggarBridgeModel", "becomes", "(II)I"⟩, 50)]
theorem lw_r2 : ∀ q ∈ lw_privs_2, lw_okq q := List.forall_mem_cons.mpr ⟨lw_p16, List.forall_mem_cons.mpr ⟨lw_p17, List.forall_mem_cons.mpr ⟨lw_p18, List.forall_mem_cons.mpr ⟨lw_p19, List.forall_mem_cons.mpr ⟨lw_p20, List.forall_mem_cons.mpr ⟨lw_p21, List.forall_mem_cons.mpr ⟨lw_p22, List.forall_mem_cons.mpr ⟨lw_p23, List.forall_mem_cons.mpr ⟨lw_p24, List.forall_mem_cons.mpr ⟨lw_p25, List.forall_mem_cons.mpr ⟨lw_p26, List.forall_mem_cons.mpr ⟨lw_p27, List.forall_mem_cons.mpr ⟨lw_p28, List.forall_mem_cons.mpr ⟨lw_p29, List.forall_mem_cons.mpr ⟨lw_p30, List.forall_mem_cons.mpr ⟨lw_p31, fun _ h => absurd h List.not_mem_nil⟩⟩⟩⟩⟩⟩⟩⟩⟩⟩⟩⟩⟩⟩⟩⟩
theorem lw_p32 : lw_okq (⟨"BeggarBridgeModel", "reads", "()V"⟩, 50) := ⟨⟨by decide +kernel, by decide +kernel⟩, List.mem_of_getElem? (i := 1045) (by decide +kernel), List.mem_of_getElem? (i := 1293) (by decide +kernel), List.mem_of_getElem? (i := 1294) (by decide +kernel)⟩
theorem lw_p33 : lw_okq (⟨"BeggarBridgeModel", "either", "()V"⟩, 50) := ⟨⟨by decide +kernel, by decide +kernel⟩, List.mem_of_getElem? (i := 1045) (by decide +kernel), List.mem_of_getElem? (i := 1297) (by decide +kernel), List.mem_of_getElem? (i := 1298) (by decide +kernel)⟩
theorem lw_p34 : lw_okq (⟨"BeggarBridgeModel", "both", "()V"⟩, 50) := ⟨⟨by decide +kernel, by decide +kernel⟩, List.mem_of_getElem? (i := 1045) (by decide +kernel), List.mem_of_getElem? (i := 1301) (by decide +kernel), List.mem_of_getElem? (i := 1302) (by decide +kernel)⟩
theorem lw_p35 : lw_okq (⟨"BeggarBridgeModel", "compared", "()V"⟩, 50) := ⟨⟨by decide +kernel, by decide +kernel⟩, List.mem_of_getElem? (i := 1045) (by decide +kernel), List.mem_of_getElem? (i := 1305) (by decide +kernel), List.mem_of_getElem? (i := 1306) (by decide +kernel)⟩
theorem lw_p36 : lw_okq (⟨"BeggarBridgeModel", "sums", "()V"⟩, 50) := ⟨⟨by decide +kernel, by decide +kernel⟩, List.mem_of_getElem? (i := 1045) (by decide +kernel), List.mem_of_getElem? (i := 1309) (by decide +kernel), List.mem_of_getElem? (i := 1310) (by decide +kernel)⟩
theorem lw_p37 : lw_okq (⟨"BeggarBridgeModel", "product", "()V"⟩, 50) := ⟨⟨by decide +kernel, by decide +kernel⟩, List.mem_of_getElem? (i := 1045) (by decide +kernel), List.mem_of_getElem? (i := 1313) (by decide +kernel), List.mem_of_getElem? (i := 1314) (by decide +kernel)⟩
theorem lw_p38 : lw_okq (⟨"BeggarBridgeModel", "one", "()V"⟩, 50) := ⟨⟨by decide +kernel, by decide +kernel⟩, List.mem_of_getElem? (i := 1045) (by decide +kernel), List.mem_of_getElem? (i := 1317) (by decide +kernel), List.mem_of_getElem? (i := 1318) (by decide +kernel)⟩
theorem lw_p39 : lw_okq (⟨"BeggarBridgeModel", "byteAt", "()I"⟩, 50) := ⟨⟨by decide +kernel, by decide +kernel⟩, List.mem_of_getElem? (i := 1045) (by decide +kernel), List.mem_of_getElem? (i := 1321) (by decide +kernel), List.mem_of_getElem? (i := 1322) (by decide +kernel)⟩
theorem lw_p40 : lw_okq (⟨"BeggarBridgeModel", "openOne", "(I)V"⟩, 50) := ⟨⟨by decide +kernel, by decide +kernel⟩, List.mem_of_getElem? (i := 1045) (by decide +kernel), List.mem_of_getElem? (i := 1325) (by decide +kernel), List.mem_of_getElem? (i := 1326) (by decide +kernel)⟩
theorem lw_p41 : lw_okq (⟨"BeggarBridgeModel", "wrong", "()V"⟩, 50) := ⟨⟨by decide +kernel, by decide +kernel⟩, List.mem_of_getElem? (i := 1045) (by decide +kernel), List.mem_of_getElem? (i := 1329) (by decide +kernel), List.mem_of_getElem? (i := 1330) (by decide +kernel)⟩
theorem lw_p42 : lw_okq (⟨"BeggarBridgeModel", "takes", "(I)Z"⟩, 50) := ⟨⟨by decide +kernel, by decide +kernel⟩, List.mem_of_getElem? (i := 1045) (by decide +kernel), List.mem_of_getElem? (i := 1333) (by decide +kernel), List.mem_of_getElem? (i := 1334) (by decide +kernel)⟩
theorem lw_p43 : lw_okq (⟨"BeggarBridgeModel", "lays", "(I)V"⟩, 50) := ⟨⟨by decide +kernel, by decide +kernel⟩, List.mem_of_getElem? (i := 1045) (by decide +kernel), List.mem_of_getElem? (i := 1337) (by decide +kernel), List.mem_of_getElem? (i := 1338) (by decide +kernel)⟩
theorem lw_p44 : lw_okq (⟨"BeggarBridgeModel", "begins", "()V"⟩, 50) := ⟨⟨by decide +kernel, by decide +kernel⟩, List.mem_of_getElem? (i := 1045) (by decide +kernel), List.mem_of_getElem? (i := 1348) (by decide +kernel), List.mem_of_getElem? (i := 1349) (by decide +kernel)⟩
theorem lw_p45 : lw_okq (⟨"BeggarBridgeModel", "cracksNow", "(I)I"⟩, 50) := ⟨⟨by decide +kernel, by decide +kernel⟩, List.mem_of_getElem? (i := 1045) (by decide +kernel), List.mem_of_getElem? (i := 1352) (by decide +kernel), List.mem_of_getElem? (i := 1353) (by decide +kernel)⟩
theorem lw_p46 : lw_okq (⟨"BeggarBridgeModel", "sittingOn", "(IZ)I"⟩, 50) := ⟨⟨by decide +kernel, by decide +kernel⟩, List.mem_of_getElem? (i := 1045) (by decide +kernel), List.mem_of_getElem? (i := 1356) (by decide +kernel), List.mem_of_getElem? (i := 1357) (by decide +kernel)⟩
theorem lw_p47 : lw_okq (⟨"BeggarBridgeModel", "isPoor", "(I)Z"⟩, 50) := ⟨⟨by decide +kernel, by decide +kernel⟩, List.mem_of_getElem? (i := 1045) (by decide +kernel), List.mem_of_getElem? (i := 1360) (by decide +kernel), List.mem_of_getElem? (i := 1361) (by decide +kernel)⟩
def lw_privs_3 : List (MethodName × Nat) := [(⟨"BeggarBridgeModel", "reads", "()V"⟩, 50), (⟨"BeggarBridgeModel", "either", "()V"⟩, 50), (⟨"BeggarBridgeModel", "both", "()V"⟩, 50), (⟨"BeggarBridgeModel", "compared", "()V"⟩, 50), (⟨"BeggarBridgeModel", "sums", "()V"⟩, 50), (⟨"BeggarBridgeModel", "product", "()V"⟩, 50), (⟨"BeggarBridgeModel", "one", "()V"⟩, 50), (⟨"BeggarBridgeModel", "byteAt", "()I"⟩, 50), (⟨"BeggarBridgeModel", "openOne", "(I)V"⟩, 50), (⟨"BeggarBridgeModel", "wrong", "()V"⟩, 50), (⟨"BeggarBridgeModel", "takes", "(I)Z"⟩, 50), (⟨"BeggarBridgeModel", "lays", "(I)V"⟩, 50), (⟨"BeggarBridgeModel", "begins", "()V"⟩, 50), (⟨"BeggarBridgeModel", "cracksNow", "(I)I"⟩, 50), (⟨"BeggarBridgeModel", "sittingOn", "(IZ)I"⟩, 50), (⟨"BeggarBridgeModel", "isPoor", "(I)Z"⟩, 50)]
theorem lw_r3 : ∀ q ∈ lw_privs_3, lw_okq q := List.forall_mem_cons.mpr ⟨lw_p32, List.forall_mem_cons.mpr ⟨lw_p33, List.forall_mem_cons.mpr ⟨lw_p34, List.forall_mem_cons.mpr ⟨lw_p35, List.forall_mem_cons.mpr ⟨lw_p36, List.forall_mem_cons.mpr ⟨lw_p37, List.forall_mem_cons.mpr ⟨lw_p38, List.forall_mem_cons.mpr ⟨lw_p39, List.forall_mem_cons.mpr ⟨lw_p40, List.forall_mem_cons.mpr ⟨lw_p41, List.forall_mem_cons.mpr ⟨lw_p42, List.forall_mem_cons.mpr ⟨lw_p43, List.forall_mem_cons.mpr ⟨lw_p44, List.forall_mem_cons.mpr ⟨lw_p45, List.forall_mem_cons.mpr ⟨lw_p46, List.forall_mem_cons.mpr ⟨lw_p47, fun _ h => absurd h List.not_mem_nil⟩⟩⟩⟩⟩⟩⟩⟩⟩⟩⟩⟩⟩⟩⟩⟩
theorem lw_p48 : lw_okq (⟨"BeggarBridgeModel", "gives", "()I"⟩, 50) := ⟨⟨by decide +kernel, by decide +kernel⟩, List.mem_of_getElem? (i := 1045) (by decide +kernel), List.mem_of_getElem? (i := 1364) (by decide +kernel), List.mem_of_getElem? (i := 1365) (by decide +kernel)⟩
theorem lw_p49 : lw_okq (⟨"BeggarBridgeModel", "says", "(II)I"⟩, 50) := ⟨⟨by decide +kernel, by decide +kernel⟩, List.mem_of_getElem? (i := 1045) (by decide +kernel), List.mem_of_getElem? (i := 1368) (by decide +kernel), List.mem_of_getElem? (i := 1369) (by decide +kernel)⟩
theorem lw_p50 : lw_okq (⟨"BeggarBridgeModel", "goesDays", "(I)V"⟩, 50) := ⟨⟨by decide +kernel, by decide +kernel⟩, List.mem_of_getElem? (i := 1045) (by decide +kernel), List.mem_of_getElem? (i := 1383) (by decide +kernel), List.mem_of_getElem? (i := 1384) (by decide +kernel)⟩
theorem lw_p51 : lw_okq (⟨"BeggarBridgeModel", "goesDay", "()V"⟩, 50) := ⟨⟨by decide +kernel, by decide +kernel⟩, List.mem_of_getElem? (i := 1045) (by decide +kernel), List.mem_of_getElem? (i := 1387) (by decide +kernel), List.mem_of_getElem? (i := 1388) (by decide +kernel)⟩
theorem lw_p52 : lw_okq (⟨"BeggarBridgeModel", "standing", "()I"⟩, 50) := ⟨⟨by decide +kernel, by decide +kernel⟩, List.mem_of_getElem? (i := 1045) (by decide +kernel), List.mem_of_getElem? (i := 1401) (by decide +kernel), List.mem_of_getElem? (i := 1402) (by decide +kernel)⟩
theorem lw_p53 : lw_okq (⟨"BeggarBridgeModel", "soundAll", "()I"⟩, 50) := ⟨⟨by decide +kernel, by decide +kernel⟩, List.mem_of_getElem? (i := 1045) (by decide +kernel), List.mem_of_getElem? (i := 1405) (by decide +kernel), List.mem_of_getElem? (i := 1406) (by decide +kernel)⟩
theorem lw_p54 : lw_okq (⟨"BeggarBridgeModel", "poorSet", "()I"⟩, 50) := ⟨⟨by decide +kernel, by decide +kernel⟩, List.mem_of_getElem? (i := 1045) (by decide +kernel), List.mem_of_getElem? (i := 1409) (by decide +kernel), List.mem_of_getElem? (i := 1410) (by decide +kernel)⟩
theorem lw_p55 : lw_okq (⟨"BeggarBridgeModel", "fallsThen", "(I)I"⟩, 50) := ⟨⟨by decide +kernel, by decide +kernel⟩, List.mem_of_getElem? (i := 1045) (by decide +kernel), List.mem_of_getElem? (i := 1417) (by decide +kernel), List.mem_of_getElem? (i := 1418) (by decide +kernel)⟩
theorem lw_p56 : lw_okq (⟨"BeggarBridgeModel", "lastAt", "(II)I"⟩, 50) := ⟨⟨by decide +kernel, by decide +kernel⟩, List.mem_of_getElem? (i := 1045) (by decide +kernel), List.mem_of_getElem? (i := 1441) (by decide +kernel), List.mem_of_getElem? (i := 1442) (by decide +kernel)⟩
theorem lw_p57 : lw_okq (⟨"BeggarBridgeModel", "maySitForEver", "(II)Z"⟩, 50) := ⟨⟨by decide +kernel, by decide +kernel⟩, List.mem_of_getElem? (i := 1045) (by decide +kernel), List.mem_of_getElem? (i := 1448) (by decide +kernel), List.mem_of_getElem? (i := 1449) (by decide +kernel)⟩
theorem lw_p58 : lw_okq (⟨"BeggarBridgeModel", "spansBy", "(III)I"⟩, 50) := ⟨⟨by decide +kernel, by decide +kernel⟩, List.mem_of_getElem? (i := 1045) (by decide +kernel), List.mem_of_getElem? (i := 1456) (by decide +kernel), List.mem_of_getElem? (i := 1457) (by decide +kernel)⟩
theorem lw_p59 : lw_okq (⟨"BeggarBridgeModel", "bytesIs", "(I)I"⟩, 50) := ⟨⟨by decide +kernel, by decide +kernel⟩, List.mem_of_getElem? (i := 1045) (by decide +kernel), List.mem_of_getElem? (i := 1469) (by decide +kernel), List.mem_of_getElem? (i := 1470) (by decide +kernel)⟩
theorem lw_p60 : lw_okq (⟨"BeggarBridgeModel", "firstFalse", "(II)I"⟩, 50) := ⟨⟨by decide +kernel, by decide +kernel⟩, List.mem_of_getElem? (i := 1045) (by decide +kernel), List.mem_of_getElem? (i := 1473) (by decide +kernel), List.mem_of_getElem? (i := 1474) (by decide +kernel)⟩
theorem lw_p61 : lw_okq (⟨"BeggarBridgeModel", "aboveOf", "(I)I"⟩, 50) := ⟨⟨by decide +kernel, by decide +kernel⟩, List.mem_of_getElem? (i := 1045) (by decide +kernel), List.mem_of_getElem? (i := 1486) (by decide +kernel), List.mem_of_getElem? (i := 1487) (by decide +kernel)⟩
theorem lw_p62 : lw_okq (⟨"BeggarBridgeModel", "playsFrom", "(IIII)I"⟩, 50) := ⟨⟨by decide +kernel, by decide +kernel⟩, List.mem_of_getElem? (i := 1045) (by decide +kernel), List.mem_of_getElem? (i := 1498) (by decide +kernel), List.mem_of_getElem? (i := 1499) (by decide +kernel)⟩
theorem lw_p63 : lw_okq (⟨"BeggarBridgeModel", "isBody", "(I)Z"⟩, 50) := ⟨⟨by decide +kernel, by decide +kernel⟩, List.mem_of_getElem? (i := 1045) (by decide +kernel), List.mem_of_getElem? (i := 1546) (by decide +kernel), List.mem_of_getElem? (i := 1547) (by decide +kernel)⟩
def lw_privs_4 : List (MethodName × Nat) := [(⟨"BeggarBridgeModel", "gives", "()I"⟩, 50), (⟨"BeggarBridgeModel", "says", "(II)I"⟩, 50), (⟨"BeggarBridgeModel", "goesDays", "(I)V"⟩, 50), (⟨"BeggarBridgeModel", "goesDay", "()V"⟩, 50), (⟨"BeggarBridgeModel", "standing", "()I"⟩, 50), (⟨"BeggarBridgeModel", "soundAll", "()I"⟩, 50), (⟨"BeggarBridgeModel", "poorSet", "()I"⟩, 50), (⟨"BeggarBridgeModel", "fallsThen", "(I)I"⟩, 50), (⟨"BeggarBridgeModel", "lastAt", "(II)I"⟩, 50), (⟨"BeggarBridgeModel", "maySitForEver", "(II)Z"⟩, 50), (⟨"BeggarBridgeModel", "spansBy", "(III)I"⟩, 50), (⟨"BeggarBridgeModel", "bytesIs", "(I)I"⟩, 50), (⟨"BeggarBridgeModel", "firstFalse", "(II)I"⟩, 50), (⟨"BeggarBridgeModel", "aboveOf", "(I)I"⟩, 50), (⟨"BeggarBridgeModel", "playsFrom", "(IIII)I"⟩, 50), (⟨"BeggarBridgeModel", "isBody", "(I)Z"⟩, 50)]
theorem lw_r4 : ∀ q ∈ lw_privs_4, lw_okq q := List.forall_mem_cons.mpr ⟨lw_p48, List.forall_mem_cons.mpr ⟨lw_p49, List.forall_mem_cons.mpr ⟨lw_p50, List.forall_mem_cons.mpr ⟨lw_p51, List.forall_mem_cons.mpr ⟨lw_p52, List.forall_mem_cons.mpr ⟨lw_p53, List.forall_mem_cons.mpr ⟨lw_p54, List.forall_mem_cons.mpr ⟨lw_p55, List.forall_mem_cons.mpr ⟨lw_p56, List.forall_mem_cons.mpr ⟨lw_p57, List.forall_mem_cons.mpr ⟨lw_p58, List.forall_mem_cons.mpr ⟨lw_p59, List.forall_mem_cons.mpr ⟨lw_p60, List.forall_mem_cons.mpr ⟨lw_p61, List.forall_mem_cons.mpr ⟨lw_p62, List.forall_mem_cons.mpr ⟨lw_p63, fun _ h => absurd h List.not_mem_nil⟩⟩⟩⟩⟩⟩⟩⟩⟩⟩⟩⟩⟩⟩⟩⟩
theorem lw_p64 : lw_okq (⟨"BeggarBridgeModel", "standsAs", "(II)I"⟩, 50) := ⟨⟨by decide +kernel, by decide +kernel⟩, List.mem_of_getElem? (i := 1045) (by decide +kernel), List.mem_of_getElem? (i := 1550) (by decide +kernel), List.mem_of_getElem? (i := 1551) (by decide +kernel)⟩
theorem lw_p65 : lw_okq (⟨"BeggarBridgeModel", "runs", "(I)V"⟩, 50) := ⟨⟨by decide +kernel, by decide +kernel⟩, List.mem_of_getElem? (i := 1045) (by decide +kernel), List.mem_of_getElem? (i := 1554) (by decide +kernel), List.mem_of_getElem? (i := 1555) (by decide +kernel)⟩
theorem lw_p66 : lw_okq (⟨"BeggarBridgeModel", "asksAs", "(II)I"⟩, 50) := ⟨⟨by decide +kernel, by decide +kernel⟩, List.mem_of_getElem? (i := 1045) (by decide +kernel), List.mem_of_getElem? (i := 1558) (by decide +kernel), List.mem_of_getElem? (i := 1559) (by decide +kernel)⟩
theorem lw_p67 : lw_okq (⟨"BeggarBridgeModel", "cracksAs", "(II)I"⟩, 50) := ⟨⟨by decide +kernel, by decide +kernel⟩, List.mem_of_getElem? (i := 1045) (by decide +kernel), List.mem_of_getElem? (i := 1562) (by decide +kernel), List.mem_of_getElem? (i := 1563) (by decide +kernel)⟩
theorem lw_p68 : lw_okq (⟨"BeggarBridgeModel", "tellsAs", "(II)I"⟩, 50) := ⟨⟨by decide +kernel, by decide +kernel⟩, List.mem_of_getElem? (i := 1045) (by decide +kernel), List.mem_of_getElem? (i := 1566) (by decide +kernel), List.mem_of_getElem? (i := 1567) (by decide +kernel)⟩
theorem lw_p69 : lw_okq (⟨"BeggarBridgeModel", "refusal", "(II)I"⟩, 50) := ⟨⟨by decide +kernel, by decide +kernel⟩, List.mem_of_getElem? (i := 1045) (by decide +kernel), List.mem_of_getElem? (i := 1586) (by decide +kernel), List.mem_of_getElem? (i := 1587) (by decide +kernel)⟩
theorem lw_p70 : lw_okq (⟨"BeggarBridgeModel", "kindOf", "(I)I"⟩, 50) := ⟨⟨by decide +kernel, by decide +kernel⟩, List.mem_of_getElem? (i := 1045) (by decide +kernel), List.mem_of_getElem? (i := 1606) (by decide +kernel), List.mem_of_getElem? (i := 1607) (by decide +kernel)⟩
def lw_privs_5 : List (MethodName × Nat) := [(⟨"BeggarBridgeModel", "standsAs", "(II)I"⟩, 50), (⟨"BeggarBridgeModel", "runs", "(I)V"⟩, 50), (⟨"BeggarBridgeModel", "asksAs", "(II)I"⟩, 50), (⟨"BeggarBridgeModel", "cracksAs", "(II)I"⟩, 50), (⟨"BeggarBridgeModel", "tellsAs", "(II)I"⟩, 50), (⟨"BeggarBridgeModel", "refusal", "(II)I"⟩, 50), (⟨"BeggarBridgeModel", "kindOf", "(I)I"⟩, 50)]
theorem lw_r5 : ∀ q ∈ lw_privs_5, lw_okq q := List.forall_mem_cons.mpr ⟨lw_p64, List.forall_mem_cons.mpr ⟨lw_p65, List.forall_mem_cons.mpr ⟨lw_p66, List.forall_mem_cons.mpr ⟨lw_p67, List.forall_mem_cons.mpr ⟨lw_p68, List.forall_mem_cons.mpr ⟨lw_p69, List.forall_mem_cons.mpr ⟨lw_p70, fun _ h => absurd h List.not_mem_nil⟩⟩⟩⟩⟩⟩⟩
def lw_privs : List (MethodName × Nat) := lw_privs_1 ++ (lw_privs_2 ++ (lw_privs_3 ++ (lw_privs_4 ++ (lw_privs_5))))
def lw_tbl : List Cond := k2_sels lw_privs ++ tables_1
theorem lw_privs_ok : ∀ q ∈ lw_privs, lw_okq q := by
  show ∀ q ∈ lw_privs_1 ++ (lw_privs_2 ++ (lw_privs_3 ++ (lw_privs_4 ++ (lw_privs_5)))), lw_okq q
  exact List.forall_mem_append.mpr ⟨lw_r1, List.forall_mem_append.mpr ⟨lw_r2, List.forall_mem_append.mpr ⟨lw_r3, List.forall_mem_append.mpr ⟨lw_r4, lw_r5⟩⟩⟩⟩
-- ===== end of PART A; then your names; then what follows =====
end
section
/-! generated by wip/whole/gen.py: names, fields, links, as data -/
def lk {α : Type} : List (Nat × α) → Nat → Option α
  | [], _ => none
  | q :: t, i => bif Nat.beq q.1 i then some q.2 else lk t i
theorem lk_mem {α : Type} : ∀ {l : List (Nat × α)} {i : Nat} {x : α}, lk l i = some x → (i, x) ∈ l
  | [], _, _, h => by cases h
  | q :: t, i, x, h => by
    unfold lk at h
    cases hq : Nat.beq q.1 i with
    | true => rw [hq] at h; have e := Nat.eq_of_beq_eq_true hq; cases h; exact e ▸ List.mem_cons_self
    | false => rw [hq] at h; exact List.mem_cons_of_mem _ (lk_mem h)
def cnL : List String := ["BeggarBridge$Arches", "BeggarBridge$Changes", "BeggarBridge$County", "BeggarBridge$Law", "BeggarBridge$Ledger", "BeggarBridge$Seats", "BeggarBridge$Shelves", "BeggarBridge$Tape", "BeggarBridge$Thought", "BeggarBridge$Turns", "BeggarBridge$Ways", "BeggarBridge", "BeggarBridgeModel", "java/lang/Integer", "java/lang/Math", "java/util/Arrays", "BeggarBridgeLaw"]
def cn (i : Nat) : String := cnL.getD i ""
def ft0 : u_T := fun k => match k with
  | 0 => ("BeggarBridge$Arches", "kinds", "[I", true)
  | 1 => ("BeggarBridge$Arches", "ran", "[I", true)
  | 2 => ("BeggarBridge$Arches", "kept", "I", false)
  | _ => ("BeggarBridge$Arches", "begun", "I", false)
def fy0 : Nat → FieldType := fun k => match k with
  | 0 => .array .int
  | 1 => .array .int
  | 2 => .int
  | _ => .int
theorem fn0 : ∀ a, a < 4 → ∀ b, b < 4 → a ≠ b → (ft0 a).2.1 ≠ (ft0 b).2.1 := by decide +kernel
theorem fy0_ok : ∀ k, k < 4 → parseFieldDescriptor (ft0 k).2.2.1 = some (fy0 k) := by decide +kernel
theorem fw0 : ∀ w ∈ u_ws "BeggarBridge$Arches" ft0 4, w ∈ lw_tbl := fun w hw => by
  have h : u_ws "BeggarBridge$Arches" ft0 4 = ([383, 385, 387, 389] : List Nat).filterMap (fun i => lw_tbl[i]?) := by decide +kernel
  rw [h] at hw
  obtain ⟨i, -, hi⟩ := List.mem_filterMap.mp hw
  exact List.mem_of_getElem? hi
def ft1 : u_T := fun k => match k with
  | 0 => ("BeggarBridge$Changes", "number", "[I", true)
  | 1 => ("BeggarBridge$Changes", "sort", "[I", true)
  | 2 => ("BeggarBridge$Changes", "before", "[I", true)
  | 3 => ("BeggarBridge$Changes", "behind", "[I", true)
  | 4 => ("BeggarBridge$Changes", "done", "I", false)
  | _ => ("BeggarBridge$Changes", "all", "I", false)
def fy1 : Nat → FieldType := fun k => match k with
  | 0 => .array .int
  | 1 => .array .int
  | 2 => .array .int
  | 3 => .array .int
  | 4 => .int
  | _ => .int
theorem fn1 : ∀ a, a < 6 → ∀ b, b < 6 → a ≠ b → (ft1 a).2.1 ≠ (ft1 b).2.1 := by decide +kernel
theorem fy1_ok : ∀ k, k < 6 → parseFieldDescriptor (ft1 k).2.2.1 = some (fy1 k) := by decide +kernel
theorem fw1 : ∀ w ∈ u_ws "BeggarBridge$Changes" ft1 6, w ∈ lw_tbl := fun w hw => by
  have h : u_ws "BeggarBridge$Changes" ft1 6 = ([336, 338, 340, 342, 344, 346] : List Nat).filterMap (fun i => lw_tbl[i]?) := by decide +kernel
  rw [h] at hw
  obtain ⟨i, -, hi⟩ := List.mem_filterMap.mp hw
  exact List.mem_of_getElem? hi
def ft2 : u_T := fun k => match k with
  | 0 => ("BeggarBridge$County", "from", "[I", true)
  | 1 => ("BeggarBridge$County", "to", "[I", true)
  | 2 => ("BeggarBridge$County", "span", "[I", true)
  | 3 => ("BeggarBridge$County", "sound", "[I", true)
  | 4 => ("BeggarBridge$County", "alms", "[I", true)
  | 5 => ("BeggarBridge$County", "means", "[I", true)
  | 6 => ("BeggarBridge$County", "asks", "[I", true)
  | 7 => ("BeggarBridge$County", "spends", "[I", true)
  | 8 => ("BeggarBridge$County", "seat", "[I", true)
  | 9 => ("BeggarBridge$County", "poorOn", "[I", true)
  | 10 => ("BeggarBridge$County", "richOn", "[I", true)
  | 11 => ("BeggarBridge$County", "bridges", "I", false)
  | 12 => ("BeggarBridge$County", "beggars", "I", false)
  | 13 => ("BeggarBridge$County", "poor", "I", false)
  | _ => ("BeggarBridge$County", "today", "I", false)
def fy2 : Nat → FieldType := fun k => match k with
  | 0 => .array .int
  | 1 => .array .int
  | 2 => .array .int
  | 3 => .array .int
  | 4 => .array .int
  | 5 => .array .int
  | 6 => .array .int
  | 7 => .array .int
  | 8 => .array .int
  | 9 => .array .int
  | 10 => .array .int
  | 11 => .int
  | 12 => .int
  | 13 => .int
  | _ => .int
theorem fn2 : ∀ a, a < 15 → ∀ b, b < 15 → a ≠ b → (ft2 a).2.1 ≠ (ft2 b).2.1 := by decide +kernel
theorem fy2_ok : ∀ k, k < 15 → parseFieldDescriptor (ft2 k).2.2.1 = some (fy2 k) := by decide +kernel
theorem fw2 : ∀ w ∈ u_ws "BeggarBridge$County" ft2 15, w ∈ lw_tbl := fun w hw => by
  have h : u_ws "BeggarBridge$County" ft2 15 = ([134, 136, 138, 140, 142, 144, 146, 148, 150, 152, 154, 156, 158, 160, 162] : List Nat).filterMap (fun i => lw_tbl[i]?) := by decide +kernel
  rw [h] at hw
  obtain ⟨i, -, hi⟩ := List.mem_filterMap.mp hw
  exact List.mem_of_getElem? hi
def ft3 : u_T := fun k => match k with
  | 0 => ("BeggarBridge$Law", "steps", "[I", true)
  | 1 => ("BeggarBridge$Law", "values", "[I", true)
  | 2 => ("BeggarBridge$Law", "pile", "[I", true)
  | 3 => ("BeggarBridge$Law", "named", "[I", true)
  | _ => ("BeggarBridge$Law", "size", "I", false)
def fy3 : Nat → FieldType := fun k => match k with
  | 0 => .array .int
  | 1 => .array .int
  | 2 => .array .int
  | 3 => .array .int
  | _ => .int
theorem fn3 : ∀ a, a < 5 → ∀ b, b < 5 → a ≠ b → (ft3 a).2.1 ≠ (ft3 b).2.1 := by decide +kernel
theorem fy3_ok : ∀ k, k < 5 → parseFieldDescriptor (ft3 k).2.2.1 = some (fy3 k) := by decide +kernel
theorem fw3 : ∀ w ∈ u_ws "BeggarBridge$Law" ft3 5, w ∈ lw_tbl := fun w hw => by
  have h : u_ws "BeggarBridge$Law" ft3 5 = ([209, 211, 213, 215, 217] : List Nat).filterMap (fun i => lw_tbl[i]?) := by decide +kernel
  rw [h] at hw
  obtain ⟨i, -, hi⟩ := List.mem_filterMap.mp hw
  exact List.mem_of_getElem? hi
def ft4 : u_T := fun k => match k with
  | 0 => ("BeggarBridge$Ledger", "sums", "[I", true)
  | 1 => ("BeggarBridge$Ledger", "keptSums", "[I", true)
  | 2 => ("BeggarBridge$Ledger", "keptCounty", "LBeggarBridge$County;", true)
  | _ => ("BeggarBridge$Ledger", "hasImage", "Z", false)
def fy4 : Nat → FieldType := fun k => match k with
  | 0 => .array .int
  | 1 => .array .int
  | 2 => .object "BeggarBridge$County"
  | _ => .boolean
theorem fn4 : ∀ a, a < 4 → ∀ b, b < 4 → a ≠ b → (ft4 a).2.1 ≠ (ft4 b).2.1 := by decide +kernel
theorem fy4_ok : ∀ k, k < 4 → parseFieldDescriptor (ft4 k).2.2.1 = some (fy4 k) := by decide +kernel
theorem fw4 : ∀ w ∈ u_ws "BeggarBridge$Ledger" ft4 4, w ∈ lw_tbl := fun w hw => by
  have h : u_ws "BeggarBridge$Ledger" ft4 4 = ([362, 364, 366, 368] : List Nat).filterMap (fun i => lw_tbl[i]?) := by decide +kernel
  rw [h] at hw
  obtain ⟨i, -, hi⟩ := List.mem_filterMap.mp hw
  exact List.mem_of_getElem? hi
def ft5 : u_T := fun k => match k with
  | 0 => ("BeggarBridge$Seats", "now", "LBeggarBridge$County;", true)
  | 1 => ("BeggarBridge$Seats", "willing", "[I", true)
  | 2 => ("BeggarBridge$Seats", "has", "[I", true)
  | _ => ("BeggarBridge$Seats", "asked", "I", false)
def fy5 : Nat → FieldType := fun k => match k with
  | 0 => .object "BeggarBridge$County"
  | 1 => .array .int
  | 2 => .array .int
  | _ => .int
theorem fn5 : ∀ a, a < 4 → ∀ b, b < 4 → a ≠ b → (ft5 a).2.1 ≠ (ft5 b).2.1 := by decide +kernel
theorem fy5_ok : ∀ k, k < 4 → parseFieldDescriptor (ft5 k).2.2.1 = some (fy5 k) := by decide +kernel
theorem fw5 : ∀ w ∈ u_ws "BeggarBridge$Seats" ft5 4, w ∈ lw_tbl := fun w hw => by
  have h : u_ws "BeggarBridge$Seats" ft5 4 = ([301, 303, 305, 307] : List Nat).filterMap (fun i => lw_tbl[i]?) := by decide +kernel
  rw [h] at hw
  obtain ⟨i, -, hi⟩ := List.mem_filterMap.mp hw
  exact List.mem_of_getElem? hi
def ft6 : u_T := fun k => match k with
  | 0 => ("BeggarBridge$Shelves", "holds", "[I", true)
  | 1 => ("BeggarBridge$Shelves", "size", "[I", true)
  | _ => ("BeggarBridge$Shelves", "rows", "[[J", true)
def fy6 : Nat → FieldType := fun k => match k with
  | 0 => .array .int
  | 1 => .array .int
  | _ => .array (.array .long)
theorem fn6 : ∀ a, a < 3 → ∀ b, b < 3 → a ≠ b → (ft6 a).2.1 ≠ (ft6 b).2.1 := by decide +kernel
theorem fy6_ok : ∀ k, k < 3 → parseFieldDescriptor (ft6 k).2.2.1 = some (fy6 k) := by decide +kernel
theorem fw6 : ∀ w ∈ u_ws "BeggarBridge$Shelves" ft6 3, w ∈ lw_tbl := fun w hw => by
  have h : u_ws "BeggarBridge$Shelves" ft6 3 = ([403, 405, 407] : List Nat).filterMap (fun i => lw_tbl[i]?) := by decide +kernel
  rw [h] at hw
  obtain ⟨i, -, hi⟩ := List.mem_filterMap.mp hw
  exact List.mem_of_getElem? hi
def ft7 : u_T := fun k => match k with
  | 0 => ("BeggarBridge$Tape", "bytes", "[I", true)
  | 1 => ("BeggarBridge$Tape", "steps", "[I", true)
  | 2 => ("BeggarBridge$Tape", "values", "[I", true)
  | 3 => ("BeggarBridge$Tape", "length", "I", false)
  | 4 => ("BeggarBridge$Tape", "size", "I", false)
  | 5 => ("BeggarBridge$Tape", "at", "I", false)
  | _ => ("BeggarBridge$Tape", "fault", "I", false)
def fy7 : Nat → FieldType := fun k => match k with
  | 0 => .array .int
  | 1 => .array .int
  | 2 => .array .int
  | 3 => .int
  | 4 => .int
  | 5 => .int
  | _ => .int
theorem fn7 : ∀ a, a < 7 → ∀ b, b < 7 → a ≠ b → (ft7 a).2.1 ≠ (ft7 b).2.1 := by decide +kernel
theorem fy7_ok : ∀ k, k < 7 → parseFieldDescriptor (ft7 k).2.2.1 = some (fy7 k) := by decide +kernel
theorem fw7 : ∀ w ∈ u_ws "BeggarBridge$Tape" ft7 7, w ∈ lw_tbl := fun w hw => by
  have h : u_ws "BeggarBridge$Tape" ft7 7 = ([183, 185, 187, 189, 191, 193, 195] : List Nat).filterMap (fun i => lw_tbl[i]?) := by decide +kernel
  rw [h] at hw
  obtain ⟨i, -, hi⟩ := List.mem_filterMap.mp hw
  exact List.mem_of_getElem? hi
def ft8 : u_T := fun k => match k with
  | 0 => ("BeggarBridge$Thought", "now", "LBeggarBridge$County;", true)
  | 1 => ("BeggarBridge$Thought", "law", "LBeggarBridge$Law;", true)
  | 2 => ("BeggarBridge$Thought", "trial", "LBeggarBridge$County;", true)
  | 3 => ("BeggarBridge$Thought", "asked", "LBeggarBridge$County;", true)
  | 4 => ("BeggarBridge$Thought", "ends", "[I", true)
  | 5 => ("BeggarBridge$Thought", "unmoved", "I", false)
  | 6 => ("BeggarBridge$Thought", "bestScore", "I", false)
  | 7 => ("BeggarBridge$Thought", "bestMove", "I", false)
  | 8 => ("BeggarBridge$Thought", "fitting", "I", false)
  | _ => ("BeggarBridge$Thought", "leastFitting", "I", false)
def fy8 : Nat → FieldType := fun k => match k with
  | 0 => .object "BeggarBridge$County"
  | 1 => .object "BeggarBridge$Law"
  | 2 => .object "BeggarBridge$County"
  | 3 => .object "BeggarBridge$County"
  | 4 => .array .int
  | 5 => .int
  | 6 => .int
  | 7 => .int
  | 8 => .int
  | _ => .int
theorem fn8 : ∀ a, a < 10 → ∀ b, b < 10 → a ≠ b → (ft8 a).2.1 ≠ (ft8 b).2.1 := by decide +kernel
theorem fy8_ok : ∀ k, k < 10 → parseFieldDescriptor (ft8 k).2.2.1 = some (fy8 k) := by decide +kernel
theorem fw8 : ∀ w ∈ u_ws "BeggarBridge$Thought" ft8 10, w ∈ lw_tbl := fun w hw => by
  have h : u_ws "BeggarBridge$Thought" ft8 10 = ([242, 244, 246, 248, 250, 252, 254, 256, 258, 260] : List Nat).filterMap (fun i => lw_tbl[i]?) := by decide +kernel
  rw [h] at hw
  obtain ⟨i, -, hi⟩ := List.mem_filterMap.mp hw
  exact List.mem_of_getElem? hi
def ft9 : u_T := fun k => match k with
  | 0 => ("BeggarBridge$Turns", "thought", "LBeggarBridge$Thought;", true)
  | 1 => ("BeggarBridge$Turns", "table", "LBeggarBridge$County;", true)
  | 2 => ("BeggarBridge$Turns", "bridge", "I", false)
  | 3 => ("BeggarBridge$Turns", "days", "I", false)
  | 4 => ("BeggarBridge$Turns", "all", "I", false)
  | _ => ("BeggarBridge$Turns", "first", "I", false)
def fy9 : Nat → FieldType := fun k => match k with
  | 0 => .object "BeggarBridge$Thought"
  | 1 => .object "BeggarBridge$County"
  | 2 => .int
  | 3 => .int
  | 4 => .int
  | _ => .int
theorem fn9 : ∀ a, a < 6 → ∀ b, b < 6 → a ≠ b → (ft9 a).2.1 ≠ (ft9 b).2.1 := by decide +kernel
theorem fy9_ok : ∀ k, k < 6 → parseFieldDescriptor (ft9 k).2.2.1 = some (fy9 k) := by decide +kernel
theorem fw9 : ∀ w ∈ u_ws "BeggarBridge$Turns" ft9 6, w ∈ lw_tbl := fun w hw => by
  have h : u_ws "BeggarBridge$Turns" ft9 6 = ([278, 280, 282, 284, 286, 288] : List Nat).filterMap (fun i => lw_tbl[i]?) := by decide +kernel
  rw [h] at hw
  obtain ⟨i, -, hi⟩ := List.mem_filterMap.mp hw
  exact List.mem_of_getElem? hi
def ft10 : u_T := fun k => match k with
  | 0 => ("BeggarBridge$Ways", "now", "LBeggarBridge$County;", true)
  | _ => ("BeggarBridge$Ways", "cost", "[I", true)
def fy10 : Nat → FieldType := fun k => match k with
  | 0 => .object "BeggarBridge$County"
  | _ => .array .int
theorem fn10 : ∀ a, a < 2 → ∀ b, b < 2 → a ≠ b → (ft10 a).2.1 ≠ (ft10 b).2.1 := by decide +kernel
theorem fy10_ok : ∀ k, k < 2 → parseFieldDescriptor (ft10 k).2.2.1 = some (fy10 k) := by decide +kernel
theorem fw10 : ∀ w ∈ u_ws "BeggarBridge$Ways" ft10 2, w ∈ lw_tbl := fun w hw => by
  have h : u_ws "BeggarBridge$Ways" ft10 2 = ([318, 320] : List Nat).filterMap (fun i => lw_tbl[i]?) := by decide +kernel
  rw [h] at hw
  obtain ⟨i, -, hi⟩ := List.mem_filterMap.mp hw
  exact List.mem_of_getElem? hi
def ft11 : u_T := fun k => match k with
  | 0 => ("BeggarBridge", "county", "LBeggarBridge$County;", true)
  | 1 => ("BeggarBridge", "tape", "LBeggarBridge$Tape;", true)
  | 2 => ("BeggarBridge", "law", "LBeggarBridge$Law;", true)
  | 3 => ("BeggarBridge", "thought", "LBeggarBridge$Thought;", true)
  | 4 => ("BeggarBridge", "turns", "LBeggarBridge$Turns;", true)
  | 5 => ("BeggarBridge", "seats", "LBeggarBridge$Seats;", true)
  | 6 => ("BeggarBridge", "ways", "LBeggarBridge$Ways;", true)
  | 7 => ("BeggarBridge", "changes", "LBeggarBridge$Changes;", true)
  | 8 => ("BeggarBridge", "ledger", "LBeggarBridge$Ledger;", true)
  | 9 => ("BeggarBridge", "arches", "LBeggarBridge$Arches;", true)
  | _ => ("BeggarBridge", "shelves", "LBeggarBridge$Shelves;", true)
def fy11 : Nat → FieldType := fun k => match k with
  | 0 => .object "BeggarBridge$County"
  | 1 => .object "BeggarBridge$Tape"
  | 2 => .object "BeggarBridge$Law"
  | 3 => .object "BeggarBridge$Thought"
  | 4 => .object "BeggarBridge$Turns"
  | 5 => .object "BeggarBridge$Seats"
  | 6 => .object "BeggarBridge$Ways"
  | 7 => .object "BeggarBridge$Changes"
  | 8 => .object "BeggarBridge$Ledger"
  | 9 => .object "BeggarBridge$Arches"
  | _ => .object "BeggarBridge$Shelves"
theorem fn11 : ∀ a, a < 11 → ∀ b, b < 11 → a ≠ b → (ft11 a).2.1 ≠ (ft11 b).2.1 := by decide +kernel
theorem fy11_ok : ∀ k, k < 11 → parseFieldDescriptor (ft11 k).2.2.1 = some (fy11 k) := by decide +kernel
theorem fw11 : ∀ w ∈ u_ws "BeggarBridge" ft11 11, w ∈ lw_tbl := fun w hw => by
  have h : u_ws "BeggarBridge" ft11 11 = ([422, 424, 426, 428, 430, 432, 434, 436, 438, 440, 442] : List Nat).filterMap (fun i => lw_tbl[i]?) := by decide +kernel
  rw [h] at hw
  obtain ⟨i, -, hi⟩ := List.mem_filterMap.mp hw
  exact List.mem_of_getElem? hi
def ft12 : u_T := fun k => match k with
  | 0 => ("BeggarBridgeModel", "may", "[I", true)
  | 1 => ("BeggarBridgeModel", "changeAt", "[I", true)
  | 2 => ("BeggarBridgeModel", "changeWas", "[I", true)
  | 3 => ("BeggarBridgeModel", "changeIs", "[I", true)
  | 4 => ("BeggarBridgeModel", "keptMany", "I", false)
  | 5 => ("BeggarBridgeModel", "done", "I", false)
  | 6 => ("BeggarBridgeModel", "bridges", "I", false)
  | 7 => ("BeggarBridgeModel", "beggars", "I", false)
  | 8 => ("BeggarBridgeModel", "from", "[I", true)
  | 9 => ("BeggarBridgeModel", "to", "[I", true)
  | 10 => ("BeggarBridgeModel", "tape", "[I", true)
  | 11 => ("BeggarBridgeModel", "tapeMany", "I", false)
  | 12 => ("BeggarBridgeModel", "at", "I", false)
  | 13 => ("BeggarBridgeModel", "fault", "I", false)
  | 14 => ("BeggarBridgeModel", "opened", "I", false)
  | 15 => ("BeggarBridgeModel", "names", "[I", true)
  | 16 => ("BeggarBridgeModel", "readSigns", "[I", true)
  | 17 => ("BeggarBridgeModel", "readStarts", "[I", true)
  | 18 => ("BeggarBridgeModel", "readSplits", "[I", true)
  | 19 => ("BeggarBridgeModel", "readMany", "I", false)
  | 20 => ("BeggarBridgeModel", "readClauses", "I", false)
  | 21 => ("BeggarBridgeModel", "signs", "[I", true)
  | 22 => ("BeggarBridgeModel", "starts", "[I", true)
  | 23 => ("BeggarBridgeModel", "splits", "[I", true)
  | 24 => ("BeggarBridgeModel", "clauses", "I", false)
  | 25 => ("BeggarBridgeModel", "stack", "[I", true)
  | 26 => ("BeggarBridgeModel", "sound", "[I", true)
  | 27 => ("BeggarBridgeModel", "means", "[I", true)
  | 28 => ("BeggarBridgeModel", "seat", "[I", true)
  | 29 => ("BeggarBridgeModel", "dayThen", "I", false)
  | 30 => ("BeggarBridgeModel", "less", "[I", true)
  | 31 => ("BeggarBridgeModel", "mostFrom", "[I", true)
  | 32 => ("BeggarBridgeModel", "away", "[I", true)
  | 33 => ("BeggarBridgeModel", "did", "[I", true)
  | 34 => ("BeggarBridgeModel", "ledNow", "[I", true)
  | 35 => ("BeggarBridgeModel", "isKept", "Z", false)
  | 36 => ("BeggarBridgeModel", "imageBridges", "I", false)
  | 37 => ("BeggarBridgeModel", "imageBeggars", "I", false)
  | 38 => ("BeggarBridgeModel", "imageMay", "[I", true)
  | 39 => ("BeggarBridgeModel", "imageLed", "[I", true)
  | 40 => ("BeggarBridgeModel", "bodies", "I", false)
  | 41 => ("BeggarBridgeModel", "bodyKind", "[I", true)
  | 42 => ("BeggarBridgeModel", "trace", "[I", true)
  | 43 => ("BeggarBridgeModel", "ran", "I", false)
  | 44 => ("BeggarBridgeModel", "ownKind", "I", false)
  | 45 => ("BeggarBridgeModel", "ownNumber", "I", false)
  | 46 => ("BeggarBridgeModel", "shelf", "[I", true)
  | 47 => ("BeggarBridgeModel", "many", "[I", true)
  | 48 => ("BeggarBridgeModel", "items", "[J", true)
  | _ => ("BeggarBridgeModel", "carried", "[J", true)
def fy12 : Nat → FieldType := fun k => match k with
  | 0 => .array .int
  | 1 => .array .int
  | 2 => .array .int
  | 3 => .array .int
  | 4 => .int
  | 5 => .int
  | 6 => .int
  | 7 => .int
  | 8 => .array .int
  | 9 => .array .int
  | 10 => .array .int
  | 11 => .int
  | 12 => .int
  | 13 => .int
  | 14 => .int
  | 15 => .array .int
  | 16 => .array .int
  | 17 => .array .int
  | 18 => .array .int
  | 19 => .int
  | 20 => .int
  | 21 => .array .int
  | 22 => .array .int
  | 23 => .array .int
  | 24 => .int
  | 25 => .array .int
  | 26 => .array .int
  | 27 => .array .int
  | 28 => .array .int
  | 29 => .int
  | 30 => .array .int
  | 31 => .array .int
  | 32 => .array .int
  | 33 => .array .int
  | 34 => .array .int
  | 35 => .boolean
  | 36 => .int
  | 37 => .int
  | 38 => .array .int
  | 39 => .array .int
  | 40 => .int
  | 41 => .array .int
  | 42 => .array .int
  | 43 => .int
  | 44 => .int
  | 45 => .int
  | 46 => .array .int
  | 47 => .array .int
  | 48 => .array .long
  | _ => .array .long
theorem fn12 : ∀ a, a < 50 → ∀ b, b < 50 → a ≠ b → (ft12 a).2.1 ≠ (ft12 b).2.1 := by decide +kernel
theorem fy12_ok : ∀ k, k < 50 → parseFieldDescriptor (ft12 k).2.2.1 = some (fy12 k) := by decide +kernel
theorem fw12 : ∀ w ∈ u_ws "BeggarBridgeModel" ft12 50, w ∈ lw_tbl := fun w hw => by
  have h : u_ws "BeggarBridgeModel" ft12 50 = ([1171, 1173, 1175, 1177, 1179, 1181, 1183, 1185, 1187, 1189, 1191, 1193, 1195, 1197, 1199, 1201, 1203, 1205, 1207, 1209, 1211, 1213, 1215, 1217, 1219, 1221, 1223, 1225, 1227, 1229, 1231, 1233, 1235, 1237, 1239, 1241, 1243, 1245, 1247, 1249, 1251, 1253, 1255, 1257, 1259, 1261, 1263, 1265, 1267, 1269] : List Nat).filterMap (fun i => lw_tbl[i]?) := by decide +kernel
  rw [h] at hw
  obtain ⟨i, -, hi⟩ := List.mem_filterMap.mp hw
  exact List.mem_of_getElem? hi
def clsL : List vw_C := [("BeggarBridge$Arches", ft0, 4), ("BeggarBridge$Changes", ft1, 6), ("BeggarBridge$County", ft2, 15), ("BeggarBridge$Law", ft3, 5), ("BeggarBridge$Ledger", ft4, 4), ("BeggarBridge$Seats", ft5, 4), ("BeggarBridge$Shelves", ft6, 3), ("BeggarBridge$Tape", ft7, 7), ("BeggarBridge$Thought", ft8, 10), ("BeggarBridge$Turns", ft9, 6), ("BeggarBridge$Ways", ft10, 2), ("BeggarBridge", ft11, 11), ("BeggarBridgeModel", ft12, 50)]
/-- kinds of fields: 0 int, 1 boolean, 2 ints, 3 longs, 4 an object, 5 rows of longs -/
def fkL : List (List (Nat × Nat)) := [[(2, 50), (2, 24), (0, 0), (0, 0)],
  [(2, 40), (2, 40), (2, 40), (2, 40), (0, 0), (0, 0)],
  [(2, 8), (2, 8), (2, 8), (2, 8), (2, 8), (2, 9), (2, 9), (2, 9), (2, 9), (2, 8), (2, 8), (0, 0), (0, 0), (0, 0), (0, 0)],
  [(2, 128), (2, 128), (2, 128), (2, 6), (0, 0)],
  [(2, 5), (2, 5), (4, 2), (1, 0)],
  [(4, 2), (2, 8), (2, 9), (0, 0)],
  [(2, 6), (2, 6), (5, 6)],
  [(2, 120), (2, 128), (2, 128), (0, 0), (0, 0), (0, 0), (0, 0)],
  [(4, 2), (4, 3), (4, 2), (4, 2), (2, 8), (0, 0), (0, 0), (0, 0), (0, 0), (0, 0)],
  [(4, 8), (4, 2), (0, 0), (0, 0), (0, 0), (0, 0)],
  [(4, 2), (2, 8)],
  [(4, 2), (4, 7), (4, 3), (4, 8), (4, 9), (4, 5), (4, 10), (4, 1), (4, 4), (4, 0), (4, 6)],
  [(2, 62), (2, 40), (2, 40), (2, 40), (0, 0), (0, 0), (0, 0), (0, 0), (2, 8), (2, 8), (2, 120), (0, 0), (0, 0), (0, 0), (0, 0), (2, 6), (2, 120), (2, 121), (2, 121), (0, 0), (0, 0), (2, 120), (2, 121), (2, 121), (0, 0), (2, 121), (2, 8), (2, 9), (2, 9), (0, 0), (2, 8), (2, 4608), (2, 8), (2, 3), (2, 5), (1, 0), (0, 0), (0, 0), (2, 62), (2, 5), (0, 0), (2, 50), (2, 24), (0, 0), (0, 0), (0, 0), (2, 6), (2, 6), (3, 360), (3, 60)]]
def fk (ci k : Nat) : Nat × Nat := (fkL.getD ci []).getD k (9, 0)
def fR (c : Nat) : List (Nat × Nat × Nat × Bool × Nat) := match c with
  | 0 => [(11, 0, 0, false, 377), (15, 0, 1, false, 378), (18, 0, 2, false, 379), (39, 0, 3, false, 381)]
  | 1 => [(11, 1, 0, false, 329), (15, 1, 1, false, 330), (18, 1, 2, false, 331), (21, 1, 3, false, 332), (24, 1, 4, false, 333), (31, 1, 5, false, 335)]
  | 2 => [(9, 2, 0, false, 103), (15, 2, 1, false, 104), (18, 2, 2, false, 105), (21, 2, 3, false, 107), (24, 2, 4, false, 109), (27, 2, 5, false, 111), (30, 2, 6, false, 112), (33, 2, 7, false, 113), (36, 2, 8, false, 114), (39, 2, 9, false, 115), (42, 2, 10, false, 117), (45, 2, 13, false, 131), (49, 2, 11, false, 119), (52, 2, 12, false, 126), (66, 2, 14, false, 133)]
  | 3 => [(9, 3, 0, false, 204), (15, 3, 1, false, 205), (18, 3, 2, false, 206), (21, 3, 3, false, 207), (24, 7, 1, true, 174), (31, 7, 2, true, 176), (32, 7, 4, true, 179), (36, 3, 4, false, 208), (43, 2, 2, true, 106), (46, 2, 10, true, 118), (49, 2, 9, true, 116), (58, 2, 4, true, 110), (61, 2, 14, true, 132), (64, 2, 3, true, 108)]
  | 4 => [(11, 4, 0, false, 357), (15, 4, 1, false, 358), (21, 4, 2, false, 359), (35, 4, 3, false, 360), (39, 2, 11, true, 122), (51, 2, 12, true, 128)]
  | 5 => [(9, 5, 1, false, 298), (15, 5, 2, false, 299), (18, 5, 0, false, 297), (22, 2, 11, true, 120), (28, 2, 12, true, 125), (53, 5, 3, false, 300)]
  | 6 => [(11, 6, 0, false, 400), (15, 6, 1, false, 401), (20, 6, 2, false, 402)]
  | 7 => [(11, 7, 0, false, 172), (15, 7, 1, false, 173), (18, 7, 2, false, 175), (21, 7, 3, false, 177), (25, 7, 5, false, 181), (28, 7, 4, false, 180), (31, 7, 6, false, 182)]
  | 8 => [(12, 8, 2, false, 230), (18, 8, 3, false, 231), (21, 8, 4, false, 232), (25, 8, 0, false, 228), (28, 8, 1, false, 229), (52, 2, 11, true, 123), (60, 2, 12, true, 129), (71, 8, 5, false, 233), (81, 8, 6, false, 234), (84, 8, 7, false, 236), (104, 8, 8, false, 238), (107, 8, 9, false, 240)]
  | 9 => [(12, 9, 1, false, 272), (18, 9, 0, false, 271), (26, 9, 2, false, 273), (30, 9, 3, false, 274), (33, 9, 4, false, 275), (36, 9, 5, false, 276), (55, 2, 12, true, 127)]
  | 10 => [(9, 10, 1, false, 317), (15, 10, 0, false, 316), (36, 2, 11, true, 121)]
  | 11 => [(10, 11, 0, false, 411), (19, 11, 1, false, 412), (26, 11, 2, false, 413), (35, 11, 3, false, 414), (44, 11, 4, false, 415), (53, 11, 5, false, 416), (60, 11, 6, false, 417), (67, 11, 7, false, 418), (74, 11, 8, false, 419), (81, 11, 9, false, 420), (88, 11, 10, false, 421), (210, 2, 12, true, 130), (218, 8, 7, true, 237), (221, 8, 6, true, 235), (255, 8, 8, true, 239), (258, 8, 9, true, 241), (274, 9, 5, true, 277), (296, 4, 3, true, 361), (361, 2, 11, true, 124), (364, 7, 3, true, 178), (367, 1, 4, true, 334), (370, 0, 2, true, 380), (373, 0, 3, true, 382)]
  | 12 => [(9, 12, 0, false, 1121), (13, 12, 1, false, 1122), (16, 12, 2, false, 1123), (19, 12, 3, false, 1124), (22, 12, 8, false, 1129), (25, 12, 9, false, 1130), (28, 12, 10, false, 1131), (31, 12, 15, false, 1136), (34, 12, 16, false, 1137), (37, 12, 17, false, 1138), (40, 12, 18, false, 1139), (43, 12, 21, false, 1142), (46, 12, 22, false, 1143), (49, 12, 23, false, 1144), (52, 12, 25, false, 1146), (55, 12, 26, false, 1147), (58, 12, 27, false, 1148), (61, 12, 28, false, 1149), (64, 12, 30, false, 1151), (67, 12, 31, false, 1152), (70, 12, 32, false, 1153), (73, 12, 33, false, 1154), (76, 12, 34, false, 1155), (79, 12, 38, false, 1159), (82, 12, 39, false, 1160), (85, 12, 41, false, 1162), (88, 12, 42, false, 1163), (91, 12, 46, false, 1167), (94, 12, 47, false, 1168), (97, 12, 48, false, 1169), (101, 12, 49, false, 1170), (104, 12, 5, false, 1126), (108, 12, 4, false, 1125), (111, 12, 6, false, 1127), (118, 12, 7, false, 1128), (179, 12, 11, false, 1132), (182, 12, 12, false, 1133), (185, 12, 13, false, 1134), (192, 12, 19, false, 1140), (217, 12, 14, false, 1135), (233, 12, 20, false, 1141), (239, 12, 24, false, 1145), (249, 12, 29, false, 1150), (337, 12, 35, false, 1156), (341, 12, 36, false, 1157), (344, 12, 37, false, 1158), (347, 12, 40, false, 1161), (350, 12, 43, false, 1164), (359, 12, 45, false, 1166), (365, 12, 44, false, 1165)]
  | _ => []
-- statics: {0: [(29, 'BODIES', 1016), (26, 'ABOVE', 1021)]}
/-- calls: index in the pool, (method, kind 0 virtual 1 static 2 static of the nest 3 arraycopy, parameters, places of the words) -/
def mR (c : Nat) : List (Nat × Nat × Nat × Nat × Nat × Nat × Nat) := match c with
  | 0 => [(22, 0, 0, 1, 997, 998, 999), (32, 2, 0, 1, 1005, 1006, 1007), (36, 3, 1, 1, 1018, 1019, 0), (42, 9, 0, 4, 1001, 1003, 21), (46, 10, 0, 5, 1009, 1011, 22), (50, 4, 1, 2, 1013, 1014, 0), (54, 8, 0, 1, 1023, 1025, 23)]
  | 1 => [(28, 12, 0, 0, 541, 543, 4), (34, 999, 3, 5, 545, 0, 0), (40, 23, 0, 3, 972, 549, 550)]
  | 2 => [(55, 16, 0, 1, 523, 524, 525), (59, 15, 0, 1, 459, 460, 461), (62, 145, 2, 3, 456, 457, 0), (69, 21, 0, 1, 532, 534, 3), (74, 22, 0, 2, 899, 529, 530), (78, 147, 2, 2, 678, 640, 0), (81, 23, 0, 3, 900, 549, 550), (85, 999, 3, 5, 667, 0, 0), (91, 252, 1, 2, 627, 628, 0), (97, 27, 0, 1, 630, 632, 12), (101, 29, 0, 3, 697, 673, 674), (105, 998, 4, 2, 676, 0, 0), (110, 997, 5, 2, 677, 0, 0), (113, 36, 0, 2, 679, 635, 636), (119, 26, 0, 0, 868, 624, 625)]
  | 3 => [(25, 999, 3, 5, 613, 0, 0), (37, 15, 0, 1, 638, 460, 461), (52, 147, 2, 2, 639, 640, 0), (67, 37, 0, 0, 648, 650, 13), (71, 38, 1, 3, 652, 653, 0)]
  | 4 => [(25, 25, 0, 1, 952, 664, 665), (29, 999, 3, 5, 953, 0, 0), (43, 22, 0, 2, 962, 529, 530), (47, 23, 0, 3, 963, 549, 550)]
  | 5 => [(31, 22, 0, 2, 773, 529, 530), (35, 997, 5, 2, 774, 0, 0), (40, 33, 0, 1, 775, 731, 732), (44, 252, 1, 2, 780, 628, 0), (50, 998, 4, 2, 781, 0, 0), (56, 45, 0, 2, 782, 784, 15), (60, 44, 0, 2, 790, 777, 778), (63, 47, 0, 3, 791, 793, 16)]
  | 6 => [(23, 48, 0, 1, 492, 480, 481), (27, 50, 0, 1, 497, 499, 1), (30, 251, 1, 2, 1056, 1057, 0), (36, 49, 0, 1, 493, 494, 495), (39, 56, 0, 1, 488, 490, 0), (43, 51, 0, 1, 514, 503, 504), (46, 63, 1, 2, 1071, 1072, 0), (50, 60, 0, 3, 1095, 1088, 1089), (54, 999, 3, 5, 1096, 0, 0)]
  | 7 => [(34, 70, 0, 0, 572, 574, 5), (37, 68, 0, 0, 584, 586, 8), (41, 71, 0, 2, 576, 578, 6), (45, 69, 0, 2, 595, 597, 10), (48, 72, 0, 1, 580, 582, 7), (52, 77, 1, 1, 606, 607, 0), (56, 75, 1, 1, 588, 589, 0), (60, 74, 0, 0, 591, 593, 9), (63, 76, 1, 1, 599, 600, 0), (66, 73, 0, 1, 602, 604, 11)]
  | 8 => [(32, 25, 0, 1, 663, 664, 665), (36, 28, 0, 1, 693, 694, 695), (40, 81, 1, 2, 668, 669, 0), (44, 29, 0, 3, 672, 673, 674), (48, 22, 0, 2, 671, 529, 530), (56, 33, 0, 1, 730, 731, 732), (63, 23, 0, 3, 742, 549, 550), (67, 80, 0, 2, 743, 719, 720), (74, 79, 0, 3, 752, 660, 661), (78, 89, 1, 1, 753, 754, 0), (87, 15, 0, 1, 760, 460, 461), (91, 88, 0, 2, 761, 763, 14), (95, 51, 0, 1, 844, 503, 504), (100, 61, 0, 2, 845, 511, 512), (110, 90, 0, 4, 854, 841, 842), (115, 24, 0, 3, 911, 896, 897), (119, 30, 0, 0, 912, 699, 700), (123, 250, 1, 1, 913, 818, 0)]
  | 9 => [(22, 25, 0, 1, 877, 664, 665), (39, 79, 0, 3, 882, 660, 661), (45, 95, 0, 3, 883, 885, 19), (49, 96, 0, 3, 891, 893, 20), (52, 94, 0, 3, 887, 879, 880), (58, 22, 0, 2, 888, 529, 530), (62, 23, 0, 3, 889, 549, 550), (66, 998, 4, 2, 890, 0, 0), (71, 24, 0, 3, 895, 896, 897), (74, 997, 5, 2, 901, 0, 0)]
  | 10 => [(19, 145, 2, 3, 803, 457, 0), (24, 252, 1, 2, 805, 628, 0), (30, 30, 0, 0, 806, 699, 700), (40, 98, 0, 1, 807, 809, 17), (44, 22, 0, 2, 811, 529, 530), (48, 997, 5, 2, 812, 0, 0), (53, 250, 1, 1, 817, 818, 0), (59, 99, 0, 3, 823, 825, 18)]
  | 11 => [(92, 146, 1, 1, 449, 450, 0), (96, 20, 0, 2, 452, 453, 454), (100, 17, 0, 3, 463, 464, 465), (104, 18, 0, 4, 471, 472, 473), (108, 48, 0, 1, 479, 480, 481), (111, 145, 1, 3, 483, 457, 0), (115, 57, 0, 1, 484, 485, 486), (121, 51, 0, 1, 502, 503, 504), (124, 105, 0, 2, 506, 508, 2), (127, 61, 0, 2, 510, 511, 512), (131, 19, 0, 2, 519, 520, 521), (135, 22, 0, 2, 528, 529, 530), (139, 11, 0, 4, 537, 538, 539), (143, 23, 0, 3, 548, 549, 550), (147, 65, 0, 1, 560, 561, 562), (150, 67, 0, 0, 568, 569, 570), (154, 35, 0, 1, 609, 610, 611), (158, 66, 0, 0, 614, 615, 616), (161, 15, 0, 1, 622, 460, 461), (164, 26, 0, 0, 623, 624, 625), (167, 36, 0, 2, 634, 635, 636), (171, 79, 0, 3, 659, 660, 661), (175, 16, 0, 1, 680, 524, 525), (178, 83, 0, 2, 681, 682, 683), (181, 78, 0, 1, 689, 690, 691), (185, 30, 0, 0, 698, 699, 700), (188, 31, 0, 0, 702, 703, 704), (191, 32, 0, 0, 706, 707, 708), (194, 82, 0, 0, 714, 715, 716), (197, 80, 0, 2, 718, 719, 720), (200, 84, 0, 1, 726, 727, 728), (203, 85, 0, 1, 738, 739, 740), (206, 86, 0, 1, 748, 749, 750), (214, 87, 0, 2, 756, 757, 758), (224, 43, 0, 0, 769, 770, 771), (227, 44, 0, 2, 776, 777, 778), (230, 46, 0, 1, 786, 787, 788), (233, 97, 0, 2, 799, 800, 801), (236, 100, 0, 2, 813, 814, 815), (239, 250, 1, 1, 827, 818, 0), (244, 101, 0, 0, 832, 833, 834), (247, 90, 0, 4, 840, 841, 842), (251, 91, 0, 5, 850, 851, 852), (261, 33, 0, 1, 859, 731, 732), (264, 34, 0, 1, 864, 865, 866), (267, 93, 0, 4, 873, 874, 875), (271, 94, 0, 3, 878, 879, 880), (277, 92, 0, 5, 906, 907, 908), (281, 28, 0, 1, 918, 694, 695), (285, 40, 0, 2, 919, 920, 921), (287, 24, 0, 3, 931, 896, 897), (290, 39, 0, 1, 940, 941, 942), (293, 41, 0, 1, 948, 949, 950), (300, 42, 0, 1, 958, 959, 960), (303, 13, 0, 1, 968, 969, 970), (307, 14, 0, 1, 977, 978, 979), (310, 1, 0, 1, 985, 986, 987), (312, 7, 0, 3, 993, 994, 995), (315, 6, 0, 1, 1031, 1032, 1033), (318, 0, 0, 1, 1039, 998, 999), (319, 53, 0, 1, 1040, 1041, 1042), (322, 54, 0, 2, 1044, 1045, 1046), (325, 55, 0, 3, 1052, 1053, 1054), (328, 58, 0, 2, 1063, 1064, 1065), (331, 62, 0, 3, 1067, 1068, 1069), (339, 59, 0, 2, 1083, 1084, 1085), (342, 60, 0, 3, 1087, 1088, 1089), (345, 64, 0, 5, 1091, 1092, 1093), (349, 49, 0, 1, 1101, 494, 495), (352, 52, 0, 1, 1102, 1103, 1104), (355, 5, 0, 2, 1106, 1107, 1108), (358, 2, 0, 1, 1110, 1006, 1007), (376, 997, 5, 2, 642, 0, 0), (381, 998, 4, 2, 645, 0, 0)]
  | 12 => [(114, 148, 1, 3, 1291, 1292, 0), (123, 158, 1, 1, 1287, 1288, 0), (129, 156, 0, 1, 1309, 1311, 26), (132, 159, 1, 1, 1284, 1285, 0), (140, 160, 0, 1, 1305, 1307, 25), (143, 162, 0, 4, 1300, 1302, 24), (147, 163, 0, 4, 1313, 1315, 27), (151, 240, 1, 1, 1321, 1322, 0), (160, 157, 0, 1, 1336, 1338, 29), (165, 166, 0, 2, 1329, 1331, 28), (169, 167, 0, 2, 1341, 1343, 30), (173, 153, 0, 2, 1345, 1347, 31), (188, 171, 0, 0, 1391, 1393, 39), (195, 176, 0, 0, 1371, 1373, 34), (198, 173, 0, 1, 1403, 1405, 42), (201, 174, 0, 1, 1407, 1409, 43), (205, 177, 0, 0, 1375, 1377, 35), (208, 178, 0, 0, 1379, 1381, 36), (211, 179, 0, 0, 1383, 1385, 37), (214, 182, 0, 0, 1387, 1389, 38), (220, 172, 0, 0, 1399, 1401, 41), (223, 175, 0, 0, 1367, 1369, 33), (226, 181, 0, 1, 1395, 1397, 40), (229, 180, 1, 1, 1411, 1412, 0), (236, 183, 0, 0, 1363, 1365, 32), (242, 185, 1, 3, 1442, 1443, 0), (246, 186, 0, 2, 1438, 1440, 49), (252, 189, 0, 1, 1430, 1432, 47), (255, 190, 0, 2, 1426, 1428, 46), (259, 187, 0, 0, 1434, 1436, 48), (262, 191, 0, 1, 1422, 1424, 45), (265, 151, 1, 2, 1461, 1462, 0), (268, 152, 1, 1, 1464, 1465, 0), (271, 192, 0, 0, 1457, 1459, 51), (274, 188, 0, 0, 1418, 1420, 44), (279, 198, 1, 1, 1449, 1450, 0), (282, 193, 0, 1, 1453, 1455, 50), (285, 194, 0, 0, 1471, 1473, 52), (288, 195, 0, 0, 1475, 1477, 53), (291, 196, 0, 0, 1479, 1481, 54), (294, 201, 0, 1, 1487, 1489, 55), (299, 150, 1, 1, 1504, 1505, 0), (302, 206, 0, 2, 1511, 1513, 56), (305, 149, 1, 2, 1515, 1516, 0), (308, 207, 0, 2, 1518, 1520, 57), (312, 209, 0, 3, 1526, 1528, 58), (315, 212, 0, 1, 1539, 1541, 59), (318, 213, 0, 2, 1543, 1545, 60), (323, 216, 0, 1, 1556, 1558, 61), (326, 219, 0, 4, 1568, 1570, 62), (353, 233, 0, 1, 1624, 1626, 65), (356, 234, 0, 2, 1620, 1622, 64), (362, 235, 0, 2, 1628, 1630, 66), (368, 236, 0, 2, 1632, 1634, 67), (371, 237, 0, 2, 1636, 1638, 68), (374, 229, 0, 1, 1616, 1618, 63), (379, 243, 0, 2, 1656, 1658, 69), (382, 244, 1, 2, 1660, 1661, 0), (390, 230, 0, 1, 1676, 1678, 70), (393, 232, 1, 1, 1680, 1681, 0)]
  | 16 => [(13, 102, 0, 2, 445, 446, 447), (17, 161, 0, 2, 1280, 1281, 1282), (18, 103, 0, 2, 467, 468, 469), (21, 164, 0, 2, 1295, 1296, 1297), (22, 104, 0, 3, 475, 476, 477), (26, 165, 0, 3, 1317, 1318, 1319), (27, 106, 0, 3, 515, 516, 517), (30, 168, 0, 3, 1325, 1326, 1327), (31, 107, 0, 2, 552, 553, 554), (34, 169, 0, 2, 1350, 1351, 1352), (35, 108, 0, 1, 556, 557, 558), (39, 170, 0, 1, 1354, 1355, 1356), (40, 109, 0, 0, 564, 565, 566), (44, 184, 0, 0, 1359, 1360, 1361), (45, 110, 0, 1, 618, 619, 620), (48, 197, 0, 1, 1414, 1415, 1416), (49, 111, 0, 3, 655, 656, 657), (52, 199, 0, 3, 1445, 1446, 1447), (53, 112, 0, 2, 685, 686, 687), (56, 200, 0, 2, 1467, 1468, 1469), (57, 113, 0, 1, 710, 711, 712), (60, 202, 0, 1, 1483, 1484, 1485), (61, 114, 0, 1, 722, 723, 724), (64, 203, 0, 1, 1491, 1492, 1493), (65, 115, 0, 1, 734, 735, 736), (68, 204, 0, 1, 1495, 1496, 1497), (69, 116, 0, 2, 744, 745, 746), (72, 205, 0, 2, 1499, 1500, 1501), (73, 117, 0, 1, 765, 766, 767), (76, 208, 0, 1, 1507, 1508, 1509), (77, 118, 0, 2, 795, 796, 797), (80, 210, 0, 2, 1522, 1523, 1524), (81, 119, 0, 0, 828, 829, 830), (84, 211, 0, 0, 1531, 1532, 1533), (85, 120, 0, 2, 836, 837, 838), (88, 214, 0, 2, 1535, 1536, 1537), (89, 121, 0, 4, 846, 847, 848), (93, 215, 0, 4, 1547, 1548, 1549), (94, 122, 0, 2, 855, 856, 857), (97, 217, 0, 2, 1551, 1552, 1553), (98, 123, 0, 1, 860, 861, 862), (101, 218, 0, 1, 1560, 1561, 1562), (102, 124, 0, 3, 869, 870, 871), (105, 220, 0, 3, 1564, 1565, 1566), (106, 125, 0, 3, 902, 903, 904), (109, 221, 0, 3, 1572, 1573, 1574), (110, 126, 0, 0, 914, 915, 916), (113, 222, 0, 0, 1579, 1580, 1581), (114, 127, 0, 2, 923, 924, 925), (117, 223, 0, 2, 1583, 1584, 1585), (118, 128, 0, 2, 927, 928, 929), (121, 224, 0, 2, 1587, 1588, 1589), (122, 129, 0, 2, 932, 933, 934), (125, 225, 0, 2, 1591, 1592, 1593), (126, 130, 0, 1, 936, 937, 938), (129, 226, 0, 1, 1595, 1596, 1597), (130, 131, 0, 0, 944, 945, 946), (133, 227, 0, 0, 1600, 1601, 1602), (134, 132, 0, 0, 954, 955, 956), (137, 228, 0, 0, 1604, 1605, 1606), (138, 133, 0, 0, 964, 965, 966), (141, 154, 0, 0, 1272, 1273, 1274), (142, 134, 0, 0, 973, 974, 975), (145, 155, 0, 0, 1276, 1277, 1278), (146, 135, 0, 1, 981, 982, 983), (149, 231, 0, 1, 1608, 1609, 1610), (150, 136, 0, 3, 989, 990, 991), (153, 238, 0, 3, 1612, 1613, 1614), (154, 137, 0, 1, 1027, 1028, 1029), (157, 239, 0, 1, 1640, 1641, 1642), (158, 138, 0, 2, 1035, 1036, 1037), (161, 241, 0, 2, 1644, 1645, 1646), (162, 139, 0, 3, 1048, 1049, 1050), (165, 242, 0, 3, 1648, 1649, 1650), (168, 140, 0, 3, 1059, 1060, 1061), (172, 245, 0, 3, 1652, 1653, 1654), (173, 141, 0, 2, 1074, 1075, 1076), (177, 246, 0, 2, 1663, 1664, 1665), (178, 142, 0, 5, 1079, 1080, 1081), (182, 247, 0, 5, 1668, 1669, 1670), (183, 143, 0, 2, 1097, 1098, 1099), (186, 248, 0, 2, 1672, 1673, 1674), (187, 144, 0, 1, 1111, 1112, 1113), (190, 249, 0, 1, 1683, 1684, 1685)]
  | _ => []
def kR (c : Nat) : List (Nat × Int32 × Nat) := match c with
  | 2 => [(73, -2000000000, 536)]
  | 8 => [(114, 1103515245, 910)]
  | 10 => [(23, 1000000, 804)]
  | 11 => [(134, -2000000000, 527)]
  | 12 => [(176, -2000000000, 1349), (311, 1000000, 1530), (334, 1103515245, 1578)]
  | 13 => [(265, 1431655765, 820), (266, 858993459, 821), (267, 252645135, 822)]
  | _ => []
def lR (c : Nat) : List (Nat × Int64 × Nat) := match c with
  | 11 => [(119, 4, 501), (337, -9223372036854775808, 1078)]
  | 12 => [(121, 7, 1290), (127, -1, 1299), (136, 9, 1294), (138, 99, 1304), (154, 2, 1333), (156, 3, 1334), (158, 6, 1335), (163, 8, 1340), (177, 255, 1358), (277, 60, 1452), (297, 20, 1503), (321, 9999, 1555), (330, 30, 1576), (332, 12, 1577), (335, 4, 1599), (377, 5, 1324), (388, -9223372036854775808, 1667)]
  | 16 => [(166, 4294967295, 1687)]
  | _ => []
end
section
/-! generated by wip/whole/gen.py: the code of methods 0 .. 29 as data -/
/-- BeggarBridge$Arches.has(I)Z -/
def k0 : List (Nat × Instr × Nat) := [(0, .iload_n 1, 1), (1, .ifCond .lt 21, 3), (4, .iload_n 1, 1), (5, .aload_n 0, 1), (6, .getfield 18, 3), (9, .if_icmp .ge 13, 3), (12, .iload_n 1, 1), (13, .bipush 50, 2), (15, .if_icmp .ge 7, 3), (18, .iconst 1, 1), (19, .goto 4, 3), (22, .iconst 0, 1), (23, .ireturn, 1)]
theorem dk0 : ∀ r ∈ k0, decode prog_2_method_2_code r.1 = .ok r.2 := by decide +kernel
def me0 : MethodName × ByteArray × Nat × Option FieldType × Nat × List (Nat × Instr × Nat) := (⟨"BeggarBridge$Arches", "has", "(I)Z"⟩, prog_2_method_2_code, 2, (some .boolean), 0, k0)
/-- BeggarBridge$Arches.add(I)I -/
def k1 : List (Nat × Instr × Nat) := [(0, .aload_n 0, 1), (1, .getfield 18, 3), (4, .bipush 50, 2), (6, .if_icmp .lt 6, 3), (9, .bipush (-3), 2), (11, .ireturn, 1), (12, .aload_n 0, 1), (13, .getfield 11, 3), (16, .aload_n 0, 1), (17, .getfield 18, 3), (20, .iload_n 1, 1), (21, .iastore, 1), (22, .aload_n 0, 1), (23, .dup, 1), (24, .getfield 18, 3), (27, .dup_x1, 1), (28, .iconst 1, 1), (29, .iadd, 1), (30, .putfield 18, 3), (33, .ireturn, 1)]
theorem dk1 : ∀ r ∈ k1, decode prog_2_method_3_code r.1 = .ok r.2 := by decide +kernel
def me1 : MethodName × ByteArray × Nat × Option FieldType × Nat × List (Nat × Instr × Nat) := (⟨"BeggarBridge$Arches", "add", "(I)I"⟩, prog_2_method_3_code, 2, (some .int), 0, k1)
/-- BeggarBridge$Arches.kindOf(I)I -/
def k2 : List (Nat × Instr × Nat) := [(0, .aload_n 0, 1), (1, .iload_n 1, 1), (2, .invokevirtual 22, 3), (5, .ifCond .eq 12, 3), (8, .aload_n 0, 1), (9, .getfield 11, 3), (12, .iload_n 1, 1), (13, .iaload, 1), (14, .goto 4, 3), (17, .iconst (-1), 1), (18, .ireturn, 1)]
theorem dk2 : ∀ r ∈ k2, decode prog_2_method_4_code r.1 = .ok r.2 := by decide +kernel
def me2 : MethodName × ByteArray × Nat × Option FieldType × Nat × List (Nat × Instr × Nat) := (⟨"BeggarBridge$Arches", "kindOf", "(I)I"⟩, prog_2_method_4_code, 2, (some .int), 0, k2)
/-- BeggarBridge$Arches.above(I)I -/
def k3 : List (Nat × Instr × Nat) := [(0, .iload_n 0, 1), (1, .ifCond .lt 17, 3), (4, .iload_n 0, 1), (5, .bipush 8, 2), (7, .if_icmp .ge 11, 3), (10, .getstatic 26, 3), (13, .iload_n 0, 1), (14, .iaload, 1), (15, .goto 4, 3), (18, .iconst (-1), 1), (19, .ireturn, 1)]
theorem dk3 : ∀ r ∈ k3, decode prog_2_method_5_code r.1 = .ok r.2 := by decide +kernel
def me3 : MethodName × ByteArray × Nat × Option FieldType × Nat × List (Nat × Instr × Nat) := (⟨"BeggarBridge$Arches", "above", "(I)I"⟩, prog_2_method_5_code, 1, (some .int), 0, k3)
/-- BeggarBridge$Arches.ownBody(II)I -/
def k4 : List (Nat × Instr × Nat) := [(0, .iload_n 0, 1), (1, .ifCond .lt 30, 3), (4, .iload_n 0, 1), (5, .bipush 8, 2), (7, .if_icmp .ge 24, 3), (10, .iload_n 1, 1), (11, .ifCond .lt 20, 3), (14, .iload_n 1, 1), (15, .iconst 4, 1), (16, .if_icmp .ge 15, 3), (19, .getstatic 29, 3), (22, .iload_n 0, 1), (23, .iconst 4, 1), (24, .imul, 1), (25, .iload_n 1, 1), (26, .iadd, 1), (27, .iaload, 1), (28, .goto 4, 3), (31, .iconst 0, 1), (32, .ireturn, 1)]
theorem dk4 : ∀ r ∈ k4, decode prog_2_method_6_code r.1 = .ok r.2 := by decide +kernel
def me4 : MethodName × ByteArray × Nat × Option FieldType × Nat × List (Nat × Instr × Nat) := (⟨"BeggarBridge$Arches", "ownBody", "(II)I"⟩, prog_2_method_6_code, 2, (some .int), 0, k4)
/-- BeggarBridge$Arches.isUnder(II)Z -/
def k5 : List (Nat × Instr × Nat) := [(0, .aload_n 0, 1), (1, .iload_n 1, 1), (2, .invokevirtual 32, 3), (5, .istore_n 3, 1), (6, .iconst 0, 1), (7, .istore 4, 2), (9, .iload 4, 2), (11, .bipush 8, 2), (13, .if_icmp .ge 25, 3), (16, .iload_n 3, 1), (17, .ifCond .lt 21, 3), (20, .iload_n 3, 1), (21, .iload_n 2, 1), (22, .if_icmp .ne 5, 3), (25, .iconst 1, 1), (26, .ireturn, 1), (27, .iload_n 3, 1), (28, .invokestatic 36, 3), (31, .istore_n 3, 1), (32, .iinc 4 1, 3), (35, .goto (-26), 3), (38, .iconst 0, 1), (39, .ireturn, 1)]
theorem dk5 : ∀ r ∈ k5, decode prog_2_method_7_code r.1 = .ok r.2 := by decide +kernel
def me5 : MethodName × ByteArray × Nat × Option FieldType × Nat × List (Nat × Instr × Nat) := (⟨"BeggarBridge$Arches", "isUnder", "(II)Z"⟩, prog_2_method_7_code, 5, (some .boolean), 0, k5)
/-- BeggarBridge$Arches.begunAt(I)I -/
def k6 : List (Nat × Instr × Nat) := [(0, .iload_n 1, 1), (1, .ifCond .lt 26, 3), (4, .iload_n 1, 1), (5, .aload_n 0, 1), (6, .getfield 39, 3), (9, .if_icmp .ge 18, 3), (12, .iload_n 1, 1), (13, .bipush 24, 2), (15, .if_icmp .ge 12, 3), (18, .aload_n 0, 1), (19, .getfield 15, 3), (22, .iload_n 1, 1), (23, .iaload, 1), (24, .goto 4, 3), (27, .iconst (-1), 1), (28, .ireturn, 1)]
theorem dk6 : ∀ r ∈ k6, decode prog_2_method_8_code r.1 = .ok r.2 := by decide +kernel
def me6 : MethodName × ByteArray × Nat × Option FieldType × Nat × List (Nat × Instr × Nat) := (⟨"BeggarBridge$Arches", "begunAt", "(I)I"⟩, prog_2_method_8_code, 2, (some .int), 0, k6)
/-- BeggarBridge$Arches.perform(III)I -/
def k7 : List (Nat × Instr × Nat) := [(0, .aload_n 0, 1), (1, .iconst 0, 1), (2, .putfield 39, 3), (5, .aload_n 0, 1), (6, .iload_n 1, 1), (7, .invokevirtual 22, 3), (10, .ifCond .eq 23, 3), (13, .iload_n 2, 1), (14, .ifCond .lt 19, 3), (17, .iload_n 2, 1), (18, .iconst 3, 1), (19, .if_icmp .gt 14, 3), (22, .aload_n 0, 1), (23, .iload_n 1, 1), (24, .iload_n 2, 1), (25, .iload_n 3, 1), (26, .iconst 0, 1), (27, .invokevirtual 42, 3), (30, .goto 4, 3), (33, .iconst 0, 1), (34, .ireturn, 1)]
theorem dk7 : ∀ r ∈ k7, decode prog_2_method_9_code r.1 = .ok r.2 := by decide +kernel
def me7 : MethodName × ByteArray × Nat × Option FieldType × Nat × List (Nat × Instr × Nat) := (⟨"BeggarBridge$Arches", "perform", "(III)I"⟩, prog_2_method_9_code, 4, (some .int), 0, k7)
/-- BeggarBridge$Arches.note(I)V -/
def k8 : List (Nat × Instr × Nat) := [(0, .aload_n 0, 1), (1, .getfield 39, 3), (4, .ifCond .lt 22, 3), (7, .aload_n 0, 1), (8, .getfield 39, 3), (11, .bipush 24, 2), (13, .if_icmp .ge 13, 3), (16, .aload_n 0, 1), (17, .getfield 15, 3), (20, .aload_n 0, 1), (21, .getfield 39, 3), (24, .iload_n 1, 1), (25, .iastore, 1), (26, .aload_n 0, 1), (27, .dup, 1), (28, .getfield 39, 3), (31, .iconst 1, 1), (32, .iadd, 1), (33, .putfield 39, 3), (36, .return_, 1)]
theorem dk8 : ∀ r ∈ k8, decode prog_2_method_10_code r.1 = .ok r.2 := by decide +kernel
def me8 : MethodName × ByteArray × Nat × Option FieldType × Nat × List (Nat × Instr × Nat) := (⟨"BeggarBridge$Arches", "note", "(I)V"⟩, prog_2_method_10_code, 2, none, 0, k8)
/-- BeggarBridge$Arches.own(IIII)I -/
def k9 : List (Nat × Instr × Nat) := [(0, .aload_n 0, 1), (1, .iload_n 1, 1), (2, .aload_n 0, 1), (3, .iload_n 1, 1), (4, .invokevirtual 32, 3), (7, .iload_n 2, 1), (8, .iload_n 3, 1), (9, .iload 4, 2), (11, .invokevirtual 46, 3), (14, .ireturn, 1)]
theorem dk9 : ∀ r ∈ k9, decode prog_2_method_11_code r.1 = .ok r.2 := by decide +kernel
def me9 : MethodName × ByteArray × Nat × Option FieldType × Nat × List (Nat × Instr × Nat) := (⟨"BeggarBridge$Arches", "own", "(IIII)I"⟩, prog_2_method_11_code, 5, (some .int), 0, k9)
/-- BeggarBridge$Arches.run(IIIII)I -/
def k10_0 : List (Nat × Instr × Nat) := [(0, .iload_n 2, 1), (1, .istore 6, 2), (3, .iconst 0, 1), (4, .istore 7, 2), (6, .iload 7, 2), (8, .bipush 8, 2), (10, .if_icmp .ge 30, 3), (13, .iload 6, 2), (15, .ifCond .lt 25, 3), (18, .iload 6, 2), (20, .iload_n 3, 1), (21, .invokestatic 50, 3), (24, .ifCond .ne 16, 3), (27, .iload 6, 2), (29, .invokestatic 36, 3), (32, .istore 6, 2), (34, .iinc 7 1, 3), (37, .goto (-31), 3), (40, .iload 6, 2), (42, .iload_n 3, 1), (43, .invokestatic 50, 3), (46, .istore 7, 2), (48, .iload 7, 2), (50, .ifCond .eq 10, 3), (53, .iload 5, 2), (55, .bipush 40, 2), (57, .if_icmp .le 5, 3), (60, .iconst 0, 1), (61, .ireturn, 1), (62, .aload_n 0, 1), (63, .iload 7, 2), (65, .invokevirtual 54, 3), (68, .iload 5, 2), (70, .iconst 1, 1), (71, .iadd, 1), (72, .istore 8, 2), (74, .iload 6, 2), (76, .invokestatic 36, 3), (79, .istore 9, 2), (81, .iload 7, 2), (83, .lookupswitch 307 #[(1, 113), (2, 118), (10, 139), (11, 152), (20, 157), (30, 172), (40, 186), (41, 201), (50, 216), (60, 239), (70, 254), (80, 269), (81, 292)], 113), (196, .iload 4, 2), (198, .iload_n 1, 1), (199, .iadd, 1), (200, .ireturn, 1), (201, .aload_n 0, 1), (202, .iload_n 1, 1), (203, .iconst 1, 1), (204, .iload 4, 2), (206, .iload 8, 2), (208, .invokevirtual 42, 3), (211, .aload_n 0, 1), (212, .iload_n 1, 1), (213, .iconst 2, 1), (214, .iconst 1, 1), (215, .iload 8, 2), (217, .invokevirtual 42, 3), (220, .isub, 1), (221, .ireturn, 1), (222, .aload_n 0, 1)]
theorem dk10_0 : ∀ r ∈ k10_0, decode prog_2_method_12_code r.1 = .ok r.2 := by decide +kernel
def k10_1 : List (Nat × Instr × Nat) := [(223, .iload_n 1, 1), (224, .iconst 0, 1), (225, .iload 4, 2), (227, .iload 8, 2), (229, .invokevirtual 42, 3), (232, .iconst 2, 1), (233, .imul, 1), (234, .ireturn, 1), (235, .iload 4, 2), (237, .iload_n 1, 1), (238, .ixor, 1), (239, .ireturn, 1), (240, .aload_n 0, 1), (241, .iload_n 1, 1), (242, .iload 9, 2), (244, .iload_n 3, 1), (245, .iload 4, 2), (247, .iload 8, 2), (249, .invokevirtual 46, 3), (252, .iconst 3, 1), (253, .iadd, 1), (254, .ireturn, 1), (255, .aload_n 0, 1), (256, .iload_n 1, 1), (257, .iload 9, 2), (259, .iload_n 3, 1), (260, .iload 4, 2), (262, .iload 8, 2), (264, .invokevirtual 46, 3), (267, .ineg, 1), (268, .ireturn, 1), (269, .aload_n 0, 1), (270, .iload_n 1, 1), (271, .iload 9, 2), (273, .iload_n 3, 1), (274, .iload 4, 2), (276, .iload 8, 2), (278, .invokevirtual 46, 3), (281, .iconst 3, 1), (282, .imul, 1), (283, .ireturn, 1), (284, .aload_n 0, 1), (285, .iload_n 1, 1), (286, .iload 9, 2), (288, .iload_n 3, 1), (289, .iload 4, 2), (291, .iconst 1, 1), (292, .iadd, 1), (293, .iload 8, 2), (295, .invokevirtual 46, 3), (298, .ireturn, 1), (299, .aload_n 0, 1), (300, .iload_n 1, 1), (301, .iload 9, 2), (303, .iload_n 3, 1), (304, .iload 4, 2), (306, .iload 8, 2), (308, .invokevirtual 46, 3), (311, .aload_n 0, 1), (312, .iload_n 1, 1)]
theorem dk10_1 : ∀ r ∈ k10_1, decode prog_2_method_12_code r.1 = .ok r.2 := by decide +kernel
def k10_2 : List (Nat × Instr × Nat) := [(313, .iconst 0, 1), (314, .iconst 2, 1), (315, .iload 8, 2), (317, .invokevirtual 42, 3), (320, .isub, 1), (321, .ireturn, 1), (322, .aload_n 0, 1), (323, .iload_n 1, 1), (324, .iload 9, 2), (326, .iload_n 3, 1), (327, .iload 4, 2), (329, .iload 8, 2), (331, .invokevirtual 46, 3), (334, .iconst 5, 1), (335, .ixor, 1), (336, .ireturn, 1), (337, .aload_n 0, 1), (338, .iload_n 1, 1), (339, .iload 9, 2), (341, .iload_n 3, 1), (342, .iload 4, 2), (344, .iload 8, 2), (346, .invokevirtual 46, 3), (349, .iconst 2, 1), (350, .imul, 1), (351, .ireturn, 1), (352, .aload_n 0, 1), (353, .iload_n 1, 1), (354, .iload 9, 2), (356, .iload_n 3, 1), (357, .iload 4, 2), (359, .iload 8, 2), (361, .invokevirtual 46, 3), (364, .aload_n 0, 1), (365, .iload_n 1, 1), (366, .iconst 2, 1), (367, .iconst 2, 1), (368, .iload 8, 2), (370, .invokevirtual 42, 3), (373, .iadd, 1), (374, .ireturn, 1), (375, .aload_n 0, 1), (376, .iload_n 1, 1), (377, .iload 9, 2), (379, .iload_n 3, 1), (380, .iload 4, 2), (382, .iload 8, 2), (384, .invokevirtual 46, 3), (387, .iconst 1, 1), (388, .isub, 1), (389, .ireturn, 1), (390, .iconst 0, 1), (391, .ireturn, 1)]
theorem dk10_2 : ∀ r ∈ k10_2, decode prog_2_method_12_code r.1 = .ok r.2 := by decide +kernel
def k10 : List (Nat × Instr × Nat) := k10_0 ++ (k10_1 ++ (k10_2))
theorem dk10 : ∀ r ∈ k10, decode prog_2_method_12_code r.1 = .ok r.2 := List.forall_mem_append.mpr ⟨dk10_0, List.forall_mem_append.mpr ⟨dk10_1, dk10_2⟩⟩
def me10 : MethodName × ByteArray × Nat × Option FieldType × Nat × List (Nat × Instr × Nat) := (⟨"BeggarBridge$Arches", "run", "(IIIII)I"⟩, prog_2_method_12_code, 10, (some .int), 0, k10)
/-- BeggarBridge$Changes.add(IIII)V -/
def k11 : List (Nat × Instr × Nat) := [(0, .aload_n 0, 1), (1, .getfield 24, 3), (4, .bipush 40, 2), (6, .if_icmp .lt 7, 3), (9, .aload_n 0, 1), (10, .invokevirtual 28, 3), (13, .aload_n 0, 1), (14, .getfield 11, 3), (17, .aload_n 0, 1), (18, .getfield 24, 3), (21, .iload_n 1, 1), (22, .iastore, 1), (23, .aload_n 0, 1), (24, .getfield 15, 3), (27, .aload_n 0, 1), (28, .getfield 24, 3), (31, .iload_n 2, 1), (32, .iastore, 1), (33, .aload_n 0, 1), (34, .getfield 18, 3), (37, .aload_n 0, 1), (38, .getfield 24, 3), (41, .iload_n 3, 1), (42, .iastore, 1), (43, .aload_n 0, 1), (44, .getfield 21, 3), (47, .aload_n 0, 1), (48, .getfield 24, 3), (51, .iload 4, 2), (53, .iastore, 1), (54, .aload_n 0, 1), (55, .dup, 1), (56, .getfield 24, 3), (59, .iconst 1, 1), (60, .iadd, 1), (61, .putfield 24, 3), (64, .aload_n 0, 1), (65, .aload_n 0, 1), (66, .getfield 24, 3), (69, .putfield 31, 3), (72, .return_, 1)]
theorem dk11 : ∀ r ∈ k11, decode prog_3_method_2_code r.1 = .ok r.2 := by decide +kernel
def me11 : MethodName × ByteArray × Nat × Option FieldType × Nat × List (Nat × Instr × Nat) := (⟨"BeggarBridge$Changes", "add", "(IIII)V"⟩, prog_3_method_2_code, 5, none, 1, k11)
/-- BeggarBridge$Changes.dropOldest()V -/
def k12 : List (Nat × Instr × Nat) := [(0, .aload_n 0, 1), (1, .getfield 11, 3), (4, .iconst 1, 1), (5, .aload_n 0, 1), (6, .getfield 11, 3), (9, .iconst 0, 1), (10, .bipush 39, 2), (12, .invokestatic 34, 3), (15, .aload_n 0, 1), (16, .getfield 15, 3), (19, .iconst 1, 1), (20, .aload_n 0, 1), (21, .getfield 15, 3), (24, .iconst 0, 1), (25, .bipush 39, 2), (27, .invokestatic 34, 3), (30, .aload_n 0, 1), (31, .getfield 18, 3), (34, .iconst 1, 1), (35, .aload_n 0, 1), (36, .getfield 18, 3), (39, .iconst 0, 1), (40, .bipush 39, 2), (42, .invokestatic 34, 3), (45, .aload_n 0, 1), (46, .getfield 21, 3), (49, .iconst 1, 1), (50, .aload_n 0, 1), (51, .getfield 21, 3), (54, .iconst 0, 1), (55, .bipush 39, 2), (57, .invokestatic 34, 3), (60, .aload_n 0, 1), (61, .bipush 39, 2), (63, .putfield 24, 3), (66, .return_, 1)]
theorem dk12 : ∀ r ∈ k12, decode prog_3_method_3_code r.1 = .ok r.2 := by decide +kernel
def me12 : MethodName × ByteArray × Nat × Option FieldType × Nat × List (Nat × Instr × Nat) := (⟨"BeggarBridge$Changes", "dropOldest", "()V"⟩, prog_3_method_3_code, 1, none, 1, k12)
/-- BeggarBridge$Changes.takeBack(LBeggarBridge$County;)I -/
def k13 : List (Nat × Instr × Nat) := [(0, .aload_n 0, 1), (1, .getfield 24, 3), (4, .ifCond .le 12, 3), (7, .aload_n 0, 1), (8, .getfield 24, 3), (11, .bipush 40, 2), (13, .if_icmp .le 6, 3), (16, .bipush (-5), 2), (18, .ireturn, 1), (19, .aload_n 0, 1), (20, .dup, 1), (21, .getfield 24, 3), (24, .iconst 1, 1), (25, .isub, 1), (26, .putfield 24, 3), (29, .aload_n 1, 1), (30, .aload_n 0, 1), (31, .getfield 11, 3), (34, .aload_n 0, 1), (35, .getfield 24, 3), (38, .iaload, 1), (39, .aload_n 0, 1), (40, .getfield 15, 3), (43, .aload_n 0, 1), (44, .getfield 24, 3), (47, .iaload, 1), (48, .aload_n 0, 1), (49, .getfield 18, 3), (52, .aload_n 0, 1), (53, .getfield 24, 3), (56, .iaload, 1), (57, .invokevirtual 40, 3), (60, .aload_n 0, 1), (61, .getfield 24, 3), (64, .ireturn, 1)]
theorem dk13 : ∀ r ∈ k13, decode prog_3_method_4_code r.1 = .ok r.2 := by decide +kernel
def me13 : MethodName × ByteArray × Nat × Option FieldType × Nat × List (Nat × Instr × Nat) := (⟨"BeggarBridge$Changes", "takeBack", "(LBeggarBridge$County;)I"⟩, prog_3_method_4_code, 2, (some .int), 1, k13)
/-- BeggarBridge$Changes.doAgain(LBeggarBridge$County;)I -/
def k14 : List (Nat × Instr × Nat) := [(0, .aload_n 0, 1), (1, .getfield 24, 3), (4, .aload_n 0, 1), (5, .getfield 31, 3), (8, .if_icmp .ge 19, 3), (11, .aload_n 0, 1), (12, .getfield 24, 3), (15, .ifCond .lt 12, 3), (18, .aload_n 0, 1), (19, .getfield 24, 3), (22, .bipush 40, 2), (24, .if_icmp .lt 6, 3), (27, .bipush (-5), 2), (29, .ireturn, 1), (30, .aload_n 1, 1), (31, .aload_n 0, 1), (32, .getfield 11, 3), (35, .aload_n 0, 1), (36, .getfield 24, 3), (39, .iaload, 1), (40, .aload_n 0, 1), (41, .getfield 15, 3), (44, .aload_n 0, 1), (45, .getfield 24, 3), (48, .iaload, 1), (49, .aload_n 0, 1), (50, .getfield 21, 3), (53, .aload_n 0, 1), (54, .getfield 24, 3), (57, .iaload, 1), (58, .invokevirtual 40, 3), (61, .aload_n 0, 1), (62, .dup, 1), (63, .getfield 24, 3), (66, .iconst 1, 1), (67, .iadd, 1), (68, .putfield 24, 3), (71, .aload_n 0, 1), (72, .getfield 31, 3), (75, .aload_n 0, 1), (76, .getfield 24, 3), (79, .isub, 1), (80, .ireturn, 1)]
theorem dk14 : ∀ r ∈ k14, decode prog_3_method_5_code r.1 = .ok r.2 := by decide +kernel
def me14 : MethodName × ByteArray × Nat × Option FieldType × Nat × List (Nat × Instr × Nat) := (⟨"BeggarBridge$Changes", "doAgain", "(LBeggarBridge$County;)I"⟩, prog_3_method_5_code, 2, (some .int), 1, k14)
/-- BeggarBridge$County.hasBridge(I)Z -/
def k15 : List (Nat × Instr × Nat) := [(0, .iload_n 1, 1), (1, .ifCond .lt 21, 3), (4, .iload_n 1, 1), (5, .aload_n 0, 1), (6, .getfield 49, 3), (9, .if_icmp .ge 13, 3), (12, .iload_n 1, 1), (13, .bipush 8, 2), (15, .if_icmp .ge 7, 3), (18, .iconst 1, 1), (19, .goto 4, 3), (22, .iconst 0, 1), (23, .ireturn, 1)]
theorem dk15 : ∀ r ∈ k15, decode prog_4_method_2_code r.1 = .ok r.2 := by decide +kernel
def me15 : MethodName × ByteArray × Nat × Option FieldType × Nat × List (Nat × Instr × Nat) := (⟨"BeggarBridge$County", "hasBridge", "(I)Z"⟩, prog_4_method_2_code, 2, (some .boolean), 2, k15)
/-- BeggarBridge$County.hasBeggar(I)Z -/
def k16 : List (Nat × Instr × Nat) := [(0, .iload_n 1, 1), (1, .ifCond .lt 21, 3), (4, .iload_n 1, 1), (5, .aload_n 0, 1), (6, .getfield 52, 3), (9, .if_icmp .ge 13, 3), (12, .iload_n 1, 1), (13, .bipush 9, 2), (15, .if_icmp .ge 7, 3), (18, .iconst 1, 1), (19, .goto 4, 3), (22, .iconst 0, 1), (23, .ireturn, 1)]
theorem dk16 : ∀ r ∈ k16, decode prog_4_method_3_code r.1 = .ok r.2 := by decide +kernel
def me16 : MethodName × ByteArray × Nat × Option FieldType × Nat × List (Nat × Instr × Nat) := (⟨"BeggarBridge$County", "hasBeggar", "(I)Z"⟩, prog_4_method_3_code, 2, (some .boolean), 2, k16)
/-- BeggarBridge$County.addBridge(III)I -/
def k17 : List (Nat × Instr × Nat) := [(0, .aload_n 0, 1), (1, .getfield 49, 3), (4, .bipush 8, 2), (6, .if_icmp .lt 6, 3), (9, .bipush (-3), 2), (11, .ireturn, 1), (12, .aload_n 0, 1), (13, .dup, 1), (14, .getfield 49, 3), (17, .dup_x1, 1), (18, .iconst 1, 1), (19, .iadd, 1), (20, .putfield 49, 3), (23, .istore 4, 2), (25, .aload_n 0, 1), (26, .getfield 9, 3), (29, .iload 4, 2), (31, .iload_n 1, 1), (32, .iastore, 1), (33, .aload_n 0, 1), (34, .getfield 15, 3), (37, .iload 4, 2), (39, .iload_n 2, 1), (40, .iastore, 1), (41, .aload_n 0, 1), (42, .getfield 18, 3), (45, .iload 4, 2), (47, .iload_n 3, 1), (48, .iastore, 1), (49, .aload_n 0, 1), (50, .getfield 21, 3), (53, .iload 4, 2), (55, .bipush 99, 2), (57, .iastore, 1), (58, .aload_n 0, 1), (59, .getfield 24, 3), (62, .iload 4, 2), (64, .iconst 3, 1), (65, .iastore, 1), (66, .iload 4, 2), (68, .ireturn, 1)]
theorem dk17 : ∀ r ∈ k17, decode prog_4_method_4_code r.1 = .ok r.2 := by decide +kernel
def me17 : MethodName × ByteArray × Nat × Option FieldType × Nat × List (Nat × Instr × Nat) := (⟨"BeggarBridge$County", "addBridge", "(III)I"⟩, prog_4_method_4_code, 5, (some .int), 2, k17)
/-- BeggarBridge$County.addBeggar(IIII)I -/
def k18 : List (Nat × Instr × Nat) := [(0, .aload_n 0, 1), (1, .getfield 52, 3), (4, .bipush 9, 2), (6, .if_icmp .lt 6, 3), (9, .bipush (-3), 2), (11, .ireturn, 1), (12, .aload_n 0, 1), (13, .dup, 1), (14, .getfield 52, 3), (17, .dup_x1, 1), (18, .iconst 1, 1), (19, .iadd, 1), (20, .putfield 52, 3), (23, .istore 5, 2), (25, .aload_n 0, 1), (26, .getfield 27, 3), (29, .iload 5, 2), (31, .iload_n 1, 1), (32, .iastore, 1), (33, .aload_n 0, 1), (34, .getfield 30, 3), (37, .iload 5, 2), (39, .iload_n 2, 1), (40, .iastore, 1), (41, .aload_n 0, 1), (42, .getfield 33, 3), (45, .iload 5, 2), (47, .iload_n 3, 1), (48, .iastore, 1), (49, .aload_n 0, 1), (50, .getfield 36, 3), (53, .iload 5, 2), (55, .iload 4, 2), (57, .iastore, 1), (58, .iload 5, 2), (60, .ireturn, 1)]
theorem dk18 : ∀ r ∈ k18, decode prog_4_method_5_code r.1 = .ok r.2 := by decide +kernel
def me18 : MethodName × ByteArray × Nat × Option FieldType × Nat × List (Nat × Instr × Nat) := (⟨"BeggarBridge$County", "addBeggar", "(IIII)I"⟩, prog_4_method_5_code, 6, (some .int), 2, k18)
/-- BeggarBridge$County.holds(II)Z -/
def k19 : List (Nat × Instr × Nat) := [(0, .iload_n 2, 1), (1, .bipush 7, 2), (3, .if_icmp .eq 9, 3), (6, .iload_n 2, 1), (7, .bipush 8, 2), (9, .if_icmp .ne 13, 3), (12, .iload_n 1, 1), (13, .ifCond .ne 7, 3), (16, .iconst 1, 1), (17, .goto 4, 3), (20, .iconst 0, 1), (21, .ireturn, 1), (22, .iload_n 2, 1), (23, .iconst 3, 1), (24, .if_icmp .lt 15, 3), (27, .iload_n 2, 1), (28, .bipush 6, 2), (30, .if_icmp .gt 9, 3), (33, .aload_n 0, 1), (34, .iload_n 1, 1), (35, .invokevirtual 55, 3), (38, .ireturn, 1), (39, .iload_n 2, 1), (40, .ifCond .lt 21, 3), (43, .iload_n 2, 1), (44, .bipush 10, 2), (46, .if_icmp .gt 15, 3), (49, .aload_n 0, 1), (50, .iload_n 1, 1), (51, .invokevirtual 59, 3), (54, .ifCond .eq 7, 3), (57, .iconst 1, 1), (58, .goto 4, 3), (61, .iconst 0, 1), (62, .ireturn, 1)]
theorem dk19 : ∀ r ∈ k19, decode prog_4_method_6_code r.1 = .ok r.2 := by decide +kernel
def me19 : MethodName × ByteArray × Nat × Option FieldType × Nat × List (Nat × Instr × Nat) := (⟨"BeggarBridge$County", "holds", "(II)Z"⟩, prog_4_method_6_code, 3, (some .boolean), 2, k19)
/-- BeggarBridge$County.allows(II)Z -/
def k20 : List (Nat × Instr × Nat) := [(0, .iload_n 1, 1), (1, .tableswitch 102 0 8 #[51, 59, 67, 59, 67, 67, 75, 59, 94], 51), (52, .iload_n 2, 1), (53, .iconst 1, 1), (54, .bipush 9, 2), (56, .invokestatic 62, 3), (59, .ireturn, 1), (60, .iload_n 2, 1), (61, .iconst 0, 1), (62, .bipush 99, 2), (64, .invokestatic 62, 3), (67, .ireturn, 1), (68, .iload_n 2, 1), (69, .iconst 0, 1), (70, .bipush 9, 2), (72, .invokestatic 62, 3), (75, .ireturn, 1), (76, .iload_n 2, 1), (77, .iconst (-1), 1), (78, .if_icmp .eq 11, 3), (81, .aload_n 0, 1), (82, .iload_n 2, 1), (83, .invokevirtual 59, 3), (86, .ifCond .eq 7, 3), (89, .iconst 1, 1), (90, .goto 4, 3), (93, .iconst 0, 1), (94, .ireturn, 1), (95, .iload_n 2, 1), (96, .iconst 0, 1), (97, .bipush 6, 2), (99, .invokestatic 62, 3), (102, .ireturn, 1), (103, .iconst 0, 1), (104, .ireturn, 1)]
theorem dk20 : ∀ r ∈ k20, decode prog_4_method_7_code r.1 = .ok r.2 := by decide +kernel
def me20 : MethodName × ByteArray × Nat × Option FieldType × Nat × List (Nat × Instr × Nat) := (⟨"BeggarBridge$County", "allows", "(II)Z"⟩, prog_4_method_7_code, 3, (some .boolean), 2, k20)
/-- BeggarBridge$County.numbersOf(I)[I -/
def k21 : List (Nat × Instr × Nat) := [(0, .iload_n 1, 1), (1, .tableswitch 104 0 10 #[59, 64, 69, 74, 79, 84, 89, 104, 104, 94, 99], 59), (60, .aload_n 0, 1), (61, .getfield 18, 3), (64, .areturn, 1), (65, .aload_n 0, 1), (66, .getfield 21, 3), (69, .areturn, 1), (70, .aload_n 0, 1), (71, .getfield 24, 3), (74, .areturn, 1), (75, .aload_n 0, 1), (76, .getfield 27, 3), (79, .areturn, 1), (80, .aload_n 0, 1), (81, .getfield 30, 3), (84, .areturn, 1), (85, .aload_n 0, 1), (86, .getfield 33, 3), (89, .areturn, 1), (90, .aload_n 0, 1), (91, .getfield 36, 3), (94, .areturn, 1), (95, .aload_n 0, 1), (96, .getfield 9, 3), (99, .areturn, 1), (100, .aload_n 0, 1), (101, .getfield 15, 3), (104, .areturn, 1), (105, .aconst_null, 1), (106, .areturn, 1)]
theorem dk21 : ∀ r ∈ k21, decode prog_4_method_8_code r.1 = .ok r.2 := by decide +kernel
def me21 : MethodName × ByteArray × Nat × Option FieldType × Nat × List (Nat × Instr × Nat) := (⟨"BeggarBridge$County", "numbersOf", "(I)[I"⟩, prog_4_method_8_code, 2, (some (.array .int)), 2, k21)
/-- BeggarBridge$County.read(II)I -/
def k22 : List (Nat × Instr × Nat) := [(0, .iload_n 2, 1), (1, .bipush 7, 2), (3, .if_icmp .ne 8, 3), (6, .aload_n 0, 1), (7, .getfield 45, 3), (10, .ireturn, 1), (11, .iload_n 2, 1), (12, .bipush 8, 2), (14, .if_icmp .ne 8, 3), (17, .aload_n 0, 1), (18, .getfield 66, 3), (21, .ireturn, 1), (22, .aload_n 0, 1), (23, .iload_n 2, 1), (24, .invokevirtual 69, 3), (27, .astore_n 3, 1), (28, .aload_n 3, 1), (29, .ifnull 13, 3), (32, .iload_n 1, 1), (33, .ifCond .lt 9, 3), (36, .iload_n 1, 1), (37, .aload_n 3, 1), (38, .arraylength, 1), (39, .if_icmp .lt 8, 3), (42, .ldc 73, 2), (44, .goto 6, 3), (47, .aload_n 3, 1), (48, .iload_n 1, 1), (49, .iaload, 1), (50, .ireturn, 1)]
theorem dk22 : ∀ r ∈ k22, decode prog_4_method_9_code r.1 = .ok r.2 := by decide +kernel
def me22 : MethodName × ByteArray × Nat × Option FieldType × Nat × List (Nat × Instr × Nat) := (⟨"BeggarBridge$County", "read", "(II)I"⟩, prog_4_method_9_code, 4, (some .int), 2, k22)
/-- BeggarBridge$County.write(III)V -/
def k23 : List (Nat × Instr × Nat) := [(0, .iload_n 2, 1), (1, .bipush 7, 2), (3, .if_icmp .ne 11, 3), (6, .aload_n 0, 1), (7, .iload_n 3, 1), (8, .putfield 45, 3), (11, .goto 45, 3), (14, .iload_n 2, 1), (15, .bipush 8, 2), (17, .if_icmp .ne 11, 3), (20, .aload_n 0, 1), (21, .iload_n 3, 1), (22, .putfield 66, 3), (25, .goto 31, 3), (28, .aload_n 0, 1), (29, .iload_n 2, 1), (30, .invokevirtual 69, 3), (33, .astore 4, 2), (35, .aload 4, 2), (37, .ifnull 19, 3), (40, .iload_n 1, 1), (41, .ifCond .lt 15, 3), (44, .iload_n 1, 1), (45, .aload 4, 2), (47, .arraylength, 1), (48, .if_icmp .ge 8, 3), (51, .aload 4, 2), (53, .iload_n 1, 1), (54, .iload_n 3, 1), (55, .iastore, 1), (56, .return_, 1)]
theorem dk23 : ∀ r ∈ k23, decode prog_4_method_10_code r.1 = .ok r.2 := by decide +kernel
def me23 : MethodName × ByteArray × Nat × Option FieldType × Nat × List (Nat × Instr × Nat) := (⟨"BeggarBridge$County", "write", "(III)V"⟩, prog_4_method_10_code, 5, none, 2, k23)
/-- BeggarBridge$County.raise(III)I -/
def k24 : List (Nat × Instr × Nat) := [(0, .aload_n 0, 1), (1, .iload_n 1, 1), (2, .iload_n 2, 1), (3, .aload_n 0, 1), (4, .iload_n 1, 1), (5, .iload_n 2, 1), (6, .invokevirtual 74, 3), (9, .iload_n 3, 1), (10, .iadd, 1), (11, .bipush 99, 2), (13, .invokestatic 78, 3), (16, .invokevirtual 81, 3), (19, .aload_n 0, 1), (20, .iload_n 1, 1), (21, .iload_n 2, 1), (22, .invokevirtual 74, 3), (25, .ireturn, 1)]
theorem dk24 : ∀ r ∈ k24, decode prog_4_method_11_code r.1 = .ok r.2 := by decide +kernel
def me24 : MethodName × ByteArray × Nat × Option FieldType × Nat × List (Nat × Instr × Nat) := (⟨"BeggarBridge$County", "raise", "(III)I"⟩, prog_4_method_11_code, 4, (some .int), 2, k24)
/-- BeggarBridge$County.copyOf(LBeggarBridge$County;)V -/
def k25_0 : List (Nat × Instr × Nat) := [(0, .aload_n 1, 1), (1, .getfield 9, 3), (4, .iconst 0, 1), (5, .aload_n 0, 1), (6, .getfield 9, 3), (9, .iconst 0, 1), (10, .bipush 8, 2), (12, .invokestatic 85, 3), (15, .aload_n 1, 1), (16, .getfield 15, 3), (19, .iconst 0, 1), (20, .aload_n 0, 1), (21, .getfield 15, 3), (24, .iconst 0, 1), (25, .bipush 8, 2), (27, .invokestatic 85, 3), (30, .aload_n 1, 1), (31, .getfield 18, 3), (34, .iconst 0, 1), (35, .aload_n 0, 1), (36, .getfield 18, 3), (39, .iconst 0, 1), (40, .bipush 8, 2), (42, .invokestatic 85, 3), (45, .aload_n 1, 1), (46, .getfield 21, 3), (49, .iconst 0, 1), (50, .aload_n 0, 1), (51, .getfield 21, 3), (54, .iconst 0, 1), (55, .bipush 8, 2), (57, .invokestatic 85, 3), (60, .aload_n 1, 1), (61, .getfield 24, 3), (64, .iconst 0, 1), (65, .aload_n 0, 1), (66, .getfield 24, 3), (69, .iconst 0, 1), (70, .bipush 8, 2), (72, .invokestatic 85, 3), (75, .aload_n 1, 1), (76, .getfield 27, 3), (79, .iconst 0, 1), (80, .aload_n 0, 1), (81, .getfield 27, 3), (84, .iconst 0, 1), (85, .bipush 9, 2), (87, .invokestatic 85, 3), (90, .aload_n 1, 1), (91, .getfield 30, 3), (94, .iconst 0, 1), (95, .aload_n 0, 1), (96, .getfield 30, 3), (99, .iconst 0, 1), (100, .bipush 9, 2), (102, .invokestatic 85, 3), (105, .aload_n 1, 1), (106, .getfield 33, 3), (109, .iconst 0, 1), (110, .aload_n 0, 1)]
theorem dk25_0 : ∀ r ∈ k25_0, decode prog_4_method_12_code r.1 = .ok r.2 := by decide +kernel
def k25_1 : List (Nat × Instr × Nat) := [(111, .getfield 33, 3), (114, .iconst 0, 1), (115, .bipush 9, 2), (117, .invokestatic 85, 3), (120, .aload_n 1, 1), (121, .getfield 36, 3), (124, .iconst 0, 1), (125, .aload_n 0, 1), (126, .getfield 36, 3), (129, .iconst 0, 1), (130, .bipush 9, 2), (132, .invokestatic 85, 3), (135, .aload_n 0, 1), (136, .aload_n 1, 1), (137, .getfield 49, 3), (140, .putfield 49, 3), (143, .aload_n 0, 1), (144, .aload_n 1, 1), (145, .getfield 52, 3), (148, .putfield 52, 3), (151, .aload_n 0, 1), (152, .aload_n 1, 1), (153, .getfield 45, 3), (156, .putfield 45, 3), (159, .aload_n 0, 1), (160, .aload_n 1, 1), (161, .getfield 66, 3), (164, .putfield 66, 3), (167, .return_, 1)]
theorem dk25_1 : ∀ r ∈ k25_1, decode prog_4_method_12_code r.1 = .ok r.2 := by decide +kernel
def k25 : List (Nat × Instr × Nat) := k25_0 ++ (k25_1)
theorem dk25 : ∀ r ∈ k25, decode prog_4_method_12_code r.1 = .ok r.2 := List.forall_mem_append.mpr ⟨dk25_0, dk25_1⟩
def me25 : MethodName × ByteArray × Nat × Option FieldType × Nat × List (Nat × Instr × Nat) := (⟨"BeggarBridge$County", "copyOf", "(LBeggarBridge$County;)V"⟩, prog_4_method_12_code, 2, none, 2, k25)
/-- BeggarBridge$County.tally()V -/
def k26 : List (Nat × Instr × Nat) := [(0, .aload_n 0, 1), (1, .getfield 39, 3), (4, .iconst 0, 1), (5, .invokestatic 91, 3), (8, .aload_n 0, 1), (9, .getfield 42, 3), (12, .iconst 0, 1), (13, .invokestatic 91, 3), (16, .iconst 0, 1), (17, .istore_n 1, 1), (18, .iload_n 1, 1), (19, .aload_n 0, 1), (20, .getfield 52, 3), (23, .if_icmp .ge 20, 3), (26, .iload_n 1, 1), (27, .bipush 9, 2), (29, .if_icmp .ge 14, 3), (32, .aload_n 0, 1), (33, .iload_n 1, 1), (34, .invokevirtual 97, 3), (37, .iinc 1 1, 3), (40, .goto (-22), 3), (43, .return_, 1)]
theorem dk26 : ∀ r ∈ k26, decode prog_4_method_13_code r.1 = .ok r.2 := by decide +kernel
def me26 : MethodName × ByteArray × Nat × Option FieldType × Nat × List (Nat × Instr × Nat) := (⟨"BeggarBridge$County", "tally", "()V"⟩, prog_4_method_13_code, 2, none, 2, k26)
/-- BeggarBridge$County.tallyOne(I)V -/
def k27 : List (Nat × Instr × Nat) := [(0, .aload_n 0, 1), (1, .getfield 36, 3), (4, .iload_n 1, 1), (5, .iaload, 1), (6, .istore_n 2, 1), (7, .aload_n 0, 1), (8, .iload_n 2, 1), (9, .invokevirtual 59, 3), (12, .ifCond .eq 39, 3), (15, .aload_n 0, 1), (16, .getfield 27, 3), (19, .iload_n 1, 1), (20, .iaload, 1), (21, .aload_n 0, 1), (22, .getfield 45, 3), (25, .if_icmp .gt 16, 3), (28, .aload_n 0, 1), (29, .getfield 39, 3), (32, .iload_n 2, 1), (33, .dup2, 1), (34, .iaload, 1), (35, .iconst 1, 1), (36, .iadd, 1), (37, .iastore, 1), (38, .goto 13, 3), (41, .aload_n 0, 1), (42, .getfield 42, 3), (45, .iload_n 2, 1), (46, .dup2, 1), (47, .iaload, 1), (48, .iconst 1, 1), (49, .iadd, 1), (50, .iastore, 1), (51, .return_, 1)]
theorem dk27 : ∀ r ∈ k27, decode prog_4_method_14_code r.1 = .ok r.2 := by decide +kernel
def me27 : MethodName × ByteArray × Nat × Option FieldType × Nat × List (Nat × Instr × Nat) := (⟨"BeggarBridge$County", "tallyOne", "(I)V"⟩, prog_4_method_14_code, 3, none, 2, k27)
/-- BeggarBridge$County.passDay(LBeggarBridge$Law;)V -/
def k28 : List (Nat × Instr × Nat) := [(0, .aload_n 0, 1), (1, .iconst (-1), 1), (2, .aload_n 0, 1), (3, .getfield 49, 3), (6, .aload_n 1, 1), (7, .invokevirtual 101, 3), (10, .return_, 1)]
theorem dk28 : ∀ r ∈ k28, decode prog_4_method_15_code r.1 = .ok r.2 := by decide +kernel
def me28 : MethodName × ByteArray × Nat × Option FieldType × Nat × List (Nat × Instr × Nat) := (⟨"BeggarBridge$County", "passDay", "(LBeggarBridge$Law;)V"⟩, prog_4_method_15_code, 2, none, 2, k28)
/-- BeggarBridge$County.passDayAt(IILBeggarBridge$Law;)V -/
def k29_0 : List (Nat × Instr × Nat) := [(0, .iload_n 1, 1), (1, .iconst 0, 1), (2, .invokestatic 105, 3), (5, .istore 4, 2), (7, .iload 4, 2), (9, .iload_n 2, 1), (10, .if_icmp .ge 34, 3), (13, .iload 4, 2), (15, .aload_n 0, 1), (16, .getfield 49, 3), (19, .if_icmp .ge 25, 3), (22, .aload_n 0, 1), (23, .getfield 39, 3), (26, .iload 4, 2), (28, .iconst 0, 1), (29, .iastore, 1), (30, .aload_n 0, 1), (31, .getfield 42, 3), (34, .iload 4, 2), (36, .iconst 0, 1), (37, .iastore, 1), (38, .iinc 4 1, 3), (41, .goto (-34), 3), (44, .iconst 0, 1), (45, .istore 4, 2), (47, .iload 4, 2), (49, .aload_n 0, 1), (50, .getfield 52, 3), (53, .if_icmp .ge 115, 3), (56, .iload 4, 2), (58, .bipush 9, 2), (60, .if_icmp .ge 108, 3), (63, .aload_n 0, 1), (64, .getfield 36, 3), (67, .iload 4, 2), (69, .iaload, 1), (70, .istore 5, 2), (72, .iload 5, 2), (74, .iload_n 1, 1), (75, .if_icmp .lt 87, 3), (78, .iload 5, 2), (80, .iload_n 2, 1), (81, .if_icmp .ge 81, 3), (84, .aload_n 0, 1), (85, .iload 4, 2), (87, .invokevirtual 97, 3), (90, .aload_n 0, 1), (91, .iload 5, 2), (93, .invokevirtual 59, 3), (96, .ifCond .eq 33, 3), (99, .aload_n 0, 1), (100, .getfield 21, 3), (103, .iload 5, 2), (105, .iaload, 1), (106, .ifCond .le 23, 3), (109, .aload_n 0, 1), (110, .getfield 24, 3), (113, .iload 5, 2), (115, .iaload, 1), (116, .aload_n 0, 1)]
theorem dk29_0 : ∀ r ∈ k29_0, decode prog_4_method_16_code r.1 = .ok r.2 := by decide +kernel
def k29_1 : List (Nat × Instr × Nat) := [(117, .getfield 30, 3), (120, .iload 4, 2), (122, .iaload, 1), (123, .invokestatic 110, 3), (126, .goto 4, 3), (129, .iconst 0, 1), (130, .istore 6, 2), (132, .aload_n 0, 1), (133, .getfield 27, 3), (136, .iload 4, 2), (138, .aload_n 0, 1), (139, .getfield 27, 3), (142, .iload 4, 2), (144, .iaload, 1), (145, .iload 6, 2), (147, .iadd, 1), (148, .aload_n 0, 1), (149, .getfield 33, 3), (152, .iload 4, 2), (154, .iaload, 1), (155, .isub, 1), (156, .bipush 99, 2), (158, .invokestatic 78, 3), (161, .iastore, 1), (162, .iinc 4 1, 3), (165, .goto (-118), 3), (168, .iload_n 1, 1), (169, .iconst 0, 1), (170, .invokestatic 105, 3), (173, .istore 4, 2), (175, .iload 4, 2), (177, .iload_n 2, 1), (178, .if_icmp .ge 54, 3), (181, .iload 4, 2), (183, .aload_n 0, 1), (184, .getfield 49, 3), (187, .if_icmp .ge 45, 3), (190, .aload_n 0, 1), (191, .getfield 21, 3), (194, .iload 4, 2), (196, .iaload, 1), (197, .ifCond .le 29, 3), (200, .aload_n 0, 1), (201, .getfield 21, 3), (204, .iload 4, 2), (206, .iconst 0, 1), (207, .aload_n 0, 1), (208, .getfield 21, 3), (211, .iload 4, 2), (213, .iaload, 1), (214, .aload_n 3, 1), (215, .aload_n 0, 1), (216, .iload 4, 2), (218, .invokevirtual 113, 3), (221, .isub, 1), (222, .invokestatic 105, 3), (225, .iastore, 1), (226, .iinc 4 1, 3), (229, .goto (-54), 3), (232, .aload_n 0, 1)]
theorem dk29_1 : ∀ r ∈ k29_1, decode prog_4_method_16_code r.1 = .ok r.2 := by decide +kernel
def k29_2 : List (Nat × Instr × Nat) := [(233, .aload_n 0, 1), (234, .getfield 66, 3), (237, .bipush 6, 2), (239, .if_icmp .lt 7, 3), (242, .iconst 0, 1), (243, .goto 9, 3), (246, .aload_n 0, 1), (247, .getfield 66, 3), (250, .iconst 1, 1), (251, .iadd, 1), (252, .putfield 66, 3), (255, .return_, 1)]
theorem dk29_2 : ∀ r ∈ k29_2, decode prog_4_method_16_code r.1 = .ok r.2 := by decide +kernel
def k29 : List (Nat × Instr × Nat) := k29_0 ++ (k29_1 ++ (k29_2))
theorem dk29 : ∀ r ∈ k29, decode prog_4_method_16_code r.1 = .ok r.2 := List.forall_mem_append.mpr ⟨dk29_0, List.forall_mem_append.mpr ⟨dk29_1, dk29_2⟩⟩
def me29 : MethodName × ByteArray × Nat × Option FieldType × Nat × List (Nat × Instr × Nat) := (⟨"BeggarBridge$County", "passDayAt", "(IILBeggarBridge$Law;)V"⟩, prog_4_method_16_code, 7, none, 2, k29)
end
section
/-! generated by wip/whole/gen.py: the code of methods 30 .. 59 as data -/
/-- BeggarBridge$County.standing()I -/
def k30 : List (Nat × Instr × Nat) := [(0, .iconst 0, 1), (1, .istore_n 1, 1), (2, .iconst 0, 1), (3, .istore_n 2, 1), (4, .iload_n 2, 1), (5, .aload_n 0, 1), (6, .getfield 49, 3), (9, .if_icmp .ge 24, 3), (12, .aload_n 0, 1), (13, .getfield 21, 3), (16, .iload_n 2, 1), (17, .iaload, 1), (18, .ifCond .le 9, 3), (21, .iload_n 1, 1), (22, .iconst 1, 1), (23, .iload_n 2, 1), (24, .ishl, 1), (25, .ior, 1), (26, .istore_n 1, 1), (27, .iinc 2 1, 3), (30, .goto (-26), 3), (33, .iload_n 1, 1), (34, .ireturn, 1)]
theorem dk30 : ∀ r ∈ k30, decode prog_4_method_17_code r.1 = .ok r.2 := by decide +kernel
def me30 : MethodName × ByteArray × Nat × Option FieldType × Nat × List (Nat × Instr × Nat) := (⟨"BeggarBridge$County", "standing", "()I"⟩, prog_4_method_17_code, 3, (some .int), 2, k30)
/-- BeggarBridge$County.soundOfAll()I -/
def k31 : List (Nat × Instr × Nat) := [(0, .iconst 0, 1), (1, .istore_n 1, 1), (2, .iconst 0, 1), (3, .istore_n 2, 1), (4, .iload_n 2, 1), (5, .aload_n 0, 1), (6, .getfield 49, 3), (9, .if_icmp .ge 18, 3), (12, .iload_n 1, 1), (13, .aload_n 0, 1), (14, .getfield 21, 3), (17, .iload_n 2, 1), (18, .iaload, 1), (19, .iadd, 1), (20, .istore_n 1, 1), (21, .iinc 2 1, 3), (24, .goto (-20), 3), (27, .iload_n 1, 1), (28, .ireturn, 1)]
theorem dk31 : ∀ r ∈ k31, decode prog_4_method_18_code r.1 = .ok r.2 := by decide +kernel
def me31 : MethodName × ByteArray × Nat × Option FieldType × Nat × List (Nat × Instr × Nat) := (⟨"BeggarBridge$County", "soundOfAll", "()I"⟩, prog_4_method_18_code, 3, (some .int), 2, k31)
/-- BeggarBridge$County.haveNothing()I -/
def k32 : List (Nat × Instr × Nat) := [(0, .iconst 0, 1), (1, .istore_n 1, 1), (2, .iconst 0, 1), (3, .istore_n 2, 1), (4, .iload_n 2, 1), (5, .aload_n 0, 1), (6, .getfield 52, 3), (9, .if_icmp .ge 28, 3), (12, .aload_n 0, 1), (13, .getfield 27, 3), (16, .iload_n 2, 1), (17, .iaload, 1), (18, .aload_n 0, 1), (19, .getfield 45, 3), (22, .if_icmp .gt 9, 3), (25, .iload_n 1, 1), (26, .iconst 1, 1), (27, .iload_n 2, 1), (28, .ishl, 1), (29, .ior, 1), (30, .istore_n 1, 1), (31, .iinc 2 1, 3), (34, .goto (-30), 3), (37, .iload_n 1, 1), (38, .ireturn, 1)]
theorem dk32 : ∀ r ∈ k32, decode prog_4_method_19_code r.1 = .ok r.2 := by decide +kernel
def me32 : MethodName × ByteArray × Nat × Option FieldType × Nat × List (Nat × Instr × Nat) := (⟨"BeggarBridge$County", "haveNothing", "()I"⟩, prog_4_method_19_code, 3, (some .int), 2, k32)
/-- BeggarBridge$County.savings(I)I -/
def k33 : List (Nat × Instr × Nat) := [(0, .aload_n 0, 1), (1, .iload_n 1, 1), (2, .invokevirtual 55, 3), (5, .ifCond .eq 21, 3), (8, .iconst 0, 1), (9, .aload_n 0, 1), (10, .getfield 27, 3), (13, .iload_n 1, 1), (14, .iaload, 1), (15, .aload_n 0, 1), (16, .getfield 45, 3), (19, .isub, 1), (20, .invokestatic 105, 3), (23, .goto 4, 3), (26, .iconst 0, 1), (27, .ireturn, 1)]
theorem dk33 : ∀ r ∈ k33, decode prog_4_method_20_code r.1 = .ok r.2 := by decide +kernel
def me33 : MethodName × ByteArray × Nat × Option FieldType × Nat × List (Nat × Instr × Nat) := (⟨"BeggarBridge$County", "savings", "(I)I"⟩, prog_4_method_20_code, 2, (some .int), 2, k33)
/-- BeggarBridge$County.claimAt(I)I -/
def k34 : List (Nat × Instr × Nat) := [(0, .aload_n 0, 1), (1, .invokevirtual 119, 3), (4, .iconst 0, 1), (5, .istore_n 2, 1), (6, .iconst 0, 1), (7, .istore_n 3, 1), (8, .iload_n 3, 1), (9, .aload_n 0, 1), (10, .getfield 49, 3), (13, .if_icmp .ge 48, 3), (16, .aload_n 0, 1), (17, .getfield 9, 3), (20, .iload_n 3, 1), (21, .iaload, 1), (22, .iload_n 1, 1), (23, .if_icmp .eq 13, 3), (26, .aload_n 0, 1), (27, .getfield 15, 3), (30, .iload_n 3, 1), (31, .iaload, 1), (32, .iload_n 1, 1), (33, .if_icmp .ne 22, 3), (36, .iload_n 2, 1), (37, .bipush 10, 2), (39, .aload_n 0, 1), (40, .getfield 39, 3), (43, .iload_n 3, 1), (44, .iaload, 1), (45, .imul, 1), (46, .aload_n 0, 1), (47, .getfield 42, 3), (50, .iload_n 3, 1), (51, .iaload, 1), (52, .iadd, 1), (53, .iadd, 1), (54, .istore_n 2, 1), (55, .iinc 3 1, 3), (58, .goto (-50), 3), (61, .iload_n 2, 1), (62, .ireturn, 1)]
theorem dk34 : ∀ r ∈ k34, decode prog_4_method_21_code r.1 = .ok r.2 := by decide +kernel
def me34 : MethodName × ByteArray × Nat × Option FieldType × Nat × List (Nat × Instr × Nat) := (⟨"BeggarBridge$County", "claimAt", "(I)I"⟩, prog_4_method_21_code, 4, (some .int), 2, k34)
/-- BeggarBridge$Law.become(LBeggarBridge$Tape;)V -/
def k35 : List (Nat × Instr × Nat) := [(0, .aload_n 1, 1), (1, .getfield 24, 3), (4, .iconst 0, 1), (5, .aload_n 0, 1), (6, .getfield 9, 3), (9, .iconst 0, 1), (10, .sipush 128, 3), (13, .invokestatic 25, 3), (16, .aload_n 1, 1), (17, .getfield 31, 3), (20, .iconst 0, 1), (21, .aload_n 0, 1), (22, .getfield 15, 3), (25, .iconst 0, 1), (26, .sipush 128, 3), (29, .invokestatic 25, 3), (32, .aload_n 0, 1), (33, .aload_n 1, 1), (34, .getfield 32, 3), (37, .putfield 36, 3), (40, .return_, 1)]
theorem dk35 : ∀ r ∈ k35, decode prog_5_method_2_code r.1 = .ok r.2 := by decide +kernel
def me35 : MethodName × ByteArray × Nat × Option FieldType × Nat × List (Nat × Instr × Nat) := (⟨"BeggarBridge$Law", "become", "(LBeggarBridge$Tape;)V"⟩, prog_5_method_2_code, 2, none, 3, k35)
/-- BeggarBridge$Law.crackOn(LBeggarBridge$County;I)I -/
def k36_0 : List (Nat × Instr × Nat) := [(0, .aload_n 1, 1), (1, .iload_n 2, 1), (2, .invokevirtual 37, 3), (5, .ifCond .ne 5, 3), (8, .iconst 0, 1), (9, .ireturn, 1), (10, .aload_n 0, 1), (11, .getfield 36, 3), (14, .ifCond .ne 35, 3), (17, .aload_n 1, 1), (18, .getfield 43, 3), (21, .iload_n 2, 1), (22, .iaload, 1), (23, .iconst 2, 1), (24, .idiv, 1), (25, .iconst 2, 1), (26, .aload_n 1, 1), (27, .getfield 46, 3), (30, .iload_n 2, 1), (31, .iaload, 1), (32, .imul, 1), (33, .iadd, 1), (34, .iconst 4, 1), (35, .aload_n 1, 1), (36, .getfield 49, 3), (39, .iload_n 2, 1), (40, .iaload, 1), (41, .imul, 1), (42, .isub, 1), (43, .bipush 20, 2), (45, .invokestatic 52, 3), (48, .ireturn, 1), (49, .aload_n 0, 1), (50, .getfield 21, 3), (53, .iconst 0, 1), (54, .aload_n 1, 1), (55, .getfield 43, 3), (58, .iload_n 2, 1), (59, .iaload, 1), (60, .iastore, 1), (61, .aload_n 0, 1), (62, .getfield 21, 3), (65, .iconst 1, 1), (66, .aload_n 1, 1), (67, .getfield 49, 3), (70, .iload_n 2, 1), (71, .iaload, 1), (72, .iastore, 1), (73, .aload_n 0, 1), (74, .getfield 21, 3), (77, .iconst 2, 1), (78, .aload_n 1, 1), (79, .getfield 46, 3), (82, .iload_n 2, 1), (83, .iaload, 1), (84, .iastore, 1), (85, .aload_n 0, 1), (86, .getfield 21, 3), (89, .iconst 3, 1), (90, .aload_n 1, 1)]
theorem dk36_0 : ∀ r ∈ k36_0, decode prog_5_method_3_code r.1 = .ok r.2 := by decide +kernel
def k36_1 : List (Nat × Instr × Nat) := [(91, .getfield 58, 3), (94, .iload_n 2, 1), (95, .iaload, 1), (96, .iastore, 1), (97, .aload_n 0, 1), (98, .getfield 21, 3), (101, .iconst 4, 1), (102, .aload_n 1, 1), (103, .getfield 61, 3), (106, .iastore, 1), (107, .aload_n 0, 1), (108, .getfield 21, 3), (111, .iconst 5, 1), (112, .aload_n 1, 1), (113, .getfield 64, 3), (116, .iload_n 2, 1), (117, .iaload, 1), (118, .iastore, 1), (119, .aload_n 0, 1), (120, .invokevirtual 67, 3), (123, .bipush 20, 2), (125, .invokestatic 52, 3), (128, .ireturn, 1)]
theorem dk36_1 : ∀ r ∈ k36_1, decode prog_5_method_3_code r.1 = .ok r.2 := by decide +kernel
def k36 : List (Nat × Instr × Nat) := k36_0 ++ (k36_1)
theorem dk36 : ∀ r ∈ k36, decode prog_5_method_3_code r.1 = .ok r.2 := List.forall_mem_append.mpr ⟨dk36_0, dk36_1⟩
def me36 : MethodName × ByteArray × Nat × Option FieldType × Nat × List (Nat × Instr × Nat) := (⟨"BeggarBridge$Law", "crackOn", "(LBeggarBridge$County;I)I"⟩, prog_5_method_3_code, 3, (some .int), 3, k36)
/-- BeggarBridge$Law.worth()I -/
def k37_0 : List (Nat × Instr × Nat) := [(0, .iconst 0, 1), (1, .istore_n 1, 1), (2, .iconst 0, 1), (3, .istore_n 2, 1), (4, .iconst 0, 1), (5, .istore_n 3, 1), (6, .iload_n 3, 1), (7, .sipush 128, 3), (10, .if_icmp .ge 264, 3), (13, .iload_n 2, 1), (14, .ifCond .lt 260, 3), (17, .iload_n 2, 1), (18, .aload_n 0, 1), (19, .getfield 36, 3), (22, .if_icmp .ge 252, 3), (25, .iload_n 2, 1), (26, .sipush 128, 3), (29, .if_icmp .ge 245, 3), (32, .aload_n 0, 1), (33, .getfield 9, 3), (36, .iload_n 2, 1), (37, .iaload, 1), (38, .istore 4, 2), (40, .aload_n 0, 1), (41, .getfield 15, 3), (44, .iload_n 2, 1), (45, .iaload, 1), (46, .istore 5, 2), (48, .iinc 2 1, 3), (51, .iload 4, 2), (53, .ifCond .eq 9, 3), (56, .iload 4, 2), (58, .iconst 1, 1), (59, .if_icmp .ne 66, 3), (62, .iload_n 1, 1), (63, .sipush 128, 3), (66, .if_icmp .lt 5, 3), (69, .iconst 0, 1), (70, .ireturn, 1), (71, .iload 4, 2), (73, .iconst 1, 1), (74, .if_icmp .ne 19, 3), (77, .iload 5, 2), (79, .ifCond .lt 14, 3), (82, .iload 5, 2), (84, .bipush 6, 2), (86, .if_icmp .ge 7, 3), (89, .iconst 1, 1), (90, .goto 4, 3), (93, .iconst 0, 1), (94, .istore 6, 2), (96, .aload_n 0, 1), (97, .getfield 18, 3), (100, .iload_n 1, 1), (101, .iinc 1 1, 3), (104, .iload 6, 2), (106, .ifCond .eq 13, 3), (109, .aload_n 0, 1), (110, .getfield 21, 3), (113, .iload 5, 2)]
theorem dk37_0 : ∀ r ∈ k37_0, decode prog_5_method_4_code r.1 = .ok r.2 := by decide +kernel
def k37_1 : List (Nat × Instr × Nat) := [(115, .iaload, 1), (116, .goto 5, 3), (119, .iload 5, 2), (121, .iastore, 1), (122, .goto 146, 3), (125, .iload_n 1, 1), (126, .ifCond .gt 5, 3), (129, .iconst 0, 1), (130, .ireturn, 1), (131, .iload 4, 2), (133, .iconst 2, 1), (134, .if_icmp .ne 12, 3), (137, .aload_n 0, 1), (138, .getfield 18, 3), (141, .iload_n 1, 1), (142, .iconst 1, 1), (143, .isub, 1), (144, .iaload, 1), (145, .ireturn, 1), (146, .iload 4, 2), (148, .iconst 3, 1), (149, .if_icmp .ne 25, 3), (152, .iinc 1 (-1), 3), (155, .aload_n 0, 1), (156, .getfield 18, 3), (159, .iload_n 1, 1), (160, .iaload, 1), (161, .ifCond .ne 8, 3), (164, .iload 5, 2), (166, .goto 4, 3), (169, .iload_n 2, 1), (170, .istore_n 2, 1), (171, .goto 97, 3), (174, .iload 4, 2), (176, .iconst 4, 1), (177, .if_icmp .ne 23, 3), (180, .aload_n 0, 1), (181, .getfield 18, 3), (184, .iload_n 1, 1), (185, .iconst 1, 1), (186, .isub, 1), (187, .aload_n 0, 1), (188, .getfield 18, 3), (191, .iload_n 1, 1), (192, .iconst 1, 1), (193, .isub, 1), (194, .iaload, 1), (195, .ineg, 1), (196, .iastore, 1), (197, .goto 71, 3), (200, .iload 4, 2), (202, .iconst 5, 1), (203, .if_icmp .ne 30, 3), (206, .aload_n 0, 1), (207, .getfield 18, 3), (210, .iload_n 1, 1), (211, .iconst 1, 1), (212, .isub, 1), (213, .aload_n 0, 1), (214, .getfield 18, 3)]
theorem dk37_1 : ∀ r ∈ k37_1, decode prog_5_method_4_code r.1 = .ok r.2 := by decide +kernel
def k37_2 : List (Nat × Instr × Nat) := [(217, .iload_n 1, 1), (218, .iconst 1, 1), (219, .isub, 1), (220, .iaload, 1), (221, .ifCond .ne 7, 3), (224, .iconst 1, 1), (225, .goto 4, 3), (228, .iconst 0, 1), (229, .iastore, 1), (230, .goto 38, 3), (233, .iload_n 1, 1), (234, .iconst 2, 1), (235, .if_icmp .lt 33, 3), (238, .iinc 1 (-1), 3), (241, .aload_n 0, 1), (242, .getfield 18, 3), (245, .iload_n 1, 1), (246, .iconst 1, 1), (247, .isub, 1), (248, .iload 4, 2), (250, .aload_n 0, 1), (251, .getfield 18, 3), (254, .iload_n 1, 1), (255, .iconst 1, 1), (256, .isub, 1), (257, .iaload, 1), (258, .aload_n 0, 1), (259, .getfield 18, 3), (262, .iload_n 1, 1), (263, .iaload, 1), (264, .invokestatic 71, 3), (267, .iastore, 1), (268, .iinc 3 1, 3), (271, .goto (-265), 3), (274, .iconst 0, 1), (275, .ireturn, 1)]
theorem dk37_2 : ∀ r ∈ k37_2, decode prog_5_method_4_code r.1 = .ok r.2 := by decide +kernel
def k37 : List (Nat × Instr × Nat) := k37_0 ++ (k37_1 ++ (k37_2))
theorem dk37 : ∀ r ∈ k37, decode prog_5_method_4_code r.1 = .ok r.2 := List.forall_mem_append.mpr ⟨dk37_0, List.forall_mem_append.mpr ⟨dk37_1, dk37_2⟩⟩
def me37 : MethodName × ByteArray × Nat × Option FieldType × Nat × List (Nat × Instr × Nat) := (⟨"BeggarBridge$Law", "worth", "()I"⟩, prog_5_method_4_code, 7, (some .int), 3, k37)
/-- BeggarBridge$Law.joined(III)I -/
def k38_0 : List (Nat × Instr × Nat) := [(0, .iload_n 0, 1), (1, .lookupswitch 188 #[(37, 115), (38, 160), (42, 99), (43, 91), (45, 95), (47, 103), (60, 127), (61, 138), (62, 149), (124, 174)], 91), (92, .iload_n 1, 1), (93, .iload_n 2, 1), (94, .iadd, 1), (95, .ireturn, 1), (96, .iload_n 1, 1), (97, .iload_n 2, 1), (98, .isub, 1), (99, .ireturn, 1), (100, .iload_n 1, 1), (101, .iload_n 2, 1), (102, .imul, 1), (103, .ireturn, 1), (104, .iload_n 2, 1), (105, .ifCond .ne 7, 3), (108, .iconst 0, 1), (109, .goto 6, 3), (112, .iload_n 1, 1), (113, .iload_n 2, 1), (114, .idiv, 1), (115, .ireturn, 1), (116, .iload_n 2, 1), (117, .ifCond .ne 7, 3), (120, .iconst 0, 1), (121, .goto 6, 3), (124, .iload_n 1, 1), (125, .iload_n 2, 1), (126, .irem, 1), (127, .ireturn, 1), (128, .iload_n 1, 1), (129, .iload_n 2, 1), (130, .if_icmp .ge 7, 3), (133, .iconst 1, 1), (134, .goto 4, 3), (137, .iconst 0, 1), (138, .ireturn, 1), (139, .iload_n 1, 1), (140, .iload_n 2, 1), (141, .if_icmp .ne 7, 3), (144, .iconst 1, 1), (145, .goto 4, 3), (148, .iconst 0, 1), (149, .ireturn, 1), (150, .iload_n 1, 1), (151, .iload_n 2, 1), (152, .if_icmp .le 7, 3), (155, .iconst 1, 1), (156, .goto 4, 3), (159, .iconst 0, 1), (160, .ireturn, 1), (161, .iload_n 1, 1), (162, .ifCond .eq 11, 3), (165, .iload_n 2, 1), (166, .ifCond .eq 7, 3), (169, .iconst 1, 1), (170, .goto 4, 3), (173, .iconst 0, 1), (174, .ireturn, 1), (175, .iload_n 1, 1)]
theorem dk38_0 : ∀ r ∈ k38_0, decode prog_5_method_5_code r.1 = .ok r.2 := by decide +kernel
def k38_1 : List (Nat × Instr × Nat) := [(176, .ifCond .ne 7, 3), (179, .iload_n 2, 1), (180, .ifCond .eq 7, 3), (183, .iconst 1, 1), (184, .goto 4, 3), (187, .iconst 0, 1), (188, .ireturn, 1), (189, .iconst 0, 1), (190, .ireturn, 1)]
theorem dk38_1 : ∀ r ∈ k38_1, decode prog_5_method_5_code r.1 = .ok r.2 := by decide +kernel
def k38 : List (Nat × Instr × Nat) := k38_0 ++ (k38_1)
theorem dk38 : ∀ r ∈ k38, decode prog_5_method_5_code r.1 = .ok r.2 := List.forall_mem_append.mpr ⟨dk38_0, dk38_1⟩
def me38 : MethodName × ByteArray × Nat × Option FieldType × Nat × List (Nat × Instr × Nat) := (⟨"BeggarBridge$Law", "joined", "(III)I"⟩, prog_5_method_5_code, 3, (some .int), 3, k38)
/-- BeggarBridge$Ledger.told(I)I -/
def k39 : List (Nat × Instr × Nat) := [(0, .iload_n 1, 1), (1, .ifCond .lt 17, 3), (4, .iload_n 1, 1), (5, .iconst 5, 1), (6, .if_icmp .ge 12, 3), (9, .aload_n 0, 1), (10, .getfield 11, 3), (13, .iload_n 1, 1), (14, .iaload, 1), (15, .goto 4, 3), (18, .iconst (-1), 1), (19, .ireturn, 1)]
theorem dk39 : ∀ r ∈ k39, decode prog_6_method_2_code r.1 = .ok r.2 := by decide +kernel
def me39 : MethodName × ByteArray × Nat × Option FieldType × Nat × List (Nat × Instr × Nat) := (⟨"BeggarBridge$Ledger", "told", "(I)I"⟩, prog_6_method_2_code, 2, (some .int), 4, k39)
/-- BeggarBridge$Ledger.add(II)V -/
def k40 : List (Nat × Instr × Nat) := [(0, .iload_n 1, 1), (1, .ifCond .lt 18, 3), (4, .iload_n 1, 1), (5, .iconst 5, 1), (6, .if_icmp .ge 13, 3), (9, .aload_n 0, 1), (10, .getfield 11, 3), (13, .iload_n 1, 1), (14, .dup2, 1), (15, .iaload, 1), (16, .iload_n 2, 1), (17, .iadd, 1), (18, .iastore, 1), (19, .return_, 1)]
theorem dk40 : ∀ r ∈ k40, decode prog_6_method_3_code r.1 = .ok r.2 := by decide +kernel
def me40 : MethodName × ByteArray × Nat × Option FieldType × Nat × List (Nat × Instr × Nat) := (⟨"BeggarBridge$Ledger", "add", "(II)V"⟩, prog_6_method_3_code, 3, none, 4, k40)
/-- BeggarBridge$Ledger.keepOf(LBeggarBridge$County;)V -/
def k41 : List (Nat × Instr × Nat) := [(0, .aload_n 0, 1), (1, .getfield 21, 3), (4, .aload_n 1, 1), (5, .invokevirtual 25, 3), (8, .aload_n 0, 1), (9, .getfield 11, 3), (12, .iconst 0, 1), (13, .aload_n 0, 1), (14, .getfield 15, 3), (17, .iconst 0, 1), (18, .iconst 5, 1), (19, .invokestatic 29, 3), (22, .aload_n 0, 1), (23, .iconst 1, 1), (24, .putfield 35, 3), (27, .return_, 1)]
theorem dk41 : ∀ r ∈ k41, decode prog_6_method_4_code r.1 = .ok r.2 := by decide +kernel
def me41 : MethodName × ByteArray × Nat × Option FieldType × Nat × List (Nat × Instr × Nat) := (⟨"BeggarBridge$Ledger", "keepOf", "(LBeggarBridge$County;)V"⟩, prog_6_method_4_code, 2, none, 4, k41)
/-- BeggarBridge$Ledger.layBack(LBeggarBridge$County;)V -/
def k42_0 : List (Nat × Instr × Nat) := [(0, .iconst 0, 1), (1, .istore_n 2, 1), (2, .iload_n 2, 1), (3, .aload_n 0, 1), (4, .getfield 21, 3), (7, .getfield 39, 3), (10, .if_icmp .ge 24, 3), (13, .aload_n 1, 1), (14, .iload_n 2, 1), (15, .iconst 1, 1), (16, .aload_n 0, 1), (17, .getfield 21, 3), (20, .iload_n 2, 1), (21, .iconst 1, 1), (22, .invokevirtual 43, 3), (25, .invokevirtual 47, 3), (28, .iinc 2 1, 3), (31, .goto (-29), 3), (34, .iconst 0, 1), (35, .istore_n 2, 1), (36, .iload_n 2, 1), (37, .aload_n 0, 1), (38, .getfield 21, 3), (41, .getfield 51, 3), (44, .if_icmp .ge 41, 3), (47, .aload_n 1, 1), (48, .iload_n 2, 1), (49, .iconst 3, 1), (50, .aload_n 0, 1), (51, .getfield 21, 3), (54, .iload_n 2, 1), (55, .iconst 3, 1), (56, .invokevirtual 43, 3), (59, .invokevirtual 47, 3), (62, .aload_n 1, 1), (63, .iload_n 2, 1), (64, .bipush 6, 2), (66, .aload_n 0, 1), (67, .getfield 21, 3), (70, .iload_n 2, 1), (71, .bipush 6, 2), (73, .invokevirtual 43, 3), (76, .invokevirtual 47, 3), (79, .iinc 2 1, 3), (82, .goto (-46), 3), (85, .aload_n 1, 1), (86, .iconst 0, 1), (87, .bipush 8, 2), (89, .aload_n 0, 1), (90, .getfield 21, 3), (93, .iconst 0, 1), (94, .bipush 8, 2), (96, .invokevirtual 43, 3), (99, .invokevirtual 47, 3), (102, .aload_n 0, 1), (103, .getfield 15, 3), (106, .iconst 0, 1), (107, .aload_n 0, 1), (108, .getfield 11, 3), (111, .iconst 0, 1)]
theorem dk42_0 : ∀ r ∈ k42_0, decode prog_6_method_5_code r.1 = .ok r.2 := by decide +kernel
def k42_1 : List (Nat × Instr × Nat) := [(112, .iconst 5, 1), (113, .invokestatic 29, 3), (116, .return_, 1)]
theorem dk42_1 : ∀ r ∈ k42_1, decode prog_6_method_5_code r.1 = .ok r.2 := by decide +kernel
def k42 : List (Nat × Instr × Nat) := k42_0 ++ (k42_1)
theorem dk42 : ∀ r ∈ k42, decode prog_6_method_5_code r.1 = .ok r.2 := List.forall_mem_append.mpr ⟨dk42_0, dk42_1⟩
def me42 : MethodName × ByteArray × Nat × Option FieldType × Nat × List (Nat × Instr × Nat) := (⟨"BeggarBridge$Ledger", "layBack", "(LBeggarBridge$County;)V"⟩, prog_6_method_5_code, 3, none, 4, k42)
/-- BeggarBridge$Seats.ask()V -/
def k43_0 : List (Nat × Instr × Nat) := [(0, .iconst 0, 1), (1, .istore_n 1, 1), (2, .iload_n 1, 1), (3, .aload_n 0, 1), (4, .getfield 18, 3), (7, .getfield 22, 3), (10, .if_icmp .ge 99, 3), (13, .iload_n 1, 1), (14, .bipush 8, 2), (16, .if_icmp .ge 93, 3), (19, .aload_n 0, 1), (20, .getfield 9, 3), (23, .iload_n 1, 1), (24, .iconst 0, 1), (25, .iastore, 1), (26, .iconst 0, 1), (27, .istore_n 2, 1), (28, .iload_n 2, 1), (29, .aload_n 0, 1), (30, .getfield 18, 3), (33, .getfield 28, 3), (36, .if_icmp .ge 67, 3), (39, .aload_n 0, 1), (40, .getfield 18, 3), (43, .iload_n 2, 1), (44, .iconst 4, 1), (45, .invokevirtual 31, 3), (48, .aload_n 0, 1), (49, .getfield 18, 3), (52, .iload_n 1, 1), (53, .iconst 2, 1), (54, .invokevirtual 31, 3), (57, .invokestatic 35, 3), (60, .istore_n 3, 1), (61, .aload_n 0, 1), (62, .getfield 18, 3), (65, .iload_n 2, 1), (66, .invokevirtual 40, 3), (69, .ifCond .ne 28, 3), (72, .iload_n 3, 1), (73, .aload_n 0, 1), (74, .getfield 18, 3), (77, .iload_n 2, 1), (78, .iconst 5, 1), (79, .invokevirtual 31, 3), (82, .if_icmp .gt 15, 3), (85, .aload_n 0, 1), (86, .getfield 9, 3), (89, .iload_n 1, 1), (90, .dup2, 1), (91, .iaload, 1), (92, .iconst 1, 1), (93, .iload_n 2, 1), (94, .ishl, 1), (95, .ior, 1), (96, .iastore, 1), (97, .iinc 2 1, 3), (100, .goto (-72), 3), (103, .iinc 1 1, 3), (106, .goto (-104), 3)]
theorem dk43_0 : ∀ r ∈ k43_0, decode prog_7_method_2_code r.1 = .ok r.2 := by decide +kernel
def k43_1 : List (Nat × Instr × Nat) := [(109, .return_, 1)]
theorem dk43_1 : ∀ r ∈ k43_1, decode prog_7_method_2_code r.1 = .ok r.2 := by decide +kernel
def k43 : List (Nat × Instr × Nat) := k43_0 ++ (k43_1)
theorem dk43 : ∀ r ∈ k43, decode prog_7_method_2_code r.1 = .ok r.2 := List.forall_mem_append.mpr ⟨dk43_0, dk43_1⟩
def me43 : MethodName × ByteArray × Nat × Option FieldType × Nat × List (Nat × Instr × Nat) := (⟨"BeggarBridge$Seats", "ask", "()V"⟩, prog_7_method_2_code, 4, none, 5, k43)
/-- BeggarBridge$Seats.most(II)I -/
def k44 : List (Nat × Instr × Nat) := [(0, .aload_n 0, 1), (1, .getfield 15, 3), (4, .iconst (-1), 1), (5, .invokestatic 44, 3), (8, .iconst 0, 1), (9, .istore_n 3, 1), (10, .iload_n 1, 1), (11, .iconst 0, 1), (12, .invokestatic 50, 3), (15, .istore 4, 2), (17, .iload 4, 2), (19, .aload_n 0, 1), (20, .getfield 18, 3), (23, .getfield 22, 3), (26, .if_icmp .ge 27, 3), (29, .aload_n 0, 1), (30, .iload_n 2, 1), (31, .putfield 53, 3), (34, .aload_n 0, 1), (35, .iload 4, 2), (37, .iconst 0, 1), (38, .invokevirtual 56, 3), (41, .ifCond .eq 6, 3), (44, .iinc 3 1, 3), (47, .iinc 4 1, 3), (50, .goto (-33), 3), (53, .iload_n 3, 1), (54, .ireturn, 1)]
theorem dk44 : ∀ r ∈ k44, decode prog_7_method_3_code r.1 = .ok r.2 := by decide +kernel
def me44 : MethodName × ByteArray × Nat × Option FieldType × Nat × List (Nat × Instr × Nat) := (⟨"BeggarBridge$Seats", "most", "(II)I"⟩, prog_7_method_3_code, 5, (some .int), 5, k44)
/-- BeggarBridge$Seats.finds(II)Z -/
def k45_0 : List (Nat × Instr × Nat) := [(0, .iload_n 2, 1), (1, .bipush 9, 2), (3, .if_icmp .gt 13, 3), (6, .iload_n 1, 1), (7, .ifCond .lt 9, 3), (10, .iload_n 1, 1), (11, .bipush 8, 2), (13, .if_icmp .lt 5, 3), (16, .iconst 0, 1), (17, .ireturn, 1), (18, .iconst 0, 1), (19, .istore_n 3, 1), (20, .iload_n 3, 1), (21, .bipush 9, 2), (23, .if_icmp .ge 76, 3), (26, .aload_n 0, 1), (27, .getfield 9, 3), (30, .iload_n 1, 1), (31, .iaload, 1), (32, .aload_n 0, 1), (33, .getfield 53, 3), (36, .iconst (-1), 1), (37, .ixor, 1), (38, .iand, 1), (39, .iconst 1, 1), (40, .iload_n 3, 1), (41, .ishl, 1), (42, .iand, 1), (43, .ifCond .eq 50, 3), (46, .aload_n 0, 1), (47, .dup, 1), (48, .getfield 53, 3), (51, .iconst 1, 1), (52, .iload_n 3, 1), (53, .ishl, 1), (54, .ior, 1), (55, .putfield 53, 3), (58, .aload_n 0, 1), (59, .getfield 15, 3), (62, .iload_n 3, 1), (63, .iaload, 1), (64, .iconst (-1), 1), (65, .if_icmp .eq 19, 3), (68, .aload_n 0, 1), (69, .aload_n 0, 1), (70, .getfield 15, 3), (73, .iload_n 3, 1), (74, .iaload, 1), (75, .iload_n 2, 1), (76, .iconst 1, 1), (77, .iadd, 1), (78, .invokevirtual 56, 3), (81, .ifCond .eq 12, 3), (84, .aload_n 0, 1), (85, .getfield 15, 3), (88, .iload_n 3, 1), (89, .iload_n 1, 1), (90, .iastore, 1), (91, .iconst 1, 1), (92, .ireturn, 1)]
theorem dk45_0 : ∀ r ∈ k45_0, decode prog_7_method_4_code r.1 = .ok r.2 := by decide +kernel
def k45_1 : List (Nat × Instr × Nat) := [(93, .iinc 3 1, 3), (96, .goto (-76), 3), (99, .iconst 0, 1), (100, .ireturn, 1)]
theorem dk45_1 : ∀ r ∈ k45_1, decode prog_7_method_4_code r.1 = .ok r.2 := by decide +kernel
def k45 : List (Nat × Instr × Nat) := k45_0 ++ (k45_1)
theorem dk45 : ∀ r ∈ k45, decode prog_7_method_4_code r.1 = .ok r.2 := List.forall_mem_append.mpr ⟨dk45_0, dk45_1⟩
def me45 : MethodName × ByteArray × Nat × Option FieldType × Nat × List (Nat × Instr × Nat) := (⟨"BeggarBridge$Seats", "finds", "(II)Z"⟩, prog_7_method_4_code, 4, (some .boolean), 5, k45)
/-- BeggarBridge$Seats.whoSitsOn(I)I -/
def k46 : List (Nat × Instr × Nat) := [(0, .aload_n 0, 1), (1, .iconst 0, 1), (2, .iconst 0, 1), (3, .invokevirtual 60, 3), (6, .istore_n 2, 1), (7, .iconst 0, 1), (8, .istore_n 3, 1), (9, .bipush 9, 2), (11, .istore 4, 2), (13, .iconst 0, 1), (14, .istore 5, 2), (16, .iload 5, 2), (18, .iload_n 1, 1), (19, .if_icmp .gt 43, 3), (22, .iload 5, 2), (24, .bipush 8, 2), (26, .if_icmp .ge 36, 3), (29, .aload_n 0, 1), (30, .iload 5, 2), (32, .iload_n 3, 1), (33, .iload_n 2, 1), (34, .invokevirtual 63, 3), (37, .istore 4, 2), (39, .iload 4, 2), (41, .bipush 9, 2), (43, .if_icmp .eq 13, 3), (46, .iload_n 3, 1), (47, .iconst 1, 1), (48, .iload 4, 2), (50, .ishl, 1), (51, .ior, 1), (52, .istore_n 3, 1), (53, .iinc 2 (-1), 3), (56, .iinc 5 1, 3), (59, .goto (-43), 3), (62, .iload 4, 2), (64, .ireturn, 1)]
theorem dk46 : ∀ r ∈ k46, decode prog_7_method_5_code r.1 = .ok r.2 := by decide +kernel
def me46 : MethodName × ByteArray × Nat × Option FieldType × Nat × List (Nat × Instr × Nat) := (⟨"BeggarBridge$Seats", "whoSitsOn", "(I)I"⟩, prog_7_method_5_code, 6, (some .int), 5, k46)
/-- BeggarBridge$Seats.firstFor(III)I -/
def k47 : List (Nat × Instr × Nat) := [(0, .iload_n 1, 1), (1, .ifCond .lt 22, 3), (4, .iload_n 1, 1), (5, .bipush 8, 2), (7, .if_icmp .ge 16, 3), (10, .aload_n 0, 1), (11, .getfield 9, 3), (14, .iload_n 1, 1), (15, .iaload, 1), (16, .iload_n 2, 1), (17, .iconst (-1), 1), (18, .ixor, 1), (19, .iand, 1), (20, .goto 4, 3), (23, .iconst 0, 1), (24, .istore 4, 2), (26, .iconst 0, 1), (27, .istore 5, 2), (29, .iload 5, 2), (31, .bipush 9, 2), (33, .if_icmp .ge 41, 3), (36, .iload 4, 2), (38, .iload 5, 2), (40, .ishr, 1), (41, .iconst 1, 1), (42, .iand, 1), (43, .ifCond .eq 25, 3), (46, .aload_n 0, 1), (47, .iload_n 1, 1), (48, .iconst 1, 1), (49, .iadd, 1), (50, .iload_n 2, 1), (51, .iconst 1, 1), (52, .iload 5, 2), (54, .ishl, 1), (55, .ior, 1), (56, .invokevirtual 60, 3), (59, .iload_n 3, 1), (60, .iconst 1, 1), (61, .isub, 1), (62, .if_icmp .ne 6, 3), (65, .iload 5, 2), (67, .ireturn, 1), (68, .iinc 5 1, 3), (71, .goto (-42), 3), (74, .bipush 9, 2), (76, .ireturn, 1)]
theorem dk47 : ∀ r ∈ k47, decode prog_7_method_6_code r.1 = .ok r.2 := by decide +kernel
def me47 : MethodName × ByteArray × Nat × Option FieldType × Nat × List (Nat × Instr × Nat) := (⟨"BeggarBridge$Seats", "firstFor", "(III)I"⟩, prog_7_method_6_code, 6, (some .int), 5, k47)
/-- BeggarBridge$Shelves.has(I)Z -/
def k48 : List (Nat × Instr × Nat) := [(0, .iload_n 1, 1), (1, .ifCond .lt 13, 3), (4, .iload_n 1, 1), (5, .bipush 6, 2), (7, .if_icmp .ge 7, 3), (10, .iconst 1, 1), (11, .goto 4, 3), (14, .iconst 0, 1), (15, .ireturn, 1)]
theorem dk48 : ∀ r ∈ k48, decode prog_8_method_2_code r.1 = .ok r.2 := by decide +kernel
def me48 : MethodName × ByteArray × Nat × Option FieldType × Nat × List (Nat × Instr × Nat) := (⟨"BeggarBridge$Shelves", "has", "(I)Z"⟩, prog_8_method_2_code, 2, (some .boolean), 6, k48)
/-- BeggarBridge$Shelves.isEmpty(I)Z -/
def k49 : List (Nat × Instr × Nat) := [(0, .aload_n 0, 1), (1, .iload_n 1, 1), (2, .invokevirtual 23, 3), (5, .ifCond .eq 13, 3), (8, .aload_n 0, 1), (9, .getfield 11, 3), (12, .iload_n 1, 1), (13, .iaload, 1), (14, .iconst (-1), 1), (15, .if_icmp .ne 7, 3), (18, .iconst 1, 1), (19, .goto 4, 3), (22, .iconst 0, 1), (23, .ireturn, 1)]
theorem dk49 : ∀ r ∈ k49, decode prog_8_method_3_code r.1 = .ok r.2 := by decide +kernel
def me49 : MethodName × ByteArray × Nat × Option FieldType × Nat × List (Nat × Instr × Nat) := (⟨"BeggarBridge$Shelves", "isEmpty", "(I)Z"⟩, prog_8_method_3_code, 2, (some .boolean), 6, k49)
/-- BeggarBridge$Shelves.isRow(I)Z -/
def k50 : List (Nat × Instr × Nat) := [(0, .aload_n 0, 1), (1, .iload_n 1, 1), (2, .invokevirtual 23, 3), (5, .ifCond .eq 26, 3), (8, .aload_n 0, 1), (9, .getfield 11, 3), (12, .iload_n 1, 1), (13, .iaload, 1), (14, .ifCond .lt 17, 3), (17, .aload_n 0, 1), (18, .getfield 11, 3), (21, .iload_n 1, 1), (22, .iaload, 1), (23, .iconst 4, 1), (24, .if_icmp .gt 7, 3), (27, .iconst 1, 1), (28, .goto 4, 3), (31, .iconst 0, 1), (32, .ireturn, 1)]
theorem dk50 : ∀ r ∈ k50, decode prog_8_method_4_code r.1 = .ok r.2 := by decide +kernel
def me50 : MethodName × ByteArray × Nat × Option FieldType × Nat × List (Nat × Instr × Nat) := (⟨"BeggarBridge$Shelves", "isRow", "(I)Z"⟩, prog_8_method_4_code, 2, (some .boolean), 6, k50)
/-- BeggarBridge$Shelves.sizeOf(I)I -/
def k51 : List (Nat × Instr × Nat) := [(0, .aload_n 0, 1), (1, .iload_n 1, 1), (2, .invokevirtual 27, 3), (5, .ifCond .eq 12, 3), (8, .aload_n 0, 1), (9, .getfield 15, 3), (12, .iload_n 1, 1), (13, .iaload, 1), (14, .goto 4, 3), (17, .iconst 0, 1), (18, .ireturn, 1)]
theorem dk51 : ∀ r ∈ k51, decode prog_8_method_5_code r.1 = .ok r.2 := by decide +kernel
def me51 : MethodName × ByteArray × Nat × Option FieldType × Nat × List (Nat × Instr × Nat) := (⟨"BeggarBridge$Shelves", "sizeOf", "(I)I"⟩, prog_8_method_5_code, 2, (some .int), 6, k51)
/-- BeggarBridge$Shelves.archOn(I)I -/
def k52 : List (Nat × Instr × Nat) := [(0, .aload_n 0, 1), (1, .iload_n 1, 1), (2, .invokevirtual 23, 3), (5, .ifCond .eq 22, 3), (8, .aload_n 0, 1), (9, .getfield 11, 3), (12, .iload_n 1, 1), (13, .iaload, 1), (14, .iconst 5, 1), (15, .if_icmp .ne 12, 3), (18, .aload_n 0, 1), (19, .getfield 15, 3), (22, .iload_n 1, 1), (23, .iaload, 1), (24, .goto 4, 3), (27, .iconst (-1), 1), (28, .ireturn, 1)]
theorem dk52 : ∀ r ∈ k52, decode prog_8_method_6_code r.1 = .ok r.2 := by decide +kernel
def me52 : MethodName × ByteArray × Nat × Option FieldType × Nat × List (Nat × Instr × Nat) := (⟨"BeggarBridge$Shelves", "archOn", "(I)I"⟩, prog_8_method_6_code, 2, (some .int), 6, k52)
/-- BeggarBridge$Shelves.empty(I)V -/
def k53 : List (Nat × Instr × Nat) := [(0, .aload_n 0, 1), (1, .iload_n 1, 1), (2, .invokevirtual 23, 3), (5, .ifCond .eq 10, 3), (8, .aload_n 0, 1), (9, .getfield 11, 3), (12, .iload_n 1, 1), (13, .iconst (-1), 1), (14, .iastore, 1), (15, .return_, 1)]
theorem dk53 : ∀ r ∈ k53, decode prog_8_method_7_code r.1 = .ok r.2 := by decide +kernel
def me53 : MethodName × ByteArray × Nat × Option FieldType × Nat × List (Nat × Instr × Nat) := (⟨"BeggarBridge$Shelves", "empty", "(I)V"⟩, prog_8_method_7_code, 2, none, 6, k53)
/-- BeggarBridge$Shelves.holdArch(II)V -/
def k54 : List (Nat × Instr × Nat) := [(0, .aload_n 0, 1), (1, .iload_n 1, 1), (2, .invokevirtual 23, 3), (5, .ifCond .eq 17, 3), (8, .aload_n 0, 1), (9, .getfield 11, 3), (12, .iload_n 1, 1), (13, .iconst 5, 1), (14, .iastore, 1), (15, .aload_n 0, 1), (16, .getfield 15, 3), (19, .iload_n 1, 1), (20, .iload_n 2, 1), (21, .iastore, 1), (22, .return_, 1)]
theorem dk54 : ∀ r ∈ k54, decode prog_8_method_8_code r.1 = .ok r.2 := by decide +kernel
def me54 : MethodName × ByteArray × Nat × Option FieldType × Nat × List (Nat × Instr × Nat) := (⟨"BeggarBridge$Shelves", "holdArch", "(II)V"⟩, prog_8_method_8_code, 3, none, 6, k54)
/-- BeggarBridge$Shelves.holdRow(III)V -/
def k55 : List (Nat × Instr × Nat) := [(0, .aload_n 0, 1), (1, .iload_n 1, 1), (2, .invokevirtual 23, 3), (5, .ifCond .eq 37, 3), (8, .iload_n 3, 1), (9, .ifCond .lt 33, 3), (12, .iload_n 3, 1), (13, .bipush 60, 2), (15, .if_icmp .gt 27, 3), (18, .aload_n 0, 1), (19, .getfield 11, 3), (22, .iload_n 1, 1), (23, .iload_n 2, 1), (24, .iastore, 1), (25, .aload_n 0, 1), (26, .getfield 15, 3), (29, .iload_n 1, 1), (30, .iload_n 3, 1), (31, .iastore, 1), (32, .aload_n 0, 1), (33, .getfield 20, 3), (36, .iload_n 1, 1), (37, .aaload, 1), (38, .lconst 0, 1), (39, .invokestatic 30, 3), (42, .return_, 1)]
theorem dk55 : ∀ r ∈ k55, decode prog_8_method_9_code r.1 = .ok r.2 := by decide +kernel
def me55 : MethodName × ByteArray × Nat × Option FieldType × Nat × List (Nat × Instr × Nat) := (⟨"BeggarBridge$Shelves", "holdRow", "(III)V"⟩, prog_8_method_9_code, 4, none, 6, k55)
/-- BeggarBridge$Shelves.refusalOfRow(I)I -/
def k56 : List (Nat × Instr × Nat) := [(0, .aload_n 0, 1), (1, .iload_n 1, 1), (2, .invokevirtual 23, 3), (5, .ifCond .ne 5, 3), (8, .iconst (-1), 1), (9, .ireturn, 1), (10, .aload_n 0, 1), (11, .iload_n 1, 1), (12, .invokevirtual 36, 3), (15, .ifCond .eq 6, 3), (18, .bipush (-11), 2), (20, .ireturn, 1), (21, .aload_n 0, 1), (22, .iload_n 1, 1), (23, .invokevirtual 27, 3), (26, .ifCond .eq 7, 3), (29, .iconst 0, 1), (30, .goto 5, 3), (33, .bipush (-12), 2), (35, .ireturn, 1)]
theorem dk56 : ∀ r ∈ k56, decode prog_8_method_10_code r.1 = .ok r.2 := by decide +kernel
def me56 : MethodName × ByteArray × Nat × Option FieldType × Nat × List (Nat × Instr × Nat) := (⟨"BeggarBridge$Shelves", "refusalOfRow", "(I)I"⟩, prog_8_method_10_code, 2, (some .int), 6, k56)
/-- BeggarBridge$Shelves.refusalOfBytes(I)I -/
def k57 : List (Nat × Instr × Nat) := [(0, .aload_n 0, 1), (1, .iload_n 1, 1), (2, .invokevirtual 39, 3), (5, .istore_n 2, 1), (6, .iload_n 2, 1), (7, .ifCond .ne 17, 3), (10, .aload_n 0, 1), (11, .getfield 11, 3), (14, .iload_n 1, 1), (15, .iaload, 1), (16, .ifCond .eq 8, 3), (19, .bipush (-12), 2), (21, .goto 4, 3), (24, .iload_n 2, 1), (25, .ireturn, 1)]
theorem dk57 : ∀ r ∈ k57, decode prog_8_method_11_code r.1 = .ok r.2 := by decide +kernel
def me57 : MethodName × ByteArray × Nat × Option FieldType × Nat × List (Nat × Instr × Nat) := (⟨"BeggarBridge$Shelves", "refusalOfBytes", "(I)I"⟩, prog_8_method_11_code, 3, (some .int), 6, k57)
/-- BeggarBridge$Shelves.refusalOfPlace(II)I -/
def k58 : List (Nat × Instr × Nat) := [(0, .aload_n 0, 1), (1, .iload_n 1, 1), (2, .invokevirtual 39, 3), (5, .istore_n 3, 1), (6, .iload_n 3, 1), (7, .ifCond .ne 21, 3), (10, .iload_n 2, 1), (11, .ifCond .lt 12, 3), (14, .iload_n 2, 1), (15, .aload_n 0, 1), (16, .iload_n 1, 1), (17, .invokevirtual 43, 3), (20, .if_icmp .lt 8, 3), (23, .bipush (-13), 2), (25, .goto 4, 3), (28, .iload_n 3, 1), (29, .ireturn, 1)]
theorem dk58 : ∀ r ∈ k58, decode prog_8_method_12_code r.1 = .ok r.2 := by decide +kernel
def me58 : MethodName × ByteArray × Nat × Option FieldType × Nat × List (Nat × Instr × Nat) := (⟨"BeggarBridge$Shelves", "refusalOfPlace", "(II)I"⟩, prog_8_method_12_code, 4, (some .int), 6, k58)
/-- BeggarBridge$Shelves.refusalOfPair(II)I -/
def k59 : List (Nat × Instr × Nat) := [(0, .aload_n 0, 1), (1, .iload_n 1, 1), (2, .invokevirtual 23, 3), (5, .ifCond .eq 11, 3), (8, .aload_n 0, 1), (9, .iload_n 2, 1), (10, .invokevirtual 23, 3), (13, .ifCond .ne 5, 3), (16, .iconst (-1), 1), (17, .ireturn, 1), (18, .aload_n 0, 1), (19, .iload_n 1, 1), (20, .invokevirtual 36, 3), (23, .ifCond .ne 11, 3), (26, .aload_n 0, 1), (27, .iload_n 2, 1), (28, .invokevirtual 36, 3), (31, .ifCond .eq 6, 3), (34, .bipush (-11), 2), (36, .ireturn, 1), (37, .aload_n 0, 1), (38, .iload_n 1, 1), (39, .invokevirtual 27, 3), (42, .ifCond .eq 22, 3), (45, .aload_n 0, 1), (46, .getfield 11, 3), (49, .iload_n 1, 1), (50, .iaload, 1), (51, .aload_n 0, 1), (52, .getfield 11, 3), (55, .iload_n 2, 1), (56, .iaload, 1), (57, .if_icmp .ne 7, 3), (60, .iconst 0, 1), (61, .goto 5, 3), (64, .bipush (-12), 2), (66, .ireturn, 1)]
theorem dk59 : ∀ r ∈ k59, decode prog_8_method_13_code r.1 = .ok r.2 := by decide +kernel
def me59 : MethodName × ByteArray × Nat × Option FieldType × Nat × List (Nat × Instr × Nat) := (⟨"BeggarBridge$Shelves", "refusalOfPair", "(II)I"⟩, prog_8_method_13_code, 3, (some .int), 6, k59)
end
section
/-! generated by wip/whole/gen.py: the code of methods 60 .. 99 as data -/
/-- BeggarBridge$Shelves.hasRun(III)Z -/
def k60 : List (Nat × Instr × Nat) := [(0, .iload_n 2, 1), (1, .ifCond .lt 31, 3), (4, .iload_n 3, 1), (5, .ifCond .lt 27, 3), (8, .iload_n 2, 1), (9, .aload_n 0, 1), (10, .iload_n 1, 1), (11, .invokevirtual 43, 3), (14, .if_icmp .gt 18, 3), (17, .iload_n 3, 1), (18, .aload_n 0, 1), (19, .iload_n 1, 1), (20, .invokevirtual 43, 3), (23, .iload_n 2, 1), (24, .isub, 1), (25, .if_icmp .gt 7, 3), (28, .iconst 1, 1), (29, .goto 4, 3), (32, .iconst 0, 1), (33, .ireturn, 1)]
theorem dk60 : ∀ r ∈ k60, decode prog_8_method_14_code r.1 = .ok r.2 := by decide +kernel
def me60 : MethodName × ByteArray × Nat × Option FieldType × Nat × List (Nat × Instr × Nat) := (⟨"BeggarBridge$Shelves", "hasRun", "(III)Z"⟩, prog_8_method_14_code, 4, (some .boolean), 6, k60)
/-- BeggarBridge$Shelves.at(II)J -/
def k61 : List (Nat × Instr × Nat) := [(0, .iload_n 2, 1), (1, .ifCond .lt 29, 3), (4, .iload_n 2, 1), (5, .aload_n 0, 1), (6, .iload_n 1, 1), (7, .invokevirtual 43, 3), (10, .if_icmp .ge 20, 3), (13, .iload_n 2, 1), (14, .bipush 60, 2), (16, .if_icmp .ge 14, 3), (19, .aload_n 0, 1), (20, .getfield 20, 3), (23, .iload_n 1, 1), (24, .aaload, 1), (25, .iload_n 2, 1), (26, .laload, 1), (27, .goto 4, 3), (30, .lconst 0, 1), (31, .lreturn, 1)]
theorem dk61 : ∀ r ∈ k61, decode prog_8_method_15_code r.1 = .ok r.2 := by decide +kernel
def me61 : MethodName × ByteArray × Nat × Option FieldType × Nat × List (Nat × Instr × Nat) := (⟨"BeggarBridge$Shelves", "at", "(II)J"⟩, prog_8_method_15_code, 3, (some .long), 6, k61)
/-- BeggarBridge$Shelves.set(IIJ)V -/
def k62 : List (Nat × Instr × Nat) := [(0, .iload_n 2, 1), (1, .ifCond .lt 36, 3), (4, .iload_n 2, 1), (5, .aload_n 0, 1), (6, .iload_n 1, 1), (7, .invokevirtual 43, 3), (10, .if_icmp .ge 27, 3), (13, .iload_n 2, 1), (14, .bipush 60, 2), (16, .if_icmp .ge 21, 3), (19, .aload_n 0, 1), (20, .getfield 20, 3), (23, .iload_n 1, 1), (24, .aaload, 1), (25, .iload_n 2, 1), (26, .aload_n 0, 1), (27, .getfield 11, 3), (30, .iload_n 1, 1), (31, .iaload, 1), (32, .lload_n 3, 1), (33, .invokestatic 46, 3), (36, .lastore, 1), (37, .return_, 1)]
theorem dk62 : ∀ r ∈ k62, decode prog_8_method_16_code r.1 = .ok r.2 := by decide +kernel
def me62 : MethodName × ByteArray × Nat × Option FieldType × Nat × List (Nat × Instr × Nat) := (⟨"BeggarBridge$Shelves", "set", "(IIJ)V"⟩, prog_8_method_16_code, 5, none, 6, k62)
/-- BeggarBridge$Shelves.cut(IJ)J -/
def k63 : List (Nat × Instr × Nat) := [(0, .iload_n 0, 1), (1, .tableswitch 61 0 4 #[35, 40, 45, 61, 49], 35), (36, .lload_n 1, 1), (37, .l2i, 1), (38, .i2b, 1), (39, .i2l, 1), (40, .lreturn, 1), (41, .lload_n 1, 1), (42, .l2i, 1), (43, .i2s, 1), (44, .i2l, 1), (45, .lreturn, 1), (46, .lload_n 1, 1), (47, .l2i, 1), (48, .i2l, 1), (49, .lreturn, 1), (50, .lload_n 1, 1), (51, .lconst 0, 1), (52, .lcmp, 1), (53, .ifCond .eq 7, 3), (56, .lconst 1, 1), (57, .goto 4, 3), (60, .lconst 0, 1), (61, .lreturn, 1), (62, .lload_n 1, 1), (63, .lreturn, 1)]
theorem dk63 : ∀ r ∈ k63, decode prog_8_method_17_code r.1 = .ok r.2 := by decide +kernel
def me63 : MethodName × ByteArray × Nat × Option FieldType × Nat × List (Nat × Instr × Nat) := (⟨"BeggarBridge$Shelves", "cut", "(IJ)J"⟩, prog_8_method_17_code, 3, (some .long), 6, k63)
/-- BeggarBridge$Shelves.copyRun(IIIII)V -/
def k64 : List (Nat × Instr × Nat) := [(0, .aload_n 0, 1), (1, .iload_n 1, 1), (2, .iload_n 2, 1), (3, .iload 5, 2), (5, .invokevirtual 50, 3), (8, .ifCond .eq 35, 3), (11, .aload_n 0, 1), (12, .iload_n 3, 1), (13, .iload 4, 2), (15, .iload 5, 2), (17, .invokevirtual 50, 3), (20, .ifCond .eq 23, 3), (23, .aload_n 0, 1), (24, .getfield 20, 3), (27, .iload_n 1, 1), (28, .aaload, 1), (29, .iload_n 2, 1), (30, .aload_n 0, 1), (31, .getfield 20, 3), (34, .iload_n 3, 1), (35, .aaload, 1), (36, .iload 4, 2), (38, .iload 5, 2), (40, .invokestatic 54, 3), (43, .return_, 1)]
theorem dk64 : ∀ r ∈ k64, decode prog_8_method_18_code r.1 = .ok r.2 := by decide +kernel
def me64 : MethodName × ByteArray × Nat × Option FieldType × Nat × List (Nat × Instr × Nat) := (⟨"BeggarBridge$Shelves", "copyRun", "(IIIII)V"⟩, prog_8_method_18_code, 6, none, 6, k64)
/-- BeggarBridge$Tape.take(I)I -/
def k65 : List (Nat × Instr × Nat) := [(0, .aload_n 0, 1), (1, .getfield 21, 3), (4, .bipush 120, 2), (6, .if_icmp .lt 6, 3), (9, .bipush (-3), 2), (11, .ireturn, 1), (12, .aload_n 0, 1), (13, .getfield 11, 3), (16, .aload_n 0, 1), (17, .dup, 1), (18, .getfield 21, 3), (21, .dup_x1, 1), (22, .iconst 1, 1), (23, .iadd, 1), (24, .putfield 21, 3), (27, .iload_n 1, 1), (28, .iastore, 1), (29, .aload_n 0, 1), (30, .getfield 21, 3), (33, .ireturn, 1)]
theorem dk65 : ∀ r ∈ k65, decode prog_9_method_2_code r.1 = .ok r.2 := by decide +kernel
def me65 : MethodName × ByteArray × Nat × Option FieldType × Nat × List (Nat × Instr × Nat) := (⟨"BeggarBridge$Tape", "take", "(I)I"⟩, prog_9_method_2_code, 2, (some .int), 7, k65)
/-- BeggarBridge$Tape.clear()V -/
def k66 : List (Nat × Instr × Nat) := [(0, .aload_n 0, 1), (1, .iconst 0, 1), (2, .putfield 21, 3), (5, .return_, 1)]
theorem dk66 : ∀ r ∈ k66, decode prog_9_method_3_code r.1 = .ok r.2 := by decide +kernel
def me66 : MethodName × ByteArray × Nat × Option FieldType × Nat × List (Nat × Instr × Nat) := (⟨"BeggarBridge$Tape", "clear", "()V"⟩, prog_9_method_3_code, 1, none, 7, k66)
/-- BeggarBridge$Tape.compile()I -/
def k67 : List (Nat × Instr × Nat) := [(0, .aload_n 0, 1), (1, .iconst 0, 1), (2, .putfield 25, 3), (5, .aload_n 0, 1), (6, .iconst 0, 1), (7, .putfield 28, 3), (10, .aload_n 0, 1), (11, .iconst (-1), 1), (12, .putfield 31, 3), (15, .aload_n 0, 1), (16, .invokevirtual 34, 3), (19, .iconst 0, 1), (20, .istore_n 1, 1), (21, .iload_n 1, 1), (22, .bipush 120, 2), (24, .if_icmp .ge 39, 3), (27, .aload_n 0, 1), (28, .getfield 31, 3), (31, .ifCond .ge 32, 3), (34, .aload_n 0, 1), (35, .invokevirtual 37, 3), (38, .bipush 59, 2), (40, .if_icmp .ne 23, 3), (43, .aload_n 0, 1), (44, .dup, 1), (45, .getfield 25, 3), (48, .iconst 1, 1), (49, .iadd, 1), (50, .putfield 25, 3), (53, .aload_n 0, 1), (54, .invokevirtual 34, 3), (57, .iinc 1 1, 3), (60, .goto (-39), 3), (63, .aload_n 0, 1), (64, .getfield 31, 3), (67, .ifCond .ge 22, 3), (70, .aload_n 0, 1), (71, .getfield 25, 3), (74, .aload_n 0, 1), (75, .getfield 21, 3), (78, .if_icmp .ge 11, 3), (81, .aload_n 0, 1), (82, .aload_n 0, 1), (83, .getfield 25, 3), (86, .putfield 31, 3), (89, .aload_n 0, 1), (90, .getfield 31, 3), (93, .ireturn, 1)]
theorem dk67 : ∀ r ∈ k67, decode prog_9_method_4_code r.1 = .ok r.2 := by decide +kernel
def me67 : MethodName × ByteArray × Nat × Option FieldType × Nat × List (Nat × Instr × Nat) := (⟨"BeggarBridge$Tape", "compile", "()I"⟩, prog_9_method_4_code, 2, (some .int), 7, k67)
/-- BeggarBridge$Tape.peek()I -/
def k68 : List (Nat × Instr × Nat) := [(0, .aload_n 0, 1), (1, .getfield 25, 3), (4, .ifCond .lt 35, 3), (7, .aload_n 0, 1), (8, .getfield 25, 3), (11, .aload_n 0, 1), (12, .getfield 21, 3), (15, .if_icmp .ge 24, 3), (18, .aload_n 0, 1), (19, .getfield 25, 3), (22, .bipush 120, 2), (24, .if_icmp .ge 15, 3), (27, .aload_n 0, 1), (28, .getfield 11, 3), (31, .aload_n 0, 1), (32, .getfield 25, 3), (35, .iaload, 1), (36, .goto 4, 3), (39, .iconst (-1), 1), (40, .ireturn, 1)]
theorem dk68 : ∀ r ∈ k68, decode prog_9_method_5_code r.1 = .ok r.2 := by decide +kernel
def me68 : MethodName × ByteArray × Nat × Option FieldType × Nat × List (Nat × Instr × Nat) := (⟨"BeggarBridge$Tape", "peek", "()I"⟩, prog_9_method_5_code, 1, (some .int), 7, k68)
/-- BeggarBridge$Tape.emit(II)V -/
def k69 : List (Nat × Instr × Nat) := [(0, .aload_n 0, 1), (1, .getfield 28, 3), (4, .sipush 128, 3), (7, .if_icmp .ge 33, 3), (10, .aload_n 0, 1), (11, .getfield 15, 3), (14, .aload_n 0, 1), (15, .getfield 28, 3), (18, .iload_n 1, 1), (19, .iastore, 1), (20, .aload_n 0, 1), (21, .getfield 18, 3), (24, .aload_n 0, 1), (25, .getfield 28, 3), (28, .iload_n 2, 1), (29, .iastore, 1), (30, .aload_n 0, 1), (31, .dup, 1), (32, .getfield 28, 3), (35, .iconst 1, 1), (36, .iadd, 1), (37, .putfield 28, 3), (40, .return_, 1)]
theorem dk69 : ∀ r ∈ k69, decode prog_9_method_6_code r.1 = .ok r.2 := by decide +kernel
def me69 : MethodName × ByteArray × Nat × Option FieldType × Nat × List (Nat × Instr × Nat) := (⟨"BeggarBridge$Tape", "emit", "(II)V"⟩, prog_9_method_6_code, 3, none, 7, k69)
/-- BeggarBridge$Tape.line()V -/
def k70 : List (Nat × Instr × Nat) := [(0, .aload_n 0, 1), (1, .iconst 0, 1), (2, .iconst 0, 1), (3, .invokevirtual 41, 3), (6, .aload_n 0, 1), (7, .getfield 31, 3), (10, .ifCond .ge 65, 3), (13, .aload_n 0, 1), (14, .invokevirtual 37, 3), (17, .bipush 63, 2), (19, .if_icmp .ne 56, 3), (22, .aload_n 0, 1), (23, .dup, 1), (24, .getfield 25, 3), (27, .iconst 1, 1), (28, .iadd, 1), (29, .putfield 25, 3), (32, .aload_n 0, 1), (33, .getfield 28, 3), (36, .istore_n 1, 1), (37, .aload_n 0, 1), (38, .iconst 3, 1), (39, .iconst 0, 1), (40, .invokevirtual 45, 3), (43, .aload_n 0, 1), (44, .iconst 0, 1), (45, .iconst 0, 1), (46, .invokevirtual 41, 3), (49, .aload_n 0, 1), (50, .iconst 2, 1), (51, .iconst 0, 1), (52, .invokevirtual 45, 3), (55, .iload_n 1, 1), (56, .sipush 128, 3), (59, .if_icmp .ge 13, 3), (62, .aload_n 0, 1), (63, .getfield 18, 3), (66, .iload_n 1, 1), (67, .aload_n 0, 1), (68, .getfield 28, 3), (71, .iastore, 1), (72, .goto 9, 3), (75, .aload_n 0, 1), (76, .iconst 2, 1), (77, .iconst 0, 1), (78, .invokevirtual 45, 3), (81, .return_, 1)]
theorem dk70 : ∀ r ∈ k70, decode prog_9_method_7_code r.1 = .ok r.2 := by decide +kernel
def me70 : MethodName × ByteArray × Nat × Option FieldType × Nat × List (Nat × Instr × Nat) := (⟨"BeggarBridge$Tape", "line", "()V"⟩, prog_9_method_7_code, 2, none, 7, k70)
/-- BeggarBridge$Tape.climb(II)V -/
def k71 : List (Nat × Instr × Nat) := [(0, .iload_n 1, 1), (1, .iconst 5, 1), (2, .if_icmp .lt 9, 3), (5, .aload_n 0, 1), (6, .iload_n 2, 1), (7, .invokevirtual 48, 3), (10, .return_, 1), (11, .aload_n 0, 1), (12, .iload_n 1, 1), (13, .iconst 1, 1), (14, .iadd, 1), (15, .iload_n 2, 1), (16, .invokevirtual 41, 3), (19, .iconst 0, 1), (20, .istore_n 3, 1), (21, .iload_n 3, 1), (22, .bipush 120, 2), (24, .if_icmp .ge 64, 3), (27, .aload_n 0, 1), (28, .getfield 31, 3), (31, .ifCond .ge 57, 3), (34, .aload_n 0, 1), (35, .invokevirtual 37, 3), (38, .invokestatic 52, 3), (41, .iload_n 1, 1), (42, .if_icmp .ne 46, 3), (45, .aload_n 0, 1), (46, .invokevirtual 37, 3), (49, .istore 4, 2), (51, .aload_n 0, 1), (52, .dup, 1), (53, .getfield 25, 3), (56, .iconst 1, 1), (57, .iadd, 1), (58, .putfield 25, 3), (61, .aload_n 0, 1), (62, .iload_n 1, 1), (63, .iconst 1, 1), (64, .iadd, 1), (65, .iload_n 2, 1), (66, .invokevirtual 41, 3), (69, .aload_n 0, 1), (70, .iload 4, 2), (72, .iconst 0, 1), (73, .invokevirtual 45, 3), (76, .iload_n 1, 1), (77, .iconst 2, 1), (78, .if_icmp .ne 4, 3), (81, .return_, 1), (82, .iinc 3 1, 3), (85, .goto (-64), 3), (88, .return_, 1)]
theorem dk71 : ∀ r ∈ k71, decode prog_9_method_8_code r.1 = .ok r.2 := by decide +kernel
def me71 : MethodName × ByteArray × Nat × Option FieldType × Nat × List (Nat × Instr × Nat) := (⟨"BeggarBridge$Tape", "climb", "(II)V"⟩, prog_9_method_8_code, 5, none, 7, k71)
/-- BeggarBridge$Tape.operand(I)V -/
def k72_0 : List (Nat × Instr × Nat) := [(0, .aload_n 0, 1), (1, .invokevirtual 37, 3), (4, .istore_n 2, 1), (5, .iload_n 2, 1), (6, .invokestatic 56, 3), (9, .ifCond .eq 10, 3), (12, .aload_n 0, 1), (13, .invokevirtual 60, 3), (16, .goto 116, 3), (19, .iload_n 2, 1), (20, .invokestatic 63, 3), (23, .ifCond .lt 25, 3), (26, .aload_n 0, 1), (27, .dup, 1), (28, .getfield 25, 3), (31, .iconst 1, 1), (32, .iadd, 1), (33, .putfield 25, 3), (36, .aload_n 0, 1), (37, .iconst 1, 1), (38, .iload_n 2, 1), (39, .invokestatic 63, 3), (42, .invokevirtual 45, 3), (45, .goto 87, 3), (48, .iload_n 2, 1), (49, .bipush 40, 2), (51, .if_icmp .eq 15, 3), (54, .iload_n 2, 1), (55, .bipush 33, 2), (57, .if_icmp .eq 9, 3), (60, .iload_n 2, 1), (61, .bipush 45, 2), (63, .if_icmp .ne 61, 3), (66, .iload_n 1, 1), (67, .bipush 6, 2), (69, .if_icmp .ge 55, 3), (72, .aload_n 0, 1), (73, .dup, 1), (74, .getfield 25, 3), (77, .iconst 1, 1), (78, .iadd, 1), (79, .putfield 25, 3), (82, .iload_n 2, 1), (83, .bipush 40, 2), (85, .if_icmp .ne 13, 3), (88, .aload_n 0, 1), (89, .iload_n 1, 1), (90, .iconst 1, 1), (91, .iadd, 1), (92, .invokevirtual 66, 3), (95, .goto 37, 3), (98, .aload_n 0, 1), (99, .iload_n 1, 1), (100, .iconst 1, 1), (101, .iadd, 1), (102, .invokevirtual 48, 3), (105, .aload_n 0, 1), (106, .iload_n 2, 1), (107, .bipush 33, 2), (109, .if_icmp .ne 7, 3)]
theorem dk72_0 : ∀ r ∈ k72_0, decode prog_9_method_9_code r.1 = .ok r.2 := by decide +kernel
def k72_1 : List (Nat × Instr × Nat) := [(112, .iconst 5, 1), (113, .goto 4, 3), (116, .iconst 4, 1), (117, .iconst 0, 1), (118, .invokevirtual 45, 3), (121, .goto 11, 3), (124, .aload_n 0, 1), (125, .aload_n 0, 1), (126, .getfield 25, 3), (129, .putfield 31, 3), (132, .return_, 1)]
theorem dk72_1 : ∀ r ∈ k72_1, decode prog_9_method_9_code r.1 = .ok r.2 := by decide +kernel
def k72 : List (Nat × Instr × Nat) := k72_0 ++ (k72_1)
theorem dk72 : ∀ r ∈ k72, decode prog_9_method_9_code r.1 = .ok r.2 := List.forall_mem_append.mpr ⟨dk72_0, dk72_1⟩
def me72 : MethodName × ByteArray × Nat × Option FieldType × Nat × List (Nat × Instr × Nat) := (⟨"BeggarBridge$Tape", "operand", "(I)V"⟩, prog_9_method_9_code, 3, none, 7, k72)
/-- BeggarBridge$Tape.enclosed(I)V -/
def k73 : List (Nat × Instr × Nat) := [(0, .aload_n 0, 1), (1, .iconst 0, 1), (2, .iload_n 1, 1), (3, .invokevirtual 41, 3), (6, .aload_n 0, 1), (7, .getfield 31, 3), (10, .ifCond .ge 33, 3), (13, .aload_n 0, 1), (14, .invokevirtual 37, 3), (17, .bipush 41, 2), (19, .if_icmp .ne 16, 3), (22, .aload_n 0, 1), (23, .dup, 1), (24, .getfield 25, 3), (27, .iconst 1, 1), (28, .iadd, 1), (29, .putfield 25, 3), (32, .goto 11, 3), (35, .aload_n 0, 1), (36, .aload_n 0, 1), (37, .getfield 25, 3), (40, .putfield 31, 3), (43, .return_, 1)]
theorem dk73 : ∀ r ∈ k73, decode prog_9_method_10_code r.1 = .ok r.2 := by decide +kernel
def me73 : MethodName × ByteArray × Nat × Option FieldType × Nat × List (Nat × Instr × Nat) := (⟨"BeggarBridge$Tape", "enclosed", "(I)V"⟩, prog_9_method_10_code, 2, none, 7, k73)
/-- BeggarBridge$Tape.number()V -/
def k74 : List (Nat × Instr × Nat) := [(0, .iconst 0, 1), (1, .istore_n 1, 1), (2, .iconst 0, 1), (3, .istore_n 2, 1), (4, .iload_n 2, 1), (5, .iconst 4, 1), (6, .if_icmp .ge 42, 3), (9, .aload_n 0, 1), (10, .invokevirtual 37, 3), (13, .invokestatic 56, 3), (16, .ifCond .eq 32, 3), (19, .iload_n 1, 1), (20, .bipush 10, 2), (22, .imul, 1), (23, .aload_n 0, 1), (24, .invokevirtual 37, 3), (27, .iadd, 1), (28, .bipush 48, 2), (30, .isub, 1), (31, .istore_n 1, 1), (32, .aload_n 0, 1), (33, .dup, 1), (34, .getfield 25, 3), (37, .iconst 1, 1), (38, .iadd, 1), (39, .putfield 25, 3), (42, .iinc 2 1, 3), (45, .goto (-41), 3), (48, .aload_n 0, 1), (49, .iconst 0, 1), (50, .iload_n 1, 1), (51, .invokevirtual 45, 3), (54, .return_, 1)]
theorem dk74 : ∀ r ∈ k74, decode prog_9_method_11_code r.1 = .ok r.2 := by decide +kernel
def me74 : MethodName × ByteArray × Nat × Option FieldType × Nat × List (Nat × Instr × Nat) := (⟨"BeggarBridge$Tape", "number", "()V"⟩, prog_9_method_11_code, 3, none, 7, k74)
/-- BeggarBridge$Tape.isDigit(I)Z -/
def k75 : List (Nat × Instr × Nat) := [(0, .iload_n 0, 1), (1, .bipush 48, 2), (3, .if_icmp .lt 13, 3), (6, .iload_n 0, 1), (7, .bipush 57, 2), (9, .if_icmp .gt 7, 3), (12, .iconst 1, 1), (13, .goto 4, 3), (16, .iconst 0, 1), (17, .ireturn, 1)]
theorem dk75 : ∀ r ∈ k75, decode prog_9_method_12_code r.1 = .ok r.2 := by decide +kernel
def me75 : MethodName × ByteArray × Nat × Option FieldType × Nat × List (Nat × Instr × Nat) := (⟨"BeggarBridge$Tape", "isDigit", "(I)Z"⟩, prog_9_method_12_code, 1, (some .boolean), 7, k75)
/-- BeggarBridge$Tape.nameOf(I)I -/
def k76 : List (Nat × Instr × Nat) := [(0, .iload_n 0, 1), (1, .lookupswitch 71 #[(97, 65), (100, 67), (104, 61), (114, 63), (115, 59), (120, 69)], 59), (60, .iconst 0, 1), (61, .ireturn, 1), (62, .iconst 1, 1), (63, .ireturn, 1), (64, .iconst 2, 1), (65, .ireturn, 1), (66, .iconst 3, 1), (67, .ireturn, 1), (68, .iconst 4, 1), (69, .ireturn, 1), (70, .iconst 5, 1), (71, .ireturn, 1), (72, .iconst (-1), 1), (73, .ireturn, 1)]
theorem dk76 : ∀ r ∈ k76, decode prog_9_method_13_code r.1 = .ok r.2 := by decide +kernel
def me76 : MethodName × ByteArray × Nat × Option FieldType × Nat × List (Nat × Instr × Nat) := (⟨"BeggarBridge$Tape", "nameOf", "(I)I"⟩, prog_9_method_13_code, 1, (some .int), 7, k76)
/-- BeggarBridge$Tape.levelOf(I)I -/
def k77 : List (Nat × Instr × Nat) := [(0, .iload_n 0, 1), (1, .lookupswitch 101 #[(37, 99), (38, 93), (42, 99), (43, 97), (45, 97), (47, 99), (60, 95), (61, 95), (62, 95), (124, 91)], 91), (92, .iconst 0, 1), (93, .ireturn, 1), (94, .iconst 1, 1), (95, .ireturn, 1), (96, .iconst 2, 1), (97, .ireturn, 1), (98, .iconst 3, 1), (99, .ireturn, 1), (100, .iconst 4, 1), (101, .ireturn, 1), (102, .iconst (-1), 1), (103, .ireturn, 1)]
theorem dk77 : ∀ r ∈ k77, decode prog_9_method_14_code r.1 = .ok r.2 := by decide +kernel
def me77 : MethodName × ByteArray × Nat × Option FieldType × Nat × List (Nat × Instr × Nat) := (⟨"BeggarBridge$Tape", "levelOf", "(I)I"⟩, prog_9_method_14_code, 1, (some .int), 7, k77)
/-- BeggarBridge$Thought.behind(I)LBeggarBridge$County; -/
def k78 : List (Nat × Instr × Nat) := [(0, .aload_n 0, 1), (1, .getfield 12, 3), (4, .aload_n 0, 1), (5, .getfield 25, 3), (8, .invokevirtual 32, 3), (11, .iconst 0, 1), (12, .istore_n 2, 1), (13, .iload_n 2, 1), (14, .iload_n 1, 1), (15, .if_icmp .ge 20, 3), (18, .aload_n 0, 1), (19, .getfield 12, 3), (22, .aload_n 0, 1), (23, .getfield 28, 3), (26, .invokevirtual 36, 3), (29, .iinc 2 1, 3), (32, .goto (-19), 3), (35, .aload_n 0, 1), (36, .getfield 12, 3), (39, .areturn, 1)]
theorem dk78 : ∀ r ∈ k78, decode prog_10_method_2_code r.1 = .ok r.2 := by decide +kernel
def me78 : MethodName × ByteArray × Nat × Option FieldType × Nat × List (Nat × Instr × Nat) := (⟨"BeggarBridge$Thought", "behind", "(I)LBeggarBridge$County;"⟩, prog_10_method_2_code, 3, (some (.object "BeggarBridge$County")), 8, k78)
/-- BeggarBridge$Thought.soundOf(LBeggarBridge$County;II)I -/
def k79 : List (Nat × Instr × Nat) := [(0, .aload_n 0, 1), (1, .getfield 12, 3), (4, .aload_n 1, 1), (5, .invokevirtual 32, 3), (8, .iconst 0, 1), (9, .istore 4, 2), (11, .iload 4, 2), (13, .iload_n 3, 1), (14, .if_icmp .ge 35, 3), (17, .aload_n 0, 1), (18, .getfield 12, 3), (21, .iload_n 2, 1), (22, .invokestatic 40, 3), (25, .ifCond .eq 24, 3), (28, .aload_n 0, 1), (29, .getfield 12, 3), (32, .iload_n 2, 1), (33, .iload_n 2, 1), (34, .iconst 1, 1), (35, .iadd, 1), (36, .aload_n 0, 1), (37, .getfield 28, 3), (40, .invokevirtual 44, 3), (43, .iinc 4 1, 3), (46, .goto (-35), 3), (49, .aload_n 0, 1), (50, .getfield 12, 3), (53, .iload_n 2, 1), (54, .iconst 1, 1), (55, .invokevirtual 48, 3), (58, .ireturn, 1)]
theorem dk79 : ∀ r ∈ k79, decode prog_10_method_3_code r.1 = .ok r.2 := by decide +kernel
def me79 : MethodName × ByteArray × Nat × Option FieldType × Nat × List (Nat × Instr × Nat) := (⟨"BeggarBridge$Thought", "soundOf", "(LBeggarBridge$County;II)I"⟩, prog_10_method_3_code, 5, (some .int), 8, k79)
/-- BeggarBridge$Thought.fallOf(LBeggarBridge$County;I)I -/
def k80 : List (Nat × Instr × Nat) := [(0, .aload_n 0, 1), (1, .getfield 12, 3), (4, .aload_n 1, 1), (5, .invokevirtual 32, 3), (8, .iconst 0, 1), (9, .istore_n 3, 1), (10, .iload_n 3, 1), (11, .bipush 60, 2), (13, .if_icmp .gt 37, 3), (16, .aload_n 0, 1), (17, .getfield 12, 3), (20, .iload_n 2, 1), (21, .invokestatic 40, 3), (24, .ifCond .ne 5, 3), (27, .iload_n 3, 1), (28, .ireturn, 1), (29, .aload_n 0, 1), (30, .getfield 12, 3), (33, .iload_n 2, 1), (34, .iload_n 2, 1), (35, .iconst 1, 1), (36, .iadd, 1), (37, .aload_n 0, 1), (38, .getfield 28, 3), (41, .invokevirtual 44, 3), (44, .iinc 3 1, 3), (47, .goto (-37), 3), (50, .bipush (-2), 2), (52, .ireturn, 1)]
theorem dk80 : ∀ r ∈ k80, decode prog_10_method_4_code r.1 = .ok r.2 := by decide +kernel
def me80 : MethodName × ByteArray × Nat × Option FieldType × Nat × List (Nat × Instr × Nat) := (⟨"BeggarBridge$Thought", "fallOf", "(LBeggarBridge$County;I)I"⟩, prog_10_method_4_code, 4, (some .int), 8, k80)
/-- BeggarBridge$Thought.stands(LBeggarBridge$County;I)Z -/
def k81 : List (Nat × Instr × Nat) := [(0, .aload_n 0, 1), (1, .iload_n 1, 1), (2, .iconst 1, 1), (3, .invokevirtual 48, 3), (6, .ifCond .le 7, 3), (9, .iconst 1, 1), (10, .goto 4, 3), (13, .iconst 0, 1), (14, .ireturn, 1)]
theorem dk81 : ∀ r ∈ k81, decode prog_10_method_5_code r.1 = .ok r.2 := by decide +kernel
def me81 : MethodName × ByteArray × Nat × Option FieldType × Nat × List (Nat × Instr × Nat) := (⟨"BeggarBridge$Thought", "stands", "(LBeggarBridge$County;I)Z"⟩, prog_10_method_5_code, 2, (some .boolean), 8, k81)
/-- BeggarBridge$Thought.firstToFall()I -/
def k82 : List (Nat × Instr × Nat) := [(0, .aload_n 0, 1), (1, .getfield 12, 3), (4, .aload_n 0, 1), (5, .getfield 25, 3), (8, .invokevirtual 32, 3), (11, .iconst 0, 1), (12, .istore_n 1, 1), (13, .iload_n 1, 1), (14, .bipush 60, 2), (16, .if_icmp .gt 52, 3), (19, .iconst 0, 1), (20, .istore_n 2, 1), (21, .iload_n 2, 1), (22, .aload_n 0, 1), (23, .getfield 12, 3), (26, .getfield 52, 3), (29, .if_icmp .ge 22, 3), (32, .aload_n 0, 1), (33, .getfield 12, 3), (36, .iload_n 2, 1), (37, .invokestatic 40, 3), (40, .ifCond .ne 5, 3), (43, .iload_n 2, 1), (44, .ireturn, 1), (45, .iinc 2 1, 3), (48, .goto (-27), 3), (51, .aload_n 0, 1), (52, .getfield 12, 3), (55, .aload_n 0, 1), (56, .getfield 28, 3), (59, .invokevirtual 36, 3), (62, .iinc 1 1, 3), (65, .goto (-52), 3), (68, .bipush (-2), 2), (70, .ireturn, 1)]
theorem dk82 : ∀ r ∈ k82, decode prog_10_method_6_code r.1 = .ok r.2 := by decide +kernel
def me82 : MethodName × ByteArray × Nat × Option FieldType × Nat × List (Nat × Instr × Nat) := (⟨"BeggarBridge$Thought", "firstToFall", "()I"⟩, prog_10_method_6_code, 3, (some .int), 8, k82)
/-- BeggarBridge$Thought.meansOf(II)I -/
def k83 : List (Nat × Instr × Nat) := [(0, .aload_n 0, 1), (1, .getfield 25, 3), (4, .iload_n 1, 1), (5, .bipush 6, 2), (7, .invokevirtual 48, 3), (10, .istore_n 3, 1), (11, .aload_n 0, 1), (12, .getfield 12, 3), (15, .aload_n 0, 1), (16, .getfield 25, 3), (19, .invokevirtual 32, 3), (22, .iconst 0, 1), (23, .istore 4, 2), (25, .iload 4, 2), (27, .iload_n 2, 1), (28, .if_icmp .ge 24, 3), (31, .aload_n 0, 1), (32, .getfield 12, 3), (35, .iload_n 3, 1), (36, .iload_n 3, 1), (37, .iconst 1, 1), (38, .iadd, 1), (39, .aload_n 0, 1), (40, .getfield 28, 3), (43, .invokevirtual 44, 3), (46, .iinc 4 1, 3), (49, .goto (-24), 3), (52, .aload_n 0, 1), (53, .getfield 12, 3), (56, .iload_n 1, 1), (57, .iconst 3, 1), (58, .invokevirtual 48, 3), (61, .ireturn, 1)]
theorem dk83 : ∀ r ∈ k83, decode prog_10_method_7_code r.1 = .ok r.2 := by decide +kernel
def me83 : MethodName × ByteArray × Nat × Option FieldType × Nat × List (Nat × Instr × Nat) := (⟨"BeggarBridge$Thought", "meansOf", "(II)I"⟩, prog_10_method_7_code, 5, (some .int), 8, k83)
/-- BeggarBridge$Thought.richDay(I)I -/
def k84 : List (Nat × Instr × Nat) := [(0, .aload_n 0, 1), (1, .getfield 25, 3), (4, .iload_n 1, 1), (5, .bipush 6, 2), (7, .invokevirtual 48, 3), (10, .istore_n 2, 1), (11, .aload_n 0, 1), (12, .getfield 12, 3), (15, .aload_n 0, 1), (16, .getfield 25, 3), (19, .invokevirtual 32, 3), (22, .iconst 0, 1), (23, .istore_n 3, 1), (24, .iload_n 3, 1), (25, .bipush 60, 2), (27, .if_icmp .gt 37, 3), (30, .aload_n 0, 1), (31, .getfield 12, 3), (34, .iload_n 1, 1), (35, .invokevirtual 56, 3), (38, .ifCond .le 5, 3), (41, .iload_n 3, 1), (42, .ireturn, 1), (43, .aload_n 0, 1), (44, .getfield 12, 3), (47, .iload_n 2, 1), (48, .iload_n 2, 1), (49, .iconst 1, 1), (50, .iadd, 1), (51, .aload_n 0, 1), (52, .getfield 28, 3), (55, .invokevirtual 44, 3), (58, .iinc 3 1, 3), (61, .goto (-37), 3), (64, .bipush (-2), 2), (66, .ireturn, 1)]
theorem dk84 : ∀ r ∈ k84, decode prog_10_method_8_code r.1 = .ok r.2 := by decide +kernel
def me84 : MethodName × ByteArray × Nat × Option FieldType × Nat × List (Nat × Instr × Nat) := (⟨"BeggarBridge$Thought", "richDay", "(I)I"⟩, prog_10_method_8_code, 4, (some .int), 8, k84)
/-- BeggarBridge$Thought.fallWithout(I)I -/
def k85 : List (Nat × Instr × Nat) := [(0, .aload_n 0, 1), (1, .getfield 18, 3), (4, .aload_n 0, 1), (5, .getfield 25, 3), (8, .invokevirtual 32, 3), (11, .iconst 0, 1), (12, .istore_n 2, 1), (13, .iload_n 2, 1), (14, .aload_n 0, 1), (15, .getfield 18, 3), (18, .getfield 60, 3), (21, .if_icmp .ge 34, 3), (24, .aload_n 0, 1), (25, .getfield 18, 3), (28, .iload_n 2, 1), (29, .bipush 6, 2), (31, .invokevirtual 48, 3), (34, .iload_n 1, 1), (35, .if_icmp .ne 14, 3), (38, .aload_n 0, 1), (39, .getfield 18, 3), (42, .iload_n 2, 1), (43, .bipush 6, 2), (45, .iconst (-1), 1), (46, .invokevirtual 63, 3), (49, .iinc 2 1, 3), (52, .goto (-39), 3), (55, .aload_n 0, 1), (56, .aload_n 0, 1), (57, .getfield 18, 3), (60, .iload_n 1, 1), (61, .invokevirtual 67, 3), (64, .ireturn, 1)]
theorem dk85 : ∀ r ∈ k85, decode prog_10_method_9_code r.1 = .ok r.2 := by decide +kernel
def me85 : MethodName × ByteArray × Nat × Option FieldType × Nat × List (Nat × Instr × Nat) := (⟨"BeggarBridge$Thought", "fallWithout", "(I)I"⟩, prog_10_method_9_code, 3, (some .int), 8, k85)
/-- BeggarBridge$Thought.weighStaying(I)V -/
def k86 : List (Nat × Instr × Nat) := [(0, .aload_n 0, 1), (1, .getfield 18, 3), (4, .aload_n 0, 1), (5, .getfield 25, 3), (8, .invokevirtual 32, 3), (11, .aload_n 0, 1), (12, .iconst 0, 1), (13, .putfield 71, 3), (16, .iconst 0, 1), (17, .istore_n 2, 1), (18, .iload_n 2, 1), (19, .aload_n 0, 1), (20, .getfield 25, 3), (23, .getfield 52, 3), (26, .if_icmp .ge 49, 3), (29, .iload_n 2, 1), (30, .bipush 8, 2), (32, .if_icmp .ge 43, 3), (35, .aload_n 0, 1), (36, .getfield 21, 3), (39, .iload_n 2, 1), (40, .aload_n 0, 1), (41, .aload_n 0, 1), (42, .getfield 18, 3), (45, .iload_n 2, 1), (46, .iload_n 1, 1), (47, .invokevirtual 74, 3), (50, .iastore, 1), (51, .aload_n 0, 1), (52, .dup, 1), (53, .getfield 71, 3), (56, .aload_n 0, 1), (57, .getfield 21, 3), (60, .iload_n 2, 1), (61, .iaload, 1), (62, .invokestatic 78, 3), (65, .iadd, 1), (66, .putfield 71, 3), (69, .iinc 2 1, 3), (72, .goto (-54), 3), (75, .aload_n 0, 1), (76, .aload_n 0, 1), (77, .getfield 71, 3), (80, .putfield 81, 3), (83, .aload_n 0, 1), (84, .sipush 900, 3), (87, .putfield 84, 3), (90, .return_, 1)]
theorem dk86 : ∀ r ∈ k86, decode prog_10_method_10_code r.1 = .ok r.2 := by decide +kernel
def me86 : MethodName × ByteArray × Nat × Option FieldType × Nat × List (Nat × Instr × Nat) := (⟨"BeggarBridge$Thought", "weighStaying", "(I)V"⟩, prog_10_method_10_code, 3, none, 8, k86)
/-- BeggarBridge$Thought.weighMovesOf(II)V -/
def k87_0 : List (Nat × Instr × Nat) := [(0, .aload_n 0, 1), (1, .getfield 25, 3), (4, .iload_n 1, 1), (5, .bipush 6, 2), (7, .invokevirtual 48, 3), (10, .istore_n 3, 1), (11, .aload_n 0, 1), (12, .getfield 71, 3), (15, .istore 4, 2), (17, .aload_n 0, 1), (18, .getfield 18, 3), (21, .iload_n 1, 1), (22, .bipush 6, 2), (24, .iconst (-1), 1), (25, .invokevirtual 63, 3), (28, .aload_n 0, 1), (29, .getfield 25, 3), (32, .iload_n 3, 1), (33, .invokevirtual 87, 3), (36, .ifCond .eq 31, 3), (39, .iload 4, 2), (41, .aload_n 0, 1), (42, .aload_n 0, 1), (43, .getfield 18, 3), (46, .iload_n 3, 1), (47, .iload_n 2, 1), (48, .invokevirtual 74, 3), (51, .invokestatic 78, 3), (54, .aload_n 0, 1), (55, .getfield 21, 3), (58, .iload_n 3, 1), (59, .iaload, 1), (60, .invokestatic 78, 3), (63, .isub, 1), (64, .iadd, 1), (65, .istore 4, 2), (67, .iconst 0, 1), (68, .istore 5, 2), (70, .iload 5, 2), (72, .aload_n 0, 1), (73, .getfield 25, 3), (76, .getfield 52, 3), (79, .if_icmp .ge 73, 3), (82, .iload 5, 2), (84, .bipush 8, 2), (86, .if_icmp .ge 66, 3), (89, .iload 5, 2), (91, .iload_n 3, 1), (92, .if_icmp .eq 54, 3), (95, .aload_n 0, 1), (96, .getfield 18, 3), (99, .iload_n 1, 1), (100, .bipush 6, 2), (102, .iload 5, 2), (104, .invokevirtual 63, 3), (107, .aload_n 0, 1), (108, .iload 4, 2), (110, .aload_n 0, 1), (111, .aload_n 0, 1), (112, .getfield 18, 3)]
theorem dk87_0 : ∀ r ∈ k87_0, decode prog_10_method_11_code r.1 = .ok r.2 := by decide +kernel
def k87_1 : List (Nat × Instr × Nat) := [(115, .iload 5, 2), (117, .iload_n 2, 1), (118, .invokevirtual 74, 3), (121, .invokestatic 78, 3), (124, .iadd, 1), (125, .aload_n 0, 1), (126, .getfield 21, 3), (129, .iload 5, 2), (131, .iaload, 1), (132, .invokestatic 78, 3), (135, .isub, 1), (136, .bipush 100, 2), (138, .iload_n 1, 1), (139, .imul, 1), (140, .iload 5, 2), (142, .iadd, 1), (143, .invokevirtual 91, 3), (146, .iinc 5 1, 3), (149, .goto (-79), 3), (152, .aload_n 0, 1), (153, .iload 4, 2), (155, .bipush 100, 2), (157, .iload_n 1, 1), (158, .imul, 1), (159, .bipush 8, 2), (161, .iadd, 1), (162, .invokevirtual 91, 3), (165, .aload_n 0, 1), (166, .getfield 18, 3), (169, .iload_n 1, 1), (170, .bipush 6, 2), (172, .iload_n 3, 1), (173, .invokevirtual 63, 3), (176, .return_, 1)]
theorem dk87_1 : ∀ r ∈ k87_1, decode prog_10_method_11_code r.1 = .ok r.2 := by decide +kernel
def k87 : List (Nat × Instr × Nat) := k87_0 ++ (k87_1)
theorem dk87 : ∀ r ∈ k87, decode prog_10_method_11_code r.1 = .ok r.2 := List.forall_mem_append.mpr ⟨dk87_0, dk87_1⟩
def me87 : MethodName × ByteArray × Nat × Option FieldType × Nat × List (Nat × Instr × Nat) := (⟨"BeggarBridge$Thought", "weighMovesOf", "(II)V"⟩, prog_10_method_11_code, 6, none, 8, k87)
/-- BeggarBridge$Thought.prefer(II)V -/
def k88 : List (Nat × Instr × Nat) := [(0, .iload_n 1, 1), (1, .aload_n 0, 1), (2, .getfield 81, 3), (5, .if_icmp .le 13, 3), (8, .aload_n 0, 1), (9, .iload_n 1, 1), (10, .putfield 81, 3), (13, .aload_n 0, 1), (14, .iload_n 2, 1), (15, .putfield 84, 3), (18, .return_, 1)]
theorem dk88 : ∀ r ∈ k88, decode prog_10_method_12_code r.1 = .ok r.2 := by decide +kernel
def me88 : MethodName × ByteArray × Nat × Option FieldType × Nat × List (Nat × Instr × Nat) := (⟨"BeggarBridge$Thought", "prefer", "(II)V"⟩, prog_10_method_12_code, 3, none, 8, k88)
/-- BeggarBridge$Thought.score(I)I -/
def k89 : List (Nat × Instr × Nat) := [(0, .iload_n 0, 1), (1, .ifCond .le 11, 3), (4, .sipush 1000, 3), (7, .iload_n 0, 1), (8, .iadd, 1), (9, .goto 4, 3), (12, .iconst 0, 1), (13, .ireturn, 1)]
theorem dk89 : ∀ r ∈ k89, decode prog_10_method_13_code r.1 = .ok r.2 := by decide +kernel
def me89 : MethodName × ByteArray × Nat × Option FieldType × Nat × List (Nat × Instr × Nat) := (⟨"BeggarBridge$Thought", "score", "(I)I"⟩, prog_10_method_13_code, 1, (some .int), 8, k89)
/-- BeggarBridge$Thought.firstWrong(LBeggarBridge$County;ILBeggarBridge$Shelves;I)I -/
def k90 : List (Nat × Instr × Nat) := [(0, .aload_n 0, 1), (1, .getfield 12, 3), (4, .aload_n 1, 1), (5, .invokevirtual 32, 3), (8, .aload_n 3, 1), (9, .iload 4, 2), (11, .invokevirtual 95, 3), (14, .istore 5, 2), (16, .iconst 0, 1), (17, .istore 6, 2), (19, .iload 6, 2), (21, .iload 5, 2), (23, .if_icmp .ge 49, 3), (26, .aload_n 3, 1), (27, .iload 4, 2), (29, .iload 6, 2), (31, .invokevirtual 100, 3), (34, .aload_n 0, 1), (35, .getfield 12, 3), (38, .iload_n 2, 1), (39, .iconst 1, 1), (40, .invokevirtual 48, 3), (43, .i2l, 1), (44, .lcmp, 1), (45, .ifCond .eq 6, 3), (48, .iload 6, 2), (50, .ireturn, 1), (51, .aload_n 0, 1), (52, .getfield 12, 3), (55, .iload_n 2, 1), (56, .iload_n 2, 1), (57, .iconst 1, 1), (58, .iadd, 1), (59, .aload_n 0, 1), (60, .getfield 28, 3), (63, .invokevirtual 44, 3), (66, .iinc 6 1, 3), (69, .goto (-50), 3), (72, .bipush (-2), 2), (74, .ireturn, 1)]
theorem dk90 : ∀ r ∈ k90, decode prog_10_method_14_code r.1 = .ok r.2 := by decide +kernel
def me90 : MethodName × ByteArray × Nat × Option FieldType × Nat × List (Nat × Instr × Nat) := (⟨"BeggarBridge$Thought", "firstWrong", "(LBeggarBridge$County;ILBeggarBridge$Shelves;I)I"⟩, prog_10_method_14_code, 7, (some .int), 8, k90)
/-- BeggarBridge$Thought.tryBook(IIILBeggarBridge$Shelves;I)V -/
def k91_0 : List (Nat × Instr × Nat) := [(0, .iload_n 2, 1), (1, .iconst 3, 1), (2, .if_icmp .ne 8, 3), (5, .bipush 99, 2), (7, .goto 5, 3), (10, .bipush 9, 2), (12, .istore 6, 2), (14, .iload_n 2, 1), (15, .iconst 3, 1), (16, .if_icmp .ne 25, 3), (19, .aload_n 0, 1), (20, .getfield 25, 3), (23, .iload_n 1, 1), (24, .bipush 6, 2), (26, .invokevirtual 48, 3), (29, .iload_n 3, 1), (30, .if_icmp .ne 7, 3), (33, .iconst 1, 1), (34, .goto 17, 3), (37, .iconst 0, 1), (38, .goto 13, 3), (41, .iload_n 1, 1), (42, .iload_n 3, 1), (43, .if_icmp .ne 7, 3), (46, .iconst 1, 1), (47, .goto 4, 3), (50, .iconst 0, 1), (51, .istore 7, 2), (53, .iconst 0, 1), (54, .istore 8, 2), (56, .aload_n 0, 1), (57, .iconst 0, 1), (58, .putfield 104, 3), (61, .aload_n 0, 1), (62, .bipush (-2), 2), (64, .putfield 107, 3), (67, .aload_n 0, 1), (68, .getfield 18, 3), (71, .aload_n 0, 1), (72, .getfield 25, 3), (75, .invokevirtual 32, 3), (78, .iload 6, 2), (80, .istore 9, 2), (82, .iload 9, 2), (84, .ifCond .lt 78, 3), (87, .iload 9, 2), (89, .iload 6, 2), (91, .if_icmp .eq 8, 3), (94, .iload 7, 2), (96, .ifCond .eq 39, 3), (99, .aload_n 0, 1), (100, .getfield 18, 3), (103, .iload_n 1, 1), (104, .iload_n 2, 1), (105, .iload 9, 2), (107, .invokevirtual 63, 3), (110, .aload_n 0, 1), (111, .aload_n 0, 1), (112, .getfield 18, 3), (115, .iload_n 3, 1)]
theorem dk91_0 : ∀ r ∈ k91_0, decode prog_10_method_15_code r.1 = .ok r.2 := by decide +kernel
def k91_1 : List (Nat × Instr × Nat) := [(116, .aload 4, 2), (118, .iload 5, 2), (120, .invokevirtual 110, 3), (123, .bipush (-2), 2), (125, .if_icmp .ne 7, 3), (128, .iconst 1, 1), (129, .goto 4, 3), (132, .iconst 0, 1), (133, .istore 8, 2), (135, .iload 8, 2), (137, .ifCond .eq 19, 3), (140, .aload_n 0, 1), (141, .dup, 1), (142, .getfield 104, 3), (145, .iconst 1, 1), (146, .iadd, 1), (147, .putfield 104, 3), (150, .aload_n 0, 1), (151, .iload 9, 2), (153, .putfield 107, 3), (156, .iinc 9 (-1), 3), (159, .goto (-77), 3), (162, .return_, 1)]
theorem dk91_1 : ∀ r ∈ k91_1, decode prog_10_method_15_code r.1 = .ok r.2 := by decide +kernel
def k91 : List (Nat × Instr × Nat) := k91_0 ++ (k91_1)
theorem dk91 : ∀ r ∈ k91, decode prog_10_method_15_code r.1 = .ok r.2 := List.forall_mem_append.mpr ⟨dk91_0, dk91_1⟩
def me91 : MethodName × ByteArray × Nat × Option FieldType × Nat × List (Nat × Instr × Nat) := (⟨"BeggarBridge$Thought", "tryBook", "(IIILBeggarBridge$Shelves;I)V"⟩, prog_10_method_15_code, 10, none, 8, k91)
/-- BeggarBridge$Thought.drawnStanding(IIIII)I -/
def k92_0 : List (Nat × Instr × Nat) := [(0, .iload 5, 2), (2, .iconst (-1), 1), (3, .if_icmp .ne 7, 3), (6, .iconst (-1), 1), (7, .goto 5, 3), (10, .iload 5, 2), (12, .istore 6, 2), (14, .iload 5, 2), (16, .iconst (-1), 1), (17, .if_icmp .ne 13, 3), (20, .aload_n 0, 1), (21, .getfield 25, 3), (24, .getfield 52, 3), (27, .goto 7, 3), (30, .iload 5, 2), (32, .iconst 1, 1), (33, .iadd, 1), (34, .istore 7, 2), (36, .iconst 0, 1), (37, .istore 8, 2), (39, .iload_n 1, 1), (40, .istore 9, 2), (42, .iconst 0, 1), (43, .istore 10, 2), (45, .iload 10, 2), (47, .iload_n 2, 1), (48, .if_icmp .ge 149, 3), (51, .aload_n 0, 1), (52, .getfield 12, 3), (55, .aload_n 0, 1), (56, .getfield 25, 3), (59, .invokevirtual 32, 3), (62, .iconst 0, 1), (63, .istore 11, 2), (65, .iload 11, 2), (67, .iload_n 3, 1), (68, .if_icmp .ge 88, 3), (71, .iload 9, 2), (73, .ldc 114, 2), (75, .imul, 1), (76, .sipush 12345, 3), (79, .iadd, 1), (80, .istore 9, 2), (82, .iload 9, 2), (84, .bipush 24, 2), (86, .iushr, 1), (87, .bipush 12, 2), (89, .irem, 1), (90, .iload 4, 2), (92, .if_icmp .ge 43, 3), (95, .aload_n 0, 1), (96, .getfield 12, 3), (99, .getfield 60, 3), (102, .ifCond .le 33, 3), (105, .aload_n 0, 1), (106, .getfield 12, 3), (109, .iload 9, 2), (111, .bipush 8, 2), (113, .iushr, 1), (114, .aload_n 0, 1)]
theorem dk92_0 : ∀ r ∈ k92_0, decode prog_10_method_16_code r.1 = .ok r.2 := by decide +kernel
def k92_1 : List (Nat × Instr × Nat) := [(115, .getfield 12, 3), (118, .getfield 60, 3), (121, .irem, 1), (122, .iconst 3, 1), (123, .iload 9, 2), (125, .bipush 16, 2), (127, .iushr, 1), (128, .bipush 30, 2), (130, .irem, 1), (131, .invokevirtual 115, 3), (134, .pop, 1), (135, .aload_n 0, 1), (136, .getfield 12, 3), (139, .iload 6, 2), (141, .iload 7, 2), (143, .aload_n 0, 1), (144, .getfield 28, 3), (147, .invokevirtual 44, 3), (150, .iinc 11 1, 3), (153, .goto (-88), 3), (156, .aload_n 0, 1), (157, .getfield 12, 3), (160, .invokevirtual 119, 3), (163, .istore 11, 2), (165, .iload 8, 2), (167, .iload 5, 2), (169, .iconst (-1), 1), (170, .if_icmp .ne 11, 3), (173, .iload 11, 2), (175, .invokestatic 123, 3), (178, .goto 10, 3), (181, .iload 11, 2), (183, .iload 5, 2), (185, .ishr, 1), (186, .iconst 1, 1), (187, .iand, 1), (188, .iadd, 1), (189, .istore 8, 2), (191, .iinc 10 1, 3), (194, .goto (-149), 3), (197, .iload 8, 2), (199, .ireturn, 1)]
theorem dk92_1 : ∀ r ∈ k92_1, decode prog_10_method_16_code r.1 = .ok r.2 := by decide +kernel
def k92 : List (Nat × Instr × Nat) := k92_0 ++ (k92_1)
theorem dk92 : ∀ r ∈ k92, decode prog_10_method_16_code r.1 = .ok r.2 := List.forall_mem_append.mpr ⟨dk92_0, dk92_1⟩
def me92 : MethodName × ByteArray × Nat × Option FieldType × Nat × List (Nat × Instr × Nat) := (⟨"BeggarBridge$Thought", "drawnStanding", "(IIIII)I"⟩, prog_10_method_16_code, 12, (some .int), 8, k92)
/-- BeggarBridge$Turns.begin(LBeggarBridge$County;III)V -/
def k93 : List (Nat × Instr × Nat) := [(0, .aload_n 0, 1), (1, .getfield 12, 3), (4, .aload_n 1, 1), (5, .invokevirtual 22, 3), (8, .aload_n 0, 1), (9, .iload_n 2, 1), (10, .putfield 26, 3), (13, .aload_n 0, 1), (14, .iload 4, 2), (16, .putfield 30, 3), (19, .aload_n 0, 1), (20, .iload_n 3, 1), (21, .putfield 33, 3), (24, .aload_n 0, 1), (25, .bipush 9, 2), (27, .putfield 36, 3), (30, .return_, 1)]
theorem dk93 : ∀ r ∈ k93, decode prog_11_method_2_code r.1 = .ok r.2 := by decide +kernel
def me93 : MethodName × ByteArray × Nat × Option FieldType × Nat × List (Nat × Instr × Nat) := (⟨"BeggarBridge$Turns", "begin", "(LBeggarBridge$County;III)V"⟩, prog_11_method_2_code, 5, none, 9, k93)
/-- BeggarBridge$Turns.outcome(III)I -/
def k94 : List (Nat × Instr × Nat) := [(0, .iload_n 1, 1), (1, .ifCond .gt 23, 3), (4, .aload_n 0, 1), (5, .getfield 18, 3), (8, .aload_n 0, 1), (9, .getfield 12, 3), (12, .aload_n 0, 1), (13, .getfield 26, 3), (16, .aload_n 0, 1), (17, .getfield 30, 3), (20, .invokevirtual 39, 3), (23, .ireturn, 1), (24, .aload_n 0, 1), (25, .getfield 33, 3), (28, .iload_n 1, 1), (29, .isub, 1), (30, .iconst 2, 1), (31, .irem, 1), (32, .ifCond .ne 13, 3), (35, .aload_n 0, 1), (36, .iload_n 1, 1), (37, .iload_n 2, 1), (38, .iload_n 3, 1), (39, .invokevirtual 45, 3), (42, .goto 10, 3), (45, .aload_n 0, 1), (46, .iload_n 1, 1), (47, .iload_n 2, 1), (48, .iload_n 3, 1), (49, .invokevirtual 49, 3), (52, .ireturn, 1)]
theorem dk94 : ∀ r ∈ k94, decode prog_11_method_3_code r.1 = .ok r.2 := by decide +kernel
def me94 : MethodName × ByteArray × Nat × Option FieldType × Nat × List (Nat × Instr × Nat) := (⟨"BeggarBridge$Turns", "outcome", "(III)I"⟩, prog_11_method_3_code, 4, (some .int), 9, k94)
/-- BeggarBridge$Turns.engineer(III)I -/
def k95_0 : List (Nat × Instr × Nat) := [(0, .aload_n 0, 1), (1, .iload_n 1, 1), (2, .iconst 1, 1), (3, .isub, 1), (4, .iload_n 2, 1), (5, .iload_n 3, 1), (6, .invokevirtual 52, 3), (9, .istore 4, 2), (11, .bipush 9, 2), (13, .istore 5, 2), (15, .iconst 0, 1), (16, .istore 6, 2), (18, .iload 6, 2), (20, .aload_n 0, 1), (21, .getfield 12, 3), (24, .getfield 55, 3), (27, .if_icmp .ge 96, 3), (30, .iload 4, 2), (32, .iload_n 3, 1), (33, .if_icmp .ge 90, 3), (36, .aload_n 0, 1), (37, .getfield 12, 3), (40, .iload 6, 2), (42, .bipush 6, 2), (44, .invokevirtual 58, 3), (47, .istore 7, 2), (49, .iload 7, 2), (51, .aload_n 0, 1), (52, .getfield 26, 3), (55, .if_icmp .eq 62, 3), (58, .aload_n 0, 1), (59, .getfield 12, 3), (62, .iload 6, 2), (64, .bipush 6, 2), (66, .aload_n 0, 1), (67, .getfield 26, 3), (70, .invokevirtual 62, 3), (73, .aload_n 0, 1), (74, .iload_n 1, 1), (75, .iconst 1, 1), (76, .isub, 1), (77, .iload_n 2, 1), (78, .iload 4, 2), (80, .invokestatic 66, 3), (83, .iload_n 3, 1), (84, .invokevirtual 52, 3), (87, .istore 8, 2), (89, .aload_n 0, 1), (90, .getfield 12, 3), (93, .iload 6, 2), (95, .bipush 6, 2), (97, .iload 7, 2), (99, .invokevirtual 62, 3), (102, .iload 8, 2), (104, .iload 4, 2), (106, .if_icmp .le 11, 3), (109, .iload 8, 2), (111, .istore 4, 2), (113, .iload 6, 2), (115, .istore 5, 2)]
theorem dk95_0 : ∀ r ∈ k95_0, decode prog_11_method_4_code r.1 = .ok r.2 := by decide +kernel
def k95_1 : List (Nat × Instr × Nat) := [(117, .iinc 6 1, 3), (120, .goto (-102), 3), (123, .iload_n 1, 1), (124, .aload_n 0, 1), (125, .getfield 33, 3), (128, .if_icmp .ne 9, 3), (131, .aload_n 0, 1), (132, .iload 5, 2), (134, .putfield 36, 3), (137, .iload 4, 2), (139, .ireturn, 1)]
theorem dk95_1 : ∀ r ∈ k95_1, decode prog_11_method_4_code r.1 = .ok r.2 := by decide +kernel
def k95 : List (Nat × Instr × Nat) := k95_0 ++ (k95_1)
theorem dk95 : ∀ r ∈ k95, decode prog_11_method_4_code r.1 = .ok r.2 := List.forall_mem_append.mpr ⟨dk95_0, dk95_1⟩
def me95 : MethodName × ByteArray × Nat × Option FieldType × Nat × List (Nat × Instr × Nat) := (⟨"BeggarBridge$Turns", "engineer", "(III)I"⟩, prog_11_method_4_code, 9, (some .int), 9, k95)
/-- BeggarBridge$Turns.banker(III)I -/
def k96 : List (Nat × Instr × Nat) := [(0, .aload_n 0, 1), (1, .iload_n 1, 1), (2, .iconst 1, 1), (3, .isub, 1), (4, .iload_n 2, 1), (5, .iload_n 3, 1), (6, .invokevirtual 52, 3), (9, .istore 4, 2), (11, .iconst 0, 1), (12, .istore 5, 2), (14, .iload 5, 2), (16, .aload_n 0, 1), (17, .getfield 12, 3), (20, .getfield 55, 3), (23, .if_icmp .ge 80, 3), (26, .iload 4, 2), (28, .iload_n 2, 1), (29, .if_icmp .le 74, 3), (32, .aload_n 0, 1), (33, .getfield 12, 3), (36, .iload 5, 2), (38, .iconst 3, 1), (39, .invokevirtual 58, 3), (42, .istore 6, 2), (44, .iload 6, 2), (46, .bipush 99, 2), (48, .if_icmp .ge 49, 3), (51, .aload_n 0, 1), (52, .getfield 12, 3), (55, .iload 5, 2), (57, .iconst 3, 1), (58, .bipush 20, 2), (60, .invokevirtual 71, 3), (63, .pop, 1), (64, .iload 4, 2), (66, .aload_n 0, 1), (67, .iload_n 1, 1), (68, .iconst 1, 1), (69, .isub, 1), (70, .iload_n 2, 1), (71, .iload_n 3, 1), (72, .iload 4, 2), (74, .invokestatic 74, 3), (77, .invokevirtual 52, 3), (80, .invokestatic 74, 3), (83, .istore 4, 2), (85, .aload_n 0, 1), (86, .getfield 12, 3), (89, .iload 5, 2), (91, .iconst 3, 1), (92, .iload 6, 2), (94, .invokevirtual 62, 3), (97, .iinc 5 1, 3), (100, .goto (-86), 3), (103, .iload 4, 2), (105, .ireturn, 1)]
theorem dk96 : ∀ r ∈ k96, decode prog_11_method_5_code r.1 = .ok r.2 := by decide +kernel
def me96 : MethodName × ByteArray × Nat × Option FieldType × Nat × List (Nat × Instr × Nat) := (⟨"BeggarBridge$Turns", "banker", "(III)I"⟩, prog_11_method_5_code, 7, (some .int), 9, k96)
/-- BeggarBridge$Ways.cheapest(II)I -/
def k97_0 : List (Nat × Instr × Nat) := [(0, .iload_n 1, 1), (1, .iconst 0, 1), (2, .bipush 7, 2), (4, .invokestatic 19, 3), (7, .ifCond .eq 13, 3), (10, .iload_n 2, 1), (11, .iconst 0, 1), (12, .bipush 7, 2), (14, .invokestatic 19, 3), (17, .ifCond .ne 5, 3), (20, .iconst (-1), 1), (21, .ireturn, 1), (22, .aload_n 0, 1), (23, .getfield 9, 3), (26, .ldc 23, 2), (28, .invokestatic 24, 3), (31, .aload_n 0, 1), (32, .getfield 9, 3), (35, .iload_n 1, 1), (36, .iconst 0, 1), (37, .iastore, 1), (38, .aload_n 0, 1), (39, .getfield 15, 3), (42, .invokevirtual 30, 3), (45, .istore_n 3, 1), (46, .iconst 1, 1), (47, .istore 4, 2), (49, .iload 4, 2), (51, .bipush 8, 2), (53, .if_icmp .ge 45, 3), (56, .iconst 0, 1), (57, .istore 5, 2), (59, .iload 5, 2), (61, .aload_n 0, 1), (62, .getfield 15, 3), (65, .getfield 36, 3), (68, .if_icmp .ge 24, 3), (71, .iload_n 3, 1), (72, .iload 5, 2), (74, .ishr, 1), (75, .iconst 1, 1), (76, .iand, 1), (77, .ifCond .eq 9, 3), (80, .aload_n 0, 1), (81, .iload 5, 2), (83, .invokevirtual 40, 3), (86, .iinc 5 1, 3), (89, .goto (-30), 3), (92, .iinc 4 1, 3), (95, .goto (-46), 3), (98, .aload_n 0, 1), (99, .getfield 9, 3), (102, .iload_n 2, 1), (103, .iaload, 1), (104, .ldc 23, 2), (106, .if_icmp .lt 7, 3), (109, .iconst (-1), 1), (110, .goto 9, 3), (113, .aload_n 0, 1), (114, .getfield 9, 3)]
theorem dk97_0 : ∀ r ∈ k97_0, decode prog_12_method_2_code r.1 = .ok r.2 := by decide +kernel
def k97_1 : List (Nat × Instr × Nat) := [(117, .iload_n 2, 1), (118, .iaload, 1), (119, .ireturn, 1)]
theorem dk97_1 : ∀ r ∈ k97_1, decode prog_12_method_2_code r.1 = .ok r.2 := by decide +kernel
def k97 : List (Nat × Instr × Nat) := k97_0 ++ (k97_1)
theorem dk97 : ∀ r ∈ k97, decode prog_12_method_2_code r.1 = .ok r.2 := List.forall_mem_append.mpr ⟨dk97_0, dk97_1⟩
def me97 : MethodName × ByteArray × Nat × Option FieldType × Nat × List (Nat × Instr × Nat) := (⟨"BeggarBridge$Ways", "cheapest", "(II)I"⟩, prog_12_method_2_code, 6, (some .int), 10, k97)
/-- BeggarBridge$Ways.shorten(I)V -/
def k98_0 : List (Nat × Instr × Nat) := [(0, .aload_n 0, 1), (1, .getfield 15, 3), (4, .iload_n 1, 1), (5, .bipush 9, 2), (7, .invokevirtual 44, 3), (10, .istore_n 2, 1), (11, .aload_n 0, 1), (12, .getfield 15, 3), (15, .iload_n 1, 1), (16, .bipush 10, 2), (18, .invokevirtual 44, 3), (21, .istore_n 3, 1), (22, .aload_n 0, 1), (23, .getfield 15, 3), (26, .iload_n 1, 1), (27, .iconst 0, 1), (28, .invokevirtual 44, 3), (31, .bipush 100, 2), (33, .imul, 1), (34, .iconst 1, 1), (35, .iadd, 1), (36, .istore 4, 2), (38, .iload_n 2, 1), (39, .iconst 0, 1), (40, .bipush 7, 2), (42, .invokestatic 19, 3), (45, .ifCond .eq 61, 3), (48, .iload_n 3, 1), (49, .iconst 0, 1), (50, .bipush 7, 2), (52, .invokestatic 19, 3), (55, .ifCond .eq 51, 3), (58, .aload_n 0, 1), (59, .getfield 9, 3), (62, .iload_n 3, 1), (63, .aload_n 0, 1), (64, .getfield 9, 3), (67, .iload_n 3, 1), (68, .iaload, 1), (69, .aload_n 0, 1), (70, .getfield 9, 3), (73, .iload_n 2, 1), (74, .iaload, 1), (75, .iload 4, 2), (77, .iadd, 1), (78, .invokestatic 48, 3), (81, .iastore, 1), (82, .aload_n 0, 1), (83, .getfield 9, 3), (86, .iload_n 2, 1), (87, .aload_n 0, 1), (88, .getfield 9, 3), (91, .iload_n 2, 1), (92, .iaload, 1), (93, .aload_n 0, 1), (94, .getfield 9, 3), (97, .iload_n 3, 1), (98, .iaload, 1), (99, .iload 4, 2), (101, .iadd, 1)]
theorem dk98_0 : ∀ r ∈ k98_0, decode prog_12_method_3_code r.1 = .ok r.2 := by decide +kernel
def k98_1 : List (Nat × Instr × Nat) := [(102, .invokestatic 48, 3), (105, .iastore, 1), (106, .return_, 1)]
theorem dk98_1 : ∀ r ∈ k98_1, decode prog_12_method_3_code r.1 = .ok r.2 := by decide +kernel
def k98 : List (Nat × Instr × Nat) := k98_0 ++ (k98_1)
theorem dk98 : ∀ r ∈ k98, decode prog_12_method_3_code r.1 = .ok r.2 := List.forall_mem_append.mpr ⟨dk98_0, dk98_1⟩
def me98 : MethodName × ByteArray × Nat × Option FieldType × Nat × List (Nat × Instr × Nat) := (⟨"BeggarBridge$Ways", "shorten", "(I)V"⟩, prog_12_method_3_code, 5, none, 10, k98)
/-- BeggarBridge$Ways.isWay(III)Z -/
def k99_0 : List (Nat × Instr × Nat) := [(0, .iconst 1, 1), (1, .iload_n 1, 1), (2, .ishl, 1), (3, .istore 4, 2), (5, .iconst 1, 1), (6, .istore 5, 2), (8, .iload 5, 2), (10, .bipush 8, 2), (12, .if_icmp .ge 97, 3), (15, .iload 4, 2), (17, .istore 6, 2), (19, .iconst 0, 1), (20, .istore 7, 2), (22, .iload 7, 2), (24, .aload_n 0, 1), (25, .getfield 15, 3), (28, .getfield 36, 3), (31, .if_icmp .ge 62, 3), (34, .iconst 1, 1), (35, .aload_n 0, 1), (36, .getfield 15, 3), (39, .iload 7, 2), (41, .bipush 9, 2), (43, .invokevirtual 44, 3), (46, .ishl, 1), (47, .iconst 1, 1), (48, .aload_n 0, 1), (49, .getfield 15, 3), (52, .iload 7, 2), (54, .bipush 10, 2), (56, .invokevirtual 44, 3), (59, .ishl, 1), (60, .ior, 1), (61, .istore 8, 2), (63, .iload_n 3, 1), (64, .iload 7, 2), (66, .ishr, 1), (67, .iconst 1, 1), (68, .iand, 1), (69, .ifCond .eq 18, 3), (72, .iload 4, 2), (74, .iload 8, 2), (76, .iand, 1), (77, .ifCond .eq 10, 3), (80, .iload 4, 2), (82, .iload 8, 2), (84, .ior, 1), (85, .istore 4, 2), (87, .iinc 7 1, 3), (90, .goto (-68), 3), (93, .iload 4, 2), (95, .iload 6, 2), (97, .if_icmp .ne 6, 3), (100, .goto 9, 3), (103, .iinc 5 1, 3), (106, .goto (-98), 3), (109, .iload 4, 2), (111, .iload_n 2, 1), (112, .ishr, 1), (113, .iconst 1, 1)]
theorem dk99_0 : ∀ r ∈ k99_0, decode prog_12_method_4_code r.1 = .ok r.2 := by decide +kernel
def k99_1 : List (Nat × Instr × Nat) := [(114, .iand, 1), (115, .ifCond .eq 7, 3), (118, .iconst 1, 1), (119, .goto 4, 3), (122, .iconst 0, 1), (123, .ireturn, 1)]
theorem dk99_1 : ∀ r ∈ k99_1, decode prog_12_method_4_code r.1 = .ok r.2 := by decide +kernel
def k99 : List (Nat × Instr × Nat) := k99_0 ++ (k99_1)
theorem dk99 : ∀ r ∈ k99, decode prog_12_method_4_code r.1 = .ok r.2 := List.forall_mem_append.mpr ⟨dk99_0, dk99_1⟩
def me99 : MethodName × ByteArray × Nat × Option FieldType × Nat × List (Nat × Instr × Nat) := (⟨"BeggarBridge$Ways", "isWay", "(III)Z"⟩, prog_12_method_4_code, 9, (some .boolean), 10, k99)
end
section
/-! generated by wip/whole/gen.py: the code of methods 100 .. 144 as data -/
/-- BeggarBridge$Ways.parting(II)I -/
def k100 : List (Nat × Instr × Nat) := [(0, .aload_n 0, 1), (1, .getfield 15, 3), (4, .invokevirtual 30, 3), (7, .istore_n 3, 1), (8, .iload_n 3, 1), (9, .istore 4, 2), (11, .bipush 9, 2), (13, .istore 5, 2), (15, .iconst 0, 1), (16, .istore 6, 2), (18, .iload 6, 2), (20, .iload_n 3, 1), (21, .if_icmp .gt 66, 3), (24, .iload 6, 2), (26, .iload_n 3, 1), (27, .iconst (-1), 1), (28, .ixor, 1), (29, .iand, 1), (30, .ifCond .ne 17, 3), (33, .iload 6, 2), (35, .invokestatic 53, 3), (38, .iload 5, 2), (40, .if_icmp .ge 7, 3), (43, .iconst 1, 1), (44, .goto 4, 3), (47, .iconst 0, 1), (48, .istore 7, 2), (50, .iload 7, 2), (52, .ifCond .eq 29, 3), (55, .aload_n 0, 1), (56, .iload_n 1, 1), (57, .iload_n 2, 1), (58, .iload_n 3, 1), (59, .iload 6, 2), (61, .iconst (-1), 1), (62, .ixor, 1), (63, .iand, 1), (64, .invokevirtual 59, 3), (67, .ifCond .ne 14, 3), (70, .iload 6, 2), (72, .istore 4, 2), (74, .iload 6, 2), (76, .invokestatic 53, 3), (79, .istore 5, 2), (81, .iinc 6 1, 3), (84, .goto (-66), 3), (87, .iload 4, 2), (89, .ireturn, 1)]
theorem dk100 : ∀ r ∈ k100, decode prog_12_method_5_code r.1 = .ok r.2 := by decide +kernel
def me100 : MethodName × ByteArray × Nat × Option FieldType × Nat × List (Nat × Instr × Nat) := (⟨"BeggarBridge$Ways", "parting", "(II)I"⟩, prog_12_method_5_code, 8, (some .int), 10, k100)
/-- BeggarBridge$Ways.neededOnes()I -/
def k101 : List (Nat × Instr × Nat) := [(0, .aload_n 0, 1), (1, .getfield 15, 3), (4, .invokevirtual 30, 3), (7, .istore_n 1, 1), (8, .iconst 0, 1), (9, .istore_n 2, 1), (10, .iconst 0, 1), (11, .istore_n 3, 1), (12, .iload_n 3, 1), (13, .aload_n 0, 1), (14, .getfield 15, 3), (17, .getfield 36, 3), (20, .if_icmp .ge 59, 3), (23, .iconst 1, 1), (24, .iload_n 3, 1), (25, .ishl, 1), (26, .istore 4, 2), (28, .iload_n 1, 1), (29, .iload 4, 2), (31, .iand, 1), (32, .ifCond .eq 41, 3), (35, .aload_n 0, 1), (36, .aload_n 0, 1), (37, .getfield 15, 3), (40, .iload_n 3, 1), (41, .bipush 9, 2), (43, .invokevirtual 44, 3), (46, .aload_n 0, 1), (47, .getfield 15, 3), (50, .iload_n 3, 1), (51, .bipush 10, 2), (53, .invokevirtual 44, 3), (56, .iload_n 1, 1), (57, .iload 4, 2), (59, .iconst (-1), 1), (60, .ixor, 1), (61, .iand, 1), (62, .invokevirtual 59, 3), (65, .ifCond .ne 8, 3), (68, .iload_n 2, 1), (69, .iload 4, 2), (71, .ior, 1), (72, .istore_n 2, 1), (73, .iinc 3 1, 3), (76, .goto (-64), 3), (79, .iload_n 2, 1), (80, .ireturn, 1)]
theorem dk101 : ∀ r ∈ k101, decode prog_12_method_6_code r.1 = .ok r.2 := by decide +kernel
def me101 : MethodName × ByteArray × Nat × Option FieldType × Nat × List (Nat × Instr × Nat) := (⟨"BeggarBridge$Ways", "neededOnes", "()I"⟩, prog_12_method_6_code, 5, (some .int), 10, k101)
/-- BeggarBridge.bridge(II)I -/
def k102 : List (Nat × Instr × Nat) := [(0, .iload_n 1, 1), (1, .invokestatic 92, 3), (4, .ifCond .eq 15, 3), (7, .aload_n 0, 1), (8, .getfield 10, 3), (11, .iconst 0, 1), (12, .iload_n 2, 1), (13, .invokevirtual 96, 3), (16, .ifCond .ne 5, 3), (19, .iconst (-1), 1), (20, .ireturn, 1), (21, .aload_n 0, 1), (22, .getfield 10, 3), (25, .iload_n 1, 1), (26, .bipush 10, 2), (28, .idiv, 1), (29, .iload_n 1, 1), (30, .bipush 10, 2), (32, .irem, 1), (33, .iload_n 2, 1), (34, .invokevirtual 100, 3), (37, .ireturn, 1)]
theorem dk102 : ∀ r ∈ k102, decode prog_1_method_2_code r.1 = .ok r.2 := by decide +kernel
def me102 : MethodName × ByteArray × Nat × Option FieldType × Nat × List (Nat × Instr × Nat) := (⟨"BeggarBridge", "bridge", "(II)I"⟩, prog_1_method_2_code, 3, (some .int), 11, k102)
/-- BeggarBridge.beggar(II)I -/
def k103 : List (Nat × Instr × Nat) := [(0, .aload_n 0, 1), (1, .getfield 10, 3), (4, .iconst 4, 1), (5, .iload_n 1, 1), (6, .invokevirtual 96, 3), (9, .ifCond .eq 15, 3), (12, .aload_n 0, 1), (13, .getfield 10, 3), (16, .iconst 5, 1), (17, .iload_n 2, 1), (18, .invokevirtual 96, 3), (21, .ifCond .ne 5, 3), (24, .iconst (-1), 1), (25, .ireturn, 1), (26, .aload_n 0, 1), (27, .getfield 10, 3), (30, .iconst 0, 1), (31, .iload_n 1, 1), (32, .iload_n 2, 1), (33, .iconst (-1), 1), (34, .invokevirtual 104, 3), (37, .ireturn, 1)]
theorem dk103 : ∀ r ∈ k103, decode prog_1_method_3_code r.1 = .ok r.2 := by decide +kernel
def me103 : MethodName × ByteArray × Nat × Option FieldType × Nat × List (Nat × Instr × Nat) := (⟨"BeggarBridge", "beggar", "(II)I"⟩, prog_1_method_3_code, 3, (some .int), 11, k103)
/-- BeggarBridge.beggars(III)I -/
def k104_0 : List (Nat × Instr × Nat) := [(0, .aload_n 0, 1), (1, .getfield 88, 3), (4, .iload_n 1, 1), (5, .invokevirtual 108, 3), (8, .ifCond .eq 13, 3), (11, .iload_n 3, 1), (12, .iconst 1, 1), (13, .bipush 9, 2), (15, .invokestatic 111, 3), (18, .ifCond .ne 5, 3), (21, .iconst (-1), 1), (22, .ireturn, 1), (23, .aload_n 0, 1), (24, .getfield 88, 3), (27, .iload_n 1, 1), (28, .invokevirtual 115, 3), (31, .istore 4, 2), (33, .iload 4, 2), (35, .ifCond .eq 17, 3), (38, .iload 4, 2), (40, .bipush (-11), 2), (42, .if_icmp .ne 7, 3), (45, .iconst 0, 1), (46, .goto 5, 3), (49, .iload 4, 2), (51, .ireturn, 1), (52, .iconst 0, 1), (53, .istore 5, 2), (55, .iload_n 2, 1), (56, .i2l, 1), (57, .lstore 6, 2), (59, .iload 5, 2), (61, .iload_n 3, 1), (62, .if_icmp .ge 54, 3), (65, .lload 6, 2), (67, .lconst 0, 1), (68, .lcmp, 1), (69, .ifCond .lt 47, 3), (72, .lload 6, 2), (74, .ldc2_w 119, 3), (77, .ladd, 1), (78, .aload_n 0, 1), (79, .getfield 88, 3), (82, .iload_n 1, 1), (83, .invokevirtual 121, 3), (86, .i2l, 1), (87, .lcmp, 1), (88, .ifCond .gt 28, 3), (91, .aload_n 0, 1), (92, .iload_n 1, 1), (93, .lload 6, 2), (95, .l2i, 1), (96, .invokevirtual 124, 3), (99, .ifCond .eq 17, 3), (102, .iinc 5 1, 3), (105, .lload 6, 2), (107, .ldc2_w 119, 3), (110, .ladd, 1), (111, .lstore 6, 2), (113, .goto (-54), 3)]
theorem dk104_0 : ∀ r ∈ k104_0, decode prog_1_method_4_code r.1 = .ok r.2 := by decide +kernel
def k104_1 : List (Nat × Instr × Nat) := [(116, .iload 5, 2), (118, .ireturn, 1)]
theorem dk104_1 : ∀ r ∈ k104_1, decode prog_1_method_4_code r.1 = .ok r.2 := by decide +kernel
def k104 : List (Nat × Instr × Nat) := k104_0 ++ (k104_1)
theorem dk104 : ∀ r ∈ k104, decode prog_1_method_4_code r.1 = .ok r.2 := List.forall_mem_append.mpr ⟨dk104_0, dk104_1⟩
def me104 : MethodName × ByteArray × Nat × Option FieldType × Nat × List (Nat × Instr × Nat) := (⟨"BeggarBridge", "beggars", "(III)I"⟩, prog_1_method_4_code, 8, (some .int), 11, k104)
/-- BeggarBridge.comes(II)Z -/
def k105_0 : List (Nat × Instr × Nat) := [(0, .aload_n 0, 1), (1, .getfield 88, 3), (4, .iload_n 1, 1), (5, .iload_n 2, 1), (6, .invokevirtual 127, 3), (9, .l2i, 1), (10, .istore_n 3, 1), (11, .aload_n 0, 1), (12, .getfield 88, 3), (15, .iload_n 1, 1), (16, .iload_n 2, 1), (17, .iconst 1, 1), (18, .iadd, 1), (19, .invokevirtual 127, 3), (22, .l2i, 1), (23, .istore 4, 2), (25, .aload_n 0, 1), (26, .getfield 88, 3), (29, .iload_n 1, 1), (30, .iload_n 2, 1), (31, .iconst 2, 1), (32, .iadd, 1), (33, .invokevirtual 127, 3), (36, .l2i, 1), (37, .istore 5, 2), (39, .aload_n 0, 1), (40, .getfield 88, 3), (43, .iload_n 1, 1), (44, .iload_n 2, 1), (45, .iconst 3, 1), (46, .iadd, 1), (47, .invokevirtual 127, 3), (50, .l2i, 1), (51, .istore 6, 2), (53, .aload_n 0, 1), (54, .getfield 10, 3), (57, .iconst 3, 1), (58, .iload_n 3, 1), (59, .invokevirtual 96, 3), (62, .ifCond .eq 47, 3), (65, .aload_n 0, 1), (66, .getfield 10, 3), (69, .iconst 4, 1), (70, .iload 4, 2), (72, .invokevirtual 96, 3), (75, .ifCond .eq 34, 3), (78, .aload_n 0, 1), (79, .getfield 10, 3), (82, .iconst 5, 1), (83, .iload 5, 2), (85, .invokevirtual 96, 3), (88, .ifCond .eq 21, 3), (91, .aload_n 0, 1), (92, .getfield 10, 3), (95, .bipush 6, 2), (97, .iload 6, 2), (99, .invokevirtual 96, 3), (102, .ifCond .eq 7, 3), (105, .iconst 1, 1), (106, .goto 4, 3)]
theorem dk105_0 : ∀ r ∈ k105_0, decode prog_1_method_5_code r.1 = .ok r.2 := by decide +kernel
def k105_1 : List (Nat × Instr × Nat) := [(109, .iconst 0, 1), (110, .istore 7, 2), (112, .iload 7, 2), (114, .ifCond .eq 24, 3), (117, .aload_n 0, 1), (118, .getfield 10, 3), (121, .iload_n 3, 1), (122, .iload 4, 2), (124, .iload 5, 2), (126, .iload 6, 2), (128, .invokevirtual 104, 3), (131, .ifCond .lt 7, 3), (134, .iconst 1, 1), (135, .goto 4, 3), (138, .iconst 0, 1), (139, .ireturn, 1)]
theorem dk105_1 : ∀ r ∈ k105_1, decode prog_1_method_5_code r.1 = .ok r.2 := by decide +kernel
def k105 : List (Nat × Instr × Nat) := k105_0 ++ (k105_1)
theorem dk105 : ∀ r ∈ k105, decode prog_1_method_5_code r.1 = .ok r.2 := List.forall_mem_append.mpr ⟨dk105_0, dk105_1⟩
def me105 : MethodName × ByteArray × Nat × Option FieldType × Nat × List (Nat × Instr × Nat) := (⟨"BeggarBridge", "comes", "(II)Z"⟩, prog_1_method_5_code, 8, (some .boolean), 11, k105)
/-- BeggarBridge.mend(III)I -/
def k106 : List (Nat × Instr × Nat) := [(0, .iload_n 2, 1), (1, .iconst 0, 1), (2, .bipush 8, 2), (4, .invokestatic 111, 3), (7, .ifCond .eq 27, 3), (10, .aload_n 0, 1), (11, .getfield 10, 3), (14, .iload_n 1, 1), (15, .iload_n 2, 1), (16, .invokevirtual 131, 3), (19, .ifCond .eq 15, 3), (22, .aload_n 0, 1), (23, .getfield 10, 3), (26, .iload_n 2, 1), (27, .iload_n 3, 1), (28, .invokevirtual 96, 3), (31, .ifCond .ne 6, 3), (34, .ldc 134, 2), (36, .ireturn, 1), (37, .aload_n 0, 1), (38, .getfield 10, 3), (41, .iload_n 1, 1), (42, .iload_n 2, 1), (43, .invokevirtual 135, 3), (46, .istore 4, 2), (48, .iload 4, 2), (50, .iload_n 3, 1), (51, .if_icmp .eq 25, 3), (54, .aload_n 0, 1), (55, .getfield 67, 3), (58, .iload_n 1, 1), (59, .iload_n 2, 1), (60, .iload 4, 2), (62, .iload_n 3, 1), (63, .invokevirtual 139, 3), (66, .aload_n 0, 1), (67, .getfield 10, 3), (70, .iload_n 1, 1), (71, .iload_n 2, 1), (72, .iload_n 3, 1), (73, .invokevirtual 143, 3), (76, .iload 4, 2), (78, .ireturn, 1)]
theorem dk106 : ∀ r ∈ k106, decode prog_1_method_6_code r.1 = .ok r.2 := by decide +kernel
def me106 : MethodName × ByteArray × Nat × Option FieldType × Nat × List (Nat × Instr × Nat) := (⟨"BeggarBridge", "mend", "(III)I"⟩, prog_1_method_6_code, 5, (some .int), 11, k106)
/-- BeggarBridge.of(II)I -/
def k107 : List (Nat × Instr × Nat) := [(0, .aload_n 0, 1), (1, .getfield 10, 3), (4, .iload_n 1, 1), (5, .iload_n 2, 1), (6, .invokevirtual 131, 3), (9, .ifCond .eq 15, 3), (12, .aload_n 0, 1), (13, .getfield 10, 3), (16, .iload_n 1, 1), (17, .iload_n 2, 1), (18, .invokevirtual 135, 3), (21, .goto 5, 3), (24, .ldc 134, 2), (26, .ireturn, 1)]
theorem dk107 : ∀ r ∈ k107, decode prog_1_method_7_code r.1 = .ok r.2 := by decide +kernel
def me107 : MethodName × ByteArray × Nat × Option FieldType × Nat × List (Nat × Instr × Nat) := (⟨"BeggarBridge", "of", "(II)I"⟩, prog_1_method_7_code, 3, (some .int), 11, k107)
/-- BeggarBridge.feed(I)I -/
def k108 : List (Nat × Instr × Nat) := [(0, .iload_n 1, 1), (1, .iconst 0, 1), (2, .sipush 255, 3), (5, .invokestatic 111, 3), (8, .ifCond .eq 14, 3), (11, .aload_n 0, 1), (12, .getfield 19, 3), (15, .iload_n 1, 1), (16, .invokevirtual 147, 3), (19, .goto 4, 3), (22, .iconst (-1), 1), (23, .ireturn, 1)]
theorem dk108 : ∀ r ∈ k108, decode prog_1_method_8_code r.1 = .ok r.2 := by decide +kernel
def me108 : MethodName × ByteArray × Nat × Option FieldType × Nat × List (Nat × Instr × Nat) := (⟨"BeggarBridge", "feed", "(I)I"⟩, prog_1_method_8_code, 2, (some .int), 11, k108)
/-- BeggarBridge.law()I -/
def k109 : List (Nat × Instr × Nat) := [(0, .aload_n 0, 1), (1, .getfield 19, 3), (4, .invokevirtual 150, 3), (7, .istore_n 1, 1), (8, .iload_n 1, 1), (9, .ifCond .ge 14, 3), (12, .aload_n 0, 1), (13, .getfield 26, 3), (16, .aload_n 0, 1), (17, .getfield 19, 3), (20, .invokevirtual 154, 3), (23, .aload_n 0, 1), (24, .getfield 19, 3), (27, .invokevirtual 158, 3), (30, .iload_n 1, 1), (31, .ifCond .ge 7, 3), (34, .iconst 1, 1), (35, .goto 7, 3), (38, .bipush (-100), 2), (40, .iload_n 1, 1), (41, .isub, 1), (42, .ireturn, 1)]
theorem dk109 : ∀ r ∈ k109, decode prog_1_method_9_code r.1 = .ok r.2 := by decide +kernel
def me109 : MethodName × ByteArray × Nat × Option FieldType × Nat × List (Nat × Instr × Nat) := (⟨"BeggarBridge", "law", "()I"⟩, prog_1_method_9_code, 2, (some .int), 11, k109)
/-- BeggarBridge.cracks(I)I -/
def k110 : List (Nat × Instr × Nat) := [(0, .aload_n 0, 1), (1, .getfield 10, 3), (4, .iload_n 1, 1), (5, .invokevirtual 161, 3), (8, .ifCond .ne 5, 3), (11, .iconst (-1), 1), (12, .ireturn, 1), (13, .aload_n 0, 1), (14, .getfield 10, 3), (17, .invokevirtual 164, 3), (20, .aload_n 0, 1), (21, .getfield 26, 3), (24, .aload_n 0, 1), (25, .getfield 10, 3), (28, .iload_n 1, 1), (29, .invokevirtual 167, 3), (32, .ireturn, 1)]
theorem dk110 : ∀ r ∈ k110, decode prog_1_method_10_code r.1 = .ok r.2 := by decide +kernel
def me110 : MethodName × ByteArray × Nat × Option FieldType × Nat × List (Nat × Instr × Nat) := (⟨"BeggarBridge", "cracks", "(I)I"⟩, prog_1_method_10_code, 2, (some .int), 11, k110)
/-- BeggarBridge.later(III)I -/
def k111 : List (Nat × Instr × Nat) := [(0, .iload_n 1, 1), (1, .iconst 0, 1), (2, .bipush 60, 2), (4, .invokestatic 111, 3), (7, .ifCond .ne 5, 3), (10, .iconst (-1), 1), (11, .ireturn, 1), (12, .iload_n 3, 1), (13, .ifCond .ne 28, 3), (16, .aload_n 0, 1), (17, .getfield 10, 3), (20, .iload_n 2, 1), (21, .invokevirtual 161, 3), (24, .ifCond .eq 17, 3), (27, .aload_n 0, 1), (28, .getfield 35, 3), (31, .aload_n 0, 1), (32, .getfield 10, 3), (35, .iload_n 2, 1), (36, .iload_n 1, 1), (37, .invokevirtual 171, 3), (40, .ireturn, 1), (41, .iload_n 3, 1), (42, .iconst 1, 1), (43, .if_icmp .ne 24, 3), (46, .aload_n 0, 1), (47, .getfield 10, 3), (50, .iload_n 2, 1), (51, .invokevirtual 175, 3), (54, .ifCond .eq 13, 3), (57, .aload_n 0, 1), (58, .getfield 35, 3), (61, .iload_n 2, 1), (62, .iload_n 1, 1), (63, .invokevirtual 178, 3), (66, .ireturn, 1), (67, .iconst (-1), 1), (68, .ireturn, 1)]
theorem dk111 : ∀ r ∈ k111, decode prog_1_method_11_code r.1 = .ok r.2 := by decide +kernel
def me111 : MethodName × ByteArray × Nat × Option FieldType × Nat × List (Nat × Instr × Nat) := (⟨"BeggarBridge", "later", "(III)I"⟩, prog_1_method_11_code, 4, (some .int), 11, k111)
/-- BeggarBridge.county(II)I -/
def k112 : List (Nat × Instr × Nat) := [(0, .iload_n 1, 1), (1, .iconst 0, 1), (2, .bipush 60, 2), (4, .invokestatic 111, 3), (7, .ifCond .eq 12, 3), (10, .iload_n 2, 1), (11, .iconst 0, 1), (12, .iconst 2, 1), (13, .invokestatic 111, 3), (16, .ifCond .ne 5, 3), (19, .iconst (-1), 1), (20, .ireturn, 1), (21, .aload_n 0, 1), (22, .getfield 35, 3), (25, .iload_n 1, 1), (26, .invokevirtual 181, 3), (29, .astore_n 3, 1), (30, .iload_n 2, 1), (31, .ifCond .ne 8, 3), (34, .aload_n 3, 1), (35, .invokevirtual 185, 3), (38, .ireturn, 1), (39, .iload_n 2, 1), (40, .iconst 1, 1), (41, .if_icmp .ne 10, 3), (44, .aload_n 3, 1), (45, .invokevirtual 188, 3), (48, .goto 7, 3), (51, .aload_n 3, 1), (52, .invokevirtual 191, 3), (55, .ireturn, 1)]
theorem dk112 : ∀ r ∈ k112, decode prog_1_method_12_code r.1 = .ok r.2 := by decide +kernel
def me112 : MethodName × ByteArray × Nat × Option FieldType × Nat × List (Nat × Instr × Nat) := (⟨"BeggarBridge", "county", "(II)I"⟩, prog_1_method_12_code, 4, (some .int), 11, k112)
/-- BeggarBridge.falls(I)I -/
def k113 : List (Nat × Instr × Nat) := [(0, .iload_n 1, 1), (1, .iconst (-1), 1), (2, .if_icmp .ne 11, 3), (5, .aload_n 0, 1), (6, .getfield 35, 3), (9, .invokevirtual 194, 3), (12, .ireturn, 1), (13, .aload_n 0, 1), (14, .getfield 10, 3), (17, .iload_n 1, 1), (18, .invokevirtual 161, 3), (21, .ifCond .eq 18, 3), (24, .aload_n 0, 1), (25, .getfield 35, 3), (28, .aload_n 0, 1), (29, .getfield 10, 3), (32, .iload_n 1, 1), (33, .invokevirtual 197, 3), (36, .goto 4, 3), (39, .iconst (-1), 1), (40, .ireturn, 1)]
theorem dk113 : ∀ r ∈ k113, decode prog_1_method_13_code r.1 = .ok r.2 := by decide +kernel
def me113 : MethodName × ByteArray × Nat × Option FieldType × Nat × List (Nat × Instr × Nat) := (⟨"BeggarBridge", "falls", "(I)I"⟩, prog_1_method_13_code, 2, (some .int), 11, k113)
/-- BeggarBridge.rich(I)I -/
def k114 : List (Nat × Instr × Nat) := [(0, .aload_n 0, 1), (1, .getfield 10, 3), (4, .iload_n 1, 1), (5, .invokevirtual 175, 3), (8, .ifCond .eq 14, 3), (11, .aload_n 0, 1), (12, .getfield 35, 3), (15, .iload_n 1, 1), (16, .invokevirtual 200, 3), (19, .goto 4, 3), (22, .iconst (-1), 1), (23, .ireturn, 1)]
theorem dk114 : ∀ r ∈ k114, decode prog_1_method_14_code r.1 = .ok r.2 := by decide +kernel
def me114 : MethodName × ByteArray × Nat × Option FieldType × Nat × List (Nat × Instr × Nat) := (⟨"BeggarBridge", "rich", "(I)I"⟩, prog_1_method_14_code, 2, (some .int), 11, k114)
/-- BeggarBridge.without(I)I -/
def k115 : List (Nat × Instr × Nat) := [(0, .aload_n 0, 1), (1, .getfield 10, 3), (4, .iload_n 1, 1), (5, .invokevirtual 161, 3), (8, .ifCond .eq 14, 3), (11, .aload_n 0, 1), (12, .getfield 35, 3), (15, .iload_n 1, 1), (16, .invokevirtual 203, 3), (19, .goto 4, 3), (22, .iconst (-1), 1), (23, .ireturn, 1)]
theorem dk115 : ∀ r ∈ k115, decode prog_1_method_15_code r.1 = .ok r.2 := by decide +kernel
def me115 : MethodName × ByteArray × Nat × Option FieldType × Nat × List (Nat × Instr × Nat) := (⟨"BeggarBridge", "without", "(I)I"⟩, prog_1_method_15_code, 2, (some .int), 11, k115)
/-- BeggarBridge.moved(II)I -/
def k116 : List (Nat × Instr × Nat) := [(0, .iload_n 1, 1), (1, .iconst 0, 1), (2, .bipush 20, 2), (4, .invokestatic 111, 3), (7, .ifCond .eq 12, 3), (10, .iload_n 2, 1), (11, .iconst 0, 1), (12, .iconst 2, 1), (13, .invokestatic 111, 3), (16, .ifCond .ne 5, 3), (19, .iconst (-1), 1), (20, .ireturn, 1), (21, .aload_n 0, 1), (22, .getfield 35, 3), (25, .iload_n 1, 1), (26, .invokevirtual 206, 3), (29, .iconst 0, 1), (30, .istore_n 3, 1), (31, .iload_n 3, 1), (32, .aload_n 0, 1), (33, .getfield 10, 3), (36, .getfield 210, 3), (39, .if_icmp .ge 18, 3), (42, .aload_n 0, 1), (43, .getfield 35, 3), (46, .iload_n 3, 1), (47, .iload_n 1, 1), (48, .invokevirtual 214, 3), (51, .iinc 3 1, 3), (54, .goto (-23), 3), (57, .iload_n 2, 1), (58, .iconst 2, 1), (59, .if_icmp .ne 11, 3), (62, .aload_n 0, 1), (63, .getfield 35, 3), (66, .getfield 218, 3), (69, .ireturn, 1), (70, .iload_n 2, 1), (71, .ifCond .ne 17, 3), (74, .aload_n 0, 1), (75, .getfield 35, 3), (78, .getfield 221, 3), (81, .sipush 1000, 3), (84, .idiv, 1), (85, .goto 14, 3), (88, .aload_n 0, 1), (89, .getfield 35, 3), (92, .getfield 221, 3), (95, .sipush 1000, 3), (98, .irem, 1), (99, .ireturn, 1)]
theorem dk116 : ∀ r ∈ k116, decode prog_1_method_16_code r.1 = .ok r.2 := by decide +kernel
def me116 : MethodName × ByteArray × Nat × Option FieldType × Nat × List (Nat × Instr × Nat) := (⟨"BeggarBridge", "moved", "(II)I"⟩, prog_1_method_16_code, 4, (some .int), 11, k116)
/-- BeggarBridge.lasting(I)I -/
def k117 : List (Nat × Instr × Nat) := [(0, .iload_n 1, 1), (1, .iconst (-1), 1), (2, .if_icmp .eq 16, 3), (5, .aload_n 0, 1), (6, .getfield 10, 3), (9, .iload_n 1, 1), (10, .invokevirtual 161, 3), (13, .ifCond .ne 5, 3), (16, .iconst (-1), 1), (17, .ireturn, 1), (18, .aload_n 0, 1), (19, .getfield 53, 3), (22, .invokevirtual 224, 3), (25, .iload_n 1, 1), (26, .iconst (-1), 1), (27, .if_icmp .ne 15, 3), (30, .aload_n 0, 1), (31, .getfield 53, 3), (34, .iconst 0, 1), (35, .iconst 0, 1), (36, .invokevirtual 227, 3), (39, .goto 11, 3), (42, .aload_n 0, 1), (43, .getfield 53, 3), (46, .iload_n 1, 1), (47, .invokevirtual 230, 3), (50, .ireturn, 1)]
theorem dk117 : ∀ r ∈ k117, decode prog_1_method_17_code r.1 = .ok r.2 := by decide +kernel
def me117 : MethodName × ByteArray × Nat × Option FieldType × Nat × List (Nat × Instr × Nat) := (⟨"BeggarBridge", "lasting", "(I)I"⟩, prog_1_method_17_code, 2, (some .int), 11, k117)
/-- BeggarBridge.way(II)I -/
def k118 : List (Nat × Instr × Nat) := [(0, .iload_n 1, 1), (1, .invokestatic 92, 3), (4, .ifCond .eq 12, 3), (7, .iload_n 2, 1), (8, .iconst 0, 1), (9, .iconst 3, 1), (10, .invokestatic 111, 3), (13, .ifCond .ne 5, 3), (16, .iconst (-1), 1), (17, .ireturn, 1), (18, .iload_n 2, 1), (19, .iconst 2, 1), (20, .if_icmp .ge 42, 3), (23, .aload_n 0, 1), (24, .getfield 60, 3), (27, .iload_n 1, 1), (28, .bipush 10, 2), (30, .idiv, 1), (31, .iload_n 1, 1), (32, .bipush 10, 2), (34, .irem, 1), (35, .invokevirtual 233, 3), (38, .istore_n 3, 1), (39, .iload_n 3, 1), (40, .ifCond .ge 6, 3), (43, .bipush (-2), 2), (45, .ireturn, 1), (46, .iload_n 2, 1), (47, .ifCond .ne 10, 3), (50, .iload_n 3, 1), (51, .bipush 100, 2), (53, .idiv, 1), (54, .goto 7, 3), (57, .iload_n 3, 1), (58, .bipush 100, 2), (60, .irem, 1), (61, .ireturn, 1), (62, .aload_n 0, 1), (63, .getfield 60, 3), (66, .iload_n 1, 1), (67, .bipush 10, 2), (69, .idiv, 1), (70, .iload_n 1, 1), (71, .bipush 10, 2), (73, .irem, 1), (74, .invokevirtual 236, 3), (77, .istore_n 3, 1), (78, .iload_n 2, 1), (79, .iconst 2, 1), (80, .if_icmp .ne 10, 3), (83, .iload_n 3, 1), (84, .invokestatic 239, 3), (87, .goto 4, 3), (90, .iload_n 3, 1), (91, .ireturn, 1)]
theorem dk118 : ∀ r ∈ k118, decode prog_1_method_18_code r.1 = .ok r.2 := by decide +kernel
def me118 : MethodName × ByteArray × Nat × Option FieldType × Nat × List (Nat × Instr × Nat) := (⟨"BeggarBridge", "way", "(II)I"⟩, prog_1_method_18_code, 4, (some .int), 11, k118)
/-- BeggarBridge.needed()I -/
def k119 : List (Nat × Instr × Nat) := [(0, .aload_n 0, 1), (1, .getfield 60, 3), (4, .invokevirtual 244, 3), (7, .ireturn, 1)]
theorem dk119 : ∀ r ∈ k119, decode prog_1_method_19_code r.1 = .ok r.2 := by decide +kernel
def me119 : MethodName × ByteArray × Nat × Option FieldType × Nat × List (Nat × Instr × Nat) := (⟨"BeggarBridge", "needed", "()I"⟩, prog_1_method_19_code, 1, (some .int), 11, k119)
/-- BeggarBridge.judge(II)I -/
def k120 : List (Nat × Instr × Nat) := [(0, .aload_n 0, 1), (1, .getfield 88, 3), (4, .iload_n 1, 1), (5, .invokevirtual 108, 3), (8, .ifCond .eq 14, 3), (11, .aload_n 0, 1), (12, .getfield 10, 3), (15, .iload_n 2, 1), (16, .invokevirtual 161, 3), (19, .ifCond .ne 5, 3), (22, .iconst (-1), 1), (23, .ireturn, 1), (24, .aload_n 0, 1), (25, .getfield 88, 3), (28, .iload_n 1, 1), (29, .invokevirtual 115, 3), (32, .istore_n 3, 1), (33, .iload_n 3, 1), (34, .ifCond .eq 7, 3), (37, .iload_n 3, 1), (38, .goto 20, 3), (41, .aload_n 0, 1), (42, .getfield 35, 3), (45, .aload_n 0, 1), (46, .getfield 10, 3), (49, .iload_n 2, 1), (50, .aload_n 0, 1), (51, .getfield 88, 3), (54, .iload_n 1, 1), (55, .invokevirtual 247, 3), (58, .ireturn, 1)]
theorem dk120 : ∀ r ∈ k120, decode prog_1_method_20_code r.1 = .ok r.2 := by decide +kernel
def me120 : MethodName × ByteArray × Nat × Option FieldType × Nat × List (Nat × Instr × Nat) := (⟨"BeggarBridge", "judge", "(II)I"⟩, prog_1_method_20_code, 4, (some .int), 11, k120)
/-- BeggarBridge.fits(IIII)I -/
def k121_0 : List (Nat × Instr × Nat) := [(0, .aload_n 0, 1), (1, .getfield 88, 3), (4, .iload_n 1, 1), (5, .invokevirtual 108, 3), (8, .ifCond .eq 24, 3), (11, .aload_n 0, 1), (12, .getfield 10, 3), (15, .iload_n 2, 1), (16, .invokevirtual 161, 3), (19, .ifCond .eq 13, 3), (22, .iload 4, 2), (24, .iconst 0, 1), (25, .iconst 3, 1), (26, .invokestatic 111, 3), (29, .ifCond .ne 5, 3), (32, .iconst (-1), 1), (33, .ireturn, 1), (34, .iload 4, 2), (36, .iconst 2, 1), (37, .if_icmp .ge 7, 3), (40, .iconst 1, 1), (41, .goto 4, 3), (44, .iconst 0, 1), (45, .istore 5, 2), (47, .iload 5, 2), (49, .ifCond .eq 17, 3), (52, .aload_n 0, 1), (53, .getfield 10, 3), (56, .iload_n 3, 1), (57, .invokevirtual 175, 3), (60, .ifCond .ne 19, 3), (63, .goto 14, 3), (66, .aload_n 0, 1), (67, .getfield 10, 3), (70, .iload_n 3, 1), (71, .invokevirtual 161, 3), (74, .ifCond .ne 5, 3), (77, .iconst (-1), 1), (78, .ireturn, 1), (79, .aload_n 0, 1), (80, .getfield 88, 3), (83, .iload_n 1, 1), (84, .invokevirtual 115, 3), (87, .istore 6, 2), (89, .iload 6, 2), (91, .ifCond .eq 6, 3), (94, .iload 6, 2), (96, .ireturn, 1), (97, .aload_n 0, 1), (98, .getfield 35, 3), (101, .iload_n 3, 1), (102, .iload 5, 2), (104, .ifCond .eq 7, 3), (107, .iconst 3, 1), (108, .goto 4, 3), (111, .iconst 2, 1), (112, .iload_n 2, 1), (113, .aload_n 0, 1), (114, .getfield 88, 3), (117, .iload_n 1, 1)]
theorem dk121_0 : ∀ r ∈ k121_0, decode prog_1_method_21_code r.1 = .ok r.2 := by decide +kernel
def k121_1 : List (Nat × Instr × Nat) := [(118, .invokevirtual 251, 3), (121, .iload 4, 2), (123, .iconst 2, 1), (124, .irem, 1), (125, .ifCond .ne 13, 3), (128, .aload_n 0, 1), (129, .getfield 35, 3), (132, .getfield 255, 3), (135, .goto 10, 3), (138, .aload_n 0, 1), (139, .getfield 35, 3), (142, .getfield 258, 3), (145, .ireturn, 1)]
theorem dk121_1 : ∀ r ∈ k121_1, decode prog_1_method_21_code r.1 = .ok r.2 := by decide +kernel
def k121 : List (Nat × Instr × Nat) := k121_0 ++ (k121_1)
theorem dk121 : ∀ r ∈ k121, decode prog_1_method_21_code r.1 = .ok r.2 := List.forall_mem_append.mpr ⟨dk121_0, dk121_1⟩
def me121 : MethodName × ByteArray × Nat × Option FieldType × Nat × List (Nat × Instr × Nat) := (⟨"BeggarBridge", "fits", "(IIII)I"⟩, prog_1_method_21_code, 7, (some .int), 11, k121)
/-- BeggarBridge.fined(II)I -/
def k122 : List (Nat × Instr × Nat) := [(0, .aload_n 0, 1), (1, .getfield 10, 3), (4, .iload_n 1, 1), (5, .invokevirtual 175, 3), (8, .ifCond .eq 14, 3), (11, .iload_n 2, 1), (12, .iconst 0, 1), (13, .sipush 9999, 3), (16, .invokestatic 111, 3), (19, .ifCond .ne 5, 3), (22, .iconst (-1), 1), (23, .ireturn, 1), (24, .iconst 0, 1), (25, .istore_n 3, 1), (26, .iconst 0, 1), (27, .istore 4, 2), (29, .iload 4, 2), (31, .aload_n 0, 1), (32, .getfield 10, 3), (35, .getfield 210, 3), (38, .if_icmp .ge 21, 3), (41, .iload_n 3, 1), (42, .aload_n 0, 1), (43, .getfield 10, 3), (46, .iload 4, 2), (48, .invokevirtual 261, 3), (51, .iadd, 1), (52, .istore_n 3, 1), (53, .iinc 4 1, 3), (56, .goto (-27), 3), (59, .iload_n 3, 1), (60, .ifCond .gt 7, 3), (63, .iconst 0, 1), (64, .goto 15, 3), (67, .iload_n 2, 1), (68, .aload_n 0, 1), (69, .getfield 10, 3), (72, .iload_n 1, 1), (73, .invokevirtual 261, 3), (76, .imul, 1), (77, .iload_n 3, 1), (78, .idiv, 1), (79, .ireturn, 1)]
theorem dk122 : ∀ r ∈ k122, decode prog_1_method_22_code r.1 = .ok r.2 := by decide +kernel
def me122 : MethodName × ByteArray × Nat × Option FieldType × Nat × List (Nat × Instr × Nat) := (⟨"BeggarBridge", "fined", "(II)I"⟩, prog_1_method_22_code, 5, (some .int), 11, k122)
/-- BeggarBridge.claim(I)I -/
def k123 : List (Nat × Instr × Nat) := [(0, .iload_n 1, 1), (1, .iconst 0, 1), (2, .bipush 7, 2), (4, .invokestatic 111, 3), (7, .ifCond .eq 14, 3), (10, .aload_n 0, 1), (11, .getfield 10, 3), (14, .iload_n 1, 1), (15, .invokevirtual 264, 3), (18, .goto 4, 3), (21, .iconst (-1), 1), (22, .ireturn, 1)]
theorem dk123 : ∀ r ∈ k123, decode prog_1_method_23_code r.1 = .ok r.2 := by decide +kernel
def me123 : MethodName × ByteArray × Nat × Option FieldType × Nat × List (Nat × Instr × Nat) := (⟨"BeggarBridge", "claim", "(I)I"⟩, prog_1_method_23_code, 2, (some .int), 11, k123)
/-- BeggarBridge.byTurns(III)I -/
def k124_0 : List (Nat × Instr × Nat) := [(0, .iload_n 2, 1), (1, .bipush 100, 2), (3, .idiv, 1), (4, .istore 4, 2), (6, .iload_n 2, 1), (7, .bipush 100, 2), (9, .irem, 1), (10, .istore 5, 2), (12, .iload 4, 2), (14, .iconst 1, 1), (15, .iconst 3, 1), (16, .invokestatic 111, 3), (19, .ifCond .eq 27, 3), (22, .iload 5, 2), (24, .iconst 0, 1), (25, .bipush 20, 2), (27, .invokestatic 111, 3), (30, .ifCond .eq 16, 3), (33, .iload_n 3, 1), (34, .iconst 0, 1), (35, .iconst 1, 1), (36, .invokestatic 111, 3), (39, .ifCond .eq 7, 3), (42, .iconst 1, 1), (43, .goto 4, 3), (46, .iconst 0, 1), (47, .istore 6, 2), (49, .iload 6, 2), (51, .ifCond .eq 14, 3), (54, .aload_n 0, 1), (55, .getfield 10, 3), (58, .iload_n 1, 1), (59, .invokevirtual 161, 3), (62, .ifCond .ne 5, 3), (65, .iconst (-1), 1), (66, .ireturn, 1), (67, .aload_n 0, 1), (68, .getfield 44, 3), (71, .aload_n 0, 1), (72, .getfield 10, 3), (75, .iload_n 1, 1), (76, .iload 4, 2), (78, .iload 5, 2), (80, .invokevirtual 267, 3), (83, .aload_n 0, 1), (84, .getfield 44, 3), (87, .iload 4, 2), (89, .iconst 0, 1), (90, .aload_n 0, 1), (91, .getfield 10, 3), (94, .iload_n 1, 1), (95, .iconst 1, 1), (96, .invokevirtual 135, 3), (99, .invokevirtual 271, 3), (102, .istore 7, 2), (104, .iload_n 3, 1), (105, .ifCond .ne 8, 3), (108, .iload 7, 2), (110, .goto 10, 3), (113, .aload_n 0, 1)]
theorem dk124_0 : ∀ r ∈ k124_0, decode prog_1_method_24_code r.1 = .ok r.2 := by decide +kernel
def k124_1 : List (Nat × Instr × Nat) := [(114, .getfield 44, 3), (117, .getfield 274, 3), (120, .ireturn, 1)]
theorem dk124_1 : ∀ r ∈ k124_1, decode prog_1_method_24_code r.1 = .ok r.2 := by decide +kernel
def k124 : List (Nat × Instr × Nat) := k124_0 ++ (k124_1)
theorem dk124 : ∀ r ∈ k124, decode prog_1_method_24_code r.1 = .ok r.2 := List.forall_mem_append.mpr ⟨dk124_0, dk124_1⟩
def me124 : MethodName × ByteArray × Nat × Option FieldType × Nat × List (Nat × Instr × Nat) := (⟨"BeggarBridge", "byTurns", "(III)I"⟩, prog_1_method_24_code, 8, (some .int), 11, k124)
/-- BeggarBridge.drawn(III)I -/
def k125 : List (Nat × Instr × Nat) := [(0, .iload_n 2, 1), (1, .sipush 10000, 3), (4, .idiv, 1), (5, .istore 4, 2), (7, .iload_n 2, 1), (8, .bipush 100, 2), (10, .idiv, 1), (11, .bipush 100, 2), (13, .irem, 1), (14, .istore 5, 2), (16, .iload_n 2, 1), (17, .bipush 100, 2), (19, .irem, 1), (20, .istore 6, 2), (22, .iload 4, 2), (24, .iconst 1, 1), (25, .bipush 30, 2), (27, .invokestatic 111, 3), (30, .ifCond .eq 25, 3), (33, .iload 5, 2), (35, .iconst 1, 1), (36, .bipush 60, 2), (38, .invokestatic 111, 3), (41, .ifCond .eq 14, 3), (44, .iload 6, 2), (46, .iconst 0, 1), (47, .bipush 12, 2), (49, .invokestatic 111, 3), (52, .ifCond .ne 5, 3), (55, .iconst (-1), 1), (56, .ireturn, 1), (57, .iload_n 3, 1), (58, .iconst (-1), 1), (59, .if_icmp .eq 16, 3), (62, .aload_n 0, 1), (63, .getfield 10, 3), (66, .iload_n 3, 1), (67, .invokevirtual 161, 3), (70, .ifCond .ne 5, 3), (73, .iconst (-1), 1), (74, .ireturn, 1), (75, .aload_n 0, 1), (76, .getfield 35, 3), (79, .iload_n 1, 1), (80, .iload 4, 2), (82, .iload 5, 2), (84, .iload 6, 2), (86, .iload_n 3, 1), (87, .invokevirtual 277, 3), (90, .ireturn, 1)]
theorem dk125 : ∀ r ∈ k125, decode prog_1_method_25_code r.1 = .ok r.2 := by decide +kernel
def me125 : MethodName × ByteArray × Nat × Option FieldType × Nat × List (Nat × Instr × Nat) := (⟨"BeggarBridge", "drawn", "(III)I"⟩, prog_1_method_25_code, 7, (some .int), 11, k125)
/-- BeggarBridge.day()I -/
def k126 : List (Nat × Instr × Nat) := [(0, .aload_n 0, 1), (1, .getfield 10, 3), (4, .invokevirtual 185, 3), (7, .istore_n 1, 1), (8, .aload_n 0, 1), (9, .getfield 10, 3), (12, .aload_n 0, 1), (13, .getfield 26, 3), (16, .invokevirtual 281, 3), (19, .aload_n 0, 1), (20, .getfield 10, 3), (23, .invokevirtual 185, 3), (26, .istore_n 2, 1), (27, .aload_n 0, 1), (28, .getfield 74, 3), (31, .iconst 0, 1), (32, .iconst 1, 1), (33, .invokevirtual 285, 3), (36, .aload_n 0, 1), (37, .getfield 74, 3), (40, .iconst 4, 1), (41, .iload_n 1, 1), (42, .iload_n 2, 1), (43, .iconst (-1), 1), (44, .ixor, 1), (45, .iand, 1), (46, .invokestatic 239, 3), (49, .invokevirtual 285, 3), (52, .iload_n 2, 1), (53, .invokestatic 239, 3), (56, .ireturn, 1)]
theorem dk126 : ∀ r ∈ k126, decode prog_1_method_26_code r.1 = .ok r.2 := by decide +kernel
def me126 : MethodName × ByteArray × Nat × Option FieldType × Nat × List (Nat × Instr × Nat) := (⟨"BeggarBridge", "day", "()I"⟩, prog_1_method_26_code, 3, (some .int), 11, k126)
/-- BeggarBridge.sits(II)I -/
def k127 : List (Nat × Instr × Nat) := [(0, .aload_n 0, 1), (1, .getfield 10, 3), (4, .iload_n 1, 1), (5, .invokevirtual 175, 3), (8, .ifCond .eq 16, 3), (11, .aload_n 0, 1), (12, .getfield 10, 3), (15, .bipush 6, 2), (17, .iload_n 2, 1), (18, .invokevirtual 96, 3), (21, .ifCond .ne 6, 3), (24, .ldc 134, 2), (26, .ireturn, 1), (27, .aload_n 0, 1), (28, .getfield 10, 3), (31, .iload_n 1, 1), (32, .bipush 6, 2), (34, .invokevirtual 135, 3), (37, .istore_n 3, 1), (38, .aload_n 0, 1), (39, .getfield 10, 3), (42, .iload_n 1, 1), (43, .bipush 6, 2), (45, .iload_n 2, 1), (46, .invokevirtual 143, 3), (49, .aload_n 0, 1), (50, .getfield 74, 3), (53, .iconst 1, 1), (54, .iconst 1, 1), (55, .invokevirtual 285, 3), (58, .iload_n 3, 1), (59, .ireturn, 1)]
theorem dk127 : ∀ r ∈ k127, decode prog_1_method_27_code r.1 = .ok r.2 := by decide +kernel
def me127 : MethodName × ByteArray × Nat × Option FieldType × Nat × List (Nat × Instr × Nat) := (⟨"BeggarBridge", "sits", "(II)I"⟩, prog_1_method_27_code, 4, (some .int), 11, k127)
/-- BeggarBridge.given(II)I -/
def k128 : List (Nat × Instr × Nat) := [(0, .aload_n 0, 1), (1, .getfield 10, 3), (4, .iload_n 1, 1), (5, .invokevirtual 175, 3), (8, .ifCond .eq 13, 3), (11, .iload_n 2, 1), (12, .iconst 1, 1), (13, .bipush 99, 2), (15, .invokestatic 111, 3), (18, .ifCond .ne 5, 3), (21, .iconst (-1), 1), (22, .ireturn, 1), (23, .aload_n 0, 1), (24, .getfield 74, 3), (27, .iconst 2, 1), (28, .iload_n 2, 1), (29, .invokevirtual 285, 3), (32, .aload_n 0, 1), (33, .getfield 10, 3), (36, .iload_n 1, 1), (37, .iconst 3, 1), (38, .iload_n 2, 1), (39, .invokevirtual 287, 3), (42, .ireturn, 1)]
theorem dk128 : ∀ r ∈ k128, decode prog_1_method_28_code r.1 = .ok r.2 := by decide +kernel
def me128 : MethodName × ByteArray × Nat × Option FieldType × Nat × List (Nat × Instr × Nat) := (⟨"BeggarBridge", "given", "(II)I"⟩, prog_1_method_28_code, 3, (some .int), 11, k128)
/-- BeggarBridge.repair(II)I -/
def k129 : List (Nat × Instr × Nat) := [(0, .aload_n 0, 1), (1, .getfield 10, 3), (4, .iload_n 1, 1), (5, .invokevirtual 161, 3), (8, .ifCond .eq 13, 3), (11, .iload_n 2, 1), (12, .iconst 1, 1), (13, .bipush 99, 2), (15, .invokestatic 111, 3), (18, .ifCond .ne 5, 3), (21, .iconst (-1), 1), (22, .ireturn, 1), (23, .aload_n 0, 1), (24, .getfield 74, 3), (27, .iconst 3, 1), (28, .iload_n 2, 1), (29, .invokevirtual 285, 3), (32, .aload_n 0, 1), (33, .getfield 10, 3), (36, .iload_n 1, 1), (37, .iconst 1, 1), (38, .iload_n 2, 1), (39, .invokevirtual 287, 3), (42, .ireturn, 1)]
theorem dk129 : ∀ r ∈ k129, decode prog_1_method_29_code r.1 = .ok r.2 := by decide +kernel
def me129 : MethodName × ByteArray × Nat × Option FieldType × Nat × List (Nat × Instr × Nat) := (⟨"BeggarBridge", "repair", "(II)I"⟩, prog_1_method_29_code, 3, (some .int), 11, k129)
/-- BeggarBridge.led(I)I -/
def k130 : List (Nat × Instr × Nat) := [(0, .iload_n 1, 1), (1, .iconst 0, 1), (2, .iconst 4, 1), (3, .invokestatic 111, 3), (6, .ifCond .eq 14, 3), (9, .aload_n 0, 1), (10, .getfield 74, 3), (13, .iload_n 1, 1), (14, .invokevirtual 290, 3), (17, .goto 4, 3), (20, .iconst (-1), 1), (21, .ireturn, 1)]
theorem dk130 : ∀ r ∈ k130, decode prog_1_method_30_code r.1 = .ok r.2 := by decide +kernel
def me130 : MethodName × ByteArray × Nat × Option FieldType × Nat × List (Nat × Instr × Nat) := (⟨"BeggarBridge", "led", "(I)I"⟩, prog_1_method_30_code, 2, (some .int), 11, k130)
/-- BeggarBridge.image()I -/
def k131 : List (Nat × Instr × Nat) := [(0, .aload_n 0, 1), (1, .getfield 74, 3), (4, .aload_n 0, 1), (5, .getfield 10, 3), (8, .invokevirtual 293, 3), (11, .aload_n 0, 1), (12, .getfield 74, 3), (15, .iconst 0, 1), (16, .invokevirtual 290, 3), (19, .ireturn, 1)]
theorem dk131 : ∀ r ∈ k131, decode prog_1_method_31_code r.1 = .ok r.2 := by decide +kernel
def me131 : MethodName × ByteArray × Nat × Option FieldType × Nat × List (Nat × Instr × Nat) := (⟨"BeggarBridge", "image", "()I"⟩, prog_1_method_31_code, 1, (some .int), 11, k131)
/-- BeggarBridge.back()I -/
def k132 : List (Nat × Instr × Nat) := [(0, .aload_n 0, 1), (1, .getfield 74, 3), (4, .getfield 296, 3), (7, .ifCond .ne 6, 3), (10, .bipush (-5), 2), (12, .ireturn, 1), (13, .aload_n 0, 1), (14, .getfield 74, 3), (17, .aload_n 0, 1), (18, .getfield 10, 3), (21, .invokevirtual 300, 3), (24, .aload_n 0, 1), (25, .getfield 74, 3), (28, .iconst 0, 1), (29, .invokevirtual 290, 3), (32, .ireturn, 1)]
theorem dk132 : ∀ r ∈ k132, decode prog_1_method_32_code r.1 = .ok r.2 := by decide +kernel
def me132 : MethodName × ByteArray × Nat × Option FieldType × Nat × List (Nat × Instr × Nat) := (⟨"BeggarBridge", "back", "()I"⟩, prog_1_method_32_code, 1, (some .int), 11, k132)
/-- BeggarBridge.undo()I -/
def k133 : List (Nat × Instr × Nat) := [(0, .aload_n 0, 1), (1, .getfield 67, 3), (4, .aload_n 0, 1), (5, .getfield 10, 3), (8, .invokevirtual 303, 3), (11, .ireturn, 1)]
theorem dk133 : ∀ r ∈ k133, decode prog_1_method_33_code r.1 = .ok r.2 := by decide +kernel
def me133 : MethodName × ByteArray × Nat × Option FieldType × Nat × List (Nat × Instr × Nat) := (⟨"BeggarBridge", "undo", "()I"⟩, prog_1_method_33_code, 1, (some .int), 11, k133)
/-- BeggarBridge.redo()I -/
def k134 : List (Nat × Instr × Nat) := [(0, .aload_n 0, 1), (1, .getfield 67, 3), (4, .aload_n 0, 1), (5, .getfield 10, 3), (8, .invokevirtual 307, 3), (11, .ireturn, 1)]
theorem dk134 : ∀ r ∈ k134, decode prog_1_method_34_code r.1 = .ok r.2 := by decide +kernel
def me134 : MethodName × ByteArray × Nat × Option FieldType × Nat × List (Nat × Instr × Nat) := (⟨"BeggarBridge", "redo", "()I"⟩, prog_1_method_34_code, 1, (some .int), 11, k134)
/-- BeggarBridge.body(I)I -/
def k135 : List (Nat × Instr × Nat) := [(0, .iload_n 1, 1), (1, .iconst 0, 1), (2, .bipush 7, 2), (4, .invokestatic 111, 3), (7, .ifCond .eq 14, 3), (10, .aload_n 0, 1), (11, .getfield 81, 3), (14, .iload_n 1, 1), (15, .invokevirtual 310, 3), (18, .goto 4, 3), (21, .iconst (-1), 1), (22, .ireturn, 1)]
theorem dk135 : ∀ r ∈ k135, decode prog_1_method_35_code r.1 = .ok r.2 := by decide +kernel
def me135 : MethodName × ByteArray × Nat × Option FieldType × Nat × List (Nat × Instr × Nat) := (⟨"BeggarBridge", "body", "(I)I"⟩, prog_1_method_35_code, 2, (some .int), 11, k135)
/-- BeggarBridge.act(III)I -/
def k136 : List (Nat × Instr × Nat) := [(0, .aload_n 0, 1), (1, .getfield 81, 3), (4, .iload_n 1, 1), (5, .iload_n 2, 1), (6, .iload_n 3, 1), (7, .invokevirtual 312, 3), (10, .ireturn, 1)]
theorem dk136 : ∀ r ∈ k136, decode prog_1_method_36_code r.1 = .ok r.2 := by decide +kernel
def me136 : MethodName × ByteArray × Nat × Option FieldType × Nat × List (Nat × Instr × Nat) := (⟨"BeggarBridge", "act", "(III)I"⟩, prog_1_method_36_code, 4, (some .int), 11, k136)
/-- BeggarBridge.trace(I)I -/
def k137 : List (Nat × Instr × Nat) := [(0, .aload_n 0, 1), (1, .getfield 81, 3), (4, .iload_n 1, 1), (5, .invokevirtual 315, 3), (8, .ireturn, 1)]
theorem dk137 : ∀ r ∈ k137, decode prog_1_method_37_code r.1 = .ok r.2 := by decide +kernel
def me137 : MethodName × ByteArray × Nat × Option FieldType × Nat × List (Nat × Instr × Nat) := (⟨"BeggarBridge", "trace", "(I)I"⟩, prog_1_method_37_code, 2, (some .int), 11, k137)
/-- BeggarBridge.keep(II)I -/
def k138 : List (Nat × Instr × Nat) := [(0, .aload_n 0, 1), (1, .getfield 88, 3), (4, .iload_n 1, 1), (5, .invokevirtual 108, 3), (8, .ifCond .eq 19, 3), (11, .iload_n 2, 1), (12, .iconst (-1), 1), (13, .if_icmp .eq 16, 3), (16, .aload_n 0, 1), (17, .getfield 81, 3), (20, .iload_n 2, 1), (21, .invokevirtual 318, 3), (24, .ifCond .ne 5, 3), (27, .iconst (-1), 1), (28, .ireturn, 1), (29, .iload_n 2, 1), (30, .iconst (-1), 1), (31, .if_icmp .ne 14, 3), (34, .aload_n 0, 1), (35, .getfield 88, 3), (38, .iload_n 1, 1), (39, .invokevirtual 319, 3), (42, .goto 12, 3), (45, .aload_n 0, 1), (46, .getfield 88, 3), (49, .iload_n 1, 1), (50, .iload_n 2, 1), (51, .invokevirtual 322, 3), (54, .iconst 1, 1), (55, .ireturn, 1)]
theorem dk138 : ∀ r ∈ k138, decode prog_1_method_38_code r.1 = .ok r.2 := by decide +kernel
def me138 : MethodName × ByteArray × Nat × Option FieldType × Nat × List (Nat × Instr × Nat) := (⟨"BeggarBridge", "keep", "(II)I"⟩, prog_1_method_38_code, 3, (some .int), 11, k138)
/-- BeggarBridge.row(III)I -/
def k139 : List (Nat × Instr × Nat) := [(0, .aload_n 0, 1), (1, .getfield 88, 3), (4, .iload_n 1, 1), (5, .invokevirtual 108, 3), (8, .ifCond .eq 18, 3), (11, .iload_n 2, 1), (12, .iconst 0, 1), (13, .iconst 4, 1), (14, .invokestatic 111, 3), (17, .ifCond .eq 9, 3), (20, .iload_n 3, 1), (21, .bipush 60, 2), (23, .if_icmp .le 5, 3), (26, .iconst (-1), 1), (27, .ireturn, 1), (28, .iload_n 3, 1), (29, .ifCond .ge 6, 3), (32, .bipush (-14), 2), (34, .ireturn, 1), (35, .aload_n 0, 1), (36, .getfield 88, 3), (39, .iload_n 1, 1), (40, .iload_n 2, 1), (41, .iload_n 3, 1), (42, .invokevirtual 325, 3), (45, .iconst 1, 1), (46, .ireturn, 1)]
theorem dk139 : ∀ r ∈ k139, decode prog_1_method_39_code r.1 = .ok r.2 := by decide +kernel
def me139 : MethodName × ByteArray × Nat × Option FieldType × Nat × List (Nat × Instr × Nat) := (⟨"BeggarBridge", "row", "(III)I"⟩, prog_1_method_39_code, 4, (some .int), 11, k139)
/-- BeggarBridge.put(IIJ)I -/
def k140 : List (Nat × Instr × Nat) := [(0, .aload_n 0, 1), (1, .getfield 88, 3), (4, .iload_n 1, 1), (5, .iload_n 2, 1), (6, .invokevirtual 328, 3), (9, .istore 5, 2), (11, .iload 5, 2), (13, .ifCond .eq 6, 3), (16, .iload 5, 2), (18, .ireturn, 1), (19, .aload_n 0, 1), (20, .getfield 88, 3), (23, .iload_n 1, 1), (24, .iload_n 2, 1), (25, .lload_n 3, 1), (26, .invokevirtual 331, 3), (29, .iconst 1, 1), (30, .ireturn, 1)]
theorem dk140 : ∀ r ∈ k140, decode prog_1_method_40_code r.1 = .ok r.2 := by decide +kernel
def me140 : MethodName × ByteArray × Nat × Option FieldType × Nat × List (Nat × Instr × Nat) := (⟨"BeggarBridge", "put", "(IIJ)I"⟩, prog_1_method_40_code, 6, (some .int), 11, k140)
/-- BeggarBridge.element(II)J -/
def k141 : List (Nat × Instr × Nat) := [(0, .aload_n 0, 1), (1, .getfield 88, 3), (4, .iload_n 1, 1), (5, .iload_n 2, 1), (6, .invokevirtual 328, 3), (9, .ifCond .ne 15, 3), (12, .aload_n 0, 1), (13, .getfield 88, 3), (16, .iload_n 1, 1), (17, .iload_n 2, 1), (18, .invokevirtual 127, 3), (21, .goto 6, 3), (24, .ldc2_w 337, 3), (27, .lreturn, 1)]
theorem dk141 : ∀ r ∈ k141, decode prog_1_method_41_code r.1 = .ok r.2 := by decide +kernel
def me141 : MethodName × ByteArray × Nat × Option FieldType × Nat × List (Nat × Instr × Nat) := (⟨"BeggarBridge", "element", "(II)J"⟩, prog_1_method_41_code, 3, (some .long), 11, k141)
/-- BeggarBridge.shift(IIIII)I -/
def k142 : List (Nat × Instr × Nat) := [(0, .aload_n 0, 1), (1, .getfield 88, 3), (4, .iload_n 1, 1), (5, .iload_n 3, 1), (6, .invokevirtual 339, 3), (9, .istore 6, 2), (11, .iload 6, 2), (13, .ifCond .eq 6, 3), (16, .iload 6, 2), (18, .ireturn, 1), (19, .aload_n 0, 1), (20, .getfield 88, 3), (23, .iload_n 1, 1), (24, .iload_n 2, 1), (25, .iload 5, 2), (27, .invokevirtual 342, 3), (30, .ifCond .eq 18, 3), (33, .aload_n 0, 1), (34, .getfield 88, 3), (37, .iload_n 3, 1), (38, .iload 4, 2), (40, .iload 5, 2), (42, .invokevirtual 342, 3), (45, .ifCond .ne 6, 3), (48, .bipush (-13), 2), (50, .ireturn, 1), (51, .aload_n 0, 1), (52, .getfield 88, 3), (55, .iload_n 1, 1), (56, .iload_n 2, 1), (57, .iload_n 3, 1), (58, .iload 4, 2), (60, .iload 5, 2), (62, .invokevirtual 345, 3), (65, .iload 5, 2), (67, .ireturn, 1)]
theorem dk142 : ∀ r ∈ k142, decode prog_1_method_42_code r.1 = .ok r.2 := by decide +kernel
def me142 : MethodName × ByteArray × Nat × Option FieldType × Nat × List (Nat × Instr × Nat) := (⟨"BeggarBridge", "shift", "(IIIII)I"⟩, prog_1_method_42_code, 7, (some .int), 11, k142)
/-- BeggarBridge.taken(II)I -/
def k143 : List (Nat × Instr × Nat) := [(0, .aload_n 0, 1), (1, .getfield 88, 3), (4, .iload_n 1, 1), (5, .invokevirtual 108, 3), (8, .ifCond .eq 13, 3), (11, .iload_n 2, 1), (12, .iconst 0, 1), (13, .bipush 7, 2), (15, .invokestatic 111, 3), (18, .ifCond .ne 5, 3), (21, .iconst (-1), 1), (22, .ireturn, 1), (23, .aload_n 0, 1), (24, .getfield 88, 3), (27, .iload_n 1, 1), (28, .invokevirtual 349, 3), (31, .ifCond .eq 6, 3), (34, .bipush (-11), 2), (36, .ireturn, 1), (37, .aload_n 0, 1), (38, .getfield 88, 3), (41, .iload_n 1, 1), (42, .invokevirtual 352, 3), (45, .istore_n 3, 1), (46, .aload_n 0, 1), (47, .getfield 81, 3), (50, .iload_n 3, 1), (51, .invokevirtual 318, 3), (54, .ifCond .eq 26, 3), (57, .aload_n 0, 1), (58, .getfield 81, 3), (61, .iload_n 3, 1), (62, .iload_n 2, 1), (63, .invokevirtual 355, 3), (66, .ifCond .eq 14, 3), (69, .aload_n 0, 1), (70, .getfield 81, 3), (73, .iload_n 3, 1), (74, .invokevirtual 358, 3), (77, .goto 5, 3), (80, .bipush (-12), 2), (82, .ireturn, 1)]
theorem dk143 : ∀ r ∈ k143, decode prog_1_method_43_code r.1 = .ok r.2 := by decide +kernel
def me143 : MethodName × ByteArray × Nat × Option FieldType × Nat × List (Nat × Instr × Nat) := (⟨"BeggarBridge", "taken", "(II)I"⟩, prog_1_method_43_code, 4, (some .int), 11, k143)
/-- BeggarBridge.count(I)I -/
def k144 : List (Nat × Instr × Nat) := [(0, .iload_n 1, 1), (1, .tableswitch 87 0 5 #[39, 47, 55, 63, 71, 79], 39), (40, .aload_n 0, 1), (41, .getfield 10, 3), (44, .getfield 361, 3), (47, .ireturn, 1), (48, .aload_n 0, 1), (49, .getfield 10, 3), (52, .getfield 210, 3), (55, .ireturn, 1), (56, .aload_n 0, 1), (57, .getfield 19, 3), (60, .getfield 364, 3), (63, .ireturn, 1), (64, .aload_n 0, 1), (65, .getfield 67, 3), (68, .getfield 367, 3), (71, .ireturn, 1), (72, .aload_n 0, 1), (73, .getfield 81, 3), (76, .getfield 370, 3), (79, .ireturn, 1), (80, .aload_n 0, 1), (81, .getfield 81, 3), (84, .getfield 373, 3), (87, .ireturn, 1), (88, .iconst (-1), 1), (89, .ireturn, 1)]
theorem dk144 : ∀ r ∈ k144, decode prog_1_method_44_code r.1 = .ok r.2 := by decide +kernel
def me144 : MethodName × ByteArray × Nat × Option FieldType × Nat × List (Nat × Instr × Nat) := (⟨"BeggarBridge", "count", "(I)I"⟩, prog_1_method_44_code, 2, (some .int), 11, k144)
end
section
/-! generated by wip/whole/gen.py: the code of methods 145 .. 184 as data -/
/-- BeggarBridge.isWithin(III)Z -/
def k145 : List (Nat × Instr × Nat) := [(0, .iload_n 0, 1), (1, .iload_n 1, 1), (2, .if_icmp .lt 12, 3), (5, .iload_n 0, 1), (6, .iload_n 2, 1), (7, .if_icmp .gt 7, 3), (10, .iconst 1, 1), (11, .goto 4, 3), (14, .iconst 0, 1), (15, .ireturn, 1)]
theorem dk145 : ∀ r ∈ k145, decode prog_1_method_45_code r.1 = .ok r.2 := by decide +kernel
def me145 : MethodName × ByteArray × Nat × Option FieldType × Nat × List (Nat × Instr × Nat) := (⟨"BeggarBridge", "isWithin", "(III)Z"⟩, prog_1_method_45_code, 3, (some .boolean), 11, k145)
/-- BeggarBridge.isPair(I)Z -/
def k146 : List (Nat × Instr × Nat) := [(0, .iload_n 0, 1), (1, .ifCond .lt 36, 3), (4, .iload_n 0, 1), (5, .bipush 10, 2), (7, .idiv, 1), (8, .bipush 8, 2), (10, .if_icmp .ge 27, 3), (13, .iload_n 0, 1), (14, .bipush 10, 2), (16, .irem, 1), (17, .bipush 8, 2), (19, .if_icmp .ge 18, 3), (22, .iload_n 0, 1), (23, .bipush 10, 2), (25, .idiv, 1), (26, .iload_n 0, 1), (27, .bipush 10, 2), (29, .irem, 1), (30, .if_icmp .eq 7, 3), (33, .iconst 1, 1), (34, .goto 4, 3), (37, .iconst 0, 1), (38, .ireturn, 1)]
theorem dk146 : ∀ r ∈ k146, decode prog_1_method_46_code r.1 = .ok r.2 := by decide +kernel
def me146 : MethodName × ByteArray × Nat × Option FieldType × Nat × List (Nat × Instr × Nat) := (⟨"BeggarBridge", "isPair", "(I)Z"⟩, prog_1_method_46_code, 1, (some .boolean), 11, k146)
/-- BeggarBridge.held(II)I -/
def k147 : List (Nat × Instr × Nat) := [(0, .iconst 0, 1), (1, .iload_n 1, 1), (2, .iload_n 0, 1), (3, .invokestatic 376, 3), (6, .invokestatic 381, 3), (9, .ireturn, 1)]
theorem dk147 : ∀ r ∈ k147, decode prog_1_method_47_code r.1 = .ok r.2 := by decide +kernel
def me147 : MethodName × ByteArray × Nat × Option FieldType × Nat × List (Nat × Instr × Nat) := (⟨"BeggarBridge", "held", "(II)I"⟩, prog_1_method_47_code, 2, (some .int), 11, k147)
/-- BeggarBridgeModel.within(JJJ)Z -/
def k148 : List (Nat × Instr × Nat) := [(0, .lload_n 0, 1), (1, .lload_n 2, 1), (2, .lcmp, 1), (3, .ifCond .lt 14, 3), (6, .lload_n 0, 1), (7, .lload 4, 2), (9, .lcmp, 1), (10, .ifCond .gt 7, 3), (13, .iconst 1, 1), (14, .goto 4, 3), (17, .iconst 0, 1), (18, .ireturn, 1)]
theorem dk148 : ∀ r ∈ k148, decode prog_14_method_1_code r.1 = .ok r.2 := by decide +kernel
def me148 : MethodName × ByteArray × Nat × Option FieldType × Nat × List (Nat × Instr × Nat) := (⟨"BeggarBridgeModel", "within", "(JJJ)Z"⟩, prog_14_method_1_code, 6, (some .boolean), 12, k148)
/-- BeggarBridgeModel.isIn(II)Z -/
def k149 : List (Nat × Instr × Nat) := [(0, .iload_n 0, 1), (1, .iload_n 1, 1), (2, .ishr, 1), (3, .iconst 1, 1), (4, .iand, 1), (5, .iconst 1, 1), (6, .if_icmp .ne 7, 3), (9, .iconst 1, 1), (10, .goto 4, 3), (13, .iconst 0, 1), (14, .ireturn, 1)]
theorem dk149 : ∀ r ∈ k149, decode prog_14_method_2_code r.1 = .ok r.2 := by decide +kernel
def me149 : MethodName × ByteArray × Nat × Option FieldType × Nat × List (Nat × Instr × Nat) := (⟨"BeggarBridgeModel", "isIn", "(II)Z"⟩, prog_14_method_2_code, 2, (some .boolean), 12, k149)
/-- BeggarBridgeModel.bitsOf(I)I -/
def k150 : List (Nat × Instr × Nat) := [(0, .iconst 0, 1), (1, .istore_n 1, 1), (2, .iconst 0, 1), (3, .istore_n 2, 1), (4, .iload_n 2, 1), (5, .bipush 9, 2), (7, .if_icmp .ge 17, 3), (10, .iload_n 1, 1), (11, .iload_n 0, 1), (12, .iload_n 2, 1), (13, .ishr, 1), (14, .iconst 1, 1), (15, .iand, 1), (16, .iadd, 1), (17, .istore_n 1, 1), (18, .iinc 2 1, 3), (21, .goto (-17), 3), (24, .iload_n 1, 1), (25, .ireturn, 1)]
theorem dk150 : ∀ r ∈ k150, decode prog_14_method_3_code r.1 = .ok r.2 := by decide +kernel
def me150 : MethodName × ByteArray × Nat × Option FieldType × Nat × List (Nat × Instr × Nat) := (⟨"BeggarBridgeModel", "bitsOf", "(I)I"⟩, prog_14_method_3_code, 3, (some .int), 12, k150)
/-- BeggarBridgeModel.least(II)I -/
def k151 : List (Nat × Instr × Nat) := [(0, .iload_n 0, 1), (1, .iload_n 1, 1), (2, .if_icmp .ge 7, 3), (5, .iload_n 0, 1), (6, .goto 4, 3), (9, .iload_n 1, 1), (10, .ireturn, 1)]
theorem dk151 : ∀ r ∈ k151, decode prog_14_method_4_code r.1 = .ok r.2 := by decide +kernel
def me151 : MethodName × ByteArray × Nat × Option FieldType × Nat × List (Nat × Instr × Nat) := (⟨"BeggarBridgeModel", "least", "(II)I"⟩, prog_14_method_4_code, 2, (some .int), 12, k151)
/-- BeggarBridgeModel.heldIn(I)I -/
def k152 : List (Nat × Instr × Nat) := [(0, .iload_n 0, 1), (1, .ifCond .ge 7, 3), (4, .iconst 0, 1), (5, .goto 15, 3), (8, .iload_n 0, 1), (9, .bipush 99, 2), (11, .if_icmp .le 8, 3), (14, .bipush 99, 2), (16, .goto 4, 3), (19, .iload_n 0, 1), (20, .ireturn, 1)]
theorem dk152 : ∀ r ∈ k152, decode prog_14_method_5_code r.1 = .ok r.2 := by decide +kernel
def me152 : MethodName × ByteArray × Nat × Option FieldType × Nat × List (Nat × Instr × Nat) := (⟨"BeggarBridgeModel", "heldIn", "(I)I"⟩, prog_14_method_5_code, 1, (some .int), 12, k152)
/-- BeggarBridgeModel.becomes(II)I -/
def k153_0 : List (Nat × Instr × Nat) := [(0, .aload_n 0, 1), (1, .getfield 9, 3), (4, .iload_n 1, 1), (5, .iaload, 1), (6, .istore_n 3, 1), (7, .iload_n 3, 1), (8, .iload_n 2, 1), (9, .if_icmp .ne 5, 3), (12, .iload_n 3, 1), (13, .ireturn, 1), (14, .aload_n 0, 1), (15, .getfield 104, 3), (18, .bipush 40, 2), (20, .if_icmp .ne 77, 3), (23, .iconst 1, 1), (24, .istore 4, 2), (26, .iload 4, 2), (28, .bipush 40, 2), (30, .if_icmp .ge 57, 3), (33, .aload_n 0, 1), (34, .getfield 13, 3), (37, .iload 4, 2), (39, .iconst 1, 1), (40, .isub, 1), (41, .aload_n 0, 1), (42, .getfield 13, 3), (45, .iload 4, 2), (47, .iaload, 1), (48, .iastore, 1), (49, .aload_n 0, 1), (50, .getfield 16, 3), (53, .iload 4, 2), (55, .iconst 1, 1), (56, .isub, 1), (57, .aload_n 0, 1), (58, .getfield 16, 3), (61, .iload 4, 2), (63, .iaload, 1), (64, .iastore, 1), (65, .aload_n 0, 1), (66, .getfield 19, 3), (69, .iload 4, 2), (71, .iconst 1, 1), (72, .isub, 1), (73, .aload_n 0, 1), (74, .getfield 19, 3), (77, .iload 4, 2), (79, .iaload, 1), (80, .iastore, 1), (81, .iinc 4 1, 3), (84, .goto (-58), 3), (87, .aload_n 0, 1), (88, .dup, 1), (89, .getfield 104, 3), (92, .iconst 1, 1), (93, .isub, 1), (94, .putfield 104, 3), (97, .aload_n 0, 1), (98, .getfield 13, 3), (101, .aload_n 0, 1)]
theorem dk153_0 : ∀ r ∈ k153_0, decode prog_14_method_7_code r.1 = .ok r.2 := by decide +kernel
def k153_1 : List (Nat × Instr × Nat) := [(102, .getfield 104, 3), (105, .iload_n 1, 1), (106, .iastore, 1), (107, .aload_n 0, 1), (108, .getfield 16, 3), (111, .aload_n 0, 1), (112, .getfield 104, 3), (115, .iload_n 3, 1), (116, .iastore, 1), (117, .aload_n 0, 1), (118, .getfield 19, 3), (121, .aload_n 0, 1), (122, .getfield 104, 3), (125, .iload_n 2, 1), (126, .iastore, 1), (127, .aload_n 0, 1), (128, .dup, 1), (129, .getfield 104, 3), (132, .iconst 1, 1), (133, .iadd, 1), (134, .putfield 104, 3), (137, .aload_n 0, 1), (138, .aload_n 0, 1), (139, .getfield 104, 3), (142, .putfield 108, 3), (145, .aload_n 0, 1), (146, .getfield 9, 3), (149, .iload_n 1, 1), (150, .iload_n 2, 1), (151, .iastore, 1), (152, .iload_n 3, 1), (153, .ireturn, 1)]
theorem dk153_1 : ∀ r ∈ k153_1, decode prog_14_method_7_code r.1 = .ok r.2 := by decide +kernel
def k153 : List (Nat × Instr × Nat) := k153_0 ++ (k153_1)
theorem dk153 : ∀ r ∈ k153, decode prog_14_method_7_code r.1 = .ok r.2 := List.forall_mem_append.mpr ⟨dk153_0, dk153_1⟩
def me153 : MethodName × ByteArray × Nat × Option FieldType × Nat × List (Nat × Instr × Nat) := (⟨"BeggarBridgeModel", "becomes", "(II)I"⟩, prog_14_method_7_code, 5, (some .int), 12, k153)
/-- BeggarBridgeModel.undo()I -/
def k154 : List (Nat × Instr × Nat) := [(0, .aload_n 0, 1), (1, .getfield 104, 3), (4, .ifCond .ne 6, 3), (7, .bipush (-5), 2), (9, .ireturn, 1), (10, .aload_n 0, 1), (11, .dup, 1), (12, .getfield 104, 3), (15, .iconst 1, 1), (16, .isub, 1), (17, .putfield 104, 3), (20, .aload_n 0, 1), (21, .getfield 9, 3), (24, .aload_n 0, 1), (25, .getfield 13, 3), (28, .aload_n 0, 1), (29, .getfield 104, 3), (32, .iaload, 1), (33, .aload_n 0, 1), (34, .getfield 16, 3), (37, .aload_n 0, 1), (38, .getfield 104, 3), (41, .iaload, 1), (42, .iastore, 1), (43, .aload_n 0, 1), (44, .getfield 104, 3), (47, .ireturn, 1)]
theorem dk154 : ∀ r ∈ k154, decode prog_14_method_8_code r.1 = .ok r.2 := by decide +kernel
def me154 : MethodName × ByteArray × Nat × Option FieldType × Nat × List (Nat × Instr × Nat) := (⟨"BeggarBridgeModel", "undo", "()I"⟩, prog_14_method_8_code, 1, (some .int), 12, k154)
/-- BeggarBridgeModel.redo()I -/
def k155 : List (Nat × Instr × Nat) := [(0, .aload_n 0, 1), (1, .getfield 104, 3), (4, .aload_n 0, 1), (5, .getfield 108, 3), (8, .if_icmp .ne 6, 3), (11, .bipush (-5), 2), (13, .ireturn, 1), (14, .aload_n 0, 1), (15, .getfield 9, 3), (18, .aload_n 0, 1), (19, .getfield 13, 3), (22, .aload_n 0, 1), (23, .getfield 104, 3), (26, .iaload, 1), (27, .aload_n 0, 1), (28, .getfield 19, 3), (31, .aload_n 0, 1), (32, .getfield 104, 3), (35, .iaload, 1), (36, .iastore, 1), (37, .aload_n 0, 1), (38, .dup, 1), (39, .getfield 104, 3), (42, .iconst 1, 1), (43, .iadd, 1), (44, .putfield 104, 3), (47, .aload_n 0, 1), (48, .getfield 108, 3), (51, .aload_n 0, 1), (52, .getfield 104, 3), (55, .isub, 1), (56, .ireturn, 1)]
theorem dk155 : ∀ r ∈ k155, decode prog_14_method_9_code r.1 = .ok r.2 := by decide +kernel
def me155 : MethodName × ByteArray × Nat × Option FieldType × Nat × List (Nat × Instr × Nat) := (⟨"BeggarBridgeModel", "redo", "()I"⟩, prog_14_method_9_code, 1, (some .int), 12, k155)
/-- BeggarBridgeModel.isBridge(J)Z -/
def k156 : List (Nat × Instr × Nat) := [(0, .lload_n 1, 1), (1, .lconst 0, 1), (2, .aload_n 0, 1), (3, .getfield 111, 3), (6, .iconst 1, 1), (7, .isub, 1), (8, .i2l, 1), (9, .invokestatic 114, 3), (12, .ireturn, 1)]
theorem dk156 : ∀ r ∈ k156, decode prog_14_method_10_code r.1 = .ok r.2 := by decide +kernel
def me156 : MethodName × ByteArray × Nat × Option FieldType × Nat × List (Nat × Instr × Nat) := (⟨"BeggarBridgeModel", "isBridge", "(J)Z"⟩, prog_14_method_10_code, 3, (some .boolean), 12, k156)
/-- BeggarBridgeModel.isBeggar(J)Z -/
def k157 : List (Nat × Instr × Nat) := [(0, .lload_n 1, 1), (1, .lconst 0, 1), (2, .aload_n 0, 1), (3, .getfield 118, 3), (6, .iconst 1, 1), (7, .isub, 1), (8, .i2l, 1), (9, .invokestatic 114, 3), (12, .ireturn, 1)]
theorem dk157 : ∀ r ∈ k157, decode prog_14_method_11_code r.1 = .ok r.2 := by decide +kernel
def me157 : MethodName × ByteArray × Nat × Option FieldType × Nat × List (Nat × Instr × Nat) := (⟨"BeggarBridgeModel", "isBeggar", "(J)Z"⟩, prog_14_method_11_code, 3, (some .boolean), 12, k157)
/-- BeggarBridgeModel.isPlace(J)Z -/
def k158 : List (Nat × Instr × Nat) := [(0, .lload_n 0, 1), (1, .lconst 0, 1), (2, .ldc2_w 121, 3), (5, .invokestatic 114, 3), (8, .ireturn, 1)]
theorem dk158 : ∀ r ∈ k158, decode prog_14_method_12_code r.1 = .ok r.2 := by decide +kernel
def me158 : MethodName × ByteArray × Nat × Option FieldType × Nat × List (Nat × Instr × Nat) := (⟨"BeggarBridgeModel", "isPlace", "(J)Z"⟩, prog_14_method_12_code, 2, (some .boolean), 12, k158)
/-- BeggarBridgeModel.isFt(I)Z -/
def k159 : List (Nat × Instr × Nat) := [(0, .iload_n 0, 1), (1, .ifCond .lt 40, 3), (4, .iload_n 0, 1), (5, .bipush 10, 2), (7, .idiv, 1), (8, .i2l, 1), (9, .invokestatic 123, 3), (12, .ifCond .eq 29, 3), (15, .iload_n 0, 1), (16, .bipush 10, 2), (18, .irem, 1), (19, .i2l, 1), (20, .invokestatic 123, 3), (23, .ifCond .eq 18, 3), (26, .iload_n 0, 1), (27, .bipush 10, 2), (29, .idiv, 1), (30, .iload_n 0, 1), (31, .bipush 10, 2), (33, .irem, 1), (34, .if_icmp .eq 7, 3), (37, .iconst 1, 1), (38, .goto 4, 3), (41, .iconst 0, 1), (42, .ireturn, 1)]
theorem dk159 : ∀ r ∈ k159, decode prog_14_method_13_code r.1 = .ok r.2 := by decide +kernel
def me159 : MethodName × ByteArray × Nat × Option FieldType × Nat × List (Nat × Instr × Nat) := (⟨"BeggarBridgeModel", "isFt", "(I)Z"⟩, prog_14_method_13_code, 1, (some .boolean), 12, k159)
/-- BeggarBridgeModel.maySit(J)Z -/
def k160 : List (Nat × Instr × Nat) := [(0, .lload_n 1, 1), (1, .ldc2_w 127, 3), (4, .lcmp, 1), (5, .ifCond .eq 11, 3), (8, .aload_n 0, 1), (9, .lload_n 1, 1), (10, .invokevirtual 129, 3), (13, .ifCond .eq 7, 3), (16, .iconst 1, 1), (17, .goto 4, 3), (20, .iconst 0, 1), (21, .ireturn, 1)]
theorem dk160 : ∀ r ∈ k160, decode prog_14_method_14_code r.1 = .ok r.2 := by decide +kernel
def me160 : MethodName × ByteArray × Nat × Option FieldType × Nat × List (Nat × Instr × Nat) := (⟨"BeggarBridgeModel", "maySit", "(J)Z"⟩, prog_14_method_14_code, 3, (some .boolean), 12, k160)
/-- BeggarBridgeModel.bridge(II)I -/
def k161_0 : List (Nat × Instr × Nat) := [(0, .iload_n 1, 1), (1, .invokestatic 132, 3), (4, .ifCond .eq 15, 3), (7, .iload_n 2, 1), (8, .i2l, 1), (9, .lconst 1, 1), (10, .ldc2_w 136, 3), (13, .invokestatic 114, 3), (16, .ifCond .ne 5, 3), (19, .iconst (-1), 1), (20, .ireturn, 1), (21, .aload_n 0, 1), (22, .getfield 111, 3), (25, .bipush 8, 2), (27, .if_icmp .ne 6, 3), (30, .bipush (-3), 2), (32, .ireturn, 1), (33, .aload_n 0, 1), (34, .getfield 22, 3), (37, .aload_n 0, 1), (38, .getfield 111, 3), (41, .iload_n 1, 1), (42, .bipush 10, 2), (44, .idiv, 1), (45, .iastore, 1), (46, .aload_n 0, 1), (47, .getfield 25, 3), (50, .aload_n 0, 1), (51, .getfield 111, 3), (54, .iload_n 1, 1), (55, .bipush 10, 2), (57, .irem, 1), (58, .iastore, 1), (59, .aload_n 0, 1), (60, .getfield 9, 3), (63, .aload_n 0, 1), (64, .getfield 111, 3), (67, .iload_n 2, 1), (68, .iastore, 1), (69, .aload_n 0, 1), (70, .getfield 9, 3), (73, .bipush 8, 2), (75, .aload_n 0, 1), (76, .getfield 111, 3), (79, .iadd, 1), (80, .bipush 99, 2), (82, .iastore, 1), (83, .aload_n 0, 1), (84, .getfield 9, 3), (87, .bipush 16, 2), (89, .aload_n 0, 1), (90, .getfield 111, 3), (93, .iadd, 1), (94, .iconst 3, 1), (95, .iastore, 1), (96, .aload_n 0, 1), (97, .dup, 1), (98, .getfield 111, 3), (101, .iconst 1, 1), (102, .iadd, 1)]
theorem dk161_0 : ∀ r ∈ k161_0, decode prog_14_method_15_code r.1 = .ok r.2 := by decide +kernel
def k161_1 : List (Nat × Instr × Nat) := [(103, .putfield 111, 3), (106, .aload_n 0, 1), (107, .getfield 111, 3), (110, .iconst 1, 1), (111, .isub, 1), (112, .ireturn, 1)]
theorem dk161_1 : ∀ r ∈ k161_1, decode prog_14_method_15_code r.1 = .ok r.2 := by decide +kernel
def k161 : List (Nat × Instr × Nat) := k161_0 ++ (k161_1)
theorem dk161 : ∀ r ∈ k161, decode prog_14_method_15_code r.1 = .ok r.2 := List.forall_mem_append.mpr ⟨dk161_0, dk161_1⟩
def me161 : MethodName × ByteArray × Nat × Option FieldType × Nat × List (Nat × Instr × Nat) := (⟨"BeggarBridgeModel", "bridge", "(II)I"⟩, prog_14_method_15_code, 3, (some .int), 12, k161)
/-- BeggarBridgeModel.mayCome(JJJJ)Z -/
def k162 : List (Nat × Instr × Nat) := [(0, .lload_n 1, 1), (1, .lconst 0, 1), (2, .ldc2_w 138, 3), (5, .invokestatic 114, 3), (8, .ifCond .eq 39, 3), (11, .lload_n 3, 1), (12, .lconst 0, 1), (13, .ldc2_w 136, 3), (16, .invokestatic 114, 3), (19, .ifCond .eq 28, 3), (22, .lload 5, 2), (24, .lconst 0, 1), (25, .ldc2_w 136, 3), (28, .invokestatic 114, 3), (31, .ifCond .eq 16, 3), (34, .aload_n 0, 1), (35, .lload 7, 2), (37, .invokevirtual 140, 3), (40, .ifCond .eq 7, 3), (43, .iconst 1, 1), (44, .goto 4, 3), (47, .iconst 0, 1), (48, .ireturn, 1)]
theorem dk162 : ∀ r ∈ k162, decode prog_14_method_16_code r.1 = .ok r.2 := by decide +kernel
def me162 : MethodName × ByteArray × Nat × Option FieldType × Nat × List (Nat × Instr × Nat) := (⟨"BeggarBridgeModel", "mayCome", "(JJJJ)Z"⟩, prog_14_method_16_code, 9, (some .boolean), 12, k162)
/-- BeggarBridgeModel.adds(IIII)V -/
def k163 : List (Nat × Instr × Nat) := [(0, .aload_n 0, 1), (1, .getfield 9, 3), (4, .bipush 24, 2), (6, .aload_n 0, 1), (7, .getfield 118, 3), (10, .iadd, 1), (11, .iload_n 1, 1), (12, .iastore, 1), (13, .aload_n 0, 1), (14, .getfield 9, 3), (17, .bipush 33, 2), (19, .aload_n 0, 1), (20, .getfield 118, 3), (23, .iadd, 1), (24, .iload_n 2, 1), (25, .iastore, 1), (26, .aload_n 0, 1), (27, .getfield 9, 3), (30, .bipush 42, 2), (32, .aload_n 0, 1), (33, .getfield 118, 3), (36, .iadd, 1), (37, .iload_n 3, 1), (38, .iastore, 1), (39, .aload_n 0, 1), (40, .getfield 9, 3), (43, .bipush 51, 2), (45, .aload_n 0, 1), (46, .getfield 118, 3), (49, .iadd, 1), (50, .iload 4, 2), (52, .iastore, 1), (53, .aload_n 0, 1), (54, .dup, 1), (55, .getfield 118, 3), (58, .iconst 1, 1), (59, .iadd, 1), (60, .putfield 118, 3), (63, .return_, 1)]
theorem dk163 : ∀ r ∈ k163, decode prog_14_method_17_code r.1 = .ok r.2 := by decide +kernel
def me163 : MethodName × ByteArray × Nat × Option FieldType × Nat × List (Nat × Instr × Nat) := (⟨"BeggarBridgeModel", "adds", "(IIII)V"⟩, prog_14_method_17_code, 5, none, 12, k163)
/-- BeggarBridgeModel.beggar(II)I -/
def k164 : List (Nat × Instr × Nat) := [(0, .aload_n 0, 1), (1, .lconst 0, 1), (2, .iload_n 1, 1), (3, .i2l, 1), (4, .iload_n 2, 1), (5, .i2l, 1), (6, .ldc2_w 127, 3), (9, .invokevirtual 143, 3), (12, .ifCond .ne 5, 3), (15, .iconst (-1), 1), (16, .ireturn, 1), (17, .aload_n 0, 1), (18, .getfield 118, 3), (21, .bipush 9, 2), (23, .if_icmp .ne 6, 3), (26, .bipush (-3), 2), (28, .ireturn, 1), (29, .aload_n 0, 1), (30, .iconst 0, 1), (31, .iload_n 1, 1), (32, .iload_n 2, 1), (33, .iconst (-1), 1), (34, .invokevirtual 147, 3), (37, .aload_n 0, 1), (38, .getfield 118, 3), (41, .iconst 1, 1), (42, .isub, 1), (43, .ireturn, 1)]
theorem dk164 : ∀ r ∈ k164, decode prog_14_method_18_code r.1 = .ok r.2 := by decide +kernel
def me164 : MethodName × ByteArray × Nat × Option FieldType × Nat × List (Nat × Instr × Nat) := (⟨"BeggarBridgeModel", "beggar", "(II)I"⟩, prog_14_method_18_code, 3, (some .int), 12, k164)
/-- BeggarBridgeModel.beggars(III)I -/
def k165_0 : List (Nat × Instr × Nat) := [(0, .iload_n 1, 1), (1, .invokestatic 151, 3), (4, .ifCond .eq 15, 3), (7, .iload_n 3, 1), (8, .i2l, 1), (9, .lconst 1, 1), (10, .ldc2_w 136, 3), (13, .invokestatic 114, 3), (16, .ifCond .ne 5, 3), (19, .iconst (-1), 1), (20, .ireturn, 1), (21, .aload_n 0, 1), (22, .getfield 91, 3), (25, .iload_n 1, 1), (26, .iaload, 1), (27, .ifCond .lt 17, 3), (30, .aload_n 0, 1), (31, .getfield 91, 3), (34, .iload_n 1, 1), (35, .iaload, 1), (36, .bipush 50, 2), (38, .if_icmp .eq 6, 3), (41, .bipush (-12), 2), (43, .ireturn, 1), (44, .iconst 0, 1), (45, .istore 4, 2), (47, .aload_n 0, 1), (48, .getfield 91, 3), (51, .iload_n 1, 1), (52, .iaload, 1), (53, .bipush 50, 2), (55, .if_icmp .ne 11, 3), (58, .iload_n 2, 1), (59, .ifCond .lt 7, 3), (62, .iconst 1, 1), (63, .goto 4, 3), (66, .iconst 0, 1), (67, .istore 5, 2), (69, .iload 5, 2), (71, .ifCond .eq 161, 3), (74, .iload 4, 2), (76, .iload_n 3, 1), (77, .if_icmp .ge 155, 3), (80, .iload_n 2, 1), (81, .aload_n 0, 1), (82, .getfield 94, 3), (85, .iload_n 1, 1), (86, .iaload, 1), (87, .iconst 4, 1), (88, .isub, 1), (89, .iconst 4, 1), (90, .iload 4, 2), (92, .imul, 1), (93, .isub, 1), (94, .if_icmp .gt 16, 3), (97, .aload_n 0, 1), (98, .getfield 118, 3), (101, .bipush 9, 2), (103, .if_icmp .ge 7, 3), (106, .iconst 1, 1)]
theorem dk165_0 : ∀ r ∈ k165_0, decode prog_14_method_19_code r.1 = .ok r.2 := by decide +kernel
def k165_1 : List (Nat × Instr × Nat) := [(107, .goto 4, 3), (110, .iconst 0, 1), (111, .istore 5, 2), (113, .bipush 60, 2), (115, .iload_n 1, 1), (116, .imul, 1), (117, .iload_n 2, 1), (118, .iadd, 1), (119, .iconst 4, 1), (120, .iload 4, 2), (122, .imul, 1), (123, .iadd, 1), (124, .istore 6, 2), (126, .iload 5, 2), (128, .ifCond .eq 48, 3), (131, .aload_n 0, 1), (132, .aload_n 0, 1), (133, .getfield 97, 3), (136, .iload 6, 2), (138, .laload, 1), (139, .aload_n 0, 1), (140, .getfield 97, 3), (143, .iload 6, 2), (145, .iconst 1, 1), (146, .iadd, 1), (147, .laload, 1), (148, .aload_n 0, 1), (149, .getfield 97, 3), (152, .iload 6, 2), (154, .iconst 2, 1), (155, .iadd, 1), (156, .laload, 1), (157, .aload_n 0, 1), (158, .getfield 97, 3), (161, .iload 6, 2), (163, .iconst 3, 1), (164, .iadd, 1), (165, .laload, 1), (166, .invokevirtual 143, 3), (169, .ifCond .eq 7, 3), (172, .iconst 1, 1), (173, .goto 4, 3), (176, .iconst 0, 1), (177, .istore 5, 2), (179, .iload 5, 2), (181, .ifCond .eq 48, 3), (184, .aload_n 0, 1), (185, .aload_n 0, 1), (186, .getfield 97, 3), (189, .iload 6, 2), (191, .laload, 1), (192, .l2i, 1), (193, .aload_n 0, 1), (194, .getfield 97, 3), (197, .iload 6, 2), (199, .iconst 1, 1), (200, .iadd, 1), (201, .laload, 1), (202, .l2i, 1), (203, .aload_n 0, 1)]
theorem dk165_1 : ∀ r ∈ k165_1, decode prog_14_method_19_code r.1 = .ok r.2 := by decide +kernel
def k165_2 : List (Nat × Instr × Nat) := [(204, .getfield 97, 3), (207, .iload 6, 2), (209, .iconst 2, 1), (210, .iadd, 1), (211, .laload, 1), (212, .l2i, 1), (213, .aload_n 0, 1), (214, .getfield 97, 3), (217, .iload 6, 2), (219, .iconst 3, 1), (220, .iadd, 1), (221, .laload, 1), (222, .l2i, 1), (223, .invokevirtual 147, 3), (226, .iinc 4 1, 3), (229, .goto (-160), 3), (232, .iload 4, 2), (234, .ireturn, 1)]
theorem dk165_2 : ∀ r ∈ k165_2, decode prog_14_method_19_code r.1 = .ok r.2 := by decide +kernel
def k165 : List (Nat × Instr × Nat) := k165_0 ++ (k165_1 ++ (k165_2))
theorem dk165 : ∀ r ∈ k165, decode prog_14_method_19_code r.1 = .ok r.2 := List.forall_mem_append.mpr ⟨dk165_0, List.forall_mem_append.mpr ⟨dk165_1, dk165_2⟩⟩
def me165 : MethodName × ByteArray × Nat × Option FieldType × Nat × List (Nat × Instr × Nat) := (⟨"BeggarBridgeModel", "beggars", "(III)I"⟩, prog_14_method_19_code, 7, (some .int), 12, k165)
/-- BeggarBridgeModel.placeOf(II)I -/
def k166 : List (Nat × Instr × Nat) := [(0, .iload_n 2, 1), (1, .i2l, 1), (2, .lconst 0, 1), (3, .ldc2_w 154, 3), (6, .invokestatic 114, 3), (9, .ifCond .eq 23, 3), (12, .aload_n 0, 1), (13, .iload_n 1, 1), (14, .i2l, 1), (15, .invokevirtual 129, 3), (18, .ifCond .eq 12, 3), (21, .bipush 8, 2), (23, .iload_n 2, 1), (24, .imul, 1), (25, .iload_n 1, 1), (26, .iadd, 1), (27, .goto 4, 3), (30, .iconst (-1), 1), (31, .ireturn, 1), (32, .iload_n 2, 1), (33, .i2l, 1), (34, .ldc2_w 156, 3), (37, .ldc2_w 158, 3), (40, .invokestatic 114, 3), (43, .ifCond .eq 28, 3), (46, .aload_n 0, 1), (47, .iload_n 1, 1), (48, .i2l, 1), (49, .invokevirtual 160, 3), (52, .ifCond .eq 17, 3), (55, .bipush 24, 2), (57, .bipush 9, 2), (59, .iload_n 2, 1), (60, .iconst 3, 1), (61, .isub, 1), (62, .imul, 1), (63, .iadd, 1), (64, .iload_n 1, 1), (65, .iadd, 1), (66, .goto 4, 3), (69, .iconst (-1), 1), (70, .ireturn, 1), (71, .iload_n 1, 1), (72, .ifCond .ne 27, 3), (75, .iload_n 2, 1), (76, .i2l, 1), (77, .ldc2_w 121, 3), (80, .ldc2_w 163, 3), (83, .invokestatic 114, 3), (86, .ifCond .eq 13, 3), (89, .bipush 60, 2), (91, .iload_n 2, 1), (92, .iadd, 1), (93, .bipush 7, 2), (95, .isub, 1), (96, .goto 4, 3), (99, .iconst (-1), 1), (100, .ireturn, 1)]
theorem dk166 : ∀ r ∈ k166, decode prog_14_method_20_code r.1 = .ok r.2 := by decide +kernel
def me166 : MethodName × ByteArray × Nat × Option FieldType × Nat × List (Nat × Instr × Nat) := (⟨"BeggarBridgeModel", "placeOf", "(II)I"⟩, prog_14_method_20_code, 3, (some .int), 12, k166)
/-- BeggarBridgeModel.mayBecome(II)Z -/
def k167 : List (Nat × Instr × Nat) := [(0, .iload_n 1, 1), (1, .tableswitch 88 0 8 #[51, 61, 88, 61, 88, 88, 71, 61, 78], 51), (52, .iload_n 2, 1), (53, .i2l, 1), (54, .lconst 1, 1), (55, .ldc2_w 136, 3), (58, .invokestatic 114, 3), (61, .ireturn, 1), (62, .iload_n 2, 1), (63, .i2l, 1), (64, .lconst 0, 1), (65, .ldc2_w 138, 3), (68, .invokestatic 114, 3), (71, .ireturn, 1), (72, .aload_n 0, 1), (73, .iload_n 2, 1), (74, .i2l, 1), (75, .invokevirtual 140, 3), (78, .ireturn, 1), (79, .iload_n 2, 1), (80, .i2l, 1), (81, .lconst 0, 1), (82, .ldc2_w 158, 3), (85, .invokestatic 114, 3), (88, .ireturn, 1), (89, .iload_n 2, 1), (90, .i2l, 1), (91, .lconst 0, 1), (92, .ldc2_w 136, 3), (95, .invokestatic 114, 3), (98, .ireturn, 1)]
theorem dk167 : ∀ r ∈ k167, decode prog_14_method_21_code r.1 = .ok r.2 := by decide +kernel
def me167 : MethodName × ByteArray × Nat × Option FieldType × Nat × List (Nat × Instr × Nat) := (⟨"BeggarBridgeModel", "mayBecome", "(II)Z"⟩, prog_14_method_21_code, 3, (some .boolean), 12, k167)
/-- BeggarBridgeModel.mend(III)I -/
def k168 : List (Nat × Instr × Nat) := [(0, .aload_n 0, 1), (1, .iload_n 1, 1), (2, .iload_n 2, 1), (3, .invokevirtual 165, 3), (6, .istore 4, 2), (8, .iload 4, 2), (10, .ifCond .lt 22, 3), (13, .aload_n 0, 1), (14, .iload_n 2, 1), (15, .iload_n 3, 1), (16, .invokevirtual 169, 3), (19, .ifCond .eq 13, 3), (22, .aload_n 0, 1), (23, .iload 4, 2), (25, .iload_n 3, 1), (26, .invokevirtual 173, 3), (29, .goto 5, 3), (32, .ldc 176, 2), (34, .ireturn, 1)]
theorem dk168 : ∀ r ∈ k168, decode prog_14_method_22_code r.1 = .ok r.2 := by decide +kernel
def me168 : MethodName × ByteArray × Nat × Option FieldType × Nat × List (Nat × Instr × Nat) := (⟨"BeggarBridgeModel", "mend", "(III)I"⟩, prog_14_method_22_code, 5, (some .int), 12, k168)
/-- BeggarBridgeModel.of(II)I -/
def k169 : List (Nat × Instr × Nat) := [(0, .aload_n 0, 1), (1, .iload_n 1, 1), (2, .iload_n 2, 1), (3, .invokevirtual 165, 3), (6, .istore_n 3, 1), (7, .iload_n 3, 1), (8, .ifCond .lt 10, 3), (11, .aload_n 0, 1), (12, .getfield 9, 3), (15, .iload_n 3, 1), (16, .iaload, 1), (17, .ireturn, 1), (18, .aload_n 0, 1), (19, .iload_n 1, 1), (20, .i2l, 1), (21, .invokevirtual 129, 3), (24, .ifCond .ne 8, 3), (27, .ldc 176, 2), (29, .goto 35, 3), (32, .iload_n 2, 1), (33, .bipush 9, 2), (35, .if_icmp .ne 12, 3), (38, .aload_n 0, 1), (39, .getfield 22, 3), (42, .iload_n 1, 1), (43, .iaload, 1), (44, .goto 20, 3), (47, .iload_n 2, 1), (48, .bipush 10, 2), (50, .if_icmp .ne 12, 3), (53, .aload_n 0, 1), (54, .getfield 25, 3), (57, .iload_n 1, 1), (58, .iaload, 1), (59, .goto 5, 3), (62, .ldc 176, 2), (64, .ireturn, 1)]
theorem dk169 : ∀ r ∈ k169, decode prog_14_method_23_code r.1 = .ok r.2 := by decide +kernel
def me169 : MethodName × ByteArray × Nat × Option FieldType × Nat × List (Nat × Instr × Nat) := (⟨"BeggarBridgeModel", "of", "(II)I"⟩, prog_14_method_23_code, 4, (some .int), 12, k169)
/-- BeggarBridgeModel.feed(I)I -/
def k170 : List (Nat × Instr × Nat) := [(0, .iload_n 1, 1), (1, .i2l, 1), (2, .lconst 0, 1), (3, .ldc2_w 177, 3), (6, .invokestatic 114, 3), (9, .ifCond .ne 5, 3), (12, .iconst (-1), 1), (13, .ireturn, 1), (14, .aload_n 0, 1), (15, .getfield 179, 3), (18, .bipush 120, 2), (20, .if_icmp .ne 6, 3), (23, .bipush (-3), 2), (25, .ireturn, 1), (26, .aload_n 0, 1), (27, .getfield 28, 3), (30, .aload_n 0, 1), (31, .getfield 179, 3), (34, .iload_n 1, 1), (35, .iastore, 1), (36, .aload_n 0, 1), (37, .dup, 1), (38, .getfield 179, 3), (41, .iconst 1, 1), (42, .iadd, 1), (43, .putfield 179, 3), (46, .aload_n 0, 1), (47, .getfield 179, 3), (50, .ireturn, 1)]
theorem dk170 : ∀ r ∈ k170, decode prog_14_method_24_code r.1 = .ok r.2 := by decide +kernel
def me170 : MethodName × ByteArray × Nat × Option FieldType × Nat × List (Nat × Instr × Nat) := (⟨"BeggarBridgeModel", "feed", "(I)I"⟩, prog_14_method_24_code, 2, (some .int), 12, k170)
/-- BeggarBridgeModel.byteAt()I -/
def k171 : List (Nat × Instr × Nat) := [(0, .aload_n 0, 1), (1, .getfield 182, 3), (4, .aload_n 0, 1), (5, .getfield 179, 3), (8, .if_icmp .ge 15, 3), (11, .aload_n 0, 1), (12, .getfield 28, 3), (15, .aload_n 0, 1), (16, .getfield 182, 3), (19, .iaload, 1), (20, .goto 4, 3), (23, .iconst 0, 1), (24, .ireturn, 1)]
theorem dk171 : ∀ r ∈ k171, decode prog_14_method_25_code r.1 = .ok r.2 := by decide +kernel
def me171 : MethodName × ByteArray × Nat × Option FieldType × Nat × List (Nat × Instr × Nat) := (⟨"BeggarBridgeModel", "byteAt", "()I"⟩, prog_14_method_25_code, 1, (some .int), 12, k171)
/-- BeggarBridgeModel.wrong()V -/
def k172 : List (Nat × Instr × Nat) := [(0, .aload_n 0, 1), (1, .aload_n 0, 1), (2, .getfield 185, 3), (5, .ifCond .ge 10, 3), (8, .aload_n 0, 1), (9, .getfield 182, 3), (12, .goto 7, 3), (15, .aload_n 0, 1), (16, .getfield 185, 3), (19, .putfield 185, 3), (22, .return_, 1)]
theorem dk172 : ∀ r ∈ k172, decode prog_14_method_26_code r.1 = .ok r.2 := by decide +kernel
def me172 : MethodName × ByteArray × Nat × Option FieldType × Nat × List (Nat × Instr × Nat) := (⟨"BeggarBridgeModel", "wrong", "()V"⟩, prog_14_method_26_code, 1, none, 12, k172)
/-- BeggarBridgeModel.takes(I)Z -/
def k173 : List (Nat × Instr × Nat) := [(0, .aload_n 0, 1), (1, .getfield 185, 3), (4, .ifCond .ge 11, 3), (7, .aload_n 0, 1), (8, .invokevirtual 188, 3), (11, .iload_n 1, 1), (12, .if_icmp .eq 5, 3), (15, .iconst 0, 1), (16, .ireturn, 1), (17, .aload_n 0, 1), (18, .dup, 1), (19, .getfield 182, 3), (22, .iconst 1, 1), (23, .iadd, 1), (24, .putfield 182, 3), (27, .iconst 1, 1), (28, .ireturn, 1)]
theorem dk173 : ∀ r ∈ k173, decode prog_14_method_27_code r.1 = .ok r.2 := by decide +kernel
def me173 : MethodName × ByteArray × Nat × Option FieldType × Nat × List (Nat × Instr × Nat) := (⟨"BeggarBridgeModel", "takes", "(I)Z"⟩, prog_14_method_27_code, 2, (some .boolean), 12, k173)
/-- BeggarBridgeModel.lays(I)V -/
def k174 : List (Nat × Instr × Nat) := [(0, .aload_n 0, 1), (1, .getfield 185, 3), (4, .ifCond .ge 23, 3), (7, .aload_n 0, 1), (8, .getfield 34, 3), (11, .aload_n 0, 1), (12, .getfield 192, 3), (15, .iload_n 1, 1), (16, .iastore, 1), (17, .aload_n 0, 1), (18, .dup, 1), (19, .getfield 192, 3), (22, .iconst 1, 1), (23, .iadd, 1), (24, .putfield 192, 3), (27, .return_, 1)]
theorem dk174 : ∀ r ∈ k174, decode prog_14_method_28_code r.1 = .ok r.2 := by decide +kernel
def me174 : MethodName × ByteArray × Nat × Option FieldType × Nat × List (Nat × Instr × Nat) := (⟨"BeggarBridgeModel", "lays", "(I)V"⟩, prog_14_method_28_code, 2, none, 12, k174)
/-- BeggarBridgeModel.either()V -/
def k175 : List (Nat × Instr × Nat) := [(0, .aload_n 0, 1), (1, .invokevirtual 195, 3), (4, .aload_n 0, 1), (5, .bipush 124, 2), (7, .invokevirtual 198, 3), (10, .ifCond .eq 16, 3), (13, .aload_n 0, 1), (14, .invokevirtual 195, 3), (17, .aload_n 0, 1), (18, .bipush 124, 2), (20, .invokevirtual 201, 3), (23, .goto (-19), 3), (26, .return_, 1)]
theorem dk175 : ∀ r ∈ k175, decode prog_14_method_29_code r.1 = .ok r.2 := by decide +kernel
def me175 : MethodName × ByteArray × Nat × Option FieldType × Nat × List (Nat × Instr × Nat) := (⟨"BeggarBridgeModel", "either", "()V"⟩, prog_14_method_29_code, 1, none, 12, k175)
/-- BeggarBridgeModel.both()V -/
def k176 : List (Nat × Instr × Nat) := [(0, .aload_n 0, 1), (1, .invokevirtual 205, 3), (4, .aload_n 0, 1), (5, .bipush 38, 2), (7, .invokevirtual 198, 3), (10, .ifCond .eq 16, 3), (13, .aload_n 0, 1), (14, .invokevirtual 205, 3), (17, .aload_n 0, 1), (18, .bipush 38, 2), (20, .invokevirtual 201, 3), (23, .goto (-19), 3), (26, .return_, 1)]
theorem dk176 : ∀ r ∈ k176, decode prog_14_method_30_code r.1 = .ok r.2 := by decide +kernel
def me176 : MethodName × ByteArray × Nat × Option FieldType × Nat × List (Nat × Instr × Nat) := (⟨"BeggarBridgeModel", "both", "()V"⟩, prog_14_method_30_code, 1, none, 12, k176)
/-- BeggarBridgeModel.compared()V -/
def k177 : List (Nat × Instr × Nat) := [(0, .aload_n 0, 1), (1, .invokevirtual 208, 3), (4, .aload_n 0, 1), (5, .invokevirtual 188, 3), (8, .istore_n 1, 1), (9, .aload_n 0, 1), (10, .getfield 185, 3), (13, .ifCond .ge 21, 3), (16, .iload_n 1, 1), (17, .bipush 60, 2), (19, .if_icmp .eq 16, 3), (22, .iload_n 1, 1), (23, .bipush 61, 2), (25, .if_icmp .eq 10, 3), (28, .iload_n 1, 1), (29, .bipush 62, 2), (31, .if_icmp .eq 4, 3), (34, .return_, 1), (35, .aload_n 0, 1), (36, .dup, 1), (37, .getfield 182, 3), (40, .iconst 1, 1), (41, .iadd, 1), (42, .putfield 182, 3), (45, .aload_n 0, 1), (46, .invokevirtual 208, 3), (49, .aload_n 0, 1), (50, .iload_n 1, 1), (51, .invokevirtual 201, 3), (54, .return_, 1)]
theorem dk177 : ∀ r ∈ k177, decode prog_14_method_31_code r.1 = .ok r.2 := by decide +kernel
def me177 : MethodName × ByteArray × Nat × Option FieldType × Nat × List (Nat × Instr × Nat) := (⟨"BeggarBridgeModel", "compared", "()V"⟩, prog_14_method_31_code, 2, none, 12, k177)
/-- BeggarBridgeModel.sums()V -/
def k178 : List (Nat × Instr × Nat) := [(0, .aload_n 0, 1), (1, .invokevirtual 211, 3), (4, .aload_n 0, 1), (5, .getfield 185, 3), (8, .ifCond .ge 48, 3), (11, .aload_n 0, 1), (12, .invokevirtual 188, 3), (15, .bipush 43, 2), (17, .if_icmp .eq 12, 3), (20, .aload_n 0, 1), (21, .invokevirtual 188, 3), (24, .bipush 45, 2), (26, .if_icmp .ne 30, 3), (29, .aload_n 0, 1), (30, .invokevirtual 188, 3), (33, .istore_n 1, 1), (34, .aload_n 0, 1), (35, .dup, 1), (36, .getfield 182, 3), (39, .iconst 1, 1), (40, .iadd, 1), (41, .putfield 182, 3), (44, .aload_n 0, 1), (45, .invokevirtual 211, 3), (48, .aload_n 0, 1), (49, .iload_n 1, 1), (50, .invokevirtual 201, 3), (53, .goto (-49), 3), (56, .return_, 1)]
theorem dk178 : ∀ r ∈ k178, decode prog_14_method_32_code r.1 = .ok r.2 := by decide +kernel
def me178 : MethodName × ByteArray × Nat × Option FieldType × Nat × List (Nat × Instr × Nat) := (⟨"BeggarBridgeModel", "sums", "()V"⟩, prog_14_method_32_code, 2, none, 12, k178)
/-- BeggarBridgeModel.product()V -/
def k179 : List (Nat × Instr × Nat) := [(0, .aload_n 0, 1), (1, .invokevirtual 214, 3), (4, .aload_n 0, 1), (5, .invokevirtual 188, 3), (8, .istore_n 1, 1), (9, .aload_n 0, 1), (10, .getfield 185, 3), (13, .ifCond .ge 48, 3), (16, .iload_n 1, 1), (17, .bipush 42, 2), (19, .if_icmp .eq 15, 3), (22, .iload_n 1, 1), (23, .bipush 47, 2), (25, .if_icmp .eq 9, 3), (28, .iload_n 1, 1), (29, .bipush 37, 2), (31, .if_icmp .ne 30, 3), (34, .aload_n 0, 1), (35, .dup, 1), (36, .getfield 182, 3), (39, .iconst 1, 1), (40, .iadd, 1), (41, .putfield 182, 3), (44, .aload_n 0, 1), (45, .invokevirtual 214, 3), (48, .aload_n 0, 1), (49, .iload_n 1, 1), (50, .invokevirtual 201, 3), (53, .aload_n 0, 1), (54, .invokevirtual 188, 3), (57, .istore_n 1, 1), (58, .goto (-49), 3), (61, .return_, 1)]
theorem dk179 : ∀ r ∈ k179, decode prog_14_method_33_code r.1 = .ok r.2 := by decide +kernel
def me179 : MethodName × ByteArray × Nat × Option FieldType × Nat × List (Nat × Instr × Nat) := (⟨"BeggarBridgeModel", "product", "()V"⟩, prog_14_method_33_code, 2, none, 12, k179)
/-- BeggarBridgeModel.nameOf(I)I -/
def k180 : List (Nat × Instr × Nat) := [(0, .iload_n 0, 1), (1, .lookupswitch 71 #[(97, 65), (100, 67), (104, 61), (114, 63), (115, 59), (120, 69)], 59), (60, .iconst 0, 1), (61, .ireturn, 1), (62, .iconst 1, 1), (63, .ireturn, 1), (64, .iconst 2, 1), (65, .ireturn, 1), (66, .iconst 3, 1), (67, .ireturn, 1), (68, .iconst 4, 1), (69, .ireturn, 1), (70, .iconst 5, 1), (71, .ireturn, 1), (72, .iconst (-1), 1), (73, .ireturn, 1)]
theorem dk180 : ∀ r ∈ k180, decode prog_14_method_34_code r.1 = .ok r.2 := by decide +kernel
def me180 : MethodName × ByteArray × Nat × Option FieldType × Nat × List (Nat × Instr × Nat) := (⟨"BeggarBridgeModel", "nameOf", "(I)I"⟩, prog_14_method_34_code, 1, (some .int), 12, k180)
/-- BeggarBridgeModel.openOne(I)V -/
def k181 : List (Nat × Instr × Nat) := [(0, .aload_n 0, 1), (1, .getfield 217, 3), (4, .bipush 6, 2), (6, .if_icmp .ne 8, 3), (9, .aload_n 0, 1), (10, .invokevirtual 220, 3), (13, .return_, 1), (14, .aload_n 0, 1), (15, .dup, 1), (16, .getfield 217, 3), (19, .iconst 1, 1), (20, .iadd, 1), (21, .putfield 217, 3), (24, .aload_n 0, 1), (25, .dup, 1), (26, .getfield 182, 3), (29, .iconst 1, 1), (30, .iadd, 1), (31, .putfield 182, 3), (34, .iload_n 1, 1), (35, .bipush 40, 2), (37, .if_icmp .ne 21, 3), (40, .aload_n 0, 1), (41, .invokevirtual 223, 3), (44, .aload_n 0, 1), (45, .bipush 41, 2), (47, .invokevirtual 198, 3), (50, .ifCond .ne 28, 3), (53, .aload_n 0, 1), (54, .invokevirtual 220, 3), (57, .return_, 1), (58, .aload_n 0, 1), (59, .invokevirtual 214, 3), (62, .aload_n 0, 1), (63, .iload_n 1, 1), (64, .bipush 45, 2), (66, .if_icmp .ne 8, 3), (69, .bipush 110, 2), (71, .goto 4, 3), (74, .iload_n 1, 1), (75, .invokevirtual 201, 3), (78, .aload_n 0, 1), (79, .dup, 1), (80, .getfield 217, 3), (83, .iconst 1, 1), (84, .isub, 1), (85, .putfield 217, 3), (88, .return_, 1)]
theorem dk181 : ∀ r ∈ k181, decode prog_14_method_35_code r.1 = .ok r.2 := by decide +kernel
def me181 : MethodName × ByteArray × Nat × Option FieldType × Nat × List (Nat × Instr × Nat) := (⟨"BeggarBridgeModel", "openOne", "(I)V"⟩, prog_14_method_35_code, 2, none, 12, k181)
/-- BeggarBridgeModel.one()V -/
def k182_0 : List (Nat × Instr × Nat) := [(0, .aload_n 0, 1), (1, .getfield 185, 3), (4, .ifCond .lt 4, 3), (7, .return_, 1), (8, .aload_n 0, 1), (9, .invokevirtual 188, 3), (12, .istore_n 1, 1), (13, .iload_n 1, 1), (14, .bipush 33, 2), (16, .if_icmp .eq 15, 3), (19, .iload_n 1, 1), (20, .bipush 45, 2), (22, .if_icmp .eq 9, 3), (25, .iload_n 1, 1), (26, .bipush 40, 2), (28, .if_icmp .ne 9, 3), (31, .aload_n 0, 1), (32, .iload_n 1, 1), (33, .invokevirtual 226, 3), (36, .return_, 1), (37, .iload_n 1, 1), (38, .invokestatic 229, 3), (41, .istore_n 2, 1), (42, .iload_n 2, 1), (43, .ifCond .lt 23, 3), (46, .aload_n 0, 1), (47, .dup, 1), (48, .getfield 182, 3), (51, .iconst 1, 1), (52, .iadd, 1), (53, .putfield 182, 3), (56, .aload_n 0, 1), (57, .sipush 256, 3), (60, .iload_n 2, 1), (61, .iadd, 1), (62, .invokevirtual 201, 3), (65, .return_, 1), (66, .iconst 0, 1), (67, .istore_n 3, 1), (68, .iconst 0, 1), (69, .istore 4, 2), (71, .iload 4, 2), (73, .iconst 4, 1), (74, .if_icmp .ge 50, 3), (77, .aload_n 0, 1), (78, .invokevirtual 188, 3), (81, .bipush 48, 2), (83, .if_icmp .lt 41, 3), (86, .aload_n 0, 1), (87, .invokevirtual 188, 3), (90, .bipush 57, 2), (92, .if_icmp .gt 32, 3), (95, .bipush 10, 2), (97, .iload_n 3, 1), (98, .imul, 1), (99, .aload_n 0, 1), (100, .invokevirtual 188, 3), (103, .iadd, 1), (104, .bipush 48, 2), (106, .isub, 1)]
theorem dk182_0 : ∀ r ∈ k182_0, decode prog_14_method_36_code r.1 = .ok r.2 := by decide +kernel
def k182_1 : List (Nat × Instr × Nat) := [(107, .istore_n 3, 1), (108, .iinc 4 1, 3), (111, .aload_n 0, 1), (112, .dup, 1), (113, .getfield 182, 3), (116, .iconst 1, 1), (117, .iadd, 1), (118, .putfield 182, 3), (121, .goto (-50), 3), (124, .iload 4, 2), (126, .ifCond .ne 10, 3), (129, .aload_n 0, 1), (130, .invokevirtual 220, 3), (133, .goto 12, 3), (136, .aload_n 0, 1), (137, .sipush 1000, 3), (140, .iload_n 3, 1), (141, .iadd, 1), (142, .invokevirtual 201, 3), (145, .return_, 1)]
theorem dk182_1 : ∀ r ∈ k182_1, decode prog_14_method_36_code r.1 = .ok r.2 := by decide +kernel
def k182 : List (Nat × Instr × Nat) := k182_0 ++ (k182_1)
theorem dk182 : ∀ r ∈ k182, decode prog_14_method_36_code r.1 = .ok r.2 := List.forall_mem_append.mpr ⟨dk182_0, dk182_1⟩
def me182 : MethodName × ByteArray × Nat × Option FieldType × Nat × List (Nat × Instr × Nat) := (⟨"BeggarBridgeModel", "one", "()V"⟩, prog_14_method_36_code, 5, none, 12, k182)
/-- BeggarBridgeModel.reads()V -/
def k183_0 : List (Nat × Instr × Nat) := [(0, .aload_n 0, 1), (1, .iconst 0, 1), (2, .putfield 182, 3), (5, .aload_n 0, 1), (6, .iconst (-1), 1), (7, .putfield 185, 3), (10, .aload_n 0, 1), (11, .iconst 0, 1), (12, .putfield 217, 3), (15, .aload_n 0, 1), (16, .iconst 0, 1), (17, .putfield 192, 3), (20, .aload_n 0, 1), (21, .iconst 0, 1), (22, .putfield 233, 3), (25, .iconst 1, 1), (26, .istore_n 1, 1), (27, .iload_n 1, 1), (28, .ifCond .eq 92, 3), (31, .aload_n 0, 1), (32, .getfield 37, 3), (35, .aload_n 0, 1), (36, .getfield 233, 3), (39, .aload_n 0, 1), (40, .getfield 192, 3), (43, .iastore, 1), (44, .aload_n 0, 1), (45, .getfield 40, 3), (48, .aload_n 0, 1), (49, .getfield 233, 3), (52, .aload_n 0, 1), (53, .getfield 192, 3), (56, .iastore, 1), (57, .aload_n 0, 1), (58, .invokevirtual 223, 3), (61, .aload_n 0, 1), (62, .bipush 63, 2), (64, .invokevirtual 198, 3), (67, .ifCond .eq 20, 3), (70, .aload_n 0, 1), (71, .getfield 40, 3), (74, .aload_n 0, 1), (75, .getfield 233, 3), (78, .aload_n 0, 1), (79, .getfield 192, 3), (82, .iastore, 1), (83, .aload_n 0, 1), (84, .invokevirtual 223, 3), (87, .aload_n 0, 1), (88, .dup, 1), (89, .getfield 233, 3), (92, .iconst 1, 1), (93, .iadd, 1), (94, .putfield 233, 3), (97, .aload_n 0, 1), (98, .getfield 37, 3), (101, .aload_n 0, 1), (102, .getfield 233, 3), (105, .aload_n 0, 1), (106, .getfield 192, 3)]
theorem dk183_0 : ∀ r ∈ k183_0, decode prog_14_method_37_code r.1 = .ok r.2 := by decide +kernel
def k183_1 : List (Nat × Instr × Nat) := [(109, .iastore, 1), (110, .aload_n 0, 1), (111, .bipush 59, 2), (113, .invokevirtual 198, 3), (116, .istore_n 1, 1), (117, .goto (-90), 3), (120, .aload_n 0, 1), (121, .getfield 185, 3), (124, .ifCond .ge 18, 3), (127, .aload_n 0, 1), (128, .getfield 182, 3), (131, .aload_n 0, 1), (132, .getfield 179, 3), (135, .if_icmp .ge 7, 3), (138, .aload_n 0, 1), (139, .invokevirtual 220, 3), (142, .return_, 1)]
theorem dk183_1 : ∀ r ∈ k183_1, decode prog_14_method_37_code r.1 = .ok r.2 := by decide +kernel
def k183 : List (Nat × Instr × Nat) := k183_0 ++ (k183_1)
theorem dk183 : ∀ r ∈ k183, decode prog_14_method_37_code r.1 = .ok r.2 := List.forall_mem_append.mpr ⟨dk183_0, dk183_1⟩
def me183 : MethodName × ByteArray × Nat × Option FieldType × Nat × List (Nat × Instr × Nat) := (⟨"BeggarBridgeModel", "reads", "()V"⟩, prog_14_method_37_code, 2, none, 12, k183)
/-- BeggarBridgeModel.law()I -/
def k184 : List (Nat × Instr × Nat) := [(0, .aload_n 0, 1), (1, .invokevirtual 236, 3), (4, .aload_n 0, 1), (5, .iconst 0, 1), (6, .putfield 179, 3), (9, .aload_n 0, 1), (10, .getfield 185, 3), (13, .ifCond .lt 11, 3), (16, .bipush (-100), 2), (18, .aload_n 0, 1), (19, .getfield 185, 3), (22, .isub, 1), (23, .ireturn, 1), (24, .iconst 0, 1), (25, .istore_n 1, 1), (26, .iload_n 1, 1), (27, .aload_n 0, 1), (28, .getfield 192, 3), (31, .if_icmp .ge 21, 3), (34, .aload_n 0, 1), (35, .getfield 43, 3), (38, .iload_n 1, 1), (39, .aload_n 0, 1), (40, .getfield 34, 3), (43, .iload_n 1, 1), (44, .iaload, 1), (45, .iastore, 1), (46, .iinc 1 1, 3), (49, .goto (-23), 3), (52, .iconst 0, 1), (53, .istore_n 1, 1), (54, .iload_n 1, 1), (55, .aload_n 0, 1), (56, .getfield 233, 3), (59, .if_icmp .gt 33, 3), (62, .aload_n 0, 1), (63, .getfield 46, 3), (66, .iload_n 1, 1), (67, .aload_n 0, 1), (68, .getfield 37, 3), (71, .iload_n 1, 1), (72, .iaload, 1), (73, .iastore, 1), (74, .aload_n 0, 1), (75, .getfield 49, 3), (78, .iload_n 1, 1), (79, .aload_n 0, 1), (80, .getfield 40, 3), (83, .iload_n 1, 1), (84, .iaload, 1), (85, .iastore, 1), (86, .iinc 1 1, 3), (89, .goto (-35), 3), (92, .aload_n 0, 1), (93, .aload_n 0, 1), (94, .getfield 233, 3), (97, .putfield 239, 3), (100, .iconst 1, 1), (101, .ireturn, 1)]
theorem dk184 : ∀ r ∈ k184, decode prog_14_method_38_code r.1 = .ok r.2 := by decide +kernel
def me184 : MethodName × ByteArray × Nat × Option FieldType × Nat × List (Nat × Instr × Nat) := (⟨"BeggarBridgeModel", "law", "()I"⟩, prog_14_method_38_code, 2, (some .int), 12, k184)
end
section
/-! generated by wip/whole/gen.py: the code of methods 185 .. 214 as data -/
/-- BeggarBridgeModel.joined(III)I -/
def k185_0 : List (Nat × Instr × Nat) := [(0, .iload_n 0, 1), (1, .lookupswitch 168 #[(38, 97), (42, 152), (43, 144), (45, 148), (47, 156), (60, 111), (61, 122), (62, 133), (124, 83)], 83), (84, .iload_n 1, 1), (85, .ifCond .ne 7, 3), (88, .iload_n 2, 1), (89, .ifCond .eq 7, 3), (92, .iconst 1, 1), (93, .goto 4, 3), (96, .iconst 0, 1), (97, .ireturn, 1), (98, .iload_n 1, 1), (99, .ifCond .eq 11, 3), (102, .iload_n 2, 1), (103, .ifCond .eq 7, 3), (106, .iconst 1, 1), (107, .goto 4, 3), (110, .iconst 0, 1), (111, .ireturn, 1), (112, .iload_n 1, 1), (113, .iload_n 2, 1), (114, .if_icmp .ge 7, 3), (117, .iconst 1, 1), (118, .goto 4, 3), (121, .iconst 0, 1), (122, .ireturn, 1), (123, .iload_n 1, 1), (124, .iload_n 2, 1), (125, .if_icmp .ne 7, 3), (128, .iconst 1, 1), (129, .goto 4, 3), (132, .iconst 0, 1), (133, .ireturn, 1), (134, .iload_n 1, 1), (135, .iload_n 2, 1), (136, .if_icmp .le 7, 3), (139, .iconst 1, 1), (140, .goto 4, 3), (143, .iconst 0, 1), (144, .ireturn, 1), (145, .iload_n 1, 1), (146, .iload_n 2, 1), (147, .iadd, 1), (148, .ireturn, 1), (149, .iload_n 1, 1), (150, .iload_n 2, 1), (151, .isub, 1), (152, .ireturn, 1), (153, .iload_n 1, 1), (154, .iload_n 2, 1), (155, .imul, 1), (156, .ireturn, 1), (157, .iload_n 2, 1), (158, .ifCond .ne 7, 3), (161, .iconst 0, 1), (162, .goto 6, 3), (165, .iload_n 1, 1), (166, .iload_n 2, 1), (167, .idiv, 1), (168, .ireturn, 1), (169, .iload_n 2, 1)]
theorem dk185_0 : ∀ r ∈ k185_0, decode prog_14_method_39_code r.1 = .ok r.2 := by decide +kernel
def k185_1 : List (Nat × Instr × Nat) := [(170, .ifCond .ne 7, 3), (173, .iconst 0, 1), (174, .goto 6, 3), (177, .iload_n 1, 1), (178, .iload_n 2, 1), (179, .irem, 1), (180, .ireturn, 1)]
theorem dk185_1 : ∀ r ∈ k185_1, decode prog_14_method_39_code r.1 = .ok r.2 := by decide +kernel
def k185 : List (Nat × Instr × Nat) := k185_0 ++ (k185_1)
theorem dk185 : ∀ r ∈ k185, decode prog_14_method_39_code r.1 = .ok r.2 := List.forall_mem_append.mpr ⟨dk185_0, dk185_1⟩
def me185 : MethodName × ByteArray × Nat × Option FieldType × Nat × List (Nat × Instr × Nat) := (⟨"BeggarBridgeModel", "joined", "(III)I"⟩, prog_14_method_39_code, 3, (some .int), 12, k185)
/-- BeggarBridgeModel.says(II)I -/
def k186_0 : List (Nat × Instr × Nat) := [(0, .iconst 0, 1), (1, .istore_n 3, 1), (2, .iload_n 1, 1), (3, .istore 4, 2), (5, .iload 4, 2), (7, .iload_n 2, 1), (8, .if_icmp .ge 157, 3), (11, .aload_n 0, 1), (12, .getfield 43, 3), (15, .iload 4, 2), (17, .iaload, 1), (18, .istore 5, 2), (20, .iload 5, 2), (22, .sipush 256, 3), (25, .if_icmp .lt 43, 3), (28, .aload_n 0, 1), (29, .getfield 52, 3), (32, .iload_n 3, 1), (33, .iload 5, 2), (35, .sipush 1000, 3), (38, .if_icmp .lt 12, 3), (41, .iload 5, 2), (43, .sipush 1000, 3), (46, .isub, 1), (47, .goto 14, 3), (50, .aload_n 0, 1), (51, .getfield 31, 3), (54, .iload 5, 2), (56, .sipush 256, 3), (59, .isub, 1), (60, .iaload, 1), (61, .iastore, 1), (62, .iinc 3 1, 3), (65, .goto 94, 3), (68, .iload 5, 2), (70, .bipush 110, 2), (72, .if_icmp .ne 23, 3), (75, .aload_n 0, 1), (76, .getfield 52, 3), (79, .iload_n 3, 1), (80, .iconst 1, 1), (81, .isub, 1), (82, .aload_n 0, 1), (83, .getfield 52, 3), (86, .iload_n 3, 1), (87, .iconst 1, 1), (88, .isub, 1), (89, .iaload, 1), (90, .ineg, 1), (91, .iastore, 1), (92, .goto 67, 3), (95, .iload 5, 2), (97, .bipush 33, 2), (99, .if_icmp .ne 30, 3), (102, .aload_n 0, 1), (103, .getfield 52, 3), (106, .iload_n 3, 1), (107, .iconst 1, 1), (108, .isub, 1), (109, .aload_n 0, 1)]
theorem dk186_0 : ∀ r ∈ k186_0, decode prog_14_method_40_code r.1 = .ok r.2 := by decide +kernel
def k186_1 : List (Nat × Instr × Nat) := [(110, .getfield 52, 3), (113, .iload_n 3, 1), (114, .iconst 1, 1), (115, .isub, 1), (116, .iaload, 1), (117, .ifCond .ne 7, 3), (120, .iconst 1, 1), (121, .goto 4, 3), (124, .iconst 0, 1), (125, .iastore, 1), (126, .goto 33, 3), (129, .iinc 3 (-1), 3), (132, .aload_n 0, 1), (133, .getfield 52, 3), (136, .iload_n 3, 1), (137, .iconst 1, 1), (138, .isub, 1), (139, .iload 5, 2), (141, .aload_n 0, 1), (142, .getfield 52, 3), (145, .iload_n 3, 1), (146, .iconst 1, 1), (147, .isub, 1), (148, .iaload, 1), (149, .aload_n 0, 1), (150, .getfield 52, 3), (153, .iload_n 3, 1), (154, .iaload, 1), (155, .invokestatic 242, 3), (158, .iastore, 1), (159, .iinc 4 1, 3), (162, .goto (-157), 3), (165, .aload_n 0, 1), (166, .getfield 52, 3), (169, .iconst 0, 1), (170, .iaload, 1), (171, .ireturn, 1)]
theorem dk186_1 : ∀ r ∈ k186_1, decode prog_14_method_40_code r.1 = .ok r.2 := by decide +kernel
def k186 : List (Nat × Instr × Nat) := k186_0 ++ (k186_1)
theorem dk186 : ∀ r ∈ k186, decode prog_14_method_40_code r.1 = .ok r.2 := List.forall_mem_append.mpr ⟨dk186_0, dk186_1⟩
def me186 : MethodName × ByteArray × Nat × Option FieldType × Nat × List (Nat × Instr × Nat) := (⟨"BeggarBridgeModel", "says", "(II)I"⟩, prog_14_method_40_code, 6, (some .int), 12, k186)
/-- BeggarBridgeModel.gives()I -/
def k187 : List (Nat × Instr × Nat) := [(0, .iconst 0, 1), (1, .istore_n 1, 1), (2, .iload_n 1, 1), (3, .aload_n 0, 1), (4, .getfield 239, 3), (7, .if_icmp .ge 62, 3), (10, .aload_n 0, 1), (11, .getfield 49, 3), (14, .iload_n 1, 1), (15, .iaload, 1), (16, .aload_n 0, 1), (17, .getfield 46, 3), (20, .iload_n 1, 1), (21, .iaload, 1), (22, .if_icmp .eq 22, 3), (25, .aload_n 0, 1), (26, .aload_n 0, 1), (27, .getfield 46, 3), (30, .iload_n 1, 1), (31, .iaload, 1), (32, .aload_n 0, 1), (33, .getfield 49, 3), (36, .iload_n 1, 1), (37, .iaload, 1), (38, .invokevirtual 246, 3), (41, .ifCond .eq 22, 3), (44, .aload_n 0, 1), (45, .aload_n 0, 1), (46, .getfield 49, 3), (49, .iload_n 1, 1), (50, .iaload, 1), (51, .aload_n 0, 1), (52, .getfield 46, 3), (55, .iload_n 1, 1), (56, .iconst 1, 1), (57, .iadd, 1), (58, .iaload, 1), (59, .invokevirtual 246, 3), (62, .ireturn, 1), (63, .iinc 1 1, 3), (66, .goto (-64), 3), (69, .iconst 0, 1), (70, .ireturn, 1)]
theorem dk187 : ∀ r ∈ k187, decode prog_14_method_41_code r.1 = .ok r.2 := by decide +kernel
def me187 : MethodName × ByteArray × Nat × Option FieldType × Nat × List (Nat × Instr × Nat) := (⟨"BeggarBridgeModel", "gives", "()I"⟩, prog_14_method_41_code, 2, (some .int), 12, k187)
/-- BeggarBridgeModel.begins()V -/
def k188 : List (Nat × Instr × Nat) := [(0, .iconst 0, 1), (1, .istore_n 1, 1), (2, .iload_n 1, 1), (3, .aload_n 0, 1), (4, .getfield 111, 3), (7, .if_icmp .ge 24, 3), (10, .aload_n 0, 1), (11, .getfield 55, 3), (14, .iload_n 1, 1), (15, .aload_n 0, 1), (16, .getfield 9, 3), (19, .bipush 8, 2), (21, .iload_n 1, 1), (22, .iadd, 1), (23, .iaload, 1), (24, .iastore, 1), (25, .iinc 1 1, 3), (28, .goto (-26), 3), (31, .iconst 0, 1), (32, .istore_n 1, 1), (33, .iload_n 1, 1), (34, .aload_n 0, 1), (35, .getfield 118, 3), (38, .if_icmp .ge 39, 3), (41, .aload_n 0, 1), (42, .getfield 58, 3), (45, .iload_n 1, 1), (46, .aload_n 0, 1), (47, .getfield 9, 3), (50, .bipush 24, 2), (52, .iload_n 1, 1), (53, .iadd, 1), (54, .iaload, 1), (55, .iastore, 1), (56, .aload_n 0, 1), (57, .getfield 61, 3), (60, .iload_n 1, 1), (61, .aload_n 0, 1), (62, .getfield 9, 3), (65, .bipush 51, 2), (67, .iload_n 1, 1), (68, .iadd, 1), (69, .iaload, 1), (70, .iastore, 1), (71, .iinc 1 1, 3), (74, .goto (-41), 3), (77, .aload_n 0, 1), (78, .aload_n 0, 1), (79, .getfield 9, 3), (82, .bipush 61, 2), (84, .iaload, 1), (85, .putfield 249, 3), (88, .return_, 1)]
theorem dk188 : ∀ r ∈ k188, decode prog_14_method_42_code r.1 = .ok r.2 := by decide +kernel
def me188 : MethodName × ByteArray × Nat × Option FieldType × Nat × List (Nat × Instr × Nat) := (⟨"BeggarBridgeModel", "begins", "()V"⟩, prog_14_method_42_code, 2, none, 12, k188)
/-- BeggarBridgeModel.isPoor(I)Z -/
def k189 : List (Nat × Instr × Nat) := [(0, .aload_n 0, 1), (1, .getfield 58, 3), (4, .iload_n 1, 1), (5, .iaload, 1), (6, .aload_n 0, 1), (7, .getfield 9, 3), (10, .bipush 60, 2), (12, .iaload, 1), (13, .if_icmp .gt 7, 3), (16, .iconst 1, 1), (17, .goto 4, 3), (20, .iconst 0, 1), (21, .ireturn, 1)]
theorem dk189 : ∀ r ∈ k189, decode prog_14_method_43_code r.1 = .ok r.2 := by decide +kernel
def me189 : MethodName × ByteArray × Nat × Option FieldType × Nat × List (Nat × Instr × Nat) := (⟨"BeggarBridgeModel", "isPoor", "(I)Z"⟩, prog_14_method_43_code, 2, (some .boolean), 12, k189)
/-- BeggarBridgeModel.sittingOn(IZ)I -/
def k190 : List (Nat × Instr × Nat) := [(0, .iconst 0, 1), (1, .istore_n 3, 1), (2, .iconst 0, 1), (3, .istore 4, 2), (5, .iload 4, 2), (7, .aload_n 0, 1), (8, .getfield 118, 3), (11, .if_icmp .ge 38, 3), (14, .iload_n 3, 1), (15, .aload_n 0, 1), (16, .getfield 61, 3), (19, .iload 4, 2), (21, .iaload, 1), (22, .iload_n 1, 1), (23, .if_icmp .ne 17, 3), (26, .aload_n 0, 1), (27, .iload 4, 2), (29, .invokevirtual 252, 3), (32, .iload_n 2, 1), (33, .if_icmp .ne 7, 3), (36, .iconst 1, 1), (37, .goto 4, 3), (40, .iconst 0, 1), (41, .iadd, 1), (42, .istore_n 3, 1), (43, .iinc 4 1, 3), (46, .goto (-41), 3), (49, .iload_n 3, 1), (50, .ireturn, 1)]
theorem dk190 : ∀ r ∈ k190, decode prog_14_method_44_code r.1 = .ok r.2 := by decide +kernel
def me190 : MethodName × ByteArray × Nat × Option FieldType × Nat × List (Nat × Instr × Nat) := (⟨"BeggarBridgeModel", "sittingOn", "(IZ)I"⟩, prog_14_method_44_code, 5, (some .int), 12, k190)
/-- BeggarBridgeModel.cracksNow(I)I -/
def k191_0 : List (Nat × Instr × Nat) := [(0, .aload_n 0, 1), (1, .iload_n 1, 1), (2, .iconst 1, 1), (3, .invokevirtual 255, 3), (6, .istore_n 2, 1), (7, .aload_n 0, 1), (8, .iload_n 1, 1), (9, .iconst 0, 1), (10, .invokevirtual 255, 3), (13, .istore_n 3, 1), (14, .aload_n 0, 1), (15, .getfield 9, 3), (18, .iload_n 1, 1), (19, .iaload, 1), (20, .iconst 2, 1), (21, .idiv, 1), (22, .iconst 2, 1), (23, .iload_n 3, 1), (24, .imul, 1), (25, .iadd, 1), (26, .iconst 4, 1), (27, .iload_n 2, 1), (28, .imul, 1), (29, .isub, 1), (30, .istore 4, 2), (32, .aload_n 0, 1), (33, .getfield 239, 3), (36, .ifCond .le 72, 3), (39, .aload_n 0, 1), (40, .getfield 31, 3), (43, .iconst 0, 1), (44, .aload_n 0, 1), (45, .getfield 9, 3), (48, .iload_n 1, 1), (49, .iaload, 1), (50, .iastore, 1), (51, .aload_n 0, 1), (52, .getfield 31, 3), (55, .iconst 1, 1), (56, .iload_n 2, 1), (57, .iastore, 1), (58, .aload_n 0, 1), (59, .getfield 31, 3), (62, .iconst 2, 1), (63, .iload_n 3, 1), (64, .iastore, 1), (65, .aload_n 0, 1), (66, .getfield 31, 3), (69, .iconst 3, 1), (70, .aload_n 0, 1), (71, .getfield 9, 3), (74, .bipush 16, 2), (76, .iload_n 1, 1), (77, .iadd, 1), (78, .iaload, 1), (79, .iastore, 1), (80, .aload_n 0, 1), (81, .getfield 31, 3), (84, .iconst 4, 1), (85, .aload_n 0, 1)]
theorem dk191_0 : ∀ r ∈ k191_0, decode prog_14_method_45_code r.1 = .ok r.2 := by decide +kernel
def k191_1 : List (Nat × Instr × Nat) := [(86, .getfield 249, 3), (89, .iastore, 1), (90, .aload_n 0, 1), (91, .getfield 31, 3), (94, .iconst 5, 1), (95, .aload_n 0, 1), (96, .getfield 55, 3), (99, .iload_n 1, 1), (100, .iaload, 1), (101, .iastore, 1), (102, .aload_n 0, 1), (103, .invokevirtual 259, 3), (106, .istore 4, 2), (108, .iload 4, 2), (110, .ifCond .ge 7, 3), (113, .iconst 0, 1), (114, .goto 17, 3), (117, .iload 4, 2), (119, .bipush 20, 2), (121, .if_icmp .le 8, 3), (124, .bipush 20, 2), (126, .goto 5, 3), (129, .iload 4, 2), (131, .ireturn, 1)]
theorem dk191_1 : ∀ r ∈ k191_1, decode prog_14_method_45_code r.1 = .ok r.2 := by decide +kernel
def k191 : List (Nat × Instr × Nat) := k191_0 ++ (k191_1)
theorem dk191 : ∀ r ∈ k191, decode prog_14_method_45_code r.1 = .ok r.2 := List.forall_mem_append.mpr ⟨dk191_0, dk191_1⟩
def me191 : MethodName × ByteArray × Nat × Option FieldType × Nat × List (Nat × Instr × Nat) := (⟨"BeggarBridgeModel", "cracksNow", "(I)I"⟩, prog_14_method_45_code, 5, (some .int), 12, k191)
/-- BeggarBridgeModel.goesDay()V -/
def k192_0 : List (Nat × Instr × Nat) := [(0, .iconst 0, 1), (1, .istore_n 1, 1), (2, .iload_n 1, 1), (3, .aload_n 0, 1), (4, .getfield 111, 3), (7, .if_icmp .ge 33, 3), (10, .aload_n 0, 1), (11, .getfield 64, 3), (14, .iload_n 1, 1), (15, .aload_n 0, 1), (16, .getfield 55, 3), (19, .iload_n 1, 1), (20, .iaload, 1), (21, .ifCond .le 11, 3), (24, .aload_n 0, 1), (25, .iload_n 1, 1), (26, .invokevirtual 262, 3), (29, .goto 4, 3), (32, .iconst 0, 1), (33, .iastore, 1), (34, .iinc 1 1, 3), (37, .goto (-35), 3), (40, .iconst 0, 1), (41, .istore_n 1, 1), (42, .iload_n 1, 1), (43, .aload_n 0, 1), (44, .getfield 118, 3), (47, .if_icmp .ge 100, 3), (50, .aload_n 0, 1), (51, .getfield 61, 3), (54, .iload_n 1, 1), (55, .iaload, 1), (56, .ifCond .lt 21, 3), (59, .aload_n 0, 1), (60, .getfield 55, 3), (63, .aload_n 0, 1), (64, .getfield 61, 3), (67, .iload_n 1, 1), (68, .iaload, 1), (69, .iaload, 1), (70, .ifCond .le 7, 3), (73, .iconst 1, 1), (74, .goto 4, 3), (77, .iconst 0, 1), (78, .istore_n 2, 1), (79, .iload_n 2, 1), (80, .ifCond .eq 32, 3), (83, .aload_n 0, 1), (84, .getfield 9, 3), (87, .bipush 16, 2), (89, .aload_n 0, 1), (90, .getfield 61, 3), (93, .iload_n 1, 1), (94, .iaload, 1), (95, .iadd, 1), (96, .iaload, 1), (97, .aload_n 0, 1), (98, .getfield 9, 3), (101, .bipush 33, 2), (103, .iload_n 1, 1)]
theorem dk192_0 : ∀ r ∈ k192_0, decode prog_14_method_46_code r.1 = .ok r.2 := by decide +kernel
def k192_1 : List (Nat × Instr × Nat) := [(104, .iadd, 1), (105, .iaload, 1), (106, .invokestatic 265, 3), (109, .goto 4, 3), (112, .iconst 0, 1), (113, .istore_n 3, 1), (114, .aload_n 0, 1), (115, .getfield 58, 3), (118, .iload_n 1, 1), (119, .aload_n 0, 1), (120, .getfield 58, 3), (123, .iload_n 1, 1), (124, .iaload, 1), (125, .iload_n 3, 1), (126, .iadd, 1), (127, .aload_n 0, 1), (128, .getfield 9, 3), (131, .bipush 42, 2), (133, .iload_n 1, 1), (134, .iadd, 1), (135, .iaload, 1), (136, .isub, 1), (137, .invokestatic 268, 3), (140, .iastore, 1), (141, .iinc 1 1, 3), (144, .goto (-102), 3), (147, .iconst 0, 1), (148, .istore_n 1, 1), (149, .iload_n 1, 1), (150, .aload_n 0, 1), (151, .getfield 111, 3), (154, .if_icmp .ge 31, 3), (157, .aload_n 0, 1), (158, .getfield 55, 3), (161, .iload_n 1, 1), (162, .aload_n 0, 1), (163, .getfield 55, 3), (166, .iload_n 1, 1), (167, .iaload, 1), (168, .aload_n 0, 1), (169, .getfield 64, 3), (172, .iload_n 1, 1), (173, .iaload, 1), (174, .isub, 1), (175, .invokestatic 268, 3), (178, .iastore, 1), (179, .iinc 1 1, 3), (182, .goto (-33), 3), (185, .aload_n 0, 1), (186, .aload_n 0, 1), (187, .getfield 249, 3), (190, .iconst 1, 1), (191, .iadd, 1), (192, .bipush 7, 2), (194, .irem, 1), (195, .putfield 249, 3), (198, .return_, 1)]
theorem dk192_1 : ∀ r ∈ k192_1, decode prog_14_method_46_code r.1 = .ok r.2 := by decide +kernel
def k192 : List (Nat × Instr × Nat) := k192_0 ++ (k192_1)
theorem dk192 : ∀ r ∈ k192, decode prog_14_method_46_code r.1 = .ok r.2 := List.forall_mem_append.mpr ⟨dk192_0, dk192_1⟩
def me192 : MethodName × ByteArray × Nat × Option FieldType × Nat × List (Nat × Instr × Nat) := (⟨"BeggarBridgeModel", "goesDay", "()V"⟩, prog_14_method_46_code, 4, none, 12, k192)
/-- BeggarBridgeModel.goesDays(I)V -/
def k193 : List (Nat × Instr × Nat) := [(0, .iconst 0, 1), (1, .istore_n 2, 1), (2, .iload_n 2, 1), (3, .iload_n 1, 1), (4, .if_icmp .ge 13, 3), (7, .aload_n 0, 1), (8, .invokevirtual 271, 3), (11, .iinc 2 1, 3), (14, .goto (-12), 3), (17, .return_, 1)]
theorem dk193 : ∀ r ∈ k193, decode prog_14_method_47_code r.1 = .ok r.2 := by decide +kernel
def me193 : MethodName × ByteArray × Nat × Option FieldType × Nat × List (Nat × Instr × Nat) := (⟨"BeggarBridgeModel", "goesDays", "(I)V"⟩, prog_14_method_47_code, 3, none, 12, k193)
/-- BeggarBridgeModel.standing()I -/
def k194 : List (Nat × Instr × Nat) := [(0, .iconst 0, 1), (1, .istore_n 1, 1), (2, .iconst 0, 1), (3, .istore_n 2, 1), (4, .iload_n 2, 1), (5, .aload_n 0, 1), (6, .getfield 111, 3), (9, .if_icmp .ge 28, 3), (12, .iload_n 1, 1), (13, .aload_n 0, 1), (14, .getfield 55, 3), (17, .iload_n 2, 1), (18, .iaload, 1), (19, .ifCond .le 9, 3), (22, .iconst 1, 1), (23, .iload_n 2, 1), (24, .ishl, 1), (25, .goto 4, 3), (28, .iconst 0, 1), (29, .ior, 1), (30, .istore_n 1, 1), (31, .iinc 2 1, 3), (34, .goto (-30), 3), (37, .iload_n 1, 1), (38, .ireturn, 1)]
theorem dk194 : ∀ r ∈ k194, decode prog_14_method_48_code r.1 = .ok r.2 := by decide +kernel
def me194 : MethodName × ByteArray × Nat × Option FieldType × Nat × List (Nat × Instr × Nat) := (⟨"BeggarBridgeModel", "standing", "()I"⟩, prog_14_method_48_code, 3, (some .int), 12, k194)
/-- BeggarBridgeModel.soundAll()I -/
def k195 : List (Nat × Instr × Nat) := [(0, .iconst 0, 1), (1, .istore_n 1, 1), (2, .iconst 0, 1), (3, .istore_n 2, 1), (4, .iload_n 2, 1), (5, .aload_n 0, 1), (6, .getfield 111, 3), (9, .if_icmp .ge 18, 3), (12, .iload_n 1, 1), (13, .aload_n 0, 1), (14, .getfield 55, 3), (17, .iload_n 2, 1), (18, .iaload, 1), (19, .iadd, 1), (20, .istore_n 1, 1), (21, .iinc 2 1, 3), (24, .goto (-20), 3), (27, .iload_n 1, 1), (28, .ireturn, 1)]
theorem dk195 : ∀ r ∈ k195, decode prog_14_method_49_code r.1 = .ok r.2 := by decide +kernel
def me195 : MethodName × ByteArray × Nat × Option FieldType × Nat × List (Nat × Instr × Nat) := (⟨"BeggarBridgeModel", "soundAll", "()I"⟩, prog_14_method_49_code, 3, (some .int), 12, k195)
/-- BeggarBridgeModel.poorSet()I -/
def k196 : List (Nat × Instr × Nat) := [(0, .iconst 0, 1), (1, .istore_n 1, 1), (2, .iconst 0, 1), (3, .istore_n 2, 1), (4, .iload_n 2, 1), (5, .aload_n 0, 1), (6, .getfield 118, 3), (9, .if_icmp .ge 27, 3), (12, .iload_n 1, 1), (13, .aload_n 0, 1), (14, .iload_n 2, 1), (15, .invokevirtual 252, 3), (18, .ifCond .eq 9, 3), (21, .iconst 1, 1), (22, .iload_n 2, 1), (23, .ishl, 1), (24, .goto 4, 3), (27, .iconst 0, 1), (28, .ior, 1), (29, .istore_n 1, 1), (30, .iinc 2 1, 3), (33, .goto (-29), 3), (36, .iload_n 1, 1), (37, .ireturn, 1)]
theorem dk196 : ∀ r ∈ k196, decode prog_14_method_50_code r.1 = .ok r.2 := by decide +kernel
def me196 : MethodName × ByteArray × Nat × Option FieldType × Nat × List (Nat × Instr × Nat) := (⟨"BeggarBridgeModel", "poorSet", "()I"⟩, prog_14_method_50_code, 3, (some .int), 12, k196)
/-- BeggarBridgeModel.cracks(I)I -/
def k197 : List (Nat × Instr × Nat) := [(0, .aload_n 0, 1), (1, .iload_n 1, 1), (2, .i2l, 1), (3, .invokevirtual 129, 3), (6, .ifCond .ne 5, 3), (9, .iconst (-1), 1), (10, .ireturn, 1), (11, .aload_n 0, 1), (12, .invokevirtual 274, 3), (15, .aload_n 0, 1), (16, .iload_n 1, 1), (17, .invokevirtual 262, 3), (20, .ireturn, 1)]
theorem dk197 : ∀ r ∈ k197, decode prog_14_method_51_code r.1 = .ok r.2 := by decide +kernel
def me197 : MethodName × ByteArray × Nat × Option FieldType × Nat × List (Nat × Instr × Nat) := (⟨"BeggarBridgeModel", "cracks", "(I)I"⟩, prog_14_method_51_code, 2, (some .int), 12, k197)
/-- BeggarBridgeModel.areDays(I)Z -/
def k198 : List (Nat × Instr × Nat) := [(0, .iload_n 0, 1), (1, .i2l, 1), (2, .lconst 0, 1), (3, .ldc2_w 277, 3), (6, .invokestatic 114, 3), (9, .ireturn, 1)]
theorem dk198 : ∀ r ∈ k198, decode prog_14_method_52_code r.1 = .ok r.2 := by decide +kernel
def me198 : MethodName × ByteArray × Nat × Option FieldType × Nat × List (Nat × Instr × Nat) := (⟨"BeggarBridgeModel", "areDays", "(I)Z"⟩, prog_14_method_52_code, 1, (some .boolean), 12, k198)
/-- BeggarBridgeModel.later(III)I -/
def k199 : List (Nat × Instr × Nat) := [(0, .iload_n 1, 1), (1, .invokestatic 279, 3), (4, .ifCond .eq 38, 3), (7, .iload_n 3, 1), (8, .i2l, 1), (9, .lconst 0, 1), (10, .lconst 1, 1), (11, .invokestatic 114, 3), (14, .ifCond .eq 28, 3), (17, .iload_n 3, 1), (18, .ifCond .ne 15, 3), (21, .aload_n 0, 1), (22, .iload_n 2, 1), (23, .i2l, 1), (24, .invokevirtual 129, 3), (27, .ifCond .eq 15, 3), (30, .goto 14, 3), (33, .aload_n 0, 1), (34, .iload_n 2, 1), (35, .i2l, 1), (36, .invokevirtual 160, 3), (39, .ifCond .ne 5, 3), (42, .iconst (-1), 1), (43, .ireturn, 1), (44, .aload_n 0, 1), (45, .invokevirtual 274, 3), (48, .aload_n 0, 1), (49, .iload_n 1, 1), (50, .invokevirtual 282, 3), (53, .iload_n 3, 1), (54, .ifCond .ne 12, 3), (57, .aload_n 0, 1), (58, .getfield 55, 3), (61, .iload_n 2, 1), (62, .iaload, 1), (63, .goto 9, 3), (66, .aload_n 0, 1), (67, .getfield 58, 3), (70, .iload_n 2, 1), (71, .iaload, 1), (72, .ireturn, 1)]
theorem dk199 : ∀ r ∈ k199, decode prog_14_method_53_code r.1 = .ok r.2 := by decide +kernel
def me199 : MethodName × ByteArray × Nat × Option FieldType × Nat × List (Nat × Instr × Nat) := (⟨"BeggarBridgeModel", "later", "(III)I"⟩, prog_14_method_53_code, 4, (some .int), 12, k199)
/-- BeggarBridgeModel.county(II)I -/
def k200 : List (Nat × Instr × Nat) := [(0, .iload_n 1, 1), (1, .invokestatic 279, 3), (4, .ifCond .eq 15, 3), (7, .iload_n 2, 1), (8, .i2l, 1), (9, .lconst 0, 1), (10, .ldc2_w 154, 3), (13, .invokestatic 114, 3), (16, .ifCond .ne 5, 3), (19, .iconst (-1), 1), (20, .ireturn, 1), (21, .aload_n 0, 1), (22, .invokevirtual 274, 3), (25, .aload_n 0, 1), (26, .iload_n 1, 1), (27, .invokevirtual 282, 3), (30, .iload_n 2, 1), (31, .ifCond .ne 10, 3), (34, .aload_n 0, 1), (35, .invokevirtual 285, 3), (38, .goto 19, 3), (41, .iload_n 2, 1), (42, .iconst 1, 1), (43, .if_icmp .ne 10, 3), (46, .aload_n 0, 1), (47, .invokevirtual 288, 3), (50, .goto 7, 3), (53, .aload_n 0, 1), (54, .invokevirtual 291, 3), (57, .ireturn, 1)]
theorem dk200 : ∀ r ∈ k200, decode prog_14_method_54_code r.1 = .ok r.2 := by decide +kernel
def me200 : MethodName × ByteArray × Nat × Option FieldType × Nat × List (Nat × Instr × Nat) := (⟨"BeggarBridgeModel", "county", "(II)I"⟩, prog_14_method_54_code, 3, (some .int), 12, k200)
/-- BeggarBridgeModel.fallsThen(I)I -/
def k201 : List (Nat × Instr × Nat) := [(0, .iconst 0, 1), (1, .istore_n 2, 1), (2, .iload_n 2, 1), (3, .bipush 60, 2), (5, .if_icmp .gt 24, 3), (8, .aload_n 0, 1), (9, .getfield 55, 3), (12, .iload_n 1, 1), (13, .iaload, 1), (14, .ifCond .ne 5, 3), (17, .iload_n 2, 1), (18, .ireturn, 1), (19, .aload_n 0, 1), (20, .invokevirtual 271, 3), (23, .iinc 2 1, 3), (26, .goto (-24), 3), (29, .bipush (-2), 2), (31, .ireturn, 1)]
theorem dk201 : ∀ r ∈ k201, decode prog_14_method_55_code r.1 = .ok r.2 := by decide +kernel
def me201 : MethodName × ByteArray × Nat × Option FieldType × Nat × List (Nat × Instr × Nat) := (⟨"BeggarBridgeModel", "fallsThen", "(I)I"⟩, prog_14_method_55_code, 3, (some .int), 12, k201)
/-- BeggarBridgeModel.falls(I)I -/
def k202 : List (Nat × Instr × Nat) := [(0, .iload_n 1, 1), (1, .iconst (-1), 1), (2, .if_icmp .eq 14, 3), (5, .aload_n 0, 1), (6, .iload_n 1, 1), (7, .i2l, 1), (8, .invokevirtual 129, 3), (11, .ifCond .ne 5, 3), (14, .iconst (-1), 1), (15, .ireturn, 1), (16, .aload_n 0, 1), (17, .invokevirtual 274, 3), (20, .iload_n 1, 1), (21, .ifCond .lt 9, 3), (24, .aload_n 0, 1), (25, .iload_n 1, 1), (26, .invokevirtual 294, 3), (29, .ireturn, 1), (30, .iconst 0, 1), (31, .istore_n 2, 1), (32, .iload_n 2, 1), (33, .bipush 60, 2), (35, .if_icmp .gt 40, 3), (38, .iconst 0, 1), (39, .istore_n 3, 1), (40, .iload_n 3, 1), (41, .aload_n 0, 1), (42, .getfield 111, 3), (45, .if_icmp .ge 20, 3), (48, .aload_n 0, 1), (49, .getfield 55, 3), (52, .iload_n 3, 1), (53, .iaload, 1), (54, .ifCond .ne 5, 3), (57, .iload_n 3, 1), (58, .ireturn, 1), (59, .iinc 3 1, 3), (62, .goto (-22), 3), (65, .aload_n 0, 1), (66, .invokevirtual 271, 3), (69, .iinc 2 1, 3), (72, .goto (-40), 3), (75, .bipush (-2), 2), (77, .ireturn, 1)]
theorem dk202 : ∀ r ∈ k202, decode prog_14_method_56_code r.1 = .ok r.2 := by decide +kernel
def me202 : MethodName × ByteArray × Nat × Option FieldType × Nat × List (Nat × Instr × Nat) := (⟨"BeggarBridgeModel", "falls", "(I)I"⟩, prog_14_method_56_code, 4, (some .int), 12, k202)
/-- BeggarBridgeModel.rich(I)I -/
def k203 : List (Nat × Instr × Nat) := [(0, .aload_n 0, 1), (1, .iload_n 1, 1), (2, .i2l, 1), (3, .invokevirtual 160, 3), (6, .ifCond .ne 5, 3), (9, .iconst (-1), 1), (10, .ireturn, 1), (11, .aload_n 0, 1), (12, .invokevirtual 274, 3), (15, .iconst 0, 1), (16, .istore_n 2, 1), (17, .iload_n 2, 1), (18, .bipush 60, 2), (20, .if_icmp .gt 23, 3), (23, .aload_n 0, 1), (24, .iload_n 1, 1), (25, .invokevirtual 252, 3), (28, .ifCond .ne 5, 3), (31, .iload_n 2, 1), (32, .ireturn, 1), (33, .aload_n 0, 1), (34, .invokevirtual 271, 3), (37, .iinc 2 1, 3), (40, .goto (-23), 3), (43, .bipush (-2), 2), (45, .ireturn, 1)]
theorem dk203 : ∀ r ∈ k203, decode prog_14_method_57_code r.1 = .ok r.2 := by decide +kernel
def me203 : MethodName × ByteArray × Nat × Option FieldType × Nat × List (Nat × Instr × Nat) := (⟨"BeggarBridgeModel", "rich", "(I)I"⟩, prog_14_method_57_code, 3, (some .int), 12, k203)
/-- BeggarBridgeModel.without(I)I -/
def k204 : List (Nat × Instr × Nat) := [(0, .aload_n 0, 1), (1, .iload_n 1, 1), (2, .i2l, 1), (3, .invokevirtual 129, 3), (6, .ifCond .ne 5, 3), (9, .iconst (-1), 1), (10, .ireturn, 1), (11, .aload_n 0, 1), (12, .invokevirtual 274, 3), (15, .iconst 0, 1), (16, .istore_n 2, 1), (17, .iload_n 2, 1), (18, .aload_n 0, 1), (19, .getfield 118, 3), (22, .if_icmp .ge 35, 3), (25, .aload_n 0, 1), (26, .getfield 61, 3), (29, .iload_n 2, 1), (30, .aload_n 0, 1), (31, .getfield 61, 3), (34, .iload_n 2, 1), (35, .iaload, 1), (36, .iload_n 1, 1), (37, .if_icmp .ne 7, 3), (40, .iconst (-1), 1), (41, .goto 9, 3), (44, .aload_n 0, 1), (45, .getfield 61, 3), (48, .iload_n 2, 1), (49, .iaload, 1), (50, .iastore, 1), (51, .iinc 2 1, 3), (54, .goto (-37), 3), (57, .aload_n 0, 1), (58, .iload_n 1, 1), (59, .invokevirtual 294, 3), (62, .ireturn, 1)]
theorem dk204 : ∀ r ∈ k204, decode prog_14_method_58_code r.1 = .ok r.2 := by decide +kernel
def me204 : MethodName × ByteArray × Nat × Option FieldType × Nat × List (Nat × Instr × Nat) := (⟨"BeggarBridgeModel", "without", "(I)I"⟩, prog_14_method_58_code, 3, (some .int), 12, k204)
/-- BeggarBridgeModel.moved(II)I -/
def k205_0 : List (Nat × Instr × Nat) := [(0, .iload_n 1, 1), (1, .i2l, 1), (2, .lconst 0, 1), (3, .ldc2_w 297, 3), (6, .invokestatic 114, 3), (9, .ifCond .eq 15, 3), (12, .iload_n 2, 1), (13, .i2l, 1), (14, .lconst 0, 1), (15, .ldc2_w 154, 3), (18, .invokestatic 114, 3), (21, .ifCond .ne 5, 3), (24, .iconst (-1), 1), (25, .ireturn, 1), (26, .aload_n 0, 1), (27, .invokevirtual 274, 3), (30, .aload_n 0, 1), (31, .iload_n 1, 1), (32, .invokevirtual 282, 3), (35, .sipush 900, 3), (38, .istore_n 3, 1), (39, .aload_n 0, 1), (40, .invokevirtual 285, 3), (43, .invokestatic 299, 3), (46, .istore 4, 2), (48, .aload_n 0, 1), (49, .invokevirtual 288, 3), (52, .istore 5, 2), (54, .iconst 0, 1), (55, .istore 6, 2), (57, .iload 6, 2), (59, .aload_n 0, 1), (60, .getfield 118, 3), (63, .if_icmp .ge 134, 3), (66, .iconst 0, 1), (67, .istore 7, 2), (69, .iload 7, 2), (71, .bipush 8, 2), (73, .if_icmp .gt 118, 3), (76, .iload 7, 2), (78, .bipush 8, 2), (80, .if_icmp .ne 7, 3), (83, .iconst (-1), 1), (84, .goto 5, 3), (87, .iload 7, 2), (89, .istore 8, 2), (91, .aload_n 0, 1), (92, .iload 8, 2), (94, .i2l, 1), (95, .invokevirtual 140, 3), (98, .ifCond .eq 87, 3), (101, .iload 8, 2), (103, .aload_n 0, 1), (104, .getfield 9, 3), (107, .bipush 51, 2), (109, .iload 6, 2), (111, .iadd, 1), (112, .iaload, 1), (113, .if_icmp .eq 72, 3), (116, .aload_n 0, 1)]
theorem dk205_0 : ∀ r ∈ k205_0, decode prog_14_method_59_code r.1 = .ok r.2 := by decide +kernel
def k205_1 : List (Nat × Instr × Nat) := [(117, .invokevirtual 274, 3), (120, .aload_n 0, 1), (121, .getfield 61, 3), (124, .iload 6, 2), (126, .iload 8, 2), (128, .iastore, 1), (129, .aload_n 0, 1), (130, .iload_n 1, 1), (131, .invokevirtual 282, 3), (134, .aload_n 0, 1), (135, .invokevirtual 285, 3), (138, .invokestatic 299, 3), (141, .istore 9, 2), (143, .iload 9, 2), (145, .iload 4, 2), (147, .if_icmp .gt 19, 3), (150, .iload 9, 2), (152, .iload 4, 2), (154, .if_icmp .ne 31, 3), (157, .aload_n 0, 1), (158, .invokevirtual 288, 3), (161, .iload 5, 2), (163, .if_icmp .le 22, 3), (166, .iload 9, 2), (168, .istore 4, 2), (170, .aload_n 0, 1), (171, .invokevirtual 288, 3), (174, .istore 5, 2), (176, .bipush 100, 2), (178, .iload 6, 2), (180, .imul, 1), (181, .iload 7, 2), (183, .iadd, 1), (184, .istore_n 3, 1), (185, .iinc 7 1, 3), (188, .goto (-119), 3), (191, .iinc 6 1, 3), (194, .goto (-137), 3), (197, .iload_n 2, 1), (198, .ifCond .ne 8, 3), (201, .iload 4, 2), (203, .goto 14, 3), (206, .iload_n 2, 1), (207, .iconst 1, 1), (208, .if_icmp .ne 8, 3), (211, .iload 5, 2), (213, .goto 4, 3), (216, .iload_n 3, 1), (217, .ireturn, 1)]
theorem dk205_1 : ∀ r ∈ k205_1, decode prog_14_method_59_code r.1 = .ok r.2 := by decide +kernel
def k205 : List (Nat × Instr × Nat) := k205_0 ++ (k205_1)
theorem dk205 : ∀ r ∈ k205, decode prog_14_method_59_code r.1 = .ok r.2 := List.forall_mem_append.mpr ⟨dk205_0, dk205_1⟩
def me205 : MethodName × ByteArray × Nat × Option FieldType × Nat × List (Nat × Instr × Nat) := (⟨"BeggarBridgeModel", "moved", "(II)I"⟩, prog_14_method_59_code, 10, (some .int), 12, k205)
/-- BeggarBridgeModel.lastAt(II)I -/
def k206 : List (Nat × Instr × Nat) := [(0, .iload_n 1, 1), (1, .bipush 9, 2), (3, .ishl, 1), (4, .iload_n 2, 1), (5, .iadd, 1), (6, .ireturn, 1)]
theorem dk206 : ∀ r ∈ k206, decode prog_14_method_60_code r.1 = .ok r.2 := by decide +kernel
def me206 : MethodName × ByteArray × Nat × Option FieldType × Nat × List (Nat × Instr × Nat) := (⟨"BeggarBridgeModel", "lastAt", "(II)I"⟩, prog_14_method_60_code, 3, (some .int), 12, k206)
/-- BeggarBridgeModel.maySitForEver(II)Z -/
def k207 : List (Nat × Instr × Nat) := [(0, .aload_n 0, 1), (1, .getfield 58, 3), (4, .iload_n 1, 1), (5, .iaload, 1), (6, .aload_n 0, 1), (7, .getfield 9, 3), (10, .bipush 60, 2), (12, .iaload, 1), (13, .if_icmp .gt 40, 3), (16, .aload_n 0, 1), (17, .getfield 9, 3), (20, .bipush 33, 2), (22, .iload_n 1, 1), (23, .iadd, 1), (24, .iaload, 1), (25, .aload_n 0, 1), (26, .getfield 9, 3), (29, .bipush 16, 2), (31, .iload_n 2, 1), (32, .iadd, 1), (33, .iaload, 1), (34, .invokestatic 265, 3), (37, .aload_n 0, 1), (38, .getfield 9, 3), (41, .bipush 42, 2), (43, .iload_n 1, 1), (44, .iadd, 1), (45, .iaload, 1), (46, .if_icmp .gt 7, 3), (49, .iconst 1, 1), (50, .goto 4, 3), (53, .iconst 0, 1), (54, .ireturn, 1)]
theorem dk207 : ∀ r ∈ k207, decode prog_14_method_61_code r.1 = .ok r.2 := by decide +kernel
def me207 : MethodName × ByteArray × Nat × Option FieldType × Nat × List (Nat × Instr × Nat) := (⟨"BeggarBridgeModel", "maySitForEver", "(II)Z"⟩, prog_14_method_61_code, 3, (some .boolean), 12, k207)
/-- BeggarBridgeModel.lasting(I)I -/
def k208_0 : List (Nat × Instr × Nat) := [(0, .iload_n 1, 1), (1, .iconst (-1), 1), (2, .if_icmp .eq 14, 3), (5, .aload_n 0, 1), (6, .iload_n 1, 1), (7, .i2l, 1), (8, .invokevirtual 129, 3), (11, .ifCond .ne 5, 3), (14, .iconst (-1), 1), (15, .ireturn, 1), (16, .aload_n 0, 1), (17, .invokevirtual 274, 3), (20, .iconst 0, 1), (21, .istore_n 2, 1), (22, .iload_n 2, 1), (23, .iconst 1, 1), (24, .aload_n 0, 1), (25, .getfield 118, 3), (28, .ishl, 1), (29, .if_icmp .ge 24, 3), (32, .aload_n 0, 1), (33, .getfield 67, 3), (36, .aload_n 0, 1), (37, .aload_n 0, 1), (38, .getfield 111, 3), (41, .iload_n 2, 1), (42, .invokevirtual 302, 3), (45, .iconst 0, 1), (46, .iastore, 1), (47, .iinc 2 1, 3), (50, .goto (-28), 3), (53, .aload_n 0, 1), (54, .getfield 111, 3), (57, .iconst 1, 1), (58, .isub, 1), (59, .istore_n 2, 1), (60, .iload_n 2, 1), (61, .ifCond .lt 130, 3), (64, .iconst 0, 1), (65, .istore_n 3, 1), (66, .iload_n 3, 1), (67, .iconst 1, 1), (68, .aload_n 0, 1), (69, .getfield 118, 3), (72, .ishl, 1), (73, .if_icmp .ge 112, 3), (76, .aload_n 0, 1), (77, .getfield 67, 3), (80, .aload_n 0, 1), (81, .iload_n 2, 1), (82, .iconst 1, 1), (83, .iadd, 1), (84, .iload_n 3, 1), (85, .invokevirtual 302, 3), (88, .iaload, 1), (89, .istore 4, 2), (91, .iconst 0, 1), (92, .istore 5, 2), (94, .iload 5, 2), (96, .aload_n 0, 1)]
theorem dk208_0 : ∀ r ∈ k208_0, decode prog_14_method_62_code r.1 = .ok r.2 := by decide +kernel
def k208_1 : List (Nat × Instr × Nat) := [(97, .getfield 118, 3), (100, .if_icmp .ge 66, 3), (103, .iload_n 3, 1), (104, .iload 5, 2), (106, .invokestatic 305, 3), (109, .ifCond .ne 51, 3), (112, .aload_n 0, 1), (113, .iload 5, 2), (115, .iload_n 2, 1), (116, .invokevirtual 308, 3), (119, .ifCond .eq 41, 3), (122, .iconst 1, 1), (123, .aload_n 0, 1), (124, .getfield 67, 3), (127, .aload_n 0, 1), (128, .iload_n 2, 1), (129, .iconst 1, 1), (130, .iadd, 1), (131, .iload_n 3, 1), (132, .iconst 1, 1), (133, .iload 5, 2), (135, .ishl, 1), (136, .ior, 1), (137, .invokevirtual 302, 3), (140, .iaload, 1), (141, .iadd, 1), (142, .istore 6, 2), (144, .iload 6, 2), (146, .iload 4, 2), (148, .if_icmp .le 8, 3), (151, .iload 6, 2), (153, .goto 5, 3), (156, .iload 4, 2), (158, .istore 4, 2), (160, .iinc 5 1, 3), (163, .goto (-69), 3), (166, .aload_n 0, 1), (167, .getfield 67, 3), (170, .aload_n 0, 1), (171, .iload_n 2, 1), (172, .iload_n 3, 1), (173, .invokevirtual 302, 3), (176, .iload 4, 2), (178, .iastore, 1), (179, .iinc 3 1, 3), (182, .goto (-116), 3), (185, .iinc 2 (-1), 3), (188, .goto (-128), 3), (191, .iload_n 1, 1), (192, .iconst (-1), 1), (193, .if_icmp .ne 15, 3), (196, .aload_n 0, 1), (197, .getfield 67, 3), (200, .aload_n 0, 1), (201, .iconst 0, 1), (202, .iconst 0, 1), (203, .invokevirtual 302, 3), (206, .iaload, 1), (207, .ireturn, 1), (208, .iconst 0, 1)]
theorem dk208_1 : ∀ r ∈ k208_1, decode prog_14_method_62_code r.1 = .ok r.2 := by decide +kernel
def k208_2 : List (Nat × Instr × Nat) := [(209, .istore_n 2, 1), (210, .bipush 9, 2), (212, .istore_n 3, 1), (213, .iconst 0, 1), (214, .istore 4, 2), (216, .iload 4, 2), (218, .iload_n 1, 1), (219, .if_icmp .gt 122, 3), (222, .bipush 9, 2), (224, .istore_n 3, 1), (225, .aload_n 0, 1), (226, .getfield 118, 3), (229, .iconst 1, 1), (230, .isub, 1), (231, .istore 5, 2), (233, .iload 5, 2), (235, .ifCond .lt 84, 3), (238, .iload_n 2, 1), (239, .iload 5, 2), (241, .invokestatic 305, 3), (244, .ifCond .ne 54, 3), (247, .aload_n 0, 1), (248, .iload 5, 2), (250, .iload 4, 2), (252, .invokevirtual 308, 3), (255, .ifCond .eq 43, 3), (258, .iconst 1, 1), (259, .aload_n 0, 1), (260, .getfield 67, 3), (263, .aload_n 0, 1), (264, .iload 4, 2), (266, .iconst 1, 1), (267, .iadd, 1), (268, .iload_n 2, 1), (269, .iconst 1, 1), (270, .iload 5, 2), (272, .ishl, 1), (273, .ior, 1), (274, .invokevirtual 302, 3), (277, .iaload, 1), (278, .iadd, 1), (279, .aload_n 0, 1), (280, .getfield 67, 3), (283, .aload_n 0, 1), (284, .iload 4, 2), (286, .iload_n 2, 1), (287, .invokevirtual 302, 3), (290, .iaload, 1), (291, .if_icmp .ne 7, 3), (294, .iconst 1, 1), (295, .goto 4, 3), (298, .iconst 0, 1), (299, .istore 6, 2), (301, .iload 6, 2), (303, .ifCond .eq 8, 3), (306, .iload 5, 2), (308, .goto 4, 3), (311, .iload_n 3, 1), (312, .istore_n 3, 1), (313, .iinc 5 (-1), 3)]
theorem dk208_2 : ∀ r ∈ k208_2, decode prog_14_method_62_code r.1 = .ok r.2 := by decide +kernel
def k208_3 : List (Nat × Instr × Nat) := [(316, .goto (-83), 3), (319, .iload_n 2, 1), (320, .iload_n 3, 1), (321, .bipush 9, 2), (323, .if_icmp .ne 7, 3), (326, .iconst 0, 1), (327, .goto 6, 3), (330, .iconst 1, 1), (331, .iload_n 3, 1), (332, .ishl, 1), (333, .ior, 1), (334, .istore_n 2, 1), (335, .iinc 4 1, 3), (338, .goto (-122), 3), (341, .iload_n 3, 1), (342, .ireturn, 1)]
theorem dk208_3 : ∀ r ∈ k208_3, decode prog_14_method_62_code r.1 = .ok r.2 := by decide +kernel
def k208 : List (Nat × Instr × Nat) := k208_0 ++ (k208_1 ++ (k208_2 ++ (k208_3)))
theorem dk208 : ∀ r ∈ k208, decode prog_14_method_62_code r.1 = .ok r.2 := List.forall_mem_append.mpr ⟨dk208_0, List.forall_mem_append.mpr ⟨dk208_1, List.forall_mem_append.mpr ⟨dk208_2, dk208_3⟩⟩⟩
def me208 : MethodName × ByteArray × Nat × Option FieldType × Nat × List (Nat × Instr × Nat) := (⟨"BeggarBridgeModel", "lasting", "(I)I"⟩, prog_14_method_62_code, 7, (some .int), 12, k208)
/-- BeggarBridgeModel.spansBy(III)I -/
def k209_0 : List (Nat × Instr × Nat) := [(0, .iconst 0, 1), (1, .istore 4, 2), (3, .iload 4, 2), (5, .bipush 8, 2), (7, .if_icmp .ge 29, 3), (10, .aload_n 0, 1), (11, .getfield 70, 3), (14, .iload 4, 2), (16, .iload 4, 2), (18, .iload_n 1, 1), (19, .if_icmp .ne 7, 3), (22, .iconst 0, 1), (23, .goto 6, 3), (26, .ldc_w 311, 3), (29, .iastore, 1), (30, .iinc 4 1, 3), (33, .goto (-30), 3), (36, .iconst 0, 1), (37, .istore 4, 2), (39, .iload 4, 2), (41, .bipush 8, 2), (43, .if_icmp .ge 134, 3), (46, .iconst 0, 1), (47, .istore 5, 2), (49, .iload 5, 2), (51, .aload_n 0, 1), (52, .getfield 111, 3), (55, .if_icmp .ge 116, 3), (58, .iload_n 3, 1), (59, .iload 5, 2), (61, .invokestatic 305, 3), (64, .ifCond .eq 101, 3), (67, .bipush 100, 2), (69, .aload_n 0, 1), (70, .getfield 9, 3), (73, .iload 5, 2), (75, .iaload, 1), (76, .imul, 1), (77, .iconst 1, 1), (78, .iadd, 1), (79, .istore 6, 2), (81, .aload_n 0, 1), (82, .getfield 70, 3), (85, .aload_n 0, 1), (86, .getfield 25, 3), (89, .iload 5, 2), (91, .iaload, 1), (92, .aload_n 0, 1), (93, .getfield 70, 3), (96, .aload_n 0, 1), (97, .getfield 25, 3), (100, .iload 5, 2), (102, .iaload, 1), (103, .iaload, 1), (104, .aload_n 0, 1), (105, .getfield 70, 3), (108, .aload_n 0, 1), (109, .getfield 22, 3), (112, .iload 5, 2), (114, .iaload, 1)]
theorem dk209_0 : ∀ r ∈ k209_0, decode prog_14_method_63_code r.1 = .ok r.2 := by decide +kernel
def k209_1 : List (Nat × Instr × Nat) := [(115, .iaload, 1), (116, .iload 6, 2), (118, .iadd, 1), (119, .invokestatic 265, 3), (122, .iastore, 1), (123, .aload_n 0, 1), (124, .getfield 70, 3), (127, .aload_n 0, 1), (128, .getfield 22, 3), (131, .iload 5, 2), (133, .iaload, 1), (134, .aload_n 0, 1), (135, .getfield 70, 3), (138, .aload_n 0, 1), (139, .getfield 22, 3), (142, .iload 5, 2), (144, .iaload, 1), (145, .iaload, 1), (146, .aload_n 0, 1), (147, .getfield 70, 3), (150, .aload_n 0, 1), (151, .getfield 25, 3), (154, .iload 5, 2), (156, .iaload, 1), (157, .iaload, 1), (158, .iload 6, 2), (160, .iadd, 1), (161, .invokestatic 265, 3), (164, .iastore, 1), (165, .iinc 5 1, 3), (168, .goto (-119), 3), (171, .iinc 4 1, 3), (174, .goto (-135), 3), (177, .aload_n 0, 1), (178, .getfield 70, 3), (181, .iload_n 2, 1), (182, .iaload, 1), (183, .ireturn, 1)]
theorem dk209_1 : ∀ r ∈ k209_1, decode prog_14_method_63_code r.1 = .ok r.2 := by decide +kernel
def k209 : List (Nat × Instr × Nat) := k209_0 ++ (k209_1)
theorem dk209 : ∀ r ∈ k209, decode prog_14_method_63_code r.1 = .ok r.2 := List.forall_mem_append.mpr ⟨dk209_0, dk209_1⟩
def me209 : MethodName × ByteArray × Nat × Option FieldType × Nat × List (Nat × Instr × Nat) := (⟨"BeggarBridgeModel", "spansBy", "(III)I"⟩, prog_14_method_63_code, 7, (some .int), 12, k209)
/-- BeggarBridgeModel.way(II)I -/
def k210_0 : List (Nat × Instr × Nat) := [(0, .iload_n 1, 1), (1, .invokestatic 132, 3), (4, .ifCond .eq 15, 3), (7, .iload_n 2, 1), (8, .i2l, 1), (9, .lconst 0, 1), (10, .ldc2_w 156, 3), (13, .invokestatic 114, 3), (16, .ifCond .ne 5, 3), (19, .iconst (-1), 1), (20, .ireturn, 1), (21, .aload_n 0, 1), (22, .invokevirtual 274, 3), (25, .aload_n 0, 1), (26, .invokevirtual 285, 3), (29, .istore_n 3, 1), (30, .iload_n 2, 1), (31, .iconst 2, 1), (32, .if_icmp .ge 49, 3), (35, .aload_n 0, 1), (36, .iload_n 1, 1), (37, .bipush 10, 2), (39, .idiv, 1), (40, .iload_n 1, 1), (41, .bipush 10, 2), (43, .irem, 1), (44, .iload_n 3, 1), (45, .invokevirtual 312, 3), (48, .istore 4, 2), (50, .iload 4, 2), (52, .ldc_w 311, 3), (55, .if_icmp .lt 8, 3), (58, .bipush (-2), 2), (60, .goto 20, 3), (63, .iload_n 2, 1), (64, .ifCond .ne 11, 3), (67, .iload 4, 2), (69, .bipush 100, 2), (71, .idiv, 1), (72, .goto 8, 3), (75, .iload 4, 2), (77, .bipush 100, 2), (79, .irem, 1), (80, .ireturn, 1), (81, .iconst (-1), 1), (82, .istore 4, 2), (84, .iconst 0, 1), (85, .istore 5, 2), (87, .iload 5, 2), (89, .iconst 1, 1), (90, .aload_n 0, 1), (91, .getfield 111, 3), (94, .ishl, 1), (95, .if_icmp .ge 81, 3), (98, .iload 5, 2), (100, .iload_n 3, 1), (101, .iconst (-1), 1), (102, .ixor, 1), (103, .iand, 1), (104, .ifCond .ne 49, 3)]
theorem dk210_0 : ∀ r ∈ k210_0, decode prog_14_method_64_code r.1 = .ok r.2 := by decide +kernel
def k210_1 : List (Nat × Instr × Nat) := [(107, .iload 4, 2), (109, .ifCond .lt 16, 3), (112, .iload 5, 2), (114, .invokestatic 299, 3), (117, .iload 4, 2), (119, .invokestatic 299, 3), (122, .if_icmp .ge 31, 3), (125, .aload_n 0, 1), (126, .iload_n 1, 1), (127, .bipush 10, 2), (129, .idiv, 1), (130, .iload_n 1, 1), (131, .bipush 10, 2), (133, .irem, 1), (134, .iload_n 3, 1), (135, .iload 5, 2), (137, .iconst (-1), 1), (138, .ixor, 1), (139, .iand, 1), (140, .invokevirtual 312, 3), (143, .ldc_w 311, 3), (146, .if_icmp .lt 7, 3), (149, .iconst 1, 1), (150, .goto 4, 3), (153, .iconst 0, 1), (154, .istore 6, 2), (156, .iload 6, 2), (158, .ifCond .eq 8, 3), (161, .iload 5, 2), (163, .goto 5, 3), (166, .iload 4, 2), (168, .istore 4, 2), (170, .iinc 5 1, 3), (173, .goto (-86), 3), (176, .iload_n 2, 1), (177, .iconst 2, 1), (178, .if_icmp .ne 11, 3), (181, .iload 4, 2), (183, .invokestatic 299, 3), (186, .goto 5, 3), (189, .iload 4, 2), (191, .ireturn, 1)]
theorem dk210_1 : ∀ r ∈ k210_1, decode prog_14_method_64_code r.1 = .ok r.2 := by decide +kernel
def k210 : List (Nat × Instr × Nat) := k210_0 ++ (k210_1)
theorem dk210 : ∀ r ∈ k210, decode prog_14_method_64_code r.1 = .ok r.2 := List.forall_mem_append.mpr ⟨dk210_0, dk210_1⟩
def me210 : MethodName × ByteArray × Nat × Option FieldType × Nat × List (Nat × Instr × Nat) := (⟨"BeggarBridgeModel", "way", "(II)I"⟩, prog_14_method_64_code, 7, (some .int), 12, k210)
/-- BeggarBridgeModel.needed()I -/
def k211 : List (Nat × Instr × Nat) := [(0, .aload_n 0, 1), (1, .invokevirtual 274, 3), (4, .aload_n 0, 1), (5, .invokevirtual 285, 3), (8, .istore_n 1, 1), (9, .iconst 0, 1), (10, .istore_n 2, 1), (11, .iconst 0, 1), (12, .istore_n 3, 1), (13, .iload_n 3, 1), (14, .aload_n 0, 1), (15, .getfield 111, 3), (18, .if_icmp .ge 56, 3), (21, .iload_n 2, 1), (22, .iload_n 1, 1), (23, .iload_n 3, 1), (24, .invokestatic 305, 3), (27, .ifCond .eq 38, 3), (30, .aload_n 0, 1), (31, .aload_n 0, 1), (32, .getfield 22, 3), (35, .iload_n 3, 1), (36, .iaload, 1), (37, .aload_n 0, 1), (38, .getfield 25, 3), (41, .iload_n 3, 1), (42, .iaload, 1), (43, .iload_n 1, 1), (44, .iconst 1, 1), (45, .iload_n 3, 1), (46, .ishl, 1), (47, .iconst (-1), 1), (48, .ixor, 1), (49, .iand, 1), (50, .invokevirtual 312, 3), (53, .ldc_w 311, 3), (56, .if_icmp .lt 9, 3), (59, .iconst 1, 1), (60, .iload_n 3, 1), (61, .ishl, 1), (62, .goto 4, 3), (65, .iconst 0, 1), (66, .ior, 1), (67, .istore_n 2, 1), (68, .iinc 3 1, 3), (71, .goto (-58), 3), (74, .iload_n 2, 1), (75, .ireturn, 1)]
theorem dk211 : ∀ r ∈ k211, decode prog_14_method_65_code r.1 = .ok r.2 := by decide +kernel
def me211 : MethodName × ByteArray × Nat × Option FieldType × Nat × List (Nat × Instr × Nat) := (⟨"BeggarBridgeModel", "needed", "()I"⟩, prog_14_method_65_code, 4, (some .int), 12, k211)
/-- BeggarBridgeModel.bytesIs(I)I -/
def k212 : List (Nat × Instr × Nat) := [(0, .iload_n 1, 1), (1, .invokestatic 151, 3), (4, .ifCond .ne 7, 3), (7, .iconst (-1), 1), (8, .goto 34, 3), (11, .aload_n 0, 1), (12, .getfield 91, 3), (15, .iload_n 1, 1), (16, .iaload, 1), (17, .ifCond .ge 8, 3), (20, .bipush (-11), 2), (22, .goto 20, 3), (25, .aload_n 0, 1), (26, .getfield 91, 3), (29, .iload_n 1, 1), (30, .iaload, 1), (31, .bipush 50, 2), (33, .if_icmp .ne 7, 3), (36, .iconst 1, 1), (37, .goto 5, 3), (40, .bipush (-12), 2), (42, .ireturn, 1)]
theorem dk212 : ∀ r ∈ k212, decode prog_14_method_66_code r.1 = .ok r.2 := by decide +kernel
def me212 : MethodName × ByteArray × Nat × Option FieldType × Nat × List (Nat × Instr × Nat) := (⟨"BeggarBridgeModel", "bytesIs", "(I)I"⟩, prog_14_method_66_code, 2, (some .int), 12, k212)
/-- BeggarBridgeModel.firstFalse(II)I -/
def k213 : List (Nat × Instr × Nat) := [(0, .aload_n 0, 1), (1, .invokevirtual 274, 3), (4, .iconst 0, 1), (5, .istore_n 3, 1), (6, .iload_n 3, 1), (7, .aload_n 0, 1), (8, .getfield 94, 3), (11, .iload_n 1, 1), (12, .iaload, 1), (13, .if_icmp .ge 37, 3), (16, .aload_n 0, 1), (17, .getfield 97, 3), (20, .bipush 60, 2), (22, .iload_n 1, 1), (23, .imul, 1), (24, .iload_n 3, 1), (25, .iadd, 1), (26, .laload, 1), (27, .aload_n 0, 1), (28, .getfield 55, 3), (31, .iload_n 2, 1), (32, .iaload, 1), (33, .i2l, 1), (34, .lcmp, 1), (35, .ifCond .eq 5, 3), (38, .iload_n 3, 1), (39, .ireturn, 1), (40, .aload_n 0, 1), (41, .invokevirtual 271, 3), (44, .iinc 3 1, 3), (47, .goto (-41), 3), (50, .bipush (-2), 2), (52, .ireturn, 1)]
theorem dk213 : ∀ r ∈ k213, decode prog_14_method_67_code r.1 = .ok r.2 := by decide +kernel
def me213 : MethodName × ByteArray × Nat × Option FieldType × Nat × List (Nat × Instr × Nat) := (⟨"BeggarBridgeModel", "firstFalse", "(II)I"⟩, prog_14_method_67_code, 4, (some .int), 12, k213)
/-- BeggarBridgeModel.judge(II)I -/
def k214 : List (Nat × Instr × Nat) := [(0, .aload_n 0, 1), (1, .iload_n 1, 1), (2, .invokevirtual 315, 3), (5, .iconst (-1), 1), (6, .if_icmp .eq 12, 3), (9, .aload_n 0, 1), (10, .iload_n 2, 1), (11, .i2l, 1), (12, .invokevirtual 129, 3), (15, .ifCond .ne 5, 3), (18, .iconst (-1), 1), (19, .ireturn, 1), (20, .aload_n 0, 1), (21, .iload_n 1, 1), (22, .invokevirtual 315, 3), (25, .ifCond .ge 11, 3), (28, .aload_n 0, 1), (29, .iload_n 1, 1), (30, .invokevirtual 315, 3), (33, .goto 9, 3), (36, .aload_n 0, 1), (37, .iload_n 1, 1), (38, .iload_n 2, 1), (39, .invokevirtual 318, 3), (42, .ireturn, 1)]
theorem dk214 : ∀ r ∈ k214, decode prog_14_method_68_code r.1 = .ok r.2 := by decide +kernel
def me214 : MethodName × ByteArray × Nat × Option FieldType × Nat × List (Nat × Instr × Nat) := (⟨"BeggarBridgeModel", "judge", "(II)I"⟩, prog_14_method_68_code, 3, (some .int), 12, k214)
end
section
/-! generated by wip/whole/gen.py: the code of methods 215 .. 252 as data -/
/-- BeggarBridgeModel.fits(IIII)I -/
def k215_0 : List (Nat × Instr × Nat) := [(0, .aload_n 0, 1), (1, .iload_n 1, 1), (2, .invokevirtual 315, 3), (5, .iconst (-1), 1), (6, .if_icmp .eq 52, 3), (9, .aload_n 0, 1), (10, .iload_n 2, 1), (11, .i2l, 1), (12, .invokevirtual 129, 3), (15, .ifCond .eq 43, 3), (18, .iload 4, 2), (20, .i2l, 1), (21, .lconst 0, 1), (22, .ldc2_w 156, 3), (25, .invokestatic 114, 3), (28, .ifCond .eq 30, 3), (31, .iload 4, 2), (33, .iconst 2, 1), (34, .if_icmp .ge 15, 3), (37, .aload_n 0, 1), (38, .iload_n 3, 1), (39, .i2l, 1), (40, .invokevirtual 160, 3), (43, .ifCond .eq 15, 3), (46, .goto 14, 3), (49, .aload_n 0, 1), (50, .iload_n 3, 1), (51, .i2l, 1), (52, .invokevirtual 129, 3), (55, .ifCond .ne 5, 3), (58, .iconst (-1), 1), (59, .ireturn, 1), (60, .aload_n 0, 1), (61, .iload_n 1, 1), (62, .invokevirtual 315, 3), (65, .ifCond .ge 9, 3), (68, .aload_n 0, 1), (69, .iload_n 1, 1), (70, .invokevirtual 315, 3), (73, .ireturn, 1), (74, .iload 4, 2), (76, .iconst 2, 1), (77, .if_icmp .ge 8, 3), (80, .bipush 24, 2), (82, .goto 5, 3), (85, .bipush 16, 2), (87, .iload_n 3, 1), (88, .iadd, 1), (89, .istore 5, 2), (91, .aload_n 0, 1), (92, .getfield 9, 3), (95, .iload 5, 2), (97, .iaload, 1), (98, .istore 6, 2), (100, .iconst 0, 1), (101, .istore 7, 2), (103, .bipush (-2), 2), (105, .istore 8, 2), (107, .iconst 0, 1), (108, .istore 9, 2)]
theorem dk215_0 : ∀ r ∈ k215_0, decode prog_14_method_69_code r.1 = .ok r.2 := by decide +kernel
def k215_1 : List (Nat × Instr × Nat) := [(110, .iload 9, 2), (112, .iload 4, 2), (114, .iconst 2, 1), (115, .if_icmp .ge 8, 3), (118, .bipush 99, 2), (120, .goto 5, 3), (123, .bipush 9, 2), (125, .if_icmp .gt 46, 3), (128, .aload_n 0, 1), (129, .getfield 9, 3), (132, .iload 5, 2), (134, .iload 9, 2), (136, .iastore, 1), (137, .aload_n 0, 1), (138, .iload_n 1, 1), (139, .iload_n 2, 1), (140, .invokevirtual 318, 3), (143, .bipush (-2), 2), (145, .if_icmp .ne 20, 3), (148, .iload 7, 2), (150, .ifCond .ne 8, 3), (153, .iload 9, 2), (155, .goto 5, 3), (158, .iload 8, 2), (160, .istore 8, 2), (162, .iinc 7 1, 3), (165, .iinc 9 1, 3), (168, .goto (-58), 3), (171, .aload_n 0, 1), (172, .getfield 9, 3), (175, .iload 5, 2), (177, .iload 6, 2), (179, .iastore, 1), (180, .iload 4, 2), (182, .iconst 2, 1), (183, .irem, 1), (184, .ifCond .ne 8, 3), (187, .iload 7, 2), (189, .goto 5, 3), (192, .iload 8, 2), (194, .ireturn, 1)]
theorem dk215_1 : ∀ r ∈ k215_1, decode prog_14_method_69_code r.1 = .ok r.2 := by decide +kernel
def k215 : List (Nat × Instr × Nat) := k215_0 ++ (k215_1)
theorem dk215 : ∀ r ∈ k215, decode prog_14_method_69_code r.1 = .ok r.2 := List.forall_mem_append.mpr ⟨dk215_0, dk215_1⟩
def me215 : MethodName × ByteArray × Nat × Option FieldType × Nat × List (Nat × Instr × Nat) := (⟨"BeggarBridgeModel", "fits", "(IIII)I"⟩, prog_14_method_69_code, 10, (some .int), 12, k215)
/-- BeggarBridgeModel.aboveOf(I)I -/
def k216 : List (Nat × Instr × Nat) := [(0, .aload_n 0, 1), (1, .iload_n 1, 1), (2, .invokevirtual 252, 3), (5, .ifCond .eq 7, 3), (8, .iconst 0, 1), (9, .goto 17, 3), (12, .aload_n 0, 1), (13, .getfield 58, 3), (16, .iload_n 1, 1), (17, .iaload, 1), (18, .aload_n 0, 1), (19, .getfield 9, 3), (22, .bipush 60, 2), (24, .iaload, 1), (25, .isub, 1), (26, .ireturn, 1)]
theorem dk216 : ∀ r ∈ k216, decode prog_14_method_70_code r.1 = .ok r.2 := by decide +kernel
def me216 : MethodName × ByteArray × Nat × Option FieldType × Nat × List (Nat × Instr × Nat) := (⟨"BeggarBridgeModel", "aboveOf", "(I)I"⟩, prog_14_method_70_code, 2, (some .int), 12, k216)
/-- BeggarBridgeModel.fined(II)I -/
def k217 : List (Nat × Instr × Nat) := [(0, .aload_n 0, 1), (1, .iload_n 1, 1), (2, .i2l, 1), (3, .invokevirtual 160, 3), (6, .ifCond .eq 15, 3), (9, .iload_n 2, 1), (10, .i2l, 1), (11, .lconst 0, 1), (12, .ldc2_w 321, 3), (15, .invokestatic 114, 3), (18, .ifCond .ne 5, 3), (21, .iconst (-1), 1), (22, .ireturn, 1), (23, .aload_n 0, 1), (24, .invokevirtual 274, 3), (27, .iconst 0, 1), (28, .istore_n 3, 1), (29, .iconst 0, 1), (30, .istore 4, 2), (32, .iload 4, 2), (34, .aload_n 0, 1), (35, .getfield 118, 3), (38, .if_icmp .ge 18, 3), (41, .iload_n 3, 1), (42, .aload_n 0, 1), (43, .iload 4, 2), (45, .invokevirtual 323, 3), (48, .iadd, 1), (49, .istore_n 3, 1), (50, .iinc 4 1, 3), (53, .goto (-21), 3), (56, .iload_n 3, 1), (57, .ifCond .ne 7, 3), (60, .iconst 0, 1), (61, .goto 12, 3), (64, .iload_n 2, 1), (65, .aload_n 0, 1), (66, .iload_n 1, 1), (67, .invokevirtual 323, 3), (70, .imul, 1), (71, .iload_n 3, 1), (72, .idiv, 1), (73, .ireturn, 1)]
theorem dk217 : ∀ r ∈ k217, decode prog_14_method_71_code r.1 = .ok r.2 := by decide +kernel
def me217 : MethodName × ByteArray × Nat × Option FieldType × Nat × List (Nat × Instr × Nat) := (⟨"BeggarBridgeModel", "fined", "(II)I"⟩, prog_14_method_71_code, 5, (some .int), 12, k217)
/-- BeggarBridgeModel.claim(I)I -/
def k218 : List (Nat × Instr × Nat) := [(0, .iload_n 1, 1), (1, .i2l, 1), (2, .invokestatic 123, 3), (5, .ifCond .ne 5, 3), (8, .iconst (-1), 1), (9, .ireturn, 1), (10, .aload_n 0, 1), (11, .invokevirtual 274, 3), (14, .iconst 0, 1), (15, .istore_n 2, 1), (16, .iconst 0, 1), (17, .istore_n 3, 1), (18, .iconst 0, 1), (19, .istore 4, 2), (21, .iload 4, 2), (23, .aload_n 0, 1), (24, .getfield 111, 3), (27, .if_icmp .ge 51, 3), (30, .aload_n 0, 1), (31, .getfield 22, 3), (34, .iload 4, 2), (36, .iaload, 1), (37, .iload_n 1, 1), (38, .if_icmp .eq 14, 3), (41, .aload_n 0, 1), (42, .getfield 25, 3), (45, .iload 4, 2), (47, .iaload, 1), (48, .iload_n 1, 1), (49, .if_icmp .ne 23, 3), (52, .iload_n 2, 1), (53, .aload_n 0, 1), (54, .iload 4, 2), (56, .iconst 1, 1), (57, .invokevirtual 255, 3), (60, .iadd, 1), (61, .istore_n 2, 1), (62, .iload_n 3, 1), (63, .aload_n 0, 1), (64, .iload 4, 2), (66, .iconst 0, 1), (67, .invokevirtual 255, 3), (70, .iadd, 1), (71, .istore_n 3, 1), (72, .iinc 4 1, 3), (75, .goto (-54), 3), (78, .bipush 10, 2), (80, .iload_n 2, 1), (81, .imul, 1), (82, .iload_n 3, 1), (83, .iadd, 1), (84, .ireturn, 1)]
theorem dk218 : ∀ r ∈ k218, decode prog_14_method_72_code r.1 = .ok r.2 := by decide +kernel
def me218 : MethodName × ByteArray × Nat × Option FieldType × Nat × List (Nat × Instr × Nat) := (⟨"BeggarBridgeModel", "claim", "(I)I"⟩, prog_14_method_72_code, 5, (some .int), 12, k218)
/-- BeggarBridgeModel.playsFrom(IIII)I -/
def k219_0 : List (Nat × Instr × Nat) := [(0, .iload_n 2, 1), (1, .iload_n 3, 1), (2, .if_icmp .ne 137, 3), (5, .aload_n 0, 1), (6, .invokevirtual 274, 3), (9, .iconst 0, 1), (10, .istore 5, 2), (12, .iload 5, 2), (14, .iload_n 3, 1), (15, .if_icmp .ge 111, 3), (18, .aload_n 0, 1), (19, .getfield 73, 3), (22, .iload 5, 2), (24, .iaload, 1), (25, .aload_n 0, 1), (26, .getfield 118, 3), (29, .if_icmp .ge 91, 3), (32, .aload_n 0, 1), (33, .getfield 61, 3), (36, .aload_n 0, 1), (37, .getfield 73, 3), (40, .iload 5, 2), (42, .iaload, 1), (43, .iload 5, 2), (45, .iconst 2, 1), (46, .irem, 1), (47, .ifCond .ne 7, 3), (50, .iload_n 1, 1), (51, .goto 15, 3), (54, .aload_n 0, 1), (55, .getfield 61, 3), (58, .aload_n 0, 1), (59, .getfield 73, 3), (62, .iload 5, 2), (64, .iaload, 1), (65, .iaload, 1), (66, .iastore, 1), (67, .aload_n 0, 1), (68, .getfield 58, 3), (71, .aload_n 0, 1), (72, .getfield 73, 3), (75, .iload 5, 2), (77, .iaload, 1), (78, .iload 5, 2), (80, .iconst 2, 1), (81, .irem, 1), (82, .iconst 1, 1), (83, .if_icmp .ne 24, 3), (86, .aload_n 0, 1), (87, .getfield 58, 3), (90, .aload_n 0, 1), (91, .getfield 73, 3), (94, .iload 5, 2), (96, .iaload, 1), (97, .iaload, 1), (98, .bipush 20, 2), (100, .iadd, 1), (101, .invokestatic 268, 3), (104, .goto 15, 3), (107, .aload_n 0, 1)]
theorem dk219_0 : ∀ r ∈ k219_0, decode prog_14_method_73_code r.1 = .ok r.2 := by decide +kernel
def k219_1 : List (Nat × Instr × Nat) := [(108, .getfield 58, 3), (111, .aload_n 0, 1), (112, .getfield 73, 3), (115, .iload 5, 2), (117, .iaload, 1), (118, .iaload, 1), (119, .iastore, 1), (120, .iinc 5 1, 3), (123, .goto (-111), 3), (126, .aload_n 0, 1), (127, .iload 4, 2), (129, .invokevirtual 282, 3), (132, .aload_n 0, 1), (133, .getfield 55, 3), (136, .iload_n 1, 1), (137, .iaload, 1), (138, .ireturn, 1), (139, .aload_n 0, 1), (140, .getfield 73, 3), (143, .iload_n 2, 1), (144, .bipush 9, 2), (146, .iastore, 1), (147, .aload_n 0, 1), (148, .iload_n 1, 1), (149, .iload_n 2, 1), (150, .iconst 1, 1), (151, .iadd, 1), (152, .iload_n 3, 1), (153, .iload 4, 2), (155, .invokevirtual 326, 3), (158, .istore 5, 2), (160, .iconst 0, 1), (161, .istore 6, 2), (163, .iload 6, 2), (165, .aload_n 0, 1), (166, .getfield 118, 3), (169, .if_icmp .ge 69, 3), (172, .aload_n 0, 1), (173, .getfield 73, 3), (176, .iload_n 2, 1), (177, .iload 6, 2), (179, .iastore, 1), (180, .aload_n 0, 1), (181, .iload_n 1, 1), (182, .iload_n 2, 1), (183, .iconst 1, 1), (184, .iadd, 1), (185, .iload_n 3, 1), (186, .iload 4, 2), (188, .invokevirtual 326, 3), (191, .istore 7, 2), (193, .iload_n 2, 1), (194, .iconst 2, 1), (195, .irem, 1), (196, .ifCond .ne 20, 3), (199, .iload 7, 2), (201, .iload 5, 2), (203, .if_icmp .le 8, 3), (206, .iload 7, 2), (208, .goto 22, 3)]
theorem dk219_1 : ∀ r ∈ k219_1, decode prog_14_method_73_code r.1 = .ok r.2 := by decide +kernel
def k219_2 : List (Nat × Instr × Nat) := [(211, .iload 5, 2), (213, .goto 17, 3), (216, .iload 7, 2), (218, .iload 5, 2), (220, .if_icmp .ge 8, 3), (223, .iload 7, 2), (225, .goto 5, 3), (228, .iload 5, 2), (230, .istore 5, 2), (232, .iinc 6 1, 3), (235, .goto (-72), 3), (238, .iload 5, 2), (240, .ireturn, 1)]
theorem dk219_2 : ∀ r ∈ k219_2, decode prog_14_method_73_code r.1 = .ok r.2 := by decide +kernel
def k219 : List (Nat × Instr × Nat) := k219_0 ++ (k219_1 ++ (k219_2))
theorem dk219 : ∀ r ∈ k219, decode prog_14_method_73_code r.1 = .ok r.2 := List.forall_mem_append.mpr ⟨dk219_0, List.forall_mem_append.mpr ⟨dk219_1, dk219_2⟩⟩
def me219 : MethodName × ByteArray × Nat × Option FieldType × Nat × List (Nat × Instr × Nat) := (⟨"BeggarBridgeModel", "playsFrom", "(IIII)I"⟩, prog_14_method_73_code, 8, (some .int), 12, k219)
/-- BeggarBridgeModel.byTurns(III)I -/
def k220_0 : List (Nat × Instr × Nat) := [(0, .aload_n 0, 1), (1, .iload_n 1, 1), (2, .i2l, 1), (3, .invokevirtual 129, 3), (6, .ifCond .eq 47, 3), (9, .iload_n 2, 1), (10, .ifCond .lt 43, 3), (13, .iload_n 2, 1), (14, .bipush 100, 2), (16, .idiv, 1), (17, .i2l, 1), (18, .lconst 1, 1), (19, .ldc2_w 156, 3), (22, .invokestatic 114, 3), (25, .ifCond .eq 28, 3), (28, .iload_n 2, 1), (29, .bipush 100, 2), (31, .irem, 1), (32, .i2l, 1), (33, .lconst 0, 1), (34, .ldc2_w 297, 3), (37, .invokestatic 114, 3), (40, .ifCond .eq 13, 3), (43, .iload_n 3, 1), (44, .i2l, 1), (45, .lconst 0, 1), (46, .lconst 1, 1), (47, .invokestatic 114, 3), (50, .ifCond .ne 5, 3), (53, .iconst (-1), 1), (54, .ireturn, 1), (55, .iload_n 2, 1), (56, .bipush 100, 2), (58, .idiv, 1), (59, .istore 4, 2), (61, .iload_n 2, 1), (62, .bipush 100, 2), (64, .irem, 1), (65, .istore 5, 2), (67, .aload_n 0, 1), (68, .iload_n 1, 1), (69, .iconst 0, 1), (70, .iload 4, 2), (72, .iload 5, 2), (74, .invokevirtual 326, 3), (77, .istore 6, 2), (79, .iload_n 3, 1), (80, .ifCond .ne 6, 3), (83, .iload 6, 2), (85, .ireturn, 1), (86, .iconst (-1), 1), (87, .istore 7, 2), (89, .iconst 0, 1), (90, .istore 8, 2), (92, .iload 8, 2), (94, .aload_n 0, 1), (95, .getfield 118, 3), (98, .if_icmp .gt 69, 3), (101, .iload 7, 2), (103, .ifCond .ge 64, 3)]
theorem dk220_0 : ∀ r ∈ k220_0, decode prog_14_method_74_code r.1 = .ok r.2 := by decide +kernel
def k220_1 : List (Nat × Instr × Nat) := [(106, .aload_n 0, 1), (107, .getfield 73, 3), (110, .iconst 0, 1), (111, .iload 8, 2), (113, .ifCond .ne 8, 3), (116, .bipush 9, 2), (118, .goto 7, 3), (121, .iload 8, 2), (123, .iconst 1, 1), (124, .isub, 1), (125, .iastore, 1), (126, .aload_n 0, 1), (127, .iload_n 1, 1), (128, .iconst 1, 1), (129, .iload 4, 2), (131, .iload 5, 2), (133, .invokevirtual 326, 3), (136, .iload 6, 2), (138, .if_icmp .ne 20, 3), (141, .iload 8, 2), (143, .ifCond .ne 8, 3), (146, .bipush 9, 2), (148, .goto 11, 3), (151, .iload 8, 2), (153, .iconst 1, 1), (154, .isub, 1), (155, .goto 4, 3), (158, .iconst (-1), 1), (159, .istore 7, 2), (161, .iinc 8 1, 3), (164, .goto (-72), 3), (167, .iload 7, 2), (169, .ireturn, 1)]
theorem dk220_1 : ∀ r ∈ k220_1, decode prog_14_method_74_code r.1 = .ok r.2 := by decide +kernel
def k220 : List (Nat × Instr × Nat) := k220_0 ++ (k220_1)
theorem dk220 : ∀ r ∈ k220, decode prog_14_method_74_code r.1 = .ok r.2 := List.forall_mem_append.mpr ⟨dk220_0, dk220_1⟩
def me220 : MethodName × ByteArray × Nat × Option FieldType × Nat × List (Nat × Instr × Nat) := (⟨"BeggarBridgeModel", "byTurns", "(III)I"⟩, prog_14_method_74_code, 9, (some .int), 12, k220)
/-- BeggarBridgeModel.drawn(III)I -/
def k221_0 : List (Nat × Instr × Nat) := [(0, .iload_n 2, 1), (1, .ifCond .lt 66, 3), (4, .iload_n 2, 1), (5, .sipush 10000, 3), (8, .idiv, 1), (9, .i2l, 1), (10, .lconst 1, 1), (11, .ldc2_w 330, 3), (14, .invokestatic 114, 3), (17, .ifCond .eq 50, 3), (20, .iload_n 2, 1), (21, .bipush 100, 2), (23, .idiv, 1), (24, .bipush 100, 2), (26, .irem, 1), (27, .i2l, 1), (28, .lconst 1, 1), (29, .ldc2_w 277, 3), (32, .invokestatic 114, 3), (35, .ifCond .eq 32, 3), (38, .iload_n 2, 1), (39, .bipush 100, 2), (41, .irem, 1), (42, .i2l, 1), (43, .lconst 0, 1), (44, .ldc2_w 332, 3), (47, .invokestatic 114, 3), (50, .ifCond .eq 17, 3), (53, .iload_n 3, 1), (54, .iconst (-1), 1), (55, .if_icmp .eq 14, 3), (58, .aload_n 0, 1), (59, .iload_n 3, 1), (60, .i2l, 1), (61, .invokevirtual 129, 3), (64, .ifCond .ne 5, 3), (67, .iconst (-1), 1), (68, .ireturn, 1), (69, .iload_n 1, 1), (70, .istore 4, 2), (72, .iconst 0, 1), (73, .istore 5, 2), (75, .iconst 0, 1), (76, .istore 6, 2), (78, .iconst 0, 1), (79, .istore 7, 2), (81, .iload 7, 2), (83, .iload_n 2, 1), (84, .sipush 10000, 3), (87, .idiv, 1), (88, .if_icmp .ge 145, 3), (91, .aload_n 0, 1), (92, .invokevirtual 274, 3), (95, .iconst 0, 1), (96, .istore 8, 2), (98, .iload 8, 2), (100, .iload_n 2, 1), (101, .bipush 100, 2), (103, .idiv, 1), (104, .bipush 100, 2)]
theorem dk221_0 : ∀ r ∈ k221_0, decode prog_14_method_75_code r.1 = .ok r.2 := by decide +kernel
def k221_1 : List (Nat × Instr × Nat) := [(106, .irem, 1), (107, .if_icmp .ge 85, 3), (110, .iload 4, 2), (112, .ldc_w 334, 3), (115, .imul, 1), (116, .sipush 12345, 3), (119, .iadd, 1), (120, .istore 4, 2), (122, .aload_n 0, 1), (123, .getfield 118, 3), (126, .ifCond .le 56, 3), (129, .iload 4, 2), (131, .bipush 24, 2), (133, .iushr, 1), (134, .bipush 12, 2), (136, .irem, 1), (137, .iload_n 2, 1), (138, .bipush 100, 2), (140, .irem, 1), (141, .if_icmp .ge 41, 3), (144, .iload 4, 2), (146, .bipush 8, 2), (148, .iushr, 1), (149, .aload_n 0, 1), (150, .getfield 118, 3), (153, .irem, 1), (154, .istore 9, 2), (156, .aload_n 0, 1), (157, .getfield 58, 3), (160, .iload 9, 2), (162, .aload_n 0, 1), (163, .getfield 58, 3), (166, .iload 9, 2), (168, .iaload, 1), (169, .iload 4, 2), (171, .bipush 16, 2), (173, .iushr, 1), (174, .bipush 30, 2), (176, .irem, 1), (177, .iadd, 1), (178, .invokestatic 268, 3), (181, .iastore, 1), (182, .aload_n 0, 1), (183, .invokevirtual 271, 3), (186, .iinc 8 1, 3), (189, .goto (-91), 3), (192, .iload 5, 2), (194, .aload_n 0, 1), (195, .invokevirtual 285, 3), (198, .invokestatic 299, 3), (201, .iadd, 1), (202, .istore 5, 2), (204, .iload 6, 2), (206, .iload_n 3, 1), (207, .ifCond .lt 16, 3), (210, .aload_n 0, 1), (211, .getfield 55, 3), (214, .iload_n 3, 1), (215, .iaload, 1), (216, .ifCond .le 7, 3)]
theorem dk221_1 : ∀ r ∈ k221_1, decode prog_14_method_75_code r.1 = .ok r.2 := by decide +kernel
def k221_2 : List (Nat × Instr × Nat) := [(219, .iconst 1, 1), (220, .goto 4, 3), (223, .iconst 0, 1), (224, .iadd, 1), (225, .istore 6, 2), (227, .iinc 7 1, 3), (230, .goto (-149), 3), (233, .iload_n 3, 1), (234, .ifCond .ge 8, 3), (237, .iload 5, 2), (239, .goto 5, 3), (242, .iload 6, 2), (244, .ireturn, 1)]
theorem dk221_2 : ∀ r ∈ k221_2, decode prog_14_method_75_code r.1 = .ok r.2 := by decide +kernel
def k221 : List (Nat × Instr × Nat) := k221_0 ++ (k221_1 ++ (k221_2))
theorem dk221 : ∀ r ∈ k221, decode prog_14_method_75_code r.1 = .ok r.2 := List.forall_mem_append.mpr ⟨dk221_0, List.forall_mem_append.mpr ⟨dk221_1, dk221_2⟩⟩
def me221 : MethodName × ByteArray × Nat × Option FieldType × Nat × List (Nat × Instr × Nat) := (⟨"BeggarBridgeModel", "drawn", "(III)I"⟩, prog_14_method_75_code, 10, (some .int), 12, k221)
/-- BeggarBridgeModel.day()I -/
def k222_0 : List (Nat × Instr × Nat) := [(0, .aload_n 0, 1), (1, .invokevirtual 274, 3), (4, .aload_n 0, 1), (5, .invokevirtual 285, 3), (8, .istore_n 1, 1), (9, .aload_n 0, 1), (10, .invokevirtual 271, 3), (13, .iconst 0, 1), (14, .istore_n 2, 1), (15, .iload_n 2, 1), (16, .aload_n 0, 1), (17, .getfield 111, 3), (20, .if_icmp .ge 24, 3), (23, .aload_n 0, 1), (24, .getfield 9, 3), (27, .bipush 8, 2), (29, .iload_n 2, 1), (30, .iadd, 1), (31, .aload_n 0, 1), (32, .getfield 55, 3), (35, .iload_n 2, 1), (36, .iaload, 1), (37, .iastore, 1), (38, .iinc 2 1, 3), (41, .goto (-26), 3), (44, .iconst 0, 1), (45, .istore_n 2, 1), (46, .iload_n 2, 1), (47, .aload_n 0, 1), (48, .getfield 118, 3), (51, .if_icmp .ge 24, 3), (54, .aload_n 0, 1), (55, .getfield 9, 3), (58, .bipush 24, 2), (60, .iload_n 2, 1), (61, .iadd, 1), (62, .aload_n 0, 1), (63, .getfield 58, 3), (66, .iload_n 2, 1), (67, .iaload, 1), (68, .iastore, 1), (69, .iinc 2 1, 3), (72, .goto (-26), 3), (75, .aload_n 0, 1), (76, .getfield 9, 3), (79, .bipush 61, 2), (81, .aload_n 0, 1), (82, .getfield 249, 3), (85, .iastore, 1), (86, .aload_n 0, 1), (87, .getfield 76, 3), (90, .iconst 0, 1), (91, .dup2, 1), (92, .iaload, 1), (93, .iconst 1, 1), (94, .iadd, 1), (95, .iastore, 1), (96, .aload_n 0, 1), (97, .getfield 76, 3), (100, .iconst 4, 1)]
theorem dk222_0 : ∀ r ∈ k222_0, decode prog_14_method_76_code r.1 = .ok r.2 := by decide +kernel
def k222_1 : List (Nat × Instr × Nat) := [(101, .dup2, 1), (102, .iaload, 1), (103, .iload_n 1, 1), (104, .aload_n 0, 1), (105, .invokevirtual 285, 3), (108, .iconst (-1), 1), (109, .ixor, 1), (110, .iand, 1), (111, .invokestatic 299, 3), (114, .iadd, 1), (115, .iastore, 1), (116, .aload_n 0, 1), (117, .invokevirtual 285, 3), (120, .invokestatic 299, 3), (123, .ireturn, 1)]
theorem dk222_1 : ∀ r ∈ k222_1, decode prog_14_method_76_code r.1 = .ok r.2 := by decide +kernel
def k222 : List (Nat × Instr × Nat) := k222_0 ++ (k222_1)
theorem dk222 : ∀ r ∈ k222, decode prog_14_method_76_code r.1 = .ok r.2 := List.forall_mem_append.mpr ⟨dk222_0, dk222_1⟩
def me222 : MethodName × ByteArray × Nat × Option FieldType × Nat × List (Nat × Instr × Nat) := (⟨"BeggarBridgeModel", "day", "()I"⟩, prog_14_method_76_code, 3, (some .int), 12, k222)
/-- BeggarBridgeModel.sits(II)I -/
def k223 : List (Nat × Instr × Nat) := [(0, .aload_n 0, 1), (1, .iload_n 1, 1), (2, .i2l, 1), (3, .invokevirtual 160, 3), (6, .ifCond .eq 12, 3), (9, .aload_n 0, 1), (10, .iload_n 2, 1), (11, .i2l, 1), (12, .invokevirtual 140, 3), (15, .ifCond .ne 6, 3), (18, .ldc 176, 2), (20, .ireturn, 1), (21, .aload_n 0, 1), (22, .getfield 9, 3), (25, .bipush 51, 2), (27, .iload_n 1, 1), (28, .iadd, 1), (29, .iaload, 1), (30, .istore_n 3, 1), (31, .aload_n 0, 1), (32, .getfield 9, 3), (35, .bipush 51, 2), (37, .iload_n 1, 1), (38, .iadd, 1), (39, .iload_n 2, 1), (40, .iastore, 1), (41, .aload_n 0, 1), (42, .getfield 76, 3), (45, .iconst 1, 1), (46, .dup2, 1), (47, .iaload, 1), (48, .iconst 1, 1), (49, .iadd, 1), (50, .iastore, 1), (51, .iload_n 3, 1), (52, .ireturn, 1)]
theorem dk223 : ∀ r ∈ k223, decode prog_14_method_77_code r.1 = .ok r.2 := by decide +kernel
def me223 : MethodName × ByteArray × Nat × Option FieldType × Nat × List (Nat × Instr × Nat) := (⟨"BeggarBridgeModel", "sits", "(II)I"⟩, prog_14_method_77_code, 4, (some .int), 12, k223)
/-- BeggarBridgeModel.given(II)I -/
def k224 : List (Nat × Instr × Nat) := [(0, .aload_n 0, 1), (1, .iload_n 1, 1), (2, .i2l, 1), (3, .invokevirtual 160, 3), (6, .ifCond .eq 15, 3), (9, .iload_n 2, 1), (10, .i2l, 1), (11, .lconst 1, 1), (12, .ldc2_w 138, 3), (15, .invokestatic 114, 3), (18, .ifCond .ne 5, 3), (21, .iconst (-1), 1), (22, .ireturn, 1), (23, .aload_n 0, 1), (24, .getfield 9, 3), (27, .bipush 24, 2), (29, .iload_n 1, 1), (30, .iadd, 1), (31, .aload_n 0, 1), (32, .getfield 9, 3), (35, .bipush 24, 2), (37, .iload_n 1, 1), (38, .iadd, 1), (39, .iaload, 1), (40, .iload_n 2, 1), (41, .iadd, 1), (42, .invokestatic 268, 3), (45, .iastore, 1), (46, .aload_n 0, 1), (47, .getfield 76, 3), (50, .iconst 2, 1), (51, .dup2, 1), (52, .iaload, 1), (53, .iload_n 2, 1), (54, .iadd, 1), (55, .iastore, 1), (56, .aload_n 0, 1), (57, .getfield 9, 3), (60, .bipush 24, 2), (62, .iload_n 1, 1), (63, .iadd, 1), (64, .iaload, 1), (65, .ireturn, 1)]
theorem dk224 : ∀ r ∈ k224, decode prog_14_method_78_code r.1 = .ok r.2 := by decide +kernel
def me224 : MethodName × ByteArray × Nat × Option FieldType × Nat × List (Nat × Instr × Nat) := (⟨"BeggarBridgeModel", "given", "(II)I"⟩, prog_14_method_78_code, 3, (some .int), 12, k224)
/-- BeggarBridgeModel.repair(II)I -/
def k225 : List (Nat × Instr × Nat) := [(0, .aload_n 0, 1), (1, .iload_n 1, 1), (2, .i2l, 1), (3, .invokevirtual 129, 3), (6, .ifCond .eq 15, 3), (9, .iload_n 2, 1), (10, .i2l, 1), (11, .lconst 1, 1), (12, .ldc2_w 138, 3), (15, .invokestatic 114, 3), (18, .ifCond .ne 5, 3), (21, .iconst (-1), 1), (22, .ireturn, 1), (23, .aload_n 0, 1), (24, .getfield 9, 3), (27, .bipush 8, 2), (29, .iload_n 1, 1), (30, .iadd, 1), (31, .aload_n 0, 1), (32, .getfield 9, 3), (35, .bipush 8, 2), (37, .iload_n 1, 1), (38, .iadd, 1), (39, .iaload, 1), (40, .iload_n 2, 1), (41, .iadd, 1), (42, .invokestatic 268, 3), (45, .iastore, 1), (46, .aload_n 0, 1), (47, .getfield 76, 3), (50, .iconst 3, 1), (51, .dup2, 1), (52, .iaload, 1), (53, .iload_n 2, 1), (54, .iadd, 1), (55, .iastore, 1), (56, .aload_n 0, 1), (57, .getfield 9, 3), (60, .bipush 8, 2), (62, .iload_n 1, 1), (63, .iadd, 1), (64, .iaload, 1), (65, .ireturn, 1)]
theorem dk225 : ∀ r ∈ k225, decode prog_14_method_79_code r.1 = .ok r.2 := by decide +kernel
def me225 : MethodName × ByteArray × Nat × Option FieldType × Nat × List (Nat × Instr × Nat) := (⟨"BeggarBridgeModel", "repair", "(II)I"⟩, prog_14_method_79_code, 3, (some .int), 12, k225)
/-- BeggarBridgeModel.led(I)I -/
def k226 : List (Nat × Instr × Nat) := [(0, .iload_n 1, 1), (1, .i2l, 1), (2, .lconst 0, 1), (3, .ldc2_w 335, 3), (6, .invokestatic 114, 3), (9, .ifCond .eq 12, 3), (12, .aload_n 0, 1), (13, .getfield 76, 3), (16, .iload_n 1, 1), (17, .iaload, 1), (18, .goto 4, 3), (21, .iconst (-1), 1), (22, .ireturn, 1)]
theorem dk226 : ∀ r ∈ k226, decode prog_14_method_80_code r.1 = .ok r.2 := by decide +kernel
def me226 : MethodName × ByteArray × Nat × Option FieldType × Nat × List (Nat × Instr × Nat) := (⟨"BeggarBridgeModel", "led", "(I)I"⟩, prog_14_method_80_code, 2, (some .int), 12, k226)
/-- BeggarBridgeModel.image()I -/
def k227 : List (Nat × Instr × Nat) := [(0, .aload_n 0, 1), (1, .iconst 1, 1), (2, .putfield 337, 3), (5, .aload_n 0, 1), (6, .aload_n 0, 1), (7, .getfield 111, 3), (10, .putfield 341, 3), (13, .aload_n 0, 1), (14, .aload_n 0, 1), (15, .getfield 118, 3), (18, .putfield 344, 3), (21, .iconst 0, 1), (22, .istore_n 1, 1), (23, .iload_n 1, 1), (24, .bipush 61, 2), (26, .if_icmp .gt 21, 3), (29, .aload_n 0, 1), (30, .getfield 79, 3), (33, .iload_n 1, 1), (34, .aload_n 0, 1), (35, .getfield 9, 3), (38, .iload_n 1, 1), (39, .iaload, 1), (40, .iastore, 1), (41, .iinc 1 1, 3), (44, .goto (-21), 3), (47, .iconst 0, 1), (48, .istore_n 1, 1), (49, .iload_n 1, 1), (50, .iconst 5, 1), (51, .if_icmp .ge 21, 3), (54, .aload_n 0, 1), (55, .getfield 82, 3), (58, .iload_n 1, 1), (59, .aload_n 0, 1), (60, .getfield 76, 3), (63, .iload_n 1, 1), (64, .iaload, 1), (65, .iastore, 1), (66, .iinc 1 1, 3), (69, .goto (-20), 3), (72, .aload_n 0, 1), (73, .getfield 76, 3), (76, .iconst 0, 1), (77, .iaload, 1), (78, .ireturn, 1)]
theorem dk227 : ∀ r ∈ k227, decode prog_14_method_81_code r.1 = .ok r.2 := by decide +kernel
def me227 : MethodName × ByteArray × Nat × Option FieldType × Nat × List (Nat × Instr × Nat) := (⟨"BeggarBridgeModel", "image", "()I"⟩, prog_14_method_81_code, 2, (some .int), 12, k227)
/-- BeggarBridgeModel.back()I -/
def k228_0 : List (Nat × Instr × Nat) := [(0, .aload_n 0, 1), (1, .getfield 337, 3), (4, .ifCond .ne 6, 3), (7, .bipush (-5), 2), (9, .ireturn, 1), (10, .iconst 0, 1), (11, .istore_n 1, 1), (12, .iload_n 1, 1), (13, .aload_n 0, 1), (14, .getfield 341, 3), (17, .if_icmp .ge 27, 3), (20, .aload_n 0, 1), (21, .getfield 9, 3), (24, .bipush 8, 2), (26, .iload_n 1, 1), (27, .iadd, 1), (28, .aload_n 0, 1), (29, .getfield 79, 3), (32, .bipush 8, 2), (34, .iload_n 1, 1), (35, .iadd, 1), (36, .iaload, 1), (37, .iastore, 1), (38, .iinc 1 1, 3), (41, .goto (-29), 3), (44, .iconst 0, 1), (45, .istore_n 1, 1), (46, .iload_n 1, 1), (47, .aload_n 0, 1), (48, .getfield 344, 3), (51, .if_icmp .ge 45, 3), (54, .aload_n 0, 1), (55, .getfield 9, 3), (58, .bipush 24, 2), (60, .iload_n 1, 1), (61, .iadd, 1), (62, .aload_n 0, 1), (63, .getfield 79, 3), (66, .bipush 24, 2), (68, .iload_n 1, 1), (69, .iadd, 1), (70, .iaload, 1), (71, .iastore, 1), (72, .aload_n 0, 1), (73, .getfield 9, 3), (76, .bipush 51, 2), (78, .iload_n 1, 1), (79, .iadd, 1), (80, .aload_n 0, 1), (81, .getfield 79, 3), (84, .bipush 51, 2), (86, .iload_n 1, 1), (87, .iadd, 1), (88, .iaload, 1), (89, .iastore, 1), (90, .iinc 1 1, 3), (93, .goto (-47), 3), (96, .aload_n 0, 1), (97, .getfield 9, 3), (100, .bipush 61, 2)]
theorem dk228_0 : ∀ r ∈ k228_0, decode prog_14_method_82_code r.1 = .ok r.2 := by decide +kernel
def k228_1 : List (Nat × Instr × Nat) := [(102, .aload_n 0, 1), (103, .getfield 79, 3), (106, .bipush 61, 2), (108, .iaload, 1), (109, .iastore, 1), (110, .iconst 0, 1), (111, .istore_n 1, 1), (112, .iload_n 1, 1), (113, .iconst 5, 1), (114, .if_icmp .ge 21, 3), (117, .aload_n 0, 1), (118, .getfield 76, 3), (121, .iload_n 1, 1), (122, .aload_n 0, 1), (123, .getfield 82, 3), (126, .iload_n 1, 1), (127, .iaload, 1), (128, .iastore, 1), (129, .iinc 1 1, 3), (132, .goto (-20), 3), (135, .aload_n 0, 1), (136, .getfield 76, 3), (139, .iconst 0, 1), (140, .iaload, 1), (141, .ireturn, 1)]
theorem dk228_1 : ∀ r ∈ k228_1, decode prog_14_method_82_code r.1 = .ok r.2 := by decide +kernel
def k228 : List (Nat × Instr × Nat) := k228_0 ++ (k228_1)
theorem dk228 : ∀ r ∈ k228, decode prog_14_method_82_code r.1 = .ok r.2 := List.forall_mem_append.mpr ⟨dk228_0, dk228_1⟩
def me228 : MethodName × ByteArray × Nat × Option FieldType × Nat × List (Nat × Instr × Nat) := (⟨"BeggarBridgeModel", "back", "()I"⟩, prog_14_method_82_code, 2, (some .int), 12, k228)
/-- BeggarBridgeModel.isBody(I)Z -/
def k229 : List (Nat × Instr × Nat) := [(0, .iload_n 1, 1), (1, .i2l, 1), (2, .lconst 0, 1), (3, .aload_n 0, 1), (4, .getfield 347, 3), (7, .iconst 1, 1), (8, .isub, 1), (9, .i2l, 1), (10, .invokestatic 114, 3), (13, .ireturn, 1)]
theorem dk229 : ∀ r ∈ k229, decode prog_14_method_83_code r.1 = .ok r.2 := by decide +kernel
def me229 : MethodName × ByteArray × Nat × Option FieldType × Nat × List (Nat × Instr × Nat) := (⟨"BeggarBridgeModel", "isBody", "(I)Z"⟩, prog_14_method_83_code, 2, (some .boolean), 12, k229)
/-- BeggarBridgeModel.kindOf(I)I -/
def k230 : List (Nat × Instr × Nat) := [(0, .aload_n 0, 1), (1, .getfield 85, 3), (4, .iload_n 1, 1), (5, .iaload, 1), (6, .ireturn, 1)]
theorem dk230 : ∀ r ∈ k230, decode prog_14_method_84_code r.1 = .ok r.2 := by decide +kernel
def me230 : MethodName × ByteArray × Nat × Option FieldType × Nat × List (Nat × Instr × Nat) := (⟨"BeggarBridgeModel", "kindOf", "(I)I"⟩, prog_14_method_84_code, 2, (some .int), 12, k230)
/-- BeggarBridgeModel.body(I)I -/
def k231 : List (Nat × Instr × Nat) := [(0, .iload_n 1, 1), (1, .i2l, 1), (2, .lconst 0, 1), (3, .ldc2_w 121, 3), (6, .invokestatic 114, 3), (9, .ifCond .ne 5, 3), (12, .iconst (-1), 1), (13, .ireturn, 1), (14, .aload_n 0, 1), (15, .getfield 347, 3), (18, .bipush 50, 2), (20, .if_icmp .ne 6, 3), (23, .bipush (-3), 2), (25, .ireturn, 1), (26, .aload_n 0, 1), (27, .getfield 85, 3), (30, .aload_n 0, 1), (31, .getfield 347, 3), (34, .iload_n 1, 1), (35, .iastore, 1), (36, .aload_n 0, 1), (37, .dup, 1), (38, .getfield 347, 3), (41, .iconst 1, 1), (42, .iadd, 1), (43, .putfield 347, 3), (46, .aload_n 0, 1), (47, .getfield 347, 3), (50, .iconst 1, 1), (51, .isub, 1), (52, .ireturn, 1)]
theorem dk231 : ∀ r ∈ k231, decode prog_14_method_85_code r.1 = .ok r.2 := by decide +kernel
def me231 : MethodName × ByteArray × Nat × Option FieldType × Nat × List (Nat × Instr × Nat) := (⟨"BeggarBridgeModel", "body", "(I)I"⟩, prog_14_method_85_code, 2, (some .int), 12, k231)
/-- BeggarBridgeModel.above(I)I -/
def k232 : List (Nat × Instr × Nat) := [(0, .iload_n 0, 1), (1, .iconst 3, 1), (2, .if_icmp .ne 7, 3), (5, .iconst 2, 1), (6, .goto 32, 3), (9, .iload_n 0, 1), (10, .iconst 4, 1), (11, .if_icmp .ne 7, 3), (14, .iconst 1, 1), (15, .goto 23, 3), (18, .iload_n 0, 1), (19, .iconst 5, 1), (20, .if_icmp .ne 7, 3), (23, .iconst 3, 1), (24, .goto 14, 3), (27, .iload_n 0, 1), (28, .bipush 7, 2), (30, .if_icmp .ne 7, 3), (33, .iconst 4, 1), (34, .goto 4, 3), (37, .iconst 0, 1), (38, .ireturn, 1)]
theorem dk232 : ∀ r ∈ k232, decode prog_14_method_86_code r.1 = .ok r.2 := by decide +kernel
def me232 : MethodName × ByteArray × Nat × Option FieldType × Nat × List (Nat × Instr × Nat) := (⟨"BeggarBridgeModel", "above", "(I)I"⟩, prog_14_method_86_code, 1, (some .int), 12, k232)
/-- BeggarBridgeModel.runs(I)V -/
def k233 : List (Nat × Instr × Nat) := [(0, .aload_n 0, 1), (1, .getfield 350, 3), (4, .bipush 24, 2), (6, .if_icmp .ge 13, 3), (9, .aload_n 0, 1), (10, .getfield 88, 3), (13, .aload_n 0, 1), (14, .getfield 350, 3), (17, .iload_n 1, 1), (18, .iastore, 1), (19, .aload_n 0, 1), (20, .dup, 1), (21, .getfield 350, 3), (24, .iconst 1, 1), (25, .iadd, 1), (26, .putfield 350, 3), (29, .return_, 1)]
theorem dk233 : ∀ r ∈ k233, decode prog_14_method_87_code r.1 = .ok r.2 := by decide +kernel
def me233 : MethodName × ByteArray × Nat × Option FieldType × Nat × List (Nat × Instr × Nat) := (⟨"BeggarBridgeModel", "runs", "(I)V"⟩, prog_14_method_87_code, 2, none, 12, k233)
/-- BeggarBridgeModel.standsAs(II)I -/
def k234 : List (Nat × Instr × Nat) := [(0, .iload_n 1, 1), (1, .iconst 1, 1), (2, .if_icmp .eq 14, 3), (5, .iload_n 1, 1), (6, .iconst 4, 1), (7, .if_icmp .eq 9, 3), (10, .iload_n 1, 1), (11, .bipush 7, 2), (13, .if_icmp .ne 18, 3), (16, .aload_n 0, 1), (17, .bipush 20, 2), (19, .invokevirtual 353, 3), (22, .aload_n 0, 1), (23, .iconst 0, 1), (24, .iload_n 2, 1), (25, .invokevirtual 356, 3), (28, .iconst 3, 1), (29, .iadd, 1), (30, .ireturn, 1), (31, .iload_n 1, 1), (32, .bipush 6, 2), (34, .if_icmp .ne 18, 3), (37, .aload_n 0, 1), (38, .bipush 70, 2), (40, .invokevirtual 353, 3), (43, .aload_n 0, 1), (44, .iconst 0, 1), (45, .iload_n 2, 1), (46, .invokevirtual 356, 3), (49, .iconst 2, 1), (50, .imul, 1), (51, .ireturn, 1), (52, .aload_n 0, 1), (53, .iconst 1, 1), (54, .invokevirtual 353, 3), (57, .iload_n 2, 1), (58, .aload_n 0, 1), (59, .getfield 359, 3), (62, .iadd, 1), (63, .ireturn, 1)]
theorem dk234 : ∀ r ∈ k234, decode prog_14_method_88_code r.1 = .ok r.2 := by decide +kernel
def me234 : MethodName × ByteArray × Nat × Option FieldType × Nat × List (Nat × Instr × Nat) := (⟨"BeggarBridgeModel", "standsAs", "(II)I"⟩, prog_14_method_88_code, 3, (some .int), 12, k234)
/-- BeggarBridgeModel.asksAs(II)I -/
def k235 : List (Nat × Instr × Nat) := [(0, .iload_n 1, 1), (1, .iconst 3, 1), (2, .if_icmp .eq 8, 3), (5, .iload_n 1, 1), (6, .iconst 5, 1), (7, .if_icmp .ne 18, 3), (10, .aload_n 0, 1), (11, .bipush 41, 2), (13, .invokevirtual 353, 3), (16, .aload_n 0, 1), (17, .iconst 2, 1), (18, .iload_n 2, 1), (19, .iconst 1, 1), (20, .iadd, 1), (21, .invokevirtual 362, 3), (24, .ireturn, 1), (25, .iload_n 1, 1), (26, .iconst 2, 1), (27, .if_icmp .ne 17, 3), (30, .aload_n 0, 1), (31, .bipush 30, 2), (33, .invokevirtual 353, 3), (36, .aload_n 0, 1), (37, .iconst 0, 1), (38, .iload_n 2, 1), (39, .invokevirtual 362, 3), (42, .ineg, 1), (43, .ireturn, 1), (44, .iload_n 1, 1), (45, .bipush 7, 2), (47, .if_icmp .ne 28, 3), (50, .aload_n 0, 1), (51, .bipush 80, 2), (53, .invokevirtual 353, 3), (56, .aload_n 0, 1), (57, .iconst 4, 1), (58, .iload_n 2, 1), (59, .invokevirtual 362, 3), (62, .istore_n 3, 1), (63, .iload_n 3, 1), (64, .aload_n 0, 1), (65, .aload_n 0, 1), (66, .getfield 365, 3), (69, .iconst 2, 1), (70, .invokevirtual 368, 3), (73, .iadd, 1), (74, .ireturn, 1), (75, .aload_n 0, 1), (76, .bipush 10, 2), (78, .invokevirtual 353, 3), (81, .aload_n 0, 1), (82, .aload_n 0, 1), (83, .getfield 365, 3), (86, .iload_n 2, 1), (87, .invokevirtual 356, 3), (90, .iconst 2, 1), (91, .imul, 1), (92, .ireturn, 1)]
theorem dk235 : ∀ r ∈ k235, decode prog_14_method_89_code r.1 = .ok r.2 := by decide +kernel
def me235 : MethodName × ByteArray × Nat × Option FieldType × Nat × List (Nat × Instr × Nat) := (⟨"BeggarBridgeModel", "asksAs", "(II)I"⟩, prog_14_method_89_code, 4, (some .int), 12, k235)
/-- BeggarBridgeModel.cracksAs(II)I -/
def k236 : List (Nat × Instr × Nat) := [(0, .iload_n 1, 1), (1, .iconst 3, 1), (2, .if_icmp .eq 8, 3), (5, .iload_n 1, 1), (6, .iconst 5, 1), (7, .if_icmp .ne 18, 3), (10, .aload_n 0, 1), (11, .bipush 40, 2), (13, .invokevirtual 353, 3), (16, .aload_n 0, 1), (17, .iconst 2, 1), (18, .iload_n 2, 1), (19, .invokevirtual 368, 3), (22, .iconst 3, 1), (23, .imul, 1), (24, .ireturn, 1), (25, .iload_n 1, 1), (26, .iconst 4, 1), (27, .if_icmp .eq 9, 3), (30, .iload_n 1, 1), (31, .bipush 7, 2), (33, .if_icmp .ne 28, 3), (36, .aload_n 0, 1), (37, .bipush 50, 2), (39, .invokevirtual 353, 3), (42, .aload_n 0, 1), (43, .iconst 1, 1), (44, .iload_n 2, 1), (45, .invokevirtual 368, 3), (48, .istore_n 3, 1), (49, .iload_n 3, 1), (50, .aload_n 0, 1), (51, .aload_n 0, 1), (52, .getfield 365, 3), (55, .iconst 2, 1), (56, .invokevirtual 356, 3), (59, .isub, 1), (60, .ireturn, 1), (61, .aload_n 0, 1), (62, .bipush 11, 2), (64, .invokevirtual 353, 3), (67, .iload_n 2, 1), (68, .aload_n 0, 1), (69, .getfield 359, 3), (72, .ixor, 1), (73, .ireturn, 1)]
theorem dk236 : ∀ r ∈ k236, decode prog_14_method_90_code r.1 = .ok r.2 := by decide +kernel
def me236 : MethodName × ByteArray × Nat × Option FieldType × Nat × List (Nat × Instr × Nat) := (⟨"BeggarBridgeModel", "cracksAs", "(II)I"⟩, prog_14_method_90_code, 4, (some .int), 12, k236)
/-- BeggarBridgeModel.tellsAs(II)I -/
def k237 : List (Nat × Instr × Nat) := [(0, .iload_n 1, 1), (1, .iconst 5, 1), (2, .if_icmp .ne 18, 3), (5, .aload_n 0, 1), (6, .bipush 60, 2), (8, .invokevirtual 353, 3), (11, .aload_n 0, 1), (12, .iconst 3, 1), (13, .iload_n 2, 1), (14, .invokevirtual 371, 3), (17, .iconst 5, 1), (18, .ixor, 1), (19, .ireturn, 1), (20, .iload_n 1, 1), (21, .bipush 7, 2), (23, .if_icmp .ne 18, 3), (26, .aload_n 0, 1), (27, .bipush 81, 2), (29, .invokevirtual 353, 3), (32, .aload_n 0, 1), (33, .iconst 4, 1), (34, .iload_n 2, 1), (35, .invokevirtual 371, 3), (38, .iconst 1, 1), (39, .isub, 1), (40, .ireturn, 1), (41, .aload_n 0, 1), (42, .iconst 2, 1), (43, .invokevirtual 353, 3), (46, .aload_n 0, 1), (47, .aload_n 0, 1), (48, .getfield 365, 3), (51, .iload_n 2, 1), (52, .invokevirtual 362, 3), (55, .istore_n 3, 1), (56, .iload_n 3, 1), (57, .aload_n 0, 1), (58, .aload_n 0, 1), (59, .getfield 365, 3), (62, .iconst 1, 1), (63, .invokevirtual 368, 3), (66, .isub, 1), (67, .ireturn, 1)]
theorem dk237 : ∀ r ∈ k237, decode prog_14_method_91_code r.1 = .ok r.2 := by decide +kernel
def me237 : MethodName × ByteArray × Nat × Option FieldType × Nat × List (Nat × Instr × Nat) := (⟨"BeggarBridgeModel", "tellsAs", "(II)I"⟩, prog_14_method_91_code, 4, (some .int), 12, k237)
/-- BeggarBridgeModel.act(III)I -/
def k238 : List (Nat × Instr × Nat) := [(0, .aload_n 0, 1), (1, .iconst 0, 1), (2, .putfield 350, 3), (5, .aload_n 0, 1), (6, .iload_n 1, 1), (7, .invokevirtual 374, 3), (10, .ifCond .ne 5, 3), (13, .iconst 0, 1), (14, .ireturn, 1), (15, .aload_n 0, 1), (16, .aload_n 0, 1), (17, .getfield 85, 3), (20, .iload_n 1, 1), (21, .iaload, 1), (22, .putfield 365, 3), (25, .aload_n 0, 1), (26, .iload_n 1, 1), (27, .putfield 359, 3), (30, .iload_n 2, 1), (31, .tableswitch 69 0 3 #[29, 39, 49, 59], 29), (60, .aload_n 0, 1), (61, .aload_n 0, 1), (62, .getfield 365, 3), (65, .iload_n 3, 1), (66, .invokevirtual 356, 3), (69, .ireturn, 1), (70, .aload_n 0, 1), (71, .aload_n 0, 1), (72, .getfield 365, 3), (75, .iload_n 3, 1), (76, .invokevirtual 362, 3), (79, .ireturn, 1), (80, .aload_n 0, 1), (81, .aload_n 0, 1), (82, .getfield 365, 3), (85, .iload_n 3, 1), (86, .invokevirtual 368, 3), (89, .ireturn, 1), (90, .aload_n 0, 1), (91, .aload_n 0, 1), (92, .getfield 365, 3), (95, .iload_n 3, 1), (96, .invokevirtual 371, 3), (99, .ireturn, 1), (100, .iconst 0, 1), (101, .ireturn, 1)]
theorem dk238 : ∀ r ∈ k238, decode prog_14_method_92_code r.1 = .ok r.2 := by decide +kernel
def me238 : MethodName × ByteArray × Nat × Option FieldType × Nat × List (Nat × Instr × Nat) := (⟨"BeggarBridgeModel", "act", "(III)I"⟩, prog_14_method_92_code, 4, (some .int), 12, k238)
/-- BeggarBridgeModel.trace(I)I -/
def k239 : List (Nat × Instr × Nat) := [(0, .iload_n 1, 1), (1, .ifCond .lt 26, 3), (4, .iload_n 1, 1), (5, .aload_n 0, 1), (6, .getfield 350, 3), (9, .if_icmp .ge 18, 3), (12, .iload_n 1, 1), (13, .bipush 24, 2), (15, .if_icmp .ge 12, 3), (18, .aload_n 0, 1), (19, .getfield 88, 3), (22, .iload_n 1, 1), (23, .iaload, 1), (24, .goto 4, 3), (27, .iconst (-1), 1), (28, .ireturn, 1)]
theorem dk239 : ∀ r ∈ k239, decode prog_14_method_93_code r.1 = .ok r.2 := by decide +kernel
def me239 : MethodName × ByteArray × Nat × Option FieldType × Nat × List (Nat × Instr × Nat) := (⟨"BeggarBridgeModel", "trace", "(I)I"⟩, prog_14_method_93_code, 2, (some .int), 12, k239)
/-- BeggarBridgeModel.isShelf(I)Z -/
def k240 : List (Nat × Instr × Nat) := [(0, .iload_n 0, 1), (1, .i2l, 1), (2, .lconst 0, 1), (3, .ldc2_w 377, 3), (6, .invokestatic 114, 3), (9, .ireturn, 1)]
theorem dk240 : ∀ r ∈ k240, decode prog_14_method_94_code r.1 = .ok r.2 := by decide +kernel
def me240 : MethodName × ByteArray × Nat × Option FieldType × Nat × List (Nat × Instr × Nat) := (⟨"BeggarBridgeModel", "isShelf", "(I)Z"⟩, prog_14_method_94_code, 1, (some .boolean), 12, k240)
/-- BeggarBridgeModel.keep(II)I -/
def k241 : List (Nat × Instr × Nat) := [(0, .iload_n 1, 1), (1, .invokestatic 151, 3), (4, .ifCond .eq 16, 3), (7, .iload_n 2, 1), (8, .iconst (-1), 1), (9, .if_icmp .eq 13, 3), (12, .aload_n 0, 1), (13, .iload_n 2, 1), (14, .invokevirtual 374, 3), (17, .ifCond .ne 5, 3), (20, .iconst (-1), 1), (21, .ireturn, 1), (22, .aload_n 0, 1), (23, .getfield 91, 3), (26, .iload_n 1, 1), (27, .iload_n 2, 1), (28, .iastore, 1), (29, .aload_n 0, 1), (30, .getfield 94, 3), (33, .iload_n 1, 1), (34, .iconst 0, 1), (35, .iastore, 1), (36, .iconst 1, 1), (37, .ireturn, 1)]
theorem dk241 : ∀ r ∈ k241, decode prog_14_method_95_code r.1 = .ok r.2 := by decide +kernel
def me241 : MethodName × ByteArray × Nat × Option FieldType × Nat × List (Nat × Instr × Nat) := (⟨"BeggarBridgeModel", "keep", "(II)I"⟩, prog_14_method_95_code, 3, (some .int), 12, k241)
/-- BeggarBridgeModel.row(III)I -/
def k242 : List (Nat × Instr × Nat) := [(0, .iload_n 1, 1), (1, .invokestatic 151, 3), (4, .ifCond .eq 21, 3), (7, .iload_n 2, 1), (8, .i2l, 1), (9, .lconst 0, 1), (10, .ldc2_w 335, 3), (13, .invokestatic 114, 3), (16, .ifCond .eq 9, 3), (19, .iload_n 3, 1), (20, .bipush 60, 2), (22, .if_icmp .le 5, 3), (25, .iconst (-1), 1), (26, .ireturn, 1), (27, .iload_n 3, 1), (28, .ifCond .ge 6, 3), (31, .bipush (-14), 2), (33, .ireturn, 1), (34, .aload_n 0, 1), (35, .getfield 91, 3), (38, .iload_n 1, 1), (39, .bipush 50, 2), (41, .iload_n 2, 1), (42, .iadd, 1), (43, .iastore, 1), (44, .aload_n 0, 1), (45, .getfield 94, 3), (48, .iload_n 1, 1), (49, .iload_n 3, 1), (50, .iastore, 1), (51, .bipush 60, 2), (53, .iload_n 1, 1), (54, .imul, 1), (55, .istore 4, 2), (57, .iload 4, 2), (59, .bipush 60, 2), (61, .iload_n 1, 1), (62, .imul, 1), (63, .bipush 60, 2), (65, .iadd, 1), (66, .if_icmp .ge 17, 3), (69, .aload_n 0, 1), (70, .getfield 97, 3), (73, .iload 4, 2), (75, .lconst 0, 1), (76, .lastore, 1), (77, .iinc 4 1, 3), (80, .goto (-23), 3), (83, .iconst 1, 1), (84, .ireturn, 1)]
theorem dk242 : ∀ r ∈ k242, decode prog_14_method_96_code r.1 = .ok r.2 := by decide +kernel
def me242 : MethodName × ByteArray × Nat × Option FieldType × Nat × List (Nat × Instr × Nat) := (⟨"BeggarBridgeModel", "row", "(III)I"⟩, prog_14_method_96_code, 5, (some .int), 12, k242)
/-- BeggarBridgeModel.refusal(II)I -/
def k243 : List (Nat × Instr × Nat) := [(0, .iload_n 1, 1), (1, .invokestatic 151, 3), (4, .ifCond .ne 5, 3), (7, .iconst (-1), 1), (8, .ireturn, 1), (9, .aload_n 0, 1), (10, .getfield 91, 3), (13, .iload_n 1, 1), (14, .iaload, 1), (15, .ifCond .ge 6, 3), (18, .bipush (-11), 2), (20, .ireturn, 1), (21, .aload_n 0, 1), (22, .getfield 91, 3), (25, .iload_n 1, 1), (26, .iaload, 1), (27, .bipush 50, 2), (29, .if_icmp .ge 6, 3), (32, .bipush (-12), 2), (34, .ireturn, 1), (35, .iload_n 2, 1), (36, .ifCond .lt 17, 3), (39, .iload_n 2, 1), (40, .aload_n 0, 1), (41, .getfield 94, 3), (44, .iload_n 1, 1), (45, .iaload, 1), (46, .if_icmp .ge 7, 3), (49, .iconst 0, 1), (50, .goto 5, 3), (53, .bipush (-13), 2), (55, .ireturn, 1)]
theorem dk243 : ∀ r ∈ k243, decode prog_14_method_97_code r.1 = .ok r.2 := by decide +kernel
def me243 : MethodName × ByteArray × Nat × Option FieldType × Nat × List (Nat × Instr × Nat) := (⟨"BeggarBridgeModel", "refusal", "(II)I"⟩, prog_14_method_97_code, 3, (some .int), 12, k243)
/-- BeggarBridgeModel.asSort(IJ)J -/
def k244 : List (Nat × Instr × Nat) := [(0, .iload_n 0, 1), (1, .ifCond .ne 10, 3), (4, .lload_n 1, 1), (5, .l2i, 1), (6, .i2b, 1), (7, .i2l, 1), (8, .goto 46, 3), (11, .iload_n 0, 1), (12, .iconst 1, 1), (13, .if_icmp .ne 10, 3), (16, .lload_n 1, 1), (17, .l2i, 1), (18, .i2s, 1), (19, .i2l, 1), (20, .goto 34, 3), (23, .iload_n 0, 1), (24, .iconst 2, 1), (25, .if_icmp .ne 9, 3), (28, .lload_n 1, 1), (29, .l2i, 1), (30, .i2l, 1), (31, .goto 23, 3), (34, .iload_n 0, 1), (35, .iconst 4, 1), (36, .if_icmp .ne 17, 3), (39, .lload_n 1, 1), (40, .lconst 0, 1), (41, .lcmp, 1), (42, .ifCond .eq 7, 3), (45, .lconst 1, 1), (46, .goto 8, 3), (49, .lconst 0, 1), (50, .goto 4, 3), (53, .lload_n 1, 1), (54, .lreturn, 1)]
theorem dk244 : ∀ r ∈ k244, decode prog_14_method_98_code r.1 = .ok r.2 := by decide +kernel
def me244 : MethodName × ByteArray × Nat × Option FieldType × Nat × List (Nat × Instr × Nat) := (⟨"BeggarBridgeModel", "asSort", "(IJ)J"⟩, prog_14_method_98_code, 3, (some .long), 12, k244)
/-- BeggarBridgeModel.put(IIJ)I -/
def k245 : List (Nat × Instr × Nat) := [(0, .aload_n 0, 1), (1, .iload_n 1, 1), (2, .iload_n 2, 1), (3, .invokevirtual 379, 3), (6, .istore 5, 2), (8, .iload 5, 2), (10, .ifCond .ne 27, 3), (13, .aload_n 0, 1), (14, .getfield 97, 3), (17, .bipush 60, 2), (19, .iload_n 1, 1), (20, .imul, 1), (21, .iload_n 2, 1), (22, .iadd, 1), (23, .aload_n 0, 1), (24, .getfield 91, 3), (27, .iload_n 1, 1), (28, .iaload, 1), (29, .bipush 50, 2), (31, .isub, 1), (32, .lload_n 3, 1), (33, .invokestatic 382, 3), (36, .lastore, 1), (37, .iload 5, 2), (39, .ifCond .ne 7, 3), (42, .iconst 1, 1), (43, .goto 5, 3), (46, .iload 5, 2), (48, .ireturn, 1)]
theorem dk245 : ∀ r ∈ k245, decode prog_14_method_99_code r.1 = .ok r.2 := by decide +kernel
def me245 : MethodName × ByteArray × Nat × Option FieldType × Nat × List (Nat × Instr × Nat) := (⟨"BeggarBridgeModel", "put", "(IIJ)I"⟩, prog_14_method_99_code, 6, (some .int), 12, k245)
/-- BeggarBridgeModel.element(II)J -/
def k246 : List (Nat × Instr × Nat) := [(0, .aload_n 0, 1), (1, .iload_n 1, 1), (2, .iload_n 2, 1), (3, .invokevirtual 379, 3), (6, .ifCond .eq 9, 3), (9, .ldc2_w 388, 3), (12, .goto 14, 3), (15, .aload_n 0, 1), (16, .getfield 97, 3), (19, .bipush 60, 2), (21, .iload_n 1, 1), (22, .imul, 1), (23, .iload_n 2, 1), (24, .iadd, 1), (25, .laload, 1), (26, .lreturn, 1)]
theorem dk246 : ∀ r ∈ k246, decode prog_14_method_100_code r.1 = .ok r.2 := by decide +kernel
def me246 : MethodName × ByteArray × Nat × Option FieldType × Nat × List (Nat × Instr × Nat) := (⟨"BeggarBridgeModel", "element", "(II)J"⟩, prog_14_method_100_code, 3, (some .long), 12, k246)
/-- BeggarBridgeModel.shift(IIIII)I -/
def k247_0 : List (Nat × Instr × Nat) := [(0, .iload_n 1, 1), (1, .invokestatic 151, 3), (4, .ifCond .eq 10, 3), (7, .iload_n 3, 1), (8, .invokestatic 151, 3), (11, .ifCond .ne 5, 3), (14, .iconst (-1), 1), (15, .ireturn, 1), (16, .aload_n 0, 1), (17, .getfield 91, 3), (20, .iload_n 1, 1), (21, .iaload, 1), (22, .ifCond .lt 12, 3), (25, .aload_n 0, 1), (26, .getfield 91, 3), (29, .iload_n 3, 1), (30, .iaload, 1), (31, .ifCond .ge 6, 3), (34, .bipush (-11), 2), (36, .ireturn, 1), (37, .aload_n 0, 1), (38, .getfield 91, 3), (41, .iload_n 1, 1), (42, .iaload, 1), (43, .bipush 50, 2), (45, .if_icmp .lt 18, 3), (48, .aload_n 0, 1), (49, .getfield 91, 3), (52, .iload_n 1, 1), (53, .iaload, 1), (54, .aload_n 0, 1), (55, .getfield 91, 3), (58, .iload_n 3, 1), (59, .iaload, 1), (60, .if_icmp .eq 6, 3), (63, .bipush (-12), 2), (65, .ireturn, 1), (66, .iload 5, 2), (68, .ifCond .lt 39, 3), (71, .iload_n 2, 1), (72, .ifCond .lt 35, 3), (75, .iload 4, 2), (77, .ifCond .lt 30, 3), (80, .iload_n 2, 1), (81, .aload_n 0, 1), (82, .getfield 94, 3), (85, .iload_n 1, 1), (86, .iaload, 1), (87, .iload 5, 2), (89, .isub, 1), (90, .if_icmp .gt 17, 3), (93, .iload 4, 2), (95, .aload_n 0, 1), (96, .getfield 94, 3), (99, .iload_n 3, 1), (100, .iaload, 1), (101, .iload 5, 2), (103, .isub, 1), (104, .if_icmp .le 6, 3), (107, .bipush (-13), 2)]
theorem dk247_0 : ∀ r ∈ k247_0, decode prog_14_method_101_code r.1 = .ok r.2 := by decide +kernel
def k247_1 : List (Nat × Instr × Nat) := [(109, .ireturn, 1), (110, .iconst 0, 1), (111, .istore 6, 2), (113, .iload 6, 2), (115, .iload 5, 2), (117, .if_icmp .ge 30, 3), (120, .aload_n 0, 1), (121, .getfield 101, 3), (124, .iload 6, 2), (126, .aload_n 0, 1), (127, .getfield 97, 3), (130, .bipush 60, 2), (132, .iload_n 1, 1), (133, .imul, 1), (134, .iload_n 2, 1), (135, .iadd, 1), (136, .iload 6, 2), (138, .iadd, 1), (139, .laload, 1), (140, .lastore, 1), (141, .iinc 6 1, 3), (144, .goto (-31), 3), (147, .iconst 0, 1), (148, .istore 6, 2), (150, .iload 6, 2), (152, .iload 5, 2), (154, .if_icmp .ge 31, 3), (157, .aload_n 0, 1), (158, .getfield 97, 3), (161, .bipush 60, 2), (163, .iload_n 3, 1), (164, .imul, 1), (165, .iload 4, 2), (167, .iadd, 1), (168, .iload 6, 2), (170, .iadd, 1), (171, .aload_n 0, 1), (172, .getfield 101, 3), (175, .iload 6, 2), (177, .laload, 1), (178, .lastore, 1), (179, .iinc 6 1, 3), (182, .goto (-32), 3), (185, .iload 5, 2), (187, .ireturn, 1)]
theorem dk247_1 : ∀ r ∈ k247_1, decode prog_14_method_101_code r.1 = .ok r.2 := by decide +kernel
def k247 : List (Nat × Instr × Nat) := k247_0 ++ (k247_1)
theorem dk247 : ∀ r ∈ k247, decode prog_14_method_101_code r.1 = .ok r.2 := List.forall_mem_append.mpr ⟨dk247_0, dk247_1⟩
def me247 : MethodName × ByteArray × Nat × Option FieldType × Nat × List (Nat × Instr × Nat) := (⟨"BeggarBridgeModel", "shift", "(IIIII)I"⟩, prog_14_method_101_code, 7, (some .int), 12, k247)
/-- BeggarBridgeModel.taken(II)I -/
def k248 : List (Nat × Instr × Nat) := [(0, .iload_n 1, 1), (1, .invokestatic 151, 3), (4, .ifCond .eq 15, 3), (7, .iload_n 2, 1), (8, .i2l, 1), (9, .lconst 0, 1), (10, .ldc2_w 121, 3), (13, .invokestatic 114, 3), (16, .ifCond .ne 5, 3), (19, .iconst (-1), 1), (20, .ireturn, 1), (21, .aload_n 0, 1), (22, .getfield 91, 3), (25, .iload_n 1, 1), (26, .iaload, 1), (27, .ifCond .ge 6, 3), (30, .bipush (-11), 2), (32, .ireturn, 1), (33, .aload_n 0, 1), (34, .getfield 91, 3), (37, .iload_n 1, 1), (38, .iaload, 1), (39, .bipush 50, 2), (41, .if_icmp .lt 6, 3), (44, .bipush (-12), 2), (46, .ireturn, 1), (47, .aload_n 0, 1), (48, .aload_n 0, 1), (49, .getfield 91, 3), (52, .iload_n 1, 1), (53, .iaload, 1), (54, .invokevirtual 390, 3), (57, .istore_n 3, 1), (58, .iload_n 3, 1), (59, .iload_n 2, 1), (60, .if_icmp .eq 15, 3), (63, .iload_n 3, 1), (64, .ifCond .le 11, 3), (67, .iload_n 3, 1), (68, .invokestatic 393, 3), (71, .istore_n 3, 1), (72, .goto (-14), 3), (75, .iload_n 3, 1), (76, .iload_n 2, 1), (77, .if_icmp .ne 16, 3), (80, .aload_n 0, 1), (81, .aload_n 0, 1), (82, .getfield 91, 3), (85, .iload_n 1, 1), (86, .iaload, 1), (87, .invokevirtual 390, 3), (90, .goto 5, 3), (93, .bipush (-12), 2), (95, .ireturn, 1)]
theorem dk248 : ∀ r ∈ k248, decode prog_14_method_102_code r.1 = .ok r.2 := by decide +kernel
def me248 : MethodName × ByteArray × Nat × Option FieldType × Nat × List (Nat × Instr × Nat) := (⟨"BeggarBridgeModel", "taken", "(II)I"⟩, prog_14_method_102_code, 4, (some .int), 12, k248)
/-- BeggarBridgeModel.count(I)I -/
def k249 : List (Nat × Instr × Nat) := [(0, .iload_n 1, 1), (1, .tableswitch 69 0 5 #[39, 44, 49, 54, 59, 64], 39), (40, .aload_n 0, 1), (41, .getfield 111, 3), (44, .ireturn, 1), (45, .aload_n 0, 1), (46, .getfield 118, 3), (49, .ireturn, 1), (50, .aload_n 0, 1), (51, .getfield 179, 3), (54, .ireturn, 1), (55, .aload_n 0, 1), (56, .getfield 104, 3), (59, .ireturn, 1), (60, .aload_n 0, 1), (61, .getfield 347, 3), (64, .ireturn, 1), (65, .aload_n 0, 1), (66, .getfield 350, 3), (69, .ireturn, 1), (70, .iconst (-1), 1), (71, .ireturn, 1)]
theorem dk249 : ∀ r ∈ k249, decode prog_14_method_103_code r.1 = .ok r.2 := by decide +kernel
def me249 : MethodName × ByteArray × Nat × Option FieldType × Nat × List (Nat × Instr × Nat) := (⟨"BeggarBridgeModel", "count", "(I)I"⟩, prog_14_method_103_code, 2, (some .int), 12, k249)
/-- java/lang/Integer.bitCount(I)I -/
def k250 : List (Nat × Instr × Nat) := [(0, .iload_n 0, 1), (1, .iload_n 0, 1), (2, .iconst 1, 1), (3, .iushr, 1), (4, .ldc_w 265, 3), (7, .iand, 1), (8, .isub, 1), (9, .istore_n 0, 1), (10, .iload_n 0, 1), (11, .ldc_w 266, 3), (14, .iand, 1), (15, .iload_n 0, 1), (16, .iconst 2, 1), (17, .iushr, 1), (18, .ldc_w 266, 3), (21, .iand, 1), (22, .iadd, 1), (23, .istore_n 0, 1), (24, .iload_n 0, 1), (25, .iload_n 0, 1), (26, .iconst 4, 1), (27, .iushr, 1), (28, .iadd, 1), (29, .ldc_w 267, 3), (32, .iand, 1), (33, .istore_n 0, 1), (34, .iload_n 0, 1), (35, .iload_n 0, 1), (36, .bipush 8, 2), (38, .iushr, 1), (39, .iadd, 1), (40, .istore_n 0, 1), (41, .iload_n 0, 1), (42, .iload_n 0, 1), (43, .bipush 16, 2), (45, .iushr, 1), (46, .iadd, 1), (47, .istore_n 0, 1), (48, .iload_n 0, 1), (49, .bipush 63, 2), (51, .iand, 1), (52, .ireturn, 1)]
theorem dk250 : ∀ r ∈ k250, decode prog_15_method_49_code r.1 = .ok r.2 := by decide +kernel
def me250 : MethodName × ByteArray × Nat × Option FieldType × Nat × List (Nat × Instr × Nat) := (⟨"java/lang/Integer", "bitCount", "(I)I"⟩, prog_15_method_49_code, 1, (some .int), 13, k250)
/-- java/util/Arrays.fill([JJ)V -/
def k251 : List (Nat × Instr × Nat) := [(0, .iconst 0, 1), (1, .istore_n 3, 1), (2, .aload_n 0, 1), (3, .arraylength, 1), (4, .istore 4, 2), (6, .iload_n 3, 1), (7, .iload 4, 2), (9, .if_icmp .ge 13, 3), (12, .aload_n 0, 1), (13, .iload_n 3, 1), (14, .lload_n 1, 1), (15, .lastore, 1), (16, .iinc 3 1, 3), (19, .goto (-13), 3), (22, .return_, 1)]
theorem dk251 : ∀ r ∈ k251, decode prog_18_method_101_code r.1 = .ok r.2 := by decide +kernel
def me251 : MethodName × ByteArray × Nat × Option FieldType × Nat × List (Nat × Instr × Nat) := (⟨"java/util/Arrays", "fill", "([JJ)V"⟩, prog_18_method_101_code, 5, none, 15, k251)
/-- java/util/Arrays.fill([II)V -/
def k252 : List (Nat × Instr × Nat) := [(0, .iconst 0, 1), (1, .istore_n 2, 1), (2, .aload_n 0, 1), (3, .arraylength, 1), (4, .istore_n 3, 1), (5, .iload_n 2, 1), (6, .iload_n 3, 1), (7, .if_icmp .ge 13, 3), (10, .aload_n 0, 1), (11, .iload_n 2, 1), (12, .iload_n 1, 1), (13, .iastore, 1), (14, .iinc 2 1, 3), (17, .goto (-12), 3), (20, .return_, 1)]
theorem dk252 : ∀ r ∈ k252, decode prog_18_method_103_code r.1 = .ok r.2 := by decide +kernel
def me252 : MethodName × ByteArray × Nat × Option FieldType × Nat × List (Nat × Instr × Nat) := (⟨"java/util/Arrays", "fill", "([II)V"⟩, prog_18_method_103_code, 4, none, 15, k252)
end
section
/-! generated by wip/whole/gen.py: the code of methods 253 .. 253 as data -/
/-- BeggarBridgeLaw.law([I)Z -/
def k253_0 : List (Nat × Instr × Nat) := [(0, .new 7, 3), (3, .dup, 1), (4, .invokespecial 9, 3), (7, .astore_n 1, 1), (8, .new 10, 3), (11, .dup, 1), (12, .invokespecial 12, 3), (15, .astore_n 2, 1), (16, .iconst 0, 1), (17, .istore_n 3, 1), (18, .iload_n 3, 1), (19, .aload_n 0, 1), (20, .arraylength, 1), (21, .bipush 6, 2), (23, .isub, 1), (24, .if_icmp .gt 1495, 3), (27, .aload_n 0, 1), (28, .iload_n 3, 1), (29, .iaload, 1), (30, .bipush 63, 2), (32, .iand, 1), (33, .tableswitch 1480 0 41 #[183, 216, 249, 292, 335, 368, 391, 404, 427, 470, 503, 526, 549, 572, 605, 628, 661, 674, 707, 760, 793, 816, 859, 902, 915, 948, 981, 1014, 1037, 1050, 1063, 1076, 1089, 1112, 1155, 1178, 1211, 1254, 1327, 1361, 1424, 1457], 183), (216, .aload_n 1, 1), (217, .aload_n 0, 1), (218, .iload_n 3, 1), (219, .iconst 1, 1), (220, .iadd, 1), (221, .iaload, 1), (222, .aload_n 0, 1), (223, .iload_n 3, 1), (224, .iconst 2, 1), (225, .iadd, 1), (226, .iaload, 1), (227, .invokevirtual 13, 3), (230, .aload_n 2, 1), (231, .aload_n 0, 1), (232, .iload_n 3, 1), (233, .iconst 1, 1), (234, .iadd, 1), (235, .iaload, 1), (236, .aload_n 0, 1), (237, .iload_n 3, 1), (238, .iconst 2, 1), (239, .iadd, 1), (240, .iaload, 1), (241, .invokevirtual 17, 3), (244, .if_icmp .eq 1269, 3), (247, .iconst 0, 1), (248, .ireturn, 1), (249, .aload_n 1, 1), (250, .aload_n 0, 1), (251, .iload_n 3, 1), (252, .iconst 1, 1), (253, .iadd, 1), (254, .iaload, 1), (255, .aload_n 0, 1), (256, .iload_n 3, 1), (257, .iconst 2, 1), (258, .iadd, 1), (259, .iaload, 1)]
theorem dk253_0 : ∀ r ∈ k253_0, decode code r.1 = .ok r.2 := by decide +kernel
def k253_1 : List (Nat × Instr × Nat) := [(260, .invokevirtual 18, 3), (263, .aload_n 2, 1), (264, .aload_n 0, 1), (265, .iload_n 3, 1), (266, .iconst 1, 1), (267, .iadd, 1), (268, .iaload, 1), (269, .aload_n 0, 1), (270, .iload_n 3, 1), (271, .iconst 2, 1), (272, .iadd, 1), (273, .iaload, 1), (274, .invokevirtual 21, 3), (277, .if_icmp .eq 1236, 3), (280, .iconst 0, 1), (281, .ireturn, 1), (282, .aload_n 1, 1), (283, .aload_n 0, 1), (284, .iload_n 3, 1), (285, .iconst 1, 1), (286, .iadd, 1), (287, .iaload, 1), (288, .aload_n 0, 1), (289, .iload_n 3, 1), (290, .iconst 2, 1), (291, .iadd, 1), (292, .iaload, 1), (293, .aload_n 0, 1), (294, .iload_n 3, 1), (295, .iconst 3, 1), (296, .iadd, 1), (297, .iaload, 1), (298, .invokevirtual 22, 3), (301, .aload_n 2, 1), (302, .aload_n 0, 1), (303, .iload_n 3, 1), (304, .iconst 1, 1), (305, .iadd, 1), (306, .iaload, 1), (307, .aload_n 0, 1), (308, .iload_n 3, 1), (309, .iconst 2, 1), (310, .iadd, 1), (311, .iaload, 1), (312, .aload_n 0, 1), (313, .iload_n 3, 1), (314, .iconst 3, 1), (315, .iadd, 1), (316, .iaload, 1), (317, .invokevirtual 26, 3), (320, .if_icmp .eq 1193, 3), (323, .iconst 0, 1), (324, .ireturn, 1), (325, .aload_n 1, 1), (326, .aload_n 0, 1), (327, .iload_n 3, 1), (328, .iconst 1, 1), (329, .iadd, 1), (330, .iaload, 1), (331, .aload_n 0, 1)]
theorem dk253_1 : ∀ r ∈ k253_1, decode code r.1 = .ok r.2 := by decide +kernel
def k253_2 : List (Nat × Instr × Nat) := [(332, .iload_n 3, 1), (333, .iconst 2, 1), (334, .iadd, 1), (335, .iaload, 1), (336, .aload_n 0, 1), (337, .iload_n 3, 1), (338, .iconst 3, 1), (339, .iadd, 1), (340, .iaload, 1), (341, .invokevirtual 27, 3), (344, .aload_n 2, 1), (345, .aload_n 0, 1), (346, .iload_n 3, 1), (347, .iconst 1, 1), (348, .iadd, 1), (349, .iaload, 1), (350, .aload_n 0, 1), (351, .iload_n 3, 1), (352, .iconst 2, 1), (353, .iadd, 1), (354, .iaload, 1), (355, .aload_n 0, 1), (356, .iload_n 3, 1), (357, .iconst 3, 1), (358, .iadd, 1), (359, .iaload, 1), (360, .invokevirtual 30, 3), (363, .if_icmp .eq 1150, 3), (366, .iconst 0, 1), (367, .ireturn, 1), (368, .aload_n 1, 1), (369, .aload_n 0, 1), (370, .iload_n 3, 1), (371, .iconst 1, 1), (372, .iadd, 1), (373, .iaload, 1), (374, .aload_n 0, 1), (375, .iload_n 3, 1), (376, .iconst 2, 1), (377, .iadd, 1), (378, .iaload, 1), (379, .invokevirtual 31, 3), (382, .aload_n 2, 1), (383, .aload_n 0, 1), (384, .iload_n 3, 1), (385, .iconst 1, 1), (386, .iadd, 1), (387, .iaload, 1), (388, .aload_n 0, 1), (389, .iload_n 3, 1), (390, .iconst 2, 1), (391, .iadd, 1), (392, .iaload, 1), (393, .invokevirtual 34, 3), (396, .if_icmp .eq 1117, 3), (399, .iconst 0, 1), (400, .ireturn, 1), (401, .aload_n 1, 1), (402, .aload_n 0, 1), (403, .iload_n 3, 1)]
theorem dk253_2 : ∀ r ∈ k253_2, decode code r.1 = .ok r.2 := by decide +kernel
def k253_3 : List (Nat × Instr × Nat) := [(404, .iconst 1, 1), (405, .iadd, 1), (406, .iaload, 1), (407, .invokevirtual 35, 3), (410, .aload_n 2, 1), (411, .aload_n 0, 1), (412, .iload_n 3, 1), (413, .iconst 1, 1), (414, .iadd, 1), (415, .iaload, 1), (416, .invokevirtual 39, 3), (419, .if_icmp .eq 1094, 3), (422, .iconst 0, 1), (423, .ireturn, 1), (424, .aload_n 1, 1), (425, .invokevirtual 40, 3), (428, .aload_n 2, 1), (429, .invokevirtual 44, 3), (432, .if_icmp .eq 1081, 3), (435, .iconst 0, 1), (436, .ireturn, 1), (437, .aload_n 1, 1), (438, .aload_n 0, 1), (439, .iload_n 3, 1), (440, .iconst 1, 1), (441, .iadd, 1), (442, .iaload, 1), (443, .invokevirtual 45, 3), (446, .aload_n 2, 1), (447, .aload_n 0, 1), (448, .iload_n 3, 1), (449, .iconst 1, 1), (450, .iadd, 1), (451, .iaload, 1), (452, .invokevirtual 48, 3), (455, .if_icmp .eq 1058, 3), (458, .iconst 0, 1), (459, .ireturn, 1), (460, .aload_n 1, 1), (461, .aload_n 0, 1), (462, .iload_n 3, 1), (463, .iconst 1, 1), (464, .iadd, 1), (465, .iaload, 1), (466, .aload_n 0, 1), (467, .iload_n 3, 1), (468, .iconst 2, 1), (469, .iadd, 1), (470, .iaload, 1), (471, .aload_n 0, 1), (472, .iload_n 3, 1), (473, .iconst 3, 1), (474, .iadd, 1), (475, .iaload, 1), (476, .invokevirtual 49, 3), (479, .aload_n 2, 1), (480, .aload_n 0, 1), (481, .iload_n 3, 1), (482, .iconst 1, 1), (483, .iadd, 1)]
theorem dk253_3 : ∀ r ∈ k253_3, decode code r.1 = .ok r.2 := by decide +kernel
def k253_4 : List (Nat × Instr × Nat) := [(484, .iaload, 1), (485, .aload_n 0, 1), (486, .iload_n 3, 1), (487, .iconst 2, 1), (488, .iadd, 1), (489, .iaload, 1), (490, .aload_n 0, 1), (491, .iload_n 3, 1), (492, .iconst 3, 1), (493, .iadd, 1), (494, .iaload, 1), (495, .invokevirtual 52, 3), (498, .if_icmp .eq 1015, 3), (501, .iconst 0, 1), (502, .ireturn, 1), (503, .aload_n 1, 1), (504, .aload_n 0, 1), (505, .iload_n 3, 1), (506, .iconst 1, 1), (507, .iadd, 1), (508, .iaload, 1), (509, .aload_n 0, 1), (510, .iload_n 3, 1), (511, .iconst 2, 1), (512, .iadd, 1), (513, .iaload, 1), (514, .invokevirtual 53, 3), (517, .aload_n 2, 1), (518, .aload_n 0, 1), (519, .iload_n 3, 1), (520, .iconst 1, 1), (521, .iadd, 1), (522, .iaload, 1), (523, .aload_n 0, 1), (524, .iload_n 3, 1), (525, .iconst 2, 1), (526, .iadd, 1), (527, .iaload, 1), (528, .invokevirtual 56, 3), (531, .if_icmp .eq 982, 3), (534, .iconst 0, 1), (535, .ireturn, 1), (536, .aload_n 1, 1), (537, .aload_n 0, 1), (538, .iload_n 3, 1), (539, .iconst 1, 1), (540, .iadd, 1), (541, .iaload, 1), (542, .invokevirtual 57, 3), (545, .aload_n 2, 1), (546, .aload_n 0, 1), (547, .iload_n 3, 1), (548, .iconst 1, 1), (549, .iadd, 1), (550, .iaload, 1), (551, .invokevirtual 60, 3), (554, .if_icmp .eq 959, 3), (557, .iconst 0, 1), (558, .ireturn, 1), (559, .aload_n 1, 1)]
theorem dk253_4 : ∀ r ∈ k253_4, decode code r.1 = .ok r.2 := by decide +kernel
def k253_5 : List (Nat × Instr × Nat) := [(560, .aload_n 0, 1), (561, .iload_n 3, 1), (562, .iconst 1, 1), (563, .iadd, 1), (564, .iaload, 1), (565, .invokevirtual 61, 3), (568, .aload_n 2, 1), (569, .aload_n 0, 1), (570, .iload_n 3, 1), (571, .iconst 1, 1), (572, .iadd, 1), (573, .iaload, 1), (574, .invokevirtual 64, 3), (577, .if_icmp .eq 936, 3), (580, .iconst 0, 1), (581, .ireturn, 1), (582, .aload_n 1, 1), (583, .aload_n 0, 1), (584, .iload_n 3, 1), (585, .iconst 1, 1), (586, .iadd, 1), (587, .iaload, 1), (588, .invokevirtual 65, 3), (591, .aload_n 2, 1), (592, .aload_n 0, 1), (593, .iload_n 3, 1), (594, .iconst 1, 1), (595, .iadd, 1), (596, .iaload, 1), (597, .invokevirtual 68, 3), (600, .if_icmp .eq 913, 3), (603, .iconst 0, 1), (604, .ireturn, 1), (605, .aload_n 1, 1), (606, .aload_n 0, 1), (607, .iload_n 3, 1), (608, .iconst 1, 1), (609, .iadd, 1), (610, .iaload, 1), (611, .aload_n 0, 1), (612, .iload_n 3, 1), (613, .iconst 2, 1), (614, .iadd, 1), (615, .iaload, 1), (616, .invokevirtual 69, 3), (619, .aload_n 2, 1), (620, .aload_n 0, 1), (621, .iload_n 3, 1), (622, .iconst 1, 1), (623, .iadd, 1), (624, .iaload, 1), (625, .aload_n 0, 1), (626, .iload_n 3, 1), (627, .iconst 2, 1), (628, .iadd, 1), (629, .iaload, 1), (630, .invokevirtual 72, 3), (633, .if_icmp .eq 880, 3), (636, .iconst 0, 1), (637, .ireturn, 1)]
theorem dk253_5 : ∀ r ∈ k253_5, decode code r.1 = .ok r.2 := by decide +kernel
def k253_6 : List (Nat × Instr × Nat) := [(638, .aload_n 1, 1), (639, .aload_n 0, 1), (640, .iload_n 3, 1), (641, .iconst 1, 1), (642, .iadd, 1), (643, .iaload, 1), (644, .invokevirtual 73, 3), (647, .aload_n 2, 1), (648, .aload_n 0, 1), (649, .iload_n 3, 1), (650, .iconst 1, 1), (651, .iadd, 1), (652, .iaload, 1), (653, .invokevirtual 76, 3), (656, .if_icmp .eq 857, 3), (659, .iconst 0, 1), (660, .ireturn, 1), (661, .aload_n 1, 1), (662, .aload_n 0, 1), (663, .iload_n 3, 1), (664, .iconst 1, 1), (665, .iadd, 1), (666, .iaload, 1), (667, .aload_n 0, 1), (668, .iload_n 3, 1), (669, .iconst 2, 1), (670, .iadd, 1), (671, .iaload, 1), (672, .invokevirtual 77, 3), (675, .aload_n 2, 1), (676, .aload_n 0, 1), (677, .iload_n 3, 1), (678, .iconst 1, 1), (679, .iadd, 1), (680, .iaload, 1), (681, .aload_n 0, 1), (682, .iload_n 3, 1), (683, .iconst 2, 1), (684, .iadd, 1), (685, .iaload, 1), (686, .invokevirtual 80, 3), (689, .if_icmp .eq 824, 3), (692, .iconst 0, 1), (693, .ireturn, 1), (694, .aload_n 1, 1), (695, .invokevirtual 81, 3), (698, .aload_n 2, 1), (699, .invokevirtual 84, 3), (702, .if_icmp .eq 811, 3), (705, .iconst 0, 1), (706, .ireturn, 1), (707, .aload_n 1, 1), (708, .aload_n 0, 1), (709, .iload_n 3, 1), (710, .iconst 1, 1), (711, .iadd, 1), (712, .iaload, 1), (713, .aload_n 0, 1), (714, .iload_n 3, 1), (715, .iconst 2, 1)]
theorem dk253_6 : ∀ r ∈ k253_6, decode code r.1 = .ok r.2 := by decide +kernel
def k253_7 : List (Nat × Instr × Nat) := [(716, .iadd, 1), (717, .iaload, 1), (718, .invokevirtual 85, 3), (721, .aload_n 2, 1), (722, .aload_n 0, 1), (723, .iload_n 3, 1), (724, .iconst 1, 1), (725, .iadd, 1), (726, .iaload, 1), (727, .aload_n 0, 1), (728, .iload_n 3, 1), (729, .iconst 2, 1), (730, .iadd, 1), (731, .iaload, 1), (732, .invokevirtual 88, 3), (735, .if_icmp .eq 778, 3), (738, .iconst 0, 1), (739, .ireturn, 1), (740, .aload_n 1, 1), (741, .aload_n 0, 1), (742, .iload_n 3, 1), (743, .iconst 1, 1), (744, .iadd, 1), (745, .iaload, 1), (746, .aload_n 0, 1), (747, .iload_n 3, 1), (748, .iconst 2, 1), (749, .iadd, 1), (750, .iaload, 1), (751, .aload_n 0, 1), (752, .iload_n 3, 1), (753, .iconst 3, 1), (754, .iadd, 1), (755, .iaload, 1), (756, .aload_n 0, 1), (757, .iload_n 3, 1), (758, .iconst 4, 1), (759, .iadd, 1), (760, .iaload, 1), (761, .invokevirtual 89, 3), (764, .aload_n 2, 1), (765, .aload_n 0, 1), (766, .iload_n 3, 1), (767, .iconst 1, 1), (768, .iadd, 1), (769, .iaload, 1), (770, .aload_n 0, 1), (771, .iload_n 3, 1), (772, .iconst 2, 1), (773, .iadd, 1), (774, .iaload, 1), (775, .aload_n 0, 1), (776, .iload_n 3, 1), (777, .iconst 3, 1), (778, .iadd, 1), (779, .iaload, 1), (780, .aload_n 0, 1), (781, .iload_n 3, 1), (782, .iconst 4, 1), (783, .iadd, 1)]
theorem dk253_7 : ∀ r ∈ k253_7, decode code r.1 = .ok r.2 := by decide +kernel
def k253_8 : List (Nat × Instr × Nat) := [(784, .iaload, 1), (785, .invokevirtual 93, 3), (788, .if_icmp .eq 725, 3), (791, .iconst 0, 1), (792, .ireturn, 1), (793, .aload_n 1, 1), (794, .aload_n 0, 1), (795, .iload_n 3, 1), (796, .iconst 1, 1), (797, .iadd, 1), (798, .iaload, 1), (799, .aload_n 0, 1), (800, .iload_n 3, 1), (801, .iconst 2, 1), (802, .iadd, 1), (803, .iaload, 1), (804, .invokevirtual 94, 3), (807, .aload_n 2, 1), (808, .aload_n 0, 1), (809, .iload_n 3, 1), (810, .iconst 1, 1), (811, .iadd, 1), (812, .iaload, 1), (813, .aload_n 0, 1), (814, .iload_n 3, 1), (815, .iconst 2, 1), (816, .iadd, 1), (817, .iaload, 1), (818, .invokevirtual 97, 3), (821, .if_icmp .eq 692, 3), (824, .iconst 0, 1), (825, .ireturn, 1), (826, .aload_n 1, 1), (827, .aload_n 0, 1), (828, .iload_n 3, 1), (829, .iconst 1, 1), (830, .iadd, 1), (831, .iaload, 1), (832, .invokevirtual 98, 3), (835, .aload_n 2, 1), (836, .aload_n 0, 1), (837, .iload_n 3, 1), (838, .iconst 1, 1), (839, .iadd, 1), (840, .iaload, 1), (841, .invokevirtual 101, 3), (844, .if_icmp .eq 669, 3), (847, .iconst 0, 1), (848, .ireturn, 1), (849, .aload_n 1, 1), (850, .aload_n 0, 1), (851, .iload_n 3, 1), (852, .iconst 1, 1), (853, .iadd, 1), (854, .iaload, 1), (855, .aload_n 0, 1), (856, .iload_n 3, 1), (857, .iconst 2, 1), (858, .iadd, 1), (859, .iaload, 1)]
theorem dk253_8 : ∀ r ∈ k253_8, decode code r.1 = .ok r.2 := by decide +kernel
def k253_9 : List (Nat × Instr × Nat) := [(860, .aload_n 0, 1), (861, .iload_n 3, 1), (862, .iconst 3, 1), (863, .iadd, 1), (864, .iaload, 1), (865, .invokevirtual 102, 3), (868, .aload_n 2, 1), (869, .aload_n 0, 1), (870, .iload_n 3, 1), (871, .iconst 1, 1), (872, .iadd, 1), (873, .iaload, 1), (874, .aload_n 0, 1), (875, .iload_n 3, 1), (876, .iconst 2, 1), (877, .iadd, 1), (878, .iaload, 1), (879, .aload_n 0, 1), (880, .iload_n 3, 1), (881, .iconst 3, 1), (882, .iadd, 1), (883, .iaload, 1), (884, .invokevirtual 105, 3), (887, .if_icmp .eq 626, 3), (890, .iconst 0, 1), (891, .ireturn, 1), (892, .aload_n 1, 1), (893, .aload_n 0, 1), (894, .iload_n 3, 1), (895, .iconst 1, 1), (896, .iadd, 1), (897, .iaload, 1), (898, .aload_n 0, 1), (899, .iload_n 3, 1), (900, .iconst 2, 1), (901, .iadd, 1), (902, .iaload, 1), (903, .aload_n 0, 1), (904, .iload_n 3, 1), (905, .iconst 3, 1), (906, .iadd, 1), (907, .iaload, 1), (908, .invokevirtual 106, 3), (911, .aload_n 2, 1), (912, .aload_n 0, 1), (913, .iload_n 3, 1), (914, .iconst 1, 1), (915, .iadd, 1), (916, .iaload, 1), (917, .aload_n 0, 1), (918, .iload_n 3, 1), (919, .iconst 2, 1), (920, .iadd, 1), (921, .iaload, 1), (922, .aload_n 0, 1), (923, .iload_n 3, 1), (924, .iconst 3, 1), (925, .iadd, 1), (926, .iaload, 1), (927, .invokevirtual 109, 3)]
theorem dk253_9 : ∀ r ∈ k253_9, decode code r.1 = .ok r.2 := by decide +kernel
def k253_10 : List (Nat × Instr × Nat) := [(930, .if_icmp .eq 583, 3), (933, .iconst 0, 1), (934, .ireturn, 1), (935, .aload_n 1, 1), (936, .invokevirtual 110, 3), (939, .aload_n 2, 1), (940, .invokevirtual 113, 3), (943, .if_icmp .eq 570, 3), (946, .iconst 0, 1), (947, .ireturn, 1), (948, .aload_n 1, 1), (949, .aload_n 0, 1), (950, .iload_n 3, 1), (951, .iconst 1, 1), (952, .iadd, 1), (953, .iaload, 1), (954, .aload_n 0, 1), (955, .iload_n 3, 1), (956, .iconst 2, 1), (957, .iadd, 1), (958, .iaload, 1), (959, .invokevirtual 114, 3), (962, .aload_n 2, 1), (963, .aload_n 0, 1), (964, .iload_n 3, 1), (965, .iconst 1, 1), (966, .iadd, 1), (967, .iaload, 1), (968, .aload_n 0, 1), (969, .iload_n 3, 1), (970, .iconst 2, 1), (971, .iadd, 1), (972, .iaload, 1), (973, .invokevirtual 117, 3), (976, .if_icmp .eq 537, 3), (979, .iconst 0, 1), (980, .ireturn, 1), (981, .aload_n 1, 1), (982, .aload_n 0, 1), (983, .iload_n 3, 1), (984, .iconst 1, 1), (985, .iadd, 1), (986, .iaload, 1), (987, .aload_n 0, 1), (988, .iload_n 3, 1), (989, .iconst 2, 1), (990, .iadd, 1), (991, .iaload, 1), (992, .invokevirtual 118, 3), (995, .aload_n 2, 1), (996, .aload_n 0, 1), (997, .iload_n 3, 1), (998, .iconst 1, 1), (999, .iadd, 1), (1000, .iaload, 1), (1001, .aload_n 0, 1), (1002, .iload_n 3, 1), (1003, .iconst 2, 1), (1004, .iadd, 1), (1005, .iaload, 1)]
theorem dk253_10 : ∀ r ∈ k253_10, decode code r.1 = .ok r.2 := by decide +kernel
def k253_11 : List (Nat × Instr × Nat) := [(1006, .invokevirtual 121, 3), (1009, .if_icmp .eq 504, 3), (1012, .iconst 0, 1), (1013, .ireturn, 1), (1014, .aload_n 1, 1), (1015, .aload_n 0, 1), (1016, .iload_n 3, 1), (1017, .iconst 1, 1), (1018, .iadd, 1), (1019, .iaload, 1), (1020, .aload_n 0, 1), (1021, .iload_n 3, 1), (1022, .iconst 2, 1), (1023, .iadd, 1), (1024, .iaload, 1), (1025, .invokevirtual 122, 3), (1028, .aload_n 2, 1), (1029, .aload_n 0, 1), (1030, .iload_n 3, 1), (1031, .iconst 1, 1), (1032, .iadd, 1), (1033, .iaload, 1), (1034, .aload_n 0, 1), (1035, .iload_n 3, 1), (1036, .iconst 2, 1), (1037, .iadd, 1), (1038, .iaload, 1), (1039, .invokevirtual 125, 3), (1042, .if_icmp .eq 471, 3), (1045, .iconst 0, 1), (1046, .ireturn, 1), (1047, .aload_n 1, 1), (1048, .aload_n 0, 1), (1049, .iload_n 3, 1), (1050, .iconst 1, 1), (1051, .iadd, 1), (1052, .iaload, 1), (1053, .invokevirtual 126, 3), (1056, .aload_n 2, 1), (1057, .aload_n 0, 1), (1058, .iload_n 3, 1), (1059, .iconst 1, 1), (1060, .iadd, 1), (1061, .iaload, 1), (1062, .invokevirtual 129, 3), (1065, .if_icmp .eq 448, 3), (1068, .iconst 0, 1), (1069, .ireturn, 1), (1070, .aload_n 1, 1), (1071, .invokevirtual 130, 3), (1074, .aload_n 2, 1), (1075, .invokevirtual 133, 3), (1078, .if_icmp .eq 435, 3), (1081, .iconst 0, 1), (1082, .ireturn, 1), (1083, .aload_n 1, 1), (1084, .invokevirtual 134, 3), (1087, .aload_n 2, 1), (1088, .invokevirtual 137, 3), (1091, .if_icmp .eq 422, 3)]
theorem dk253_11 : ∀ r ∈ k253_11, decode code r.1 = .ok r.2 := by decide +kernel
def k253_12 : List (Nat × Instr × Nat) := [(1094, .iconst 0, 1), (1095, .ireturn, 1), (1096, .aload_n 1, 1), (1097, .invokevirtual 138, 3), (1100, .aload_n 2, 1), (1101, .invokevirtual 141, 3), (1104, .if_icmp .eq 409, 3), (1107, .iconst 0, 1), (1108, .ireturn, 1), (1109, .aload_n 1, 1), (1110, .invokevirtual 142, 3), (1113, .aload_n 2, 1), (1114, .invokevirtual 145, 3), (1117, .if_icmp .eq 396, 3), (1120, .iconst 0, 1), (1121, .ireturn, 1), (1122, .aload_n 1, 1), (1123, .aload_n 0, 1), (1124, .iload_n 3, 1), (1125, .iconst 1, 1), (1126, .iadd, 1), (1127, .iaload, 1), (1128, .invokevirtual 146, 3), (1131, .aload_n 2, 1), (1132, .aload_n 0, 1), (1133, .iload_n 3, 1), (1134, .iconst 1, 1), (1135, .iadd, 1), (1136, .iaload, 1), (1137, .invokevirtual 149, 3), (1140, .if_icmp .eq 373, 3), (1143, .iconst 0, 1), (1144, .ireturn, 1), (1145, .aload_n 1, 1), (1146, .aload_n 0, 1), (1147, .iload_n 3, 1), (1148, .iconst 1, 1), (1149, .iadd, 1), (1150, .iaload, 1), (1151, .aload_n 0, 1), (1152, .iload_n 3, 1), (1153, .iconst 2, 1), (1154, .iadd, 1), (1155, .iaload, 1), (1156, .aload_n 0, 1), (1157, .iload_n 3, 1), (1158, .iconst 3, 1), (1159, .iadd, 1), (1160, .iaload, 1), (1161, .invokevirtual 150, 3), (1164, .aload_n 2, 1), (1165, .aload_n 0, 1), (1166, .iload_n 3, 1), (1167, .iconst 1, 1), (1168, .iadd, 1), (1169, .iaload, 1), (1170, .aload_n 0, 1), (1171, .iload_n 3, 1), (1172, .iconst 2, 1), (1173, .iadd, 1)]
theorem dk253_12 : ∀ r ∈ k253_12, decode code r.1 = .ok r.2 := by decide +kernel
def k253_13 : List (Nat × Instr × Nat) := [(1174, .iaload, 1), (1175, .aload_n 0, 1), (1176, .iload_n 3, 1), (1177, .iconst 3, 1), (1178, .iadd, 1), (1179, .iaload, 1), (1180, .invokevirtual 153, 3), (1183, .if_icmp .eq 330, 3), (1186, .iconst 0, 1), (1187, .ireturn, 1), (1188, .aload_n 1, 1), (1189, .aload_n 0, 1), (1190, .iload_n 3, 1), (1191, .iconst 1, 1), (1192, .iadd, 1), (1193, .iaload, 1), (1194, .invokevirtual 154, 3), (1197, .aload_n 2, 1), (1198, .aload_n 0, 1), (1199, .iload_n 3, 1), (1200, .iconst 1, 1), (1201, .iadd, 1), (1202, .iaload, 1), (1203, .invokevirtual 157, 3), (1206, .if_icmp .eq 307, 3), (1209, .iconst 0, 1), (1210, .ireturn, 1), (1211, .aload_n 1, 1), (1212, .aload_n 0, 1), (1213, .iload_n 3, 1), (1214, .iconst 1, 1), (1215, .iadd, 1), (1216, .iaload, 1), (1217, .aload_n 0, 1), (1218, .iload_n 3, 1), (1219, .iconst 2, 1), (1220, .iadd, 1), (1221, .iaload, 1), (1222, .invokevirtual 158, 3), (1225, .aload_n 2, 1), (1226, .aload_n 0, 1), (1227, .iload_n 3, 1), (1228, .iconst 1, 1), (1229, .iadd, 1), (1230, .iaload, 1), (1231, .aload_n 0, 1), (1232, .iload_n 3, 1), (1233, .iconst 2, 1), (1234, .iadd, 1), (1235, .iaload, 1), (1236, .invokevirtual 161, 3), (1239, .if_icmp .eq 274, 3), (1242, .iconst 0, 1), (1243, .ireturn, 1), (1244, .aload_n 1, 1), (1245, .aload_n 0, 1), (1246, .iload_n 3, 1), (1247, .iconst 1, 1), (1248, .iadd, 1), (1249, .iaload, 1)]
theorem dk253_13 : ∀ r ∈ k253_13, decode code r.1 = .ok r.2 := by decide +kernel
def k253_14 : List (Nat × Instr × Nat) := [(1250, .aload_n 0, 1), (1251, .iload_n 3, 1), (1252, .iconst 2, 1), (1253, .iadd, 1), (1254, .iaload, 1), (1255, .aload_n 0, 1), (1256, .iload_n 3, 1), (1257, .iconst 3, 1), (1258, .iadd, 1), (1259, .iaload, 1), (1260, .invokevirtual 162, 3), (1263, .aload_n 2, 1), (1264, .aload_n 0, 1), (1265, .iload_n 3, 1), (1266, .iconst 1, 1), (1267, .iadd, 1), (1268, .iaload, 1), (1269, .aload_n 0, 1), (1270, .iload_n 3, 1), (1271, .iconst 2, 1), (1272, .iadd, 1), (1273, .iaload, 1), (1274, .aload_n 0, 1), (1275, .iload_n 3, 1), (1276, .iconst 3, 1), (1277, .iadd, 1), (1278, .iaload, 1), (1279, .invokevirtual 165, 3), (1282, .if_icmp .eq 231, 3), (1285, .iconst 0, 1), (1286, .ireturn, 1), (1287, .aload_n 1, 1), (1288, .aload_n 0, 1), (1289, .iload_n 3, 1), (1290, .iconst 1, 1), (1291, .iadd, 1), (1292, .iaload, 1), (1293, .aload_n 0, 1), (1294, .iload_n 3, 1), (1295, .iconst 2, 1), (1296, .iadd, 1), (1297, .iaload, 1), (1298, .aload_n 0, 1), (1299, .iload_n 3, 1), (1300, .iconst 3, 1), (1301, .iadd, 1), (1302, .iaload, 1), (1303, .i2l, 1), (1304, .bipush 32, 2), (1306, .lshl, 1), (1307, .aload_n 0, 1), (1308, .iload_n 3, 1), (1309, .iconst 4, 1), (1310, .iadd, 1), (1311, .iaload, 1), (1312, .i2l, 1), (1313, .ldc2_w 166, 3), (1316, .land, 1), (1317, .lor, 1), (1318, .invokevirtual 168, 3)]
theorem dk253_14 : ∀ r ∈ k253_14, decode code r.1 = .ok r.2 := by decide +kernel
def k253_15 : List (Nat × Instr × Nat) := [(1321, .aload_n 2, 1), (1322, .aload_n 0, 1), (1323, .iload_n 3, 1), (1324, .iconst 1, 1), (1325, .iadd, 1), (1326, .iaload, 1), (1327, .aload_n 0, 1), (1328, .iload_n 3, 1), (1329, .iconst 2, 1), (1330, .iadd, 1), (1331, .iaload, 1), (1332, .aload_n 0, 1), (1333, .iload_n 3, 1), (1334, .iconst 3, 1), (1335, .iadd, 1), (1336, .iaload, 1), (1337, .i2l, 1), (1338, .bipush 32, 2), (1340, .lshl, 1), (1341, .aload_n 0, 1), (1342, .iload_n 3, 1), (1343, .iconst 4, 1), (1344, .iadd, 1), (1345, .iaload, 1), (1346, .i2l, 1), (1347, .ldc2_w 166, 3), (1350, .land, 1), (1351, .lor, 1), (1352, .invokevirtual 172, 3), (1355, .if_icmp .eq 158, 3), (1358, .iconst 0, 1), (1359, .ireturn, 1), (1360, .aload_n 1, 1), (1361, .aload_n 0, 1), (1362, .iload_n 3, 1), (1363, .iconst 1, 1), (1364, .iadd, 1), (1365, .iaload, 1), (1366, .aload_n 0, 1), (1367, .iload_n 3, 1), (1368, .iconst 2, 1), (1369, .iadd, 1), (1370, .iaload, 1), (1371, .invokevirtual 173, 3), (1374, .aload_n 2, 1), (1375, .aload_n 0, 1), (1376, .iload_n 3, 1), (1377, .iconst 1, 1), (1378, .iadd, 1), (1379, .iaload, 1), (1380, .aload_n 0, 1), (1381, .iload_n 3, 1), (1382, .iconst 2, 1), (1383, .iadd, 1), (1384, .iaload, 1), (1385, .invokevirtual 177, 3), (1388, .lcmp, 1), (1389, .ifCond .eq 124, 3), (1392, .iconst 0, 1), (1393, .ireturn, 1)]
theorem dk253_15 : ∀ r ∈ k253_15, decode code r.1 = .ok r.2 := by decide +kernel
def k253_16 : List (Nat × Instr × Nat) := [(1394, .aload_n 1, 1), (1395, .aload_n 0, 1), (1396, .iload_n 3, 1), (1397, .iconst 1, 1), (1398, .iadd, 1), (1399, .iaload, 1), (1400, .aload_n 0, 1), (1401, .iload_n 3, 1), (1402, .iconst 2, 1), (1403, .iadd, 1), (1404, .iaload, 1), (1405, .aload_n 0, 1), (1406, .iload_n 3, 1), (1407, .iconst 3, 1), (1408, .iadd, 1), (1409, .iaload, 1), (1410, .aload_n 0, 1), (1411, .iload_n 3, 1), (1412, .iconst 4, 1), (1413, .iadd, 1), (1414, .iaload, 1), (1415, .aload_n 0, 1), (1416, .iload_n 3, 1), (1417, .iconst 5, 1), (1418, .iadd, 1), (1419, .iaload, 1), (1420, .invokevirtual 178, 3), (1423, .aload_n 2, 1), (1424, .aload_n 0, 1), (1425, .iload_n 3, 1), (1426, .iconst 1, 1), (1427, .iadd, 1), (1428, .iaload, 1), (1429, .aload_n 0, 1), (1430, .iload_n 3, 1), (1431, .iconst 2, 1), (1432, .iadd, 1), (1433, .iaload, 1), (1434, .aload_n 0, 1), (1435, .iload_n 3, 1), (1436, .iconst 3, 1), (1437, .iadd, 1), (1438, .iaload, 1), (1439, .aload_n 0, 1), (1440, .iload_n 3, 1), (1441, .iconst 4, 1), (1442, .iadd, 1), (1443, .iaload, 1), (1444, .aload_n 0, 1), (1445, .iload_n 3, 1), (1446, .iconst 5, 1), (1447, .iadd, 1), (1448, .iaload, 1), (1449, .invokevirtual 182, 3), (1452, .if_icmp .eq 61, 3), (1455, .iconst 0, 1), (1456, .ireturn, 1), (1457, .aload_n 1, 1), (1458, .aload_n 0, 1), (1459, .iload_n 3, 1)]
theorem dk253_16 : ∀ r ∈ k253_16, decode code r.1 = .ok r.2 := by decide +kernel
def k253_17 : List (Nat × Instr × Nat) := [(1460, .iconst 1, 1), (1461, .iadd, 1), (1462, .iaload, 1), (1463, .aload_n 0, 1), (1464, .iload_n 3, 1), (1465, .iconst 2, 1), (1466, .iadd, 1), (1467, .iaload, 1), (1468, .invokevirtual 183, 3), (1471, .aload_n 2, 1), (1472, .aload_n 0, 1), (1473, .iload_n 3, 1), (1474, .iconst 1, 1), (1475, .iadd, 1), (1476, .iaload, 1), (1477, .aload_n 0, 1), (1478, .iload_n 3, 1), (1479, .iconst 2, 1), (1480, .iadd, 1), (1481, .iaload, 1), (1482, .invokevirtual 186, 3), (1485, .if_icmp .eq 28, 3), (1488, .iconst 0, 1), (1489, .ireturn, 1), (1490, .aload_n 1, 1), (1491, .aload_n 0, 1), (1492, .iload_n 3, 1), (1493, .iconst 1, 1), (1494, .iadd, 1), (1495, .iaload, 1), (1496, .invokevirtual 187, 3), (1499, .aload_n 2, 1), (1500, .aload_n 0, 1), (1501, .iload_n 3, 1), (1502, .iconst 1, 1), (1503, .iadd, 1), (1504, .iaload, 1), (1505, .invokevirtual 190, 3), (1508, .if_icmp .eq 5, 3), (1511, .iconst 0, 1), (1512, .ireturn, 1), (1513, .iinc 3 6, 3), (1516, .goto (-1498), 3), (1519, .iconst 1, 1), (1520, .ireturn, 1)]
theorem dk253_17 : ∀ r ∈ k253_17, decode code r.1 = .ok r.2 := by decide +kernel
def k253 : List (Nat × Instr × Nat) := k253_0 ++ (k253_1 ++ (k253_2 ++ (k253_3 ++ (k253_4 ++ (k253_5 ++ (k253_6 ++ (k253_7 ++ (k253_8 ++ (k253_9 ++ (k253_10 ++ (k253_11 ++ (k253_12 ++ (k253_13 ++ (k253_14 ++ (k253_15 ++ (k253_16 ++ (k253_17)))))))))))))))))
theorem dk253 : ∀ r ∈ k253, decode code r.1 = .ok r.2 := List.forall_mem_append.mpr ⟨dk253_0, List.forall_mem_append.mpr ⟨dk253_1, List.forall_mem_append.mpr ⟨dk253_2, List.forall_mem_append.mpr ⟨dk253_3, List.forall_mem_append.mpr ⟨dk253_4, List.forall_mem_append.mpr ⟨dk253_5, List.forall_mem_append.mpr ⟨dk253_6, List.forall_mem_append.mpr ⟨dk253_7, List.forall_mem_append.mpr ⟨dk253_8, List.forall_mem_append.mpr ⟨dk253_9, List.forall_mem_append.mpr ⟨dk253_10, List.forall_mem_append.mpr ⟨dk253_11, List.forall_mem_append.mpr ⟨dk253_12, List.forall_mem_append.mpr ⟨dk253_13, List.forall_mem_append.mpr ⟨dk253_14, List.forall_mem_append.mpr ⟨dk253_15, List.forall_mem_append.mpr ⟨dk253_16, dk253_17⟩⟩⟩⟩⟩⟩⟩⟩⟩⟩⟩⟩⟩⟩⟩⟩⟩
def me253 : MethodName × ByteArray × Nat × Option FieldType × Nat × List (Nat × Instr × Nat) := (⟨"BeggarBridgeLaw", "law", "([I)Z"⟩, code, 4, (some .boolean), 16, k253)
end
section
/-! generated by wip/whole/gen.py: all methods in one list -/
abbrev MI : Type := MethodName × ByteArray × Nat × Option FieldType × Nat × List (Nat × Instr × Nat)
def mOk (q : MI) (p1 p2 : Nat) : Prop := lw_tbl[p1]? = some (Cond.code q.1 q.2.1 q.2.2.1 q.2.2.2.1) ∧ lw_tbl[p2]? = some (Cond.initialized q.1.cls) ∧ plainName q.1.cls = true ∧ (q.1.cls ≠ "java/lang/invoke/MethodHandle" ∧ q.1.cls ≠ "java/lang/invoke/VarHandle") ∧ q.1.cls = cn q.2.2.2.2.1 ∧ q.2.2.1 ≤ 40
theorem mo0 : ∃ p1 p2, mOk me0 p1 p2 := ⟨1000, 82, by decide +kernel, by decide +kernel, by decide +kernel, ⟨by decide +kernel, by decide +kernel⟩, by decide +kernel, by decide +kernel⟩
theorem mo1 : ∃ p1 p2, mOk me1 p1 p2 := ⟨988, 82, by decide +kernel, by decide +kernel, by decide +kernel, ⟨by decide +kernel, by decide +kernel⟩, by decide +kernel, by decide +kernel⟩
theorem mo2 : ∃ p1 p2, mOk me2 p1 p2 := ⟨1008, 82, by decide +kernel, by decide +kernel, by decide +kernel, ⟨by decide +kernel, by decide +kernel⟩, by decide +kernel, by decide +kernel⟩
theorem mo3 : ∃ p1 p2, mOk me3 p1 p2 := ⟨1020, 82, by decide +kernel, by decide +kernel, by decide +kernel, ⟨by decide +kernel, by decide +kernel⟩, by decide +kernel, by decide +kernel⟩
theorem mo4 : ∃ p1 p2, mOk me4 p1 p2 := ⟨1015, 82, by decide +kernel, by decide +kernel, by decide +kernel, ⟨by decide +kernel, by decide +kernel⟩, by decide +kernel, by decide +kernel⟩
theorem mo5 : ∃ p1 p2, mOk me5 p1 p2 := ⟨1109, 82, by decide +kernel, by decide +kernel, by decide +kernel, ⟨by decide +kernel, by decide +kernel⟩, by decide +kernel, by decide +kernel⟩
theorem mo6 : ∃ p1 p2, mOk me6 p1 p2 := ⟨1034, 82, by decide +kernel, by decide +kernel, by decide +kernel, ⟨by decide +kernel, by decide +kernel⟩, by decide +kernel, by decide +kernel⟩
theorem mo7 : ∃ p1 p2, mOk me7 p1 p2 := ⟨996, 82, by decide +kernel, by decide +kernel, by decide +kernel, ⟨by decide +kernel, by decide +kernel⟩, by decide +kernel, by decide +kernel⟩
theorem mo8 : ∃ p1 p2, mOk me8 p1 p2 := ⟨1026, 82, by decide +kernel, by decide +kernel, by decide +kernel, ⟨by decide +kernel, by decide +kernel⟩, by decide +kernel, by decide +kernel⟩
theorem mo9 : ∃ p1 p2, mOk me9 p1 p2 := ⟨1004, 82, by decide +kernel, by decide +kernel, by decide +kernel, ⟨by decide +kernel, by decide +kernel⟩, by decide +kernel, by decide +kernel⟩
theorem mo10 : ∃ p1 p2, mOk me10 p1 p2 := ⟨1012, 82, by decide +kernel, by decide +kernel, by decide +kernel, ⟨by decide +kernel, by decide +kernel⟩, by decide +kernel, by decide +kernel⟩
theorem mo11 : ∃ p1 p2, mOk me11 p1 p2 := ⟨540, 80, by decide +kernel, by decide +kernel, by decide +kernel, ⟨by decide +kernel, by decide +kernel⟩, by decide +kernel, by decide +kernel⟩
theorem mo12 : ∃ p1 p2, mOk me12 p1 p2 := ⟨544, 80, by decide +kernel, by decide +kernel, by decide +kernel, ⟨by decide +kernel, by decide +kernel⟩, by decide +kernel, by decide +kernel⟩
theorem mo13 : ∃ p1 p2, mOk me13 p1 p2 := ⟨971, 80, by decide +kernel, by decide +kernel, by decide +kernel, ⟨by decide +kernel, by decide +kernel⟩, by decide +kernel, by decide +kernel⟩
theorem mo14 : ∃ p1 p2, mOk me14 p1 p2 := ⟨980, 80, by decide +kernel, by decide +kernel, by decide +kernel, ⟨by decide +kernel, by decide +kernel⟩, by decide +kernel, by decide +kernel⟩
theorem mo15 : ∃ p1 p2, mOk me15 p1 p2 := ⟨462, 73, by decide +kernel, by decide +kernel, by decide +kernel, ⟨by decide +kernel, by decide +kernel⟩, by decide +kernel, by decide +kernel⟩
theorem mo16 : ∃ p1 p2, mOk me16 p1 p2 := ⟨526, 73, by decide +kernel, by decide +kernel, by decide +kernel, ⟨by decide +kernel, by decide +kernel⟩, by decide +kernel, by decide +kernel⟩
theorem mo17 : ∃ p1 p2, mOk me17 p1 p2 := ⟨466, 73, by decide +kernel, by decide +kernel, by decide +kernel, ⟨by decide +kernel, by decide +kernel⟩, by decide +kernel, by decide +kernel⟩
theorem mo18 : ∃ p1 p2, mOk me18 p1 p2 := ⟨474, 73, by decide +kernel, by decide +kernel, by decide +kernel, ⟨by decide +kernel, by decide +kernel⟩, by decide +kernel, by decide +kernel⟩
theorem mo19 : ∃ p1 p2, mOk me19 p1 p2 := ⟨522, 73, by decide +kernel, by decide +kernel, by decide +kernel, ⟨by decide +kernel, by decide +kernel⟩, by decide +kernel, by decide +kernel⟩
theorem mo20 : ∃ p1 p2, mOk me20 p1 p2 := ⟨455, 73, by decide +kernel, by decide +kernel, by decide +kernel, ⟨by decide +kernel, by decide +kernel⟩, by decide +kernel, by decide +kernel⟩
theorem mo21 : ∃ p1 p2, mOk me21 p1 p2 := ⟨535, 73, by decide +kernel, by decide +kernel, by decide +kernel, ⟨by decide +kernel, by decide +kernel⟩, by decide +kernel, by decide +kernel⟩
theorem mo22 : ∃ p1 p2, mOk me22 p1 p2 := ⟨531, 73, by decide +kernel, by decide +kernel, by decide +kernel, ⟨by decide +kernel, by decide +kernel⟩, by decide +kernel, by decide +kernel⟩
theorem mo23 : ∃ p1 p2, mOk me23 p1 p2 := ⟨551, 73, by decide +kernel, by decide +kernel, by decide +kernel, ⟨by decide +kernel, by decide +kernel⟩, by decide +kernel, by decide +kernel⟩
theorem mo24 : ∃ p1 p2, mOk me24 p1 p2 := ⟨898, 73, by decide +kernel, by decide +kernel, by decide +kernel, ⟨by decide +kernel, by decide +kernel⟩, by decide +kernel, by decide +kernel⟩
theorem mo25 : ∃ p1 p2, mOk me25 p1 p2 := ⟨666, 73, by decide +kernel, by decide +kernel, by decide +kernel, ⟨by decide +kernel, by decide +kernel⟩, by decide +kernel, by decide +kernel⟩
theorem mo26 : ∃ p1 p2, mOk me26 p1 p2 := ⟨626, 73, by decide +kernel, by decide +kernel, by decide +kernel, ⟨by decide +kernel, by decide +kernel⟩, by decide +kernel, by decide +kernel⟩
theorem mo27 : ∃ p1 p2, mOk me27 p1 p2 := ⟨633, 73, by decide +kernel, by decide +kernel, by decide +kernel, ⟨by decide +kernel, by decide +kernel⟩, by decide +kernel, by decide +kernel⟩
theorem mo28 : ∃ p1 p2, mOk me28 p1 p2 := ⟨696, 73, by decide +kernel, by decide +kernel, by decide +kernel, ⟨by decide +kernel, by decide +kernel⟩, by decide +kernel, by decide +kernel⟩
theorem mo29 : ∃ p1 p2, mOk me29 p1 p2 := ⟨675, 73, by decide +kernel, by decide +kernel, by decide +kernel, ⟨by decide +kernel, by decide +kernel⟩, by decide +kernel, by decide +kernel⟩
theorem mo30 : ∃ p1 p2, mOk me30 p1 p2 := ⟨701, 73, by decide +kernel, by decide +kernel, by decide +kernel, ⟨by decide +kernel, by decide +kernel⟩, by decide +kernel, by decide +kernel⟩
theorem mo31 : ∃ p1 p2, mOk me31 p1 p2 := ⟨705, 73, by decide +kernel, by decide +kernel, by decide +kernel, ⟨by decide +kernel, by decide +kernel⟩, by decide +kernel, by decide +kernel⟩
theorem mo32 : ∃ p1 p2, mOk me32 p1 p2 := ⟨709, 73, by decide +kernel, by decide +kernel, by decide +kernel, ⟨by decide +kernel, by decide +kernel⟩, by decide +kernel, by decide +kernel⟩
theorem mo33 : ∃ p1 p2, mOk me33 p1 p2 := ⟨733, 73, by decide +kernel, by decide +kernel, by decide +kernel, ⟨by decide +kernel, by decide +kernel⟩, by decide +kernel, by decide +kernel⟩
theorem mo34 : ∃ p1 p2, mOk me34 p1 p2 := ⟨867, 73, by decide +kernel, by decide +kernel, by decide +kernel, ⟨by decide +kernel, by decide +kernel⟩, by decide +kernel, by decide +kernel⟩
theorem mo35 : ∃ p1 p2, mOk me35 p1 p2 := ⟨612, 75, by decide +kernel, by decide +kernel, by decide +kernel, ⟨by decide +kernel, by decide +kernel⟩, by decide +kernel, by decide +kernel⟩
theorem mo36 : ∃ p1 p2, mOk me36 p1 p2 := ⟨637, 75, by decide +kernel, by decide +kernel, by decide +kernel, ⟨by decide +kernel, by decide +kernel⟩, by decide +kernel, by decide +kernel⟩
theorem mo37 : ∃ p1 p2, mOk me37 p1 p2 := ⟨651, 75, by decide +kernel, by decide +kernel, by decide +kernel, ⟨by decide +kernel, by decide +kernel⟩, by decide +kernel, by decide +kernel⟩
theorem mo38 : ∃ p1 p2, mOk me38 p1 p2 := ⟨654, 75, by decide +kernel, by decide +kernel, by decide +kernel, ⟨by decide +kernel, by decide +kernel⟩, by decide +kernel, by decide +kernel⟩
theorem mo39 : ∃ p1 p2, mOk me39 p1 p2 := ⟨943, 81, by decide +kernel, by decide +kernel, by decide +kernel, ⟨by decide +kernel, by decide +kernel⟩, by decide +kernel, by decide +kernel⟩
theorem mo40 : ∃ p1 p2, mOk me40 p1 p2 := ⟨922, 81, by decide +kernel, by decide +kernel, by decide +kernel, ⟨by decide +kernel, by decide +kernel⟩, by decide +kernel, by decide +kernel⟩
theorem mo41 : ∃ p1 p2, mOk me41 p1 p2 := ⟨951, 81, by decide +kernel, by decide +kernel, by decide +kernel, ⟨by decide +kernel, by decide +kernel⟩, by decide +kernel, by decide +kernel⟩
theorem mo42 : ∃ p1 p2, mOk me42 p1 p2 := ⟨961, 81, by decide +kernel, by decide +kernel, by decide +kernel, ⟨by decide +kernel, by decide +kernel⟩, by decide +kernel, by decide +kernel⟩
theorem mo43 : ∃ p1 p2, mOk me43 p1 p2 := ⟨772, 78, by decide +kernel, by decide +kernel, by decide +kernel, ⟨by decide +kernel, by decide +kernel⟩, by decide +kernel, by decide +kernel⟩
theorem mo44 : ∃ p1 p2, mOk me44 p1 p2 := ⟨779, 78, by decide +kernel, by decide +kernel, by decide +kernel, ⟨by decide +kernel, by decide +kernel⟩, by decide +kernel, by decide +kernel⟩
theorem mo45 : ∃ p1 p2, mOk me45 p1 p2 := ⟨785, 78, by decide +kernel, by decide +kernel, by decide +kernel, ⟨by decide +kernel, by decide +kernel⟩, by decide +kernel, by decide +kernel⟩
theorem mo46 : ∃ p1 p2, mOk me46 p1 p2 := ⟨789, 78, by decide +kernel, by decide +kernel, by decide +kernel, ⟨by decide +kernel, by decide +kernel⟩, by decide +kernel, by decide +kernel⟩
theorem mo47 : ∃ p1 p2, mOk me47 p1 p2 := ⟨794, 78, by decide +kernel, by decide +kernel, by decide +kernel, ⟨by decide +kernel, by decide +kernel⟩, by decide +kernel, by decide +kernel⟩
theorem mo48 : ∃ p1 p2, mOk me48 p1 p2 := ⟨482, 83, by decide +kernel, by decide +kernel, by decide +kernel, ⟨by decide +kernel, by decide +kernel⟩, by decide +kernel, by decide +kernel⟩
theorem mo49 : ∃ p1 p2, mOk me49 p1 p2 := ⟨496, 83, by decide +kernel, by decide +kernel, by decide +kernel, ⟨by decide +kernel, by decide +kernel⟩, by decide +kernel, by decide +kernel⟩
theorem mo50 : ∃ p1 p2, mOk me50 p1 p2 := ⟨500, 83, by decide +kernel, by decide +kernel, by decide +kernel, ⟨by decide +kernel, by decide +kernel⟩, by decide +kernel, by decide +kernel⟩
theorem mo51 : ∃ p1 p2, mOk me51 p1 p2 := ⟨505, 83, by decide +kernel, by decide +kernel, by decide +kernel, ⟨by decide +kernel, by decide +kernel⟩, by decide +kernel, by decide +kernel⟩
theorem mo52 : ∃ p1 p2, mOk me52 p1 p2 := ⟨1105, 83, by decide +kernel, by decide +kernel, by decide +kernel, ⟨by decide +kernel, by decide +kernel⟩, by decide +kernel, by decide +kernel⟩
theorem mo53 : ∃ p1 p2, mOk me53 p1 p2 := ⟨1043, 83, by decide +kernel, by decide +kernel, by decide +kernel, ⟨by decide +kernel, by decide +kernel⟩, by decide +kernel, by decide +kernel⟩
theorem mo54 : ∃ p1 p2, mOk me54 p1 p2 := ⟨1047, 83, by decide +kernel, by decide +kernel, by decide +kernel, ⟨by decide +kernel, by decide +kernel⟩, by decide +kernel, by decide +kernel⟩
theorem mo55 : ∃ p1 p2, mOk me55 p1 p2 := ⟨1055, 83, by decide +kernel, by decide +kernel, by decide +kernel, ⟨by decide +kernel, by decide +kernel⟩, by decide +kernel, by decide +kernel⟩
theorem mo56 : ∃ p1 p2, mOk me56 p1 p2 := ⟨491, 83, by decide +kernel, by decide +kernel, by decide +kernel, ⟨by decide +kernel, by decide +kernel⟩, by decide +kernel, by decide +kernel⟩
theorem mo57 : ∃ p1 p2, mOk me57 p1 p2 := ⟨487, 83, by decide +kernel, by decide +kernel, by decide +kernel, ⟨by decide +kernel, by decide +kernel⟩, by decide +kernel, by decide +kernel⟩
theorem mo58 : ∃ p1 p2, mOk me58 p1 p2 := ⟨1066, 83, by decide +kernel, by decide +kernel, by decide +kernel, ⟨by decide +kernel, by decide +kernel⟩, by decide +kernel, by decide +kernel⟩
theorem mo59 : ∃ p1 p2, mOk me59 p1 p2 := ⟨1086, 83, by decide +kernel, by decide +kernel, by decide +kernel, ⟨by decide +kernel, by decide +kernel⟩, by decide +kernel, by decide +kernel⟩
theorem mo60 : ∃ p1 p2, mOk me60 p1 p2 := ⟨1090, 83, by decide +kernel, by decide +kernel, by decide +kernel, ⟨by decide +kernel, by decide +kernel⟩, by decide +kernel, by decide +kernel⟩
theorem mo61 : ∃ p1 p2, mOk me61 p1 p2 := ⟨513, 83, by decide +kernel, by decide +kernel, by decide +kernel, ⟨by decide +kernel, by decide +kernel⟩, by decide +kernel, by decide +kernel⟩
theorem mo62 : ∃ p1 p2, mOk me62 p1 p2 := ⟨1070, 83, by decide +kernel, by decide +kernel, by decide +kernel, ⟨by decide +kernel, by decide +kernel⟩, by decide +kernel, by decide +kernel⟩
theorem mo63 : ∃ p1 p2, mOk me63 p1 p2 := ⟨1073, 83, by decide +kernel, by decide +kernel, by decide +kernel, ⟨by decide +kernel, by decide +kernel⟩, by decide +kernel, by decide +kernel⟩
theorem mo64 : ∃ p1 p2, mOk me64 p1 p2 := ⟨1094, 83, by decide +kernel, by decide +kernel, by decide +kernel, ⟨by decide +kernel, by decide +kernel⟩, by decide +kernel, by decide +kernel⟩
theorem mo65 : ∃ p1 p2, mOk me65 p1 p2 := ⟨563, 74, by decide +kernel, by decide +kernel, by decide +kernel, ⟨by decide +kernel, by decide +kernel⟩, by decide +kernel, by decide +kernel⟩
theorem mo66 : ∃ p1 p2, mOk me66 p1 p2 := ⟨617, 74, by decide +kernel, by decide +kernel, by decide +kernel, ⟨by decide +kernel, by decide +kernel⟩, by decide +kernel, by decide +kernel⟩
theorem mo67 : ∃ p1 p2, mOk me67 p1 p2 := ⟨571, 74, by decide +kernel, by decide +kernel, by decide +kernel, ⟨by decide +kernel, by decide +kernel⟩, by decide +kernel, by decide +kernel⟩
theorem mo68 : ∃ p1 p2, mOk me68 p1 p2 := ⟨587, 74, by decide +kernel, by decide +kernel, by decide +kernel, ⟨by decide +kernel, by decide +kernel⟩, by decide +kernel, by decide +kernel⟩
theorem mo69 : ∃ p1 p2, mOk me69 p1 p2 := ⟨598, 74, by decide +kernel, by decide +kernel, by decide +kernel, ⟨by decide +kernel, by decide +kernel⟩, by decide +kernel, by decide +kernel⟩
theorem mo70 : ∃ p1 p2, mOk me70 p1 p2 := ⟨575, 74, by decide +kernel, by decide +kernel, by decide +kernel, ⟨by decide +kernel, by decide +kernel⟩, by decide +kernel, by decide +kernel⟩
theorem mo71 : ∃ p1 p2, mOk me71 p1 p2 := ⟨579, 74, by decide +kernel, by decide +kernel, by decide +kernel, ⟨by decide +kernel, by decide +kernel⟩, by decide +kernel, by decide +kernel⟩
theorem mo72 : ∃ p1 p2, mOk me72 p1 p2 := ⟨583, 74, by decide +kernel, by decide +kernel, by decide +kernel, ⟨by decide +kernel, by decide +kernel⟩, by decide +kernel, by decide +kernel⟩
theorem mo73 : ∃ p1 p2, mOk me73 p1 p2 := ⟨605, 74, by decide +kernel, by decide +kernel, by decide +kernel, ⟨by decide +kernel, by decide +kernel⟩, by decide +kernel, by decide +kernel⟩
theorem mo74 : ∃ p1 p2, mOk me74 p1 p2 := ⟨594, 74, by decide +kernel, by decide +kernel, by decide +kernel, ⟨by decide +kernel, by decide +kernel⟩, by decide +kernel, by decide +kernel⟩
theorem mo75 : ∃ p1 p2, mOk me75 p1 p2 := ⟨590, 74, by decide +kernel, by decide +kernel, by decide +kernel, ⟨by decide +kernel, by decide +kernel⟩, by decide +kernel, by decide +kernel⟩
theorem mo76 : ∃ p1 p2, mOk me76 p1 p2 := ⟨601, 74, by decide +kernel, by decide +kernel, by decide +kernel, ⟨by decide +kernel, by decide +kernel⟩, by decide +kernel, by decide +kernel⟩
theorem mo77 : ∃ p1 p2, mOk me77 p1 p2 := ⟨608, 74, by decide +kernel, by decide +kernel, by decide +kernel, ⟨by decide +kernel, by decide +kernel⟩, by decide +kernel, by decide +kernel⟩
theorem mo78 : ∃ p1 p2, mOk me78 p1 p2 := ⟨692, 76, by decide +kernel, by decide +kernel, by decide +kernel, ⟨by decide +kernel, by decide +kernel⟩, by decide +kernel, by decide +kernel⟩
theorem mo79 : ∃ p1 p2, mOk me79 p1 p2 := ⟨662, 76, by decide +kernel, by decide +kernel, by decide +kernel, ⟨by decide +kernel, by decide +kernel⟩, by decide +kernel, by decide +kernel⟩
theorem mo80 : ∃ p1 p2, mOk me80 p1 p2 := ⟨721, 76, by decide +kernel, by decide +kernel, by decide +kernel, ⟨by decide +kernel, by decide +kernel⟩, by decide +kernel, by decide +kernel⟩
theorem mo81 : ∃ p1 p2, mOk me81 p1 p2 := ⟨670, 76, by decide +kernel, by decide +kernel, by decide +kernel, ⟨by decide +kernel, by decide +kernel⟩, by decide +kernel, by decide +kernel⟩
theorem mo82 : ∃ p1 p2, mOk me82 p1 p2 := ⟨717, 76, by decide +kernel, by decide +kernel, by decide +kernel, ⟨by decide +kernel, by decide +kernel⟩, by decide +kernel, by decide +kernel⟩
theorem mo83 : ∃ p1 p2, mOk me83 p1 p2 := ⟨684, 76, by decide +kernel, by decide +kernel, by decide +kernel, ⟨by decide +kernel, by decide +kernel⟩, by decide +kernel, by decide +kernel⟩
theorem mo84 : ∃ p1 p2, mOk me84 p1 p2 := ⟨729, 76, by decide +kernel, by decide +kernel, by decide +kernel, ⟨by decide +kernel, by decide +kernel⟩, by decide +kernel, by decide +kernel⟩
theorem mo85 : ∃ p1 p2, mOk me85 p1 p2 := ⟨741, 76, by decide +kernel, by decide +kernel, by decide +kernel, ⟨by decide +kernel, by decide +kernel⟩, by decide +kernel, by decide +kernel⟩
theorem mo86 : ∃ p1 p2, mOk me86 p1 p2 := ⟨751, 76, by decide +kernel, by decide +kernel, by decide +kernel, ⟨by decide +kernel, by decide +kernel⟩, by decide +kernel, by decide +kernel⟩
theorem mo87 : ∃ p1 p2, mOk me87 p1 p2 := ⟨759, 76, by decide +kernel, by decide +kernel, by decide +kernel, ⟨by decide +kernel, by decide +kernel⟩, by decide +kernel, by decide +kernel⟩
theorem mo88 : ∃ p1 p2, mOk me88 p1 p2 := ⟨764, 76, by decide +kernel, by decide +kernel, by decide +kernel, ⟨by decide +kernel, by decide +kernel⟩, by decide +kernel, by decide +kernel⟩
theorem mo89 : ∃ p1 p2, mOk me89 p1 p2 := ⟨755, 76, by decide +kernel, by decide +kernel, by decide +kernel, ⟨by decide +kernel, by decide +kernel⟩, by decide +kernel, by decide +kernel⟩
theorem mo90 : ∃ p1 p2, mOk me90 p1 p2 := ⟨843, 76, by decide +kernel, by decide +kernel, by decide +kernel, ⟨by decide +kernel, by decide +kernel⟩, by decide +kernel, by decide +kernel⟩
theorem mo91 : ∃ p1 p2, mOk me91 p1 p2 := ⟨853, 76, by decide +kernel, by decide +kernel, by decide +kernel, ⟨by decide +kernel, by decide +kernel⟩, by decide +kernel, by decide +kernel⟩
theorem mo92 : ∃ p1 p2, mOk me92 p1 p2 := ⟨909, 76, by decide +kernel, by decide +kernel, by decide +kernel, ⟨by decide +kernel, by decide +kernel⟩, by decide +kernel, by decide +kernel⟩
theorem mo93 : ∃ p1 p2, mOk me93 p1 p2 := ⟨876, 77, by decide +kernel, by decide +kernel, by decide +kernel, ⟨by decide +kernel, by decide +kernel⟩, by decide +kernel, by decide +kernel⟩
theorem mo94 : ∃ p1 p2, mOk me94 p1 p2 := ⟨881, 77, by decide +kernel, by decide +kernel, by decide +kernel, ⟨by decide +kernel, by decide +kernel⟩, by decide +kernel, by decide +kernel⟩
theorem mo95 : ∃ p1 p2, mOk me95 p1 p2 := ⟨886, 77, by decide +kernel, by decide +kernel, by decide +kernel, ⟨by decide +kernel, by decide +kernel⟩, by decide +kernel, by decide +kernel⟩
theorem mo96 : ∃ p1 p2, mOk me96 p1 p2 := ⟨894, 77, by decide +kernel, by decide +kernel, by decide +kernel, ⟨by decide +kernel, by decide +kernel⟩, by decide +kernel, by decide +kernel⟩
theorem mo97 : ∃ p1 p2, mOk me97 p1 p2 := ⟨802, 79, by decide +kernel, by decide +kernel, by decide +kernel, ⟨by decide +kernel, by decide +kernel⟩, by decide +kernel, by decide +kernel⟩
theorem mo98 : ∃ p1 p2, mOk me98 p1 p2 := ⟨810, 79, by decide +kernel, by decide +kernel, by decide +kernel, ⟨by decide +kernel, by decide +kernel⟩, by decide +kernel, by decide +kernel⟩
theorem mo99 : ∃ p1 p2, mOk me99 p1 p2 := ⟨826, 79, by decide +kernel, by decide +kernel, by decide +kernel, ⟨by decide +kernel, by decide +kernel⟩, by decide +kernel, by decide +kernel⟩
theorem mo100 : ∃ p1 p2, mOk me100 p1 p2 := ⟨816, 79, by decide +kernel, by decide +kernel, by decide +kernel, ⟨by decide +kernel, by decide +kernel⟩, by decide +kernel, by decide +kernel⟩
theorem mo101 : ∃ p1 p2, mOk me101 p1 p2 := ⟨835, 79, by decide +kernel, by decide +kernel, by decide +kernel, ⟨by decide +kernel, by decide +kernel⟩, by decide +kernel, by decide +kernel⟩
theorem mo102 : ∃ p1 p2, mOk me102 p1 p2 := ⟨448, 72, by decide +kernel, by decide +kernel, by decide +kernel, ⟨by decide +kernel, by decide +kernel⟩, by decide +kernel, by decide +kernel⟩
theorem mo103 : ∃ p1 p2, mOk me103 p1 p2 := ⟨470, 72, by decide +kernel, by decide +kernel, by decide +kernel, ⟨by decide +kernel, by decide +kernel⟩, by decide +kernel, by decide +kernel⟩
theorem mo104 : ∃ p1 p2, mOk me104 p1 p2 := ⟨478, 72, by decide +kernel, by decide +kernel, by decide +kernel, ⟨by decide +kernel, by decide +kernel⟩, by decide +kernel, by decide +kernel⟩
theorem mo105 : ∃ p1 p2, mOk me105 p1 p2 := ⟨509, 72, by decide +kernel, by decide +kernel, by decide +kernel, ⟨by decide +kernel, by decide +kernel⟩, by decide +kernel, by decide +kernel⟩
theorem mo106 : ∃ p1 p2, mOk me106 p1 p2 := ⟨518, 72, by decide +kernel, by decide +kernel, by decide +kernel, ⟨by decide +kernel, by decide +kernel⟩, by decide +kernel, by decide +kernel⟩
theorem mo107 : ∃ p1 p2, mOk me107 p1 p2 := ⟨555, 72, by decide +kernel, by decide +kernel, by decide +kernel, ⟨by decide +kernel, by decide +kernel⟩, by decide +kernel, by decide +kernel⟩
theorem mo108 : ∃ p1 p2, mOk me108 p1 p2 := ⟨559, 72, by decide +kernel, by decide +kernel, by decide +kernel, ⟨by decide +kernel, by decide +kernel⟩, by decide +kernel, by decide +kernel⟩
theorem mo109 : ∃ p1 p2, mOk me109 p1 p2 := ⟨567, 72, by decide +kernel, by decide +kernel, by decide +kernel, ⟨by decide +kernel, by decide +kernel⟩, by decide +kernel, by decide +kernel⟩
theorem mo110 : ∃ p1 p2, mOk me110 p1 p2 := ⟨621, 72, by decide +kernel, by decide +kernel, by decide +kernel, ⟨by decide +kernel, by decide +kernel⟩, by decide +kernel, by decide +kernel⟩
theorem mo111 : ∃ p1 p2, mOk me111 p1 p2 := ⟨658, 72, by decide +kernel, by decide +kernel, by decide +kernel, ⟨by decide +kernel, by decide +kernel⟩, by decide +kernel, by decide +kernel⟩
theorem mo112 : ∃ p1 p2, mOk me112 p1 p2 := ⟨688, 72, by decide +kernel, by decide +kernel, by decide +kernel, ⟨by decide +kernel, by decide +kernel⟩, by decide +kernel, by decide +kernel⟩
theorem mo113 : ∃ p1 p2, mOk me113 p1 p2 := ⟨713, 72, by decide +kernel, by decide +kernel, by decide +kernel, ⟨by decide +kernel, by decide +kernel⟩, by decide +kernel, by decide +kernel⟩
theorem mo114 : ∃ p1 p2, mOk me114 p1 p2 := ⟨725, 72, by decide +kernel, by decide +kernel, by decide +kernel, ⟨by decide +kernel, by decide +kernel⟩, by decide +kernel, by decide +kernel⟩
theorem mo115 : ∃ p1 p2, mOk me115 p1 p2 := ⟨737, 72, by decide +kernel, by decide +kernel, by decide +kernel, ⟨by decide +kernel, by decide +kernel⟩, by decide +kernel, by decide +kernel⟩
theorem mo116 : ∃ p1 p2, mOk me116 p1 p2 := ⟨747, 72, by decide +kernel, by decide +kernel, by decide +kernel, ⟨by decide +kernel, by decide +kernel⟩, by decide +kernel, by decide +kernel⟩
theorem mo117 : ∃ p1 p2, mOk me117 p1 p2 := ⟨768, 72, by decide +kernel, by decide +kernel, by decide +kernel, ⟨by decide +kernel, by decide +kernel⟩, by decide +kernel, by decide +kernel⟩
theorem mo118 : ∃ p1 p2, mOk me118 p1 p2 := ⟨798, 72, by decide +kernel, by decide +kernel, by decide +kernel, ⟨by decide +kernel, by decide +kernel⟩, by decide +kernel, by decide +kernel⟩
theorem mo119 : ∃ p1 p2, mOk me119 p1 p2 := ⟨831, 72, by decide +kernel, by decide +kernel, by decide +kernel, ⟨by decide +kernel, by decide +kernel⟩, by decide +kernel, by decide +kernel⟩
theorem mo120 : ∃ p1 p2, mOk me120 p1 p2 := ⟨839, 72, by decide +kernel, by decide +kernel, by decide +kernel, ⟨by decide +kernel, by decide +kernel⟩, by decide +kernel, by decide +kernel⟩
theorem mo121 : ∃ p1 p2, mOk me121 p1 p2 := ⟨849, 72, by decide +kernel, by decide +kernel, by decide +kernel, ⟨by decide +kernel, by decide +kernel⟩, by decide +kernel, by decide +kernel⟩
theorem mo122 : ∃ p1 p2, mOk me122 p1 p2 := ⟨858, 72, by decide +kernel, by decide +kernel, by decide +kernel, ⟨by decide +kernel, by decide +kernel⟩, by decide +kernel, by decide +kernel⟩
theorem mo123 : ∃ p1 p2, mOk me123 p1 p2 := ⟨863, 72, by decide +kernel, by decide +kernel, by decide +kernel, ⟨by decide +kernel, by decide +kernel⟩, by decide +kernel, by decide +kernel⟩
theorem mo124 : ∃ p1 p2, mOk me124 p1 p2 := ⟨872, 72, by decide +kernel, by decide +kernel, by decide +kernel, ⟨by decide +kernel, by decide +kernel⟩, by decide +kernel, by decide +kernel⟩
theorem mo125 : ∃ p1 p2, mOk me125 p1 p2 := ⟨905, 72, by decide +kernel, by decide +kernel, by decide +kernel, ⟨by decide +kernel, by decide +kernel⟩, by decide +kernel, by decide +kernel⟩
theorem mo126 : ∃ p1 p2, mOk me126 p1 p2 := ⟨917, 72, by decide +kernel, by decide +kernel, by decide +kernel, ⟨by decide +kernel, by decide +kernel⟩, by decide +kernel, by decide +kernel⟩
theorem mo127 : ∃ p1 p2, mOk me127 p1 p2 := ⟨926, 72, by decide +kernel, by decide +kernel, by decide +kernel, ⟨by decide +kernel, by decide +kernel⟩, by decide +kernel, by decide +kernel⟩
theorem mo128 : ∃ p1 p2, mOk me128 p1 p2 := ⟨930, 72, by decide +kernel, by decide +kernel, by decide +kernel, ⟨by decide +kernel, by decide +kernel⟩, by decide +kernel, by decide +kernel⟩
theorem mo129 : ∃ p1 p2, mOk me129 p1 p2 := ⟨935, 72, by decide +kernel, by decide +kernel, by decide +kernel, ⟨by decide +kernel, by decide +kernel⟩, by decide +kernel, by decide +kernel⟩
theorem mo130 : ∃ p1 p2, mOk me130 p1 p2 := ⟨939, 72, by decide +kernel, by decide +kernel, by decide +kernel, ⟨by decide +kernel, by decide +kernel⟩, by decide +kernel, by decide +kernel⟩
theorem mo131 : ∃ p1 p2, mOk me131 p1 p2 := ⟨947, 72, by decide +kernel, by decide +kernel, by decide +kernel, ⟨by decide +kernel, by decide +kernel⟩, by decide +kernel, by decide +kernel⟩
theorem mo132 : ∃ p1 p2, mOk me132 p1 p2 := ⟨957, 72, by decide +kernel, by decide +kernel, by decide +kernel, ⟨by decide +kernel, by decide +kernel⟩, by decide +kernel, by decide +kernel⟩
theorem mo133 : ∃ p1 p2, mOk me133 p1 p2 := ⟨967, 72, by decide +kernel, by decide +kernel, by decide +kernel, ⟨by decide +kernel, by decide +kernel⟩, by decide +kernel, by decide +kernel⟩
theorem mo134 : ∃ p1 p2, mOk me134 p1 p2 := ⟨976, 72, by decide +kernel, by decide +kernel, by decide +kernel, ⟨by decide +kernel, by decide +kernel⟩, by decide +kernel, by decide +kernel⟩
theorem mo135 : ∃ p1 p2, mOk me135 p1 p2 := ⟨984, 72, by decide +kernel, by decide +kernel, by decide +kernel, ⟨by decide +kernel, by decide +kernel⟩, by decide +kernel, by decide +kernel⟩
theorem mo136 : ∃ p1 p2, mOk me136 p1 p2 := ⟨992, 72, by decide +kernel, by decide +kernel, by decide +kernel, ⟨by decide +kernel, by decide +kernel⟩, by decide +kernel, by decide +kernel⟩
theorem mo137 : ∃ p1 p2, mOk me137 p1 p2 := ⟨1030, 72, by decide +kernel, by decide +kernel, by decide +kernel, ⟨by decide +kernel, by decide +kernel⟩, by decide +kernel, by decide +kernel⟩
theorem mo138 : ∃ p1 p2, mOk me138 p1 p2 := ⟨1038, 72, by decide +kernel, by decide +kernel, by decide +kernel, ⟨by decide +kernel, by decide +kernel⟩, by decide +kernel, by decide +kernel⟩
theorem mo139 : ∃ p1 p2, mOk me139 p1 p2 := ⟨1051, 72, by decide +kernel, by decide +kernel, by decide +kernel, ⟨by decide +kernel, by decide +kernel⟩, by decide +kernel, by decide +kernel⟩
theorem mo140 : ∃ p1 p2, mOk me140 p1 p2 := ⟨1062, 72, by decide +kernel, by decide +kernel, by decide +kernel, ⟨by decide +kernel, by decide +kernel⟩, by decide +kernel, by decide +kernel⟩
theorem mo141 : ∃ p1 p2, mOk me141 p1 p2 := ⟨1077, 72, by decide +kernel, by decide +kernel, by decide +kernel, ⟨by decide +kernel, by decide +kernel⟩, by decide +kernel, by decide +kernel⟩
theorem mo142 : ∃ p1 p2, mOk me142 p1 p2 := ⟨1082, 72, by decide +kernel, by decide +kernel, by decide +kernel, ⟨by decide +kernel, by decide +kernel⟩, by decide +kernel, by decide +kernel⟩
theorem mo143 : ∃ p1 p2, mOk me143 p1 p2 := ⟨1100, 72, by decide +kernel, by decide +kernel, by decide +kernel, ⟨by decide +kernel, by decide +kernel⟩, by decide +kernel, by decide +kernel⟩
theorem mo144 : ∃ p1 p2, mOk me144 p1 p2 := ⟨1114, 72, by decide +kernel, by decide +kernel, by decide +kernel, ⟨by decide +kernel, by decide +kernel⟩, by decide +kernel, by decide +kernel⟩
theorem mo145 : ∃ p1 p2, mOk me145 p1 p2 := ⟨458, 72, by decide +kernel, by decide +kernel, by decide +kernel, ⟨by decide +kernel, by decide +kernel⟩, by decide +kernel, by decide +kernel⟩
theorem mo146 : ∃ p1 p2, mOk me146 p1 p2 := ⟨451, 72, by decide +kernel, by decide +kernel, by decide +kernel, ⟨by decide +kernel, by decide +kernel⟩, by decide +kernel, by decide +kernel⟩
theorem mo147 : ∃ p1 p2, mOk me147 p1 p2 := ⟨641, 72, by decide +kernel, by decide +kernel, by decide +kernel, ⟨by decide +kernel, by decide +kernel⟩, by decide +kernel, by decide +kernel⟩
theorem mo148 : ∃ p1 p2, mOk me148 p1 p2 := ⟨1293, 84, by decide +kernel, by decide +kernel, by decide +kernel, ⟨by decide +kernel, by decide +kernel⟩, by decide +kernel, by decide +kernel⟩
theorem mo149 : ∃ p1 p2, mOk me149 p1 p2 := ⟨1517, 84, by decide +kernel, by decide +kernel, by decide +kernel, ⟨by decide +kernel, by decide +kernel⟩, by decide +kernel, by decide +kernel⟩
theorem mo150 : ∃ p1 p2, mOk me150 p1 p2 := ⟨1506, 84, by decide +kernel, by decide +kernel, by decide +kernel, ⟨by decide +kernel, by decide +kernel⟩, by decide +kernel, by decide +kernel⟩
theorem mo151 : ∃ p1 p2, mOk me151 p1 p2 := ⟨1463, 84, by decide +kernel, by decide +kernel, by decide +kernel, ⟨by decide +kernel, by decide +kernel⟩, by decide +kernel, by decide +kernel⟩
theorem mo152 : ∃ p1 p2, mOk me152 p1 p2 := ⟨1466, 84, by decide +kernel, by decide +kernel, by decide +kernel, ⟨by decide +kernel, by decide +kernel⟩, by decide +kernel, by decide +kernel⟩
theorem mo153 : ∃ p1 p2, mOk me153 p1 p2 := ⟨1348, 84, by decide +kernel, by decide +kernel, by decide +kernel, ⟨by decide +kernel, by decide +kernel⟩, by decide +kernel, by decide +kernel⟩
theorem mo154 : ∃ p1 p2, mOk me154 p1 p2 := ⟨1275, 84, by decide +kernel, by decide +kernel, by decide +kernel, ⟨by decide +kernel, by decide +kernel⟩, by decide +kernel, by decide +kernel⟩
theorem mo155 : ∃ p1 p2, mOk me155 p1 p2 := ⟨1279, 84, by decide +kernel, by decide +kernel, by decide +kernel, ⟨by decide +kernel, by decide +kernel⟩, by decide +kernel, by decide +kernel⟩
theorem mo156 : ∃ p1 p2, mOk me156 p1 p2 := ⟨1312, 84, by decide +kernel, by decide +kernel, by decide +kernel, ⟨by decide +kernel, by decide +kernel⟩, by decide +kernel, by decide +kernel⟩
theorem mo157 : ∃ p1 p2, mOk me157 p1 p2 := ⟨1339, 84, by decide +kernel, by decide +kernel, by decide +kernel, ⟨by decide +kernel, by decide +kernel⟩, by decide +kernel, by decide +kernel⟩
theorem mo158 : ∃ p1 p2, mOk me158 p1 p2 := ⟨1289, 84, by decide +kernel, by decide +kernel, by decide +kernel, ⟨by decide +kernel, by decide +kernel⟩, by decide +kernel, by decide +kernel⟩
theorem mo159 : ∃ p1 p2, mOk me159 p1 p2 := ⟨1286, 84, by decide +kernel, by decide +kernel, by decide +kernel, ⟨by decide +kernel, by decide +kernel⟩, by decide +kernel, by decide +kernel⟩
theorem mo160 : ∃ p1 p2, mOk me160 p1 p2 := ⟨1308, 84, by decide +kernel, by decide +kernel, by decide +kernel, ⟨by decide +kernel, by decide +kernel⟩, by decide +kernel, by decide +kernel⟩
theorem mo161 : ∃ p1 p2, mOk me161 p1 p2 := ⟨1283, 84, by decide +kernel, by decide +kernel, by decide +kernel, ⟨by decide +kernel, by decide +kernel⟩, by decide +kernel, by decide +kernel⟩
theorem mo162 : ∃ p1 p2, mOk me162 p1 p2 := ⟨1303, 84, by decide +kernel, by decide +kernel, by decide +kernel, ⟨by decide +kernel, by decide +kernel⟩, by decide +kernel, by decide +kernel⟩
theorem mo163 : ∃ p1 p2, mOk me163 p1 p2 := ⟨1316, 84, by decide +kernel, by decide +kernel, by decide +kernel, ⟨by decide +kernel, by decide +kernel⟩, by decide +kernel, by decide +kernel⟩
theorem mo164 : ∃ p1 p2, mOk me164 p1 p2 := ⟨1298, 84, by decide +kernel, by decide +kernel, by decide +kernel, ⟨by decide +kernel, by decide +kernel⟩, by decide +kernel, by decide +kernel⟩
theorem mo165 : ∃ p1 p2, mOk me165 p1 p2 := ⟨1320, 84, by decide +kernel, by decide +kernel, by decide +kernel, ⟨by decide +kernel, by decide +kernel⟩, by decide +kernel, by decide +kernel⟩
theorem mo166 : ∃ p1 p2, mOk me166 p1 p2 := ⟨1332, 84, by decide +kernel, by decide +kernel, by decide +kernel, ⟨by decide +kernel, by decide +kernel⟩, by decide +kernel, by decide +kernel⟩
theorem mo167 : ∃ p1 p2, mOk me167 p1 p2 := ⟨1344, 84, by decide +kernel, by decide +kernel, by decide +kernel, ⟨by decide +kernel, by decide +kernel⟩, by decide +kernel, by decide +kernel⟩
theorem mo168 : ∃ p1 p2, mOk me168 p1 p2 := ⟨1328, 84, by decide +kernel, by decide +kernel, by decide +kernel, ⟨by decide +kernel, by decide +kernel⟩, by decide +kernel, by decide +kernel⟩
theorem mo169 : ∃ p1 p2, mOk me169 p1 p2 := ⟨1353, 84, by decide +kernel, by decide +kernel, by decide +kernel, ⟨by decide +kernel, by decide +kernel⟩, by decide +kernel, by decide +kernel⟩
theorem mo170 : ∃ p1 p2, mOk me170 p1 p2 := ⟨1357, 84, by decide +kernel, by decide +kernel, by decide +kernel, ⟨by decide +kernel, by decide +kernel⟩, by decide +kernel, by decide +kernel⟩
theorem mo171 : ∃ p1 p2, mOk me171 p1 p2 := ⟨1394, 84, by decide +kernel, by decide +kernel, by decide +kernel, ⟨by decide +kernel, by decide +kernel⟩, by decide +kernel, by decide +kernel⟩
theorem mo172 : ∃ p1 p2, mOk me172 p1 p2 := ⟨1402, 84, by decide +kernel, by decide +kernel, by decide +kernel, ⟨by decide +kernel, by decide +kernel⟩, by decide +kernel, by decide +kernel⟩
theorem mo173 : ∃ p1 p2, mOk me173 p1 p2 := ⟨1406, 84, by decide +kernel, by decide +kernel, by decide +kernel, ⟨by decide +kernel, by decide +kernel⟩, by decide +kernel, by decide +kernel⟩
theorem mo174 : ∃ p1 p2, mOk me174 p1 p2 := ⟨1410, 84, by decide +kernel, by decide +kernel, by decide +kernel, ⟨by decide +kernel, by decide +kernel⟩, by decide +kernel, by decide +kernel⟩
theorem mo175 : ∃ p1 p2, mOk me175 p1 p2 := ⟨1370, 84, by decide +kernel, by decide +kernel, by decide +kernel, ⟨by decide +kernel, by decide +kernel⟩, by decide +kernel, by decide +kernel⟩
theorem mo176 : ∃ p1 p2, mOk me176 p1 p2 := ⟨1374, 84, by decide +kernel, by decide +kernel, by decide +kernel, ⟨by decide +kernel, by decide +kernel⟩, by decide +kernel, by decide +kernel⟩
theorem mo177 : ∃ p1 p2, mOk me177 p1 p2 := ⟨1378, 84, by decide +kernel, by decide +kernel, by decide +kernel, ⟨by decide +kernel, by decide +kernel⟩, by decide +kernel, by decide +kernel⟩
theorem mo178 : ∃ p1 p2, mOk me178 p1 p2 := ⟨1382, 84, by decide +kernel, by decide +kernel, by decide +kernel, ⟨by decide +kernel, by decide +kernel⟩, by decide +kernel, by decide +kernel⟩
theorem mo179 : ∃ p1 p2, mOk me179 p1 p2 := ⟨1386, 84, by decide +kernel, by decide +kernel, by decide +kernel, ⟨by decide +kernel, by decide +kernel⟩, by decide +kernel, by decide +kernel⟩
theorem mo180 : ∃ p1 p2, mOk me180 p1 p2 := ⟨1413, 84, by decide +kernel, by decide +kernel, by decide +kernel, ⟨by decide +kernel, by decide +kernel⟩, by decide +kernel, by decide +kernel⟩
theorem mo181 : ∃ p1 p2, mOk me181 p1 p2 := ⟨1398, 84, by decide +kernel, by decide +kernel, by decide +kernel, ⟨by decide +kernel, by decide +kernel⟩, by decide +kernel, by decide +kernel⟩
theorem mo182 : ∃ p1 p2, mOk me182 p1 p2 := ⟨1390, 84, by decide +kernel, by decide +kernel, by decide +kernel, ⟨by decide +kernel, by decide +kernel⟩, by decide +kernel, by decide +kernel⟩
theorem mo183 : ∃ p1 p2, mOk me183 p1 p2 := ⟨1366, 84, by decide +kernel, by decide +kernel, by decide +kernel, ⟨by decide +kernel, by decide +kernel⟩, by decide +kernel, by decide +kernel⟩
theorem mo184 : ∃ p1 p2, mOk me184 p1 p2 := ⟨1362, 84, by decide +kernel, by decide +kernel, by decide +kernel, ⟨by decide +kernel, by decide +kernel⟩, by decide +kernel, by decide +kernel⟩
theorem mo185 : ∃ p1 p2, mOk me185 p1 p2 := ⟨1444, 84, by decide +kernel, by decide +kernel, by decide +kernel, ⟨by decide +kernel, by decide +kernel⟩, by decide +kernel, by decide +kernel⟩
theorem mo186 : ∃ p1 p2, mOk me186 p1 p2 := ⟨1441, 84, by decide +kernel, by decide +kernel, by decide +kernel, ⟨by decide +kernel, by decide +kernel⟩, by decide +kernel, by decide +kernel⟩
theorem mo187 : ∃ p1 p2, mOk me187 p1 p2 := ⟨1437, 84, by decide +kernel, by decide +kernel, by decide +kernel, ⟨by decide +kernel, by decide +kernel⟩, by decide +kernel, by decide +kernel⟩
theorem mo188 : ∃ p1 p2, mOk me188 p1 p2 := ⟨1421, 84, by decide +kernel, by decide +kernel, by decide +kernel, ⟨by decide +kernel, by decide +kernel⟩, by decide +kernel, by decide +kernel⟩
theorem mo189 : ∃ p1 p2, mOk me189 p1 p2 := ⟨1433, 84, by decide +kernel, by decide +kernel, by decide +kernel, ⟨by decide +kernel, by decide +kernel⟩, by decide +kernel, by decide +kernel⟩
theorem mo190 : ∃ p1 p2, mOk me190 p1 p2 := ⟨1429, 84, by decide +kernel, by decide +kernel, by decide +kernel, ⟨by decide +kernel, by decide +kernel⟩, by decide +kernel, by decide +kernel⟩
theorem mo191 : ∃ p1 p2, mOk me191 p1 p2 := ⟨1425, 84, by decide +kernel, by decide +kernel, by decide +kernel, ⟨by decide +kernel, by decide +kernel⟩, by decide +kernel, by decide +kernel⟩
theorem mo192 : ∃ p1 p2, mOk me192 p1 p2 := ⟨1460, 84, by decide +kernel, by decide +kernel, by decide +kernel, ⟨by decide +kernel, by decide +kernel⟩, by decide +kernel, by decide +kernel⟩
theorem mo193 : ∃ p1 p2, mOk me193 p1 p2 := ⟨1456, 84, by decide +kernel, by decide +kernel, by decide +kernel, ⟨by decide +kernel, by decide +kernel⟩, by decide +kernel, by decide +kernel⟩
theorem mo194 : ∃ p1 p2, mOk me194 p1 p2 := ⟨1474, 84, by decide +kernel, by decide +kernel, by decide +kernel, ⟨by decide +kernel, by decide +kernel⟩, by decide +kernel, by decide +kernel⟩
theorem mo195 : ∃ p1 p2, mOk me195 p1 p2 := ⟨1478, 84, by decide +kernel, by decide +kernel, by decide +kernel, ⟨by decide +kernel, by decide +kernel⟩, by decide +kernel, by decide +kernel⟩
theorem mo196 : ∃ p1 p2, mOk me196 p1 p2 := ⟨1482, 84, by decide +kernel, by decide +kernel, by decide +kernel, ⟨by decide +kernel, by decide +kernel⟩, by decide +kernel, by decide +kernel⟩
theorem mo197 : ∃ p1 p2, mOk me197 p1 p2 := ⟨1417, 84, by decide +kernel, by decide +kernel, by decide +kernel, ⟨by decide +kernel, by decide +kernel⟩, by decide +kernel, by decide +kernel⟩
theorem mo198 : ∃ p1 p2, mOk me198 p1 p2 := ⟨1451, 84, by decide +kernel, by decide +kernel, by decide +kernel, ⟨by decide +kernel, by decide +kernel⟩, by decide +kernel, by decide +kernel⟩
theorem mo199 : ∃ p1 p2, mOk me199 p1 p2 := ⟨1448, 84, by decide +kernel, by decide +kernel, by decide +kernel, ⟨by decide +kernel, by decide +kernel⟩, by decide +kernel, by decide +kernel⟩
theorem mo200 : ∃ p1 p2, mOk me200 p1 p2 := ⟨1470, 84, by decide +kernel, by decide +kernel, by decide +kernel, ⟨by decide +kernel, by decide +kernel⟩, by decide +kernel, by decide +kernel⟩
theorem mo201 : ∃ p1 p2, mOk me201 p1 p2 := ⟨1490, 84, by decide +kernel, by decide +kernel, by decide +kernel, ⟨by decide +kernel, by decide +kernel⟩, by decide +kernel, by decide +kernel⟩
theorem mo202 : ∃ p1 p2, mOk me202 p1 p2 := ⟨1486, 84, by decide +kernel, by decide +kernel, by decide +kernel, ⟨by decide +kernel, by decide +kernel⟩, by decide +kernel, by decide +kernel⟩
theorem mo203 : ∃ p1 p2, mOk me203 p1 p2 := ⟨1494, 84, by decide +kernel, by decide +kernel, by decide +kernel, ⟨by decide +kernel, by decide +kernel⟩, by decide +kernel, by decide +kernel⟩
theorem mo204 : ∃ p1 p2, mOk me204 p1 p2 := ⟨1498, 84, by decide +kernel, by decide +kernel, by decide +kernel, ⟨by decide +kernel, by decide +kernel⟩, by decide +kernel, by decide +kernel⟩
theorem mo205 : ∃ p1 p2, mOk me205 p1 p2 := ⟨1502, 84, by decide +kernel, by decide +kernel, by decide +kernel, ⟨by decide +kernel, by decide +kernel⟩, by decide +kernel, by decide +kernel⟩
theorem mo206 : ∃ p1 p2, mOk me206 p1 p2 := ⟨1514, 84, by decide +kernel, by decide +kernel, by decide +kernel, ⟨by decide +kernel, by decide +kernel⟩, by decide +kernel, by decide +kernel⟩
theorem mo207 : ∃ p1 p2, mOk me207 p1 p2 := ⟨1521, 84, by decide +kernel, by decide +kernel, by decide +kernel, ⟨by decide +kernel, by decide +kernel⟩, by decide +kernel, by decide +kernel⟩
theorem mo208 : ∃ p1 p2, mOk me208 p1 p2 := ⟨1510, 84, by decide +kernel, by decide +kernel, by decide +kernel, ⟨by decide +kernel, by decide +kernel⟩, by decide +kernel, by decide +kernel⟩
theorem mo209 : ∃ p1 p2, mOk me209 p1 p2 := ⟨1529, 84, by decide +kernel, by decide +kernel, by decide +kernel, ⟨by decide +kernel, by decide +kernel⟩, by decide +kernel, by decide +kernel⟩
theorem mo210 : ∃ p1 p2, mOk me210 p1 p2 := ⟨1525, 84, by decide +kernel, by decide +kernel, by decide +kernel, ⟨by decide +kernel, by decide +kernel⟩, by decide +kernel, by decide +kernel⟩
theorem mo211 : ∃ p1 p2, mOk me211 p1 p2 := ⟨1534, 84, by decide +kernel, by decide +kernel, by decide +kernel, ⟨by decide +kernel, by decide +kernel⟩, by decide +kernel, by decide +kernel⟩
theorem mo212 : ∃ p1 p2, mOk me212 p1 p2 := ⟨1542, 84, by decide +kernel, by decide +kernel, by decide +kernel, ⟨by decide +kernel, by decide +kernel⟩, by decide +kernel, by decide +kernel⟩
theorem mo213 : ∃ p1 p2, mOk me213 p1 p2 := ⟨1546, 84, by decide +kernel, by decide +kernel, by decide +kernel, ⟨by decide +kernel, by decide +kernel⟩, by decide +kernel, by decide +kernel⟩
theorem mo214 : ∃ p1 p2, mOk me214 p1 p2 := ⟨1538, 84, by decide +kernel, by decide +kernel, by decide +kernel, ⟨by decide +kernel, by decide +kernel⟩, by decide +kernel, by decide +kernel⟩
theorem mo215 : ∃ p1 p2, mOk me215 p1 p2 := ⟨1550, 84, by decide +kernel, by decide +kernel, by decide +kernel, ⟨by decide +kernel, by decide +kernel⟩, by decide +kernel, by decide +kernel⟩
theorem mo216 : ∃ p1 p2, mOk me216 p1 p2 := ⟨1559, 84, by decide +kernel, by decide +kernel, by decide +kernel, ⟨by decide +kernel, by decide +kernel⟩, by decide +kernel, by decide +kernel⟩
theorem mo217 : ∃ p1 p2, mOk me217 p1 p2 := ⟨1554, 84, by decide +kernel, by decide +kernel, by decide +kernel, ⟨by decide +kernel, by decide +kernel⟩, by decide +kernel, by decide +kernel⟩
theorem mo218 : ∃ p1 p2, mOk me218 p1 p2 := ⟨1563, 84, by decide +kernel, by decide +kernel, by decide +kernel, ⟨by decide +kernel, by decide +kernel⟩, by decide +kernel, by decide +kernel⟩
theorem mo219 : ∃ p1 p2, mOk me219 p1 p2 := ⟨1571, 84, by decide +kernel, by decide +kernel, by decide +kernel, ⟨by decide +kernel, by decide +kernel⟩, by decide +kernel, by decide +kernel⟩
theorem mo220 : ∃ p1 p2, mOk me220 p1 p2 := ⟨1567, 84, by decide +kernel, by decide +kernel, by decide +kernel, ⟨by decide +kernel, by decide +kernel⟩, by decide +kernel, by decide +kernel⟩
theorem mo221 : ∃ p1 p2, mOk me221 p1 p2 := ⟨1575, 84, by decide +kernel, by decide +kernel, by decide +kernel, ⟨by decide +kernel, by decide +kernel⟩, by decide +kernel, by decide +kernel⟩
theorem mo222 : ∃ p1 p2, mOk me222 p1 p2 := ⟨1582, 84, by decide +kernel, by decide +kernel, by decide +kernel, ⟨by decide +kernel, by decide +kernel⟩, by decide +kernel, by decide +kernel⟩
theorem mo223 : ∃ p1 p2, mOk me223 p1 p2 := ⟨1586, 84, by decide +kernel, by decide +kernel, by decide +kernel, ⟨by decide +kernel, by decide +kernel⟩, by decide +kernel, by decide +kernel⟩
theorem mo224 : ∃ p1 p2, mOk me224 p1 p2 := ⟨1590, 84, by decide +kernel, by decide +kernel, by decide +kernel, ⟨by decide +kernel, by decide +kernel⟩, by decide +kernel, by decide +kernel⟩
theorem mo225 : ∃ p1 p2, mOk me225 p1 p2 := ⟨1594, 84, by decide +kernel, by decide +kernel, by decide +kernel, ⟨by decide +kernel, by decide +kernel⟩, by decide +kernel, by decide +kernel⟩
theorem mo226 : ∃ p1 p2, mOk me226 p1 p2 := ⟨1598, 84, by decide +kernel, by decide +kernel, by decide +kernel, ⟨by decide +kernel, by decide +kernel⟩, by decide +kernel, by decide +kernel⟩
theorem mo227 : ∃ p1 p2, mOk me227 p1 p2 := ⟨1603, 84, by decide +kernel, by decide +kernel, by decide +kernel, ⟨by decide +kernel, by decide +kernel⟩, by decide +kernel, by decide +kernel⟩
theorem mo228 : ∃ p1 p2, mOk me228 p1 p2 := ⟨1607, 84, by decide +kernel, by decide +kernel, by decide +kernel, ⟨by decide +kernel, by decide +kernel⟩, by decide +kernel, by decide +kernel⟩
theorem mo229 : ∃ p1 p2, mOk me229 p1 p2 := ⟨1619, 84, by decide +kernel, by decide +kernel, by decide +kernel, ⟨by decide +kernel, by decide +kernel⟩, by decide +kernel, by decide +kernel⟩
theorem mo230 : ∃ p1 p2, mOk me230 p1 p2 := ⟨1679, 84, by decide +kernel, by decide +kernel, by decide +kernel, ⟨by decide +kernel, by decide +kernel⟩, by decide +kernel, by decide +kernel⟩
theorem mo231 : ∃ p1 p2, mOk me231 p1 p2 := ⟨1611, 84, by decide +kernel, by decide +kernel, by decide +kernel, ⟨by decide +kernel, by decide +kernel⟩, by decide +kernel, by decide +kernel⟩
theorem mo232 : ∃ p1 p2, mOk me232 p1 p2 := ⟨1682, 84, by decide +kernel, by decide +kernel, by decide +kernel, ⟨by decide +kernel, by decide +kernel⟩, by decide +kernel, by decide +kernel⟩
theorem mo233 : ∃ p1 p2, mOk me233 p1 p2 := ⟨1627, 84, by decide +kernel, by decide +kernel, by decide +kernel, ⟨by decide +kernel, by decide +kernel⟩, by decide +kernel, by decide +kernel⟩
theorem mo234 : ∃ p1 p2, mOk me234 p1 p2 := ⟨1623, 84, by decide +kernel, by decide +kernel, by decide +kernel, ⟨by decide +kernel, by decide +kernel⟩, by decide +kernel, by decide +kernel⟩
theorem mo235 : ∃ p1 p2, mOk me235 p1 p2 := ⟨1631, 84, by decide +kernel, by decide +kernel, by decide +kernel, ⟨by decide +kernel, by decide +kernel⟩, by decide +kernel, by decide +kernel⟩
theorem mo236 : ∃ p1 p2, mOk me236 p1 p2 := ⟨1635, 84, by decide +kernel, by decide +kernel, by decide +kernel, ⟨by decide +kernel, by decide +kernel⟩, by decide +kernel, by decide +kernel⟩
theorem mo237 : ∃ p1 p2, mOk me237 p1 p2 := ⟨1639, 84, by decide +kernel, by decide +kernel, by decide +kernel, ⟨by decide +kernel, by decide +kernel⟩, by decide +kernel, by decide +kernel⟩
theorem mo238 : ∃ p1 p2, mOk me238 p1 p2 := ⟨1615, 84, by decide +kernel, by decide +kernel, by decide +kernel, ⟨by decide +kernel, by decide +kernel⟩, by decide +kernel, by decide +kernel⟩
theorem mo239 : ∃ p1 p2, mOk me239 p1 p2 := ⟨1643, 84, by decide +kernel, by decide +kernel, by decide +kernel, ⟨by decide +kernel, by decide +kernel⟩, by decide +kernel, by decide +kernel⟩
theorem mo240 : ∃ p1 p2, mOk me240 p1 p2 := ⟨1323, 84, by decide +kernel, by decide +kernel, by decide +kernel, ⟨by decide +kernel, by decide +kernel⟩, by decide +kernel, by decide +kernel⟩
theorem mo241 : ∃ p1 p2, mOk me241 p1 p2 := ⟨1647, 84, by decide +kernel, by decide +kernel, by decide +kernel, ⟨by decide +kernel, by decide +kernel⟩, by decide +kernel, by decide +kernel⟩
theorem mo242 : ∃ p1 p2, mOk me242 p1 p2 := ⟨1651, 84, by decide +kernel, by decide +kernel, by decide +kernel, ⟨by decide +kernel, by decide +kernel⟩, by decide +kernel, by decide +kernel⟩
theorem mo243 : ∃ p1 p2, mOk me243 p1 p2 := ⟨1659, 84, by decide +kernel, by decide +kernel, by decide +kernel, ⟨by decide +kernel, by decide +kernel⟩, by decide +kernel, by decide +kernel⟩
theorem mo244 : ∃ p1 p2, mOk me244 p1 p2 := ⟨1662, 84, by decide +kernel, by decide +kernel, by decide +kernel, ⟨by decide +kernel, by decide +kernel⟩, by decide +kernel, by decide +kernel⟩
theorem mo245 : ∃ p1 p2, mOk me245 p1 p2 := ⟨1655, 84, by decide +kernel, by decide +kernel, by decide +kernel, ⟨by decide +kernel, by decide +kernel⟩, by decide +kernel, by decide +kernel⟩
theorem mo246 : ∃ p1 p2, mOk me246 p1 p2 := ⟨1666, 84, by decide +kernel, by decide +kernel, by decide +kernel, ⟨by decide +kernel, by decide +kernel⟩, by decide +kernel, by decide +kernel⟩
theorem mo247 : ∃ p1 p2, mOk me247 p1 p2 := ⟨1671, 84, by decide +kernel, by decide +kernel, by decide +kernel, ⟨by decide +kernel, by decide +kernel⟩, by decide +kernel, by decide +kernel⟩
theorem mo248 : ∃ p1 p2, mOk me248 p1 p2 := ⟨1675, 84, by decide +kernel, by decide +kernel, by decide +kernel, ⟨by decide +kernel, by decide +kernel⟩, by decide +kernel, by decide +kernel⟩
theorem mo249 : ∃ p1 p2, mOk me249 p1 p2 := ⟨1686, 84, by decide +kernel, by decide +kernel, by decide +kernel, ⟨by decide +kernel, by decide +kernel⟩, by decide +kernel, by decide +kernel⟩
theorem mo250 : ∃ p1 p2, mOk me250 p1 p2 := ⟨819, 88, by decide +kernel, by decide +kernel, by decide +kernel, ⟨by decide +kernel, by decide +kernel⟩, by decide +kernel, by decide +kernel⟩
theorem mo251 : ∃ p1 p2, mOk me251 p1 p2 := ⟨1058, 86, by decide +kernel, by decide +kernel, by decide +kernel, ⟨by decide +kernel, by decide +kernel⟩, by decide +kernel, by decide +kernel⟩
theorem mo252 : ∃ p1 p2, mOk me252 p1 p2 := ⟨629, 86, by decide +kernel, by decide +kernel, by decide +kernel, ⟨by decide +kernel, by decide +kernel⟩, by decide +kernel, by decide +kernel⟩
set_option maxRecDepth 100000 in
def mt0 : List MI := [me0, me1, me2, me3, me4, me5, me6, me7, me8, me9, me10, me11, me12, me13, me14, me15, me16, me17, me18, me19, me20, me21, me22, me23, me24, me25, me26, me27, me28, me29, me30, me31, me32, me33, me34, me35, me36, me37, me38, me39, me40, me41, me42, me43, me44, me45, me46, me47, me48, me49, me50, me51, me52, me53, me54, me55, me56, me57, me58, me59, me60, me61, me62, me63, me64, me65, me66, me67, me68, me69, me70, me71, me72, me73, me74, me75, me76, me77, me78, me79, me80, me81, me82, me83, me84, me85, me86, me87, me88, me89, me90, me91, me92, me93, me94, me95, me96, me97, me98, me99, me100, me101, me102, me103, me104, me105, me106, me107, me108, me109, me110, me111, me112, me113, me114, me115, me116, me117, me118, me119, me120, me121, me122, me123, me124, me125, me126, me127, me128, me129, me130, me131, me132, me133, me134, me135, me136, me137, me138, me139, me140, me141, me142, me143, me144, me145, me146, me147, me148, me149, me150, me151, me152, me153, me154, me155, me156, me157, me158, me159, me160, me161, me162, me163, me164, me165, me166, me167, me168, me169, me170, me171, me172, me173, me174, me175, me176, me177, me178, me179, me180, me181, me182, me183, me184, me185, me186, me187, me188, me189, me190, me191, me192, me193, me194, me195, me196, me197, me198, me199, me200, me201, me202, me203, me204, me205, me206, me207, me208, me209, me210, me211, me212, me213, me214, me215, me216, me217, me218, me219, me220, me221, me222, me223, me224, me225, me226, me227, me228, me229, me230, me231, me232, me233, me234, me235, me236, me237, me238, me239, me240, me241, me242, me243, me244, me245, me246, me247, me248, me249, me250, me251, me252]
def mt : List MI := mt0 ++ [me253]
set_option maxRecDepth 100000 in
theorem mt_ok : ∀ q ∈ mt0, ∃ p1 p2, mOk q p1 p2 := List.forall_mem_cons.mpr ⟨mo0, List.forall_mem_cons.mpr ⟨mo1, List.forall_mem_cons.mpr ⟨mo2, List.forall_mem_cons.mpr ⟨mo3, List.forall_mem_cons.mpr ⟨mo4, List.forall_mem_cons.mpr ⟨mo5, List.forall_mem_cons.mpr ⟨mo6, List.forall_mem_cons.mpr ⟨mo7, List.forall_mem_cons.mpr ⟨mo8, List.forall_mem_cons.mpr ⟨mo9, List.forall_mem_cons.mpr ⟨mo10, List.forall_mem_cons.mpr ⟨mo11, List.forall_mem_cons.mpr ⟨mo12, List.forall_mem_cons.mpr ⟨mo13, List.forall_mem_cons.mpr ⟨mo14, List.forall_mem_cons.mpr ⟨mo15, List.forall_mem_cons.mpr ⟨mo16, List.forall_mem_cons.mpr ⟨mo17, List.forall_mem_cons.mpr ⟨mo18, List.forall_mem_cons.mpr ⟨mo19, List.forall_mem_cons.mpr ⟨mo20, List.forall_mem_cons.mpr ⟨mo21, List.forall_mem_cons.mpr ⟨mo22, List.forall_mem_cons.mpr ⟨mo23, List.forall_mem_cons.mpr ⟨mo24, List.forall_mem_cons.mpr ⟨mo25, List.forall_mem_cons.mpr ⟨mo26, List.forall_mem_cons.mpr ⟨mo27, List.forall_mem_cons.mpr ⟨mo28, List.forall_mem_cons.mpr ⟨mo29, List.forall_mem_cons.mpr ⟨mo30, List.forall_mem_cons.mpr ⟨mo31, List.forall_mem_cons.mpr ⟨mo32, List.forall_mem_cons.mpr ⟨mo33, List.forall_mem_cons.mpr ⟨mo34, List.forall_mem_cons.mpr ⟨mo35, List.forall_mem_cons.mpr ⟨mo36, List.forall_mem_cons.mpr ⟨mo37, List.forall_mem_cons.mpr ⟨mo38, List.forall_mem_cons.mpr ⟨mo39, List.forall_mem_cons.mpr ⟨mo40, List.forall_mem_cons.mpr ⟨mo41, List.forall_mem_cons.mpr ⟨mo42, List.forall_mem_cons.mpr ⟨mo43, List.forall_mem_cons.mpr ⟨mo44, List.forall_mem_cons.mpr ⟨mo45, List.forall_mem_cons.mpr ⟨mo46, List.forall_mem_cons.mpr ⟨mo47, List.forall_mem_cons.mpr ⟨mo48, List.forall_mem_cons.mpr ⟨mo49, List.forall_mem_cons.mpr ⟨mo50, List.forall_mem_cons.mpr ⟨mo51, List.forall_mem_cons.mpr ⟨mo52, List.forall_mem_cons.mpr ⟨mo53, List.forall_mem_cons.mpr ⟨mo54, List.forall_mem_cons.mpr ⟨mo55, List.forall_mem_cons.mpr ⟨mo56, List.forall_mem_cons.mpr ⟨mo57, List.forall_mem_cons.mpr ⟨mo58, List.forall_mem_cons.mpr ⟨mo59, List.forall_mem_cons.mpr ⟨mo60, List.forall_mem_cons.mpr ⟨mo61, List.forall_mem_cons.mpr ⟨mo62, List.forall_mem_cons.mpr ⟨mo63, List.forall_mem_cons.mpr ⟨mo64, List.forall_mem_cons.mpr ⟨mo65, List.forall_mem_cons.mpr ⟨mo66, List.forall_mem_cons.mpr ⟨mo67, List.forall_mem_cons.mpr ⟨mo68, List.forall_mem_cons.mpr ⟨mo69, List.forall_mem_cons.mpr ⟨mo70, List.forall_mem_cons.mpr ⟨mo71, List.forall_mem_cons.mpr ⟨mo72, List.forall_mem_cons.mpr ⟨mo73, List.forall_mem_cons.mpr ⟨mo74, List.forall_mem_cons.mpr ⟨mo75, List.forall_mem_cons.mpr ⟨mo76, List.forall_mem_cons.mpr ⟨mo77, List.forall_mem_cons.mpr ⟨mo78, List.forall_mem_cons.mpr ⟨mo79, List.forall_mem_cons.mpr ⟨mo80, List.forall_mem_cons.mpr ⟨mo81, List.forall_mem_cons.mpr ⟨mo82, List.forall_mem_cons.mpr ⟨mo83, List.forall_mem_cons.mpr ⟨mo84, List.forall_mem_cons.mpr ⟨mo85, List.forall_mem_cons.mpr ⟨mo86, List.forall_mem_cons.mpr ⟨mo87, List.forall_mem_cons.mpr ⟨mo88, List.forall_mem_cons.mpr ⟨mo89, List.forall_mem_cons.mpr ⟨mo90, List.forall_mem_cons.mpr ⟨mo91, List.forall_mem_cons.mpr ⟨mo92, List.forall_mem_cons.mpr ⟨mo93, List.forall_mem_cons.mpr ⟨mo94, List.forall_mem_cons.mpr ⟨mo95, List.forall_mem_cons.mpr ⟨mo96, List.forall_mem_cons.mpr ⟨mo97, List.forall_mem_cons.mpr ⟨mo98, List.forall_mem_cons.mpr ⟨mo99, List.forall_mem_cons.mpr ⟨mo100, List.forall_mem_cons.mpr ⟨mo101, List.forall_mem_cons.mpr ⟨mo102, List.forall_mem_cons.mpr ⟨mo103, List.forall_mem_cons.mpr ⟨mo104, List.forall_mem_cons.mpr ⟨mo105, List.forall_mem_cons.mpr ⟨mo106, List.forall_mem_cons.mpr ⟨mo107, List.forall_mem_cons.mpr ⟨mo108, List.forall_mem_cons.mpr ⟨mo109, List.forall_mem_cons.mpr ⟨mo110, List.forall_mem_cons.mpr ⟨mo111, List.forall_mem_cons.mpr ⟨mo112, List.forall_mem_cons.mpr ⟨mo113, List.forall_mem_cons.mpr ⟨mo114, List.forall_mem_cons.mpr ⟨mo115, List.forall_mem_cons.mpr ⟨mo116, List.forall_mem_cons.mpr ⟨mo117, List.forall_mem_cons.mpr ⟨mo118, List.forall_mem_cons.mpr ⟨mo119, List.forall_mem_cons.mpr ⟨mo120, List.forall_mem_cons.mpr ⟨mo121, List.forall_mem_cons.mpr ⟨mo122, List.forall_mem_cons.mpr ⟨mo123, List.forall_mem_cons.mpr ⟨mo124, List.forall_mem_cons.mpr ⟨mo125, List.forall_mem_cons.mpr ⟨mo126, List.forall_mem_cons.mpr ⟨mo127, List.forall_mem_cons.mpr ⟨mo128, List.forall_mem_cons.mpr ⟨mo129, List.forall_mem_cons.mpr ⟨mo130, List.forall_mem_cons.mpr ⟨mo131, List.forall_mem_cons.mpr ⟨mo132, List.forall_mem_cons.mpr ⟨mo133, List.forall_mem_cons.mpr ⟨mo134, List.forall_mem_cons.mpr ⟨mo135, List.forall_mem_cons.mpr ⟨mo136, List.forall_mem_cons.mpr ⟨mo137, List.forall_mem_cons.mpr ⟨mo138, List.forall_mem_cons.mpr ⟨mo139, List.forall_mem_cons.mpr ⟨mo140, List.forall_mem_cons.mpr ⟨mo141, List.forall_mem_cons.mpr ⟨mo142, List.forall_mem_cons.mpr ⟨mo143, List.forall_mem_cons.mpr ⟨mo144, List.forall_mem_cons.mpr ⟨mo145, List.forall_mem_cons.mpr ⟨mo146, List.forall_mem_cons.mpr ⟨mo147, List.forall_mem_cons.mpr ⟨mo148, List.forall_mem_cons.mpr ⟨mo149, List.forall_mem_cons.mpr ⟨mo150, List.forall_mem_cons.mpr ⟨mo151, List.forall_mem_cons.mpr ⟨mo152, List.forall_mem_cons.mpr ⟨mo153, List.forall_mem_cons.mpr ⟨mo154, List.forall_mem_cons.mpr ⟨mo155, List.forall_mem_cons.mpr ⟨mo156, List.forall_mem_cons.mpr ⟨mo157, List.forall_mem_cons.mpr ⟨mo158, List.forall_mem_cons.mpr ⟨mo159, List.forall_mem_cons.mpr ⟨mo160, List.forall_mem_cons.mpr ⟨mo161, List.forall_mem_cons.mpr ⟨mo162, List.forall_mem_cons.mpr ⟨mo163, List.forall_mem_cons.mpr ⟨mo164, List.forall_mem_cons.mpr ⟨mo165, List.forall_mem_cons.mpr ⟨mo166, List.forall_mem_cons.mpr ⟨mo167, List.forall_mem_cons.mpr ⟨mo168, List.forall_mem_cons.mpr ⟨mo169, List.forall_mem_cons.mpr ⟨mo170, List.forall_mem_cons.mpr ⟨mo171, List.forall_mem_cons.mpr ⟨mo172, List.forall_mem_cons.mpr ⟨mo173, List.forall_mem_cons.mpr ⟨mo174, List.forall_mem_cons.mpr ⟨mo175, List.forall_mem_cons.mpr ⟨mo176, List.forall_mem_cons.mpr ⟨mo177, List.forall_mem_cons.mpr ⟨mo178, List.forall_mem_cons.mpr ⟨mo179, List.forall_mem_cons.mpr ⟨mo180, List.forall_mem_cons.mpr ⟨mo181, List.forall_mem_cons.mpr ⟨mo182, List.forall_mem_cons.mpr ⟨mo183, List.forall_mem_cons.mpr ⟨mo184, List.forall_mem_cons.mpr ⟨mo185, List.forall_mem_cons.mpr ⟨mo186, List.forall_mem_cons.mpr ⟨mo187, List.forall_mem_cons.mpr ⟨mo188, List.forall_mem_cons.mpr ⟨mo189, List.forall_mem_cons.mpr ⟨mo190, List.forall_mem_cons.mpr ⟨mo191, List.forall_mem_cons.mpr ⟨mo192, List.forall_mem_cons.mpr ⟨mo193, List.forall_mem_cons.mpr ⟨mo194, List.forall_mem_cons.mpr ⟨mo195, List.forall_mem_cons.mpr ⟨mo196, List.forall_mem_cons.mpr ⟨mo197, List.forall_mem_cons.mpr ⟨mo198, List.forall_mem_cons.mpr ⟨mo199, List.forall_mem_cons.mpr ⟨mo200, List.forall_mem_cons.mpr ⟨mo201, List.forall_mem_cons.mpr ⟨mo202, List.forall_mem_cons.mpr ⟨mo203, List.forall_mem_cons.mpr ⟨mo204, List.forall_mem_cons.mpr ⟨mo205, List.forall_mem_cons.mpr ⟨mo206, List.forall_mem_cons.mpr ⟨mo207, List.forall_mem_cons.mpr ⟨mo208, List.forall_mem_cons.mpr ⟨mo209, List.forall_mem_cons.mpr ⟨mo210, List.forall_mem_cons.mpr ⟨mo211, List.forall_mem_cons.mpr ⟨mo212, List.forall_mem_cons.mpr ⟨mo213, List.forall_mem_cons.mpr ⟨mo214, List.forall_mem_cons.mpr ⟨mo215, List.forall_mem_cons.mpr ⟨mo216, List.forall_mem_cons.mpr ⟨mo217, List.forall_mem_cons.mpr ⟨mo218, List.forall_mem_cons.mpr ⟨mo219, List.forall_mem_cons.mpr ⟨mo220, List.forall_mem_cons.mpr ⟨mo221, List.forall_mem_cons.mpr ⟨mo222, List.forall_mem_cons.mpr ⟨mo223, List.forall_mem_cons.mpr ⟨mo224, List.forall_mem_cons.mpr ⟨mo225, List.forall_mem_cons.mpr ⟨mo226, List.forall_mem_cons.mpr ⟨mo227, List.forall_mem_cons.mpr ⟨mo228, List.forall_mem_cons.mpr ⟨mo229, List.forall_mem_cons.mpr ⟨mo230, List.forall_mem_cons.mpr ⟨mo231, List.forall_mem_cons.mpr ⟨mo232, List.forall_mem_cons.mpr ⟨mo233, List.forall_mem_cons.mpr ⟨mo234, List.forall_mem_cons.mpr ⟨mo235, List.forall_mem_cons.mpr ⟨mo236, List.forall_mem_cons.mpr ⟨mo237, List.forall_mem_cons.mpr ⟨mo238, List.forall_mem_cons.mpr ⟨mo239, List.forall_mem_cons.mpr ⟨mo240, List.forall_mem_cons.mpr ⟨mo241, List.forall_mem_cons.mpr ⟨mo242, List.forall_mem_cons.mpr ⟨mo243, List.forall_mem_cons.mpr ⟨mo244, List.forall_mem_cons.mpr ⟨mo245, List.forall_mem_cons.mpr ⟨mo246, List.forall_mem_cons.mpr ⟨mo247, List.forall_mem_cons.mpr ⟨mo248, List.forall_mem_cons.mpr ⟨mo249, List.forall_mem_cons.mpr ⟨mo250, List.forall_mem_cons.mpr ⟨mo251, List.forall_mem_cons.mpr ⟨mo252, List.forall_mem_nil _⟩⟩⟩⟩⟩⟩⟩⟩⟩⟩⟩⟩⟩⟩⟩⟩⟩⟩⟩⟩⟩⟩⟩⟩⟩⟩⟩⟩⟩⟩⟩⟩⟩⟩⟩⟩⟩⟩⟩⟩⟩⟩⟩⟩⟩⟩⟩⟩⟩⟩⟩⟩⟩⟩⟩⟩⟩⟩⟩⟩⟩⟩⟩⟩⟩⟩⟩⟩⟩⟩⟩⟩⟩⟩⟩⟩⟩⟩⟩⟩⟩⟩⟩⟩⟩⟩⟩⟩⟩⟩⟩⟩⟩⟩⟩⟩⟩⟩⟩⟩⟩⟩⟩⟩⟩⟩⟩⟩⟩⟩⟩⟩⟩⟩⟩⟩⟩⟩⟩⟩⟩⟩⟩⟩⟩⟩⟩⟩⟩⟩⟩⟩⟩⟩⟩⟩⟩⟩⟩⟩⟩⟩⟩⟩⟩⟩⟩⟩⟩⟩⟩⟩⟩⟩⟩⟩⟩⟩⟩⟩⟩⟩⟩⟩⟩⟩⟩⟩⟩⟩⟩⟩⟩⟩⟩⟩⟩⟩⟩⟩⟩⟩⟩⟩⟩⟩⟩⟩⟩⟩⟩⟩⟩⟩⟩⟩⟩⟩⟩⟩⟩⟩⟩⟩⟩⟩⟩⟩⟩⟩⟩⟩⟩⟩⟩⟩⟩⟩⟩⟩⟩⟩⟩⟩⟩⟩⟩⟩⟩⟩⟩⟩⟩⟩⟩⟩⟩⟩⟩⟩⟩⟩⟩⟩⟩⟩⟩⟩⟩⟩⟩⟩⟩
set_option maxRecDepth 100000 in
theorem mt_dk : ∀ q ∈ mt, ∀ r ∈ q.2.2.2.2.2, decode q.2.1 r.1 = .ok r.2 := List.forall_mem_append.mpr ⟨List.forall_mem_cons.mpr ⟨dk0, List.forall_mem_cons.mpr ⟨dk1, List.forall_mem_cons.mpr ⟨dk2, List.forall_mem_cons.mpr ⟨dk3, List.forall_mem_cons.mpr ⟨dk4, List.forall_mem_cons.mpr ⟨dk5, List.forall_mem_cons.mpr ⟨dk6, List.forall_mem_cons.mpr ⟨dk7, List.forall_mem_cons.mpr ⟨dk8, List.forall_mem_cons.mpr ⟨dk9, List.forall_mem_cons.mpr ⟨dk10, List.forall_mem_cons.mpr ⟨dk11, List.forall_mem_cons.mpr ⟨dk12, List.forall_mem_cons.mpr ⟨dk13, List.forall_mem_cons.mpr ⟨dk14, List.forall_mem_cons.mpr ⟨dk15, List.forall_mem_cons.mpr ⟨dk16, List.forall_mem_cons.mpr ⟨dk17, List.forall_mem_cons.mpr ⟨dk18, List.forall_mem_cons.mpr ⟨dk19, List.forall_mem_cons.mpr ⟨dk20, List.forall_mem_cons.mpr ⟨dk21, List.forall_mem_cons.mpr ⟨dk22, List.forall_mem_cons.mpr ⟨dk23, List.forall_mem_cons.mpr ⟨dk24, List.forall_mem_cons.mpr ⟨dk25, List.forall_mem_cons.mpr ⟨dk26, List.forall_mem_cons.mpr ⟨dk27, List.forall_mem_cons.mpr ⟨dk28, List.forall_mem_cons.mpr ⟨dk29, List.forall_mem_cons.mpr ⟨dk30, List.forall_mem_cons.mpr ⟨dk31, List.forall_mem_cons.mpr ⟨dk32, List.forall_mem_cons.mpr ⟨dk33, List.forall_mem_cons.mpr ⟨dk34, List.forall_mem_cons.mpr ⟨dk35, List.forall_mem_cons.mpr ⟨dk36, List.forall_mem_cons.mpr ⟨dk37, List.forall_mem_cons.mpr ⟨dk38, List.forall_mem_cons.mpr ⟨dk39, List.forall_mem_cons.mpr ⟨dk40, List.forall_mem_cons.mpr ⟨dk41, List.forall_mem_cons.mpr ⟨dk42, List.forall_mem_cons.mpr ⟨dk43, List.forall_mem_cons.mpr ⟨dk44, List.forall_mem_cons.mpr ⟨dk45, List.forall_mem_cons.mpr ⟨dk46, List.forall_mem_cons.mpr ⟨dk47, List.forall_mem_cons.mpr ⟨dk48, List.forall_mem_cons.mpr ⟨dk49, List.forall_mem_cons.mpr ⟨dk50, List.forall_mem_cons.mpr ⟨dk51, List.forall_mem_cons.mpr ⟨dk52, List.forall_mem_cons.mpr ⟨dk53, List.forall_mem_cons.mpr ⟨dk54, List.forall_mem_cons.mpr ⟨dk55, List.forall_mem_cons.mpr ⟨dk56, List.forall_mem_cons.mpr ⟨dk57, List.forall_mem_cons.mpr ⟨dk58, List.forall_mem_cons.mpr ⟨dk59, List.forall_mem_cons.mpr ⟨dk60, List.forall_mem_cons.mpr ⟨dk61, List.forall_mem_cons.mpr ⟨dk62, List.forall_mem_cons.mpr ⟨dk63, List.forall_mem_cons.mpr ⟨dk64, List.forall_mem_cons.mpr ⟨dk65, List.forall_mem_cons.mpr ⟨dk66, List.forall_mem_cons.mpr ⟨dk67, List.forall_mem_cons.mpr ⟨dk68, List.forall_mem_cons.mpr ⟨dk69, List.forall_mem_cons.mpr ⟨dk70, List.forall_mem_cons.mpr ⟨dk71, List.forall_mem_cons.mpr ⟨dk72, List.forall_mem_cons.mpr ⟨dk73, List.forall_mem_cons.mpr ⟨dk74, List.forall_mem_cons.mpr ⟨dk75, List.forall_mem_cons.mpr ⟨dk76, List.forall_mem_cons.mpr ⟨dk77, List.forall_mem_cons.mpr ⟨dk78, List.forall_mem_cons.mpr ⟨dk79, List.forall_mem_cons.mpr ⟨dk80, List.forall_mem_cons.mpr ⟨dk81, List.forall_mem_cons.mpr ⟨dk82, List.forall_mem_cons.mpr ⟨dk83, List.forall_mem_cons.mpr ⟨dk84, List.forall_mem_cons.mpr ⟨dk85, List.forall_mem_cons.mpr ⟨dk86, List.forall_mem_cons.mpr ⟨dk87, List.forall_mem_cons.mpr ⟨dk88, List.forall_mem_cons.mpr ⟨dk89, List.forall_mem_cons.mpr ⟨dk90, List.forall_mem_cons.mpr ⟨dk91, List.forall_mem_cons.mpr ⟨dk92, List.forall_mem_cons.mpr ⟨dk93, List.forall_mem_cons.mpr ⟨dk94, List.forall_mem_cons.mpr ⟨dk95, List.forall_mem_cons.mpr ⟨dk96, List.forall_mem_cons.mpr ⟨dk97, List.forall_mem_cons.mpr ⟨dk98, List.forall_mem_cons.mpr ⟨dk99, List.forall_mem_cons.mpr ⟨dk100, List.forall_mem_cons.mpr ⟨dk101, List.forall_mem_cons.mpr ⟨dk102, List.forall_mem_cons.mpr ⟨dk103, List.forall_mem_cons.mpr ⟨dk104, List.forall_mem_cons.mpr ⟨dk105, List.forall_mem_cons.mpr ⟨dk106, List.forall_mem_cons.mpr ⟨dk107, List.forall_mem_cons.mpr ⟨dk108, List.forall_mem_cons.mpr ⟨dk109, List.forall_mem_cons.mpr ⟨dk110, List.forall_mem_cons.mpr ⟨dk111, List.forall_mem_cons.mpr ⟨dk112, List.forall_mem_cons.mpr ⟨dk113, List.forall_mem_cons.mpr ⟨dk114, List.forall_mem_cons.mpr ⟨dk115, List.forall_mem_cons.mpr ⟨dk116, List.forall_mem_cons.mpr ⟨dk117, List.forall_mem_cons.mpr ⟨dk118, List.forall_mem_cons.mpr ⟨dk119, List.forall_mem_cons.mpr ⟨dk120, List.forall_mem_cons.mpr ⟨dk121, List.forall_mem_cons.mpr ⟨dk122, List.forall_mem_cons.mpr ⟨dk123, List.forall_mem_cons.mpr ⟨dk124, List.forall_mem_cons.mpr ⟨dk125, List.forall_mem_cons.mpr ⟨dk126, List.forall_mem_cons.mpr ⟨dk127, List.forall_mem_cons.mpr ⟨dk128, List.forall_mem_cons.mpr ⟨dk129, List.forall_mem_cons.mpr ⟨dk130, List.forall_mem_cons.mpr ⟨dk131, List.forall_mem_cons.mpr ⟨dk132, List.forall_mem_cons.mpr ⟨dk133, List.forall_mem_cons.mpr ⟨dk134, List.forall_mem_cons.mpr ⟨dk135, List.forall_mem_cons.mpr ⟨dk136, List.forall_mem_cons.mpr ⟨dk137, List.forall_mem_cons.mpr ⟨dk138, List.forall_mem_cons.mpr ⟨dk139, List.forall_mem_cons.mpr ⟨dk140, List.forall_mem_cons.mpr ⟨dk141, List.forall_mem_cons.mpr ⟨dk142, List.forall_mem_cons.mpr ⟨dk143, List.forall_mem_cons.mpr ⟨dk144, List.forall_mem_cons.mpr ⟨dk145, List.forall_mem_cons.mpr ⟨dk146, List.forall_mem_cons.mpr ⟨dk147, List.forall_mem_cons.mpr ⟨dk148, List.forall_mem_cons.mpr ⟨dk149, List.forall_mem_cons.mpr ⟨dk150, List.forall_mem_cons.mpr ⟨dk151, List.forall_mem_cons.mpr ⟨dk152, List.forall_mem_cons.mpr ⟨dk153, List.forall_mem_cons.mpr ⟨dk154, List.forall_mem_cons.mpr ⟨dk155, List.forall_mem_cons.mpr ⟨dk156, List.forall_mem_cons.mpr ⟨dk157, List.forall_mem_cons.mpr ⟨dk158, List.forall_mem_cons.mpr ⟨dk159, List.forall_mem_cons.mpr ⟨dk160, List.forall_mem_cons.mpr ⟨dk161, List.forall_mem_cons.mpr ⟨dk162, List.forall_mem_cons.mpr ⟨dk163, List.forall_mem_cons.mpr ⟨dk164, List.forall_mem_cons.mpr ⟨dk165, List.forall_mem_cons.mpr ⟨dk166, List.forall_mem_cons.mpr ⟨dk167, List.forall_mem_cons.mpr ⟨dk168, List.forall_mem_cons.mpr ⟨dk169, List.forall_mem_cons.mpr ⟨dk170, List.forall_mem_cons.mpr ⟨dk171, List.forall_mem_cons.mpr ⟨dk172, List.forall_mem_cons.mpr ⟨dk173, List.forall_mem_cons.mpr ⟨dk174, List.forall_mem_cons.mpr ⟨dk175, List.forall_mem_cons.mpr ⟨dk176, List.forall_mem_cons.mpr ⟨dk177, List.forall_mem_cons.mpr ⟨dk178, List.forall_mem_cons.mpr ⟨dk179, List.forall_mem_cons.mpr ⟨dk180, List.forall_mem_cons.mpr ⟨dk181, List.forall_mem_cons.mpr ⟨dk182, List.forall_mem_cons.mpr ⟨dk183, List.forall_mem_cons.mpr ⟨dk184, List.forall_mem_cons.mpr ⟨dk185, List.forall_mem_cons.mpr ⟨dk186, List.forall_mem_cons.mpr ⟨dk187, List.forall_mem_cons.mpr ⟨dk188, List.forall_mem_cons.mpr ⟨dk189, List.forall_mem_cons.mpr ⟨dk190, List.forall_mem_cons.mpr ⟨dk191, List.forall_mem_cons.mpr ⟨dk192, List.forall_mem_cons.mpr ⟨dk193, List.forall_mem_cons.mpr ⟨dk194, List.forall_mem_cons.mpr ⟨dk195, List.forall_mem_cons.mpr ⟨dk196, List.forall_mem_cons.mpr ⟨dk197, List.forall_mem_cons.mpr ⟨dk198, List.forall_mem_cons.mpr ⟨dk199, List.forall_mem_cons.mpr ⟨dk200, List.forall_mem_cons.mpr ⟨dk201, List.forall_mem_cons.mpr ⟨dk202, List.forall_mem_cons.mpr ⟨dk203, List.forall_mem_cons.mpr ⟨dk204, List.forall_mem_cons.mpr ⟨dk205, List.forall_mem_cons.mpr ⟨dk206, List.forall_mem_cons.mpr ⟨dk207, List.forall_mem_cons.mpr ⟨dk208, List.forall_mem_cons.mpr ⟨dk209, List.forall_mem_cons.mpr ⟨dk210, List.forall_mem_cons.mpr ⟨dk211, List.forall_mem_cons.mpr ⟨dk212, List.forall_mem_cons.mpr ⟨dk213, List.forall_mem_cons.mpr ⟨dk214, List.forall_mem_cons.mpr ⟨dk215, List.forall_mem_cons.mpr ⟨dk216, List.forall_mem_cons.mpr ⟨dk217, List.forall_mem_cons.mpr ⟨dk218, List.forall_mem_cons.mpr ⟨dk219, List.forall_mem_cons.mpr ⟨dk220, List.forall_mem_cons.mpr ⟨dk221, List.forall_mem_cons.mpr ⟨dk222, List.forall_mem_cons.mpr ⟨dk223, List.forall_mem_cons.mpr ⟨dk224, List.forall_mem_cons.mpr ⟨dk225, List.forall_mem_cons.mpr ⟨dk226, List.forall_mem_cons.mpr ⟨dk227, List.forall_mem_cons.mpr ⟨dk228, List.forall_mem_cons.mpr ⟨dk229, List.forall_mem_cons.mpr ⟨dk230, List.forall_mem_cons.mpr ⟨dk231, List.forall_mem_cons.mpr ⟨dk232, List.forall_mem_cons.mpr ⟨dk233, List.forall_mem_cons.mpr ⟨dk234, List.forall_mem_cons.mpr ⟨dk235, List.forall_mem_cons.mpr ⟨dk236, List.forall_mem_cons.mpr ⟨dk237, List.forall_mem_cons.mpr ⟨dk238, List.forall_mem_cons.mpr ⟨dk239, List.forall_mem_cons.mpr ⟨dk240, List.forall_mem_cons.mpr ⟨dk241, List.forall_mem_cons.mpr ⟨dk242, List.forall_mem_cons.mpr ⟨dk243, List.forall_mem_cons.mpr ⟨dk244, List.forall_mem_cons.mpr ⟨dk245, List.forall_mem_cons.mpr ⟨dk246, List.forall_mem_cons.mpr ⟨dk247, List.forall_mem_cons.mpr ⟨dk248, List.forall_mem_cons.mpr ⟨dk249, List.forall_mem_cons.mpr ⟨dk250, List.forall_mem_cons.mpr ⟨dk251, List.forall_mem_cons.mpr ⟨dk252, List.forall_mem_nil _⟩⟩⟩⟩⟩⟩⟩⟩⟩⟩⟩⟩⟩⟩⟩⟩⟩⟩⟩⟩⟩⟩⟩⟩⟩⟩⟩⟩⟩⟩⟩⟩⟩⟩⟩⟩⟩⟩⟩⟩⟩⟩⟩⟩⟩⟩⟩⟩⟩⟩⟩⟩⟩⟩⟩⟩⟩⟩⟩⟩⟩⟩⟩⟩⟩⟩⟩⟩⟩⟩⟩⟩⟩⟩⟩⟩⟩⟩⟩⟩⟩⟩⟩⟩⟩⟩⟩⟩⟩⟩⟩⟩⟩⟩⟩⟩⟩⟩⟩⟩⟩⟩⟩⟩⟩⟩⟩⟩⟩⟩⟩⟩⟩⟩⟩⟩⟩⟩⟩⟩⟩⟩⟩⟩⟩⟩⟩⟩⟩⟩⟩⟩⟩⟩⟩⟩⟩⟩⟩⟩⟩⟩⟩⟩⟩⟩⟩⟩⟩⟩⟩⟩⟩⟩⟩⟩⟩⟩⟩⟩⟩⟩⟩⟩⟩⟩⟩⟩⟩⟩⟩⟩⟩⟩⟩⟩⟩⟩⟩⟩⟩⟩⟩⟩⟩⟩⟩⟩⟩⟩⟩⟩⟩⟩⟩⟩⟩⟩⟩⟩⟩⟩⟩⟩⟩⟩⟩⟩⟩⟩⟩⟩⟩⟩⟩⟩⟩⟩⟩⟩⟩⟩⟩⟩⟩⟩⟩⟩⟩⟩⟩⟩⟩⟩⟩⟩⟩⟩⟩⟩⟩⟩⟩⟩⟩⟩⟩⟩⟩⟩⟩⟩⟩, List.forall_mem_cons.mpr ⟨dk253, List.forall_mem_nil _⟩⟩
/-- our heap: (cell, kind 1 object 2 ints 3 longs 5 rows, class or length) -/
def cellsL : List (Nat × Nat × Nat) := [(10, 1, 11), (40, 1, 2), (41, 2, 8), (42, 2, 8), (43, 2, 8), (44, 2, 8), (45, 2, 8), (46, 2, 9), (47, 2, 9), (48, 2, 9), (49, 2, 9), (50, 2, 8), (51, 2, 8), (70, 1, 7), (71, 2, 120), (72, 2, 128), (73, 2, 128), (90, 1, 3), (91, 2, 128), (92, 2, 128), (93, 2, 128), (94, 2, 6), (110, 1, 8), (115, 2, 8), (140, 1, 2), (141, 2, 8), (142, 2, 8), (143, 2, 8), (144, 2, 8), (145, 2, 8), (146, 2, 9), (147, 2, 9), (148, 2, 9), (149, 2, 9), (150, 2, 8), (151, 2, 8), (170, 1, 2), (171, 2, 8), (172, 2, 8), (173, 2, 8), (174, 2, 8), (175, 2, 8), (176, 2, 9), (177, 2, 9), (178, 2, 9), (179, 2, 9), (180, 2, 8), (181, 2, 8), (200, 1, 9), (210, 1, 2), (211, 2, 8), (212, 2, 8), (213, 2, 8), (214, 2, 8), (215, 2, 8), (216, 2, 9), (217, 2, 9), (218, 2, 9), (219, 2, 9), (220, 2, 8), (221, 2, 8), (240, 1, 5), (242, 2, 8), (243, 2, 9), (250, 1, 10), (252, 2, 8), (260, 1, 1), (261, 2, 40), (262, 2, 40), (263, 2, 40), (264, 2, 40), (280, 1, 4), (281, 2, 5), (282, 2, 5), (290, 1, 2), (291, 2, 8), (292, 2, 8), (293, 2, 8), (294, 2, 8), (295, 2, 8), (296, 2, 9), (297, 2, 9), (298, 2, 9), (299, 2, 9), (300, 2, 8), (301, 2, 8), (320, 1, 0), (321, 2, 50), (322, 2, 24), (330, 1, 6), (331, 2, 6), (332, 2, 6), (333, 5, 6), (334, 3, 60), (335, 3, 60), (336, 3, 60), (337, 3, 60), (338, 3, 60), (339, 3, 60), (400, 1, 12), (401, 2, 62), (402, 2, 40), (403, 2, 40), (404, 2, 40), (409, 2, 8), (410, 2, 8), (411, 2, 120), (416, 2, 6), (417, 2, 120), (418, 2, 121), (419, 2, 121), (422, 2, 120), (423, 2, 121), (424, 2, 121), (426, 2, 121), (427, 2, 8), (428, 2, 9), (429, 2, 9), (431, 2, 8), (432, 2, 4608), (433, 2, 8), (434, 2, 3), (435, 2, 5), (439, 2, 62), (440, 2, 5), (442, 2, 50), (443, 2, 24), (447, 2, 6), (448, 2, 6), (449, 3, 360), (450, 3, 60)]
def orL : List (Nat × Nat) := [(1000, 40), (1001, 70), (1002, 90), (1003, 110), (1004, 200), (1005, 240), (1006, 250), (1007, 260), (1008, 280), (1009, 320), (1010, 330), (11000, 40), (11001, 90), (11002, 140), (11003, 170), (20000, 110), (20001, 210), (24000, 40), (25000, 40), (28002, 290)]
end
section
/-! A machine of our own over the same bytecode: its heap has a fixed shape, a reference carries its kind. Kinds of a reference (k, n, a): 0 null; 1 an object of class n at a; 2 ints of length n at a; 3 longs; 4 ints that nobody writes; 5 n rows of longs, at a + 1 + i. -/
abbrev PV : Type := Int32 ⊕ (Int64 ⊕ (Nat × Nat × Nat))
abbrev PS : Type := (Nat → Nat → Int32) × (Nat → Nat → Int64)
abbrev PR : Type := Option (Option PV × PS)
abbrev PL : Type := List (Option PV)
abbrev vI (x : Int32) : PV := .inl x
abbrev vL (x : Int64) : PV := .inr (.inl x)
abbrev vR (k n a : Nat) : PV := .inr (.inr (k, n, a))
def u2 (M : Nat → Nat → Int32) (a j : Nat) (x : Int32) : Nat → Nat → Int32 := fun c => if c = a then upd (M c) j x else M c
def u2L (M : Nat → Nat → Int64) (a j : Nat) (x : Int64) : Nat → Nat → Int64 := fun c => if c = a then vp_updL (M c) j x else M c
def c2 (M : Nat → Nat → Int32) (a b sp dp n : Nat) : Nat → Nat → Int32 := fun c => if c = b then va_cpy (M a) (M c) sp dp n else M c
def c2L (M : Nat → Nat → Int64) (a b sp dp n : Nat) : Nat → Nat → Int64 := fun c => if c = b then va_cpy (M a) (M c) sp dp n else M c
/-- an index inside -/
abbrev ib (i : Int32) (n : Nat) : Prop := 0 ≤ i.toInt ∧ i.toInt < (n : Int)
def ix (i : Int32) : Nat := i.toNatClampNeg
/-- what the rest needs of the machine's remainder -/
def rm32 (x y : Int32) : Int32 := x - x / y * y
def us32 (x y : Int32) : Int32 := (x.toUInt32 >>> (y.toUInt32 &&& Int32.toUInt32 31)).toInt32
def wd (v : PV) : Nat := match v with
  | .inr (.inl _) => 2
  | _ => 1
def xp : List PV → PL
  | [] => []
  | .inr (.inl x) :: t => some (vL x) :: none :: xp t
  | .inl x :: t => some (vI x) :: xp t
  | .inr (.inr r) :: t => some (.inr (.inr r)) :: xp t
def p1 (st : List PV) (f : Int32 → List PV → PR) : PR := match st with
  | .inl x :: r => f x r
  | _ => none
def p2 (st : List PV) (f : Int32 → Int32 → List PV → PR) : PR := match st with
  | .inl b :: .inl a :: r => f a b r
  | _ => none
def q1 (st : List PV) (f : Int64 → List PV → PR) : PR := match st with
  | .inr (.inl x) :: r => f x r
  | _ => none
def q2 (st : List PV) (f : Int64 → Int64 → List PV → PR) : PR := match st with
  | .inr (.inl b) :: .inr (.inl a) :: r => f a b r
  | _ => none
def a1 (st : List PV) (f : Nat → Nat → Nat → List PV → PR) : PR := match st with
  | .inr (.inr (k, n, a)) :: r => f k n a r
  | _ => none
def gI (ls : PL) (i : Nat) (f : Int32 → PR) : PR := match ls.getD i none with
  | some (.inl x) => f x
  | _ => none
def gL (ls : PL) (i : Nat) (f : Int64 → PR) : PR := match ls.getD i none with
  | some (.inr (.inl x)) => f x
  | _ => none
def gA (ls : PL) (i : Nat) (f : Nat → Nat → Nat → PR) : PR := match ls.getD i none with
  | some (.inr (.inr (k, n, a))) => f k n a
  | _ => none
/-- a long may not lie just below a place that is stored to -/
def noL (ls : PL) (i : Nat) : Bool := match i with
  | 0 => true
  | j + 1 => match ls.getD j none with
    | some (.inr (.inl _)) => false
    | _ => true
def sI (ls : PL) (i : Nat) (v : PV) (f : PL → PR) : PR := bif noL ls i && Nat.blt i ls.length then f (ls.set i (some v)) else none
def sL (ls : PL) (i : Nat) (v : PV) (f : PL → PR) : PR := bif noL ls i && Nat.blt (i + 1) ls.length then f ((ls.set i (some v)).set (i + 1) none) else none
def jp (pc : Nat) (off : Int) (f : Nat → PR) : PR := match (pc : Int) + off with
  | .ofNat t => f t
  | .negSucc _ => none
def br (c : ClassFile.Cond) (a b : Int32) (x y : PR) : PR := match c with
  | .eq => if a = b then x else y
  | .ne => if a = b then y else x
  | .lt => if a < b then x else y
  | .ge => if b ≤ a then x else y
  | .gt => if b < a then x else y
  | .le => if a ≤ b then x else y
def swt (pc : Nat) (dflt : Int) (x : Int32) (f : Nat → PR) : List (Int × Int) → PR
  | [] => jp pc dflt f
  | q :: t => if x = Int32.ofInt q.1 then jp pc q.2 f else swt pc dflt x f t
def tsw : Int → List Int → List (Int × Int)
  | _, [] => []
  | lo, o :: t => (lo, o) :: tsw (lo + 1) t
def bI (x : PR) (f : Int32 → PS → PR) : PR := match x with
  | some (some (.inl r), s) => f r s
  | _ => none
def bL (x : PR) (f : Int64 → PS → PR) : PR := match x with
  | some (some (.inr (.inl r)), s) => f r s
  | _ => none
def bR (x : PR) (f : Nat → Nat → Nat → PS → PR) : PR := match x with
  | some (some (.inr (.inr (k, n, a))), s) => f k n a s
  | _ => none
def bV (x : PR) (f : PS → PR) : PR := match x with
  | some (none, s) => f s
  | _ => none
def cal (k : Nat → PL → List PV → PS → PR) (pc : Nat) (ls : PL) (rest : List PV) (ret : Option FieldType) (res : PR) : PR := match ret with
  | none => bV res (fun s => k (pc + 3) ls rest s)
  | some .int => bI res (fun r s => k (pc + 3) ls (vI r :: rest) s)
  | some .boolean => bI res (fun r s => k (pc + 3) ls (vI r :: rest) s)
  | some .long => bL res (fun r s => k (pc + 3) ls (vL r :: rest) s)
  | some (.array _) => bR res (fun i n a s => k (pc + 3) ls (vR i n a :: rest) s)
  | some (.object _) => bR res (fun i n a s => k (pc + 3) ls (vR i n a :: rest) s)
  | _ => none
/-- the arrays that nobody writes: 0 the script, 1 ABOVE, 2 BODIES -/
def stA : List Int32 := [-1, 0, 0, 2, 1, 3, 0, 4]
def stB : List Int32 := [1, 10, 11, 2, 20, 0, 0, 0, 0, 30, 0, 0, 0, 41, 40, 0, 0, 0, 50, 0, 0, 0, 0, 60, 70, 0, 0, 0, 0, 80, 0, 81]
def roV (E : Nat × (Nat → Int32)) (a i : Nat) : Int32 := match a with
  | 0 => E.2 i
  | 1 => stA.getD i 0
  | _ => stB.getD i 0
def sR (c : Nat) : List (Nat × Nat × Nat × Nat) := match c with
  | 0 => [(29, 32, 2, 1016), (26, 8, 1, 1021)]
  | _ => []
def fget (σ : PS) (ci k a : Nat) (f : PV → PR) : PR := match fk ci k with
  | (0, _) => f (vI (σ.1 a k))
  | (1, _) => f (vI (σ.1 a k))
  | (2, n) => f (vR 2 n (a + 1 + k))
  | (3, n) => f (vR 3 n (a + 1 + k))
  | (4, n) => (match lk orL (a * 100 + k) with
    | some b => f (vR 1 n b)
    | none => none)
  | (5, n) => f (vR 5 n (a + 1 + k))
  | _ => none
def fput (σ : PS) (ci k a : Nat) (x : Int32) (f : PS → PR) : PR := match fk ci k with
  | (0, _) => f (u2 σ.1 a k x, σ.2)
  | (1, _) => if x = 0 ∨ x = 1 then f (u2 σ.1 a k x, σ.2) else none
  | _ => none
def aget (E : Nat × (Nat → Int32)) (σ : PS) (k n a : Nat) (i : Int32) (f : Int32 → PR) : PR := match k with
  | 2 => if ib i n then f (σ.1 a (ix i)) else none
  | 4 => if ib i n then f (roV E a (ix i)) else none
  | _ => none
def aput (σ : PS) (k n a : Nat) (i x : Int32) (f : PS → PR) : PR := match k with
  | 2 => if ib i n then f (u2 σ.1 a (ix i) x, σ.2) else none
  | _ => none
def agetL (σ : PS) (k n a : Nat) (i : Int32) (f : Int64 → PR) : PR := match k with
  | 3 => if ib i n then f (σ.2 a (ix i)) else none
  | _ => none
def aputL (σ : PS) (k n a : Nat) (i : Int32) (x : Int64) (f : PS → PR) : PR := match k with
  | 3 => if ib i n then f (σ.1, u2L σ.2 a (ix i) x) else none
  | _ => none
def agetR (k n a : Nat) (i : Int32) (f : PV → PR) : PR := match k with
  | 5 => if ib i n then f (vR 3 60 (a + 1 + ix i)) else none
  | _ => none
def alen (k n : Nat) (f : Int32 → PR) : PR := match k with
  | 2 => f (Int32.ofNat n)
  | 3 => f (Int32.ofNat n)
  | 4 => f (Int32.ofNat n)
  | 5 => f (Int32.ofNat n)
  | _ => none
def acp (args : List PV) (σ : PS) : PR := match args with
  | [.inr (.inr (2, n0, a)), .inl sp, .inr (.inr (2, n1, b)), .inl dp, .inl n] => if ¬ sp < 0 ∧ ¬ dp < 0 ∧ ¬ n < 0 ∧ ix sp + ix n ≤ n0 ∧ ix dp + ix n ≤ n1 then some (none, (c2 σ.1 a b (ix sp) (ix dp) (ix n), σ.2)) else none
  | [.inr (.inr (3, n0, a)), .inl sp, .inr (.inr (3, n1, b)), .inl dp, .inl n] => if ¬ sp < 0 ∧ ¬ dp < 0 ∧ ¬ n < 0 ∧ ix sp + ix n ≤ n0 ∧ ix dp + ix n ≤ n1 then some (none, (σ.1, c2L σ.2 a b (ix sp) (ix dp) (ix n))) else none
  | _ => none
def calV (cf : Nat → List PV → PS → PR) (k : Nat → PL → List PV → PS → PR) (pc : Nat) (ls : PL) (st : List PV) (σ : PS) (y n : Nat) : PR := match mt0[y]? with
  | some q => bif Nat.blt n st.length && Nat.ble ((st.drop (n + 1)).map wd).sum 8 then
      (match (st.take (n + 1)).reverse with
        | .inr (.inr (1, ci, a)) :: as => bif Nat.beq ci q.2.2.2.2.1 then cal k pc ls (st.drop (n + 1)) q.2.2.2.1 (cf y (vR 1 ci a :: as) σ) else none
        | _ => none)
      else none
  | none => none
def calS (cf : Nat → List PV → PS → PR) (k : Nat → PL → List PV → PS → PR) (pc : Nat) (ls : PL) (st : List PV) (σ : PS) (y n : Nat) : PR := match mt0[y]? with
  | some q => bif Nat.ble n st.length && Nat.ble ((st.drop n).map wd).sum 8 then cal k pc ls (st.drop n) q.2.2.2.1 (cf y (st.take n).reverse σ) else none
  | none => none
def calC (cf : Nat → List PV → PS → PR) (k : Nat → PL → List PV → PS → PR) (pc : Nat) (ls : PL) (st : List PV) (σ : PS) : PR :=
  bif Nat.ble 5 st.length && Nat.ble ((st.drop 5).map wd).sum 8 then bV (cf 999 (st.take 5).reverse σ) (fun s => k (pc + 3) ls (st.drop 5) s) else none
def calM (cf : Nat → List PV → PS → PR) (k : Nat → PL → List PV → PS → PR) (pc : Nat) (ls : PL) (st : List PV) (σ : PS) (y : Nat) : PR :=
  p2 st (fun a b r => bif Nat.ble (r.map wd).sum 8 then bI (cf y [vI a, vI b] σ) (fun x s => k (pc + 3) ls (vI x :: r) s) else none)
def mmx (y : Nat) (args : List PV) (σ : PS) : PR := match args with
  | [.inl a, .inl b] => (match y with
    | 998 => some (some (vI (if a < b then b else a)), σ)
    | 997 => some (some (vI (if b < a then b else a)), σ)
    | _ => none)
  | _ => none
def retI (ret : Option FieldType) (x : Int32) (σ : PS) : PR := match ret with
  | some .int => some (some (vI x), σ)
  | some .boolean => if x = 0 ∨ x = 1 then some (some (vI x), σ) else none
  | _ => none
def retL (ret : Option FieldType) (x : Int64) (σ : PS) : PR := match ret with
  | some .long => some (some (vL x), σ)
  | _ => none
def retA (ret : Option FieldType) (k n a : Nat) (σ : PS) : PR := match ret with
  | some (.array _) => some (some (vR k n a), σ)
  | some (.object _) => some (some (vR k n a), σ)
  | _ => none
def retV (ret : Option FieldType) (σ : PS) : PR := match ret with
  | none => some (none, σ)
  | _ => none
def exI (E : Nat × (Nat → Int32)) (cf : Nat → List PV → PS → PR) (k : Nat → PL → List PV → PS → PR) (q : MI) (pc : Nat) (ls : PL) (st : List PV) (σ : PS) (i : Instr) : PR := match i with
  | .aconst_null => k (pc + 1) ls (vR 0 0 0 :: st) σ
  | .iconst n => k (pc + 1) ls (vI (Int32.ofInt n) :: st) σ
  | .bipush n => k (pc + 2) ls (vI (Int8.ofInt n).toInt32 :: st) σ
  | .sipush n => k (pc + 3) ls (vI (Int16.ofInt n).toInt32 :: st) σ
  | .lconst n => k (pc + 1) ls (vL (Int64.ofNat n.val) :: st) σ
  | .ldc j => (match lk (kR q.2.2.2.2.1) j with
    | some v => k (pc + 2) ls (vI v.1 :: st) σ
    | none => none)
  | .ldc_w j => (match lk (kR q.2.2.2.2.1) j with
    | some v => k (pc + 3) ls (vI v.1 :: st) σ
    | none => none)
  | .ldc2_w j => (match lk (lR q.2.2.2.2.1) j with
    | some v => k (pc + 3) ls (vL v.1 :: st) σ
    | none => none)
  | .iload j => gI ls j (fun x => k (pc + 2) ls (vI x :: st) σ)
  | .iload_n j => gI ls j.val (fun x => k (pc + 1) ls (vI x :: st) σ)
  | .lload j => gL ls j (fun x => k (pc + 2) ls (vL x :: st) σ)
  | .lload_n j => gL ls j.val (fun x => k (pc + 1) ls (vL x :: st) σ)
  | .aload j => gA ls j (fun i n a => k (pc + 2) ls (vR i n a :: st) σ)
  | .aload_n j => gA ls j.val (fun i n a => k (pc + 1) ls (vR i n a :: st) σ)
  | .istore j => p1 st (fun x r => sI ls j (vI x) (fun ls => k (pc + 2) ls r σ))
  | .istore_n j => p1 st (fun x r => sI ls j.val (vI x) (fun ls => k (pc + 1) ls r σ))
  | .lstore j => q1 st (fun x r => sL ls j (vL x) (fun ls => k (pc + 2) ls r σ))
  | .lstore_n j => q1 st (fun x r => sL ls j.val (vL x) (fun ls => k (pc + 1) ls r σ))
  | .astore j => a1 st (fun i n a r => sI ls j (vR i n a) (fun ls => k (pc + 2) ls r σ))
  | .astore_n j => a1 st (fun i n a r => sI ls j.val (vR i n a) (fun ls => k (pc + 1) ls r σ))
  | .iinc j n => gI ls j (fun x => sI ls j (vI (x + Int32.ofInt n)) (fun ls => k (pc + 3) ls st σ))
  | .iadd => p2 st (fun a b r => k (pc + 1) ls (vI (a + b) :: r) σ)
  | .isub => p2 st (fun a b r => k (pc + 1) ls (vI (a - b) :: r) σ)
  | .imul => p2 st (fun a b r => k (pc + 1) ls (vI (a * b) :: r) σ)
  | .iand => p2 st (fun a b r => k (pc + 1) ls (vI (a &&& b) :: r) σ)
  | .ior => p2 st (fun a b r => k (pc + 1) ls (vI (a ||| b) :: r) σ)
  | .ixor => p2 st (fun a b r => k (pc + 1) ls (vI (a ^^^ b) :: r) σ)
  | .idiv => p2 st (fun a b r => if b = 0 then none else k (pc + 1) ls (vI (a / b) :: r) σ)
  | .irem => p2 st (fun a b r => if b = 0 then none else k (pc + 1) ls (vI (rm32 a b) :: r) σ)
  | .ineg => p1 st (fun a r => k (pc + 1) ls (vI (-a) :: r) σ)
  | .ishl => p2 st (fun a b r => k (pc + 1) ls (vI (a <<< (b &&& 31)) :: r) σ)
  | .ishr => p2 st (fun a b r => k (pc + 1) ls (vI (a >>> (b &&& 31)) :: r) σ)
  | .iushr => p2 st (fun a b r => k (pc + 1) ls (vI (us32 a b) :: r) σ)
  | .i2b => p1 st (fun a r => k (pc + 1) ls (vI a.toInt8.toInt32 :: r) σ)
  | .i2s => p1 st (fun a r => k (pc + 1) ls (vI a.toInt16.toInt32 :: r) σ)
  | .i2l => p1 st (fun a r => k (pc + 1) ls (vL a.toInt64 :: r) σ)
  | .l2i => q1 st (fun a r => k (pc + 1) ls (vI a.toInt32 :: r) σ)
  | .ladd => q2 st (fun a b r => k (pc + 1) ls (vL (a + b) :: r) σ)
  | .land => q2 st (fun a b r => k (pc + 1) ls (vL (a &&& b) :: r) σ)
  | .lor => q2 st (fun a b r => k (pc + 1) ls (vL (a ||| b) :: r) σ)
  | .lshl => p1 st (fun b r => q1 r (fun a r => k (pc + 1) ls (vL (a <<< (b.toInt64 &&& 63)) :: r) σ))
  | .lcmp => q2 st (fun a b r => k (pc + 1) ls (vI (lg_cmp a b) :: r) σ)
  | .dup => (match st with
    | v :: r => bif Nat.beq (wd v) 1 then k (pc + 1) ls (v :: v :: r) σ else none
    | _ => none)
  | .dup_x1 => (match st with
    | v :: w :: r => bif Nat.beq (wd v) 1 && Nat.beq (wd w) 1 then k (pc + 1) ls (v :: w :: v :: r) σ else none
    | _ => none)
  | .dup2 => (match st with
    | v :: w :: r => bif Nat.beq (wd v) 1 && Nat.beq (wd w) 1 then k (pc + 1) ls (v :: w :: v :: w :: r) σ else none
    | _ => none)
  | .pop => (match st with
    | v :: r => bif Nat.beq (wd v) 1 then k (pc + 1) ls r σ else none
    | _ => none)
  | .ifCond c off => p1 st (fun a r => jp pc off (fun t => br c a 0 (k t ls r σ) (k (pc + 3) ls r σ)))
  | .if_icmp c off => p2 st (fun a b r => jp pc off (fun t => br c a b (k t ls r σ) (k (pc + 3) ls r σ)))
  | .ifnull off => a1 st (fun i _ _ r => match i with
    | 0 => jp pc off (fun t => k t ls r σ)
    | _ => k (pc + 3) ls r σ)
  | .goto off => jp pc off (fun t => k t ls st σ)
  | .tableswitch dflt lo hi offs => bif Nat.beq offs.size (hi - lo + 1).toNat && decide (-2147483648 ≤ lo ∧ lo ≤ hi ∧ hi < 2147483648) then p1 st (fun x r => swt pc dflt x (fun t => k t ls r σ) (tsw lo offs.toList)) else none
  | .lookupswitch dflt ps => bif (ps.toList.zip (ps.toList.drop 1)).all (fun (a, next) => a.1 < next.1) && ps.toList.all (fun p => decide (-2147483648 ≤ p.1 ∧ p.1 < 2147483648)) then p1 st (fun x r => swt pc dflt x (fun t => k t ls r σ) ps.toList) else none
  | .getfield j => (match lk (fR q.2.2.2.2.1) j with
    | some (ci, s, _) => a1 st (fun i n a r => bif Nat.beq i 1 && Nat.beq n ci then fget σ ci s a (fun v => k (pc + 3) ls (v :: r) σ) else none)
    | none => none)
  | .putfield j => (match lk (fR q.2.2.2.2.1) j with
    | some (ci, s, _) => p1 st (fun x r => a1 r (fun i n a r => bif Nat.beq i 1 && Nat.beq n ci then fput σ ci s a x (fun σ => k (pc + 3) ls r σ) else none))
    | none => none)
  | .getstatic j => (match lk (sR q.2.2.2.2.1) j with
    | some (n, a, _) => k (pc + 3) ls (vR 4 n a :: st) σ
    | none => none)
  | .iaload => p1 st (fun i r => a1 r (fun kd n a r => aget E σ kd n a i (fun x => k (pc + 1) ls (vI x :: r) σ)))
  | .iastore => p2 st (fun i x r => a1 r (fun kd n a r => aput σ kd n a i x (fun σ => k (pc + 1) ls r σ)))
  | .laload => p1 st (fun i r => a1 r (fun kd n a r => agetL σ kd n a i (fun x => k (pc + 1) ls (vL x :: r) σ)))
  | .lastore => q1 st (fun x r => p1 r (fun i r => a1 r (fun kd n a r => aputL σ kd n a i x (fun σ => k (pc + 1) ls r σ))))
  | .aaload => p1 st (fun i r => a1 r (fun kd n a r => agetR kd n a i (fun v => k (pc + 1) ls (v :: r) σ)))
  | .arraylength => a1 st (fun kd n _ r => alen kd n (fun x => k (pc + 1) ls (vI x :: r) σ))
  | .invokevirtual j => (match lk (mR q.2.2.2.2.1) j with
    | some (y, 0, n, _) => calV cf k pc ls st σ y n
    | _ => none)
  | .invokestatic j => (match lk (mR q.2.2.2.2.1) j with
    | some (y, 1, n, _) => calS cf k pc ls st σ y n
    | some (y, 2, n, _) => calS cf k pc ls st σ y n
    | some (_, 3, _, _) => calC cf k pc ls st σ
    | some (_, 4, _, _) => calM cf k pc ls st σ 998
    | some (_, 5, _, _) => calM cf k pc ls st σ 997
    | _ => none)
  | .ireturn => (match st with
    | [.inl x] => retI q.2.2.2.1 x σ
    | _ => none)
  | .lreturn => (match st with
    | [.inr (.inl x)] => retL q.2.2.2.1 x σ
    | _ => none)
  | .areturn => (match st with
    | [.inr (.inr (i, n, a))] => retA q.2.2.2.1 i n a σ
    | _ => none)
  | .return_ => (match st with
    | [] => retV q.2.2.2.1 σ
    | _ => none)
  | _ => none
def run1 (E : Nat × (Nat → Int32)) (cf : Nat → List PV → PS → PR) (k : Nat → PL → List PV → PS → PR) (q : MI) (pc : Nat) (ls : PL) (st : List PV) (σ : PS) : PR := match lk q.2.2.2.2.2 pc with
  | some r => exI E cf k q pc ls st σ r.1
  | none => none
def runN (E : Nat × (Nat → Int32)) (cf : Nat → List PV → PS → PR) (q : MI) : Nat → Nat → PL → List PV → PS → PR
  | 0 => fun _ _ _ _ => none
  | n + 1 => fun pc ls st σ => run1 E cf (runN E cf q n) q pc ls st σ
def lcl (q : MI) (args : List PV) : PL := xp args ++ List.replicate (q.2.2.1 - (xp args).length) none
def evM (E : Nat × (Nat → Int32)) : Nat → Nat → Nat → List PV → PS → PR
  | 0 => fun _ _ _ _ => none
  | d + 1 => fun F y args σ => bif Nat.beq y 999 then acp args σ else bif Nat.beq y 998 || Nat.beq y 997 then mmx y args σ else match mt0[y]? with
    | some q => bif Nat.ble (xp args).length q.2.2.1 then runN E (evM E d F) q F 0 (lcl q args) [] σ else none
    | none => none
end
section
/-! the limit of our machine over its fuel, and what one instruction does there -/
abbrev CF : Type := Nat → List PV → PS → PR
abbrev KF : Type := Nat → PL → List PV → PS → PR
def Shp (f : CF → KF → PR) : Prop :=
  (∃ c : PR, ∀ cf k, f cf k = c) ∨ (∃ pc ls st s, ∀ cf k, f cf k = k pc ls st s) ∨ ∃ (y : Nat) (a : List PV) (s : PS) (g : Option PV × PS → Option (Nat × PL × List PV × PS)), ∀ cf k, f cf k = (cf y a s).bind (fun r => (g r).bind (fun c => k c.1 c.2.1 c.2.2.1 c.2.2.2))
theorem shp_c (c : PR) : Shp (fun _ _ => c) := Or.inl ⟨c, fun _ _ => rfl⟩
theorem shp_k {pc : Nat} {ls : PL} {st : List PV} {s : PS} : Shp (fun _ k => k pc ls st s) := Or.inr (Or.inl ⟨pc, ls, st, s, fun _ _ => rfl⟩)
theorem shp_p1 {st : List PV} {g : Int32 → List PV → CF → KF → PR} (h : ∀ x r, Shp (g x r)) : Shp (fun cf k => p1 st (fun x r => g x r cf k)) := match st with
  | [] => shp_c none
  | .inl x :: r => h x r
  | .inr _ :: _ => shp_c none
theorem shp_p2 {st : List PV} {g : Int32 → Int32 → List PV → CF → KF → PR} (h : ∀ x y r, Shp (g x y r)) : Shp (fun cf k => p2 st (fun x y r => g x y r cf k)) := match st with
  | [] => shp_c none
  | [.inl _] => shp_c none
  | .inl y :: .inl x :: r => h x y r
  | .inl _ :: .inr _ :: _ => shp_c none
  | .inr _ :: _ => shp_c none
theorem shp_q1 {st : List PV} {g : Int64 → List PV → CF → KF → PR} (h : ∀ x r, Shp (g x r)) : Shp (fun cf k => q1 st (fun x r => g x r cf k)) := match st with
  | [] => shp_c none
  | .inl _ :: _ => shp_c none
  | .inr (.inl x) :: r => h x r
  | .inr (.inr _) :: _ => shp_c none
theorem shp_q2 {st : List PV} {g : Int64 → Int64 → List PV → CF → KF → PR} (h : ∀ x y r, Shp (g x y r)) : Shp (fun cf k => q2 st (fun x y r => g x y r cf k)) := match st with
  | [] => shp_c none
  | .inl _ :: _ => shp_c none
  | [.inr (.inl _)] => shp_c none
  | .inr (.inl _) :: .inl _ :: _ => shp_c none
  | .inr (.inl y) :: .inr (.inl x) :: r => h x y r
  | .inr (.inl _) :: .inr (.inr _) :: _ => shp_c none
  | .inr (.inr _) :: _ => shp_c none
theorem shp_a1 {st : List PV} {g : Nat → Nat → Nat → List PV → CF → KF → PR} (h : ∀ i n a r, Shp (g i n a r)) : Shp (fun cf k => a1 st (fun i n a r => g i n a r cf k)) := match st with
  | [] => shp_c none
  | .inl _ :: _ => shp_c none
  | .inr (.inl _) :: _ => shp_c none
  | .inr (.inr (i, n, a)) :: r => h i n a r
theorem shp_gI {ls : PL} {j : Nat} {g : Int32 → CF → KF → PR} (h : ∀ x, Shp (g x)) : Shp (fun cf k => gI ls j (fun x => g x cf k)) := by
  unfold gI
  generalize ls.getD j none = v
  match v with
  | none => exact shp_c none
  | some (.inl x) => exact h x
  | some (.inr _) => exact shp_c none
theorem shp_gL {ls : PL} {j : Nat} {g : Int64 → CF → KF → PR} (h : ∀ x, Shp (g x)) : Shp (fun cf k => gL ls j (fun x => g x cf k)) := by
  unfold gL
  generalize ls.getD j none = v
  match v with
  | none => exact shp_c none
  | some (.inl _) => exact shp_c none
  | some (.inr (.inl x)) => exact h x
  | some (.inr (.inr _)) => exact shp_c none
theorem shp_gA {ls : PL} {j : Nat} {g : Nat → Nat → Nat → CF → KF → PR} (h : ∀ i n a, Shp (g i n a)) : Shp (fun cf k => gA ls j (fun i n a => g i n a cf k)) := by
  unfold gA
  generalize ls.getD j none = v
  match v with
  | none => exact shp_c none
  | some (.inl _) => exact shp_c none
  | some (.inr (.inl _)) => exact shp_c none
  | some (.inr (.inr (i, n, a))) => exact h i n a
theorem shp_bif (b : Bool) {f g : CF → KF → PR} (hf : Shp f) (hg : Shp g) : Shp (fun cf k => bif b then f cf k else g cf k) := match b with
  | true => hf
  | false => hg
theorem shp_ite {c : Prop} [Decidable c] {f g : CF → KF → PR} (hf : Shp f) (hg : Shp g) : Shp (fun cf k => if c then f cf k else g cf k) := by
  by_cases h : c
  · simp only [if_pos h]; exact hf
  · simp only [if_neg h]; exact hg
theorem shp_sI {ls : PL} {i : Nat} {v : PV} {g : PL → CF → KF → PR} (h : ∀ x, Shp (g x)) : Shp (fun cf k => sI ls i v (fun x => g x cf k)) := shp_bif _ (h _) (shp_c none)
theorem shp_sL {ls : PL} {i : Nat} {v : PV} {g : PL → CF → KF → PR} (h : ∀ x, Shp (g x)) : Shp (fun cf k => sL ls i v (fun x => g x cf k)) := shp_bif _ (h _) (shp_c none)
theorem shp_jp {pc : Nat} {off : Int} {g : Nat → CF → KF → PR} (h : ∀ x, Shp (g x)) : Shp (fun cf k => jp pc off (fun x => g x cf k)) := by
  unfold jp
  generalize (pc : Int) + off = v
  match v with
  | .ofNat t => exact h t
  | .negSucc _ => exact shp_c none
theorem shp_br {c : ClassFile.Cond} {a b : Int32} {f g : CF → KF → PR} (hf : Shp f) (hg : Shp g) : Shp (fun cf k => br c a b (f cf k) (g cf k)) := match c with
  | .eq => shp_ite hf hg
  | .ne => shp_ite hg hf
  | .lt => shp_ite hf hg
  | .ge => shp_ite hf hg
  | .gt => shp_ite hf hg
  | .le => shp_ite hf hg
theorem shp_swt {pc : Nat} {dflt : Int} {x : Int32} {g : Nat → CF → KF → PR} (h : ∀ t, Shp (g t)) : ∀ l : List (Int × Int), Shp (fun cf k => swt pc dflt x (fun t => g t cf k) l)
  | [] => shp_jp h
  | _ :: t => shp_ite (shp_jp h) (shp_swt h t)
theorem shp_fget {σ : PS} {ci s a : Nat} {g : PV → CF → KF → PR} (h : ∀ x, Shp (g x)) : Shp (fun cf k => fget σ ci s a (fun x => g x cf k)) := by
  unfold fget
  generalize fk ci s = v
  match v with
  | (0, _) => exact h _
  | (1, _) => exact h _
  | (2, n) => exact h _
  | (3, n) => exact h _
  | (4, n) =>
    generalize lk orL (a * 100 + s) = w
    match w with
    | some b => exact h _
    | none => exact shp_c none
  | (5, n) => exact h _
  | (n + 6, _) => exact shp_c none
theorem shp_fput {σ : PS} {ci s a : Nat} {x : Int32} {g : PS → CF → KF → PR} (h : ∀ x, Shp (g x)) : Shp (fun cf k => fput σ ci s a x (fun x => g x cf k)) := by
  unfold fput
  generalize fk ci s = v
  match v with
  | (0, _) => exact h _
  | (1, _) => exact shp_ite (h _) (shp_c none)
  | (n + 2, _) => exact shp_c none
theorem shp_aget {E : Nat × (Nat → Int32)} {σ : PS} {kd n a : Nat} {i : Int32} {g : Int32 → CF → KF → PR} (h : ∀ x, Shp (g x)) : Shp (fun cf k => aget E σ kd n a i (fun x => g x cf k)) := match kd with
  | 0 => shp_c none
  | 1 => shp_c none
  | 2 => shp_ite (h _) (shp_c none)
  | 3 => shp_c none
  | 4 => shp_ite (h _) (shp_c none)
  | _ + 5 => shp_c none
theorem shp_aput {σ : PS} {kd n a : Nat} {i x : Int32} {g : PS → CF → KF → PR} (h : ∀ x, Shp (g x)) : Shp (fun cf k => aput σ kd n a i x (fun x => g x cf k)) := match kd with
  | 0 => shp_c none
  | 1 => shp_c none
  | 2 => shp_ite (h _) (shp_c none)
  | _ + 3 => shp_c none
theorem shp_agetL {σ : PS} {kd n a : Nat} {i : Int32} {g : Int64 → CF → KF → PR} (h : ∀ x, Shp (g x)) : Shp (fun cf k => agetL σ kd n a i (fun x => g x cf k)) := match kd with
  | 0 => shp_c none
  | 1 => shp_c none
  | 2 => shp_c none
  | 3 => shp_ite (h _) (shp_c none)
  | _ + 4 => shp_c none
theorem shp_aputL {σ : PS} {kd n a : Nat} {i : Int32} {x : Int64} {g : PS → CF → KF → PR} (h : ∀ x, Shp (g x)) : Shp (fun cf k => aputL σ kd n a i x (fun x => g x cf k)) := match kd with
  | 0 => shp_c none
  | 1 => shp_c none
  | 2 => shp_c none
  | 3 => shp_ite (h _) (shp_c none)
  | _ + 4 => shp_c none
theorem shp_agetR {kd n a : Nat} {i : Int32} {g : PV → CF → KF → PR} (h : ∀ x, Shp (g x)) : Shp (fun cf k => agetR kd n a i (fun x => g x cf k)) := match kd with
  | 0 => shp_c none
  | 1 => shp_c none
  | 2 => shp_c none
  | 3 => shp_c none
  | 4 => shp_c none
  | 5 => shp_ite (h _) (shp_c none)
  | _ + 6 => shp_c none
theorem shp_alen {kd n : Nat} {g : Int32 → CF → KF → PR} (h : ∀ x, Shp (g x)) : Shp (fun cf k => alen kd n (fun x => g x cf k)) := match kd with
  | 0 => shp_c none
  | 1 => shp_c none
  | 2 => h _
  | 3 => h _
  | 4 => h _
  | 5 => h _
  | _ + 6 => shp_c none
/-- behind a call -/
def gcal (pc : Nat) (ls : PL) (rest : List PV) (ret : Option FieldType) (r : Option PV × PS) : Option (Nat × PL × List PV × PS) := match ret with
  | none => (match r with
    | (none, s) => some (pc + 3, ls, rest, s)
    | _ => none)
  | some .int => (match r with
    | (some (.inl x), s) => some (pc + 3, ls, vI x :: rest, s)
    | _ => none)
  | some .boolean => (match r with
    | (some (.inl x), s) => some (pc + 3, ls, vI x :: rest, s)
    | _ => none)
  | some .long => (match r with
    | (some (.inr (.inl x)), s) => some (pc + 3, ls, vL x :: rest, s)
    | _ => none)
  | some (.array _) => (match r with
    | (some (.inr (.inr (i, n, a))), s) => some (pc + 3, ls, vR i n a :: rest, s)
    | _ => none)
  | some (.object _) => (match r with
    | (some (.inr (.inr (i, n, a))), s) => some (pc + 3, ls, vR i n a :: rest, s)
    | _ => none)
  | _ => none
theorem cal_eq (k : KF) (pc : Nat) (ls : PL) (rest : List PV) (ret : Option FieldType) (res : PR) : cal k pc ls rest ret res = res.bind (fun r => (gcal pc ls rest ret r).bind (fun c => k c.1 c.2.1 c.2.2.1 c.2.2.2)) := by
  unfold cal gcal
  rcases res with _ | ⟨_ | (x | x | ⟨i, n, a⟩), s⟩ <;> rcases ret with _ | ret <;> first | rfl | (cases ret <;> rfl)
theorem shp_cal {y : Nat} {as : List PV} {s : PS} {pc : Nat} {ls : PL} {rest : List PV} {ret : Option FieldType} : Shp (fun cf k => cal k pc ls rest ret (cf y as s)) := Or.inr (Or.inr ⟨y, as, s, gcal pc ls rest ret, fun cf k => cal_eq k pc ls rest ret _⟩)
theorem shp_calV {pc : Nat} {ls : PL} {st : List PV} {σ : PS} {y n : Nat} : Shp (fun cf k => calV cf k pc ls st σ y n) := by
  unfold calV
  generalize mt0[y]? = v
  match v with
  | none => exact shp_c none
  | some q =>
    refine shp_bif _ ?_ (shp_c none)
    generalize (st.take (n + 1)).reverse = w
    match w with
    | [] => exact shp_c none
    | .inl _ :: _ => exact shp_c none
    | .inr (.inl _) :: _ => exact shp_c none
    | .inr (.inr (0, ci, a)) :: as => exact shp_c none
    | .inr (.inr (1, ci, a)) :: as => exact shp_bif _ shp_cal (shp_c none)
    | .inr (.inr (j + 2, ci, a)) :: as => exact shp_c none
theorem shp_calS {pc : Nat} {ls : PL} {st : List PV} {σ : PS} {y n : Nat} : Shp (fun cf k => calS cf k pc ls st σ y n) := by
  unfold calS
  generalize mt0[y]? = v
  match v with
  | none => exact shp_c none
  | some q => exact shp_bif _ shp_cal (shp_c none)
theorem shp_calC {pc : Nat} {ls : PL} {st : List PV} {σ : PS} : Shp (fun cf k => calC cf k pc ls st σ) := shp_bif _ (shp_cal (ret := none)) (shp_c none)
theorem shp_calM {pc : Nat} {ls : PL} {st : List PV} {σ : PS} {y : Nat} : Shp (fun cf k => calM cf k pc ls st σ y) := shp_p2 fun _ _ _ => shp_bif _ (shp_cal (ret := some .int)) (shp_c none)
set_option maxHeartbeats 4000000 in
theorem shp_exI (E : Nat × (Nat → Int32)) (q : MI) (pc : Nat) (ls : PL) (st : List PV) (σ : PS) (i : Instr) : Shp (fun cf k => exI E cf k q pc ls st σ i) := by
  cases i <;> simp only [exI]
  all_goals first
    | exact shp_c _
    | exact shp_k
    | skip
  all_goals repeat' first
    | exact shp_c _
    | exact shp_k
    | exact shp_calV
    | exact shp_calS
    | exact shp_calC
    | exact shp_calM
    | (refine shp_p1 ?_; intro _ _)
    | (refine shp_p2 ?_; intro _ _ _)
    | (refine shp_q1 ?_; intro _ _)
    | (refine shp_q2 ?_; intro _ _ _)
    | (refine shp_a1 ?_; intro _ _ _ _)
    | (refine shp_gI ?_; intro _)
    | (refine shp_gL ?_; intro _)
    | (refine shp_gA ?_; intro _ _ _)
    | (refine shp_sI ?_; intro _)
    | (refine shp_sL ?_; intro _)
    | (refine shp_jp ?_; intro _)
    | refine shp_br ?_ ?_
    | (refine shp_swt ?_ _; intro _)
    | (refine shp_fget ?_; intro _)
    | (refine shp_fput ?_; intro _)
    | (refine shp_aget ?_; intro _)
    | (refine shp_aput ?_; intro _)
    | (refine shp_agetL ?_; intro _)
    | (refine shp_aputL ?_; intro _)
    | (refine shp_agetR ?_; intro _)
    | (refine shp_alen ?_; intro _)
    | refine shp_bif _ ?_ ?_
    | refine shp_ite ?_ ?_
    | split
theorem shp_mono {f : CF → KF → PR} (h : Shp f) {cf cf' : CF} {k k' : KF} (hc : ∀ y a s x, cf y a s = some x → cf' y a s = some x) (hk : ∀ pc ls st s x, k pc ls st s = some x → k' pc ls st s = some x) {x : Option PV × PS} (e : f cf k = some x) : f cf' k' = some x := by
  rcases h with ⟨c, h⟩ | ⟨pc, ls, st, s, h⟩ | ⟨y, a, s, g, h⟩
  · rw [h] at e ⊢; exact e
  · rw [h] at e ⊢; exact hk _ _ _ _ _ e
  · rw [h] at e ⊢
    obtain ⟨r, h1, h2⟩ := Option.bind_eq_some_iff.mp e
    obtain ⟨c, h3, h4⟩ := Option.bind_eq_some_iff.mp h2
    exact Option.bind_eq_some_iff.mpr ⟨r, hc _ _ _ _ h1, Option.bind_eq_some_iff.mpr ⟨c, h3, hk _ _ _ _ _ h4⟩⟩
theorem shp_cont {f : CF → KF → PR} (h : Shp f) {cf : CF} {k : KF} (cF : Nat → CF) (kF : Nat → KF) (mc : ∀ n m y a s x, n ≤ m → cF n y a s = some x → cF m y a s = some x) (mk : ∀ n m pc ls st s x, n ≤ m → kF n pc ls st s = some x → kF m pc ls st s = some x)
    (hc : ∀ y a s x, cf y a s = some x → ∃ n, cF n y a s = some x) (hk : ∀ pc ls st s x, k pc ls st s = some x → ∃ n, kF n pc ls st s = some x) {x : Option PV × PS} (e : f cf k = some x) : ∃ n, f (cF n) (kF n) = some x := by
  rcases h with ⟨c, h⟩ | ⟨pc, ls, st, s, h⟩ | ⟨y, a, s, g, h⟩
  · exact ⟨0, by rw [h] at e ⊢; exact e⟩
  · rw [h] at e
    obtain ⟨n, hn⟩ := hk _ _ _ _ _ e
    exact ⟨n, by rw [h]; exact hn⟩
  · rw [h] at e
    obtain ⟨r, h1, h2⟩ := Option.bind_eq_some_iff.mp e
    obtain ⟨c, h3, h4⟩ := Option.bind_eq_some_iff.mp h2
    obtain ⟨n, hn⟩ := hc _ _ _ _ h1
    obtain ⟨m, hm⟩ := hk _ _ _ _ _ h4
    refine ⟨n + m, ?_⟩
    rw [h]
    exact Option.bind_eq_some_iff.mpr ⟨r, mc _ _ _ _ _ _ (Nat.le_add_right n m) hn, Option.bind_eq_some_iff.mpr ⟨c, h3, mk _ _ _ _ _ _ _ (Nat.le_add_left m n) hm⟩⟩
theorem shp_run1 (E : Nat × (Nat → Int32)) (q : MI) (pc : Nat) (ls : PL) (st : List PV) (σ : PS) : Shp (fun cf k => run1 E cf k q pc ls st σ) := by
  unfold run1
  generalize lk q.2.2.2.2.2 pc = v
  match v with
  | none => exact shp_c none
  | some r => exact shp_exI E q pc ls st σ r.1
theorem runN_mono (E : Nat × (Nat → Int32)) (q : MI) {cf cf' : CF} (hc : ∀ y a s x, cf y a s = some x → cf' y a s = some x) : ∀ (n m : Nat) (pc : Nat) (ls : PL) (st : List PV) (s : PS) (x : Option PV × PS), n ≤ m → runN E cf q n pc ls st s = some x → runN E cf' q m pc ls st s = some x
  | 0, _, _, _, _, _, _, _, e => by cases e
  | n + 1, 0, _, _, _, _, _, h, _ => absurd h (by omega)
  | n + 1, m + 1, pc, ls, st, s, x, h, e => shp_mono (shp_run1 E q pc ls st s) hc (fun pc ls st s x => runN_mono E q hc n m pc ls st s x (by omega)) e
theorem evM_mono (E : Nat × (Nat → Int32)) : ∀ (d F F' : Nat) (y : Nat) (a : List PV) (s : PS) (x : Option PV × PS), F ≤ F' → evM E d F y a s = some x → evM E d F' y a s = some x
  | 0, _, _, _, _, _, _, _, e => by cases e
  | d + 1, F, F', y, a, s, x, h, e => by
    unfold evM at e ⊢
    revert e
    cases Nat.beq y 999 with
    | true => exact fun e => e
    | false =>
      cases (Nat.beq y 998 || Nat.beq y 997) with
      | true => exact fun e => e
      | false =>
        show (match mt0[y]? with | some q => _ | none => none) = some x → (match mt0[y]? with | some q => _ | none => none) = some x
        cases mt0[y]? with
        | none => exact fun e => e
        | some q =>
          show (bif _ then _ else none) = some x → (bif _ then _ else none) = some x
          cases Nat.ble (xp a).length q.2.2.1 with
          | false => exact fun e => e
          | true => exact fun e => runN_mono E q (fun y a s x => evM_mono E d F F' y a s x h) F F' _ _ _ _ _ h e
noncomputable def lim (f : Nat → PR) : PR := @dite _ (∃ n x, f n = some x) (Classical.propDecidable _) (fun h => f h.choose) (fun _ => none)
theorem lim_iff {f : Nat → PR} (hm : ∀ n m x, n ≤ m → f n = some x → f m = some x) {x : Option PV × PS} : lim f = some x ↔ ∃ n, f n = some x := by
  constructor
  · intro h
    unfold lim at h
    by_cases hc : ∃ n x, f n = some x
    · rw [dif_pos hc] at h; exact ⟨_, h⟩
    · rw [dif_neg hc] at h; cases h
  · rintro ⟨n, h⟩
    have hc : ∃ n x, f n = some x := ⟨n, x, h⟩
    unfold lim
    rw [dif_pos hc]
    obtain ⟨y, hy⟩ := hc.choose_spec
    rw [hy]
    rcases Nat.le_total n hc.choose with q | q
    · exact hy.symm.trans (hm _ _ _ q h)
    · exact (hm _ _ _ q hy).symm.trans h
noncomputable def C (E : Nat × (Nat → Int32)) (d y : Nat) (a : List PV) (s : PS) : PR := lim (fun F => evM E d F y a s)
noncomputable def X (E : Nat × (Nat → Int32)) (d : Nat) (q : MI) (pc : Nat) (ls : PL) (st : List PV) (s : PS) : PR := lim (fun F => runN E (evM E d F) q F pc ls st s)
theorem C_iff {E : Nat × (Nat → Int32)} {d y : Nat} {a : List PV} {s : PS} {x : Option PV × PS} : C E d y a s = some x ↔ ∃ F, evM E d F y a s = some x := lim_iff (fun n m x h e => evM_mono E d n m y a s x h e)
theorem X_iff {E : Nat × (Nat → Int32)} {d : Nat} {q : MI} {pc : Nat} {ls : PL} {st : List PV} {s : PS} {x : Option PV × PS} : X E d q pc ls st s = some x ↔ ∃ F, runN E (evM E d F) q F pc ls st s = some x :=
  lim_iff (fun n m x h e => runN_mono E q (fun y a s x => evM_mono E d n m y a s x h) n m pc ls st s x h e)
/-- one instruction -/
theorem X_eq (E : Nat × (Nat → Int32)) (d : Nat) (q : MI) (pc : Nat) (ls : PL) (st : List PV) (s : PS) : X E d q pc ls st s = run1 E (C E d) (X E d q) q pc ls st s := by
  apply Option.ext
  intro x
  constructor
  · intro h
    obtain ⟨F, hF⟩ := X_iff.mp h
    cases F with
    | zero => cases hF
    | succ n =>
      refine shp_mono (shp_run1 E q pc ls st s) (fun y a s x e => C_iff.mpr ⟨_, e⟩) (fun pc ls st s x e => X_iff.mpr ⟨n + 1, ?_⟩) hF
      exact runN_mono E q (fun _ _ _ _ h => h) n (n + 1) pc ls st s x (Nat.le_succ n) e
  · intro h
    obtain ⟨n, hn⟩ := shp_cont (shp_run1 E q pc ls st s) (fun F => evM E d F) (fun F => runN E (evM E d F) q F) (fun n m y a s x h e => evM_mono E d n m y a s x h e) (fun n m pc ls st s x h e => runN_mono E q (fun y a s x => evM_mono E d n m y a s x h) n m pc ls st s x h e) (fun y a s x e => C_iff.mp e) (fun pc ls st s x e => X_iff.mp e) h
    refine X_iff.mpr ⟨n + 1, ?_⟩
    exact runN_mono E q (fun y a s x => evM_mono E d n (n + 1) y a s x (Nat.le_succ n)) (n + 1) (n + 1) pc ls st s x (Nat.le_refl _) hn
theorem C_of {E : Nat × (Nat → Int32)} {d y : Nat} {a : List PV} {s : PS} {q : MI} (h9 : Nat.beq y 999 = false) (h8 : (Nat.beq y 998 || Nat.beq y 997) = false) (hq : mt0[y]? = some q) (hl : Nat.ble (xp a).length q.2.2.1 = true) : C E (d + 1) y a s = X E d q 0 (lcl q a) [] s := by
  have e : ∀ F, evM E (d + 1) F y a s = runN E (evM E d F) q F 0 (lcl q a) [] s := by
    intro F
    show (bif Nat.beq y 999 then _ else bif (Nat.beq y 998 || Nat.beq y 997) then _ else match mt0[y]? with | some q => _ | none => none) = _
    rw [h9, h8, hq]
    show (bif Nat.ble (xp a).length q.2.2.1 then _ else none) = _
    rw [hl]
    rfl
  unfold C X
  rw [funext e]
theorem C_nat {E : Nat × (Nat → Int32)} {d y : Nat} {a : List PV} {s : PS} {r : PR} (h : ∀ F, evM E (d + 1) F y a s = r) : C E (d + 1) y a s = r := by
  apply Option.ext
  intro x
  rw [C_iff]
  constructor
  · rintro ⟨F, hF⟩; rw [h] at hF; exact hF
  · intro e; exact ⟨0, by rw [h]; exact e⟩
theorem C_copy (E : Nat × (Nat → Int32)) (d : Nat) (a : List PV) (s : PS) : C E (d + 1) 999 a s = acp a s := C_nat fun _ => rfl
theorem C_max (E : Nat × (Nat → Int32)) (d : Nat) (a b : Int32) (s : PS) : C E (d + 1) 998 [vI a, vI b] s = some (some (vI (if a < b then b else a)), s) := C_nat fun _ => rfl
theorem C_min (E : Nat × (Nat → Int32)) (d : Nat) (a b : Int32) (s : PS) : C E (d + 1) 997 [vI a, vI b] s = some (some (vI (if b < a then b else a)), s) := C_nat fun _ => rfl
/-- some instructions at once, up to places where it stops -/
def goN (E : Nat × (Nat → Int32)) (cf : CF) (kk : KF) (stop : List Nat) (q : MI) : Nat → Nat → PL → List PV → PS → PR
  | 0 => fun pc ls st s => kk pc ls st s
  | n + 1 => fun pc ls st s => bif stop.elem pc then kk pc ls st s else run1 E cf (goN E cf kk stop q n) q pc ls st s
theorem X_goN (E : Nat × (Nat → Int32)) (d : Nat) (q : MI) (stop : List Nat) : ∀ (n pc : Nat) (ls : PL) (st : List PV) (s : PS), goN E (C E d) (X E d q) stop q n pc ls st s = X E d q pc ls st s
  | 0, _, _, _, _ => rfl
  | n + 1, pc, ls, st, s => by
    unfold goN
    cases stop.elem pc with
    | true => rfl
    | false =>
      show run1 E (C E d) (goN E (C E d) (X E d q) stop q n) q pc ls st s = _
      rw [X_eq, show goN E (C E d) (X E d q) stop q n = X E d q from funext fun a => funext fun b => funext fun c => funext fun e => X_goN E d q stop n a b c e]
theorem X_go (E : Nat × (Nat → Int32)) (d : Nat) (q : MI) (stop : List Nat) (n pc : Nat) (ls : PL) (st : List PV) (s : PS) : X E d q pc ls st s = run1 E (C E d) (goN E (C E d) (X E d q) stop q n) q pc ls st s := by
  rw [X_eq, show goN E (C E d) (X E d q) stop q n = X E d q from funext fun a => funext fun b => funext fun c => funext fun e => X_goN E d q stop n a b c e]
end
section
/-! generated by wip/whole/gen.py and written by hand: the words that the links need, and the world that our state stands for -/
def fN (ci : Nat) : Nat := (fkL.getD ci []).length
def isNest : Cond → Bool
  | .fieldLinkNest _ _ _ _ _ _ => true
  | .methodLinkNest _ _ _ _ => true
  | _ => false
def gw : List Cond := lw_tbl.filter goodWord
def nwL : List Cond := lw_tbl.filter isNest
theorem gw_of {p : Nat} {w : Cond} (h : lw_tbl[p]? = some w) (hg : goodWord w = true) : w ∈ gw := List.mem_filter.mpr ⟨List.mem_of_getElem? h, hg⟩
theorem nw_of {p : Nat} {w : Cond} (h : lw_tbl[p]? = some w) (hg : isNest w = true) : w ∈ nwL := List.mem_filter.mpr ⟨List.mem_of_getElem? h, hg⟩
def clsOk (ci : Nat) (q : vw_C) : Prop := (∀ w ∈ u_ws q.1 q.2.1 q.2.2, w ∈ gw) ∧ q.2.2 = fN ci ∧ q.1 = cn ci ∧ (∀ k, k < q.2.2 → (q.2.1 k).1 = q.1) ∧ ∃ ty0 : Nat → FieldType, (∀ k, k < q.2.2 → parseFieldDescriptor (q.2.1 k).2.2.1 = some (ty0 k)) ∧ (∀ a, a < q.2.2 → ∀ b, b < q.2.2 → a ≠ b → (q.2.1 a).2.1 ≠ (q.2.1 b).2.1) ∧ ∀ k, k < q.2.2 → ((fk ci k).1 = 0 → ty0 k = .int ∧ (q.2.1 k).2.2.2 = false) ∧ ((fk ci k).1 = 1 → ty0 k = .boolean ∧ (q.2.1 k).2.2.2 = false)
theorem cls_ok0 : clsOk 0 ("BeggarBridge$Arches", ft0, 4) := ⟨fun w hw => List.mem_filter.mpr ⟨fw0 w hw, List.all_eq_true.mp (by decide +kernel : (u_ws "BeggarBridge$Arches" ft0 4).all goodWord = true) w hw⟩, by decide +kernel, by decide +kernel, by decide +kernel, fy0, fy0_ok, fn0, by decide +kernel⟩
theorem cls_ok1 : clsOk 1 ("BeggarBridge$Changes", ft1, 6) := ⟨fun w hw => List.mem_filter.mpr ⟨fw1 w hw, List.all_eq_true.mp (by decide +kernel : (u_ws "BeggarBridge$Changes" ft1 6).all goodWord = true) w hw⟩, by decide +kernel, by decide +kernel, by decide +kernel, fy1, fy1_ok, fn1, by decide +kernel⟩
theorem cls_ok2 : clsOk 2 ("BeggarBridge$County", ft2, 15) := ⟨fun w hw => List.mem_filter.mpr ⟨fw2 w hw, List.all_eq_true.mp (by decide +kernel : (u_ws "BeggarBridge$County" ft2 15).all goodWord = true) w hw⟩, by decide +kernel, by decide +kernel, by decide +kernel, fy2, fy2_ok, fn2, by decide +kernel⟩
theorem cls_ok3 : clsOk 3 ("BeggarBridge$Law", ft3, 5) := ⟨fun w hw => List.mem_filter.mpr ⟨fw3 w hw, List.all_eq_true.mp (by decide +kernel : (u_ws "BeggarBridge$Law" ft3 5).all goodWord = true) w hw⟩, by decide +kernel, by decide +kernel, by decide +kernel, fy3, fy3_ok, fn3, by decide +kernel⟩
theorem cls_ok4 : clsOk 4 ("BeggarBridge$Ledger", ft4, 4) := ⟨fun w hw => List.mem_filter.mpr ⟨fw4 w hw, List.all_eq_true.mp (by decide +kernel : (u_ws "BeggarBridge$Ledger" ft4 4).all goodWord = true) w hw⟩, by decide +kernel, by decide +kernel, by decide +kernel, fy4, fy4_ok, fn4, by decide +kernel⟩
theorem cls_ok5 : clsOk 5 ("BeggarBridge$Seats", ft5, 4) := ⟨fun w hw => List.mem_filter.mpr ⟨fw5 w hw, List.all_eq_true.mp (by decide +kernel : (u_ws "BeggarBridge$Seats" ft5 4).all goodWord = true) w hw⟩, by decide +kernel, by decide +kernel, by decide +kernel, fy5, fy5_ok, fn5, by decide +kernel⟩
theorem cls_ok6 : clsOk 6 ("BeggarBridge$Shelves", ft6, 3) := ⟨fun w hw => List.mem_filter.mpr ⟨fw6 w hw, List.all_eq_true.mp (by decide +kernel : (u_ws "BeggarBridge$Shelves" ft6 3).all goodWord = true) w hw⟩, by decide +kernel, by decide +kernel, by decide +kernel, fy6, fy6_ok, fn6, by decide +kernel⟩
theorem cls_ok7 : clsOk 7 ("BeggarBridge$Tape", ft7, 7) := ⟨fun w hw => List.mem_filter.mpr ⟨fw7 w hw, List.all_eq_true.mp (by decide +kernel : (u_ws "BeggarBridge$Tape" ft7 7).all goodWord = true) w hw⟩, by decide +kernel, by decide +kernel, by decide +kernel, fy7, fy7_ok, fn7, by decide +kernel⟩
theorem cls_ok8 : clsOk 8 ("BeggarBridge$Thought", ft8, 10) := ⟨fun w hw => List.mem_filter.mpr ⟨fw8 w hw, List.all_eq_true.mp (by decide +kernel : (u_ws "BeggarBridge$Thought" ft8 10).all goodWord = true) w hw⟩, by decide +kernel, by decide +kernel, by decide +kernel, fy8, fy8_ok, fn8, by decide +kernel⟩
theorem cls_ok9 : clsOk 9 ("BeggarBridge$Turns", ft9, 6) := ⟨fun w hw => List.mem_filter.mpr ⟨fw9 w hw, List.all_eq_true.mp (by decide +kernel : (u_ws "BeggarBridge$Turns" ft9 6).all goodWord = true) w hw⟩, by decide +kernel, by decide +kernel, by decide +kernel, fy9, fy9_ok, fn9, by decide +kernel⟩
theorem cls_ok10 : clsOk 10 ("BeggarBridge$Ways", ft10, 2) := ⟨fun w hw => List.mem_filter.mpr ⟨fw10 w hw, List.all_eq_true.mp (by decide +kernel : (u_ws "BeggarBridge$Ways" ft10 2).all goodWord = true) w hw⟩, by decide +kernel, by decide +kernel, by decide +kernel, fy10, fy10_ok, fn10, by decide +kernel⟩
theorem cls_ok11 : clsOk 11 ("BeggarBridge", ft11, 11) := ⟨fun w hw => List.mem_filter.mpr ⟨fw11 w hw, List.all_eq_true.mp (by decide +kernel : (u_ws "BeggarBridge" ft11 11).all goodWord = true) w hw⟩, by decide +kernel, by decide +kernel, by decide +kernel, fy11, fy11_ok, fn11, by decide +kernel⟩
theorem cls_ok12 : clsOk 12 ("BeggarBridgeModel", ft12, 50) := ⟨fun w hw => List.mem_filter.mpr ⟨fw12 w hw, List.all_eq_true.mp (by decide +kernel : (u_ws "BeggarBridgeModel" ft12 50).all goodWord = true) w hw⟩, by decide +kernel, by decide +kernel, by decide +kernel, fy12, fy12_ok, fn12, by decide +kernel⟩
theorem cls_ok : ∀ (ci : Nat) (q : vw_C), clsL[ci]? = some q → clsOk ci q := by
  intro ci q h
  match ci, h with
  | 0, h => cases h; exact cls_ok0
  | 1, h => cases h; exact cls_ok1
  | 2, h => cases h; exact cls_ok2
  | 3, h => cases h; exact cls_ok3
  | 4, h => cases h; exact cls_ok4
  | 5, h => cases h; exact cls_ok5
  | 6, h => cases h; exact cls_ok6
  | 7, h => cases h; exact cls_ok7
  | 8, h => cases h; exact cls_ok8
  | 9, h => cases h; exact cls_ok9
  | 10, h => cases h; exact cls_ok10
  | 11, h => cases h; exact cls_ok11
  | 12, h => cases h; exact cls_ok12
  | n + 13, h => simp [clsL] at h
def fRb (c : Nat) (r : Nat × Nat × Nat × Bool × Nat) : Bool := match clsL[r.2.1]? with
  | some q => decide (r.2.2.1 < q.2.2) && (match r.2.2.2.1 with
    | true => decide (lw_tbl[r.2.2.2.2]? = some (.fieldLinkNest (cn c) r.1 q.1 (q.2.1 r.2.2.1).2.1 (q.2.1 r.2.2.1).2.2.1 "BeggarBridge"))
    | false => decide (lw_tbl[r.2.2.2.2]? = some (.fieldLink (cn c) r.1 q.1 (q.2.1 r.2.2.1).2.1 (q.2.1 r.2.2.1).2.2.1)) && goodWord (.fieldLink (cn c) r.1 q.1 (q.2.1 r.2.2.1).2.1 (q.2.1 r.2.2.1).2.2.1))
  | none => false
theorem fR_ok : ∀ c, c < 17 → ∀ r ∈ fR c, fRb c r = true := by decide +kernel
def mRb (c : Nat) (r : Nat × Nat × Nat × Nat × Nat × Nat × Nat) : Bool := match r with
  | (j, y, kd, n, p1, p2, p3) => match kd with
    | 0 => (match mt0[y]? with
      | some q => decide (lw_tbl[p1]? = some (.methodLink (cn c) j q.1)) && goodWord (.methodLink (cn c) j q.1) && (decide (lw_tbl[p2]? = some (.instanceMethod q.1)) && goodWord (.instanceMethod q.1)) && (decide (lw_tbl[p3]? = some (.selects q.1.cls q.1 q.1)) && goodWord (.selects q.1.cls q.1 q.1)) && decide ((parseMethodDescriptor q.1.desc).map (fun d => d.parameters.length) = some n)
      | none => false)
    | 1 => (match mt0[y]? with
      | some q => decide (lw_tbl[p1]? = some (.methodLink (cn c) j q.1)) && goodWord (.methodLink (cn c) j q.1) && (decide (lw_tbl[p2]? = some (.static q.1)) && goodWord (.static q.1)) && decide ((parseMethodDescriptor q.1.desc).map (fun d => d.parameters.length) = some n)
      | none => false)
    | 2 => (match mt0[y]? with
      | some q => decide (lw_tbl[p1]? = some (.methodLinkNest (cn c) j q.1 "BeggarBridge")) && (decide (lw_tbl[p2]? = some (.static q.1)) && goodWord (.static q.1)) && decide ((parseMethodDescriptor q.1.desc).map (fun d => d.parameters.length) = some n)
      | none => false)
    | 3 => decide (lw_tbl[p1]? = some (.methodLink (cn c) j arraycopyName)) && goodWord (.methodLink (cn c) j arraycopyName)
    | 4 => decide (lw_tbl[p1]? = some (.methodLink (cn c) j Lib.Math.max.name)) && goodWord (.methodLink (cn c) j Lib.Math.max.name)
    | 5 => decide (lw_tbl[p1]? = some (.methodLink (cn c) j Lib.Math.min.name)) && goodWord (.methodLink (cn c) j Lib.Math.min.name)
    | _ => false
theorem all_chunks {α : Type} (p : α → Bool) (l : List α) (K : Nat) (h : ∀ j, j < K → ((l.drop (12 * j)).take 12).all p = true) (hl : l.length ≤ 12 * K) : ∀ r ∈ l, p r = true := by
  intro r hr
  obtain ⟨i, hi, rfl⟩ := List.getElem_of_mem hr
  have hj : i / 12 < K := by omega
  have h1 := List.all_eq_true.mp (h (i / 12) hj) l[i]
  refine h1 ?_
  rw [List.mem_iff_getElem?]
  refine ⟨i % 12, ?_⟩
  rw [List.getElem?_take, if_pos (Nat.mod_lt _ (by omega)), List.getElem?_drop, Nat.div_add_mod, List.getElem?_eq_getElem hi]
theorem mR_ok0_0 : (((mR 0).drop (12 * 0)).take 12).all (mRb 0) = true := by decide +kernel
theorem mR_ok0 : ∀ r ∈ mR 0, mRb 0 r = true := all_chunks _ _ 1 (fun j hj => by
  match j, hj with
  | 0, _ => exact mR_ok0_0
  | n + 1, h => omega) (by decide +kernel)
theorem mR_ok1_0 : (((mR 1).drop (12 * 0)).take 12).all (mRb 1) = true := by decide +kernel
theorem mR_ok1 : ∀ r ∈ mR 1, mRb 1 r = true := all_chunks _ _ 1 (fun j hj => by
  match j, hj with
  | 0, _ => exact mR_ok1_0
  | n + 1, h => omega) (by decide +kernel)
theorem mR_ok2_0 : (((mR 2).drop (12 * 0)).take 12).all (mRb 2) = true := by decide +kernel
theorem mR_ok2_1 : (((mR 2).drop (12 * 1)).take 12).all (mRb 2) = true := by decide +kernel
theorem mR_ok2 : ∀ r ∈ mR 2, mRb 2 r = true := all_chunks _ _ 2 (fun j hj => by
  match j, hj with
  | 0, _ => exact mR_ok2_0
  | 1, _ => exact mR_ok2_1
  | n + 2, h => omega) (by decide +kernel)
theorem mR_ok3_0 : (((mR 3).drop (12 * 0)).take 12).all (mRb 3) = true := by decide +kernel
theorem mR_ok3 : ∀ r ∈ mR 3, mRb 3 r = true := all_chunks _ _ 1 (fun j hj => by
  match j, hj with
  | 0, _ => exact mR_ok3_0
  | n + 1, h => omega) (by decide +kernel)
theorem mR_ok4_0 : (((mR 4).drop (12 * 0)).take 12).all (mRb 4) = true := by decide +kernel
theorem mR_ok4 : ∀ r ∈ mR 4, mRb 4 r = true := all_chunks _ _ 1 (fun j hj => by
  match j, hj with
  | 0, _ => exact mR_ok4_0
  | n + 1, h => omega) (by decide +kernel)
theorem mR_ok5_0 : (((mR 5).drop (12 * 0)).take 12).all (mRb 5) = true := by decide +kernel
theorem mR_ok5 : ∀ r ∈ mR 5, mRb 5 r = true := all_chunks _ _ 1 (fun j hj => by
  match j, hj with
  | 0, _ => exact mR_ok5_0
  | n + 1, h => omega) (by decide +kernel)
theorem mR_ok6_0 : (((mR 6).drop (12 * 0)).take 12).all (mRb 6) = true := by decide +kernel
theorem mR_ok6 : ∀ r ∈ mR 6, mRb 6 r = true := all_chunks _ _ 1 (fun j hj => by
  match j, hj with
  | 0, _ => exact mR_ok6_0
  | n + 1, h => omega) (by decide +kernel)
theorem mR_ok7_0 : (((mR 7).drop (12 * 0)).take 12).all (mRb 7) = true := by decide +kernel
theorem mR_ok7 : ∀ r ∈ mR 7, mRb 7 r = true := all_chunks _ _ 1 (fun j hj => by
  match j, hj with
  | 0, _ => exact mR_ok7_0
  | n + 1, h => omega) (by decide +kernel)
theorem mR_ok8_0 : (((mR 8).drop (12 * 0)).take 12).all (mRb 8) = true := by decide +kernel
theorem mR_ok8_1 : (((mR 8).drop (12 * 1)).take 12).all (mRb 8) = true := by decide +kernel
theorem mR_ok8 : ∀ r ∈ mR 8, mRb 8 r = true := all_chunks _ _ 2 (fun j hj => by
  match j, hj with
  | 0, _ => exact mR_ok8_0
  | 1, _ => exact mR_ok8_1
  | n + 2, h => omega) (by decide +kernel)
theorem mR_ok9_0 : (((mR 9).drop (12 * 0)).take 12).all (mRb 9) = true := by decide +kernel
theorem mR_ok9 : ∀ r ∈ mR 9, mRb 9 r = true := all_chunks _ _ 1 (fun j hj => by
  match j, hj with
  | 0, _ => exact mR_ok9_0
  | n + 1, h => omega) (by decide +kernel)
theorem mR_ok10_0 : (((mR 10).drop (12 * 0)).take 12).all (mRb 10) = true := by decide +kernel
theorem mR_ok10 : ∀ r ∈ mR 10, mRb 10 r = true := all_chunks _ _ 1 (fun j hj => by
  match j, hj with
  | 0, _ => exact mR_ok10_0
  | n + 1, h => omega) (by decide +kernel)
theorem mR_ok11_0 : (((mR 11).drop (12 * 0)).take 12).all (mRb 11) = true := by decide +kernel
theorem mR_ok11_1 : (((mR 11).drop (12 * 1)).take 12).all (mRb 11) = true := by decide +kernel
theorem mR_ok11_2 : (((mR 11).drop (12 * 2)).take 12).all (mRb 11) = true := by decide +kernel
theorem mR_ok11_3 : (((mR 11).drop (12 * 3)).take 12).all (mRb 11) = true := by decide +kernel
theorem mR_ok11_4 : (((mR 11).drop (12 * 4)).take 12).all (mRb 11) = true := by decide +kernel
theorem mR_ok11_5 : (((mR 11).drop (12 * 5)).take 12).all (mRb 11) = true := by decide +kernel
theorem mR_ok11_6 : (((mR 11).drop (12 * 6)).take 12).all (mRb 11) = true := by decide +kernel
theorem mR_ok11 : ∀ r ∈ mR 11, mRb 11 r = true := all_chunks _ _ 7 (fun j hj => by
  match j, hj with
  | 0, _ => exact mR_ok11_0
  | 1, _ => exact mR_ok11_1
  | 2, _ => exact mR_ok11_2
  | 3, _ => exact mR_ok11_3
  | 4, _ => exact mR_ok11_4
  | 5, _ => exact mR_ok11_5
  | 6, _ => exact mR_ok11_6
  | n + 7, h => omega) (by decide +kernel)
theorem mR_ok12_0 : (((mR 12).drop (12 * 0)).take 12).all (mRb 12) = true := by decide +kernel
theorem mR_ok12_1 : (((mR 12).drop (12 * 1)).take 12).all (mRb 12) = true := by decide +kernel
theorem mR_ok12_2 : (((mR 12).drop (12 * 2)).take 12).all (mRb 12) = true := by decide +kernel
theorem mR_ok12_3 : (((mR 12).drop (12 * 3)).take 12).all (mRb 12) = true := by decide +kernel
theorem mR_ok12_4 : (((mR 12).drop (12 * 4)).take 12).all (mRb 12) = true := by decide +kernel
theorem mR_ok12 : ∀ r ∈ mR 12, mRb 12 r = true := all_chunks _ _ 5 (fun j hj => by
  match j, hj with
  | 0, _ => exact mR_ok12_0
  | 1, _ => exact mR_ok12_1
  | 2, _ => exact mR_ok12_2
  | 3, _ => exact mR_ok12_3
  | 4, _ => exact mR_ok12_4
  | n + 5, h => omega) (by decide +kernel)
theorem mR_ok16_0 : (((mR 16).drop (12 * 0)).take 12).all (mRb 16) = true := by decide +kernel
theorem mR_ok16_1 : (((mR 16).drop (12 * 1)).take 12).all (mRb 16) = true := by decide +kernel
theorem mR_ok16_2 : (((mR 16).drop (12 * 2)).take 12).all (mRb 16) = true := by decide +kernel
theorem mR_ok16_3 : (((mR 16).drop (12 * 3)).take 12).all (mRb 16) = true := by decide +kernel
theorem mR_ok16_4 : (((mR 16).drop (12 * 4)).take 12).all (mRb 16) = true := by decide +kernel
theorem mR_ok16_5 : (((mR 16).drop (12 * 5)).take 12).all (mRb 16) = true := by decide +kernel
theorem mR_ok16_6 : (((mR 16).drop (12 * 6)).take 12).all (mRb 16) = true := by decide +kernel
theorem mR_ok16 : ∀ r ∈ mR 16, mRb 16 r = true := all_chunks _ _ 7 (fun j hj => by
  match j, hj with
  | 0, _ => exact mR_ok16_0
  | 1, _ => exact mR_ok16_1
  | 2, _ => exact mR_ok16_2
  | 3, _ => exact mR_ok16_3
  | 4, _ => exact mR_ok16_4
  | 5, _ => exact mR_ok16_5
  | 6, _ => exact mR_ok16_6
  | n + 7, h => omega) (by decide +kernel)
theorem mR_ok : ∀ c, c < 17 → ∀ r ∈ mR c, mRb c r = true := by
  intro c hc
  match c, hc with
  | 0, _ => exact mR_ok0
  | 1, _ => exact mR_ok1
  | 2, _ => exact mR_ok2
  | 3, _ => exact mR_ok3
  | 4, _ => exact mR_ok4
  | 5, _ => exact mR_ok5
  | 6, _ => exact mR_ok6
  | 7, _ => exact mR_ok7
  | 8, _ => exact mR_ok8
  | 9, _ => exact mR_ok9
  | 10, _ => exact mR_ok10
  | 11, _ => exact mR_ok11
  | 12, _ => exact mR_ok12
  | 13, _ => exact fun r hr => by cases hr
  | 14, _ => exact fun r hr => by cases hr
  | 15, _ => exact fun r hr => by cases hr
  | 16, _ => exact mR_ok16
  | n + 17, h => omega
theorem kR_ok : ∀ c, c < 17 → ∀ r ∈ kR c, lw_tbl[r.2.2]? = some (.constant (cn c) r.1 r.2.1) ∧ goodWord (.constant (cn c) r.1 r.2.1) = true := by decide +kernel
theorem lR_ok : ∀ c, c < 17 → ∀ r ∈ lR c, lw_tbl[r.2.2]? = some (.constantLong (cn c) r.1 r.2.1) ∧ goodWord (.constantLong (cn c) r.1 r.2.1) = true := by decide +kernel
theorem sR_ok : lw_tbl[1016]? = some (.fieldLink (cn 0) 29 (cn 0) "BODIES" "[I") ∧ lw_tbl[1021]? = some (.fieldLink (cn 0) 26 (cn 0) "ABOVE" "[I") ∧ goodWord (.fieldLink (cn 0) 29 (cn 0) "BODIES" "[I") = true ∧ goodWord (.fieldLink (cn 0) 26 (cn 0) "ABOVE" "[I") = true := by decide +kernel
theorem ac_ok : Cond.native arraycopyName ∈ gw ∧ Cond.static arraycopyName ∈ gw ∧ Cond.initialized "java/lang/System" ∈ gw := ⟨gw_of (p := 547) (by decide +kernel) (by decide +kernel), gw_of (p := 546) (by decide +kernel) (by decide +kernel), gw_of (p := 85) (by decide +kernel) (by decide +kernel)⟩
theorem mmax_ok : Cond.static Lib.Math.max.name ∈ gw ∧ Cond.code Lib.Math.max.name Lib.Math.max.code 2 (some .int) ∈ gw ∧ Cond.initialized "java/lang/Math" ∈ gw := ⟨gw_of (p := 646) (by decide +kernel) (by decide +kernel), gw_of (p := 647) (by decide +kernel) (by decide +kernel), gw_of (p := 87) (by decide +kernel) (by decide +kernel)⟩
theorem mmin_ok : Cond.static Lib.Math.min.name ∈ gw ∧ Cond.code Lib.Math.min.name Lib.Math.min.code 2 (some .int) ∈ gw ∧ Cond.initialized "java/lang/Math" ∈ gw := ⟨gw_of (p := 643) (by decide +kernel) (by decide +kernel), gw_of (p := 644) (by decide +kernel) (by decide +kernel), gw_of (p := 87) (by decide +kernel) (by decide +kernel)⟩
/-- lengths of instructions, as decode gives them -/
def lenOk (r : Nat × Instr × Nat) : Bool := match r.2.1 with
  | .tableswitch _ _ _ _ => true
  | .lookupswitch _ _ => true
  | .bipush _ => r.2.2 == 2
  | .sipush _ => r.2.2 == 3
  | .ldc _ => r.2.2 == 2
  | .ldc_w _ => r.2.2 == 3
  | .ldc2_w _ => r.2.2 == 3
  | .iload _ => r.2.2 == 2
  | .lload _ => r.2.2 == 2
  | .aload _ => r.2.2 == 2
  | .istore _ => r.2.2 == 2
  | .lstore _ => r.2.2 == 2
  | .astore _ => r.2.2 == 2
  | .iinc _ _ => r.2.2 == 3
  | .ifCond _ _ => r.2.2 == 3
  | .if_icmp _ _ => r.2.2 == 3
  | .ifnull _ => r.2.2 == 3
  | .goto _ => r.2.2 == 3
  | .getfield _ => r.2.2 == 3
  | .putfield _ => r.2.2 == 3
  | .getstatic _ => r.2.2 == 3
  | .invokevirtual _ => r.2.2 == 3
  | .invokestatic _ => r.2.2 == 3
  | .invokespecial _ => true
  | .new _ => true
  | .newarray _ => true
  | .multianewarray _ _ => true
  | _ => r.2.2 == 1
theorem len_ok : ∀ q ∈ mt, ∀ r ∈ q.2.2.2.2.2, lenOk r = true := by decide +kernel
theorem mc_ok : ∀ q ∈ mt, q.2.2.2.2.1 < 17 ∧ q.2.2.1 ≤ 40 := by decide +kernel
/-- a cell of our heap -/
def inC (a k n : Nat) : Prop := (a, k, n) ∈ cellsL
/-- what fields lead to -/
def shb (q : Nat × Nat × Nat) : Bool := match q.2.1 with
  | 1 => decide (q.2.2 < 13) && (List.range (fN q.2.2)).all (fun k => match fk q.2.2 k with
    | (0, _) => true
    | (1, _) => true
    | (2, n) => cellsL.elem (q.1 + 1 + k, 2, n)
    | (3, n) => cellsL.elem (q.1 + 1 + k, 3, n)
    | (4, n) => (match lk orL (q.1 * 100 + k) with
      | some b => cellsL.elem (b, 1, n)
      | none => false)
    | (5, n) => cellsL.elem (q.1 + 1 + k, 5, n)
    | _ => false)
  | 5 => (List.range q.2.2).all (fun i => cellsL.elem (q.1 + 1 + i, 3, 60))
  | 2 => true
  | 3 => true
  | _ => false
theorem sh_ok : ∀ q ∈ cellsL, shb q = true := by decide +kernel
theorem cell_len : ∀ q ∈ cellsL, q.2.2 < 65536 := by decide +kernel
def ndL : List Nat → Bool
  | [] => true
  | a :: t => !t.elem a && ndL t
theorem cells_nd : ndL (cellsL.map (·.1)) = true := by decide +kernel
end
section
/-! the world that a state of our machine stands for -/
def cv (ad adR : Nat → Nat) (v : PV) : Value := match v with
  | .inl x => .int x
  | .inr (.inl x) => .long x
  | .inr (.inr (0, _, _)) => .null
  | .inr (.inr (4, _, a)) => .ref (adR a)
  | .inr (.inr (_, _, a)) => .ref (ad a)
def roN (E : Nat × (Nat → Int32)) (a : Nat) : Nat := match a with
  | 0 => E.1
  | 1 => 8
  | _ => 32
def okV (E : Nat × (Nat → Int32)) (v : PV) : Prop := match v with
  | .inl _ => True
  | .inr (.inl _) => True
  | .inr (.inr (0, _, _)) => True
  | .inr (.inr (4, n, a)) => a < 3 ∧ n = roN E a
  | .inr (.inr (k, n, a)) => (a, k, n) ∈ cellsL
def okO (E : Nat × (Nat → Int32)) (r : Option PV) : Prop := ∀ v, r = some v → okV E v
def okS (E : Nat × (Nat → Int32)) (st : List PV) : Prop := ∀ v ∈ st, okV E v
def okL (E : Nat × (Nat → Int32)) (ls : PL) : Prop := ∀ (i : Nat) (v : PV), ls[i]? = some (some v) → okV E v
def fval (ad : Nat → Nat) (σ : PS) (ci a k : Nat) : Value := match fk ci k with
  | (0, _) => .int (σ.1 a k)
  | (1, _) => .int (σ.1 a k)
  | (4, _) => .ref (ad ((lk orL (a * 100 + k)).getD 0))
  | _ => .ref (ad (a + 1 + k))
def conc (ad : Nat → Nat) (kA : Nat → ClassId) (σ : PS) (q : Nat × Nat × Nat) : va_E := match q.2.1 with
  | 1 => .inr (q.2.2, (List.range (fN q.2.2)).map (fval ad σ q.2.2 q.1))
  | 2 => .inl (kA q.1, q.2.2, .inl (σ.1 q.1))
  | 3 => .inl (kA q.1, q.2.2, .inr (.inl (σ.2 q.1)))
  | _ => .inl (kA q.1, q.2.2, .inr (.inr (.inr (.inr (fun i => some (ad (q.1 + 1 + i)))))))
def wsO (ad : Nat → Nat) (kA : Nat → ClassId) (σ : PS) : va_W := cellsL.map (fun q => (ad q.1, conc ad kA σ q))
def WF (ad : Nat → Nat) (kA : Nat → ClassId) (tys : List (ClassId × FieldType)) : Prop := (∀ (i j : Nat) (p q : Nat × Nat × Nat), cellsL[i]? = some p → cellsL[j]? = some q → ad p.1 = ad q.1 → i = j) ∧ (∀ q ∈ cellsL, q.2.1 = 2 → ∃ t : Nat, tys[t]? = some (kA q.1, FieldType.int)) ∧ (∀ q ∈ cellsL, q.2.1 = 3 → ∃ t : Nat, tys[t]? = some (kA q.1, FieldType.long)) ∧ (∀ q ∈ cellsL, q.2.1 = 5 → ∃ t : Nat, tys[t]? = some (kA q.1, FieldType.array .long))
theorem nd_spec : ∀ (l : List Nat), ndL l = true → ∀ (i j a : Nat), l[i]? = some a → l[j]? = some a → i = j
  | [], _, i, _, a, h, _ => by simp at h
  | b :: t, hn, i, j, a, hi, hj => by
    simp only [ndL, Bool.and_eq_true, Bool.not_eq_true'] at hn
    have hb : b ∉ t := by
      intro hm
      have : t.elem b = true := List.elem_eq_true_of_mem hm
      rw [this] at hn
      exact absurd hn.1 (by simp)
    match i, j, hi, hj with
    | 0, 0, _, _ => rfl
    | 0, j + 1, hi, hj =>
      simp at hi hj
      subst hi
      exact absurd (List.mem_of_getElem? hj) hb
    | i + 1, 0, hi, hj =>
      simp at hi hj
      subst hj
      exact absurd (List.mem_of_getElem? hi) hb
    | i + 1, j + 1, hi, hj =>
      simp at hi hj
      rw [nd_spec t hn.2 i j a hi hj]
theorem cell_nd {i j : Nat} {p q : Nat × Nat × Nat} (hi : cellsL[i]? = some p) (hj : cellsL[j]? = some q) (h : p.1 = q.1) : i = j := by
  refine nd_spec _ cells_nd i j p.1 ?_ ?_
  · rw [List.getElem?_map, hi]; rfl
  · rw [List.getElem?_map, hj, h]; rfl
theorem cell_fun {p q : Nat × Nat × Nat} (hp : p ∈ cellsL) (hq : q ∈ cellsL) (h : p.1 = q.1) : p = q := by
  obtain ⟨i, hi⟩ := List.getElem?_of_mem hp
  obtain ⟨j, hj⟩ := List.getElem?_of_mem hq
  have := cell_nd hi hj h
  subst this
  exact Option.some.inj (hi.symm.trans hj)
theorem ws_get {ad : Nat → Nat} {kA : Nat → ClassId} (σ : PS) {q : Nat × Nat × Nat} (h : q ∈ cellsL) : ∃ i : Nat, cellsL[i]? = some q ∧ (wsO ad kA σ)[i]? = some (ad q.1, conc ad kA σ q) := by
  obtain ⟨i, hi⟩ := List.getElem?_of_mem h
  refine ⟨i, hi, ?_⟩
  unfold wsO
  rw [List.getElem?_map, hi]
  rfl
theorem ws_set {ad : Nat → Nat} {kA : Nat → ClassId} {σ σ' : PS} {i : Nat} {q : Nat × Nat × Nat} (h : cellsL[i]? = some q) (hq : ∀ r ∈ cellsL, r.1 ≠ q.1 → conc ad kA σ' r = conc ad kA σ r) : (wsO ad kA σ).set i (ad q.1, conc ad kA σ' q) = wsO ad kA σ' := by
  apply List.ext_getElem?
  intro j
  rw [List.getElem?_set]
  unfold wsO
  rw [List.getElem?_map, List.getElem?_map, List.length_map]
  by_cases e : i = j
  · subst e
    rw [if_pos rfl, h]
    have hl : i < cellsL.length := (List.getElem?_eq_some_iff.mp h).1
    simp [hl]
  · rw [if_neg e]
    cases hj : cellsL[j]? with
    | none => rfl
    | some r =>
      show some (ad r.1, conc ad kA σ r) = some (ad r.1, conc ad kA σ' r)
      rw [hq r (List.mem_of_getElem? hj) (fun z => e (cell_nd h hj z.symm))]
theorem ws_D {ad : Nat → Nat} {kA : Nat → ClassId} {tys : List (ClassId × FieldType)} {A : Nat → Prop} (hw : WF ad kA tys) (hA : ∀ q ∈ cellsL, A (ad q.1)) (σ : PS) : va_D A (wsO ad kA σ) := by
  have key : ∀ (i : Nat) (p : Nat × va_E), (wsO ad kA σ)[i]? = some p → ∃ q, cellsL[i]? = some q ∧ p.1 = ad q.1 := by
    intro i p h
    unfold wsO at h
    rw [List.getElem?_map] at h
    cases hj : cellsL[i]? with
    | none => rw [hj] at h; cases h
    | some r => rw [hj] at h; cases h; exact ⟨r, rfl, rfl⟩
  refine ⟨fun i j p q hi hj e => ?_, fun k q hk => ?_⟩
  · obtain ⟨a, ha, e1⟩ := key i p hi
    obtain ⟨b, hb, e2⟩ := key j q hj
    exact hw.1 i j a b ha hb (by rw [← e1, ← e2, e])
  · obtain ⟨a, ha, e1⟩ := key k q hk
    rw [e1]
    exact hA a (List.mem_of_getElem? ha)
/-! what the helpers take -/
theorem p1_inv {st : List PV} {f : Int32 → List PV → PR} {x : Option PV × PS} (h : p1 st f = some x) : ∃ a r, st = vI a :: r ∧ f a r = some x := match st, h with
  | .inl a :: r, h => ⟨a, r, rfl, h⟩
theorem p2_inv {st : List PV} {f : Int32 → Int32 → List PV → PR} {x : Option PV × PS} (h : p2 st f = some x) : ∃ a b r, st = vI b :: vI a :: r ∧ f a b r = some x := match st, h with
  | .inl b :: .inl a :: r, h => ⟨a, b, r, rfl, h⟩
theorem q1_inv {st : List PV} {f : Int64 → List PV → PR} {x : Option PV × PS} (h : q1 st f = some x) : ∃ a r, st = vL a :: r ∧ f a r = some x := match st, h with
  | .inr (.inl a) :: r, h => ⟨a, r, rfl, h⟩
theorem q2_inv {st : List PV} {f : Int64 → Int64 → List PV → PR} {x : Option PV × PS} (h : q2 st f = some x) : ∃ a b r, st = vL b :: vL a :: r ∧ f a b r = some x := match st, h with
  | .inr (.inl b) :: .inr (.inl a) :: r, h => ⟨a, b, r, rfl, h⟩
theorem a1_inv {st : List PV} {f : Nat → Nat → Nat → List PV → PR} {x : Option PV × PS} (h : a1 st f = some x) : ∃ k n a r, st = vR k n a :: r ∧ f k n a r = some x := match st, h with
  | .inr (.inr (k, n, a)) :: r, h => ⟨k, n, a, r, rfl, h⟩
theorem getD_some {ls : PL} {i : Nat} {v : PV} (h : ls.getD i none = some v) : ls[i]? = some (some v) := by
  rw [List.getD_eq_getElem?_getD] at h
  cases hq : ls[i]? with
  | none => rw [hq] at h; cases h
  | some w => rw [hq] at h; exact congrArg some h
theorem gI_inv {ls : PL} {i : Nat} {f : Int32 → PR} {x : Option PV × PS} (h : gI ls i f = some x) : ∃ a, ls[i]? = some (some (vI a)) ∧ f a = some x := by
  unfold gI at h
  cases hq : ls.getD i none with
  | none => rw [hq] at h; cases h
  | some v =>
    rw [hq] at h
    match v, h with
    | .inl a, h => exact ⟨a, getD_some hq, h⟩
theorem gL_inv {ls : PL} {i : Nat} {f : Int64 → PR} {x : Option PV × PS} (h : gL ls i f = some x) : ∃ a, ls[i]? = some (some (vL a)) ∧ f a = some x := by
  unfold gL at h
  cases hq : ls.getD i none with
  | none => rw [hq] at h; cases h
  | some v =>
    rw [hq] at h
    match v, h with
    | .inr (.inl a), h => exact ⟨a, getD_some hq, h⟩
theorem gA_inv {ls : PL} {i : Nat} {f : Nat → Nat → Nat → PR} {x : Option PV × PS} (h : gA ls i f = some x) : ∃ k n a, ls[i]? = some (some (vR k n a)) ∧ f k n a = some x := by
  unfold gA at h
  cases hq : ls.getD i none with
  | none => rw [hq] at h; cases h
  | some v =>
    rw [hq] at h
    match v, h with
    | .inr (.inr (k, n, a)), h => exact ⟨k, n, a, getD_some hq, h⟩
theorem bif_inv {b : Bool} {y : PR} {x : Option PV × PS} (h : (bif b then y else none) = some x) : b = true ∧ y = some x := match b, h with
  | true, h => ⟨rfl, h⟩
theorem ite_inv {c : Prop} [Decidable c] {y : PR} {x : Option PV × PS} (h : (if c then y else none) = some x) : c ∧ y = some x := by
  by_cases hc : c
  · rw [if_pos hc] at h; exact ⟨hc, h⟩
  · rw [if_neg hc] at h; cases h
theorem blt_iff {a b : Nat} (h : Nat.blt a b = true) : a < b := by
  have := Nat.le_of_ble_eq_true h
  exact this
theorem jp_inv {pc : Nat} {off : Int} {f : Nat → PR} {x : Option PV × PS} (h : jp pc off f = some x) : ∃ t : Nat, (pc : Int) + off = (t : Int) ∧ f t = some x := by
  unfold jp at h
  cases hq : (pc : Int) + off with
  | ofNat t => rw [hq] at h; exact ⟨t, rfl, h⟩
  | negSucc t => rw [hq] at h; cases h
/-! locals -/
def lr (ad adR : Nat → Nat) (ls : PL) (lm : Array Slot) : Prop := lm.size = ls.length ∧ lv_wf lm ∧ ∀ (i : Nat) (v : PV), ls[i]? = some (some v) → lm[i]? = some (Slot.val (cv ad adR v))
def lvl (ad adR : Nat → Nat) : Nat → PL → List (Nat × Value)
  | _, [] => []
  | i, none :: t => lvl ad adR (i + 1) t
  | i, some v :: t => (i, cv ad adR v) :: lvl ad adR (i + 1) t
theorem lvl_mem {ad adR : Nat → Nat} : ∀ {ls : PL} {j : Nat} {q : Nat × Value}, q ∈ lvl ad adR j ls → ∃ i v, q = (j + i, cv ad adR v) ∧ ls[i]? = some (some v)
  | [], _, _, h => by cases h
  | none :: t, j, q, h => by
    obtain ⟨i, v, e, hv⟩ := lvl_mem (ls := t) h
    exact ⟨i + 1, v, by rw [e]; congr 1; omega, by simpa using hv⟩
  | some w :: t, j, q, h => by
    rcases List.mem_cons.mp h with rfl | h
    · exact ⟨0, w, rfl, by simp⟩
    · obtain ⟨i, v, e, hv⟩ := lvl_mem (ls := t) h
      exact ⟨i + 1, v, by rw [e]; congr 1; omega, by simpa using hv⟩
theorem mem_lvl {ad adR : Nat → Nat} : ∀ {ls : PL} {j i : Nat} {v : PV}, ls[i]? = some (some v) → (j + i, cv ad adR v) ∈ lvl ad adR j ls
  | [], _, _, _, h => by simp at h
  | none :: t, j, 0, v, h => by simp at h
  | none :: t, j, i + 1, v, h => by
    have := mem_lvl (ad := ad) (adR := adR) (ls := t) (j := j + 1) (i := i) (v := v) (by simpa using h)
    rw [show j + (i + 1) = j + 1 + i by omega]
    exact this
  | some w :: t, j, 0, v, h => by
    have : w = v := by simpa using h
    subst this
    exact List.mem_cons_self
  | some w :: t, j, i + 1, v, h => by
    have := mem_lvl (ad := ad) (adR := adR) (ls := t) (j := j + 1) (i := i) (v := v) (by simpa using h)
    rw [show j + (i + 1) = j + 1 + i by omega]
    exact List.mem_cons_of_mem _ this
theorem lr_has {ad adR : Nat → Nat} {ls : PL} {lm : Array Slot} (h : lr ad adR ls lm) : lv_has lm ls.length (lvl ad adR 0 ls) := by
  refine ⟨h.1, h.2.1, fun q hq => ?_⟩
  obtain ⟨i, v, e, hv⟩ := lvl_mem hq
  rw [e, Nat.zero_add]
  exact h.2.2 i v hv
theorem cat_cv (ad adR : Nat → Nat) (v : PV) : (cv ad adR v).category = wd v := by
  rcases v with x | x | ⟨k, n, a⟩
  · rfl
  · rfl
  · match k with
    | 0 => rfl
    | 1 => rfl
    | 2 => rfl
    | 3 => rfl
    | 4 => rfl
    | j + 5 => rfl
theorem noL_spec {ls : PL} {i j : Nat} {v : PV} (h : noL ls i = true) (hj : ls[j]? = some (some v)) (e : j + 1 = i) : wd v ≠ 2 := by
  subst e
  have h : (match ls.getD j none with
    | some (.inr (.inl _)) => false
    | _ => true) = true := h
  have hg : ls.getD j none = some v := by rw [List.getD_eq_getElem?_getD, hj]; rfl
  rw [hg] at h
  rcases v with x | x | x
  · exact fun q => by cases q
  · cases h
  · exact fun q => by cases q
theorem lr_set {ad adR : Nat → Nat} {ls : PL} {lm' : Array Slot} {i : Nat} {v : PV} (hi : i < ls.length) (hn : noL ls i = true) (h : lv_has lm' ls.length ((i, cv ad adR v) :: (lvl ad adR 0 ls).filter (fun q => !(q.1 == i) && !(q.1 + 1 == i && q.2.category == 2)))) : lr ad adR (ls.set i (some v)) lm' := by
  refine ⟨by rw [List.length_set]; exact h.1, h.2.1, fun j w hj => ?_⟩
  rw [List.getElem?_set] at hj
  by_cases e : i = j
  · subst e
    rw [if_pos rfl, if_pos hi] at hj
    have : v = w := by simpa using hj
    subst this
    exact h.2.2 _ List.mem_cons_self
  · rw [if_neg e] at hj
    refine h.2.2 (j, cv ad adR w) (List.mem_cons_of_mem _ (List.mem_filter.mpr ⟨?_, ?_⟩))
    · have := mem_lvl (ad := ad) (adR := adR) (j := 0) hj
      rwa [Nat.zero_add] at this
    · have h1 : ¬ j = i := fun q => e q.symm
      by_cases h2 : j + 1 = i
      · have := noL_spec hn hj h2
        simp [h1, cat_cv, this]
      · simp [h1, h2]
theorem lr_set2 {ad adR : Nat → Nat} {ls : PL} {lm' : Array Slot} {i : Nat} {v : PV} (hi : i + 1 < ls.length) (hn : noL ls i = true) (h : lv_has lm' ls.length ((i, cv ad adR v) :: (lvl ad adR 0 ls).filter (fun q => !(q.1 == i) && (!(q.1 == i + 1) && !(q.1 + 1 == i && q.2.category == 2))))) : lr ad adR ((ls.set i (some v)).set (i + 1) none) lm' := by
  refine ⟨by rw [List.length_set, List.length_set]; exact h.1, h.2.1, fun j w hj => ?_⟩
  rw [List.getElem?_set, List.getElem?_set, List.length_set] at hj
  by_cases e1 : i + 1 = j
  · rw [if_pos e1, if_pos hi] at hj
    simp at hj
  · rw [if_neg e1] at hj
    by_cases e : i = j
    · subst e
      rw [if_pos rfl, if_pos (by omega)] at hj
      have : v = w := by simpa using hj
      subst this
      exact h.2.2 _ List.mem_cons_self
    · rw [if_neg e] at hj
      refine h.2.2 (j, cv ad adR w) (List.mem_cons_of_mem _ (List.mem_filter.mpr ⟨?_, ?_⟩))
      · have := mem_lvl (ad := ad) (adR := adR) (j := 0) hj
        rwa [Nat.zero_add] at this
      · have h1 : ¬ j = i := fun q => e q.symm
        have h3 : ¬ j = i + 1 := fun q => e1 q.symm
        by_cases h2 : j + 1 = i
        · have := noL_spec hn hj h2
          simp [h1, h3, cat_cv, this]
        · simp [h1, h2, h3]
theorem okL_set {E : Nat × (Nat → Int32)} {ls : PL} {i : Nat} {v : PV} (h : okL E ls) (hv : okV E v) : okL E (ls.set i (some v)) := by
  intro j w hj
  rw [List.getElem?_set] at hj
  by_cases e : i = j
  · rw [if_pos e] at hj
    by_cases hl : i < ls.length
    · rw [if_pos hl] at hj
      have : v = w := by simpa using hj
      exact this ▸ hv
    · rw [if_neg hl] at hj; cases hj
  · rw [if_neg e] at hj
    exact h j w hj
theorem okL_set0 {E : Nat × (Nat → Int32)} {ls : PL} {i : Nat} (h : okL E ls) : okL E (ls.set i none) := by
  intro j w hj
  rw [List.getElem?_set] at hj
  by_cases e : i = j
  · rw [if_pos e] at hj
    by_cases hl : i < ls.length
    · rw [if_pos hl] at hj; simp at hj
    · rw [if_neg hl] at hj; cases hj
  · rw [if_neg e] at hj
    exact h j w hj
theorem sum_cv (ad adR : Nat → Nat) (l : List PV) : ((l.map (cv ad adR)).map fun v => v.category).sum = (l.map wd).sum := by
  rw [List.map_map]
  congr 1
  apply List.map_congr_left
  intro v _
  exact cat_cv ad adR v
end
section
/-! calls of our methods on the kit's machine -/
def AA (ad : Nat → Nat) : Nat → Prop := fun a => ∃ r ∈ cellsL, a = ad r.1
def roA (adR : Nat → Nat) (E : Nat × (Nat → Int32)) (A : Nat → Prop) (U : State) (H : Heap) : Prop := (∀ a : Nat, a < 3 → va_T .int (adR a) (roN E a) (fun i => .int (roV E a i)) A U H) ∧ va_Z (cn 0) "BODIES" "[I" (.ref (adR 2)) A U H ∧ va_Z (cn 0) "ABOVE" "[I" (.ref (adR 1)) A U H
theorem roA.moved {adR : Nat → Nat} {E : Nat × (Nat → Int32)} {A : Nat → Prop} {u U : State} {H : Heap} (hvm : u.vm.Alike U.vm) (h : roA adR E A u H) : roA adR E A U H := ⟨fun a ha => (h.1 a ha).moved hvm, h.2.1.moved hvm, h.2.2.moved hvm⟩
theorem roA.kept {adR : Nat → Nat} {E : Nat × (Nat → Int32)} {A : Nat → Prop} {U : State} {H H1 : Heap} (h : roA adR E A U H) (hq : ∀ a : Nat, a < H.size → ¬ A a → H1[a]? = H[a]?) : roA adR E A U H1 := ⟨fun a ha => (h.1 a ha).kept hq, h.2.1.kept hq, h.2.2.kept hq⟩
theorem roA.narrow {adR : Nat → Nat} {E : Nat × (Nat → Int32)} {A B : Nat → Prop} {U : State} {H : Heap} (h : roA adR E A U H) (hAB : ∀ q, B q → A q) : roA adR E B U H := ⟨fun a ha => (h.1 a ha).narrow hAB, h.2.1.narrow hAB, h.2.2.narrow hAB⟩
def PcO (D : va_G) (ad adR : Nat → Nat) (kA : Nat → ClassId) (tys : List (ClassId × FieldType)) (E : Nat × (Nat → Int32)) (as : List PV) (σ : PS) : Array Value → State → Prop := va_Pc (as.map (cv ad adR)) (fun U => va_P D clsL (wsO ad kA σ) U.heap ∧ va_K D clsL tys U ∧ (∀ w ∈ nwL, va_Nw w U) ∧ roA adR E (AA ad) U U.heap)
def QcO (D : va_G) (ad adR : Nat → Nat) (kA : Nat → ClassId) (E : Nat × (Nat → Int32)) (r : Option PV) (σ : PS) : Array Value → State → Outcome → State → Prop := fun _ st oc t => (oc = .returned (r.map (cv ad adR)) ∧ okO E r ∧ va_P D clsL (wsO ad kA σ) t.heap) ∧ va_F (AA ad) st t
def rmO (d : Nat) : Room := { frames := d, cells := 0, slots := 0, locals := 64 * d }
def wsM (q : MI) : List Cond := Cond.code q.1 q.2.1 q.2.2.1 q.2.2.2.1 :: gw
def CallsOk (l : Launch) (D : va_G) (ad adR : Nat → Nat) (kA : Nat → ClassId) (tys : List (ClassId × FieldType)) (E : Nat × (Nat → Int32)) (d F : Nat) : Prop := ∀ (y : Nat) (q : MI) (as : List PV) (σ : PS) (r : Option PV) (σ' : PS), mt0[y]? = some q → evM E d F y as σ = some (r, σ') → okS E as → ∃ d', d = d' + 1 ∧ Met l q.1 (wsM q) (rmO d') (PcO D ad adR kA tys E as σ) (QcO D ad adR kA E r σ') 0 0 (AA ad)
theorem nw_warm {s U : State} (hW : s.WarmedH U.vm) (h : ∀ w ∈ nwL, va_Nw w s) : ∀ w ∈ nwL, va_Nw w U := by
  intro w hw
  have h1 := h w hw
  have h2 := (List.mem_filter.mp hw).2
  cases w <;> first | exact va_Nw.warmF hW h1 | exact va_Nw.warmM hW h1 | cases h2
theorem nw_same {u U : State} (hv : u.vm = U.vm) (h : ∀ w ∈ nwL, va_Nw w u) : ∀ w ∈ nwL, va_Nw w U := by
  intro w hw
  have h1 := h w hw
  have h2 := (List.mem_filter.mp hw).2
  cases w <;> first | exact va_Nw.same rfl hv h1 | cases h2
theorem PcO_blind {D : va_G} {ad adR : Nat → Nat} {kA : Nat → ClassId} {tys : List (ClassId × FieldType)} {E : Nat × (Nat → Int32)} {as : List PV} {σ : PS} : FrameBlind (PcO D ad adR kA tys E as σ) := by
  intro a U g mk q
  obtain ⟨h0, h1, h2, h3, h4⟩ := q
  exact ⟨h0, h1, va_K.moved (u := U) (U := U.calling g mk a) (Vm.Alike.refl U.vm) h2, nw_same (u := U) (U := U.calling g mk a) rfl h3, roA.moved (u := U) (U := U.calling g mk a) (Vm.Alike.refl U.vm) h4⟩
theorem goodM {q : MI} {p1 : Nat} (h : lw_tbl[p1]? = some (Cond.code q.1 q.2.1 q.2.2.1 q.2.2.2.1)) : GoodIn gw (wsM q) := by
  intro w hw
  rcases List.mem_cons.mp hw with rfl | hw
  · have hg : goodWord (Cond.code q.1 q.2.1 q.2.2.1 q.2.2.2.1) = true := rfl
    exact ⟨gw_of h hg, good_of_word hg⟩
  · exact ⟨hw, good_of_word (List.mem_filter.mp hw).2⟩
section PMC
variable {p : Program} {l : Launch} {e : Env} {R : Room} {s : State} {m : MethodId} {args : Array Value} {below : List Frame} {meth : Method} {c : Code} {H : Heap} {locs : List Loc} {cells slots : Nat} {Q : State → Prop} {D : va_G} {ad adR : Nat → Nat} {kA : Nat → ClassId} {tys : List (ClassId × FieldType)} {E : Nat × (Nat → Int32)} {A : Nat → Prop}
theorem pm_call {r : Option PV} {σ' : PS} {pc : Nat} {ls : Array Slot} {st0 rest : List Value} {a : Array Value} (hr : va_Run p l e R s m args below meth c H locs cells slots 0 0 (F0 m pc ls st0) rest (QcO D ad adR kA E r σ' a) (AA ad)) (hS : va_S A s.heap H locs) (hA : ∀ q, AA ad q → A q)
    (kk : ∀ (H1 : Heap) (locs1 : List Loc), okO E r → va_P D clsL (wsO ad kA σ') H1 → va_S A s.heap H1 locs1 → W p l e R s m args below meth c H1 locs1 cells slots Q (F0 m (pc + 3) ls ((r.map (cv ad adR)).toList ++ rest))) : W p l e R s m args below meth c H locs cells slots Q (F0 m pc ls st0) := by
  intro T hT X
  obtain ⟨v, st₀, t, T', L, h0, X', hL, e1, e2, ⟨⟨hv, ho, hp⟩, hz, hk⟩, st⟩ := hr T hT X
  cases hv
  rw [h0] at hz hk
  obtain ⟨t2, a1, b1⟩ := kk T'.heap (locs ++ L) ho (by rw [e1]; exact hp)
    ⟨Nat.le_trans hS.1 (by rw [e1]; exact hz), fun q h1 h2 => by rw [e1, hk q (Nat.lt_of_lt_of_le h1 hS.1) (fun z => h2 (hA q z))]; exact hS.2.1 q h1 h2, fun q hq => by
      rcases List.mem_append.mp hq with h | h
      · exact hS.2.2 q h
      · exact hA _ (hL q h)⟩ T' rfl X'
  exact ⟨t2, st t2 a1, b1⟩
/-- the callee's start, out of the caller's facts -/
theorem pm_pre {σ : PS} {as : List PV} (hnw : ∀ w ∈ nwL, va_Nw w s) (hK : va_K D clsL tys s) (hA : ∀ q, AA ad q → A q) (hro : roA adR E A s s.heap) (hP : va_P D clsL (wsO ad kA σ) H) (hS : va_S A s.heap H locs) : ∀ U : State, U.heap = H → s.WarmedH U.vm → PcO D ad adR kA tys E as σ (as.map (cv ad adR)).toArray U := by
  intro U hU hW
  refine ⟨rfl, by rw [hU]; exact hP, va_K.moved hW.alike hK, nw_warm hW hnw, ?_⟩
  rw [hU]
  exact ((hro.kept (fun a h1 h2 => hS.2.1 a h1 h2)).narrow hA).moved hW.alike
end PMC
end
section
/-! what field and array instructions take and leave, as the world has it -/
theorem u2_ne {M : Nat → Nat → Int32} {a j c : Nat} {x : Int32} (h : c ≠ a) : u2 M a j x c = M c := if_neg h
theorem u2_eq {M : Nat → Nat → Int32} {a j : Nat} {x : Int32} : u2 M a j x a = upd (M a) j x := if_pos rfl
theorem u2L_ne {M : Nat → Nat → Int64} {a j c : Nat} {x : Int64} (h : c ≠ a) : u2L M a j x c = M c := if_neg h
theorem u2L_eq {M : Nat → Nat → Int64} {a j : Nat} {x : Int64} : u2L M a j x a = vp_updL (M a) j x := if_pos rfl
theorem conc_congr {ad : Nat → Nat} {kA : Nat → ClassId} {σ σ' : PS} {q : Nat × Nat × Nat} (h1 : σ'.1 q.1 = σ.1 q.1) (h2 : σ'.2 q.1 = σ.2 q.1) : conc ad kA σ' q = conc ad kA σ q := by
  unfold conc
  have e : fval ad σ' q.2.2 q.1 = fval ad σ q.2.2 q.1 := by
    funext k
    unfold fval
    rw [h1]
  rw [h1, h2, e]
theorem sh_field {a ci k : Nat} (h : (a, 1, ci) ∈ cellsL) (hk : k < fN ci) : (match fk ci k with
    | (0, _) => true
    | (1, _) => true
    | (2, n) => cellsL.elem (a + 1 + k, 2, n)
    | (3, n) => cellsL.elem (a + 1 + k, 3, n)
    | (4, n) => (match lk orL (a * 100 + k) with
      | some b => cellsL.elem (b, 1, n)
      | none => false)
    | (5, n) => cellsL.elem (a + 1 + k, 5, n)
    | _ => false) = true := by
  have h1 := sh_ok _ h
  have h2 := (Bool.and_eq_true _ _ ▸ h1 : _ ∧ _).2
  exact List.all_eq_true.mp h2 k (List.mem_range.mpr hk)
theorem sh_row {a n i : Nat} (h : (a, 5, n) ∈ cellsL) (hi : i < n) : (a + 1 + i, 3, 60) ∈ cellsL := by
  have h1 := sh_ok _ h
  exact List.mem_of_elem_eq_true (List.all_eq_true.mp h1 i (List.mem_range.mpr hi))
theorem fget_inv {E : Nat × (Nat → Int32)} {ad adR : Nat → Nat} {σ : PS} {ci k a : Nat} {f : PV → PR} {x : Option PV × PS} (h : fget σ ci k a f = some x) (hc : (a, 1, ci) ∈ cellsL) (hk : k < fN ci) : ∃ v, okV E v ∧ cv ad adR v = fval ad σ ci a k ∧ f v = some x := by
  have hs := sh_field hc hk
  unfold fget at h
  unfold fval
  generalize fk ci k = w at h hs ⊢
  match w, h, hs with
  | (0, _), h, _ => exact ⟨vI (σ.1 a k), trivial, rfl, h⟩
  | (1, _), h, _ => exact ⟨vI (σ.1 a k), trivial, rfl, h⟩
  | (2, n), h, hs => exact ⟨vR 2 n (a + 1 + k), List.mem_of_elem_eq_true hs, rfl, h⟩
  | (3, n), h, hs => exact ⟨vR 3 n (a + 1 + k), List.mem_of_elem_eq_true hs, rfl, h⟩
  | (4, n), h, hs =>
    generalize lk orL (a * 100 + k) = z at h hs ⊢
    match z, h, hs with
    | some b, h, hs => exact ⟨vR 1 n b, List.mem_of_elem_eq_true hs, rfl, h⟩
  | (5, n), h, hs => exact ⟨vR 5 n (a + 1 + k), List.mem_of_elem_eq_true hs, rfl, h⟩
theorem fput_inv {σ : PS} {ci k a : Nat} {y : Int32} {f : PS → PR} {x : Option PV × PS} (h : fput σ ci k a y f = some x) : ((fk ci k).1 = 0 ∨ ((fk ci k).1 = 1 ∧ (y = 0 ∨ y = 1))) ∧ f (u2 σ.1 a k y, σ.2) = some x := by
  unfold fput at h
  generalize fk ci k = w at h ⊢
  match w, h with
  | (0, _), h => exact ⟨Or.inl rfl, h⟩
  | (1, _), h =>
    obtain ⟨h1, h2⟩ := ite_inv h
    exact ⟨Or.inr ⟨rfl, h1⟩, h2⟩
theorem range_set {f g : Nat → Value} {N k : Nat} {v : Value} (hk : g k = v) (ho : ∀ j, j ≠ k → g j = f j) : ((List.range N).map f).set k v = (List.range N).map g := by
  apply List.ext_getElem?
  intro j
  rw [List.getElem?_set, List.getElem?_map, List.getElem?_map, List.length_map, List.length_range]
  by_cases e : k = j
  · subst e
    rw [if_pos rfl]
    by_cases hl : k < N
    · rw [if_pos hl, List.getElem?_range hl]
      simp [hk]
    · rw [if_neg hl]
      simp [hl]
  · rw [if_neg e]
    by_cases hl : j < N
    · rw [List.getElem?_range hl]
      simp [ho j (fun q => e q.symm)]
    · simp [hl]
theorem conc_put {ad : Nat → Nat} {kA : Nat → ClassId} {σ : PS} {a ci k : Nat} {x : Int32} (hk : (fk ci k).1 = 0 ∨ (fk ci k).1 = 1) : conc ad kA (u2 σ.1 a k x, σ.2) (a, 1, ci) = .inr (ci, ((List.range (fN ci)).map (fval ad σ ci a)).set k (.int x)) := by
  show Sum.inr (ci, (List.range (fN ci)).map (fval ad (u2 σ.1 a k x, σ.2) ci a)) = _
  rw [range_set (g := fval ad (u2 σ.1 a k x, σ.2) ci a)]
  · unfold fval
    have e : u2 σ.1 a k x a k = x := by rw [u2_eq]; exact if_pos rfl
    generalize fk ci k = w at hk
    match w, hk with
    | (0, _), _ => show Value.int (u2 σ.1 a k x a k) = _; rw [e]
    | (1, _), _ => show Value.int (u2 σ.1 a k x a k) = _; rw [e]
  · intro j hj
    unfold fval
    have e : u2 σ.1 a k x a j = σ.1 a j := by rw [u2_eq]; exact if_neg hj
    generalize fk ci j = w
    match w with
    | (0, _) => exact congrArg Value.int e
    | (1, _) => exact congrArg Value.int e
    | (2, _) => rfl
    | (3, _) => rfl
    | (4, _) => rfl
    | (n + 5, _) => rfl
theorem swt_look {pc : Nat} {dflt : Int} {x : Int32} {f : Nat → PR} {y : Option PV × PS} : ∀ (ps : List (Int × Int)), ps.all (fun p => decide (-2147483648 ≤ p.1 ∧ p.1 < 2147483648)) = true → swt pc dflt x f ps = some y → jp pc (Op.lookupswitch.offset ps dflt x.toInt) f = some y
  | [], _, h => h
  | (a, o) :: t, hr, h => by
    have hr1 : -2147483648 ≤ a ∧ a < 2147483648 := by
      have := List.all_eq_true.mp hr (a, o) List.mem_cons_self
      simpa using this
    have hk : (Int32.ofInt a).toInt = a := Int32.toInt_ofInt_of_le hr1.1 hr1.2
    have h : (if x = Int32.ofInt a then jp pc o f else swt pc dflt x f t) = some y := h
    by_cases e : x = Int32.ofInt a
    · rw [if_pos e] at h
      rw [Op.lookupswitch.offset_cons, if_pos (by rw [e, hk])]
      exact h
    · rw [if_neg e] at h
      rw [lv_osw e hk]
      exact swt_look t (List.all_eq_true.mpr fun q hq => List.all_eq_true.mp hr q (List.mem_cons_of_mem _ hq)) h
theorem swt_tab {pc : Nat} {dflt : Int} {x : Int32} {f : Nat → PR} {y : Option PV × PS} : ∀ (l : List Int) (lo : Int), -2147483648 ≤ lo → lo + l.length ≤ 2147483648 → swt pc dflt x f (tsw lo l) = some y → ((x.toInt < lo ∨ lo + l.length ≤ x.toInt) ∧ jp pc dflt f = some y) ∨ ∃ off, ¬ x.toInt < lo ∧ l[(x.toInt - lo).toNat]? = some off ∧ x.toInt < lo + l.length ∧ jp pc off f = some y
  | [], lo, _, _, h => Or.inl ⟨by simp; omega, h⟩
  | o :: t, lo, h1, h2, h => by
    have hl : ((o :: t).length : Int) = t.length + 1 := by simp
    have hk : (Int32.ofInt lo).toInt = lo := Int32.toInt_ofInt_of_le h1 (by omega)
    have h : (if x = Int32.ofInt lo then jp pc o f else swt pc dflt x f (tsw (lo + 1) t)) = some y := h
    by_cases e : x = Int32.ofInt lo
    · rw [if_pos e] at h
      have hx : x.toInt = lo := by rw [e, hk]
      refine Or.inr ⟨o, by omega, by rw [hx, Int.sub_self]; rfl, by omega, h⟩
    · rw [if_neg e] at h
      have hx : x.toInt ≠ lo := fun q => e (by rw [← q, Int32.ofInt_toInt])
      rcases swt_tab t (lo + 1) (by omega) (by omega) h with ⟨h3, h4⟩ | ⟨off, h3, h4, h5, h6⟩
      · exact Or.inl ⟨by omega, h4⟩
      · refine Or.inr ⟨off, by omega, ?_, by omega, h6⟩
        have e2 : (x.toInt - lo).toNat = (x.toInt - (lo + 1)).toNat + 1 := by omega
        rw [e2, List.getElem?_cons_succ]
        exact h4
section PMR
variable {p : Program} {l : Launch} {e : Env} {R : Room} {s : State} {m : MethodId} {args : Array Value} {below : List Frame} {meth : Method} {c : Code} {H : Heap} {locs : List Loc} {cells slots : Nat} {Q : State → Prop} {D : va_G} {cl : List vw_C} {tys : List (ClassId × FieldType)} {ws : va_W} {cc : ByteArray} {pc : Nat} {ls : Array Slot} {rest : List Value} {a : Nat}
theorem pm_aaload (hexec : p.tables.exec = Jvm.exec) (hb : c.code = cc) (hK : va_K D cl tys s) (hP : va_P D cl ws H) (q0 t0 : Nat) {cA : ClassId} {ty : FieldType} {n : Nat} {f : Nat → Option Nat} (ha : ws[q0]? = some (a, .inl (cA, n, .inr (.inr (.inr (.inr f)))))) (ht : tys[t0]? = some (cA, .array ty)) {i : Int32} (hin : vp_in i n) (hdg : decode cc pc = .ok (.aaload, 1))
    (kk : W p l e R s m args below meth c H locs cells slots Q (F0 m (pc + 1) ls (va_rf (f i.toNatClampNeg) :: rest))) : W p l e R s m args below meth c H locs cells slots Q (F0 m pc ls (.int i :: .ref a :: rest)) := by
  have hlt : i.toNatClampNeg < n := Nat.not_le.mp fun q => hin (Or.inr q)
  exact W.aald (v := va_rf (f i.toNatClampNeg)) (ty := .array ty) hexec hb (hP q0 _ ha) ((hK.2 t0 _ ht).1 n (fun j => va_rf (f j))) rfl (fun q => by cases q) (by show ¬ (i < 0 ∨ (arrV _ _ _).slots.size ≤ _); rw [arrV_size]; exact hin) (by show (arrV _ _ _).slots[_]? = _; rw [arrV_read _ _ hlt]) rfl rfl hdg kk
end PMR
end
section
def isMove : Instr → Bool
  | .aconst_null => true
  | .iconst _ => true
  | .bipush _ => true
  | .sipush _ => true
  | .lconst _ => true
  | .ldc _ => true
  | .ldc_w _ => true
  | .ldc2_w _ => true
  | .iload _ => true
  | .iload_n _ => true
  | .lload _ => true
  | .lload_n _ => true
  | .aload _ => true
  | .aload_n _ => true
  | .istore _ => true
  | .istore_n _ => true
  | .lstore _ => true
  | .lstore_n _ => true
  | .astore _ => true
  | .astore_n _ => true
  | .iinc _ _ => true
  | .dup => true
  | .dup_x1 => true
  | .dup2 => true
  | .pop => true
  | _ => false
/-! what our machine answers, the kit's machine does -/
def retAt (q : MI) (pc : Nat) (r : Option PV) : Prop := (lk q.2.2.2.2.2 pc = some (.ireturn, 1) ∧ ∃ x, r = some (vI x) ∧ (q.2.2.2.1 = some .int ∨ (q.2.2.2.1 = some .boolean ∧ (x = 0 ∨ x = 1)))) ∨ (lk q.2.2.2.2.2 pc = some (.lreturn, 1) ∧ ∃ x, r = some (vL x) ∧ q.2.2.2.1 = some .long) ∨ (lk q.2.2.2.2.2 pc = some (.areturn, 1) ∧ ∃ k n a, r = some (vR k n a) ∧ ((∃ t, q.2.2.2.1 = some (.array t)) ∨ ∃ t, q.2.2.2.1 = some (.object t))) ∨ (lk q.2.2.2.2.2 pc = some (.return_, 1) ∧ r = none ∧ q.2.2.2.1 = none)
section SND
variable {p : Program} {l : Launch} {e : Env} {R : Room} {s : State} {m : MethodId} {args : Array Value} {below : List Frame} {meth : Method} {c : Code} {cells slots : Nat} {Q : State → Prop} {D : va_G} {ad adR : Nat → Nat} {kA : Nat → ClassId} {tys : List (ClassId × FieldType)} {E : Nat × (Nat → Int32)} {A : Nat → Prop}
/-- what stays the same in a frame -/
def Fx (p : Program) (R : Room) (s : State) (m : MethodId) (args : Array Value) (c : Code) (cells slots : Nat) (D : va_G) (ad adR : Nat → Nat) (kA : Nat → ClassId) (tys : List (ClassId × FieldType)) (E : Nat × (Nat → Int32)) (A : Nat → Prop) (q : MI) (d : Nat) : Prop :=
  q ∈ mt ∧ p.tables.exec = Jvm.exec ∧ c.code = q.2.1 ∧ c.maxLocals = q.2.2.1 ∧ s.vm.findClass (cn q.2.2.2.2.1) = some m.cls ∧ (∀ w ∈ gw, w.before args s = true) ∧ (∀ w ∈ nwL, va_Nw w s) ∧ va_K D clsL tys s ∧ WF ad kA tys ∧ (∀ r ∈ cellsL, A (ad r.1)) ∧ roA adR E A s s.heap ∧ cells ≤ R.cells ∧ slots ≤ R.slots ∧ d ≤ R.frames ∧ 64 * d ≤ R.locals
/-- the goal at a place, as our machine has it -/
def Gl (p : Program) (l : Launch) (e : Env) (R : Room) (s : State) (m : MethodId) (args : Array Value) (below : List Frame) (meth : Method) (c : Code) (cells slots : Nat) (Q : State → Prop) (D : va_G) (ad adR : Nat → Nat) (kA : Nat → ClassId) (E : Nat × (Nat → Int32)) (A : Nat → Prop) (q : MI) (pc : Nat) (ls : PL) (st : List PV) (σ : PS) : Prop :=
  ls.length = q.2.2.1 → okL E ls → okS E st → ∀ (H : Heap) (locs : List Loc) (lm : Array Slot), lr ad adR ls lm → va_P D clsL (wsO ad kA σ) H → va_S A s.heap H locs → W p l e R s m args below meth c H locs cells slots Q (F0 m pc lm (st.map (cv ad adR)))
theorem okS_c {v : PV} {st : List PV} (h : okV E v) (hs : okS E st) : okS E (v :: st) := fun w hw => by
  rcases List.mem_cons.mp hw with rfl | hw
  · exact h
  · exact hs w hw
theorem okS_t {v : PV} {st : List PV} (h : okS E (v :: st)) : okV E v ∧ okS E st := ⟨h v List.mem_cons_self, fun w hw => h w (List.mem_cons_of_mem _ hw)⟩
theorem cv_obj {a ci : Nat} : cv ad adR (vR 1 ci a) = .ref (ad a) := rfl
theorem W_ld {q : MI} {d : Nat} (hF : Fx p R s m args c cells slots D ad adR kA tys E A q d) {pc n : Nat} {ls : PL} {st : List PV} {σ : PS} {v : PV} {j : Nat} (hv : ls[j]? = some (some v)) (k : Gl p l e R s m args below meth c cells slots Q D ad adR kA E A q n ls (v :: st) σ)
    (row : ∀ (H : Heap) (locs : List Loc) (lm : Array Slot), lm[j]? = some (.val (cv ad adR v)) → W p l e R s m args below meth c H locs cells slots Q (F0 m n lm (cv ad adR v :: st.map (cv ad adR))) → W p l e R s m args below meth c H locs cells slots Q (F0 m pc lm (st.map (cv ad adR)))) : Gl p l e R s m args below meth c cells slots Q D ad adR kA E A q pc ls st σ :=
  fun h1 h2 h3 H locs lm h4 h5 h6 => row H locs lm (h4.2.2 j v hv) (k h1 h2 (okS_c (h2 j v hv) h3) H locs lm h4 h5 h6)
theorem W_st {q : MI} {d : Nat} (hF : Fx p R s m args c cells slots D ad adR kA tys E A q d) {pc n : Nat} {ls : PL} {st : List PV} {σ : PS} {v : PV} {j : Nat} {f : PL → PR} {z : Option PV × PS} (he : sI ls j v f = some z) (k : f (ls.set j (some v)) = some z → Gl p l e R s m args below meth c cells slots Q D ad adR kA E A q n (ls.set j (some v)) st σ)
    (row : ∀ (H : Heap) (locs : List Loc) (lm : Array Slot), lv_has lm ls.length (lvl ad adR 0 ls) → j < ls.length → (∀ lm' : Array Slot, lv_has lm' ls.length ((j, cv ad adR v) :: (lvl ad adR 0 ls).filter (fun q => !(q.1 == j) && !(q.1 + 1 == j && q.2.category == 2))) → W p l e R s m args below meth c H locs cells slots Q (F0 m n lm' (st.map (cv ad adR)))) → W p l e R s m args below meth c H locs cells slots Q (F0 m pc lm (cv ad adR v :: st.map (cv ad adR)))) : Gl p l e R s m args below meth c cells slots Q D ad adR kA E A q pc ls (v :: st) σ := by
  intro h1 h2 h3 H locs lm h4 h5 h6
  obtain ⟨hb, he⟩ := bif_inv he
  obtain ⟨hn, hj⟩ := Bool.and_eq_true _ _ ▸ hb
  have hj := blt_iff hj
  refine row H locs lm (lr_has h4) hj (fun lm' hl => ?_)
  exact k he (by rw [List.length_set]; exact h1) (okL_set h2 (okS_t h3).1) (okS_t h3).2 H locs lm' (lr_set hj hn hl) h5 h6
theorem Gl_1 {q : MI} {pc n : Nat} {ls : PL} {st st' : List PV} {σ : PS} (k : Gl p l e R s m args below meth c cells slots Q D ad adR kA E A q n ls st' σ) (hs : okS E st → okS E st')
    (row : ∀ (H : Heap) (locs : List Loc) (lm : Array Slot), W p l e R s m args below meth c H locs cells slots Q (F0 m n lm (st'.map (cv ad adR))) → W p l e R s m args below meth c H locs cells slots Q (F0 m pc lm (st.map (cv ad adR)))) : Gl p l e R s m args below meth c cells slots Q D ad adR kA E A q pc ls st σ :=
  fun h1 h2 h3 H locs lm h4 h5 h6 => row H locs lm (k h1 h2 (hs h3) H locs lm h4 h5 h6)
theorem Gl_br {q : MI} {pc t n : Nat} {ls : PL} {st st' : List PV} {σ : PS} {cd : Prop} [Decidable cd] {x y : PR} {z : Option PV × PS} (he : (if cd then x else y) = some z) (kt : x = some z → Gl p l e R s m args below meth c cells slots Q D ad adR kA E A q t ls st' σ) (kf : y = some z → Gl p l e R s m args below meth c cells slots Q D ad adR kA E A q n ls st' σ) (hs : okS E st → okS E st')
    (row : ∀ (H : Heap) (locs : List Loc) (lm : Array Slot), (cd → W p l e R s m args below meth c H locs cells slots Q (F0 m t lm (st'.map (cv ad adR)))) → (¬ cd → W p l e R s m args below meth c H locs cells slots Q (F0 m n lm (st'.map (cv ad adR)))) → W p l e R s m args below meth c H locs cells slots Q (F0 m pc lm (st.map (cv ad adR)))) : Gl p l e R s m args below meth c cells slots Q D ad adR kA E A q pc ls st σ := by
  intro h1 h2 h3 H locs lm h4 h5 h6
  refine row H locs lm (fun hc => ?_) (fun hc => ?_)
  · rw [if_pos hc] at he
    exact kt he h1 h2 (hs h3) H locs lm h4 h5 h6
  · rw [if_neg hc] at he
    exact kf he h1 h2 (hs h3) H locs lm h4 h5 h6
/-- simple instructions of ints and longs -/
theorem snd_arith {q : MI} {d : Nat} (hF : Fx p R s m args c cells slots D ad adR kA tys E A q d) {cf : CF} {k : KF} {pc : Nat} {ls : PL} {st : List PV} {σ : PS} {i : Instr} {z : Option PV × PS} (hd : decode q.2.1 pc = .ok (i, 1)) (he : exI E cf k q pc ls st σ i = some z)
    (ih : ∀ pc ls st σ, k pc ls st σ = some z → Gl p l e R s m args below meth c cells slots Q D ad adR kA E A q pc ls st σ) (hi : i ∈ ([.iadd, .isub, .imul, .iand, .ior, .ixor, .idiv, .irem, .ineg, .ishl, .ishr, .iushr, .i2b, .i2s, .i2l, .l2i, .ladd, .land, .lor, .lshl, .lcmp] : List Instr)) : Gl p l e R s m args below meth c cells slots Q D ad adR kA E A q pc ls st σ := by
  obtain ⟨hq, hx, hb, hml, hown, hts, hnw, hK, hwf, hA, hro, hcells, hslots, hfr, hlo⟩ := hF
  simp only [List.mem_cons, List.not_mem_nil, or_false] at hi
  rcases hi with rfl | rfl | rfl | rfl | rfl | rfl | rfl | rfl | rfl | rfl | rfl | rfl | rfl | rfl | rfl | rfl | rfl | rfl | rfl | rfl | rfl <;> simp only [exI] at he
  · obtain ⟨a, b, r, rfl, he⟩ := p2_inv he
    exact Gl_1 (ih _ _ _ _ he) (fun h => okS_c trivial (okS_t (okS_t h).2).2) (fun H locs lm kk => lv_iadd hx hb hd kk)
  · obtain ⟨a, b, r, rfl, he⟩ := p2_inv he
    exact Gl_1 (ih _ _ _ _ he) (fun h => okS_c trivial (okS_t (okS_t h).2).2) (fun H locs lm kk => lv_isub hx hb hd kk)
  · obtain ⟨a, b, r, rfl, he⟩ := p2_inv he
    exact Gl_1 (ih _ _ _ _ he) (fun h => okS_c trivial (okS_t (okS_t h).2).2) (fun H locs lm kk => lv_imul hx hb hd kk)
  · obtain ⟨a, b, r, rfl, he⟩ := p2_inv he
    exact Gl_1 (ih _ _ _ _ he) (fun h => okS_c trivial (okS_t (okS_t h).2).2) (fun H locs lm kk => lv_iand hx hb hd kk)
  · obtain ⟨a, b, r, rfl, he⟩ := p2_inv he
    exact Gl_1 (ih _ _ _ _ he) (fun h => okS_c trivial (okS_t (okS_t h).2).2) (fun H locs lm kk => lv_ior hx hb hd kk)
  · obtain ⟨a, b, r, rfl, he⟩ := p2_inv he
    exact Gl_1 (ih _ _ _ _ he) (fun h => okS_c trivial (okS_t (okS_t h).2).2) (fun H locs lm kk => lv_ixor hx hb hd kk)
  · obtain ⟨a, b, r, rfl, he2⟩ := p2_inv he
    by_cases hz : b = 0
    · rw [if_pos hz] at he2; cases he2
    · rw [if_neg hz] at he2
      exact Gl_1 (ih _ _ _ _ he2) (fun h => okS_c trivial (okS_t (okS_t h).2).2) (fun H locs lm kk => lv_idiv hx hb hd hz kk)
  · obtain ⟨a, b, r, rfl, he2⟩ := p2_inv he
    by_cases hz : b = 0
    · rw [if_pos hz] at he2; cases he2
    · rw [if_neg hz] at he2
      exact Gl_1 (ih _ _ _ _ he2) (fun h => okS_c trivial (okS_t (okS_t h).2).2) (fun H locs lm kk => lv_irem hx hb hd hz kk)
  · obtain ⟨a, r, rfl, he⟩ := p1_inv he
    exact Gl_1 (ih _ _ _ _ he) (fun h => okS_c trivial (okS_t h).2) (fun H locs lm kk => lv_ineg hx hb hd kk)
  · obtain ⟨a, b, r, rfl, he⟩ := p2_inv he
    exact Gl_1 (ih _ _ _ _ he) (fun h => okS_c trivial (okS_t (okS_t h).2).2) (fun H locs lm kk => lv_ishl hx hb hd kk)
  · obtain ⟨a, b, r, rfl, he⟩ := p2_inv he
    exact Gl_1 (ih _ _ _ _ he) (fun h => okS_c trivial (okS_t (okS_t h).2).2) (fun H locs lm kk => lv_ishr hx hb hd kk)
  · obtain ⟨a, b, r, rfl, he⟩ := p2_inv he
    exact Gl_1 (ih _ _ _ _ he) (fun h => okS_c trivial (okS_t (okS_t h).2).2) (fun H locs lm kk => lv_iushr hx hb hd rfl kk)
  · obtain ⟨a, r, rfl, he⟩ := p1_inv he
    exact Gl_1 (ih _ _ _ _ he) (fun h => okS_c trivial (okS_t h).2) (fun H locs lm kk => lv_i2b hx hb hd rfl kk)
  · obtain ⟨a, r, rfl, he⟩ := p1_inv he
    exact Gl_1 (ih _ _ _ _ he) (fun h => okS_c trivial (okS_t h).2) (fun H locs lm kk => lv_i2s hx hb hd rfl kk)
  · obtain ⟨a, r, rfl, he⟩ := p1_inv he
    exact Gl_1 (ih _ _ _ _ he) (fun h => okS_c trivial (okS_t h).2) (fun H locs lm kk => lv_i2l hx hb hd rfl kk)
  · obtain ⟨a, r, rfl, he⟩ := q1_inv he
    exact Gl_1 (ih _ _ _ _ he) (fun h => okS_c trivial (okS_t h).2) (fun H locs lm kk => lv_l2i hx hb hd rfl kk)
  · obtain ⟨a, b, r, rfl, he⟩ := q2_inv he
    exact Gl_1 (ih _ _ _ _ he) (fun h => okS_c trivial (okS_t (okS_t h).2).2) (fun H locs lm kk => lv_ladd hx hb hd kk)
  · obtain ⟨a, b, r, rfl, he⟩ := q2_inv he
    exact Gl_1 (ih _ _ _ _ he) (fun h => okS_c trivial (okS_t (okS_t h).2).2) (fun H locs lm kk => lv_land hx hb hd kk)
  · obtain ⟨a, b, r, rfl, he⟩ := q2_inv he
    exact Gl_1 (ih _ _ _ _ he) (fun h => okS_c trivial (okS_t (okS_t h).2).2) (fun H locs lm kk => lv_lor hx hb hd kk)
  · obtain ⟨b, r, rfl, he⟩ := p1_inv he
    obtain ⟨a, r, rfl, he⟩ := q1_inv he
    exact Gl_1 (ih _ _ _ _ he) (fun h => okS_c trivial (okS_t (okS_t h).2).2) (fun H locs lm kk => lv_lshl hx hb hd rfl kk)
  · obtain ⟨a, b, r, rfl, he⟩ := q2_inv he
    exact Gl_1 (ih _ _ _ _ he) (fun h => okS_c trivial (okS_t (okS_t h).2).2) (fun H locs lm kk => W.lcmp hx hb hd kk)
/-- constants, loads, stores, the stack -/
theorem snd_move {q : MI} {d : Nat} (hF : Fx p R s m args c cells slots D ad adR kA tys E A q d) {cf : CF} {k : KF} {pc len : Nat} {ls : PL} {st : List PV} {σ : PS} {i : Instr} {z : Option PV × PS} (hd : decode q.2.1 pc = .ok (i, len)) (hlen : lenOk (pc, i, len) = true) (he : exI E cf k q pc ls st σ i = some z)
    (ih : ∀ pc ls st σ, k pc ls st σ = some z → Gl p l e R s m args below meth c cells slots Q D ad adR kA E A q pc ls st σ) (hi : isMove i = true) : Gl p l e R s m args below meth c cells slots Q D ad adR kA E A q pc ls st σ := by
  have hF0 := hF
  obtain ⟨hq, hx, hb, hml, hown, hts, hnw, hK, hwf, hA, hro, hcells, hslots, hfr, hlo⟩ := hF
  have hcl := (mc_ok q hq).1
  cases i <;> first | (cases hi; done) | skip
  all_goals simp only [lenOk, beq_iff_eq] at hlen
  all_goals subst hlen
  all_goals simp only [exI] at he
  case aconst_null => exact Gl_1 (ih _ _ _ _ he) (fun h => okS_c trivial h) (fun H locs lm kk => lv_null hx hb hd kk)
  case iconst n => exact Gl_1 (ih _ _ _ _ he) (fun h => okS_c trivial h) (fun H locs lm kk => lv_iconst hx hb hd rfl kk)
  case bipush n => exact Gl_1 (ih _ _ _ _ he) (fun h => okS_c trivial h) (fun H locs lm kk => lv_bipush hx hb hd rfl kk)
  case sipush n => exact Gl_1 (ih _ _ _ _ he) (fun h => okS_c trivial h) (fun H locs lm kk => lv_sipush hx hb hd rfl kk)
  case lconst n => exact Gl_1 (ih _ _ _ _ he) (fun h => okS_c trivial h) (fun H locs lm kk => lv_lconst hx hb hd rfl kk)
  case ldc j =>
    cases hj : lk (kR q.2.2.2.2.1) j with
    | none => rw [hj] at he; cases he
    | some v =>
      rw [hj] at he
      have h1 := kR_ok _ hcl _ (lk_mem hj)
      exact Gl_1 (ih _ _ _ _ he) (fun h => okS_c trivial h) (fun H locs lm kk => lv_ldc hx hb hown (hts _ (gw_of h1.1 h1.2)) hd kk)
  case ldc_w j =>
    cases hj : lk (kR q.2.2.2.2.1) j with
    | none => rw [hj] at he; cases he
    | some v =>
      rw [hj] at he
      have h1 := kR_ok _ hcl _ (lk_mem hj)
      exact Gl_1 (ih _ _ _ _ he) (fun h => okS_c trivial h) (fun H locs lm kk => lv_ldcw hx hb hown (hts _ (gw_of h1.1 h1.2)) hd kk)
  case ldc2_w j =>
    cases hj : lk (lR q.2.2.2.2.1) j with
    | none => rw [hj] at he; cases he
    | some v =>
      rw [hj] at he
      have h1 := lR_ok _ hcl _ (lk_mem hj)
      exact Gl_1 (ih _ _ _ _ he) (fun h => okS_c trivial h) (fun H locs lm kk => lv_ldc2 hx hb hown (hts _ (gw_of h1.1 h1.2)) hd kk)
  case iload j =>
    obtain ⟨a, ha, he⟩ := gI_inv he
    exact W_ld hF0 ha (ih _ _ _ _ he) (fun H locs lm h kk => lv_iload hx hb hd h kk)
  case iload_n j =>
    obtain ⟨a, ha, he⟩ := gI_inv he
    exact W_ld hF0 ha (ih _ _ _ _ he) (fun H locs lm h kk => lv_iload_n hx hb hd rfl h kk)
  case lload j =>
    obtain ⟨a, ha, he⟩ := gL_inv he
    exact W_ld hF0 ha (ih _ _ _ _ he) (fun H locs lm h kk => lv_lload hx hb hd h kk)
  case lload_n j =>
    obtain ⟨a, ha, he⟩ := gL_inv he
    exact W_ld hF0 ha (ih _ _ _ _ he) (fun H locs lm h kk => lv_lload_n hx hb hd rfl h kk)
  case aload j =>
    obtain ⟨i, n, a, ha, he⟩ := gA_inv he
    match i, ha, he with
    | 0, ha, he => exact W_ld hF0 ha (ih _ _ _ _ he) (fun H locs lm h kk => lv_aloadN hx hb hd h kk)
    | 1, ha, he => exact W_ld hF0 ha (ih _ _ _ _ he) (fun H locs lm h kk => lv_aload hx hb hd h kk)
    | 2, ha, he => exact W_ld hF0 ha (ih _ _ _ _ he) (fun H locs lm h kk => lv_aload hx hb hd h kk)
    | 3, ha, he => exact W_ld hF0 ha (ih _ _ _ _ he) (fun H locs lm h kk => lv_aload hx hb hd h kk)
    | 4, ha, he => exact W_ld hF0 ha (ih _ _ _ _ he) (fun H locs lm h kk => lv_aload hx hb hd h kk)
    | i + 5, ha, he => exact W_ld hF0 ha (ih _ _ _ _ he) (fun H locs lm h kk => lv_aload hx hb hd h kk)
  case aload_n j =>
    obtain ⟨i, n, a, ha, he⟩ := gA_inv he
    match i, ha, he with
    | 0, ha, he => exact W_ld hF0 ha (ih _ _ _ _ he) (fun H locs lm h kk => lv_aload_nN hx hb hd rfl h kk)
    | 1, ha, he => exact W_ld hF0 ha (ih _ _ _ _ he) (fun H locs lm h kk => lv_aload_n hx hb hd rfl h kk)
    | 2, ha, he => exact W_ld hF0 ha (ih _ _ _ _ he) (fun H locs lm h kk => lv_aload_n hx hb hd rfl h kk)
    | 3, ha, he => exact W_ld hF0 ha (ih _ _ _ _ he) (fun H locs lm h kk => lv_aload_n hx hb hd rfl h kk)
    | 4, ha, he => exact W_ld hF0 ha (ih _ _ _ _ he) (fun H locs lm h kk => lv_aload_n hx hb hd rfl h kk)
    | i + 5, ha, he => exact W_ld hF0 ha (ih _ _ _ _ he) (fun H locs lm h kk => lv_aload_n hx hb hd rfl h kk)
  case istore j =>
    obtain ⟨a, r, rfl, he2⟩ := p1_inv he
    exact W_st hF0 he2 (fun h => ih _ _ _ _ h) (fun H locs lm h1 h2 kk => lv_istore hx hb hd h1 h2 rfl kk)
  case istore_n j =>
    obtain ⟨a, r, rfl, he2⟩ := p1_inv he
    exact W_st hF0 he2 (fun h => ih _ _ _ _ h) (fun H locs lm h1 h2 kk => lv_istore_n hx hb hd rfl h1 h2 rfl kk)
  case lstore j =>
    obtain ⟨a, r, rfl, he2⟩ := q1_inv he
    intro h1 h2 h3 H locs lm h4 h5 h6
    obtain ⟨hb2, he3⟩ := bif_inv he2
    obtain ⟨hn, hj⟩ := Bool.and_eq_true _ _ ▸ hb2
    have hj := blt_iff hj
    refine lv_lstore hx hb hd (lr_has h4) hj rfl (fun lm' hl => ?_)
    exact ih _ _ _ _ he3 (by rw [List.length_set, List.length_set]; exact h1) (okL_set0 (okL_set h2 trivial)) (okS_t h3).2 H locs lm' (lr_set2 (v := vL a) hj hn hl) h5 h6
  case lstore_n j =>
    obtain ⟨a, r, rfl, he2⟩ := q1_inv he
    intro h1 h2 h3 H locs lm h4 h5 h6
    obtain ⟨hb2, he3⟩ := bif_inv he2
    obtain ⟨hn, hj⟩ := Bool.and_eq_true _ _ ▸ hb2
    have hj := blt_iff hj
    refine lv_lstore_n hx hb hd rfl (lr_has h4) hj rfl (fun lm' hl => ?_)
    exact ih _ _ _ _ he3 (by rw [List.length_set, List.length_set]; exact h1) (okL_set0 (okL_set h2 trivial)) (okS_t h3).2 H locs lm' (lr_set2 (v := vL a) hj hn hl) h5 h6
  case astore j =>
    obtain ⟨i, n, a, r, rfl, he2⟩ := a1_inv he
    match i, he2 with
    | 0, he2 => exact W_st hF0 he2 (fun h => ih _ _ _ _ h) (fun H locs lm h1 h2 kk => lv_astoreN hx hb hd h1 h2 rfl kk)
    | 1, he2 => exact W_st hF0 he2 (fun h => ih _ _ _ _ h) (fun H locs lm h1 h2 kk => lv_astore hx hb hd h1 h2 rfl kk)
    | 2, he2 => exact W_st hF0 he2 (fun h => ih _ _ _ _ h) (fun H locs lm h1 h2 kk => lv_astore hx hb hd h1 h2 rfl kk)
    | 3, he2 => exact W_st hF0 he2 (fun h => ih _ _ _ _ h) (fun H locs lm h1 h2 kk => lv_astore hx hb hd h1 h2 rfl kk)
    | 4, he2 => exact W_st hF0 he2 (fun h => ih _ _ _ _ h) (fun H locs lm h1 h2 kk => lv_astore hx hb hd h1 h2 rfl kk)
    | i + 5, he2 => exact W_st hF0 he2 (fun h => ih _ _ _ _ h) (fun H locs lm h1 h2 kk => lv_astore hx hb hd h1 h2 rfl kk)
  case astore_n j =>
    obtain ⟨i, n, a, r, rfl, he2⟩ := a1_inv he
    match i, he2 with
    | 0, he2 => exact W_st hF0 he2 (fun h => ih _ _ _ _ h) (fun H locs lm h1 h2 kk => lv_astore_nN hx hb hd rfl h1 h2 rfl kk)
    | 1, he2 => exact W_st hF0 he2 (fun h => ih _ _ _ _ h) (fun H locs lm h1 h2 kk => lv_astore_n hx hb hd rfl h1 h2 rfl kk)
    | 2, he2 => exact W_st hF0 he2 (fun h => ih _ _ _ _ h) (fun H locs lm h1 h2 kk => lv_astore_n hx hb hd rfl h1 h2 rfl kk)
    | 3, he2 => exact W_st hF0 he2 (fun h => ih _ _ _ _ h) (fun H locs lm h1 h2 kk => lv_astore_n hx hb hd rfl h1 h2 rfl kk)
    | 4, he2 => exact W_st hF0 he2 (fun h => ih _ _ _ _ h) (fun H locs lm h1 h2 kk => lv_astore_n hx hb hd rfl h1 h2 rfl kk)
    | i + 5, he2 => exact W_st hF0 he2 (fun h => ih _ _ _ _ h) (fun H locs lm h1 h2 kk => lv_astore_n hx hb hd rfl h1 h2 rfl kk)
  case iinc j n =>
    obtain ⟨a, ha, he⟩ := gI_inv he
    intro h1 h2 h3 H locs lm h4 h5 h6
    obtain ⟨hb2, he3⟩ := bif_inv he
    obtain ⟨hn, hj⟩ := Bool.and_eq_true _ _ ▸ hb2
    have hj := blt_iff hj
    have hm := mem_lvl (ad := ad) (adR := adR) (j := 0) ha
    rw [Nat.zero_add] at hm
    obtain ⟨t, ht⟩ := List.getElem?_of_mem hm
    refine lv_iinc hx hb hd (lr_has h4) ht rfl hj rfl (fun lm' hl => ?_)
    exact ih _ _ _ _ he3 (by rw [List.length_set]; exact h1) (okL_set h2 trivial) h3 H locs lm' (lr_set (v := vI (a + Int32.ofInt n)) hj hn hl) h5 h6
  case dup =>
    match st, he with
    | v :: r, he =>
      obtain ⟨hw, he2⟩ := bif_inv he
      exact Gl_1 (ih _ _ _ _ he2) (fun h => okS_c (okS_t h).1 h) (fun H locs lm kk => lv_dup hx hb hd ((cat_cv ad adR v).trans (Nat.eq_of_beq_eq_true hw)) kk)
  case dup_x1 =>
    match st, he with
    | v :: w :: r, he =>
      obtain ⟨hw, he2⟩ := bif_inv he
      obtain ⟨hw1, hw2⟩ := Bool.and_eq_true _ _ ▸ hw
      exact Gl_1 (ih _ _ _ _ he2) (fun h => okS_c (okS_t h).1 (okS_c (okS_t (okS_t h).2).1 (okS_c (okS_t h).1 (okS_t (okS_t h).2).2))) (fun H locs lm kk => lv_dup_x1 hx hb hd ((cat_cv ad adR v).trans (Nat.eq_of_beq_eq_true hw1)) ((cat_cv ad adR w).trans (Nat.eq_of_beq_eq_true hw2)) kk)
  case dup2 =>
    match st, he with
    | v :: w :: r, he =>
      obtain ⟨hw, he2⟩ := bif_inv he
      obtain ⟨hw1, hw2⟩ := Bool.and_eq_true _ _ ▸ hw
      exact Gl_1 (ih _ _ _ _ he2) (fun h => okS_c (okS_t h).1 (okS_c (okS_t (okS_t h).2).1 h)) (fun H locs lm kk => lv_dup2_11 hx hb hd ((cat_cv ad adR v).trans (Nat.eq_of_beq_eq_true hw1)) ((cat_cv ad adR w).trans (Nat.eq_of_beq_eq_true hw2)) kk)
  case pop =>
    match st, he with
    | v :: r, he =>
      obtain ⟨hw, he2⟩ := bif_inv he
      exact Gl_1 (ih _ _ _ _ he2) (fun h => (okS_t h).2) (fun H locs lm kk => lv_pop hx hb hd ((cat_cv ad adR v).trans (Nat.eq_of_beq_eq_true hw)) kk)
end SND
end
section
def isJump : Instr → Bool
  | .ifCond _ _ => true
  | .if_icmp _ _ => true
  | .ifnull _ => true
  | .goto _ => true
  | .tableswitch _ _ _ _ => true
  | .lookupswitch _ _ => true
  | _ => false
def isHeap : Instr → Bool
  | .getfield _ => true
  | .putfield _ => true
  | .getstatic _ => true
  | .iaload => true
  | .iastore => true
  | .laload => true
  | .lastore => true
  | .aaload => true
  | .arraylength => true
  | _ => false
theorem fRb_spec {c j ci k pos : Nat} {nest : Bool} (h : fRb c (j, ci, k, nest, pos) = true) : ∃ cq : vw_C, clsL[ci]? = some cq ∧ k < cq.2.2 ∧ (nest = true → lw_tbl[pos]? = some (.fieldLinkNest (cn c) j cq.1 (cq.2.1 k).2.1 (cq.2.1 k).2.2.1 "BeggarBridge")) ∧ (nest = false → lw_tbl[pos]? = some (.fieldLink (cn c) j cq.1 (cq.2.1 k).2.1 (cq.2.1 k).2.2.1) ∧ goodWord (.fieldLink (cn c) j cq.1 (cq.2.1 k).2.1 (cq.2.1 k).2.2.1) = true) := by
  simp only [fRb] at h
  cases hcq : clsL[ci]? with
  | none => rw [hcq] at h; cases h
  | some cq =>
    rw [hcq] at h
    obtain ⟨h1, h2⟩ := Bool.and_eq_true _ _ ▸ h
    refine ⟨cq, rfl, of_decide_eq_true h1, fun e => ?_, fun e => ?_⟩
    · subst e; exact of_decide_eq_true h2
    · subst e
      obtain ⟨h3, h4⟩ := Bool.and_eq_true _ _ ▸ h2
      exact ⟨of_decide_eq_true h3, h4⟩
section SND2
variable {p : Program} {l : Launch} {e : Env} {R : Room} {s : State} {m : MethodId} {args : Array Value} {below : List Frame} {meth : Method} {c : Code} {cells slots : Nat} {Q : State → Prop} {D : va_G} {ad adR : Nat → Nat} {kA : Nat → ClassId} {tys : List (ClassId × FieldType)} {E : Nat × (Nat → Int32)} {A : Nat → Prop}
/-- jumps -/
theorem snd_jump {q : MI} {d : Nat} (hF : Fx p R s m args c cells slots D ad adR kA tys E A q d) {cf : CF} {k : KF} {pc len : Nat} {ls : PL} {st : List PV} {σ : PS} {i : Instr} {z : Option PV × PS} (hd : decode q.2.1 pc = .ok (i, len)) (hlen : lenOk (pc, i, len) = true) (he : exI E cf k q pc ls st σ i = some z)
    (ih : ∀ pc ls st σ, k pc ls st σ = some z → Gl p l e R s m args below meth c cells slots Q D ad adR kA E A q pc ls st σ) (hi : isJump i = true) : Gl p l e R s m args below meth c cells slots Q D ad adR kA E A q pc ls st σ := by
  have hF0 := hF
  obtain ⟨hq, hx, hb, hml, hown, hts, hnw, hK, hwf, hA, hro, hcells, hslots, hfr, hlo⟩ := hF
  cases i <;> first | (cases hi; done) | skip
  all_goals simp only [lenOk, beq_iff_eq] at hlen
  all_goals try subst hlen
  all_goals simp only [exI] at he
  case ifCond cd off =>
    obtain ⟨a, r, rfl, he1⟩ := p1_inv he
    obtain ⟨t, ht, he2⟩ := jp_inv he1
    cases cd <;> simp only [br] at he2
    · exact Gl_br he2 (fun h => ih _ _ _ _ h) (fun h => ih _ _ _ _ h) (fun h => (okS_t h).2) (fun H locs lm kt kf => lv_if_eq hx hb hd ht kt kf)
    · exact Gl_br he2 (fun h => ih _ _ _ _ h) (fun h => ih _ _ _ _ h) (fun h => (okS_t h).2) (fun H locs lm kt kf => lv_if_ne hx hb hd ht kf kt)
    · exact Gl_br he2 (fun h => ih _ _ _ _ h) (fun h => ih _ _ _ _ h) (fun h => (okS_t h).2) (fun H locs lm kt kf => lv_if_lt hx hb hd ht kt kf)
    · exact Gl_br he2 (fun h => ih _ _ _ _ h) (fun h => ih _ _ _ _ h) (fun h => (okS_t h).2) (fun H locs lm kt kf => lv_if_ge hx hb hd ht kt kf)
    · exact Gl_br he2 (fun h => ih _ _ _ _ h) (fun h => ih _ _ _ _ h) (fun h => (okS_t h).2) (fun H locs lm kt kf => lv_if_gt hx hb hd ht kt kf)
    · exact Gl_br he2 (fun h => ih _ _ _ _ h) (fun h => ih _ _ _ _ h) (fun h => (okS_t h).2) (fun H locs lm kt kf => lv_if_le hx hb hd ht kt kf)
  case if_icmp cd off =>
    obtain ⟨a, b, r, rfl, he1⟩ := p2_inv he
    obtain ⟨t, ht, he2⟩ := jp_inv he1
    cases cd <;> simp only [br] at he2
    · exact Gl_br he2 (fun h => ih _ _ _ _ h) (fun h => ih _ _ _ _ h) (fun h => (okS_t (okS_t h).2).2) (fun H locs lm kt kf => lv_icmp_eq hx hb hd ht kt kf)
    · exact Gl_br he2 (fun h => ih _ _ _ _ h) (fun h => ih _ _ _ _ h) (fun h => (okS_t (okS_t h).2).2) (fun H locs lm kt kf => lv_icmp_ne hx hb hd ht kf kt)
    · exact Gl_br he2 (fun h => ih _ _ _ _ h) (fun h => ih _ _ _ _ h) (fun h => (okS_t (okS_t h).2).2) (fun H locs lm kt kf => lv_icmp_lt hx hb hd ht kt kf)
    · exact Gl_br he2 (fun h => ih _ _ _ _ h) (fun h => ih _ _ _ _ h) (fun h => (okS_t (okS_t h).2).2) (fun H locs lm kt kf => lv_icmp_ge hx hb hd ht kt kf)
    · exact Gl_br he2 (fun h => ih _ _ _ _ h) (fun h => ih _ _ _ _ h) (fun h => (okS_t (okS_t h).2).2) (fun H locs lm kt kf => lv_icmp_gt hx hb hd ht kt kf)
    · exact Gl_br he2 (fun h => ih _ _ _ _ h) (fun h => ih _ _ _ _ h) (fun h => (okS_t (okS_t h).2).2) (fun H locs lm kt kf => lv_icmp_le hx hb hd ht kt kf)
  case ifnull off =>
    obtain ⟨i, n, a, r, rfl, he1⟩ := a1_inv he
    match i, he1 with
    | 0, he1 =>
      obtain ⟨t, ht, he2⟩ := jp_inv he1
      exact Gl_1 (ih _ _ _ _ he2) (fun h => (okS_t h).2) (fun H locs lm kk => lv_ifnullN hx hb hd ht kk)
    | 1, he1 => exact Gl_1 (ih _ _ _ _ he1) (fun h => (okS_t h).2) (fun H locs lm kk => lv_ifnull hx hb hd kk)
    | 2, he1 => exact Gl_1 (ih _ _ _ _ he1) (fun h => (okS_t h).2) (fun H locs lm kk => lv_ifnull hx hb hd kk)
    | 3, he1 => exact Gl_1 (ih _ _ _ _ he1) (fun h => (okS_t h).2) (fun H locs lm kk => lv_ifnull hx hb hd kk)
    | 4, he1 => exact Gl_1 (ih _ _ _ _ he1) (fun h => (okS_t h).2) (fun H locs lm kk => lv_ifnull hx hb hd kk)
    | i + 5, he1 => exact Gl_1 (ih _ _ _ _ he1) (fun h => (okS_t h).2) (fun H locs lm kk => lv_ifnull hx hb hd kk)
  case goto off =>
    obtain ⟨t, ht, he2⟩ := jp_inv he
    exact Gl_1 (ih _ _ _ _ he2) (fun h => h) (fun H locs lm kk => lv_goto hx hb hd ht kk)
  case tableswitch dflt lo hiT offs =>
    obtain ⟨hg, he1⟩ := bif_inv he
    obtain ⟨hg1, hg2⟩ := Bool.and_eq_true _ _ ▸ hg
    have hg1 := Nat.eq_of_beq_eq_true hg1
    have hg2 := of_decide_eq_true hg2
    obtain ⟨x, r, rfl, he2⟩ := p1_inv he1
    have hsz : (offs.toList.length : Int) = hiT - lo + 1 := by
      rw [Array.length_toList, hg1]
      omega
    rcases swt_tab offs.toList lo hg2.1 (by omega) he2 with ⟨h3, h4⟩ | ⟨off, h3, h4, h5, h6⟩
    · obtain ⟨t, ht, he3⟩ := jp_inv h4
      exact Gl_1 (ih _ _ _ _ he3) (fun h => (okS_t h).2) (fun H locs lm kk => lv_tableOut hx hb hd (by omega) ht kk)
    · obtain ⟨t, ht, he3⟩ := jp_inv h6
      exact Gl_1 (ih _ _ _ _ he3) (fun h => (okS_t h).2) (fun H locs lm kk => lv_tableIn hx hb hd h3 (by omega) (by rw [← Array.getElem?_toList]; exact h4) ht kk)
  case lookupswitch dflt ps =>
    obtain ⟨hg, he1⟩ := bif_inv he
    obtain ⟨hg1, hg2⟩ := Bool.and_eq_true _ _ ▸ hg
    obtain ⟨x, r, rfl, he2⟩ := p1_inv he1
    obtain ⟨t, ht, he3⟩ := jp_inv (swt_look _ hg2 he2)
    exact Gl_1 (ih _ _ _ _ he3) (fun h => (okS_t h).2) (fun H locs lm kk => lv_lookup hx hb hd hg1 rfl ht kk)
theorem okV_cell {k n a : Nat} (h : okV E (vR k n a)) (h0 : k ≠ 0) (h4 : k ≠ 4) : (a, k, n) ∈ cellsL := by
  match k, h, h0, h4 with
  | 1, h, _, _ => exact h
  | 2, h, _, _ => exact h
  | 3, h, _, _ => exact h
  | k + 5, h, _, _ => exact h
/-- fields and arrays -/
theorem snd_heap {q : MI} {d : Nat} (hF : Fx p R s m args c cells slots D ad adR kA tys E A q d) {cf : CF} {k : KF} {pc len : Nat} {ls : PL} {st : List PV} {σ : PS} {i : Instr} {z : Option PV × PS} (hd : decode q.2.1 pc = .ok (i, len)) (hlen : lenOk (pc, i, len) = true) (he : exI E cf k q pc ls st σ i = some z)
    (ih : ∀ pc ls st σ, k pc ls st σ = some z → Gl p l e R s m args below meth c cells slots Q D ad adR kA E A q pc ls st σ) (hi : isHeap i = true) : Gl p l e R s m args below meth c cells slots Q D ad adR kA E A q pc ls st σ := by
  have hF0 := hF
  obtain ⟨hq, hx, hb, hml, hown, hts, hnw, hK, hwf, hA, hro, hcells, hslots, hfr, hlo⟩ := hF
  have hcl := (mc_ok q hq).1
  cases i <;> first | (cases hi; done) | skip
  all_goals simp only [lenOk, beq_iff_eq] at hlen
  all_goals try subst hlen
  all_goals simp only [exI] at he
  case getfield j =>
    cases hj : lk (fR q.2.2.2.2.1) j with
    | none => rw [hj] at he; cases he
    | some v =>
      obtain ⟨ci, f, nest, pos⟩ := v
      rw [hj] at he
      obtain ⟨i, n, a, r, rfl, he1⟩ := a1_inv he
      obtain ⟨hg, he2⟩ := bif_inv he1
      obtain ⟨hg1, hg2⟩ := Bool.and_eq_true _ _ ▸ hg
      have e1 := Nat.eq_of_beq_eq_true hg1
      have e2 := Nat.eq_of_beq_eq_true hg2
      subst e1; subst e2
      intro h1 h2 h3 H locs lm h4 h5 h6
      have hc : (a, 1, n) ∈ cellsL := (okS_t h3).1
      obtain ⟨cq, hcq, hfl, hnest, hplain⟩ := fRb_spec (fR_ok _ hcl _ (lk_mem hj))
      next =>
        obtain ⟨hk1, hk2, hk3, hk4, -⟩ := cls_ok n cq hcq
        obtain ⟨v, hv1, hv2, he3⟩ := fget_inv (E := E) (ad := ad) (adR := adR) he2 hc (by rw [← hk2]; exact hfl)
        obtain ⟨q0, hq0, hw⟩ := ws_get (ad := ad) (kA := kA) σ hc
        have hval : ((List.range (fN n)).map (fval ad σ n a))[f]? = some (cv ad adR v) := by
          rw [List.getElem?_map, List.getElem?_range (by rw [← hk2]; exact hfl), hv2]; rfl
        have hnext := ih _ _ _ _ he3 h1 h2 (okS_c hv1 (okS_t h3).2) H locs lm h4 h5 h6
        cases nest with
        | false =>
          obtain ⟨hl1, hl2⟩ := hplain rfl
          exact va_get (C := cq.1) (T := cq.2.1) (N := cq.2.2) (Ts := gw) (ci := n) hx hb hts hk1 hown hK h5 q0 hw hcq f hfl (hts _ (gw_of hl1 hl2)) (fun x h => by rw [hk4 f hfl] at h; exact h) hval hd hnext
        | true =>
          exact va_getN (C := cq.1) (T := cq.2.1) (N := cq.2.2) (Ts := gw) (ci := n) hx hb hts hk1 hown hK h5 q0 hw hcq f hfl (va_Nw.use rfl (hnw _ (nw_of (hnest rfl) rfl))) (fun x h => by rw [hk4 f hfl] at h; exact h) hval hd hnext
  case putfield j =>
    cases hj : lk (fR q.2.2.2.2.1) j with
    | none => rw [hj] at he; cases he
    | some v =>
      obtain ⟨ci, f, nest, pos⟩ := v
      rw [hj] at he
      obtain ⟨x, r0, rfl, he0⟩ := p1_inv he
      obtain ⟨i, n, a, r, rfl, he1⟩ := a1_inv he0
      obtain ⟨hg, he2⟩ := bif_inv he1
      obtain ⟨hg1, hg2⟩ := Bool.and_eq_true _ _ ▸ hg
      have e1 := Nat.eq_of_beq_eq_true hg1
      have e2 := Nat.eq_of_beq_eq_true hg2
      subst e1; subst e2
      intro h1 h2 h3 H locs lm h4 h5 h6
      have hc : (a, 1, n) ∈ cellsL := (okS_t (okS_t h3).2).1
      obtain ⟨cq, hcq, hfl, hnest, hplain⟩ := fRb_spec (fR_ok _ hcl _ (lk_mem hj))
      next =>
        obtain ⟨hk1, hk2, hk3, hk4, ty0, hty, hnm, hkd⟩ := cls_ok n cq hcq
        obtain ⟨hkind, he3⟩ := fput_inv he2
        obtain ⟨q0, hq0, hw⟩ := ws_get (ad := ad) (kA := kA) σ hc
        have hkk : (fk n f).1 = 0 ∨ (fk n f).1 = 1 := hkind.elim Or.inl (fun h => Or.inr h.1)
        have hnew : (wsO ad kA σ).set q0 (ad a, .inr (n, ((List.range (fN n)).map (fval ad σ n a)).set f (.int x))) = wsO ad kA (u2 σ.1 a f x, σ.2) := by
          rw [← conc_put (ad := ad) (kA := kA) (σ := σ) (a := a) (x := x) hkk]
          exact ws_set hq0 (fun r hr hne => conc_congr (u2_ne hne) rfl)
        have hfin : (cq.2.1 f).2.2.2 = false := hkk.elim (fun h => ((hkd f hfl).1 h).2) (fun h => ((hkd f hfl).2 h).2)
        have hnar : narrow (ty0 f) (.int x) = .int x ∧ fits (ty0 f) (.int x) = true := by
          rcases hkind with h | ⟨h, h01⟩
          · rw [((hkd f hfl).1 h).1]; exact ⟨rfl, rfl⟩
          · rw [((hkd f hfl).2 h).1]
            rcases h01 with rfl | rfl <;> exact ⟨by decide, by decide⟩
        have hlf : f < ((List.range (fN n)).map (fval ad σ n a)).length := by rw [List.length_map, List.length_range, ← hk2]; exact hfl
        have hnext : ∀ (H1 : Heap) (locs1 : List Loc), va_P D clsL ((wsO ad kA σ).set q0 (ad a, .inr (n, ((List.range (fN n)).map (fval ad σ n a)).set f (.int x)))) H1 → va_D A ((wsO ad kA σ).set q0 (ad a, .inr (n, ((List.range (fN n)).map (fval ad σ n a)).set f (.int x)))) → va_S A s.heap H1 locs1 → W p l e R s m args below meth c H1 locs1 cells slots Q (F0 m (pc + 3) lm (r.map (cv ad adR))) := by
          intro H1 locs1 hP1 _ hS1
          rw [hnew] at hP1
          exact ih _ _ _ _ he3 h1 h2 (okS_t (okS_t h3).2).2 H1 locs1 lm h4 hP1 hS1
        cases nest with
        | false =>
          obtain ⟨hl1, hl2⟩ := hplain rfl
          exact va_put (C := cq.1) (T := cq.2.1) (N := cq.2.2) (Ts := gw) (ci := n) hx hb hts hk1 ty0 hty hnm hown hK h5 (ws_D hwf hA σ) h6 q0 hw hcq f hfl (hts _ (gw_of hl1 hl2)) (fun x h => by rw [hk4 f hfl] at h; exact h) hfin (hty f hfl) hnar.1 hnar.2 hlf hd hnext
        | true =>
          exact va_putN (C := cq.1) (T := cq.2.1) (N := cq.2.2) (Ts := gw) (ci := n) hx hb hts hk1 ty0 hty hnm hown hK h5 (ws_D hwf hA σ) h6 q0 hw hcq f hfl (va_Nw.use rfl (hnw _ (nw_of (hnest rfl) rfl))) (fun x h => by rw [hk4 f hfl] at h; exact h) hfin (hty f hfl) hnar.1 hnar.2 hlf hd hnext
  case getstatic j =>
    cases hj : lk (sR q.2.2.2.2.1) j with
    | none => rw [hj] at he; cases he
    | some v =>
      obtain ⟨n, a, pos⟩ := v
      rw [hj] at he
      intro h1 h2 h3 H locs lm h4 h5 h6
      have hm := lk_mem hj
      have hc0 : q.2.2.2.2.1 = 0 := by
        match hz : q.2.2.2.2.1, hm with
        | 0, _ => rfl
      rw [hc0] at hm hown
      simp only [sR, List.mem_cons, Prod.mk.injEq, List.not_mem_nil, or_false] at hm
      rcases hm with ⟨rfl, rfl, rfl, rfl⟩ | ⟨rfl, rfl, rfl, rfl⟩
      · exact va_gets hx hb hro.2.1 h6 hown (hts _ (gw_of sR_ok.1 sR_ok.2.2.1)) (fun _ h => h) hd (ih _ _ _ _ he h1 h2 (okS_c (v := vR 4 32 2) ⟨by decide, rfl⟩ h3) H locs lm h4 h5 h6)
      · exact va_gets hx hb hro.2.2 h6 hown (hts _ (gw_of sR_ok.2.1 sR_ok.2.2.2)) (fun _ h => h) hd (ih _ _ _ _ he h1 h2 (okS_c (v := vR 4 8 1) ⟨by decide, rfl⟩ h3) H locs lm h4 h5 h6)
  case iaload =>
    obtain ⟨i, r0, rfl, he0⟩ := p1_inv he
    obtain ⟨kd, n, a, r, rfl, he1⟩ := a1_inv he0
    intro h1 h2 h3 H locs lm h4 h5 h6
    have hok := (okS_t (okS_t h3).2).1
    match kd, he1, hok, h3 with
    | 2, he1, hok, h3 =>
      obtain ⟨hib, he2⟩ := ite_inv he1
      obtain ⟨q0, hq0, hw⟩ := ws_get (ad := ad) (kA := kA) σ (q := (a, 2, n)) hok
      obtain ⟨t0, ht⟩ := hwf.2.1 (a, 2, n) hok rfl
      exact va_iald hx hb hK h5 q0 t0 hw ht (vp_in_iff.mpr hib) hd (ih _ _ _ _ he2 h1 h2 (okS_c trivial (okS_t (okS_t h3).2).2) H locs lm h4 h5 h6)
    | 4, he1, hok, h3 =>
      obtain ⟨hib, he2⟩ := ite_inv he1
      have hT := hro.1 a hok.1
      exact va_ti hx hb hT h6 (by rw [← hok.2]; exact vp_in_iff.mpr hib) rfl hd (ih _ _ _ _ he2 h1 h2 (okS_c trivial (okS_t (okS_t h3).2).2) H locs lm h4 h5 h6)
  case iastore =>
    obtain ⟨i, x, r0, rfl, he0⟩ := p2_inv he
    obtain ⟨kd, n, a, r, rfl, he1⟩ := a1_inv he0
    intro h1 h2 h3 H locs lm h4 h5 h6
    have hok := (okS_t (okS_t (okS_t h3).2).2).1
    match kd, he1, hok, h3 with
    | 2, he1, hok, h3 =>
      obtain ⟨hib, he2⟩ := ite_inv he1
      obtain ⟨q0, hq0, hw⟩ := ws_get (ad := ad) (kA := kA) σ (q := (a, 2, n)) hok
      obtain ⟨t0, ht⟩ := hwf.2.1 (a, 2, n) hok rfl
      refine va_iast hx hb hK h5 (ws_D hwf hA σ) h6 q0 t0 hw ht (vp_in_iff.mpr hib) hd (fun H1 locs1 hP1 _ hS1 => ?_)
      have hnew : (wsO ad kA σ).set q0 (ad a, .inl (kA a, n, .inl (upd (σ.1 a) i.toNatClampNeg x))) = wsO ad kA (u2 σ.1 a (ix i) x, σ.2) := by
        rw [← ws_set (σ := σ) (σ' := (u2 σ.1 a (ix i) x, σ.2)) hq0 (fun r hr hne => conc_congr (u2_ne hne) rfl)]
        show _ = (wsO ad kA σ).set q0 (ad a, .inl (kA a, n, .inl (u2 σ.1 a (ix i) x a)))
        rw [u2_eq]
        rfl
      have hP1 : va_P D clsL ((wsO ad kA σ).set q0 (ad a, .inl (kA a, n, .inl (upd (σ.1 a) i.toNatClampNeg x)))) H1 := hP1
      rw [hnew] at hP1
      exact ih _ _ _ _ he2 h1 h2 (okS_t (okS_t (okS_t h3).2).2).2 H1 locs1 lm h4 hP1 hS1
  case laload =>
    obtain ⟨i, r0, rfl, he0⟩ := p1_inv he
    obtain ⟨kd, n, a, r, rfl, he1⟩ := a1_inv he0
    intro h1 h2 h3 H locs lm h4 h5 h6
    have hok := (okS_t (okS_t h3).2).1
    match kd, he1, hok, h3 with
    | 3, he1, hok, h3 =>
      obtain ⟨hib, he2⟩ := ite_inv he1
      obtain ⟨q0, hq0, hw⟩ := ws_get (ad := ad) (kA := kA) σ (q := (a, 3, n)) hok
      obtain ⟨t0, ht⟩ := hwf.2.2.1 (a, 3, n) hok rfl
      exact va_lald hx hb hK h5 q0 t0 hw ht (vp_in_iff.mpr hib) hd (ih _ _ _ _ he2 h1 h2 (okS_c trivial (okS_t (okS_t h3).2).2) H locs lm h4 h5 h6)
  case lastore =>
    obtain ⟨x, r1, rfl, hel⟩ := q1_inv he
    obtain ⟨i, r0, rfl, he0⟩ := p1_inv hel
    obtain ⟨kd, n, a, r, rfl, he1⟩ := a1_inv he0
    intro h1 h2 h3 H locs lm h4 h5 h6
    have hok := (okS_t (okS_t (okS_t h3).2).2).1
    match kd, he1, hok, h3 with
    | 3, he1, hok, h3 =>
      obtain ⟨hib, he2⟩ := ite_inv he1
      obtain ⟨q0, hq0, hw⟩ := ws_get (ad := ad) (kA := kA) σ (q := (a, 3, n)) hok
      obtain ⟨t0, ht⟩ := hwf.2.2.1 (a, 3, n) hok rfl
      refine va_last hx hb hK h5 (ws_D hwf hA σ) h6 q0 t0 hw ht (vp_in_iff.mpr hib) hd (fun H1 locs1 hP1 _ hS1 => ?_)
      have hnew : (wsO ad kA σ).set q0 (ad a, .inl (kA a, n, .inr (.inl (vp_updL (σ.2 a) i.toNatClampNeg x)))) = wsO ad kA (σ.1, u2L σ.2 a (ix i) x) := by
        rw [← ws_set (σ := σ) (σ' := (σ.1, u2L σ.2 a (ix i) x)) hq0 (fun r hr hne => conc_congr rfl (u2L_ne hne))]
        show _ = (wsO ad kA σ).set q0 (ad a, .inl (kA a, n, .inr (.inl (u2L σ.2 a (ix i) x a))))
        rw [u2L_eq]
        rfl
      have hP1 : va_P D clsL ((wsO ad kA σ).set q0 (ad a, .inl (kA a, n, .inr (.inl (vp_updL (σ.2 a) i.toNatClampNeg x))))) H1 := hP1
      rw [hnew] at hP1
      exact ih _ _ _ _ he2 h1 h2 (okS_t (okS_t (okS_t h3).2).2).2 H1 locs1 lm h4 hP1 hS1
  case aaload =>
    obtain ⟨i, r0, rfl, he0⟩ := p1_inv he
    obtain ⟨kd, n, a, r, rfl, he1⟩ := a1_inv he0
    intro h1 h2 h3 H locs lm h4 h5 h6
    have hok := (okS_t (okS_t h3).2).1
    match kd, he1, hok, h3 with
    | 5, he1, hok, h3 =>
      obtain ⟨hib, he2⟩ := ite_inv he1
      obtain ⟨q0, hq0, hw⟩ := ws_get (ad := ad) (kA := kA) σ (q := (a, 5, n)) hok
      obtain ⟨t0, ht⟩ := hwf.2.2.2 (a, 5, n) hok rfl
      have hlt : ix i < n := Nat.not_le.mp fun q => (vp_in_iff.mpr hib) (Or.inr q)
      exact pm_aaload hx hb hK h5 q0 t0 hw ht (vp_in_iff.mpr hib) hd (ih _ _ _ _ he2 h1 h2 (okS_c (v := vR 3 60 (a + 1 + ix i)) (sh_row hok hlt) (okS_t (okS_t h3).2).2) H locs lm h4 h5 h6)
  case arraylength =>
    obtain ⟨kd, n, a, r, rfl, he1⟩ := a1_inv he
    intro h1 h2 h3 H locs lm h4 h5 h6
    have hok := (okS_t h3).1
    match kd, he1, hok, h3 with
    | 2, he1, hok, h3 =>
      obtain ⟨q0, hq0, hw⟩ := ws_get (ad := ad) (kA := kA) σ (q := (a, 2, n)) hok
      obtain ⟨t0, ht⟩ := hwf.2.1 (a, 2, n) hok rfl
      exact va_alen hx hb hK h5 q0 t0 hw ht rfl hd (ih _ _ _ _ he1 h1 h2 (okS_c trivial (okS_t h3).2) H locs lm h4 h5 h6)
    | 3, he1, hok, h3 =>
      obtain ⟨q0, hq0, hw⟩ := ws_get (ad := ad) (kA := kA) σ (q := (a, 3, n)) hok
      obtain ⟨t0, ht⟩ := hwf.2.2.1 (a, 3, n) hok rfl
      exact va_alen hx hb hK h5 q0 t0 hw ht rfl hd (ih _ _ _ _ he1 h1 h2 (okS_c trivial (okS_t h3).2) H locs lm h4 h5 h6)
    | 4, he1, hok, h3 =>
      exact va_tlen hx hb (hro.1 a hok.1) h6 (by rw [← hok.2]) hd (ih _ _ _ _ he1 h1 h2 (okS_c trivial (okS_t h3).2) H locs lm h4 h5 h6)
    | 5, he1, hok, h3 =>
      obtain ⟨q0, hq0, hw⟩ := ws_get (ad := ad) (kA := kA) σ (q := (a, 5, n)) hok
      obtain ⟨t0, ht⟩ := hwf.2.2.2 (a, 5, n) hok rfl
      exact va_alen hx hb hK h5 q0 t0 hw ht rfl hd (ih _ _ _ _ he1 h1 h2 (okS_c trivial (okS_t h3).2) H locs lm h4 h5 h6)
end SND2
end
section
def isArith : Instr → Bool
  | .iadd => true
  | .isub => true
  | .imul => true
  | .iand => true
  | .ior => true
  | .ixor => true
  | .idiv => true
  | .irem => true
  | .ineg => true
  | .ishl => true
  | .ishr => true
  | .iushr => true
  | .i2b => true
  | .i2s => true
  | .i2l => true
  | .l2i => true
  | .ladd => true
  | .land => true
  | .lor => true
  | .lshl => true
  | .lcmp => true
  | _ => false
theorem arith_mem {i : Instr} (h : isArith i = true) : i ∈ ([.iadd, .isub, .imul, .iand, .ior, .ixor, .idiv, .irem, .ineg, .ishl, .ishr, .iushr, .i2b, .i2s, .i2l, .l2i, .ladd, .land, .lor, .lshl, .lcmp] : List Instr) := by
  cases i <;> first | (cases h; done) | simp
def isCall : Instr → Bool
  | .invokevirtual _ => true
  | .invokestatic _ => true
  | _ => false
def isRet : Instr → Bool
  | .ireturn => true
  | .lreturn => true
  | .areturn => true
  | .return_ => true
  | _ => false
theorem gcal_spec {pc : Nat} {ls : PL} {rest : List PV} {ret : Option FieldType} {r : Option PV × PS} {c : Nat × PL × List PV × PS} (h : gcal pc ls rest ret r = some c) : c = (pc + 3, ls, r.1.toList ++ rest, r.2) := by
  rcases r with ⟨_ | (x | x | ⟨i, n, a⟩), s⟩ <;> rcases ret with _ | ret <;> simp only [gcal] at h <;> first | (cases h; done) | (cases h; rfl) | (cases ret <;> simp only [] at h <;> first | (cases h; done) | (cases h; rfl))
theorem cal_inv {k : KF} {pc : Nat} {ls : PL} {rest : List PV} {ret : Option FieldType} {res : PR} {z : Option PV × PS} (h : cal k pc ls rest ret res = some z) : ∃ r σ, res = some (r, σ) ∧ k (pc + 3) ls (r.toList ++ rest) σ = some z := by
  rw [cal_eq] at h
  obtain ⟨r, h1, h2⟩ := Option.bind_eq_some_iff.mp h
  obtain ⟨c, h3, h4⟩ := Option.bind_eq_some_iff.mp h2
  have := gcal_spec h3
  subst this
  exact ⟨r.1, r.2, h1, h4⟩
theorem split_st {st as : List PV} {n : Nat} (h : n < st.length) (e : (st.take (n + 1)).reverse = as) : as.length = n + 1 ∧ st = as.reverse ++ st.drop (n + 1) := by
  subst e
  refine ⟨by rw [List.length_reverse, List.length_take]; omega, ?_⟩
  rw [List.reverse_reverse, List.take_append_drop]
theorem split_st0 {st as : List PV} {n : Nat} (h : n ≤ st.length) (e : (st.take n).reverse = as) : as.length = n ∧ st = as.reverse ++ st.drop n := by
  subst e
  refine ⟨by rw [List.length_reverse, List.length_take]; omega, ?_⟩
  rw [List.reverse_reverse, List.take_append_drop]
theorem mt0_lt : mt0.length = 253 := by decide +kernel
theorem ev_nat {E : Nat × (Nat → Int32)} {d F y : Nat} {as : List PV} {σ : PS} {x : Option PV × PS} (h : evM E d F y as σ = some x) : ∃ d', d = d' + 1 := by
  cases d with
  | zero => cases h
  | succ d => exact ⟨d, rfl⟩
theorem mRb_0 {c j y n p1 p2 p3 : Nat} (h : mRb c (j, y, 0, n, p1, p2, p3) = true) : ∃ q, mt0[y]? = some q ∧ Cond.methodLink (cn c) j q.1 ∈ gw ∧ Cond.instanceMethod q.1 ∈ gw ∧ Cond.selects q.1.cls q.1 q.1 ∈ gw ∧ (parseMethodDescriptor q.1.desc).map (fun d => d.parameters.length) = some n := by
  simp only [mRb] at h
  cases hq : mt0[y]? with
  | none => rw [hq] at h; cases h
  | some q =>
    rw [hq] at h
    simp only [Bool.and_eq_true, decide_eq_true_eq] at h
    obtain ⟨⟨⟨⟨h1, h2⟩, h3, h4⟩, h5, h6⟩, h7⟩ := h
    exact ⟨q, rfl, gw_of h1 h2, gw_of h3 h4, gw_of h5 h6, h7⟩
theorem mRb_1 {c j y n p1 p2 p3 : Nat} (h : mRb c (j, y, 1, n, p1, p2, p3) = true) : ∃ q, mt0[y]? = some q ∧ Cond.methodLink (cn c) j q.1 ∈ gw ∧ Cond.static q.1 ∈ gw ∧ (parseMethodDescriptor q.1.desc).map (fun d => d.parameters.length) = some n := by
  simp only [mRb] at h
  cases hq : mt0[y]? with
  | none => rw [hq] at h; cases h
  | some q =>
    rw [hq] at h
    simp only [Bool.and_eq_true, decide_eq_true_eq] at h
    obtain ⟨⟨⟨h1, h2⟩, h3, h4⟩, h7⟩ := h
    exact ⟨q, rfl, gw_of h1 h2, gw_of h3 h4, h7⟩
theorem mRb_2 {c j y n p1 p2 p3 : Nat} (h : mRb c (j, y, 2, n, p1, p2, p3) = true) : ∃ q, mt0[y]? = some q ∧ Cond.methodLinkNest (cn c) j q.1 "BeggarBridge" ∈ nwL ∧ Cond.static q.1 ∈ gw ∧ (parseMethodDescriptor q.1.desc).map (fun d => d.parameters.length) = some n := by
  simp only [mRb] at h
  cases hq : mt0[y]? with
  | none => rw [hq] at h; cases h
  | some q =>
    rw [hq] at h
    simp only [Bool.and_eq_true, decide_eq_true_eq] at h
    obtain ⟨⟨h1, h3, h4⟩, h7⟩ := h
    exact ⟨q, rfl, nw_of h1 rfl, gw_of h3 h4, h7⟩
section SND3
variable {p : Program} {l : Launch} {e : Env} {R : Room} {s : State} {m : MethodId} {args : Array Value} {below : List Frame} {meth : Method} {c : Code} {cells slots : Nat} {Q : State → Prop} {D : va_G} {ad adR : Nat → Nat} {kA : Nat → ClassId} {tys : List (ClassId × FieldType)} {E : Nat × (Nat → Int32)} {A : Nat → Prop}
theorem lr_size {ls : PL} {lm : Array Slot} (h : lr ad adR ls lm) : lm.size = ls.length := h.1
theorem okS_sub {st as : List PV} (h : okS E st) (hs : ∀ v ∈ as, v ∈ st) : okS E as := fun v hv => h v (hs v hv)
theorem okS_res {r : Option PV} {rest : List PV} (ho : okO E r) (h : okS E rest) : okS E (r.toList ++ rest) := by
  cases r with
  | none => exact h
  | some v => exact okS_c (ho v rfl) h
theorem map_res (r : Option PV) (rest : List PV) : (r.toList ++ rest).map (cv ad adR) = (r.map (cv ad adR)).toList ++ rest.map (cv ad adR) := by
  cases r <;> rfl
theorem snd_callV {q : MI} {d F : Nat} (hF : Fx p R s m args c cells slots D ad adR kA tys E A q d) (hcall : CallsOk l D ad adR kA tys E d F) {k : KF} {pc : Nat} {ls : PL} {st : List PV} {σ : PS} {j y n p1 p2 p3 : Nat} {z : Option PV × PS} (hd : decode q.2.1 pc = .ok (.invokevirtual j, 3)) (hm : mRb q.2.2.2.2.1 (j, y, 0, n, p1, p2, p3) = true) (he : calV (evM E d F) k pc ls st σ y n = some z)
    (ih : ∀ pc ls st σ, k pc ls st σ = some z → Gl p l e R s m args below meth c cells slots Q D ad adR kA E A q pc ls st σ) : Gl p l e R s m args below meth c cells slots Q D ad adR kA E A q pc ls st σ := by
  obtain ⟨hq, hx, hb, hml, hown, hts, hnw, hK, hwf, hA, hro, hcells, hslots, hfr, hlo⟩ := hF
  obtain ⟨q', hq', hw1, hw2, hw3, hpar⟩ := mRb_0 hm
  unfold calV at he
  rw [hq'] at he
  obtain ⟨hg, he1⟩ := bif_inv he
  obtain ⟨hg1, hg2⟩ := Bool.and_eq_true _ _ ▸ hg
  have hg1 := blt_iff hg1
  have hg2 := Nat.le_of_ble_eq_true hg2
  generalize has : (st.take (n + 1)).reverse = as at he1
  match as, has, he1 with
  | .inr (.inr (1, ci, a)) :: as, has, he1 =>
    obtain ⟨hci, he2⟩ := bif_inv he1
    have hci := Nat.eq_of_beq_eq_true hci
    obtain ⟨hl, hst⟩ := split_st hg1 has
    obtain ⟨r, σ', hev, he3⟩ := cal_inv he2
    intro h1 h2 h3 H locs lm h4 h5 h6
    have hokA : okS E (vR 1 ci a :: as) := okS_sub h3 (fun v hv => by rw [hst]; exact List.mem_append_left _ (List.mem_reverse.mpr hv))
    obtain ⟨d', hdd, hM⟩ := hcall y q' _ σ r σ' hq' hev hokA
    obtain ⟨o1, o2, ho1, ho2, ho3, ho4, ho5, ho6⟩ := mt_ok q' (List.mem_of_getElem? hq')
    have hcell : (a, 1, ci) ∈ cellsL := (okS_t hokA).1
    obtain ⟨q0, hq0, hw⟩ := ws_get (ad := ad) (kA := kA) σ hcell
    have hsh := (Bool.and_eq_true _ _ ▸ sh_ok _ hcell : _ ∧ _).1
    have hci13 : ci < clsL.length := by
      have : ci < 13 := of_decide_eq_true hsh
      exact this
    have hcq : clsL[ci]? = some clsL[ci] := List.getElem?_eq_getElem hci13
    have hname : (clsL[ci]).1 = q'.1.cls := by rw [(cls_ok ci _ hcq).2.2.1, ho5, hci]
    have hAA : ∀ q, AA ad q → A q := by
      rintro q ⟨r, hr, rfl⟩
      exact hA r hr
    have hstM : st.map (cv ad adR) = (as.map (cv ad adR)).reverse ++ .ref (ad a) :: (st.drop (n + 1)).map (cv ad adR) := by
      have e := congrArg (List.map (cv ad adR)) hst
      rw [e, List.map_append, List.reverse_cons, List.map_append, List.map_reverse, List.append_assoc]
      rfl
    refine pm_call (rest := (st.drop (n + 1)).map (cv ad adR)) (va_runV (C := q'.1.cls) (As := as.map (cv ad adR)) (b := ad a) (Ts := gw) (n := n) ⟨hx, hb, hml, hown, hts⟩ hM ⟨callB_of n hts (goodM ho1) rfl rfl rfl (hts _ (gw_of ho2 rfl)) (hts _ hw1) ⟨ho4.1, ho4.2, hpar⟩ ⟨by show d' + 1 ≤ R.frames; omega, by show 8 + (q'.2.2.1 + 11) + 64 * d' ≤ R.locals; omega⟩, hts _ hw2, hts _ hw3⟩ ⟨PcO_blind, by rw [← hname]; exact va_recv hK h5 hcq hw, pm_pre (as := vR 1 ci a :: as) hnw hK hAA hro h5 h6⟩ rfl (by rw [List.length_map]; simp at hl; omega) (h4.1.trans h1) hstM (lv_room (by rw [sum_cv]; exact hg2)) hd ⟨hcells, hslots⟩) h6 hAA (fun H1 locs1 ho hP1 hS1 => ?_)
    rw [← map_res]
    exact ih _ _ _ _ he3 h1 h2 (okS_res ho (okS_sub h3 (fun v hv => List.mem_of_mem_drop hv))) H1 locs1 lm h4 hP1 hS1
theorem snd_callS {q : MI} {d F : Nat} (hF : Fx p R s m args c cells slots D ad adR kA tys E A q d) (hcall : CallsOk l D ad adR kA tys E d F) {k : KF} {pc : Nat} {ls : PL} {st : List PV} {σ : PS} {j y n kd p1 p2 p3 : Nat} {z : Option PV × PS} (hd : decode q.2.1 pc = .ok (.invokestatic j, 3)) (hm : mRb q.2.2.2.2.1 (j, y, kd, n, p1, p2, p3) = true) (hkd : kd = 1 ∨ kd = 2) (he : calS (evM E d F) k pc ls st σ y n = some z)
    (ih : ∀ pc ls st σ, k pc ls st σ = some z → Gl p l e R s m args below meth c cells slots Q D ad adR kA E A q pc ls st σ) : Gl p l e R s m args below meth c cells slots Q D ad adR kA E A q pc ls st σ := by
  obtain ⟨hq, hx, hb, hml, hown, hts, hnw, hK, hwf, hA, hro, hcells, hslots, hfr, hlo⟩ := hF
  have hAA : ∀ q, AA ad q → A q := by
    rintro q ⟨r, hr, rfl⟩
    exact hA r hr
  unfold calS at he
  cases hq' : mt0[y]? with
  | none => rw [hq'] at he; cases he
  | some q' =>
    rw [hq'] at he
    obtain ⟨hg, he1⟩ := bif_inv he
    obtain ⟨hg1, hg2⟩ := Bool.and_eq_true _ _ ▸ hg
    have hg1 := Nat.le_of_ble_eq_true hg1
    have hg2 := Nat.le_of_ble_eq_true hg2
    generalize has : (st.take n).reverse = as at he1
    obtain ⟨hl, hst⟩ := split_st0 hg1 has
    obtain ⟨r, σ', hev, he3⟩ := cal_inv he1
    intro h1 h2 h3 H locs lm h4 h5 h6
    have hokA : okS E as := okS_sub h3 (fun v hv => by rw [hst]; exact List.mem_append_left _ (List.mem_reverse.mpr hv))
    obtain ⟨d', hdd, hM⟩ := hcall y q' _ σ r σ' hq' hev hokA
    obtain ⟨o1, o2, ho1, ho2, ho3, ho4, ho5, ho6⟩ := mt_ok q' (List.mem_of_getElem? hq')
    have hstM : st.map (cv ad adR) = (as.map (cv ad adR)).reverse ++ (st.drop n).map (cv ad adR) := by
      rw [hst, List.map_append, List.map_reverse]
      simp [hl]
    have hrm : (rmO d').frames + 1 ≤ R.frames ∧ 8 + (q'.2.2.1 + 11) + (rmO d').locals ≤ R.locals := ⟨by show d' + 1 ≤ R.frames; omega, by show 8 + (q'.2.2.1 + 11) + 64 * d' ≤ R.locals; omega⟩
    rcases hkd with rfl | rfl
    · obtain ⟨q2, hq2, hw1, hw2, hpar⟩ := mRb_1 hm
      cases hq'.symm.trans hq2
      refine pm_call (rest := (st.drop n).map (cv ad adR)) (va_runS (As := as.map (cv ad adR)) (Ts := gw) (n := n) ⟨hx, hb, hml, hown, hts⟩ hM ⟨callB_of n hts (goodM ho1) rfl rfl rfl (hts _ (gw_of ho2 rfl)) (hts _ hw1) ⟨ho4.1, ho4.2, hpar⟩ hrm, hts _ hw2⟩ ⟨PcO_blind, pm_pre (as := as) hnw hK hAA hro h5 h6⟩ rfl (by rw [List.length_map]; exact hl) (h4.1.trans h1) hstM (lv_room (by rw [sum_cv]; exact hg2)) hd ⟨hcells, hslots⟩) h6 hAA (fun H1 locs1 ho hP1 hS1 => ?_)
      rw [← map_res]
      exact ih _ _ _ _ he3 h1 h2 (okS_res ho (okS_sub h3 (fun v hv => List.mem_of_mem_drop hv))) H1 locs1 lm h4 hP1 hS1
    · obtain ⟨q2, hq2, hw1, hw2, hpar⟩ := mRb_2 hm
      cases hq'.symm.trans hq2
      refine pm_call (rest := (st.drop n).map (cv ad adR)) (va_runSN (As := as.map (cv ad adR)) (Ts := gw) (n := n) ⟨hx, hb, hml, hown, hts⟩ hM ⟨va_cnB n hts (goodM ho1) rfl rfl rfl (hnw _ hw1) (hts _ (gw_of ho2 rfl)) ⟨ho4.1, ho4.2, hpar⟩ hrm, hts _ hw2, trivial⟩ ⟨PcO_blind, pm_pre (as := as) hnw hK hAA hro h5 h6⟩ rfl (by rw [List.length_map]; exact hl) (h4.1.trans h1) hstM (lv_room (by rw [sum_cv]; exact hg2)) hd ⟨hcells, hslots⟩) h6 hAA (fun H1 locs1 ho hP1 hS1 => ?_)
      rw [← map_res]
      exact ih _ _ _ _ he3 h1 h2 (okS_res ho (okS_sub h3 (fun v hv => List.mem_of_mem_drop hv))) H1 locs1 lm h4 hP1 hS1
theorem ac_inv {as : List PV} {σ : PS} {x : Option PV × PS} (h : acp as σ = some x) : (∃ n0 a sp n1 b dp n, as = [vR 2 n0 a, vI sp, vR 2 n1 b, vI dp, vI n] ∧ (¬ sp < 0 ∧ ¬ dp < 0 ∧ ¬ n < 0 ∧ ix sp + ix n ≤ n0 ∧ ix dp + ix n ≤ n1) ∧ x = (none, (c2 σ.1 a b (ix sp) (ix dp) (ix n), σ.2))) ∨ ∃ n0 a sp n1 b dp n, as = [vR 3 n0 a, vI sp, vR 3 n1 b, vI dp, vI n] ∧ (¬ sp < 0 ∧ ¬ dp < 0 ∧ ¬ n < 0 ∧ ix sp + ix n ≤ n0 ∧ ix dp + ix n ≤ n1) ∧ x = (none, (σ.1, c2L σ.2 a b (ix sp) (ix dp) (ix n))) := by
  unfold acp at h
  split at h
  · obtain ⟨h1, h2⟩ := ite_inv h
    exact Or.inl ⟨_, _, _, _, _, _, _, rfl, h1, (Option.some.inj h2).symm⟩
  · obtain ⟨h1, h2⟩ := ite_inv h
    exact Or.inr ⟨_, _, _, _, _, _, _, rfl, h1, (Option.some.inj h2).symm⟩
  · cases h
theorem bV_inv {x : PR} {f : PS → PR} {z : Option PV × PS} (h : bV x f = some z) : ∃ s, x = some (none, s) ∧ f s = some z := by
  rcases x with _ | ⟨_ | (x | x | x), s⟩
  · cases h
  · exact ⟨s, rfl, h⟩
  · cases h
  · cases h
  · cases h
theorem bI_inv {x : PR} {f : Int32 → PS → PR} {z : Option PV × PS} (h : bI x f = some z) : ∃ r s, x = some (some (vI r), s) ∧ f r s = some z := by
  rcases x with _ | ⟨_ | (x | x | x), s⟩
  · cases h
  · cases h
  · exact ⟨x, s, rfl, h⟩
  · cases h
  · cases h
theorem c2_ne {M : Nat → Nat → Int32} {a b sp dp n r : Nat} (h : r ≠ b) : c2 M a b sp dp n r = M r := if_neg h
theorem c2_eq {M : Nat → Nat → Int32} {a b sp dp n : Nat} : c2 M a b sp dp n b = va_cpy (M a) (M b) sp dp n := if_pos rfl
theorem c2L_ne {M : Nat → Nat → Int64} {a b sp dp n r : Nat} (h : r ≠ b) : c2L M a b sp dp n r = M r := if_neg h
theorem c2L_eq {M : Nat → Nat → Int64} {a b sp dp n : Nat} : c2L M a b sp dp n b = va_cpy (M a) (M b) sp dp n := if_pos rfl
theorem snd_callC {q : MI} {d F : Nat} (hF : Fx p R s m args c cells slots D ad adR kA tys E A q d) {k : KF} {pc : Nat} {ls : PL} {st : List PV} {σ : PS} {j y n p1 p2 p3 : Nat} {z : Option PV × PS} (hd : decode q.2.1 pc = .ok (.invokestatic j, 3)) (hm : mRb q.2.2.2.2.1 (j, y, 3, n, p1, p2, p3) = true) (he : calC (evM E d F) k pc ls st σ = some z)
    (ih : ∀ pc ls st σ, k pc ls st σ = some z → Gl p l e R s m args below meth c cells slots Q D ad adR kA E A q pc ls st σ) : Gl p l e R s m args below meth c cells slots Q D ad adR kA E A q pc ls st σ := by
  obtain ⟨hq, hx, hb, hml, hown, hts, hnw, hK, hwf, hA, hro, hcells, hslots, hfr, hlo⟩ := hF
  simp only [mRb, Bool.and_eq_true, decide_eq_true_eq] at hm
  have hlink := hts _ (gw_of hm.1 hm.2)
  unfold calC at he
  obtain ⟨hg, he1⟩ := bif_inv he
  obtain ⟨hg1, hg2⟩ := Bool.and_eq_true _ _ ▸ hg
  have hg1 := Nat.le_of_ble_eq_true hg1
  have hg2 := Nat.le_of_ble_eq_true hg2
  generalize has : (st.take 5).reverse = as at he1
  obtain ⟨hl, hst⟩ := split_st0 hg1 has
  obtain ⟨σ1, hev, he3⟩ := bV_inv he1
  obtain ⟨d', rfl⟩ := ev_nat hev
  have hev : acp as σ = some (none, σ1) := hev
  intro h1 h2 h3 H locs lm h4 h5 h6
  have hokA : okS E as := okS_sub h3 (fun v hv => by rw [hst]; exact List.mem_append_left _ (List.mem_reverse.mpr hv))
  have hok2 : okS E (st.drop 5) := okS_sub h3 (fun v hv => List.mem_of_mem_drop hv)
  have hmax : c.maxLocals = lm.size := by rw [hml, h4.1, h1]
  have hloc : (((st.drop 5).map (cv ad adR)).map fun v => v.category).sum + (nativeFrameWords "java/lang/System" "arraycopy" 5 + 11) ≤ R.locals := by
    rw [sum_cv, show nativeFrameWords "java/lang/System" "arraycopy" 5 = 7 from by decide +kernel]
    omega
  have e0 := congrArg (List.map (cv ad adR)) hst
  rcases ac_inv hev with ⟨n0, a, sp, n1, b, dp, nn, rfl, hc, hx2⟩ | ⟨n0, a, sp, n1, b, dp, nn, rfl, hc, hx2⟩
  · cases hx2
    have hca : (a, 2, n0) ∈ cellsL := hokA (vR 2 n0 a) (by simp)
    have hcb : (b, 2, n1) ∈ cellsL := hokA (vR 2 n1 b) (by simp)
    obtain ⟨q0, hq0, hw0⟩ := ws_get (ad := ad) (kA := kA) σ hca
    obtain ⟨q1, hq1, hw1⟩ := ws_get (ad := ad) (kA := kA) σ hcb
    obtain ⟨t0, ht0⟩ := hwf.2.1 _ hca rfl
    obtain ⟨t1, ht1⟩ := hwf.2.1 _ hcb rfl
    rw [e0]
    refine va_copyi hx hb hmax hown hlink (hts _ ac_ok.1) (hts _ ac_ok.2.1) (hts _ ac_ok.2.2) hK h5 (ws_D hwf hA σ) h6 q0 q1 t0 t1 hw0 hw1 ht0 ht1 rfl hc.1 hc.2.1 hc.2.2.1 hc.2.2.2.1 hc.2.2.2.2 (fun _ _ => rfl) (by omega) hloc hd (fun H1 locs1 hP1 _ hS1 => ?_)
    have hnew : (wsO ad kA σ).set q1 (ad b, .inl (kA b, n1, .inl (va_cpy (σ.1 a) (σ.1 b) sp.toNatClampNeg dp.toNatClampNeg nn.toNatClampNeg))) = wsO ad kA (c2 σ.1 a b (ix sp) (ix dp) (ix nn), σ.2) := by
      rw [← ws_set (σ := σ) (σ' := (c2 σ.1 a b (ix sp) (ix dp) (ix nn), σ.2)) hq1 (fun r hr hne => conc_congr (c2_ne hne) rfl)]
      show _ = (wsO ad kA σ).set q1 (ad b, .inl (kA b, n1, .inl (c2 σ.1 a b (ix sp) (ix dp) (ix nn) b)))
      rw [c2_eq]
      rfl
    have hP1 : va_P D clsL ((wsO ad kA σ).set q1 (ad b, .inl (kA b, n1, .inl (va_cpy (σ.1 a) (σ.1 b) sp.toNatClampNeg dp.toNatClampNeg nn.toNatClampNeg)))) H1 := hP1
    rw [hnew] at hP1
    exact ih _ _ _ _ he3 h1 h2 hok2 H1 locs1 lm h4 hP1 hS1
  · cases hx2
    have hca : (a, 3, n0) ∈ cellsL := hokA (vR 3 n0 a) (by simp)
    have hcb : (b, 3, n1) ∈ cellsL := hokA (vR 3 n1 b) (by simp)
    obtain ⟨q0, hq0, hw0⟩ := ws_get (ad := ad) (kA := kA) σ hca
    obtain ⟨q1, hq1, hw1⟩ := ws_get (ad := ad) (kA := kA) σ hcb
    obtain ⟨t0, ht0⟩ := hwf.2.2.1 _ hca rfl
    obtain ⟨t1, ht1⟩ := hwf.2.2.1 _ hcb rfl
    rw [e0]
    refine va_copyl hx hb hmax hown hlink (hts _ ac_ok.1) (hts _ ac_ok.2.1) (hts _ ac_ok.2.2) hK h5 (ws_D hwf hA σ) h6 q0 q1 t0 t1 hw0 hw1 ht0 ht1 rfl hc.1 hc.2.1 hc.2.2.1 hc.2.2.2.1 hc.2.2.2.2 (fun _ _ => rfl) (by omega) hloc hd (fun H1 locs1 hP1 _ hS1 => ?_)
    have hnew : (wsO ad kA σ).set q1 (ad b, .inl (kA b, n1, .inr (.inl (va_cpy (σ.2 a) (σ.2 b) sp.toNatClampNeg dp.toNatClampNeg nn.toNatClampNeg)))) = wsO ad kA (σ.1, c2L σ.2 a b (ix sp) (ix dp) (ix nn)) := by
      rw [← ws_set (σ := σ) (σ' := (σ.1, c2L σ.2 a b (ix sp) (ix dp) (ix nn))) hq1 (fun r hr hne => conc_congr rfl (c2L_ne hne))]
      show _ = (wsO ad kA σ).set q1 (ad b, .inl (kA b, n1, .inr (.inl (c2L σ.2 a b (ix sp) (ix dp) (ix nn) b))))
      rw [c2L_eq]
      rfl
    have hP1 : va_P D clsL ((wsO ad kA σ).set q1 (ad b, .inl (kA b, n1, .inr (.inl (va_cpy (σ.2 a) (σ.2 b) sp.toNatClampNeg dp.toNatClampNeg nn.toNatClampNeg))))) H1 := hP1
    rw [hnew] at hP1
    exact ih _ _ _ _ he3 h1 h2 hok2 H1 locs1 lm h4 hP1 hS1
theorem snd_callM {q : MI} {d F : Nat} (hF : Fx p R s m args c cells slots D ad adR kA tys E A q d) {k : KF} {pc : Nat} {ls : PL} {st : List PV} {σ : PS} {j y n kd p1 p2 p3 w : Nat} {z : Option PV × PS} (hd : decode q.2.1 pc = .ok (.invokestatic j, 3)) (hm : mRb q.2.2.2.2.1 (j, y, kd, n, p1, p2, p3) = true) (hk : (kd = 4 ∧ w = 998) ∨ (kd = 5 ∧ w = 997)) (he : calM (evM E d F) k pc ls st σ w = some z)
    (ih : ∀ pc ls st σ, k pc ls st σ = some z → Gl p l e R s m args below meth c cells slots Q D ad adR kA E A q pc ls st σ) : Gl p l e R s m args below meth c cells slots Q D ad adR kA E A q pc ls st σ := by
  obtain ⟨hq, hx, hb, hml, hown, hts, hnw, hK, hwf, hA, hro, hcells, hslots, hfr, hlo⟩ := hF
  unfold calM at he
  obtain ⟨a, b, r, rfl, he1⟩ := p2_inv he
  obtain ⟨hg, he2⟩ := bif_inv he1
  have hg := Nat.le_of_ble_eq_true hg
  obtain ⟨x, σ1, hev, he3⟩ := bI_inv he2
  obtain ⟨d', rfl⟩ := ev_nat hev
  intro h1 h2 h3 H locs lm h4 h5 h6
  have hmax : c.maxLocals = lm.size := by rw [hml, h4.1, h1]
  have hloc : ((r.map (cv ad adR)).map fun v => v.category).sum + 13 ≤ R.locals := by
    rw [sum_cv]
    omega
  have hok : okS E (vI x :: r) := okS_c trivial (okS_t (okS_t h3).2).2
  rcases hk with ⟨rfl, rfl⟩ | ⟨rfl, rfl⟩
  · simp only [mRb, Bool.and_eq_true, decide_eq_true_eq] at hm
    have hev : some (some (vI (if a < b then b else a)), σ) = some (some (vI x), σ1) := hev
    cases hev
    exact va_mmax hx hb hmax hown (hts _ (gw_of hm.1 hm.2)) (hts _ mmax_ok.1) (hts _ mmax_ok.2.2) (hts _ mmax_ok.2.1) (by omega) hloc hcells hslots hd (ih _ _ _ _ he3 h1 h2 hok H locs lm h4 h5 h6)
  · simp only [mRb, Bool.and_eq_true, decide_eq_true_eq] at hm
    have hev : some (some (vI (if b < a then b else a)), σ) = some (some (vI x), σ1) := hev
    cases hev
    exact va_mmin hx hb hmax hown (hts _ (gw_of hm.1 hm.2)) (hts _ mmin_ok.1) (hts _ mmin_ok.2.2) (hts _ mmin_ok.2.1) (by omega) hloc hcells hslots hd (ih _ _ _ _ he3 h1 h2 hok H locs lm h4 h5 h6)
theorem ex_cases {cf : CF} {k : KF} {q : MI} {pc : Nat} {ls : PL} {st : List PV} {σ : PS} {i : Instr} {z : Option PV × PS} (he : exI E cf k q pc ls st σ i = some z) : isArith i = true ∨ isMove i = true ∨ isJump i = true ∨ isHeap i = true ∨ isCall i = true ∨ isRet i = true := by
  cases i <;> first
    | exact Or.inl rfl
    | exact Or.inr (Or.inl rfl)
    | exact Or.inr (Or.inr (Or.inl rfl))
    | exact Or.inr (Or.inr (Or.inr (Or.inl rfl)))
    | exact Or.inr (Or.inr (Or.inr (Or.inr (Or.inl rfl))))
    | exact Or.inr (Or.inr (Or.inr (Or.inr (Or.inr rfl))))
    | (cases he; done)
theorem retI_inv {ret : Option FieldType} {x : Int32} {σ : PS} {z : Option PV × PS} (h : retI ret x σ = some z) : z = (some (vI x), σ) ∧ (ret = some .int ∨ (ret = some .boolean ∧ (x = 0 ∨ x = 1))) := by
  unfold retI at h
  split at h
  · exact ⟨(Option.some.inj h).symm, Or.inl rfl⟩
  · obtain ⟨h1, h2⟩ := ite_inv h
    exact ⟨(Option.some.inj h2).symm, Or.inr ⟨rfl, h1⟩⟩
  · cases h
theorem retL_inv {ret : Option FieldType} {x : Int64} {σ : PS} {z : Option PV × PS} (h : retL ret x σ = some z) : z = (some (vL x), σ) ∧ ret = some .long := by
  unfold retL at h
  split at h
  · exact ⟨(Option.some.inj h).symm, rfl⟩
  · cases h
theorem retA_inv {ret : Option FieldType} {k n a : Nat} {σ : PS} {z : Option PV × PS} (h : retA ret k n a σ = some z) : z = (some (vR k n a), σ) ∧ ((∃ t, ret = some (.array t)) ∨ ∃ t, ret = some (.object t)) := by
  unfold retA at h
  split at h
  · exact ⟨(Option.some.inj h).symm, Or.inl ⟨_, rfl⟩⟩
  · exact ⟨(Option.some.inj h).symm, Or.inr ⟨_, rfl⟩⟩
  · cases h
theorem retV_inv {ret : Option FieldType} {σ : PS} {z : Option PV × PS} (h : retV ret σ = some z) : z = (none, σ) ∧ ret = none := by
  unfold retV at h
  split at h
  · exact ⟨(Option.some.inj h).symm, rfl⟩
  · cases h
/-- WHAT OUR MACHINE ANSWERS IN A FRAME, THE KIT'S MACHINE DOES: from a place to the return -/
theorem snd_run {q : MI} {d G0 : Nat} (hF : Fx p R s m args c cells slots D ad adR kA tys E A q d) (hcall : CallsOk l D ad adR kA tys E d G0) {r : Option PV} {σ' : PS}
    (hret : ∀ (pc : Nat) (lm : Array Slot) (H : Heap) (locs : List Loc), retAt q pc r → okO E r → va_P D clsL (wsO ad kA σ') H → va_S A s.heap H locs → W p l e R s m args below meth c H locs cells slots Q (F0 m pc lm ((r.map (cv ad adR)).toList))) :
    ∀ (F pc : Nat) (ls : PL) (st : List PV) (σ : PS), runN E (evM E d G0) q F pc ls st σ = some (r, σ') → Gl p l e R s m args below meth c cells slots Q D ad adR kA E A q pc ls st σ := by
  intro F
  induction F with
  | zero => intro pc ls st σ h; cases h
  | succ F ih =>
    intro pc ls st σ h
    have h : run1 E (evM E d G0) (runN E (evM E d G0) q F) q pc ls st σ = some (r, σ') := h
    unfold run1 at h
    cases hk : lk q.2.2.2.2.2 pc with
    | none => rw [hk] at h; cases h
    | some il =>
      obtain ⟨i, len⟩ := il
      rw [hk] at h
      have hz : exI E (evM E d G0) (runN E (evM E d G0) q F) q pc ls st σ i = some (r, σ') := h
      clear h
      have h := hz
      clear hz
      have hq := hF.1
      have hd : decode q.2.1 pc = .ok (i, len) := mt_dk q hq (pc, i, len) (lk_mem hk)
      have hlen := len_ok q hq (pc, i, len) (lk_mem hk)
      have hcl := (mc_ok q hq).1
      rcases ex_cases h with hc | hc | hc | hc | hc | hc
      · have hl1 : len = 1 := by
          cases i <;> first | (cases hc; done) | simpa [lenOk] using hlen
        subst hl1
        exact snd_arith hF hd h ih (arith_mem hc)
      · exact snd_move hF hd hlen h ih hc
      · exact snd_jump hF hd hlen h ih hc
      · exact snd_heap hF hd hlen h ih hc
      · cases i <;> first | (cases hc; done) | skip
        case invokevirtual j =>
          have hl1 : len = 3 := by simpa [lenOk] using hlen
          subst hl1
          simp only [exI] at h
          cases hj : lk (mR q.2.2.2.2.1) j with
          | none => rw [hj] at h; cases h
          | some v =>
            rw [hj] at h
            have hm := mR_ok _ hcl _ (lk_mem hj)
            match v, h, hm with
            | (y, 0, n, p1, p2, p3), h, hm => exact snd_callV hF hcall hd hm h ih
        case invokestatic j =>
          have hl1 : len = 3 := by simpa [lenOk] using hlen
          subst hl1
          simp only [exI] at h
          cases hj : lk (mR q.2.2.2.2.1) j with
          | none => rw [hj] at h; cases h
          | some v =>
            rw [hj] at h
            have hm := mR_ok _ hcl _ (lk_mem hj)
            match v, h, hm with
            | (y, 1, n, p1, p2, p3), h, hm => exact snd_callS hF hcall hd hm (Or.inl rfl) h ih
            | (y, 2, n, p1, p2, p3), h, hm => exact snd_callS hF hcall hd hm (Or.inr rfl) h ih
            | (y, 3, n, p1, p2, p3), h, hm => exact snd_callC hF hd hm h ih
            | (y, 4, n, p1, p2, p3), h, hm => exact snd_callM hF hd hm (Or.inl ⟨rfl, rfl⟩) h ih
            | (y, 5, n, p1, p2, p3), h, hm => exact snd_callM hF hd hm (Or.inr ⟨rfl, rfl⟩) h ih
      · have hl1 : len = 1 := by
          cases i <;> first | (cases hc; done) | simpa [lenOk] using hlen
        subst hl1
        intro h1 h2 h3 H locs lm h4 h5 h6
        cases i <;> first | (cases hc; done) | skip
        all_goals simp only [exI] at h
        case ireturn =>
          match st, h, h3 with
          | [.inl x], h, h3 =>
            obtain ⟨hz, hr⟩ := retI_inv h
            cases hz
            exact hret pc lm H locs (Or.inl ⟨hk, x, rfl, hr⟩) (fun v hv => by cases hv; trivial) h5 h6
        case lreturn =>
          match st, h, h3 with
          | [.inr (.inl x)], h, h3 =>
            obtain ⟨hz, hr⟩ := retL_inv h
            cases hz
            exact hret pc lm H locs (Or.inr (Or.inl ⟨hk, x, rfl, hr⟩)) (fun v hv => by cases hv; trivial) h5 h6
        case areturn =>
          match st, h, h3 with
          | [.inr (.inr (i, n, a))], h, h3 =>
            obtain ⟨hz, hr⟩ := retA_inv h
            cases hz
            exact hret pc lm H locs (Or.inr (Or.inr (Or.inl ⟨hk, i, n, a, rfl, hr⟩))) (fun v hv => by cases hv; exact (okS_t h3).1) h5 h6
        case return_ =>
          match st, h, h3 with
          | [], h, h3 =>
            obtain ⟨hz, hr⟩ := retV_inv h
            cases hz
            exact hret pc lm H locs (Or.inr (Or.inr (Or.inr ⟨hk, rfl, hr⟩))) (fun v hv => by cases hv) h5 h6
end SND3
end
section
/-! every method of the table, at every depth -/
theorem xp_mem : ∀ (as : List PV) (i : Nat) (v : PV), (xp as)[i]? = some (some v) → v ∈ as
  | [], i, v, h => by simp [xp] at h
  | .inl x :: t, i, v, h => by
    match i, h with
    | 0, h => have : vI x = v := by simpa [xp] using h
              subst this; exact List.mem_cons_self
    | i + 1, h => exact List.mem_cons_of_mem _ (xp_mem t i v (by simpa [xp] using h))
  | .inr (.inl x) :: t, i, v, h => by
    match i, h with
    | 0, h => have : vL x = v := by simpa [xp] using h
              subst this; exact List.mem_cons_self
    | 1, h => simp [xp] at h
    | i + 2, h => exact List.mem_cons_of_mem _ (xp_mem t i v (by simpa [xp] using h))
  | .inr (.inr x) :: t, i, v, h => by
    match i, h with
    | 0, h => have : (.inr (.inr x) : PV) = v := by simpa [xp] using h
              subst this; exact List.mem_cons_self
    | i + 1, h => exact List.mem_cons_of_mem _ (xp_mem t i v (by simpa [xp] using h))
theorem cat_r (ad adR : Nat → Nat) (x : Nat × Nat × Nat) : (cv ad adR (.inr (.inr x))).category = 1 := cat_cv ad adR (.inr (.inr x))
theorem xp_args (ad adR : Nat → Nat) : ∀ (as : List PV) (j i : Nat) (v : PV), (xp as)[i]? = some (some v) → (j + i, cv ad adR v) ∈ lv_args j (as.map (cv ad adR))
  | [], j, i, v, h => by simp [xp] at h
  | .inl x :: t, j, i, v, h => by
    match i, h with
    | 0, h => have : vI x = v := by simpa [xp] using h
              subst this; exact List.mem_cons_self
    | i + 1, h =>
      have := xp_args ad adR t (j + 1) i v (by simpa [xp] using h)
      refine List.mem_cons_of_mem _ ?_
      rw [show j + (i + 1) = j + 1 + i by omega]
      exact this
  | .inr (.inl x) :: t, j, i, v, h => by
    match i, h with
    | 0, h => have : vL x = v := by simpa [xp] using h
              subst this; exact List.mem_cons_self
    | 1, h => simp [xp] at h
    | i + 2, h =>
      have := xp_args ad adR t (j + 2) i v (by simpa [xp] using h)
      refine List.mem_cons_of_mem _ ?_
      rw [show j + (i + 2) = j + 2 + i by omega]
      exact this
  | .inr (.inr x) :: t, j, i, v, h => by
    match i, h with
    | 0, h => have : (.inr (.inr x) : PV) = v := by simpa [xp] using h
              subst this; exact List.mem_cons_self
    | i + 1, h =>
      have := xp_args ad adR t (j + 1) i v (by simpa [xp] using h)
      refine List.mem_cons_of_mem _ ?_
      rw [show j + (i + 1) = j + 1 + i by omega]
      show _ ∈ lv_args (if (cv ad adR (.inr (.inr x))).category = 2 then j + 2 else j + 1) _
      rw [if_neg (by rw [cat_r]; decide)]
      exact this
theorem xp_len (ad adR : Nat → Nat) : ∀ as : List PV, (lg_sl (as.map (cv ad adR))).length = (xp as).length
  | [] => rfl
  | .inl x :: t => by
    have := xp_len ad adR t
    simp only [lg_sl, List.map_cons, List.flatMap_cons, List.length_append] at this ⊢
    rw [this]
    show 1 + _ = _
    simp [xp, Nat.add_comm]
  | .inr (.inl x) :: t => by
    have := xp_len ad adR t
    simp only [lg_sl, List.map_cons, List.flatMap_cons, List.length_append] at this ⊢
    rw [this]
    show 2 + _ = _
    simp [xp]
    omega
  | .inr (.inr x) :: t => by
    have := xp_len ad adR t
    simp only [lg_sl, List.map_cons, List.flatMap_cons, List.length_append] at this ⊢
    rw [this, if_neg (by rw [cat_r]; decide)]
    simp [xp, Nat.add_comm]
theorem lcl_get {q : MI} {as : List PV} {i : Nat} {v : PV} (h : (lcl q as)[i]? = some (some v)) : (xp as)[i]? = some (some v) := by
  unfold lcl at h
  by_cases hi : i < (xp as).length
  · rw [List.getElem?_append_left hi] at h; exact h
  · rw [List.getElem?_append_right (by omega)] at h
    rw [List.getElem?_replicate] at h
    split at h
    · simp at h
    · cases h
theorem lcl_lr {ad adR : Nat → Nat} {q : MI} {as : List PV} (hl : (xp as).length ≤ q.2.2.1) : lr ad adR (lcl q as) ((lg_sl (as.map (cv ad adR)) ++ List.replicate (q.2.2.1 - (lg_sl (as.map (cv ad adR))).length) Slot.unset).toArray) ∧ (lcl q as).length = q.2.2.1 := by
  have h0 := lv_entry (as.map (cv ad adR)) (n := q.2.2.1) (by rw [xp_len]; exact hl)
  have h1 : (lcl q as).length = q.2.2.1 := by
    unfold lcl
    rw [List.length_append, List.length_replicate]
    omega
  refine ⟨⟨h0.1.trans h1.symm, h0.2.1, fun i v hv => ?_⟩, h1⟩
  have := xp_args ad adR as 0 i v (lcl_get hv)
  rw [Nat.zero_add] at this
  exact h0.2.2 (i, cv ad adR v) this
set_option maxHeartbeats 2000000 in
theorem calls_ok (l : Launch) (D : va_G) (ad adR : Nat → Nat) (kA : Nat → ClassId) (tys : List (ClassId × FieldType)) (E : Nat × (Nat → Int32)) (hwf : WF ad kA tys) : ∀ d F : Nat, CallsOk l D ad adR kA tys E d F := by
  intro d
  induction d with
  | zero => intro F y q as σ r σ' hq h hok; cases h
  | succ d ih =>
    intro F y q as σ r σ' hq h hok
    have hy : y < 253 := by
      have := (List.getElem?_eq_some_iff.mp hq).1
      rw [mt0_lt] at this
      exact this
    have h9 : Nat.beq y 999 = false := by
      cases hb : Nat.beq y 999 with
      | false => rfl
      | true => exact absurd (Nat.eq_of_beq_eq_true hb) (by omega)
    have h8 : (Nat.beq y 998 || Nat.beq y 997) = false := by
      cases hb : Nat.beq y 998 with
      | true => exact absurd (Nat.eq_of_beq_eq_true hb) (by omega)
      | false =>
        cases hc : Nat.beq y 997 with
        | true => exact absurd (Nat.eq_of_beq_eq_true hc) (by omega)
        | false => rfl
    have h : (bif Nat.beq y 999 then acp as σ else bif Nat.beq y 998 || Nat.beq y 997 then mmx y as σ else match mt0[y]? with
      | some q => bif Nat.ble (xp as).length q.2.2.1 then runN E (evM E d F) q F 0 (lcl q as) [] σ else none
      | none => none) = some (r, σ') := h
    rw [h9, h8, hq] at h
    obtain ⟨hl, h⟩ := bif_inv h
    have hl := Nat.le_of_ble_eq_true hl
    have hmem : q ∈ mt0 := List.mem_of_getElem? hq
    obtain ⟨o1, o2, ho1, ho2, ho3, ho4, ho5, ho6⟩ := mt_ok q hmem
    refine ⟨d, rfl, Met.ofW (cc := q.2.1) (maxL := q.2.2.1) (ret := q.2.2.2.1) ho3 rfl ?_⟩
    intro p e s m args below meth c s₁ B hml hv
    obtain ⟨rfl, hP, hK, hnw, hro⟩ := hv
    have hx := B.exec
    have hb := B.bytes
    have hr := B.returns
    have hts := atoms_spec (ws := wsM q) B.pre
    have hown : s.vm.findClass q.1.cls = some m.cls := findClass_of_methodNamed B.named
    have hlocks := B.notSynchronized
    have hq' : q ∈ mt := List.mem_append_left _ hmem
    have hF : Fx p (headSpec (wsM q) (rmO d)).room s m (as.map (cv ad adR)).toArray c 0 0 D ad adR kA tys E (AA ad) q d :=
      ⟨hq', hx, hb, hml, by rw [← ho5]; exact hown, fun w hw => hts w (List.mem_cons_of_mem _ hw), hnw, hK, hwf, fun r hr => ⟨r, hr, rfl⟩, hro, Nat.le_refl _, Nat.le_refl _, Nat.le_refl _, Nat.le_refl _⟩
    rw [lg_entry_eq]
    obtain ⟨hlr, hlen⟩ := lcl_lr (ad := ad) (adR := adR) (q := q) (as := as) hl
    refine snd_run hF (ih F) (r := r) (σ' := σ') ?_ F 0 (lcl q as) [] σ h hlen (fun i v hv => hok v (xp_mem as i v (lcl_get hv))) (fun v hv => by cases hv) s.heap [] _ hlr hP va_S.rf
    intro pc lm H locs hat hoo hP1 hS1
    have hdk := mt_dk q hq'
    rcases hat with ⟨hk, x, rfl, hret⟩ | ⟨hk, x, rfl, hret⟩ | ⟨hk, k, n, a, rfl, hret⟩ | ⟨hk, rfl, hret⟩
    · have hd : decode q.2.1 pc = .ok (.ireturn, 1) := hdk (pc, .ireturn, 1) (lk_mem hk)
      rcases hret with hret | ⟨hret, h01⟩
      · exact W.iret (v := x) hx hb (hr.trans hret) (fun t ht hW => ⟨⟨rfl, hoo, by rw [ht]; exact hP1⟩, hS1.F ht⟩) hS1.2.2 hd
      · exact W.zret (v := x) hx hb (hr.trans hret) (by rcases h01 with rfl | rfl <;> decide) (fun t ht hW => ⟨⟨rfl, hoo, by rw [ht]; exact hP1⟩, hS1.F ht⟩) hS1.2.2 hd
    · have hd : decode q.2.1 pc = .ok (.lreturn, 1) := hdk (pc, .lreturn, 1) (lk_mem hk)
      exact W.lret (v := x) hx hb (hr.trans hret) (fun t ht hW => ⟨⟨rfl, hoo, by rw [ht]; exact hP1⟩, hS1.F ht⟩) hS1.2.2 hd
    · have hd : decode q.2.1 pc = .ok (.areturn, 1) := hdk (pc, .areturn, 1) (lk_mem hk)
      have hval : cv ad adR (vR k n a) = .null ∨ ∃ b, cv ad adR (vR k n a) = .ref b := by
        match k with
        | 0 => exact Or.inl rfl
        | 1 => exact Or.inr ⟨_, rfl⟩
        | 2 => exact Or.inr ⟨_, rfl⟩
        | 3 => exact Or.inr ⟨_, rfl⟩
        | 4 => exact Or.inr ⟨_, rfl⟩
        | k + 5 => exact Or.inr ⟨_, rfl⟩
      rcases hret with ⟨t, hret⟩ | ⟨t, hret⟩
      · exact W.aret (v := cv ad adR (vR k n a)) hx hb (hr.trans hret) (Or.inr ⟨_, rfl⟩) hval (fun t ht hW => ⟨⟨rfl, hoo, by rw [ht]; exact hP1⟩, hS1.F ht⟩) hS1.2.2 hd
      · exact W.aret (v := cv ad adR (vR k n a)) hx hb (hr.trans hret) (Or.inl ⟨_, rfl⟩) hval (fun t ht hW => ⟨⟨rfl, hoo, by rw [ht]; exact hP1⟩, hS1.F ht⟩) hS1.2.2 hd
    · have hd : decode q.2.1 pc = .ok (.return_, 1) := hdk (pc, .return_, 1) (lk_mem hk)
      exact W.vret hx hb (hr.trans hret) (fun t ht hW => ⟨⟨rfl, hoo, by rw [ht]; exact hP1⟩, hS1.F ht⟩) hS1.2.2 hd
end
section
/-! printed by wip/whole/sym.py: what each method does, as a tree; closed by rfl -/
set_option maxRecDepth 100000 in
theorem x0 (E : Nat × (Nat → Int32)) (d : Nat) (p0 : Int32) (M : Nat → Nat → Int32) (L : Nat → Nat → Int64) : C E (d + 1) 0 [vR 1 0 320, vI p0] (M, L) = (if p0 < 0 then some (some (vI (0 : Int32)), (M, L)) else (if (M 320 2) ≤ p0 then some (some (vI (0 : Int32)), (M, L)) else (if (50 : Int32) ≤ p0 then some (some (vI (0 : Int32)), (M, L)) else some (some (vI (1 : Int32)), (M, L))))) := by
  rw [C_of (q := me0) rfl rfl rfl rfl, X_go E d me0 [] 400]
  rfl
set_option maxRecDepth 100000 in
theorem x1 (E : Nat × (Nat → Int32)) (d : Nat) (p0 : Int32) (M : Nat → Nat → Int32) (L : Nat → Nat → Int64) : C E (d + 1) 1 [vR 1 0 320, vI p0] (M, L) = (if (M 320 2) < (50 : Int32) then (if ib (M 320 2) 50 then some (some (vI ((u2 M 321 (ix (M 320 2)) p0) 320 2)), ((u2 (u2 M 321 (ix (M 320 2)) p0) 320 2 (((u2 M 321 (ix (M 320 2)) p0) 320 2) + (1 : Int32))), L)) else none) else some (some (vI (-3 : Int32)), (M, L))) := by
  rw [C_of (q := me1) rfl rfl rfl rfl, X_go E d me1 [] 400]
  rfl
set_option maxRecDepth 100000 in
theorem x2 (E : Nat × (Nat → Int32)) (d : Nat) (p0 : Int32) (M : Nat → Nat → Int32) (L : Nat → Nat → Int64) : C E (d + 1) 2 [vR 1 0 320, vI p0] (M, L) = (bI (C E d 0 [vR 1 0 320, vI p0] (M, L)) fun r1 s1 => (if r1 = 0 then some (some (vI (-1 : Int32)), s1) else (if ib p0 50 then some (some (vI (s1.1 321 (ix p0))), s1) else none))) := by
  rw [C_of (q := me2) rfl rfl rfl rfl, X_go E d me2 [] 400]
  rfl
set_option maxRecDepth 100000 in
theorem x3 (E : Nat × (Nat → Int32)) (d : Nat) (p0 : Int32) (M : Nat → Nat → Int32) (L : Nat → Nat → Int64) : C E (d + 1) 3 [vI p0] (M, L) = (if p0 < 0 then some (some (vI (-1 : Int32)), (M, L)) else (if (8 : Int32) ≤ p0 then some (some (vI (-1 : Int32)), (M, L)) else (if ib p0 8 then some (some (vI (roV E 1 (ix p0))), (M, L)) else none))) := by
  rw [C_of (q := me3) rfl rfl rfl rfl, X_go E d me3 [] 400]
  rfl
set_option maxRecDepth 100000 in
theorem x4 (E : Nat × (Nat → Int32)) (d : Nat) (p0 : Int32) (p1 : Int32) (M : Nat → Nat → Int32) (L : Nat → Nat → Int64) : C E (d + 1) 4 [vI p0, vI p1] (M, L) = (if p0 < 0 then some (some (vI (0 : Int32)), (M, L)) else (if (8 : Int32) ≤ p0 then some (some (vI (0 : Int32)), (M, L)) else (if p1 < 0 then some (some (vI (0 : Int32)), (M, L)) else (if (4 : Int32) ≤ p1 then some (some (vI (0 : Int32)), (M, L)) else (if ib ((p0 * (4 : Int32)) + p1) 32 then some (some (vI (roV E 2 (ix ((p0 * (4 : Int32)) + p1)))), (M, L)) else none))))) := by
  rw [C_of (q := me4) rfl rfl rfl rfl, X_go E d me4 [] 400]
  rfl
set_option maxRecDepth 100000 in
theorem x5 (E : Nat × (Nat → Int32)) (d : Nat) (p0 : Int32) (p1 : Int32) (M : Nat → Nat → Int32) (L : Nat → Nat → Int64) : C E (d + 1) 5 [vR 1 0 320, vI p0, vI p1] (M, L) = (bI (C E d 2 [vR 1 0 320, vI p0] (M, L)) fun r1 s1 => X E d me5 9 [some (vR 1 0 320), some (vI p0), some (vI p1), some (vI r1), some (vI (0 : Int32))] [] s1) := by
  rw [C_of (q := me5) rfl rfl rfl rfl, X_go E d me5 [9] 400]
  rfl
set_option maxRecDepth 100000 in
theorem x5_9 (E : Nat × (Nat → Int32)) (d : Nat) (x1 : Int32) (x2 : Int32) (x3 : Int32) (x4 : Int32) (M : Nat → Nat → Int32) (L : Nat → Nat → Int64) : X E d me5 9 [some (vR 1 0 320), some (vI x1), some (vI x2), some (vI x3), some (vI x4)] [] (M, L) = (if (8 : Int32) ≤ x4 then some (some (vI (0 : Int32)), (M, L)) else (if x3 < 0 then some (some (vI (0 : Int32)), (M, L)) else (if x3 = x2 then some (some (vI (1 : Int32)), (M, L)) else (bI (C E d 3 [vI x3] (M, L)) fun r2 s2 => X E d me5 9 [some (vR 1 0 320), some (vI x1), some (vI x2), some (vI r2), some (vI (x4 + (1 : Int32)))] [] s2)))) := by
  rw [X_go E d me5 [9] 400]
  rfl
set_option maxRecDepth 100000 in
theorem x6 (E : Nat × (Nat → Int32)) (d : Nat) (p0 : Int32) (M : Nat → Nat → Int32) (L : Nat → Nat → Int64) : C E (d + 1) 6 [vR 1 0 320, vI p0] (M, L) = (if p0 < 0 then some (some (vI (-1 : Int32)), (M, L)) else (if (M 320 3) ≤ p0 then some (some (vI (-1 : Int32)), (M, L)) else (if (24 : Int32) ≤ p0 then some (some (vI (-1 : Int32)), (M, L)) else (if ib p0 24 then some (some (vI (M 322 (ix p0))), (M, L)) else none)))) := by
  rw [C_of (q := me6) rfl rfl rfl rfl, X_go E d me6 [] 400]
  rfl
set_option maxRecDepth 100000 in
theorem x7 (E : Nat × (Nat → Int32)) (d : Nat) (p0 : Int32) (p1 : Int32) (p2 : Int32) (M : Nat → Nat → Int32) (L : Nat → Nat → Int64) : C E (d + 1) 7 [vR 1 0 320, vI p0, vI p1, vI p2] (M, L) = (bI (C E d 0 [vR 1 0 320, vI p0] ((u2 M 320 3 (0 : Int32)), L)) fun r1 s1 => (if r1 = 0 then some (some (vI (0 : Int32)), s1) else (if p1 < 0 then some (some (vI (0 : Int32)), s1) else (if (3 : Int32) < p1 then some (some (vI (0 : Int32)), s1) else (bI (C E d 9 [vR 1 0 320, vI p0, vI p1, vI p2, vI (0 : Int32)] s1) fun r2 s2 => some (some (vI r2), s2)))))) := by
  rw [C_of (q := me7) rfl rfl rfl rfl, X_go E d me7 [] 400]
  rfl
set_option maxRecDepth 100000 in
theorem x8 (E : Nat × (Nat → Int32)) (d : Nat) (p0 : Int32) (M : Nat → Nat → Int32) (L : Nat → Nat → Int64) : C E (d + 1) 8 [vR 1 0 320, vI p0] (M, L) = (if (M 320 3) < 0 then some (none, ((u2 M 320 3 ((M 320 3) + (1 : Int32))), L)) else (if (24 : Int32) ≤ (M 320 3) then some (none, ((u2 M 320 3 ((M 320 3) + (1 : Int32))), L)) else (if ib (M 320 3) 24 then some (none, ((u2 (u2 M 322 (ix (M 320 3)) p0) 320 3 (((u2 M 322 (ix (M 320 3)) p0) 320 3) + (1 : Int32))), L)) else none))) := by
  rw [C_of (q := me8) rfl rfl rfl rfl, X_go E d me8 [] 400]
  rfl
set_option maxRecDepth 100000 in
theorem x9 (E : Nat × (Nat → Int32)) (d : Nat) (p0 : Int32) (p1 : Int32) (p2 : Int32) (p3 : Int32) (M : Nat → Nat → Int32) (L : Nat → Nat → Int64) : C E (d + 1) 9 [vR 1 0 320, vI p0, vI p1, vI p2, vI p3] (M, L) = (bI (C E d 2 [vR 1 0 320, vI p0] (M, L)) fun r1 s1 => (bI (C E d 10 [vR 1 0 320, vI p0, vI r1, vI p1, vI p2, vI p3] s1) fun r2 s2 => some (some (vI r2), s2))) := by
  rw [C_of (q := me9) rfl rfl rfl rfl, X_go E d me9 [] 400]
  rfl
set_option maxRecDepth 100000 in
theorem x10 (E : Nat × (Nat → Int32)) (d : Nat) (p0 : Int32) (p1 : Int32) (p2 : Int32) (p3 : Int32) (p4 : Int32) (M : Nat → Nat → Int32) (L : Nat → Nat → Int64) : C E (d + 1) 10 [vR 1 0 320, vI p0, vI p1, vI p2, vI p3, vI p4] (M, L) = X E d me10 6 [some (vR 1 0 320), some (vI p0), some (vI p1), some (vI p2), some (vI p3), some (vI p4), some (vI p1), some (vI (0 : Int32)), none, none] [] (M, L) := by
  rw [C_of (q := me10) rfl rfl rfl rfl, X_go E d me10 [6] 400]
  rfl
set_option maxRecDepth 100000 in
theorem x10_6 (E : Nat × (Nat → Int32)) (d : Nat) (x1 : Int32) (x2 : Int32) (x3 : Int32) (x4 : Int32) (x5 : Int32) (x6 : Int32) (x7 : Int32) (w8 : Option PV) (w9 : Option PV) (M : Nat → Nat → Int32) (L : Nat → Nat → Int64) : X E d me10 6 [some (vR 1 0 320), some (vI x1), some (vI x2), some (vI x3), some (vI x4), some (vI x5), some (vI x6), some (vI x7), w8, w9] [] (M, L) = (if (8 : Int32) ≤ x7 then (bI (C E d 4 [vI x6, vI x3] (M, L)) fun r1 s1 => (if r1 = 0 then some (some (vI (0 : Int32)), s1) else (if x5 ≤ (40 : Int32) then (bV (C E d 8 [vR 1 0 320, vI r1] s1) fun s2 => (bI (C E d 3 [vI x6] s2) fun r3 s3 => (if r1 = (1 : Int32) then some (some (vI (x4 + x1)), s3) else (if r1 = (2 : Int32) then (bI (C E d 9 [vR 1 0 320, vI x1, vI (1 : Int32), vI x4, vI (x5 + (1 : Int32))] s3) fun r16 s16 => (bI (C E d 9 [vR 1 0 320, vI x1, vI (2 : Int32), vI (1 : Int32), vI (x5 + (1 : Int32))] s16) fun r17 s17 => some (some (vI (r16 - r17)), s17))) else (if r1 = (10 : Int32) then (bI (C E d 9 [vR 1 0 320, vI x1, vI (0 : Int32), vI x4, vI (x5 + (1 : Int32))] s3) fun r15 s15 => some (some (vI (r15 * (2 : Int32))), s15)) else (if r1 = (11 : Int32) then some (some (vI (x4 ^^^ x1)), s3) else (if r1 = (20 : Int32) then (bI (C E d 10 [vR 1 0 320, vI x1, vI r3, vI x3, vI x4, vI (x5 + (1 : Int32))] s3) fun r14 s14 => some (some (vI (r14 + (3 : Int32))), s14)) else (if r1 = (30 : Int32) then (bI (C E d 10 [vR 1 0 320, vI x1, vI r3, vI x3, vI x4, vI (x5 + (1 : Int32))] s3) fun r13 s13 => some (some (vI (-r13)), s13)) else (if r1 = (40 : Int32) then (bI (C E d 10 [vR 1 0 320, vI x1, vI r3, vI x3, vI x4, vI (x5 + (1 : Int32))] s3) fun r12 s12 => some (some (vI (r12 * (3 : Int32))), s12)) else (if r1 = (41 : Int32) then (bI (C E d 10 [vR 1 0 320, vI x1, vI r3, vI x3, vI (x4 + (1 : Int32)), vI (x5 + (1 : Int32))] s3) fun r11 s11 => some (some (vI r11), s11)) else (if r1 = (50 : Int32) then (bI (C E d 10 [vR 1 0 320, vI x1, vI r3, vI x3, vI x4, vI (x5 + (1 : Int32))] s3) fun r9 s9 => (bI (C E d 9 [vR 1 0 320, vI x1, vI (0 : Int32), vI (2 : Int32), vI (x5 + (1 : Int32))] s9) fun r10 s10 => some (some (vI (r9 - r10)), s10))) else (if r1 = (60 : Int32) then (bI (C E d 10 [vR 1 0 320, vI x1, vI r3, vI x3, vI x4, vI (x5 + (1 : Int32))] s3) fun r8 s8 => some (some (vI (r8 ^^^ (5 : Int32))), s8)) else (if r1 = (70 : Int32) then (bI (C E d 10 [vR 1 0 320, vI x1, vI r3, vI x3, vI x4, vI (x5 + (1 : Int32))] s3) fun r7 s7 => some (some (vI (r7 * (2 : Int32))), s7)) else (if r1 = (80 : Int32) then (bI (C E d 10 [vR 1 0 320, vI x1, vI r3, vI x3, vI x4, vI (x5 + (1 : Int32))] s3) fun r5 s5 => (bI (C E d 9 [vR 1 0 320, vI x1, vI (2 : Int32), vI (2 : Int32), vI (x5 + (1 : Int32))] s5) fun r6 s6 => some (some (vI (r5 + r6)), s6))) else (if r1 = (81 : Int32) then (bI (C E d 10 [vR 1 0 320, vI x1, vI r3, vI x3, vI x4, vI (x5 + (1 : Int32))] s3) fun r4 s4 => some (some (vI (r4 - (1 : Int32))), s4)) else some (some (vI (0 : Int32)), s3)))))))))))))))) else some (some (vI (0 : Int32)), s1)))) else (if x6 < 0 then (bI (C E d 4 [vI x6, vI x3] (M, L)) fun r18 s18 => (if r18 = 0 then some (some (vI (0 : Int32)), s18) else (if x5 ≤ (40 : Int32) then (bV (C E d 8 [vR 1 0 320, vI r18] s18) fun s19 => (bI (C E d 3 [vI x6] s19) fun r20 s20 => (if r18 = (1 : Int32) then some (some (vI (x4 + x1)), s20) else (if r18 = (2 : Int32) then (bI (C E d 9 [vR 1 0 320, vI x1, vI (1 : Int32), vI x4, vI (x5 + (1 : Int32))] s20) fun r33 s33 => (bI (C E d 9 [vR 1 0 320, vI x1, vI (2 : Int32), vI (1 : Int32), vI (x5 + (1 : Int32))] s33) fun r34 s34 => some (some (vI (r33 - r34)), s34))) else (if r18 = (10 : Int32) then (bI (C E d 9 [vR 1 0 320, vI x1, vI (0 : Int32), vI x4, vI (x5 + (1 : Int32))] s20) fun r32 s32 => some (some (vI (r32 * (2 : Int32))), s32)) else (if r18 = (11 : Int32) then some (some (vI (x4 ^^^ x1)), s20) else (if r18 = (20 : Int32) then (bI (C E d 10 [vR 1 0 320, vI x1, vI r20, vI x3, vI x4, vI (x5 + (1 : Int32))] s20) fun r31 s31 => some (some (vI (r31 + (3 : Int32))), s31)) else (if r18 = (30 : Int32) then (bI (C E d 10 [vR 1 0 320, vI x1, vI r20, vI x3, vI x4, vI (x5 + (1 : Int32))] s20) fun r30 s30 => some (some (vI (-r30)), s30)) else (if r18 = (40 : Int32) then (bI (C E d 10 [vR 1 0 320, vI x1, vI r20, vI x3, vI x4, vI (x5 + (1 : Int32))] s20) fun r29 s29 => some (some (vI (r29 * (3 : Int32))), s29)) else (if r18 = (41 : Int32) then (bI (C E d 10 [vR 1 0 320, vI x1, vI r20, vI x3, vI (x4 + (1 : Int32)), vI (x5 + (1 : Int32))] s20) fun r28 s28 => some (some (vI r28), s28)) else (if r18 = (50 : Int32) then (bI (C E d 10 [vR 1 0 320, vI x1, vI r20, vI x3, vI x4, vI (x5 + (1 : Int32))] s20) fun r26 s26 => (bI (C E d 9 [vR 1 0 320, vI x1, vI (0 : Int32), vI (2 : Int32), vI (x5 + (1 : Int32))] s26) fun r27 s27 => some (some (vI (r26 - r27)), s27))) else (if r18 = (60 : Int32) then (bI (C E d 10 [vR 1 0 320, vI x1, vI r20, vI x3, vI x4, vI (x5 + (1 : Int32))] s20) fun r25 s25 => some (some (vI (r25 ^^^ (5 : Int32))), s25)) else (if r18 = (70 : Int32) then (bI (C E d 10 [vR 1 0 320, vI x1, vI r20, vI x3, vI x4, vI (x5 + (1 : Int32))] s20) fun r24 s24 => some (some (vI (r24 * (2 : Int32))), s24)) else (if r18 = (80 : Int32) then (bI (C E d 10 [vR 1 0 320, vI x1, vI r20, vI x3, vI x4, vI (x5 + (1 : Int32))] s20) fun r22 s22 => (bI (C E d 9 [vR 1 0 320, vI x1, vI (2 : Int32), vI (2 : Int32), vI (x5 + (1 : Int32))] s22) fun r23 s23 => some (some (vI (r22 + r23)), s23))) else (if r18 = (81 : Int32) then (bI (C E d 10 [vR 1 0 320, vI x1, vI r20, vI x3, vI x4, vI (x5 + (1 : Int32))] s20) fun r21 s21 => some (some (vI (r21 - (1 : Int32))), s21)) else some (some (vI (0 : Int32)), s20)))))))))))))))) else some (some (vI (0 : Int32)), s18)))) else (bI (C E d 4 [vI x6, vI x3] (M, L)) fun r35 s35 => (if r35 = 0 then (bI (C E d 3 [vI x6] s35) fun r36 s36 => X E d me10 6 [some (vR 1 0 320), some (vI x1), some (vI x2), some (vI x3), some (vI x4), some (vI x5), some (vI r36), some (vI (x7 + (1 : Int32))), w8, w9] [] s36) else (bI (C E d 4 [vI x6, vI x3] s35) fun r37 s37 => (if r37 = 0 then some (some (vI (0 : Int32)), s37) else (if x5 ≤ (40 : Int32) then (bV (C E d 8 [vR 1 0 320, vI r37] s37) fun s38 => (bI (C E d 3 [vI x6] s38) fun r39 s39 => (if r37 = (1 : Int32) then some (some (vI (x4 + x1)), s39) else (if r37 = (2 : Int32) then (bI (C E d 9 [vR 1 0 320, vI x1, vI (1 : Int32), vI x4, vI (x5 + (1 : Int32))] s39) fun r52 s52 => (bI (C E d 9 [vR 1 0 320, vI x1, vI (2 : Int32), vI (1 : Int32), vI (x5 + (1 : Int32))] s52) fun r53 s53 => some (some (vI (r52 - r53)), s53))) else (if r37 = (10 : Int32) then (bI (C E d 9 [vR 1 0 320, vI x1, vI (0 : Int32), vI x4, vI (x5 + (1 : Int32))] s39) fun r51 s51 => some (some (vI (r51 * (2 : Int32))), s51)) else (if r37 = (11 : Int32) then some (some (vI (x4 ^^^ x1)), s39) else (if r37 = (20 : Int32) then (bI (C E d 10 [vR 1 0 320, vI x1, vI r39, vI x3, vI x4, vI (x5 + (1 : Int32))] s39) fun r50 s50 => some (some (vI (r50 + (3 : Int32))), s50)) else (if r37 = (30 : Int32) then (bI (C E d 10 [vR 1 0 320, vI x1, vI r39, vI x3, vI x4, vI (x5 + (1 : Int32))] s39) fun r49 s49 => some (some (vI (-r49)), s49)) else (if r37 = (40 : Int32) then (bI (C E d 10 [vR 1 0 320, vI x1, vI r39, vI x3, vI x4, vI (x5 + (1 : Int32))] s39) fun r48 s48 => some (some (vI (r48 * (3 : Int32))), s48)) else (if r37 = (41 : Int32) then (bI (C E d 10 [vR 1 0 320, vI x1, vI r39, vI x3, vI (x4 + (1 : Int32)), vI (x5 + (1 : Int32))] s39) fun r47 s47 => some (some (vI r47), s47)) else (if r37 = (50 : Int32) then (bI (C E d 10 [vR 1 0 320, vI x1, vI r39, vI x3, vI x4, vI (x5 + (1 : Int32))] s39) fun r45 s45 => (bI (C E d 9 [vR 1 0 320, vI x1, vI (0 : Int32), vI (2 : Int32), vI (x5 + (1 : Int32))] s45) fun r46 s46 => some (some (vI (r45 - r46)), s46))) else (if r37 = (60 : Int32) then (bI (C E d 10 [vR 1 0 320, vI x1, vI r39, vI x3, vI x4, vI (x5 + (1 : Int32))] s39) fun r44 s44 => some (some (vI (r44 ^^^ (5 : Int32))), s44)) else (if r37 = (70 : Int32) then (bI (C E d 10 [vR 1 0 320, vI x1, vI r39, vI x3, vI x4, vI (x5 + (1 : Int32))] s39) fun r43 s43 => some (some (vI (r43 * (2 : Int32))), s43)) else (if r37 = (80 : Int32) then (bI (C E d 10 [vR 1 0 320, vI x1, vI r39, vI x3, vI x4, vI (x5 + (1 : Int32))] s39) fun r41 s41 => (bI (C E d 9 [vR 1 0 320, vI x1, vI (2 : Int32), vI (2 : Int32), vI (x5 + (1 : Int32))] s41) fun r42 s42 => some (some (vI (r41 + r42)), s42))) else (if r37 = (81 : Int32) then (bI (C E d 10 [vR 1 0 320, vI x1, vI r39, vI x3, vI x4, vI (x5 + (1 : Int32))] s39) fun r40 s40 => some (some (vI (r40 - (1 : Int32))), s40)) else some (some (vI (0 : Int32)), s39)))))))))))))))) else some (some (vI (0 : Int32)), s37)))))))) := by
  rw [X_go E d me10 [6] 400]
  rfl
set_option maxRecDepth 100000 in
theorem x11 (E : Nat × (Nat → Int32)) (d : Nat) (p0 : Int32) (p1 : Int32) (p2 : Int32) (p3 : Int32) (M : Nat → Nat → Int32) (L : Nat → Nat → Int64) : C E (d + 1) 11 [vR 1 1 260, vI p0, vI p1, vI p2, vI p3] (M, L) = (if (M 260 4) < (40 : Int32) then (if ib (M 260 4) 40 then (if ib ((u2 M 261 (ix (M 260 4)) p0) 260 4) 40 then (if ib ((u2 (u2 M 261 (ix (M 260 4)) p0) 262 (ix ((u2 M 261 (ix (M 260 4)) p0) 260 4)) p1) 260 4) 40 then (if ib ((u2 (u2 (u2 M 261 (ix (M 260 4)) p0) 262 (ix ((u2 M 261 (ix (M 260 4)) p0) 260 4)) p1) 263 (ix ((u2 (u2 M 261 (ix (M 260 4)) p0) 262 (ix ((u2 M 261 (ix (M 260 4)) p0) 260 4)) p1) 260 4)) p2) 260 4) 40 then some (none, ((u2 (u2 (u2 (u2 (u2 (u2 M 261 (ix (M 260 4)) p0) 262 (ix ((u2 M 261 (ix (M 260 4)) p0) 260 4)) p1) 263 (ix ((u2 (u2 M 261 (ix (M 260 4)) p0) 262 (ix ((u2 M 261 (ix (M 260 4)) p0) 260 4)) p1) 260 4)) p2) 264 (ix ((u2 (u2 (u2 M 261 (ix (M 260 4)) p0) 262 (ix ((u2 M 261 (ix (M 260 4)) p0) 260 4)) p1) 263 (ix ((u2 (u2 M 261 (ix (M 260 4)) p0) 262 (ix ((u2 M 261 (ix (M 260 4)) p0) 260 4)) p1) 260 4)) p2) 260 4)) p3) 260 4 (((u2 (u2 (u2 (u2 M 261 (ix (M 260 4)) p0) 262 (ix ((u2 M 261 (ix (M 260 4)) p0) 260 4)) p1) 263 (ix ((u2 (u2 M 261 (ix (M 260 4)) p0) 262 (ix ((u2 M 261 (ix (M 260 4)) p0) 260 4)) p1) 260 4)) p2) 264 (ix ((u2 (u2 (u2 M 261 (ix (M 260 4)) p0) 262 (ix ((u2 M 261 (ix (M 260 4)) p0) 260 4)) p1) 263 (ix ((u2 (u2 M 261 (ix (M 260 4)) p0) 262 (ix ((u2 M 261 (ix (M 260 4)) p0) 260 4)) p1) 260 4)) p2) 260 4)) p3) 260 4) + (1 : Int32))) 260 5 ((u2 (u2 (u2 (u2 (u2 M 261 (ix (M 260 4)) p0) 262 (ix ((u2 M 261 (ix (M 260 4)) p0) 260 4)) p1) 263 (ix ((u2 (u2 M 261 (ix (M 260 4)) p0) 262 (ix ((u2 M 261 (ix (M 260 4)) p0) 260 4)) p1) 260 4)) p2) 264 (ix ((u2 (u2 (u2 M 261 (ix (M 260 4)) p0) 262 (ix ((u2 M 261 (ix (M 260 4)) p0) 260 4)) p1) 263 (ix ((u2 (u2 M 261 (ix (M 260 4)) p0) 262 (ix ((u2 M 261 (ix (M 260 4)) p0) 260 4)) p1) 260 4)) p2) 260 4)) p3) 260 4 (((u2 (u2 (u2 (u2 M 261 (ix (M 260 4)) p0) 262 (ix ((u2 M 261 (ix (M 260 4)) p0) 260 4)) p1) 263 (ix ((u2 (u2 M 261 (ix (M 260 4)) p0) 262 (ix ((u2 M 261 (ix (M 260 4)) p0) 260 4)) p1) 260 4)) p2) 264 (ix ((u2 (u2 (u2 M 261 (ix (M 260 4)) p0) 262 (ix ((u2 M 261 (ix (M 260 4)) p0) 260 4)) p1) 263 (ix ((u2 (u2 M 261 (ix (M 260 4)) p0) 262 (ix ((u2 M 261 (ix (M 260 4)) p0) 260 4)) p1) 260 4)) p2) 260 4)) p3) 260 4) + (1 : Int32))) 260 4)), L)) else none) else none) else none) else none) else (bV (C E d 12 [vR 1 1 260] (M, L)) fun s1 => (if ib (s1.1 260 4) 40 then (if ib ((u2 s1.1 261 (ix (s1.1 260 4)) p0) 260 4) 40 then (if ib ((u2 (u2 s1.1 261 (ix (s1.1 260 4)) p0) 262 (ix ((u2 s1.1 261 (ix (s1.1 260 4)) p0) 260 4)) p1) 260 4) 40 then (if ib ((u2 (u2 (u2 s1.1 261 (ix (s1.1 260 4)) p0) 262 (ix ((u2 s1.1 261 (ix (s1.1 260 4)) p0) 260 4)) p1) 263 (ix ((u2 (u2 s1.1 261 (ix (s1.1 260 4)) p0) 262 (ix ((u2 s1.1 261 (ix (s1.1 260 4)) p0) 260 4)) p1) 260 4)) p2) 260 4) 40 then some (none, ((u2 (u2 (u2 (u2 (u2 (u2 s1.1 261 (ix (s1.1 260 4)) p0) 262 (ix ((u2 s1.1 261 (ix (s1.1 260 4)) p0) 260 4)) p1) 263 (ix ((u2 (u2 s1.1 261 (ix (s1.1 260 4)) p0) 262 (ix ((u2 s1.1 261 (ix (s1.1 260 4)) p0) 260 4)) p1) 260 4)) p2) 264 (ix ((u2 (u2 (u2 s1.1 261 (ix (s1.1 260 4)) p0) 262 (ix ((u2 s1.1 261 (ix (s1.1 260 4)) p0) 260 4)) p1) 263 (ix ((u2 (u2 s1.1 261 (ix (s1.1 260 4)) p0) 262 (ix ((u2 s1.1 261 (ix (s1.1 260 4)) p0) 260 4)) p1) 260 4)) p2) 260 4)) p3) 260 4 (((u2 (u2 (u2 (u2 s1.1 261 (ix (s1.1 260 4)) p0) 262 (ix ((u2 s1.1 261 (ix (s1.1 260 4)) p0) 260 4)) p1) 263 (ix ((u2 (u2 s1.1 261 (ix (s1.1 260 4)) p0) 262 (ix ((u2 s1.1 261 (ix (s1.1 260 4)) p0) 260 4)) p1) 260 4)) p2) 264 (ix ((u2 (u2 (u2 s1.1 261 (ix (s1.1 260 4)) p0) 262 (ix ((u2 s1.1 261 (ix (s1.1 260 4)) p0) 260 4)) p1) 263 (ix ((u2 (u2 s1.1 261 (ix (s1.1 260 4)) p0) 262 (ix ((u2 s1.1 261 (ix (s1.1 260 4)) p0) 260 4)) p1) 260 4)) p2) 260 4)) p3) 260 4) + (1 : Int32))) 260 5 ((u2 (u2 (u2 (u2 (u2 s1.1 261 (ix (s1.1 260 4)) p0) 262 (ix ((u2 s1.1 261 (ix (s1.1 260 4)) p0) 260 4)) p1) 263 (ix ((u2 (u2 s1.1 261 (ix (s1.1 260 4)) p0) 262 (ix ((u2 s1.1 261 (ix (s1.1 260 4)) p0) 260 4)) p1) 260 4)) p2) 264 (ix ((u2 (u2 (u2 s1.1 261 (ix (s1.1 260 4)) p0) 262 (ix ((u2 s1.1 261 (ix (s1.1 260 4)) p0) 260 4)) p1) 263 (ix ((u2 (u2 s1.1 261 (ix (s1.1 260 4)) p0) 262 (ix ((u2 s1.1 261 (ix (s1.1 260 4)) p0) 260 4)) p1) 260 4)) p2) 260 4)) p3) 260 4 (((u2 (u2 (u2 (u2 s1.1 261 (ix (s1.1 260 4)) p0) 262 (ix ((u2 s1.1 261 (ix (s1.1 260 4)) p0) 260 4)) p1) 263 (ix ((u2 (u2 s1.1 261 (ix (s1.1 260 4)) p0) 262 (ix ((u2 s1.1 261 (ix (s1.1 260 4)) p0) 260 4)) p1) 260 4)) p2) 264 (ix ((u2 (u2 (u2 s1.1 261 (ix (s1.1 260 4)) p0) 262 (ix ((u2 s1.1 261 (ix (s1.1 260 4)) p0) 260 4)) p1) 263 (ix ((u2 (u2 s1.1 261 (ix (s1.1 260 4)) p0) 262 (ix ((u2 s1.1 261 (ix (s1.1 260 4)) p0) 260 4)) p1) 260 4)) p2) 260 4)) p3) 260 4) + (1 : Int32))) 260 4)), s1.2)) else none) else none) else none) else none))) := by
  rw [C_of (q := me11) rfl rfl rfl rfl, X_go E d me11 [] 400]
  rfl
set_option maxRecDepth 100000 in
theorem x12 (E : Nat × (Nat → Int32)) (d : Nat)  (M : Nat → Nat → Int32) (L : Nat → Nat → Int64) : C E (d + 1) 12 [vR 1 1 260] (M, L) = (bV (C E d 999 [vR 2 40 261, vI (1 : Int32), vR 2 40 261, vI (0 : Int32), vI (39 : Int32)] (M, L)) fun s1 => (bV (C E d 999 [vR 2 40 262, vI (1 : Int32), vR 2 40 262, vI (0 : Int32), vI (39 : Int32)] s1) fun s2 => (bV (C E d 999 [vR 2 40 263, vI (1 : Int32), vR 2 40 263, vI (0 : Int32), vI (39 : Int32)] s2) fun s3 => (bV (C E d 999 [vR 2 40 264, vI (1 : Int32), vR 2 40 264, vI (0 : Int32), vI (39 : Int32)] s3) fun s4 => some (none, ((u2 s4.1 260 4 (39 : Int32)), s4.2)))))) := by
  rw [C_of (q := me12) rfl rfl rfl rfl, X_go E d me12 [] 400]
  rfl
set_option maxRecDepth 100000 in
theorem x13 (E : Nat × (Nat → Int32)) (d : Nat) (o0 : Nat) (M : Nat → Nat → Int32) (L : Nat → Nat → Int64) : C E (d + 1) 13 [vR 1 1 260, vR 1 2 o0] (M, L) = (if (M 260 4) ≤ 0 then some (some (vI (-5 : Int32)), (M, L)) else (if (M 260 4) ≤ (40 : Int32) then (if ib ((u2 M 260 4 ((M 260 4) - (1 : Int32))) 260 4) 40 then (if ib ((u2 M 260 4 ((M 260 4) - (1 : Int32))) 260 4) 40 then (if ib ((u2 M 260 4 ((M 260 4) - (1 : Int32))) 260 4) 40 then (bV (C E d 23 [vR 1 2 o0, vI ((u2 M 260 4 ((M 260 4) - (1 : Int32))) 261 (ix ((u2 M 260 4 ((M 260 4) - (1 : Int32))) 260 4))), vI ((u2 M 260 4 ((M 260 4) - (1 : Int32))) 262 (ix ((u2 M 260 4 ((M 260 4) - (1 : Int32))) 260 4))), vI ((u2 M 260 4 ((M 260 4) - (1 : Int32))) 263 (ix ((u2 M 260 4 ((M 260 4) - (1 : Int32))) 260 4)))] ((u2 M 260 4 ((M 260 4) - (1 : Int32))), L)) fun s1 => some (some (vI (s1.1 260 4)), s1)) else none) else none) else none) else some (some (vI (-5 : Int32)), (M, L)))) := by
  rw [C_of (q := me13) rfl rfl rfl rfl, X_go E d me13 [] 400]
  rfl
set_option maxRecDepth 100000 in
theorem x14 (E : Nat × (Nat → Int32)) (d : Nat) (o0 : Nat) (M : Nat → Nat → Int32) (L : Nat → Nat → Int64) : C E (d + 1) 14 [vR 1 1 260, vR 1 2 o0] (M, L) = (if (M 260 5) ≤ (M 260 4) then some (some (vI (-5 : Int32)), (M, L)) else (if (M 260 4) < 0 then some (some (vI (-5 : Int32)), (M, L)) else (if (M 260 4) < (40 : Int32) then (if ib (M 260 4) 40 then (if ib (M 260 4) 40 then (if ib (M 260 4) 40 then (bV (C E d 23 [vR 1 2 o0, vI (M 261 (ix (M 260 4))), vI (M 262 (ix (M 260 4))), vI (M 264 (ix (M 260 4)))] (M, L)) fun s1 => some (some (vI (((u2 s1.1 260 4 ((s1.1 260 4) + (1 : Int32))) 260 5) - ((u2 s1.1 260 4 ((s1.1 260 4) + (1 : Int32))) 260 4))), ((u2 s1.1 260 4 ((s1.1 260 4) + (1 : Int32))), s1.2))) else none) else none) else none) else some (some (vI (-5 : Int32)), (M, L))))) := by
  rw [C_of (q := me14) rfl rfl rfl rfl, X_go E d me14 [] 400]
  rfl
set_option maxRecDepth 100000 in
theorem x15 (E : Nat × (Nat → Int32)) (d : Nat) (o : Nat) (p0 : Int32) (M : Nat → Nat → Int32) (L : Nat → Nat → Int64) : C E (d + 1) 15 [vR 1 2 o, vI p0] (M, L) = (if p0 < 0 then some (some (vI (0 : Int32)), (M, L)) else (if (M o 11) ≤ p0 then some (some (vI (0 : Int32)), (M, L)) else (if (8 : Int32) ≤ p0 then some (some (vI (0 : Int32)), (M, L)) else some (some (vI (1 : Int32)), (M, L))))) := by
  rw [C_of (q := me15) rfl rfl rfl rfl, X_go E d me15 [] 400]
  rfl
set_option maxRecDepth 100000 in
theorem x16 (E : Nat × (Nat → Int32)) (d : Nat) (o : Nat) (p0 : Int32) (M : Nat → Nat → Int32) (L : Nat → Nat → Int64) : C E (d + 1) 16 [vR 1 2 o, vI p0] (M, L) = (if p0 < 0 then some (some (vI (0 : Int32)), (M, L)) else (if (M o 12) ≤ p0 then some (some (vI (0 : Int32)), (M, L)) else (if (9 : Int32) ≤ p0 then some (some (vI (0 : Int32)), (M, L)) else some (some (vI (1 : Int32)), (M, L))))) := by
  rw [C_of (q := me16) rfl rfl rfl rfl, X_go E d me16 [] 400]
  rfl
set_option maxRecDepth 100000 in
theorem x17 (E : Nat × (Nat → Int32)) (d : Nat) (o : Nat) (p0 : Int32) (p1 : Int32) (p2 : Int32) (M : Nat → Nat → Int32) (L : Nat → Nat → Int64) : C E (d + 1) 17 [vR 1 2 o, vI p0, vI p1, vI p2] (M, L) = (if (M o 11) < (8 : Int32) then (if ib (M o 11) 8 then (if ib (M o 11) 8 then (if ib (M o 11) 8 then (if ib (M o 11) 8 then (if ib (M o 11) 8 then some (some (vI (M o 11)), ((u2 (u2 (u2 (u2 (u2 (u2 M o 11 ((M o 11) + (1 : Int32))) (o + 1) (ix (M o 11)) p0) (o + 2) (ix (M o 11)) p1) (o + 3) (ix (M o 11)) p2) (o + 4) (ix (M o 11)) (99 : Int32)) (o + 5) (ix (M o 11)) (3 : Int32)), L)) else none) else none) else none) else none) else none) else some (some (vI (-3 : Int32)), (M, L))) := by
  rw [C_of (q := me17) rfl rfl rfl rfl, X_go E d me17 [] 400]
  rfl
set_option maxRecDepth 100000 in
theorem x18 (E : Nat × (Nat → Int32)) (d : Nat) (o : Nat) (p0 : Int32) (p1 : Int32) (p2 : Int32) (p3 : Int32) (M : Nat → Nat → Int32) (L : Nat → Nat → Int64) : C E (d + 1) 18 [vR 1 2 o, vI p0, vI p1, vI p2, vI p3] (M, L) = (if (M o 12) < (9 : Int32) then (if ib (M o 12) 9 then (if ib (M o 12) 9 then (if ib (M o 12) 9 then (if ib (M o 12) 9 then some (some (vI (M o 12)), ((u2 (u2 (u2 (u2 (u2 M o 12 ((M o 12) + (1 : Int32))) (o + 6) (ix (M o 12)) p0) (o + 7) (ix (M o 12)) p1) (o + 8) (ix (M o 12)) p2) (o + 9) (ix (M o 12)) p3), L)) else none) else none) else none) else none) else some (some (vI (-3 : Int32)), (M, L))) := by
  rw [C_of (q := me18) rfl rfl rfl rfl, X_go E d me18 [] 400]
  rfl
set_option maxRecDepth 100000 in
theorem x19 (E : Nat × (Nat → Int32)) (d : Nat) (o : Nat) (p0 : Int32) (p1 : Int32) (M : Nat → Nat → Int32) (L : Nat → Nat → Int64) : C E (d + 1) 19 [vR 1 2 o, vI p0, vI p1] (M, L) = (if p1 = (7 : Int32) then (if p0 = 0 then some (some (vI (1 : Int32)), (M, L)) else some (some (vI (0 : Int32)), (M, L))) else (if p1 = (8 : Int32) then (if p0 = 0 then some (some (vI (1 : Int32)), (M, L)) else some (some (vI (0 : Int32)), (M, L))) else (if p1 < (3 : Int32) then (if p1 < 0 then some (some (vI (0 : Int32)), (M, L)) else (if (10 : Int32) < p1 then some (some (vI (0 : Int32)), (M, L)) else (bI (C E d 15 [vR 1 2 o, vI p0] (M, L)) fun r1 s1 => (if r1 = 0 then some (some (vI (0 : Int32)), s1) else some (some (vI (1 : Int32)), s1))))) else (if (6 : Int32) < p1 then (if p1 < 0 then some (some (vI (0 : Int32)), (M, L)) else (if (10 : Int32) < p1 then some (some (vI (0 : Int32)), (M, L)) else (bI (C E d 15 [vR 1 2 o, vI p0] (M, L)) fun r2 s2 => (if r2 = 0 then some (some (vI (0 : Int32)), s2) else some (some (vI (1 : Int32)), s2))))) else (bI (C E d 16 [vR 1 2 o, vI p0] (M, L)) fun r3 s3 => (if r3 = 0 ∨ r3 = 1 then some (some (vI r3), s3) else none)))))) := by
  rw [C_of (q := me19) rfl rfl rfl rfl, X_go E d me19 [] 400]
  rfl
set_option maxRecDepth 100000 in
theorem x20 (E : Nat × (Nat → Int32)) (d : Nat) (o : Nat) (p0 : Int32) (p1 : Int32) (M : Nat → Nat → Int32) (L : Nat → Nat → Int64) : C E (d + 1) 20 [vR 1 2 o, vI p0, vI p1] (M, L) = (if p0 = (0 : Int32) then (bI (C E d 145 [vI p1, vI (1 : Int32), vI (9 : Int32)] (M, L)) fun r9 s9 => (if r9 = 0 ∨ r9 = 1 then some (some (vI r9), s9) else none)) else (if p0 = (1 : Int32) then (bI (C E d 145 [vI p1, vI (0 : Int32), vI (99 : Int32)] (M, L)) fun r8 s8 => (if r8 = 0 ∨ r8 = 1 then some (some (vI r8), s8) else none)) else (if p0 = (2 : Int32) then (bI (C E d 145 [vI p1, vI (0 : Int32), vI (9 : Int32)] (M, L)) fun r7 s7 => (if r7 = 0 ∨ r7 = 1 then some (some (vI r7), s7) else none)) else (if p0 = (3 : Int32) then (bI (C E d 145 [vI p1, vI (0 : Int32), vI (99 : Int32)] (M, L)) fun r6 s6 => (if r6 = 0 ∨ r6 = 1 then some (some (vI r6), s6) else none)) else (if p0 = (4 : Int32) then (bI (C E d 145 [vI p1, vI (0 : Int32), vI (9 : Int32)] (M, L)) fun r5 s5 => (if r5 = 0 ∨ r5 = 1 then some (some (vI r5), s5) else none)) else (if p0 = (5 : Int32) then (bI (C E d 145 [vI p1, vI (0 : Int32), vI (9 : Int32)] (M, L)) fun r4 s4 => (if r4 = 0 ∨ r4 = 1 then some (some (vI r4), s4) else none)) else (if p0 = (6 : Int32) then (if p1 = (-1 : Int32) then some (some (vI (1 : Int32)), (M, L)) else (bI (C E d 15 [vR 1 2 o, vI p1] (M, L)) fun r3 s3 => (if r3 = 0 then some (some (vI (0 : Int32)), s3) else some (some (vI (1 : Int32)), s3)))) else (if p0 = (7 : Int32) then (bI (C E d 145 [vI p1, vI (0 : Int32), vI (99 : Int32)] (M, L)) fun r2 s2 => (if r2 = 0 ∨ r2 = 1 then some (some (vI r2), s2) else none)) else (if p0 = (8 : Int32) then (bI (C E d 145 [vI p1, vI (0 : Int32), vI (6 : Int32)] (M, L)) fun r1 s1 => (if r1 = 0 ∨ r1 = 1 then some (some (vI r1), s1) else none)) else some (some (vI (0 : Int32)), (M, L))))))))))) := by
  rw [C_of (q := me20) rfl rfl rfl rfl, X_go E d me20 [] 400]
  rfl
set_option maxRecDepth 100000 in
theorem x21 (E : Nat × (Nat → Int32)) (d : Nat) (o : Nat) (p0 : Int32) (M : Nat → Nat → Int32) (L : Nat → Nat → Int64) : C E (d + 1) 21 [vR 1 2 o, vI p0] (M, L) = (if p0 = (0 : Int32) then some (some (vR 2 8 (o + 3)), (M, L)) else (if p0 = (1 : Int32) then some (some (vR 2 8 (o + 4)), (M, L)) else (if p0 = (2 : Int32) then some (some (vR 2 8 (o + 5)), (M, L)) else (if p0 = (3 : Int32) then some (some (vR 2 9 (o + 6)), (M, L)) else (if p0 = (4 : Int32) then some (some (vR 2 9 (o + 7)), (M, L)) else (if p0 = (5 : Int32) then some (some (vR 2 9 (o + 8)), (M, L)) else (if p0 = (6 : Int32) then some (some (vR 2 9 (o + 9)), (M, L)) else (if p0 = (7 : Int32) then some (some (vR 0 0 0), (M, L)) else (if p0 = (8 : Int32) then some (some (vR 0 0 0), (M, L)) else (if p0 = (9 : Int32) then some (some (vR 2 8 (o + 1)), (M, L)) else (if p0 = (10 : Int32) then some (some (vR 2 8 (o + 2)), (M, L)) else some (some (vR 0 0 0), (M, L))))))))))))) := by
  rw [C_of (q := me21) rfl rfl rfl rfl, X_go E d me21 [] 400]
  rfl
set_option maxRecDepth 100000 in
theorem x22 (E : Nat × (Nat → Int32)) (d : Nat) (o : Nat) (p0 : Int32) (p1 : Int32) (M : Nat → Nat → Int32) (L : Nat → Nat → Int64) : C E (d + 1) 22 [vR 1 2 o, vI p0, vI p1] (M, L) = (if p1 = (7 : Int32) then some (some (vI (M o 13)), (M, L)) else (if p1 = (8 : Int32) then some (some (vI (M o 14)), (M, L)) else (bR (C E d 21 [vR 1 2 o, vI p1] (M, L)) fun k1 n1 a1 s1 => X E d me22 27 [some (vR 1 2 o), some (vI p0), some (vI p1), none] [vR k1 n1 a1] s1))) := by
  rw [C_of (q := me22) rfl rfl rfl rfl, X_go E d me22 [27] 400]
  rfl
set_option maxRecDepth 100000 in
theorem x22_27n (E : Nat × (Nat → Int32)) (d : Nat) (o : Nat) (p0 : Int32) (p1 : Int32)  (M : Nat → Nat → Int32) (L : Nat → Nat → Int64) : X E d me22 27 [some (vR 1 2 o), some (vI p0), some (vI p1), none] [vR 0 0 0] (M, L) = some (some (vI (-2000000000 : Int32)), (M, L)) := by
  rw [X_go E d me22 [27] 400]
  rfl
set_option maxRecDepth 100000 in
theorem x22_27a (E : Nat × (Nat → Int32)) (d : Nat) (o : Nat) (p0 : Int32) (p1 : Int32) (n1 a1 : Nat) (M : Nat → Nat → Int32) (L : Nat → Nat → Int64) : X E d me22 27 [some (vR 1 2 o), some (vI p0), some (vI p1), none] [vR 2 n1 a1] (M, L) = (if p0 < 0 then some (some (vI (-2000000000 : Int32)), (M, L)) else (if p0 < (Int32.ofNat n1) then (if ib p0 n1 then some (some (vI (M a1 (ix p0))), (M, L)) else none) else some (some (vI (-2000000000 : Int32)), (M, L)))) := by
  rw [X_go E d me22 [27] 400]
  rfl
set_option maxRecDepth 100000 in
theorem x23 (E : Nat × (Nat → Int32)) (d : Nat) (o : Nat) (p0 : Int32) (p1 : Int32) (p2 : Int32) (M : Nat → Nat → Int32) (L : Nat → Nat → Int64) : C E (d + 1) 23 [vR 1 2 o, vI p0, vI p1, vI p2] (M, L) = (if p1 = (7 : Int32) then some (none, ((u2 M o 13 p2), L)) else (if p1 = (8 : Int32) then some (none, ((u2 M o 14 p2), L)) else (bR (C E d 21 [vR 1 2 o, vI p1] (M, L)) fun k1 n1 a1 s1 => X E d me23 33 [some (vR 1 2 o), some (vI p0), some (vI p1), some (vI p2), none] [vR k1 n1 a1] s1))) := by
  rw [C_of (q := me23) rfl rfl rfl rfl, X_go E d me23 [33] 400]
  rfl
set_option maxRecDepth 100000 in
theorem x23_33n (E : Nat × (Nat → Int32)) (d : Nat) (o : Nat) (p0 : Int32) (p1 : Int32) (p2 : Int32)  (M : Nat → Nat → Int32) (L : Nat → Nat → Int64) : X E d me23 33 [some (vR 1 2 o), some (vI p0), some (vI p1), some (vI p2), none] [vR 0 0 0] (M, L) = some (none, (M, L)) := by
  rw [X_go E d me23 [33] 400]
  rfl
set_option maxRecDepth 100000 in
theorem x23_33a (E : Nat × (Nat → Int32)) (d : Nat) (o : Nat) (p0 : Int32) (p1 : Int32) (p2 : Int32) (n1 a1 : Nat) (M : Nat → Nat → Int32) (L : Nat → Nat → Int64) : X E d me23 33 [some (vR 1 2 o), some (vI p0), some (vI p1), some (vI p2), none] [vR 2 n1 a1] (M, L) = (if p0 < 0 then some (none, (M, L)) else (if (Int32.ofNat n1) ≤ p0 then some (none, (M, L)) else (if ib p0 n1 then some (none, ((u2 M a1 (ix p0) p2), L)) else none))) := by
  rw [X_go E d me23 [33] 400]
  rfl
set_option maxRecDepth 100000 in
theorem x24 (E : Nat × (Nat → Int32)) (d : Nat) (o : Nat) (p0 : Int32) (p1 : Int32) (p2 : Int32) (M : Nat → Nat → Int32) (L : Nat → Nat → Int64) : C E (d + 1) 24 [vR 1 2 o, vI p0, vI p1, vI p2] (M, L) = (bI (C E d 22 [vR 1 2 o, vI p0, vI p1] (M, L)) fun r1 s1 => (bI (C E d 147 [vI (r1 + p2), vI (99 : Int32)] s1) fun r2 s2 => (bV (C E d 23 [vR 1 2 o, vI p0, vI p1, vI r2] s2) fun s3 => (bI (C E d 22 [vR 1 2 o, vI p0, vI p1] s3) fun r4 s4 => some (some (vI r4), s4))))) := by
  rw [C_of (q := me24) rfl rfl rfl rfl, X_go E d me24 [] 400]
  rfl
set_option maxRecDepth 100000 in
theorem x25 (E : Nat × (Nat → Int32)) (d : Nat) (o : Nat) (o0 : Nat) (M : Nat → Nat → Int32) (L : Nat → Nat → Int64) : C E (d + 1) 25 [vR 1 2 o, vR 1 2 o0] (M, L) = (bV (C E d 999 [vR 2 8 (o0 + 1), vI (0 : Int32), vR 2 8 (o + 1), vI (0 : Int32), vI (8 : Int32)] (M, L)) fun s1 => (bV (C E d 999 [vR 2 8 (o0 + 2), vI (0 : Int32), vR 2 8 (o + 2), vI (0 : Int32), vI (8 : Int32)] s1) fun s2 => (bV (C E d 999 [vR 2 8 (o0 + 3), vI (0 : Int32), vR 2 8 (o + 3), vI (0 : Int32), vI (8 : Int32)] s2) fun s3 => (bV (C E d 999 [vR 2 8 (o0 + 4), vI (0 : Int32), vR 2 8 (o + 4), vI (0 : Int32), vI (8 : Int32)] s3) fun s4 => (bV (C E d 999 [vR 2 8 (o0 + 5), vI (0 : Int32), vR 2 8 (o + 5), vI (0 : Int32), vI (8 : Int32)] s4) fun s5 => (bV (C E d 999 [vR 2 9 (o0 + 6), vI (0 : Int32), vR 2 9 (o + 6), vI (0 : Int32), vI (9 : Int32)] s5) fun s6 => (bV (C E d 999 [vR 2 9 (o0 + 7), vI (0 : Int32), vR 2 9 (o + 7), vI (0 : Int32), vI (9 : Int32)] s6) fun s7 => (bV (C E d 999 [vR 2 9 (o0 + 8), vI (0 : Int32), vR 2 9 (o + 8), vI (0 : Int32), vI (9 : Int32)] s7) fun s8 => (bV (C E d 999 [vR 2 9 (o0 + 9), vI (0 : Int32), vR 2 9 (o + 9), vI (0 : Int32), vI (9 : Int32)] s8) fun s9 => some (none, ((u2 (u2 (u2 (u2 s9.1 o 11 (s9.1 o0 11)) o 12 ((u2 s9.1 o 11 (s9.1 o0 11)) o0 12)) o 13 ((u2 (u2 s9.1 o 11 (s9.1 o0 11)) o 12 ((u2 s9.1 o 11 (s9.1 o0 11)) o0 12)) o0 13)) o 14 ((u2 (u2 (u2 s9.1 o 11 (s9.1 o0 11)) o 12 ((u2 s9.1 o 11 (s9.1 o0 11)) o0 12)) o 13 ((u2 (u2 s9.1 o 11 (s9.1 o0 11)) o 12 ((u2 s9.1 o 11 (s9.1 o0 11)) o0 12)) o0 13)) o0 14)), s9.2))))))))))) := by
  rw [C_of (q := me25) rfl rfl rfl rfl, X_go E d me25 [] 400]
  rfl
set_option maxRecDepth 100000 in
theorem x26 (E : Nat × (Nat → Int32)) (d : Nat) (o : Nat) (M : Nat → Nat → Int32) (L : Nat → Nat → Int64) : C E (d + 1) 26 [vR 1 2 o] (M, L) = (bV (C E d 252 [vR 2 8 (o + 10), vI (0 : Int32)] (M, L)) fun s1 => (bV (C E d 252 [vR 2 8 (o + 11), vI (0 : Int32)] s1) fun s2 => X E d me26 18 [some (vR 1 2 o), some (vI (0 : Int32))] [] s2)) := by
  rw [C_of (q := me26) rfl rfl rfl rfl, X_go E d me26 [18] 400]
  rfl
set_option maxRecDepth 100000 in
theorem x26_18 (E : Nat × (Nat → Int32)) (d : Nat) (o : Nat) (x1 : Int32) (M : Nat → Nat → Int32) (L : Nat → Nat → Int64) : X E d me26 18 [some (vR 1 2 o), some (vI x1)] [] (M, L) = (if (M o 12) ≤ x1 then some (none, (M, L)) else (if (9 : Int32) ≤ x1 then some (none, (M, L)) else (bV (C E d 27 [vR 1 2 o, vI x1] (M, L)) fun s3 => X E d me26 18 [some (vR 1 2 o), some (vI (x1 + (1 : Int32)))] [] s3))) := by
  rw [X_go E d me26 [18] 400]
  rfl
set_option maxRecDepth 100000 in
theorem x27 (E : Nat × (Nat → Int32)) (d : Nat) (o : Nat) (p0 : Int32) (M : Nat → Nat → Int32) (L : Nat → Nat → Int64) : C E (d + 1) 27 [vR 1 2 o, vI p0] (M, L) = (if ib p0 9 then (bI (C E d 15 [vR 1 2 o, vI (M (o + 9) (ix p0))] (M, L)) fun r1 s1 => (if r1 = 0 then some (none, s1) else (if ib p0 9 then (if (s1.1 o 13) < (s1.1 (o + 6) (ix p0)) then (if ib (M (o + 9) (ix p0)) 8 then (if ib (M (o + 9) (ix p0)) 8 then some (none, ((u2 s1.1 (o + 11) (ix (M (o + 9) (ix p0))) ((s1.1 (o + 11) (ix (M (o + 9) (ix p0)))) + (1 : Int32))), s1.2)) else none) else none) else (if ib (M (o + 9) (ix p0)) 8 then (if ib (M (o + 9) (ix p0)) 8 then some (none, ((u2 s1.1 (o + 10) (ix (M (o + 9) (ix p0))) ((s1.1 (o + 10) (ix (M (o + 9) (ix p0)))) + (1 : Int32))), s1.2)) else none) else none)) else none))) else none) := by
  rw [C_of (q := me27) rfl rfl rfl rfl, X_go E d me27 [] 400]
  rfl
set_option maxRecDepth 100000 in
theorem x28 (E : Nat × (Nat → Int32)) (d : Nat) (o : Nat) (M : Nat → Nat → Int32) (L : Nat → Nat → Int64) : C E (d + 1) 28 [vR 1 2 o, vR 1 3 90] (M, L) = (bV (C E d 29 [vR 1 2 o, vI (-1 : Int32), vI (M o 11), vR 1 3 90] (M, L)) fun s1 => some (none, s1)) := by
  rw [C_of (q := me28) rfl rfl rfl rfl, X_go E d me28 [] 400]
  rfl
set_option maxRecDepth 100000 in
theorem x29 (E : Nat × (Nat → Int32)) (d : Nat) (o : Nat) (p0 : Int32) (p1 : Int32) (M : Nat → Nat → Int32) (L : Nat → Nat → Int64) : C E (d + 1) 29 [vR 1 2 o, vI p0, vI p1, vR 1 3 90] (M, L) = (bI (C E d 998 [vI p0, vI (0 : Int32)] (M, L)) fun r1 s1 => X E d me29 7 [some (vR 1 2 o), some (vI p0), some (vI p1), some (vR 1 3 90), some (vI r1), none, none] [] s1) := by
  rw [C_of (q := me29) rfl rfl rfl rfl, X_go E d me29 [7, 47, 175] 400]
  rfl
set_option maxRecDepth 100000 in
theorem x29_7 (E : Nat × (Nat → Int32)) (d : Nat) (o : Nat) (x1 : Int32) (x2 : Int32) (x4 : Int32) (w5 : Option PV) (w6 : Option PV) (M : Nat → Nat → Int32) (L : Nat → Nat → Int64) : X E d me29 7 [some (vR 1 2 o), some (vI x1), some (vI x2), some (vR 1 3 90), some (vI x4), w5, w6] [] (M, L) = (if x2 ≤ x4 then X E d me29 47 [some (vR 1 2 o), some (vI x1), some (vI x2), some (vR 1 3 90), some (vI (0 : Int32)), w5, w6] [] (M, L) else (if (M o 11) ≤ x4 then X E d me29 47 [some (vR 1 2 o), some (vI x1), some (vI x2), some (vR 1 3 90), some (vI (0 : Int32)), w5, w6] [] (M, L) else (if ib x4 8 then (if ib x4 8 then X E d me29 7 [some (vR 1 2 o), some (vI x1), some (vI x2), some (vR 1 3 90), some (vI (x4 + (1 : Int32))), w5, w6] [] ((u2 (u2 M (o + 10) (ix x4) (0 : Int32)) (o + 11) (ix x4) (0 : Int32)), L) else none) else none))) := by
  rw [X_go E d me29 [7, 47, 175] 400]
  rfl
set_option maxRecDepth 100000 in
theorem x29_47 (E : Nat × (Nat → Int32)) (d : Nat) (o : Nat) (x1 : Int32) (x2 : Int32) (x4 : Int32) (w5 : Option PV) (w6 : Option PV) (M : Nat → Nat → Int32) (L : Nat → Nat → Int64) : X E d me29 47 [some (vR 1 2 o), some (vI x1), some (vI x2), some (vR 1 3 90), some (vI x4), w5, w6] [] (M, L) = (if (M o 12) ≤ x4 then (bI (C E d 998 [vI x1, vI (0 : Int32)] (M, L)) fun r2 s2 => X E d me29 175 [some (vR 1 2 o), some (vI x1), some (vI x2), some (vR 1 3 90), some (vI r2), w5, w6] [] s2) else (if (9 : Int32) ≤ x4 then (bI (C E d 998 [vI x1, vI (0 : Int32)] (M, L)) fun r3 s3 => X E d me29 175 [some (vR 1 2 o), some (vI x1), some (vI x2), some (vR 1 3 90), some (vI r3), w5, w6] [] s3) else (if ib x4 9 then (if (M (o + 9) (ix x4)) < x1 then X E d me29 47 [some (vR 1 2 o), some (vI x1), some (vI x2), some (vR 1 3 90), some (vI (x4 + (1 : Int32))), some (vI (M (o + 9) (ix x4))), w6] [] (M, L) else (if x2 ≤ (M (o + 9) (ix x4)) then X E d me29 47 [some (vR 1 2 o), some (vI x1), some (vI x2), some (vR 1 3 90), some (vI (x4 + (1 : Int32))), some (vI (M (o + 9) (ix x4))), w6] [] (M, L) else (bV (C E d 27 [vR 1 2 o, vI x4] (M, L)) fun s4 => (bI (C E d 15 [vR 1 2 o, vI (M (o + 9) (ix x4))] s4) fun r5 s5 => (if r5 = 0 then (if ib x4 9 then (if ib x4 9 then (bI (C E d 147 [vI (((s5.1 (o + 6) (ix x4)) + (0 : Int32)) - (s5.1 (o + 8) (ix x4))), vI (99 : Int32)] s5) fun r6 s6 => (if ib x4 9 then X E d me29 47 [some (vR 1 2 o), some (vI x1), some (vI x2), some (vR 1 3 90), some (vI (x4 + (1 : Int32))), some (vI (M (o + 9) (ix x4))), some (vI (0 : Int32))] [] ((u2 s6.1 (o + 6) (ix x4) r6), s6.2) else none)) else none) else none) else (if ib (M (o + 9) (ix x4)) 8 then (if (s5.1 (o + 4) (ix (M (o + 9) (ix x4)))) ≤ 0 then (if ib x4 9 then (if ib x4 9 then (bI (C E d 147 [vI (((s5.1 (o + 6) (ix x4)) + (0 : Int32)) - (s5.1 (o + 8) (ix x4))), vI (99 : Int32)] s5) fun r7 s7 => (if ib x4 9 then X E d me29 47 [some (vR 1 2 o), some (vI x1), some (vI x2), some (vR 1 3 90), some (vI (x4 + (1 : Int32))), some (vI (M (o + 9) (ix x4))), some (vI (0 : Int32))] [] ((u2 s7.1 (o + 6) (ix x4) r7), s7.2) else none)) else none) else none) else (if ib (M (o + 9) (ix x4)) 8 then (if ib x4 9 then (bI (C E d 997 [vI (s5.1 (o + 5) (ix (M (o + 9) (ix x4)))), vI (s5.1 (o + 7) (ix x4))] s5) fun r8 s8 => (if ib x4 9 then (if ib x4 9 then (bI (C E d 147 [vI (((s8.1 (o + 6) (ix x4)) + r8) - (s8.1 (o + 8) (ix x4))), vI (99 : Int32)] s8) fun r9 s9 => (if ib x4 9 then X E d me29 47 [some (vR 1 2 o), some (vI x1), some (vI x2), some (vR 1 3 90), some (vI (x4 + (1 : Int32))), some (vI (M (o + 9) (ix x4))), some (vI r8)] [] ((u2 s9.1 (o + 6) (ix x4) r9), s9.2) else none)) else none) else none)) else none) else none)) else none)))))) else none))) := by
  rw [X_go E d me29 [7, 47, 175] 400]
  rfl
set_option maxRecDepth 100000 in
theorem x29_175 (E : Nat × (Nat → Int32)) (d : Nat) (o : Nat) (x1 : Int32) (x2 : Int32) (x4 : Int32) (w5 : Option PV) (w6 : Option PV) (M : Nat → Nat → Int32) (L : Nat → Nat → Int64) : X E d me29 175 [some (vR 1 2 o), some (vI x1), some (vI x2), some (vR 1 3 90), some (vI x4), w5, w6] [] (M, L) = (if x2 ≤ x4 then (if (M o 14) < (6 : Int32) then some (none, ((u2 M o 14 ((M o 14) + (1 : Int32))), L)) else some (none, ((u2 M o 14 (0 : Int32)), L))) else (if (M o 11) ≤ x4 then (if (M o 14) < (6 : Int32) then some (none, ((u2 M o 14 ((M o 14) + (1 : Int32))), L)) else some (none, ((u2 M o 14 (0 : Int32)), L))) else (if ib x4 8 then (if (M (o + 4) (ix x4)) ≤ 0 then X E d me29 175 [some (vR 1 2 o), some (vI x1), some (vI x2), some (vR 1 3 90), some (vI (x4 + (1 : Int32))), w5, w6] [] (M, L) else (if ib x4 8 then (bI (C E d 36 [vR 1 3 90, vR 1 2 o, vI x4] (M, L)) fun r10 s10 => (bI (C E d 998 [vI (0 : Int32), vI ((M (o + 4) (ix x4)) - r10)] s10) fun r11 s11 => (if ib x4 8 then X E d me29 175 [some (vR 1 2 o), some (vI x1), some (vI x2), some (vR 1 3 90), some (vI (x4 + (1 : Int32))), w5, w6] [] ((u2 s11.1 (o + 4) (ix x4) r11), s11.2) else none))) else none)) else none))) := by
  rw [X_go E d me29 [7, 47, 175] 400]
  rfl
set_option maxRecDepth 100000 in
theorem x30 (E : Nat × (Nat → Int32)) (d : Nat) (o : Nat) (M : Nat → Nat → Int32) (L : Nat → Nat → Int64) : C E (d + 1) 30 [vR 1 2 o] (M, L) = X E d me30 4 [some (vR 1 2 o), some (vI (0 : Int32)), some (vI (0 : Int32))] [] (M, L) := by
  rw [C_of (q := me30) rfl rfl rfl rfl, X_go E d me30 [4] 400]
  rfl
set_option maxRecDepth 100000 in
theorem x30_4 (E : Nat × (Nat → Int32)) (d : Nat) (o : Nat) (x1 : Int32) (x2 : Int32) (M : Nat → Nat → Int32) (L : Nat → Nat → Int64) : X E d me30 4 [some (vR 1 2 o), some (vI x1), some (vI x2)] [] (M, L) = (if (M o 11) ≤ x2 then some (some (vI x1), (M, L)) else (if ib x2 8 then (if (M (o + 4) (ix x2)) ≤ 0 then X E d me30 4 [some (vR 1 2 o), some (vI x1), some (vI (x2 + (1 : Int32)))] [] (M, L) else X E d me30 4 [some (vR 1 2 o), some (vI (x1 ||| ((1 : Int32) <<< (x2 &&& 31)))), some (vI (x2 + (1 : Int32)))] [] (M, L)) else none)) := by
  rw [X_go E d me30 [4] 400]
  rfl
set_option maxRecDepth 100000 in
theorem x31 (E : Nat × (Nat → Int32)) (d : Nat) (o : Nat) (M : Nat → Nat → Int32) (L : Nat → Nat → Int64) : C E (d + 1) 31 [vR 1 2 o] (M, L) = X E d me31 4 [some (vR 1 2 o), some (vI (0 : Int32)), some (vI (0 : Int32))] [] (M, L) := by
  rw [C_of (q := me31) rfl rfl rfl rfl, X_go E d me31 [4] 400]
  rfl
set_option maxRecDepth 100000 in
theorem x31_4 (E : Nat × (Nat → Int32)) (d : Nat) (o : Nat) (x1 : Int32) (x2 : Int32) (M : Nat → Nat → Int32) (L : Nat → Nat → Int64) : X E d me31 4 [some (vR 1 2 o), some (vI x1), some (vI x2)] [] (M, L) = (if (M o 11) ≤ x2 then some (some (vI x1), (M, L)) else (if ib x2 8 then X E d me31 4 [some (vR 1 2 o), some (vI (x1 + (M (o + 4) (ix x2)))), some (vI (x2 + (1 : Int32)))] [] (M, L) else none)) := by
  rw [X_go E d me31 [4] 400]
  rfl
set_option maxRecDepth 100000 in
theorem x32 (E : Nat × (Nat → Int32)) (d : Nat) (o : Nat) (M : Nat → Nat → Int32) (L : Nat → Nat → Int64) : C E (d + 1) 32 [vR 1 2 o] (M, L) = X E d me32 4 [some (vR 1 2 o), some (vI (0 : Int32)), some (vI (0 : Int32))] [] (M, L) := by
  rw [C_of (q := me32) rfl rfl rfl rfl, X_go E d me32 [4] 400]
  rfl
set_option maxRecDepth 100000 in
theorem x32_4 (E : Nat × (Nat → Int32)) (d : Nat) (o : Nat) (x1 : Int32) (x2 : Int32) (M : Nat → Nat → Int32) (L : Nat → Nat → Int64) : X E d me32 4 [some (vR 1 2 o), some (vI x1), some (vI x2)] [] (M, L) = (if (M o 12) ≤ x2 then some (some (vI x1), (M, L)) else (if ib x2 9 then (if (M o 13) < (M (o + 6) (ix x2)) then X E d me32 4 [some (vR 1 2 o), some (vI x1), some (vI (x2 + (1 : Int32)))] [] (M, L) else X E d me32 4 [some (vR 1 2 o), some (vI (x1 ||| ((1 : Int32) <<< (x2 &&& 31)))), some (vI (x2 + (1 : Int32)))] [] (M, L)) else none)) := by
  rw [X_go E d me32 [4] 400]
  rfl
set_option maxRecDepth 100000 in
theorem x33 (E : Nat × (Nat → Int32)) (d : Nat) (o : Nat) (p0 : Int32) (M : Nat → Nat → Int32) (L : Nat → Nat → Int64) : C E (d + 1) 33 [vR 1 2 o, vI p0] (M, L) = (bI (C E d 16 [vR 1 2 o, vI p0] (M, L)) fun r1 s1 => (if r1 = 0 then some (some (vI (0 : Int32)), s1) else (if ib p0 9 then (bI (C E d 998 [vI (0 : Int32), vI ((s1.1 (o + 6) (ix p0)) - (s1.1 o 13))] s1) fun r2 s2 => some (some (vI r2), s2)) else none))) := by
  rw [C_of (q := me33) rfl rfl rfl rfl, X_go E d me33 [] 400]
  rfl
set_option maxRecDepth 100000 in
theorem x34 (E : Nat × (Nat → Int32)) (d : Nat) (o : Nat) (p0 : Int32) (M : Nat → Nat → Int32) (L : Nat → Nat → Int64) : C E (d + 1) 34 [vR 1 2 o, vI p0] (M, L) = (bV (C E d 26 [vR 1 2 o] (M, L)) fun s1 => X E d me34 8 [some (vR 1 2 o), some (vI p0), some (vI (0 : Int32)), some (vI (0 : Int32))] [] s1) := by
  rw [C_of (q := me34) rfl rfl rfl rfl, X_go E d me34 [8] 400]
  rfl
set_option maxRecDepth 100000 in
theorem x34_8 (E : Nat × (Nat → Int32)) (d : Nat) (o : Nat) (x1 : Int32) (x2 : Int32) (x3 : Int32) (M : Nat → Nat → Int32) (L : Nat → Nat → Int64) : X E d me34 8 [some (vR 1 2 o), some (vI x1), some (vI x2), some (vI x3)] [] (M, L) = (if (M o 11) ≤ x3 then some (some (vI x2), (M, L)) else (if ib x3 8 then (if (M (o + 1) (ix x3)) = x1 then (if ib x3 8 then (if ib x3 8 then X E d me34 8 [some (vR 1 2 o), some (vI x1), some (vI (x2 + (((10 : Int32) * (M (o + 10) (ix x3))) + (M (o + 11) (ix x3))))), some (vI (x3 + (1 : Int32)))] [] (M, L) else none) else none) else (if ib x3 8 then (if (M (o + 2) (ix x3)) = x1 then (if ib x3 8 then (if ib x3 8 then X E d me34 8 [some (vR 1 2 o), some (vI x1), some (vI (x2 + (((10 : Int32) * (M (o + 10) (ix x3))) + (M (o + 11) (ix x3))))), some (vI (x3 + (1 : Int32)))] [] (M, L) else none) else none) else X E d me34 8 [some (vR 1 2 o), some (vI x1), some (vI x2), some (vI (x3 + (1 : Int32)))] [] (M, L)) else none)) else none)) := by
  rw [X_go E d me34 [8] 400]
  rfl
set_option maxRecDepth 100000 in
theorem x35 (E : Nat × (Nat → Int32)) (d : Nat)  (M : Nat → Nat → Int32) (L : Nat → Nat → Int64) : C E (d + 1) 35 [vR 1 3 90, vR 1 7 70] (M, L) = (bV (C E d 999 [vR 2 128 72, vI (0 : Int32), vR 2 128 91, vI (0 : Int32), vI (128 : Int32)] (M, L)) fun s1 => (bV (C E d 999 [vR 2 128 73, vI (0 : Int32), vR 2 128 92, vI (0 : Int32), vI (128 : Int32)] s1) fun s2 => some (none, ((u2 s2.1 90 4 (s2.1 70 4)), s2.2)))) := by
  rw [C_of (q := me35) rfl rfl rfl rfl, X_go E d me35 [] 400]
  rfl
end
section
/-! printed by wip/whole/sym.py: what each method does, as a tree; closed by rfl -/
set_option maxRecDepth 100000 in
theorem x36 (E : Nat × (Nat → Int32)) (d : Nat) (o0 : Nat) (p1 : Int32) (M : Nat → Nat → Int32) (L : Nat → Nat → Int64) : C E (d + 1) 36 [vR 1 3 90, vR 1 2 o0, vI p1] (M, L) = (bI (C E d 15 [vR 1 2 o0, vI p1] (M, L)) fun r1 s1 => (if r1 = 0 then some (some (vI (0 : Int32)), s1) else (if (s1.1 90 4) = 0 then (if ib p1 8 then (if ib p1 8 then (if ib p1 8 then (bI (C E d 147 [vI ((((s1.1 (o0 + 3) (ix p1)) / (2 : Int32)) + ((2 : Int32) * (s1.1 (o0 + 11) (ix p1)))) - ((4 : Int32) * (s1.1 (o0 + 10) (ix p1)))), vI (20 : Int32)] s1) fun r2 s2 => some (some (vI r2), s2)) else none) else none) else none) else (if ib p1 8 then (if ib (0 : Int32) 6 then (if ib p1 8 then (if ib (1 : Int32) 6 then (if ib p1 8 then (if ib (2 : Int32) 6 then (if ib p1 8 then (if ib (3 : Int32) 6 then (if ib (4 : Int32) 6 then (if ib p1 8 then (if ib (5 : Int32) 6 then (bI (C E d 37 [vR 1 3 90] ((u2 (u2 (u2 (u2 (u2 (u2 s1.1 94 (ix (0 : Int32)) (s1.1 (o0 + 3) (ix p1))) 94 (ix (1 : Int32)) ((u2 s1.1 94 (ix (0 : Int32)) (s1.1 (o0 + 3) (ix p1))) (o0 + 10) (ix p1))) 94 (ix (2 : Int32)) ((u2 (u2 s1.1 94 (ix (0 : Int32)) (s1.1 (o0 + 3) (ix p1))) 94 (ix (1 : Int32)) ((u2 s1.1 94 (ix (0 : Int32)) (s1.1 (o0 + 3) (ix p1))) (o0 + 10) (ix p1))) (o0 + 11) (ix p1))) 94 (ix (3 : Int32)) ((u2 (u2 (u2 s1.1 94 (ix (0 : Int32)) (s1.1 (o0 + 3) (ix p1))) 94 (ix (1 : Int32)) ((u2 s1.1 94 (ix (0 : Int32)) (s1.1 (o0 + 3) (ix p1))) (o0 + 10) (ix p1))) 94 (ix (2 : Int32)) ((u2 (u2 s1.1 94 (ix (0 : Int32)) (s1.1 (o0 + 3) (ix p1))) 94 (ix (1 : Int32)) ((u2 s1.1 94 (ix (0 : Int32)) (s1.1 (o0 + 3) (ix p1))) (o0 + 10) (ix p1))) (o0 + 11) (ix p1))) (o0 + 5) (ix p1))) 94 (ix (4 : Int32)) ((u2 (u2 (u2 (u2 s1.1 94 (ix (0 : Int32)) (s1.1 (o0 + 3) (ix p1))) 94 (ix (1 : Int32)) ((u2 s1.1 94 (ix (0 : Int32)) (s1.1 (o0 + 3) (ix p1))) (o0 + 10) (ix p1))) 94 (ix (2 : Int32)) ((u2 (u2 s1.1 94 (ix (0 : Int32)) (s1.1 (o0 + 3) (ix p1))) 94 (ix (1 : Int32)) ((u2 s1.1 94 (ix (0 : Int32)) (s1.1 (o0 + 3) (ix p1))) (o0 + 10) (ix p1))) (o0 + 11) (ix p1))) 94 (ix (3 : Int32)) ((u2 (u2 (u2 s1.1 94 (ix (0 : Int32)) (s1.1 (o0 + 3) (ix p1))) 94 (ix (1 : Int32)) ((u2 s1.1 94 (ix (0 : Int32)) (s1.1 (o0 + 3) (ix p1))) (o0 + 10) (ix p1))) 94 (ix (2 : Int32)) ((u2 (u2 s1.1 94 (ix (0 : Int32)) (s1.1 (o0 + 3) (ix p1))) 94 (ix (1 : Int32)) ((u2 s1.1 94 (ix (0 : Int32)) (s1.1 (o0 + 3) (ix p1))) (o0 + 10) (ix p1))) (o0 + 11) (ix p1))) (o0 + 5) (ix p1))) o0 14)) 94 (ix (5 : Int32)) ((u2 (u2 (u2 (u2 (u2 s1.1 94 (ix (0 : Int32)) (s1.1 (o0 + 3) (ix p1))) 94 (ix (1 : Int32)) ((u2 s1.1 94 (ix (0 : Int32)) (s1.1 (o0 + 3) (ix p1))) (o0 + 10) (ix p1))) 94 (ix (2 : Int32)) ((u2 (u2 s1.1 94 (ix (0 : Int32)) (s1.1 (o0 + 3) (ix p1))) 94 (ix (1 : Int32)) ((u2 s1.1 94 (ix (0 : Int32)) (s1.1 (o0 + 3) (ix p1))) (o0 + 10) (ix p1))) (o0 + 11) (ix p1))) 94 (ix (3 : Int32)) ((u2 (u2 (u2 s1.1 94 (ix (0 : Int32)) (s1.1 (o0 + 3) (ix p1))) 94 (ix (1 : Int32)) ((u2 s1.1 94 (ix (0 : Int32)) (s1.1 (o0 + 3) (ix p1))) (o0 + 10) (ix p1))) 94 (ix (2 : Int32)) ((u2 (u2 s1.1 94 (ix (0 : Int32)) (s1.1 (o0 + 3) (ix p1))) 94 (ix (1 : Int32)) ((u2 s1.1 94 (ix (0 : Int32)) (s1.1 (o0 + 3) (ix p1))) (o0 + 10) (ix p1))) (o0 + 11) (ix p1))) (o0 + 5) (ix p1))) 94 (ix (4 : Int32)) ((u2 (u2 (u2 (u2 s1.1 94 (ix (0 : Int32)) (s1.1 (o0 + 3) (ix p1))) 94 (ix (1 : Int32)) ((u2 s1.1 94 (ix (0 : Int32)) (s1.1 (o0 + 3) (ix p1))) (o0 + 10) (ix p1))) 94 (ix (2 : Int32)) ((u2 (u2 s1.1 94 (ix (0 : Int32)) (s1.1 (o0 + 3) (ix p1))) 94 (ix (1 : Int32)) ((u2 s1.1 94 (ix (0 : Int32)) (s1.1 (o0 + 3) (ix p1))) (o0 + 10) (ix p1))) (o0 + 11) (ix p1))) 94 (ix (3 : Int32)) ((u2 (u2 (u2 s1.1 94 (ix (0 : Int32)) (s1.1 (o0 + 3) (ix p1))) 94 (ix (1 : Int32)) ((u2 s1.1 94 (ix (0 : Int32)) (s1.1 (o0 + 3) (ix p1))) (o0 + 10) (ix p1))) 94 (ix (2 : Int32)) ((u2 (u2 s1.1 94 (ix (0 : Int32)) (s1.1 (o0 + 3) (ix p1))) 94 (ix (1 : Int32)) ((u2 s1.1 94 (ix (0 : Int32)) (s1.1 (o0 + 3) (ix p1))) (o0 + 10) (ix p1))) (o0 + 11) (ix p1))) (o0 + 5) (ix p1))) o0 14)) (o0 + 4) (ix p1))), s1.2)) fun r3 s3 => (bI (C E d 147 [vI r3, vI (20 : Int32)] s3) fun r4 s4 => some (some (vI r4), s4))) else none) else none) else none) else none) else none) else none) else none) else none) else none) else none) else none)))) := by
  rw [C_of (q := me36) rfl rfl rfl rfl, X_go E d me36 [] 400]
  rfl
set_option maxRecDepth 100000 in
theorem x37 (E : Nat × (Nat → Int32)) (d : Nat)  (M : Nat → Nat → Int32) (L : Nat → Nat → Int64) : C E (d + 1) 37 [vR 1 3 90] (M, L) = X E d me37 6 [some (vR 1 3 90), some (vI (0 : Int32)), some (vI (0 : Int32)), some (vI (0 : Int32)), none, none, none] [] (M, L) := by
  rw [C_of (q := me37) rfl rfl rfl rfl, X_go E d me37 [6, 71, 125, 155, 241] 400]
  rfl
set_option maxRecDepth 100000 in
theorem x37_6 (E : Nat × (Nat → Int32)) (d : Nat) (x1 : Int32) (x2 : Int32) (x3 : Int32) (w4 : Option PV) (w5 : Option PV) (w6 : Option PV) (M : Nat → Nat → Int32) (L : Nat → Nat → Int64) : X E d me37 6 [some (vR 1 3 90), some (vI x1), some (vI x2), some (vI x3), w4, w5, w6] [] (M, L) = (if (128 : Int32) ≤ x3 then some (some (vI (0 : Int32)), (M, L)) else (if x2 < 0 then some (some (vI (0 : Int32)), (M, L)) else (if (M 90 4) ≤ x2 then some (some (vI (0 : Int32)), (M, L)) else (if (128 : Int32) ≤ x2 then some (some (vI (0 : Int32)), (M, L)) else (if ib x2 128 then (if ib x2 128 then (if (M 91 (ix x2)) = 0 then (if x1 < (128 : Int32) then X E d me37 71 [some (vR 1 3 90), some (vI x1), some (vI (x2 + (1 : Int32))), some (vI x3), some (vI (M 91 (ix x2))), some (vI (M 92 (ix x2))), w6] [] (M, L) else some (some (vI (0 : Int32)), (M, L))) else (if (M 91 (ix x2)) = (1 : Int32) then (if x1 < (128 : Int32) then X E d me37 71 [some (vR 1 3 90), some (vI x1), some (vI (x2 + (1 : Int32))), some (vI x3), some (vI (M 91 (ix x2))), some (vI (M 92 (ix x2))), w6] [] (M, L) else some (some (vI (0 : Int32)), (M, L))) else X E d me37 125 [some (vR 1 3 90), some (vI x1), some (vI (x2 + (1 : Int32))), some (vI x3), some (vI (M 91 (ix x2))), some (vI (M 92 (ix x2))), w6] [] (M, L))) else none) else none))))) := by
  rw [X_go E d me37 [6, 71, 125, 155, 241] 400]
  rfl
set_option maxRecDepth 100000 in
theorem x37_71 (E : Nat × (Nat → Int32)) (d : Nat) (x1 : Int32) (x2 : Int32) (x3 : Int32) (x4 : Int32) (x5 : Int32) (w6 : Option PV) (M : Nat → Nat → Int32) (L : Nat → Nat → Int64) : X E d me37 71 [some (vR 1 3 90), some (vI x1), some (vI x2), some (vI x3), some (vI x4), some (vI x5), w6] [] (M, L) = (if x4 = (1 : Int32) then (if x5 < 0 then (if ib x1 128 then X E d me37 6 [some (vR 1 3 90), some (vI (x1 + (1 : Int32))), some (vI x2), some (vI (x3 + (1 : Int32))), some (vI x4), some (vI x5), some (vI (0 : Int32))] [] ((u2 M 93 (ix x1) x5), L) else none) else (if (6 : Int32) ≤ x5 then (if ib x1 128 then X E d me37 6 [some (vR 1 3 90), some (vI (x1 + (1 : Int32))), some (vI x2), some (vI (x3 + (1 : Int32))), some (vI x4), some (vI x5), some (vI (0 : Int32))] [] ((u2 M 93 (ix x1) x5), L) else none) else (if ib x5 6 then (if ib x1 128 then X E d me37 6 [some (vR 1 3 90), some (vI (x1 + (1 : Int32))), some (vI x2), some (vI (x3 + (1 : Int32))), some (vI x4), some (vI x5), some (vI (1 : Int32))] [] ((u2 M 93 (ix x1) (M 94 (ix x5))), L) else none) else none))) else (if ib x1 128 then X E d me37 6 [some (vR 1 3 90), some (vI (x1 + (1 : Int32))), some (vI x2), some (vI (x3 + (1 : Int32))), some (vI x4), some (vI x5), some (vI (0 : Int32))] [] ((u2 M 93 (ix x1) x5), L) else none)) := by
  rw [X_go E d me37 [6, 71, 125, 155, 241] 400]
  rfl
set_option maxRecDepth 100000 in
theorem x37_125 (E : Nat × (Nat → Int32)) (d : Nat) (x1 : Int32) (x2 : Int32) (x3 : Int32) (x4 : Int32) (x5 : Int32) (w6 : Option PV) (M : Nat → Nat → Int32) (L : Nat → Nat → Int64) : X E d me37 125 [some (vR 1 3 90), some (vI x1), some (vI x2), some (vI x3), some (vI x4), some (vI x5), w6] [] (M, L) = (if 0 < x1 then (if x4 = (2 : Int32) then (if ib (x1 - (1 : Int32)) 128 then some (some (vI (M 93 (ix (x1 - (1 : Int32))))), (M, L)) else none) else (if x4 = (3 : Int32) then X E d me37 155 [some (vR 1 3 90), some (vI (x1 + (Int32.ofInt (-1)))), some (vI x2), some (vI x3), some (vI x4), some (vI x5), w6] [] (M, L) else (if x4 = (4 : Int32) then (if ib (x1 - (1 : Int32)) 128 then (if ib (x1 - (1 : Int32)) 128 then X E d me37 6 [some (vR 1 3 90), some (vI x1), some (vI x2), some (vI (x3 + (1 : Int32))), some (vI x4), some (vI x5), w6] [] ((u2 M 93 (ix (x1 - (1 : Int32))) (-(M 93 (ix (x1 - (1 : Int32)))))), L) else none) else none) else (if x4 = (5 : Int32) then (if ib (x1 - (1 : Int32)) 128 then (if (M 93 (ix (x1 - (1 : Int32)))) = 0 then (if ib (x1 - (1 : Int32)) 128 then X E d me37 6 [some (vR 1 3 90), some (vI x1), some (vI x2), some (vI (x3 + (1 : Int32))), some (vI x4), some (vI x5), w6] [] ((u2 M 93 (ix (x1 - (1 : Int32))) (1 : Int32)), L) else none) else (if ib (x1 - (1 : Int32)) 128 then X E d me37 6 [some (vR 1 3 90), some (vI x1), some (vI x2), some (vI (x3 + (1 : Int32))), some (vI x4), some (vI x5), w6] [] ((u2 M 93 (ix (x1 - (1 : Int32))) (0 : Int32)), L) else none)) else none) else (if x1 < (2 : Int32) then X E d me37 6 [some (vR 1 3 90), some (vI x1), some (vI x2), some (vI (x3 + (1 : Int32))), some (vI x4), some (vI x5), w6] [] (M, L) else X E d me37 241 [some (vR 1 3 90), some (vI (x1 + (Int32.ofInt (-1)))), some (vI x2), some (vI x3), some (vI x4), some (vI x5), w6] [] (M, L)))))) else some (some (vI (0 : Int32)), (M, L))) := by
  rw [X_go E d me37 [6, 71, 125, 155, 241] 400]
  rfl
set_option maxRecDepth 100000 in
theorem x37_155 (E : Nat × (Nat → Int32)) (d : Nat) (x1 : Int32) (x2 : Int32) (x3 : Int32) (x4 : Int32) (x5 : Int32) (w6 : Option PV) (M : Nat → Nat → Int32) (L : Nat → Nat → Int64) : X E d me37 155 [some (vR 1 3 90), some (vI x1), some (vI x2), some (vI x3), some (vI x4), some (vI x5), w6] [] (M, L) = (if ib x1 128 then (if (M 93 (ix x1)) = 0 then X E d me37 6 [some (vR 1 3 90), some (vI x1), some (vI x5), some (vI (x3 + (1 : Int32))), some (vI x4), some (vI x5), w6] [] (M, L) else X E d me37 6 [some (vR 1 3 90), some (vI x1), some (vI x2), some (vI (x3 + (1 : Int32))), some (vI x4), some (vI x5), w6] [] (M, L)) else none) := by
  rw [X_go E d me37 [6, 71, 125, 155, 241] 400]
  rfl
set_option maxRecDepth 100000 in
theorem x37_241 (E : Nat × (Nat → Int32)) (d : Nat) (x1 : Int32) (x2 : Int32) (x3 : Int32) (x4 : Int32) (x5 : Int32) (w6 : Option PV) (M : Nat → Nat → Int32) (L : Nat → Nat → Int64) : X E d me37 241 [some (vR 1 3 90), some (vI x1), some (vI x2), some (vI x3), some (vI x4), some (vI x5), w6] [] (M, L) = (if ib (x1 - (1 : Int32)) 128 then (if ib x1 128 then (bI (C E d 38 [vI x4, vI (M 93 (ix (x1 - (1 : Int32)))), vI (M 93 (ix x1))] (M, L)) fun r1 s1 => (if ib (x1 - (1 : Int32)) 128 then X E d me37 6 [some (vR 1 3 90), some (vI x1), some (vI x2), some (vI (x3 + (1 : Int32))), some (vI x4), some (vI x5), w6] [] ((u2 s1.1 93 (ix (x1 - (1 : Int32))) r1), s1.2) else none)) else none) else none) := by
  rw [X_go E d me37 [6, 71, 125, 155, 241] 400]
  rfl
set_option maxRecDepth 100000 in
theorem x38 (E : Nat × (Nat → Int32)) (d : Nat) (p0 : Int32) (p1 : Int32) (p2 : Int32) (M : Nat → Nat → Int32) (L : Nat → Nat → Int64) : C E (d + 1) 38 [vI p0, vI p1, vI p2] (M, L) = (if p0 = (37 : Int32) then (if p2 = 0 then some (some (vI (0 : Int32)), (M, L)) else (if p2 = 0 then none else some (some (vI (rm32 p1 p2)), (M, L)))) else (if p0 = (38 : Int32) then (if p1 = 0 then some (some (vI (0 : Int32)), (M, L)) else (if p2 = 0 then some (some (vI (0 : Int32)), (M, L)) else some (some (vI (1 : Int32)), (M, L)))) else (if p0 = (42 : Int32) then some (some (vI (p1 * p2)), (M, L)) else (if p0 = (43 : Int32) then some (some (vI (p1 + p2)), (M, L)) else (if p0 = (45 : Int32) then some (some (vI (p1 - p2)), (M, L)) else (if p0 = (47 : Int32) then (if p2 = 0 then some (some (vI (0 : Int32)), (M, L)) else (if p2 = 0 then none else some (some (vI (p1 / p2)), (M, L)))) else (if p0 = (60 : Int32) then (if p2 ≤ p1 then some (some (vI (0 : Int32)), (M, L)) else some (some (vI (1 : Int32)), (M, L))) else (if p0 = (61 : Int32) then (if p1 = p2 then some (some (vI (1 : Int32)), (M, L)) else some (some (vI (0 : Int32)), (M, L))) else (if p0 = (62 : Int32) then (if p1 ≤ p2 then some (some (vI (0 : Int32)), (M, L)) else some (some (vI (1 : Int32)), (M, L))) else (if p0 = (124 : Int32) then (if p1 = 0 then (if p2 = 0 then some (some (vI (0 : Int32)), (M, L)) else some (some (vI (1 : Int32)), (M, L))) else some (some (vI (1 : Int32)), (M, L))) else some (some (vI (0 : Int32)), (M, L)))))))))))) := by
  rw [C_of (q := me38) rfl rfl rfl rfl, X_go E d me38 [] 400]
  rfl
set_option maxRecDepth 100000 in
theorem x39 (E : Nat × (Nat → Int32)) (d : Nat) (p0 : Int32) (M : Nat → Nat → Int32) (L : Nat → Nat → Int64) : C E (d + 1) 39 [vR 1 4 280, vI p0] (M, L) = (if p0 < 0 then some (some (vI (-1 : Int32)), (M, L)) else (if (5 : Int32) ≤ p0 then some (some (vI (-1 : Int32)), (M, L)) else (if ib p0 5 then some (some (vI (M 281 (ix p0))), (M, L)) else none))) := by
  rw [C_of (q := me39) rfl rfl rfl rfl, X_go E d me39 [] 400]
  rfl
set_option maxRecDepth 100000 in
theorem x40 (E : Nat × (Nat → Int32)) (d : Nat) (p0 : Int32) (p1 : Int32) (M : Nat → Nat → Int32) (L : Nat → Nat → Int64) : C E (d + 1) 40 [vR 1 4 280, vI p0, vI p1] (M, L) = (if p0 < 0 then some (none, (M, L)) else (if (5 : Int32) ≤ p0 then some (none, (M, L)) else (if ib p0 5 then (if ib p0 5 then some (none, ((u2 M 281 (ix p0) ((M 281 (ix p0)) + p1)), L)) else none) else none))) := by
  rw [C_of (q := me40) rfl rfl rfl rfl, X_go E d me40 [] 400]
  rfl
set_option maxRecDepth 100000 in
theorem x41 (E : Nat × (Nat → Int32)) (d : Nat) (o0 : Nat) (M : Nat → Nat → Int32) (L : Nat → Nat → Int64) : C E (d + 1) 41 [vR 1 4 280, vR 1 2 o0] (M, L) = (bV (C E d 25 [vR 1 2 290, vR 1 2 o0] (M, L)) fun s1 => (bV (C E d 999 [vR 2 5 281, vI (0 : Int32), vR 2 5 282, vI (0 : Int32), vI (5 : Int32)] s1) fun s2 => some (none, ((u2 s2.1 280 3 (1 : Int32)), s2.2)))) := by
  rw [C_of (q := me41) rfl rfl rfl rfl, X_go E d me41 [] 400]
  rfl
set_option maxRecDepth 100000 in
theorem x42 (E : Nat × (Nat → Int32)) (d : Nat) (o0 : Nat) (M : Nat → Nat → Int32) (L : Nat → Nat → Int64) : C E (d + 1) 42 [vR 1 4 280, vR 1 2 o0] (M, L) = X E d me42 2 [some (vR 1 4 280), some (vR 1 2 o0), some (vI (0 : Int32))] [] (M, L) := by
  rw [C_of (q := me42) rfl rfl rfl rfl, X_go E d me42 [2, 36] 400]
  rfl
set_option maxRecDepth 100000 in
theorem x42_2 (E : Nat × (Nat → Int32)) (d : Nat) (o0 : Nat) (x2 : Int32) (M : Nat → Nat → Int32) (L : Nat → Nat → Int64) : X E d me42 2 [some (vR 1 4 280), some (vR 1 2 o0), some (vI x2)] [] (M, L) = (if (M 290 11) ≤ x2 then X E d me42 36 [some (vR 1 4 280), some (vR 1 2 o0), some (vI (0 : Int32))] [] (M, L) else (bI (C E d 22 [vR 1 2 290, vI x2, vI (1 : Int32)] (M, L)) fun r1 s1 => (bV (C E d 23 [vR 1 2 o0, vI x2, vI (1 : Int32), vI r1] s1) fun s2 => X E d me42 2 [some (vR 1 4 280), some (vR 1 2 o0), some (vI (x2 + (1 : Int32)))] [] s2))) := by
  rw [X_go E d me42 [2, 36] 400]
  rfl
set_option maxRecDepth 100000 in
theorem x42_36 (E : Nat × (Nat → Int32)) (d : Nat) (o0 : Nat) (x2 : Int32) (M : Nat → Nat → Int32) (L : Nat → Nat → Int64) : X E d me42 36 [some (vR 1 4 280), some (vR 1 2 o0), some (vI x2)] [] (M, L) = (if (M 290 12) ≤ x2 then (bI (C E d 22 [vR 1 2 290, vI (0 : Int32), vI (8 : Int32)] (M, L)) fun r3 s3 => (bV (C E d 23 [vR 1 2 o0, vI (0 : Int32), vI (8 : Int32), vI r3] s3) fun s4 => (bV (C E d 999 [vR 2 5 282, vI (0 : Int32), vR 2 5 281, vI (0 : Int32), vI (5 : Int32)] s4) fun s5 => some (none, s5)))) else (bI (C E d 22 [vR 1 2 290, vI x2, vI (3 : Int32)] (M, L)) fun r6 s6 => (bV (C E d 23 [vR 1 2 o0, vI x2, vI (3 : Int32), vI r6] s6) fun s7 => (bI (C E d 22 [vR 1 2 290, vI x2, vI (6 : Int32)] s7) fun r8 s8 => (bV (C E d 23 [vR 1 2 o0, vI x2, vI (6 : Int32), vI r8] s8) fun s9 => X E d me42 36 [some (vR 1 4 280), some (vR 1 2 o0), some (vI (x2 + (1 : Int32)))] [] s9))))) := by
  rw [X_go E d me42 [2, 36] 400]
  rfl
set_option maxRecDepth 100000 in
theorem x43 (E : Nat × (Nat → Int32)) (d : Nat)  (M : Nat → Nat → Int32) (L : Nat → Nat → Int64) : C E (d + 1) 43 [vR 1 5 240] (M, L) = X E d me43 2 [some (vR 1 5 240), some (vI (0 : Int32)), none, none] [] (M, L) := by
  rw [C_of (q := me43) rfl rfl rfl rfl, X_go E d me43 [2, 28] 400]
  rfl
set_option maxRecDepth 100000 in
theorem x43_2 (E : Nat × (Nat → Int32)) (d : Nat) (x1 : Int32) (w2 : Option PV) (w3 : Option PV) (M : Nat → Nat → Int32) (L : Nat → Nat → Int64) : X E d me43 2 [some (vR 1 5 240), some (vI x1), w2, w3] [] (M, L) = (if (M 40 11) ≤ x1 then some (none, (M, L)) else (if (8 : Int32) ≤ x1 then some (none, (M, L)) else (if ib x1 8 then X E d me43 28 [some (vR 1 5 240), some (vI x1), some (vI (0 : Int32)), w3] [] ((u2 M 242 (ix x1) (0 : Int32)), L) else none))) := by
  rw [X_go E d me43 [2, 28] 400]
  rfl
set_option maxRecDepth 100000 in
theorem x43_28 (E : Nat × (Nat → Int32)) (d : Nat) (x1 : Int32) (x2 : Int32) (w3 : Option PV) (M : Nat → Nat → Int32) (L : Nat → Nat → Int64) : X E d me43 28 [some (vR 1 5 240), some (vI x1), some (vI x2), w3] [] (M, L) = (if (M 40 12) ≤ x2 then X E d me43 2 [some (vR 1 5 240), some (vI (x1 + (1 : Int32))), some (vI x2), w3] [] (M, L) else (bI (C E d 22 [vR 1 2 40, vI x2, vI (4 : Int32)] (M, L)) fun r1 s1 => (bI (C E d 22 [vR 1 2 40, vI x1, vI (2 : Int32)] s1) fun r2 s2 => (bI (C E d 997 [vI r1, vI r2] s2) fun r3 s3 => (bI (C E d 33 [vR 1 2 40, vI x2] s3) fun r4 s4 => (if r4 = 0 then (bI (C E d 22 [vR 1 2 40, vI x2, vI (5 : Int32)] s4) fun r5 s5 => (if r5 < r3 then X E d me43 28 [some (vR 1 5 240), some (vI x1), some (vI (x2 + (1 : Int32))), some (vI r3)] [] s5 else (if ib x1 8 then (if ib x1 8 then X E d me43 28 [some (vR 1 5 240), some (vI x1), some (vI (x2 + (1 : Int32))), some (vI r3)] [] ((u2 s5.1 242 (ix x1) ((s5.1 242 (ix x1)) ||| ((1 : Int32) <<< (x2 &&& 31)))), s5.2) else none) else none))) else X E d me43 28 [some (vR 1 5 240), some (vI x1), some (vI (x2 + (1 : Int32))), some (vI r3)] [] s4)))))) := by
  rw [X_go E d me43 [2, 28] 400]
  rfl
set_option maxRecDepth 100000 in
theorem x44 (E : Nat × (Nat → Int32)) (d : Nat) (p0 : Int32) (p1 : Int32) (M : Nat → Nat → Int32) (L : Nat → Nat → Int64) : C E (d + 1) 44 [vR 1 5 240, vI p0, vI p1] (M, L) = (bV (C E d 252 [vR 2 9 243, vI (-1 : Int32)] (M, L)) fun s1 => (bI (C E d 998 [vI p0, vI (0 : Int32)] s1) fun r2 s2 => X E d me44 17 [some (vR 1 5 240), some (vI p0), some (vI p1), some (vI (0 : Int32)), some (vI r2)] [] s2)) := by
  rw [C_of (q := me44) rfl rfl rfl rfl, X_go E d me44 [17] 400]
  rfl
set_option maxRecDepth 100000 in
theorem x44_17 (E : Nat × (Nat → Int32)) (d : Nat) (x1 : Int32) (x2 : Int32) (x3 : Int32) (x4 : Int32) (M : Nat → Nat → Int32) (L : Nat → Nat → Int64) : X E d me44 17 [some (vR 1 5 240), some (vI x1), some (vI x2), some (vI x3), some (vI x4)] [] (M, L) = (if (M 40 11) ≤ x4 then some (some (vI x3), (M, L)) else (bI (C E d 45 [vR 1 5 240, vI x4, vI (0 : Int32)] ((u2 M 240 3 x2), L)) fun r3 s3 => (if r3 = 0 then X E d me44 17 [some (vR 1 5 240), some (vI x1), some (vI x2), some (vI x3), some (vI (x4 + (1 : Int32)))] [] s3 else X E d me44 17 [some (vR 1 5 240), some (vI x1), some (vI x2), some (vI (x3 + (1 : Int32))), some (vI (x4 + (1 : Int32)))] [] s3))) := by
  rw [X_go E d me44 [17] 400]
  rfl
set_option maxRecDepth 100000 in
theorem x45 (E : Nat × (Nat → Int32)) (d : Nat) (p0 : Int32) (p1 : Int32) (M : Nat → Nat → Int32) (L : Nat → Nat → Int64) : C E (d + 1) 45 [vR 1 5 240, vI p0, vI p1] (M, L) = (if (9 : Int32) < p1 then some (some (vI (0 : Int32)), (M, L)) else (if p0 < 0 then some (some (vI (0 : Int32)), (M, L)) else (if p0 < (8 : Int32) then X E d me45 20 [some (vR 1 5 240), some (vI p0), some (vI p1), some (vI (0 : Int32))] [] (M, L) else some (some (vI (0 : Int32)), (M, L))))) := by
  rw [C_of (q := me45) rfl rfl rfl rfl, X_go E d me45 [20] 400]
  rfl
set_option maxRecDepth 100000 in
theorem x45_20 (E : Nat × (Nat → Int32)) (d : Nat) (x1 : Int32) (x2 : Int32) (x3 : Int32) (M : Nat → Nat → Int32) (L : Nat → Nat → Int64) : X E d me45 20 [some (vR 1 5 240), some (vI x1), some (vI x2), some (vI x3)] [] (M, L) = (if (9 : Int32) ≤ x3 then some (some (vI (0 : Int32)), (M, L)) else (if ib x1 8 then (if (((M 242 (ix x1)) &&& ((M 240 3) ^^^ (-1 : Int32))) &&& ((1 : Int32) <<< (x3 &&& 31))) = 0 then X E d me45 20 [some (vR 1 5 240), some (vI x1), some (vI x2), some (vI (x3 + (1 : Int32)))] [] (M, L) else (if ib x3 9 then (if ((u2 M 240 3 ((M 240 3) ||| ((1 : Int32) <<< (x3 &&& 31)))) 243 (ix x3)) = (-1 : Int32) then (if ib x3 9 then some (some (vI (1 : Int32)), ((u2 (u2 M 240 3 ((M 240 3) ||| ((1 : Int32) <<< (x3 &&& 31)))) 243 (ix x3) x1), L)) else none) else (if ib x3 9 then (bI (C E d 45 [vR 1 5 240, vI ((u2 M 240 3 ((M 240 3) ||| ((1 : Int32) <<< (x3 &&& 31)))) 243 (ix x3)), vI (x2 + (1 : Int32))] ((u2 M 240 3 ((M 240 3) ||| ((1 : Int32) <<< (x3 &&& 31)))), L)) fun r1 s1 => (if r1 = 0 then X E d me45 20 [some (vR 1 5 240), some (vI x1), some (vI x2), some (vI (x3 + (1 : Int32)))] [] s1 else (if ib x3 9 then some (some (vI (1 : Int32)), ((u2 s1.1 243 (ix x3) x1), s1.2)) else none))) else none)) else none)) else none)) := by
  rw [X_go E d me45 [20] 400]
  rfl
set_option maxRecDepth 100000 in
theorem x46 (E : Nat × (Nat → Int32)) (d : Nat) (p0 : Int32) (M : Nat → Nat → Int32) (L : Nat → Nat → Int64) : C E (d + 1) 46 [vR 1 5 240, vI p0] (M, L) = (bI (C E d 44 [vR 1 5 240, vI (0 : Int32), vI (0 : Int32)] (M, L)) fun r1 s1 => X E d me46 16 [some (vR 1 5 240), some (vI p0), some (vI r1), some (vI (0 : Int32)), some (vI (9 : Int32)), some (vI (0 : Int32))] [] s1) := by
  rw [C_of (q := me46) rfl rfl rfl rfl, X_go E d me46 [16] 400]
  rfl
set_option maxRecDepth 100000 in
theorem x46_16 (E : Nat × (Nat → Int32)) (d : Nat) (x1 : Int32) (x2 : Int32) (x3 : Int32) (x4 : Int32) (x5 : Int32) (M : Nat → Nat → Int32) (L : Nat → Nat → Int64) : X E d me46 16 [some (vR 1 5 240), some (vI x1), some (vI x2), some (vI x3), some (vI x4), some (vI x5)] [] (M, L) = (if x1 < x5 then some (some (vI x4), (M, L)) else (if (8 : Int32) ≤ x5 then some (some (vI x4), (M, L)) else (bI (C E d 47 [vR 1 5 240, vI x5, vI x3, vI x2] (M, L)) fun r2 s2 => (if r2 = (9 : Int32) then X E d me46 16 [some (vR 1 5 240), some (vI x1), some (vI x2), some (vI x3), some (vI r2), some (vI (x5 + (1 : Int32)))] [] s2 else X E d me46 16 [some (vR 1 5 240), some (vI x1), some (vI (x2 + (Int32.ofInt (-1)))), some (vI (x3 ||| ((1 : Int32) <<< (r2 &&& 31)))), some (vI r2), some (vI (x5 + (1 : Int32)))] [] s2)))) := by
  rw [X_go E d me46 [16] 400]
  rfl
set_option maxRecDepth 100000 in
theorem x47 (E : Nat × (Nat → Int32)) (d : Nat) (p0 : Int32) (p1 : Int32) (p2 : Int32) (M : Nat → Nat → Int32) (L : Nat → Nat → Int64) : C E (d + 1) 47 [vR 1 5 240, vI p0, vI p1, vI p2] (M, L) = (if p0 < 0 then X E d me47 29 [some (vR 1 5 240), some (vI p0), some (vI p1), some (vI p2), some (vI (0 : Int32)), some (vI (0 : Int32))] [] (M, L) else (if (8 : Int32) ≤ p0 then X E d me47 29 [some (vR 1 5 240), some (vI p0), some (vI p1), some (vI p2), some (vI (0 : Int32)), some (vI (0 : Int32))] [] (M, L) else (if ib p0 8 then X E d me47 29 [some (vR 1 5 240), some (vI p0), some (vI p1), some (vI p2), some (vI ((M 242 (ix p0)) &&& (p1 ^^^ (-1 : Int32)))), some (vI (0 : Int32))] [] (M, L) else none))) := by
  rw [C_of (q := me47) rfl rfl rfl rfl, X_go E d me47 [29] 400]
  rfl
set_option maxRecDepth 100000 in
theorem x47_29 (E : Nat × (Nat → Int32)) (d : Nat) (x1 : Int32) (x2 : Int32) (x3 : Int32) (x4 : Int32) (x5 : Int32) (M : Nat → Nat → Int32) (L : Nat → Nat → Int64) : X E d me47 29 [some (vR 1 5 240), some (vI x1), some (vI x2), some (vI x3), some (vI x4), some (vI x5)] [] (M, L) = (if (9 : Int32) ≤ x5 then some (some (vI (9 : Int32)), (M, L)) else (if ((x4 >>> (x5 &&& 31)) &&& (1 : Int32)) = 0 then X E d me47 29 [some (vR 1 5 240), some (vI x1), some (vI x2), some (vI x3), some (vI x4), some (vI (x5 + (1 : Int32)))] [] (M, L) else (bI (C E d 44 [vR 1 5 240, vI (x1 + (1 : Int32)), vI (x2 ||| ((1 : Int32) <<< (x5 &&& 31)))] (M, L)) fun r1 s1 => (if r1 = (x3 - (1 : Int32)) then some (some (vI x5), s1) else X E d me47 29 [some (vR 1 5 240), some (vI x1), some (vI x2), some (vI x3), some (vI x4), some (vI (x5 + (1 : Int32)))] [] s1)))) := by
  rw [X_go E d me47 [29] 400]
  rfl
set_option maxRecDepth 100000 in
theorem x48 (E : Nat × (Nat → Int32)) (d : Nat) (p0 : Int32) (M : Nat → Nat → Int32) (L : Nat → Nat → Int64) : C E (d + 1) 48 [vR 1 6 330, vI p0] (M, L) = (if p0 < 0 then some (some (vI (0 : Int32)), (M, L)) else (if (6 : Int32) ≤ p0 then some (some (vI (0 : Int32)), (M, L)) else some (some (vI (1 : Int32)), (M, L)))) := by
  rw [C_of (q := me48) rfl rfl rfl rfl, X_go E d me48 [] 400]
  rfl
set_option maxRecDepth 100000 in
theorem x49 (E : Nat × (Nat → Int32)) (d : Nat) (p0 : Int32) (M : Nat → Nat → Int32) (L : Nat → Nat → Int64) : C E (d + 1) 49 [vR 1 6 330, vI p0] (M, L) = (bI (C E d 48 [vR 1 6 330, vI p0] (M, L)) fun r1 s1 => (if r1 = 0 then some (some (vI (1 : Int32)), s1) else (if ib p0 6 then (if (s1.1 331 (ix p0)) = (-1 : Int32) then some (some (vI (1 : Int32)), s1) else some (some (vI (0 : Int32)), s1)) else none))) := by
  rw [C_of (q := me49) rfl rfl rfl rfl, X_go E d me49 [] 400]
  rfl
set_option maxRecDepth 100000 in
theorem x50 (E : Nat × (Nat → Int32)) (d : Nat) (p0 : Int32) (M : Nat → Nat → Int32) (L : Nat → Nat → Int64) : C E (d + 1) 50 [vR 1 6 330, vI p0] (M, L) = (bI (C E d 48 [vR 1 6 330, vI p0] (M, L)) fun r1 s1 => (if r1 = 0 then some (some (vI (0 : Int32)), s1) else (if ib p0 6 then (if (s1.1 331 (ix p0)) < 0 then some (some (vI (0 : Int32)), s1) else (if ib p0 6 then (if (4 : Int32) < (s1.1 331 (ix p0)) then some (some (vI (0 : Int32)), s1) else some (some (vI (1 : Int32)), s1)) else none)) else none))) := by
  rw [C_of (q := me50) rfl rfl rfl rfl, X_go E d me50 [] 400]
  rfl
set_option maxRecDepth 100000 in
theorem x51 (E : Nat × (Nat → Int32)) (d : Nat) (p0 : Int32) (M : Nat → Nat → Int32) (L : Nat → Nat → Int64) : C E (d + 1) 51 [vR 1 6 330, vI p0] (M, L) = (bI (C E d 50 [vR 1 6 330, vI p0] (M, L)) fun r1 s1 => (if r1 = 0 then some (some (vI (0 : Int32)), s1) else (if ib p0 6 then some (some (vI (s1.1 332 (ix p0))), s1) else none))) := by
  rw [C_of (q := me51) rfl rfl rfl rfl, X_go E d me51 [] 400]
  rfl
set_option maxRecDepth 100000 in
theorem x52 (E : Nat × (Nat → Int32)) (d : Nat) (p0 : Int32) (M : Nat → Nat → Int32) (L : Nat → Nat → Int64) : C E (d + 1) 52 [vR 1 6 330, vI p0] (M, L) = (bI (C E d 48 [vR 1 6 330, vI p0] (M, L)) fun r1 s1 => (if r1 = 0 then some (some (vI (-1 : Int32)), s1) else (if ib p0 6 then (if (s1.1 331 (ix p0)) = (5 : Int32) then (if ib p0 6 then some (some (vI (s1.1 332 (ix p0))), s1) else none) else some (some (vI (-1 : Int32)), s1)) else none))) := by
  rw [C_of (q := me52) rfl rfl rfl rfl, X_go E d me52 [] 400]
  rfl
set_option maxRecDepth 100000 in
theorem x53 (E : Nat × (Nat → Int32)) (d : Nat) (p0 : Int32) (M : Nat → Nat → Int32) (L : Nat → Nat → Int64) : C E (d + 1) 53 [vR 1 6 330, vI p0] (M, L) = (bI (C E d 48 [vR 1 6 330, vI p0] (M, L)) fun r1 s1 => (if r1 = 0 then some (none, s1) else (if ib p0 6 then some (none, ((u2 s1.1 331 (ix p0) (-1 : Int32)), s1.2)) else none))) := by
  rw [C_of (q := me53) rfl rfl rfl rfl, X_go E d me53 [] 400]
  rfl
set_option maxRecDepth 100000 in
theorem x54 (E : Nat × (Nat → Int32)) (d : Nat) (p0 : Int32) (p1 : Int32) (M : Nat → Nat → Int32) (L : Nat → Nat → Int64) : C E (d + 1) 54 [vR 1 6 330, vI p0, vI p1] (M, L) = (bI (C E d 48 [vR 1 6 330, vI p0] (M, L)) fun r1 s1 => (if r1 = 0 then some (none, s1) else (if ib p0 6 then (if ib p0 6 then some (none, ((u2 (u2 s1.1 331 (ix p0) (5 : Int32)) 332 (ix p0) p1), s1.2)) else none) else none))) := by
  rw [C_of (q := me54) rfl rfl rfl rfl, X_go E d me54 [] 400]
  rfl
set_option maxRecDepth 100000 in
theorem x55 (E : Nat × (Nat → Int32)) (d : Nat) (p0 : Int32) (p1 : Int32) (p2 : Int32) (M : Nat → Nat → Int32) (L : Nat → Nat → Int64) : C E (d + 1) 55 [vR 1 6 330, vI p0, vI p1, vI p2] (M, L) = (bI (C E d 48 [vR 1 6 330, vI p0] (M, L)) fun r1 s1 => (if r1 = 0 then some (none, s1) else (if p2 < 0 then some (none, s1) else (if (60 : Int32) < p2 then some (none, s1) else (if ib p0 6 then (if ib p0 6 then (if ib p0 6 then (bV (C E d 251 [vR 3 60 (334 + ix p0), vL (0 : Int64)] ((u2 (u2 s1.1 331 (ix p0) p1) 332 (ix p0) p2), s1.2)) fun s2 => some (none, s2)) else none) else none) else none))))) := by
  rw [C_of (q := me55) rfl rfl rfl rfl, X_go E d me55 [] 400]
  rfl
set_option maxRecDepth 100000 in
theorem x56 (E : Nat × (Nat → Int32)) (d : Nat) (p0 : Int32) (M : Nat → Nat → Int32) (L : Nat → Nat → Int64) : C E (d + 1) 56 [vR 1 6 330, vI p0] (M, L) = (bI (C E d 48 [vR 1 6 330, vI p0] (M, L)) fun r1 s1 => (if r1 = 0 then some (some (vI (-1 : Int32)), s1) else (bI (C E d 49 [vR 1 6 330, vI p0] s1) fun r2 s2 => (if r2 = 0 then (bI (C E d 50 [vR 1 6 330, vI p0] s2) fun r3 s3 => (if r3 = 0 then some (some (vI (-12 : Int32)), s3) else some (some (vI (0 : Int32)), s3))) else some (some (vI (-11 : Int32)), s2))))) := by
  rw [C_of (q := me56) rfl rfl rfl rfl, X_go E d me56 [] 400]
  rfl
set_option maxRecDepth 100000 in
theorem x57 (E : Nat × (Nat → Int32)) (d : Nat) (p0 : Int32) (M : Nat → Nat → Int32) (L : Nat → Nat → Int64) : C E (d + 1) 57 [vR 1 6 330, vI p0] (M, L) = (bI (C E d 56 [vR 1 6 330, vI p0] (M, L)) fun r1 s1 => (if r1 = 0 then (if ib p0 6 then (if (s1.1 331 (ix p0)) = 0 then some (some (vI r1), s1) else some (some (vI (-12 : Int32)), s1)) else none) else some (some (vI r1), s1))) := by
  rw [C_of (q := me57) rfl rfl rfl rfl, X_go E d me57 [] 400]
  rfl
set_option maxRecDepth 100000 in
theorem x58 (E : Nat × (Nat → Int32)) (d : Nat) (p0 : Int32) (p1 : Int32) (M : Nat → Nat → Int32) (L : Nat → Nat → Int64) : C E (d + 1) 58 [vR 1 6 330, vI p0, vI p1] (M, L) = (bI (C E d 56 [vR 1 6 330, vI p0] (M, L)) fun r1 s1 => (if r1 = 0 then (if p1 < 0 then some (some (vI (-13 : Int32)), s1) else (bI (C E d 51 [vR 1 6 330, vI p0] s1) fun r2 s2 => (if p1 < r2 then some (some (vI r1), s2) else some (some (vI (-13 : Int32)), s2)))) else some (some (vI r1), s1))) := by
  rw [C_of (q := me58) rfl rfl rfl rfl, X_go E d me58 [] 400]
  rfl
set_option maxRecDepth 100000 in
theorem x59 (E : Nat × (Nat → Int32)) (d : Nat) (p0 : Int32) (p1 : Int32) (M : Nat → Nat → Int32) (L : Nat → Nat → Int64) : C E (d + 1) 59 [vR 1 6 330, vI p0, vI p1] (M, L) = (bI (C E d 48 [vR 1 6 330, vI p0] (M, L)) fun r1 s1 => (if r1 = 0 then some (some (vI (-1 : Int32)), s1) else (bI (C E d 48 [vR 1 6 330, vI p1] s1) fun r2 s2 => (if r2 = 0 then some (some (vI (-1 : Int32)), s2) else (bI (C E d 49 [vR 1 6 330, vI p0] s2) fun r3 s3 => (if r3 = 0 then (bI (C E d 49 [vR 1 6 330, vI p1] s3) fun r4 s4 => (if r4 = 0 then (bI (C E d 50 [vR 1 6 330, vI p0] s4) fun r5 s5 => (if r5 = 0 then some (some (vI (-12 : Int32)), s5) else (if ib p0 6 then (if ib p1 6 then (if (s5.1 331 (ix p0)) = (s5.1 331 (ix p1)) then some (some (vI (0 : Int32)), s5) else some (some (vI (-12 : Int32)), s5)) else none) else none))) else some (some (vI (-11 : Int32)), s4))) else some (some (vI (-11 : Int32)), s3))))))) := by
  rw [C_of (q := me59) rfl rfl rfl rfl, X_go E d me59 [] 400]
  rfl
set_option maxRecDepth 100000 in
theorem x60 (E : Nat × (Nat → Int32)) (d : Nat) (p0 : Int32) (p1 : Int32) (p2 : Int32) (M : Nat → Nat → Int32) (L : Nat → Nat → Int64) : C E (d + 1) 60 [vR 1 6 330, vI p0, vI p1, vI p2] (M, L) = (if p1 < 0 then some (some (vI (0 : Int32)), (M, L)) else (if p2 < 0 then some (some (vI (0 : Int32)), (M, L)) else (bI (C E d 51 [vR 1 6 330, vI p0] (M, L)) fun r1 s1 => (if r1 < p1 then some (some (vI (0 : Int32)), s1) else (bI (C E d 51 [vR 1 6 330, vI p0] s1) fun r2 s2 => (if (r2 - p1) < p2 then some (some (vI (0 : Int32)), s2) else some (some (vI (1 : Int32)), s2))))))) := by
  rw [C_of (q := me60) rfl rfl rfl rfl, X_go E d me60 [] 400]
  rfl
set_option maxRecDepth 100000 in
theorem x61 (E : Nat × (Nat → Int32)) (d : Nat) (p0 : Int32) (p1 : Int32) (M : Nat → Nat → Int32) (L : Nat → Nat → Int64) : C E (d + 1) 61 [vR 1 6 330, vI p0, vI p1] (M, L) = (if p1 < 0 then some (some (vL (0 : Int64)), (M, L)) else (bI (C E d 51 [vR 1 6 330, vI p0] (M, L)) fun r1 s1 => (if r1 ≤ p1 then some (some (vL (0 : Int64)), s1) else (if (60 : Int32) ≤ p1 then some (some (vL (0 : Int64)), s1) else (if ib p0 6 then (if ib p1 60 then some (some (vL (s1.2 (334 + ix p0) (ix p1))), s1) else none) else none))))) := by
  rw [C_of (q := me61) rfl rfl rfl rfl, X_go E d me61 [] 400]
  rfl
set_option maxRecDepth 100000 in
theorem x62 (E : Nat × (Nat → Int32)) (d : Nat) (p0 : Int32) (p1 : Int32) (p2 : Int64) (M : Nat → Nat → Int32) (L : Nat → Nat → Int64) : C E (d + 1) 62 [vR 1 6 330, vI p0, vI p1, vL p2] (M, L) = (if p1 < 0 then some (none, (M, L)) else (bI (C E d 51 [vR 1 6 330, vI p0] (M, L)) fun r1 s1 => (if r1 ≤ p1 then some (none, s1) else (if (60 : Int32) ≤ p1 then some (none, s1) else (if ib p0 6 then (if ib p0 6 then (bL (C E d 63 [vI (s1.1 331 (ix p0)), vL p2] s1) fun r2 s2 => (if ib p1 60 then some (none, (s2.1, (u2L s2.2 (334 + ix p0) (ix p1) r2))) else none)) else none) else none))))) := by
  rw [C_of (q := me62) rfl rfl rfl rfl, X_go E d me62 [] 400]
  rfl
set_option maxRecDepth 100000 in
theorem x63 (E : Nat × (Nat → Int32)) (d : Nat) (p0 : Int32) (p1 : Int64) (M : Nat → Nat → Int32) (L : Nat → Nat → Int64) : C E (d + 1) 63 [vI p0, vL p1] (M, L) = (if p0 = (0 : Int32) then some (some (vL (Int32.toInt64 (Int8.toInt32 (Int32.toInt8 (Int64.toInt32 p1))))), (M, L)) else (if p0 = (1 : Int32) then some (some (vL (Int32.toInt64 (Int16.toInt32 (Int32.toInt16 (Int64.toInt32 p1))))), (M, L)) else (if p0 = (2 : Int32) then some (some (vL (Int32.toInt64 (Int64.toInt32 p1))), (M, L)) else (if p0 = (3 : Int32) then some (some (vL p1), (M, L)) else (if p0 = (4 : Int32) then (if (lg_cmp p1 (0 : Int64)) = 0 then some (some (vL (0 : Int64)), (M, L)) else some (some (vL (1 : Int64)), (M, L))) else some (some (vL p1), (M, L))))))) := by
  rw [C_of (q := me63) rfl rfl rfl rfl, X_go E d me63 [] 400]
  rfl
set_option maxRecDepth 100000 in
theorem x64 (E : Nat × (Nat → Int32)) (d : Nat) (p0 : Int32) (p1 : Int32) (p2 : Int32) (p3 : Int32) (p4 : Int32) (M : Nat → Nat → Int32) (L : Nat → Nat → Int64) : C E (d + 1) 64 [vR 1 6 330, vI p0, vI p1, vI p2, vI p3, vI p4] (M, L) = (bI (C E d 60 [vR 1 6 330, vI p0, vI p1, vI p4] (M, L)) fun r1 s1 => (if r1 = 0 then some (none, s1) else (bI (C E d 60 [vR 1 6 330, vI p2, vI p3, vI p4] s1) fun r2 s2 => (if r2 = 0 then some (none, s2) else (if ib p0 6 then (if ib p2 6 then (bV (C E d 999 [vR 3 60 (334 + ix p0), vI p1, vR 3 60 (334 + ix p2), vI p3, vI p4] s2) fun s3 => some (none, s3)) else none) else none))))) := by
  rw [C_of (q := me64) rfl rfl rfl rfl, X_go E d me64 [] 400]
  rfl
set_option maxRecDepth 100000 in
theorem x65 (E : Nat × (Nat → Int32)) (d : Nat) (p0 : Int32) (M : Nat → Nat → Int32) (L : Nat → Nat → Int64) : C E (d + 1) 65 [vR 1 7 70, vI p0] (M, L) = (if (M 70 3) < (120 : Int32) then (if ib (M 70 3) 120 then some (some (vI ((u2 (u2 M 70 3 ((M 70 3) + (1 : Int32))) 71 (ix (M 70 3)) p0) 70 3)), ((u2 (u2 M 70 3 ((M 70 3) + (1 : Int32))) 71 (ix (M 70 3)) p0), L)) else none) else some (some (vI (-3 : Int32)), (M, L))) := by
  rw [C_of (q := me65) rfl rfl rfl rfl, X_go E d me65 [] 400]
  rfl
set_option maxRecDepth 100000 in
theorem x66 (E : Nat × (Nat → Int32)) (d : Nat)  (M : Nat → Nat → Int32) (L : Nat → Nat → Int64) : C E (d + 1) 66 [vR 1 7 70] (M, L) = some (none, ((u2 M 70 3 (0 : Int32)), L)) := by
  rw [C_of (q := me66) rfl rfl rfl rfl, X_go E d me66 [] 400]
  rfl
set_option maxRecDepth 100000 in
theorem x67 (E : Nat × (Nat → Int32)) (d : Nat)  (M : Nat → Nat → Int32) (L : Nat → Nat → Int64) : C E (d + 1) 67 [vR 1 7 70] (M, L) = (bV (C E d 70 [vR 1 7 70] ((u2 (u2 (u2 M 70 5 (0 : Int32)) 70 4 (0 : Int32)) 70 6 (-1 : Int32)), L)) fun s1 => X E d me67 21 [some (vR 1 7 70), some (vI (0 : Int32))] [] s1) := by
  rw [C_of (q := me67) rfl rfl rfl rfl, X_go E d me67 [21] 400]
  rfl
set_option maxRecDepth 100000 in
theorem x67_21 (E : Nat × (Nat → Int32)) (d : Nat) (x1 : Int32) (M : Nat → Nat → Int32) (L : Nat → Nat → Int64) : X E d me67 21 [some (vR 1 7 70), some (vI x1)] [] (M, L) = (if (120 : Int32) ≤ x1 then (if 0 ≤ (M 70 6) then some (some (vI (M 70 6)), (M, L)) else (if (M 70 3) ≤ (M 70 5) then some (some (vI (M 70 6)), (M, L)) else some (some (vI ((u2 M 70 6 (M 70 5)) 70 6)), ((u2 M 70 6 (M 70 5)), L)))) else (if 0 ≤ (M 70 6) then (if 0 ≤ (M 70 6) then some (some (vI (M 70 6)), (M, L)) else (if (M 70 3) ≤ (M 70 5) then some (some (vI (M 70 6)), (M, L)) else some (some (vI ((u2 M 70 6 (M 70 5)) 70 6)), ((u2 M 70 6 (M 70 5)), L)))) else (bI (C E d 68 [vR 1 7 70] (M, L)) fun r2 s2 => (if r2 = (59 : Int32) then (bV (C E d 70 [vR 1 7 70] ((u2 s2.1 70 5 ((s2.1 70 5) + (1 : Int32))), s2.2)) fun s3 => X E d me67 21 [some (vR 1 7 70), some (vI (x1 + (1 : Int32)))] [] s3) else (if 0 ≤ (s2.1 70 6) then some (some (vI (s2.1 70 6)), s2) else (if (s2.1 70 3) ≤ (s2.1 70 5) then some (some (vI (s2.1 70 6)), s2) else some (some (vI ((u2 s2.1 70 6 (s2.1 70 5)) 70 6)), ((u2 s2.1 70 6 (s2.1 70 5)), s2.2)))))))) := by
  rw [X_go E d me67 [21] 400]
  rfl
set_option maxRecDepth 100000 in
theorem x68 (E : Nat × (Nat → Int32)) (d : Nat)  (M : Nat → Nat → Int32) (L : Nat → Nat → Int64) : C E (d + 1) 68 [vR 1 7 70] (M, L) = (if (M 70 5) < 0 then some (some (vI (-1 : Int32)), (M, L)) else (if (M 70 3) ≤ (M 70 5) then some (some (vI (-1 : Int32)), (M, L)) else (if (120 : Int32) ≤ (M 70 5) then some (some (vI (-1 : Int32)), (M, L)) else (if ib (M 70 5) 120 then some (some (vI (M 71 (ix (M 70 5)))), (M, L)) else none)))) := by
  rw [C_of (q := me68) rfl rfl rfl rfl, X_go E d me68 [] 400]
  rfl
set_option maxRecDepth 100000 in
theorem x69 (E : Nat × (Nat → Int32)) (d : Nat) (p0 : Int32) (p1 : Int32) (M : Nat → Nat → Int32) (L : Nat → Nat → Int64) : C E (d + 1) 69 [vR 1 7 70, vI p0, vI p1] (M, L) = (if (128 : Int32) ≤ (M 70 4) then some (none, (M, L)) else (if ib (M 70 4) 128 then (if ib ((u2 M 72 (ix (M 70 4)) p0) 70 4) 128 then some (none, ((u2 (u2 (u2 M 72 (ix (M 70 4)) p0) 73 (ix ((u2 M 72 (ix (M 70 4)) p0) 70 4)) p1) 70 4 (((u2 (u2 M 72 (ix (M 70 4)) p0) 73 (ix ((u2 M 72 (ix (M 70 4)) p0) 70 4)) p1) 70 4) + (1 : Int32))), L)) else none) else none)) := by
  rw [C_of (q := me69) rfl rfl rfl rfl, X_go E d me69 [] 400]
  rfl
end
section
/-! printed by wip/whole/sym.py: what each method does, as a tree; closed by rfl -/
set_option maxRecDepth 100000 in
theorem x70 (E : Nat × (Nat → Int32)) (d : Nat)  (M : Nat → Nat → Int32) (L : Nat → Nat → Int64) : C E (d + 1) 70 [vR 1 7 70] (M, L) = (bV (C E d 71 [vR 1 7 70, vI (0 : Int32), vI (0 : Int32)] (M, L)) fun s1 => (if 0 ≤ (s1.1 70 6) then (bV (C E d 69 [vR 1 7 70, vI (2 : Int32), vI (0 : Int32)] s1) fun s2 => some (none, s2)) else (bI (C E d 68 [vR 1 7 70] s1) fun r3 s3 => (if r3 = (63 : Int32) then (bV (C E d 69 [vR 1 7 70, vI (3 : Int32), vI (0 : Int32)] ((u2 s3.1 70 5 ((s3.1 70 5) + (1 : Int32))), s3.2)) fun s4 => (bV (C E d 71 [vR 1 7 70, vI (0 : Int32), vI (0 : Int32)] s4) fun s5 => (bV (C E d 69 [vR 1 7 70, vI (2 : Int32), vI (0 : Int32)] s5) fun s6 => (if (128 : Int32) ≤ ((u2 s3.1 70 5 ((s3.1 70 5) + (1 : Int32))) 70 4) then some (none, s6) else (if ib ((u2 s3.1 70 5 ((s3.1 70 5) + (1 : Int32))) 70 4) 128 then some (none, ((u2 s6.1 73 (ix ((u2 s3.1 70 5 ((s3.1 70 5) + (1 : Int32))) 70 4)) (s6.1 70 4)), s6.2)) else none))))) else (bV (C E d 69 [vR 1 7 70, vI (2 : Int32), vI (0 : Int32)] s3) fun s7 => some (none, s7)))))) := by
  rw [C_of (q := me70) rfl rfl rfl rfl, X_go E d me70 [] 400]
  rfl
set_option maxRecDepth 100000 in
theorem x71 (E : Nat × (Nat → Int32)) (d : Nat) (p0 : Int32) (p1 : Int32) (M : Nat → Nat → Int32) (L : Nat → Nat → Int64) : C E (d + 1) 71 [vR 1 7 70, vI p0, vI p1] (M, L) = (if p0 < (5 : Int32) then (bV (C E d 71 [vR 1 7 70, vI (p0 + (1 : Int32)), vI p1] (M, L)) fun s1 => X E d me71 21 [some (vR 1 7 70), some (vI p0), some (vI p1), some (vI (0 : Int32)), none] [] s1) else (bV (C E d 72 [vR 1 7 70, vI p1] (M, L)) fun s2 => some (none, s2))) := by
  rw [C_of (q := me71) rfl rfl rfl rfl, X_go E d me71 [21] 400]
  rfl
set_option maxRecDepth 100000 in
theorem x71_21 (E : Nat × (Nat → Int32)) (d : Nat) (x1 : Int32) (x2 : Int32) (x3 : Int32) (w4 : Option PV) (M : Nat → Nat → Int32) (L : Nat → Nat → Int64) : X E d me71 21 [some (vR 1 7 70), some (vI x1), some (vI x2), some (vI x3), w4] [] (M, L) = (if (120 : Int32) ≤ x3 then some (none, (M, L)) else (if 0 ≤ (M 70 6) then some (none, (M, L)) else (bI (C E d 68 [vR 1 7 70] (M, L)) fun r3 s3 => (bI (C E d 77 [vI r3] s3) fun r4 s4 => (if r4 = x1 then (bI (C E d 68 [vR 1 7 70] s4) fun r5 s5 => (bV (C E d 71 [vR 1 7 70, vI (x1 + (1 : Int32)), vI x2] ((u2 s5.1 70 5 ((s5.1 70 5) + (1 : Int32))), s5.2)) fun s6 => (bV (C E d 69 [vR 1 7 70, vI r5, vI (0 : Int32)] s6) fun s7 => (if x1 = (2 : Int32) then some (none, s7) else X E d me71 21 [some (vR 1 7 70), some (vI x1), some (vI x2), some (vI (x3 + (1 : Int32))), some (vI r5)] [] s7)))) else some (none, s4)))))) := by
  rw [X_go E d me71 [21] 400]
  rfl
set_option maxRecDepth 100000 in
theorem x72 (E : Nat × (Nat → Int32)) (d : Nat) (p0 : Int32) (M : Nat → Nat → Int32) (L : Nat → Nat → Int64) : C E (d + 1) 72 [vR 1 7 70, vI p0] (M, L) = (bI (C E d 68 [vR 1 7 70] (M, L)) fun r1 s1 => (bI (C E d 75 [vI r1] s1) fun r2 s2 => (if r2 = 0 then (bI (C E d 76 [vI r1] s2) fun r3 s3 => (if r3 < 0 then (if r1 = (40 : Int32) then (if (6 : Int32) ≤ p0 then some (none, ((u2 s3.1 70 6 (s3.1 70 5)), s3.2)) else (if r1 = (40 : Int32) then (bV (C E d 73 [vR 1 7 70, vI (p0 + (1 : Int32))] ((u2 s3.1 70 5 ((s3.1 70 5) + (1 : Int32))), s3.2)) fun s4 => some (none, s4)) else (bV (C E d 72 [vR 1 7 70, vI (p0 + (1 : Int32))] ((u2 s3.1 70 5 ((s3.1 70 5) + (1 : Int32))), s3.2)) fun s5 => (if r1 = (33 : Int32) then (bV (C E d 69 [vR 1 7 70, vI (5 : Int32), vI (0 : Int32)] s5) fun s6 => some (none, s6)) else (bV (C E d 69 [vR 1 7 70, vI (4 : Int32), vI (0 : Int32)] s5) fun s7 => some (none, s7)))))) else (if r1 = (33 : Int32) then (if (6 : Int32) ≤ p0 then some (none, ((u2 s3.1 70 6 (s3.1 70 5)), s3.2)) else (if r1 = (40 : Int32) then (bV (C E d 73 [vR 1 7 70, vI (p0 + (1 : Int32))] ((u2 s3.1 70 5 ((s3.1 70 5) + (1 : Int32))), s3.2)) fun s8 => some (none, s8)) else (bV (C E d 72 [vR 1 7 70, vI (p0 + (1 : Int32))] ((u2 s3.1 70 5 ((s3.1 70 5) + (1 : Int32))), s3.2)) fun s9 => (if r1 = (33 : Int32) then (bV (C E d 69 [vR 1 7 70, vI (5 : Int32), vI (0 : Int32)] s9) fun s10 => some (none, s10)) else (bV (C E d 69 [vR 1 7 70, vI (4 : Int32), vI (0 : Int32)] s9) fun s11 => some (none, s11)))))) else (if r1 = (45 : Int32) then (if (6 : Int32) ≤ p0 then some (none, ((u2 s3.1 70 6 (s3.1 70 5)), s3.2)) else (if r1 = (40 : Int32) then (bV (C E d 73 [vR 1 7 70, vI (p0 + (1 : Int32))] ((u2 s3.1 70 5 ((s3.1 70 5) + (1 : Int32))), s3.2)) fun s12 => some (none, s12)) else (bV (C E d 72 [vR 1 7 70, vI (p0 + (1 : Int32))] ((u2 s3.1 70 5 ((s3.1 70 5) + (1 : Int32))), s3.2)) fun s13 => (if r1 = (33 : Int32) then (bV (C E d 69 [vR 1 7 70, vI (5 : Int32), vI (0 : Int32)] s13) fun s14 => some (none, s14)) else (bV (C E d 69 [vR 1 7 70, vI (4 : Int32), vI (0 : Int32)] s13) fun s15 => some (none, s15)))))) else some (none, ((u2 s3.1 70 6 (s3.1 70 5)), s3.2))))) else (bI (C E d 76 [vI r1] ((u2 s3.1 70 5 ((s3.1 70 5) + (1 : Int32))), s3.2)) fun r16 s16 => (bV (C E d 69 [vR 1 7 70, vI (1 : Int32), vI r16] s16) fun s17 => some (none, s17))))) else (bV (C E d 74 [vR 1 7 70] s2) fun s18 => some (none, s18))))) := by
  rw [C_of (q := me72) rfl rfl rfl rfl, X_go E d me72 [] 400]
  rfl
set_option maxRecDepth 100000 in
theorem x73 (E : Nat × (Nat → Int32)) (d : Nat) (p0 : Int32) (M : Nat → Nat → Int32) (L : Nat → Nat → Int64) : C E (d + 1) 73 [vR 1 7 70, vI p0] (M, L) = (bV (C E d 71 [vR 1 7 70, vI (0 : Int32), vI p0] (M, L)) fun s1 => (if 0 ≤ (s1.1 70 6) then some (none, s1) else (bI (C E d 68 [vR 1 7 70] s1) fun r2 s2 => (if r2 = (41 : Int32) then some (none, ((u2 s2.1 70 5 ((s2.1 70 5) + (1 : Int32))), s2.2)) else some (none, ((u2 s2.1 70 6 (s2.1 70 5)), s2.2)))))) := by
  rw [C_of (q := me73) rfl rfl rfl rfl, X_go E d me73 [] 400]
  rfl
set_option maxRecDepth 100000 in
theorem x74 (E : Nat × (Nat → Int32)) (d : Nat)  (M : Nat → Nat → Int32) (L : Nat → Nat → Int64) : C E (d + 1) 74 [vR 1 7 70] (M, L) = X E d me74 4 [some (vR 1 7 70), some (vI (0 : Int32)), some (vI (0 : Int32))] [] (M, L) := by
  rw [C_of (q := me74) rfl rfl rfl rfl, X_go E d me74 [4] 400]
  rfl
set_option maxRecDepth 100000 in
theorem x74_4 (E : Nat × (Nat → Int32)) (d : Nat) (x1 : Int32) (x2 : Int32) (M : Nat → Nat → Int32) (L : Nat → Nat → Int64) : X E d me74 4 [some (vR 1 7 70), some (vI x1), some (vI x2)] [] (M, L) = (if (4 : Int32) ≤ x2 then (bV (C E d 69 [vR 1 7 70, vI (0 : Int32), vI x1] (M, L)) fun s1 => some (none, s1)) else (bI (C E d 68 [vR 1 7 70] (M, L)) fun r2 s2 => (bI (C E d 75 [vI r2] s2) fun r3 s3 => (if r3 = 0 then (bV (C E d 69 [vR 1 7 70, vI (0 : Int32), vI x1] s3) fun s4 => some (none, s4)) else (bI (C E d 68 [vR 1 7 70] s3) fun r5 s5 => X E d me74 4 [some (vR 1 7 70), some (vI (((x1 * (10 : Int32)) + r5) - (48 : Int32))), some (vI (x2 + (1 : Int32)))] [] ((u2 s5.1 70 5 ((s5.1 70 5) + (1 : Int32))), s5.2)))))) := by
  rw [X_go E d me74 [4] 400]
  rfl
set_option maxRecDepth 100000 in
theorem x75 (E : Nat × (Nat → Int32)) (d : Nat) (p0 : Int32) (M : Nat → Nat → Int32) (L : Nat → Nat → Int64) : C E (d + 1) 75 [vI p0] (M, L) = (if p0 < (48 : Int32) then some (some (vI (0 : Int32)), (M, L)) else (if (57 : Int32) < p0 then some (some (vI (0 : Int32)), (M, L)) else some (some (vI (1 : Int32)), (M, L)))) := by
  rw [C_of (q := me75) rfl rfl rfl rfl, X_go E d me75 [] 400]
  rfl
set_option maxRecDepth 100000 in
theorem x76 (E : Nat × (Nat → Int32)) (d : Nat) (p0 : Int32) (M : Nat → Nat → Int32) (L : Nat → Nat → Int64) : C E (d + 1) 76 [vI p0] (M, L) = (if p0 = (97 : Int32) then some (some (vI (3 : Int32)), (M, L)) else (if p0 = (100 : Int32) then some (some (vI (4 : Int32)), (M, L)) else (if p0 = (104 : Int32) then some (some (vI (1 : Int32)), (M, L)) else (if p0 = (114 : Int32) then some (some (vI (2 : Int32)), (M, L)) else (if p0 = (115 : Int32) then some (some (vI (0 : Int32)), (M, L)) else (if p0 = (120 : Int32) then some (some (vI (5 : Int32)), (M, L)) else some (some (vI (-1 : Int32)), (M, L)))))))) := by
  rw [C_of (q := me76) rfl rfl rfl rfl, X_go E d me76 [] 400]
  rfl
set_option maxRecDepth 100000 in
theorem x77 (E : Nat × (Nat → Int32)) (d : Nat) (p0 : Int32) (M : Nat → Nat → Int32) (L : Nat → Nat → Int64) : C E (d + 1) 77 [vI p0] (M, L) = (if p0 = (37 : Int32) then some (some (vI (4 : Int32)), (M, L)) else (if p0 = (38 : Int32) then some (some (vI (1 : Int32)), (M, L)) else (if p0 = (42 : Int32) then some (some (vI (4 : Int32)), (M, L)) else (if p0 = (43 : Int32) then some (some (vI (3 : Int32)), (M, L)) else (if p0 = (45 : Int32) then some (some (vI (3 : Int32)), (M, L)) else (if p0 = (47 : Int32) then some (some (vI (4 : Int32)), (M, L)) else (if p0 = (60 : Int32) then some (some (vI (2 : Int32)), (M, L)) else (if p0 = (61 : Int32) then some (some (vI (2 : Int32)), (M, L)) else (if p0 = (62 : Int32) then some (some (vI (2 : Int32)), (M, L)) else (if p0 = (124 : Int32) then some (some (vI (0 : Int32)), (M, L)) else some (some (vI (-1 : Int32)), (M, L)))))))))))) := by
  rw [C_of (q := me77) rfl rfl rfl rfl, X_go E d me77 [] 400]
  rfl
set_option maxRecDepth 100000 in
theorem x78 (E : Nat × (Nat → Int32)) (d : Nat) (p0 : Int32) (M : Nat → Nat → Int32) (L : Nat → Nat → Int64) : C E (d + 1) 78 [vR 1 8 110, vI p0] (M, L) = (bV (C E d 25 [vR 1 2 140, vR 1 2 40] (M, L)) fun s1 => X E d me78 13 [some (vR 1 8 110), some (vI p0), some (vI (0 : Int32))] [] s1) := by
  rw [C_of (q := me78) rfl rfl rfl rfl, X_go E d me78 [13] 400]
  rfl
set_option maxRecDepth 100000 in
theorem x78_13 (E : Nat × (Nat → Int32)) (d : Nat) (x1 : Int32) (x2 : Int32) (M : Nat → Nat → Int32) (L : Nat → Nat → Int64) : X E d me78 13 [some (vR 1 8 110), some (vI x1), some (vI x2)] [] (M, L) = (if x1 ≤ x2 then some (some (vR 1 2 140), (M, L)) else (bV (C E d 28 [vR 1 2 140, vR 1 3 90] (M, L)) fun s2 => X E d me78 13 [some (vR 1 8 110), some (vI x1), some (vI (x2 + (1 : Int32)))] [] s2)) := by
  rw [X_go E d me78 [13] 400]
  rfl
set_option maxRecDepth 100000 in
theorem x79 (E : Nat × (Nat → Int32)) (d : Nat) (o0 : Nat) (p1 : Int32) (p2 : Int32) (M : Nat → Nat → Int32) (L : Nat → Nat → Int64) : C E (d + 1) 79 [vR 1 8 110, vR 1 2 o0, vI p1, vI p2] (M, L) = (bV (C E d 25 [vR 1 2 140, vR 1 2 o0] (M, L)) fun s1 => X E d me79 11 [some (vR 1 8 110), some (vR 1 2 o0), some (vI p1), some (vI p2), some (vI (0 : Int32))] [] s1) := by
  rw [C_of (q := me79) rfl rfl rfl rfl, X_go E d me79 [11] 400]
  rfl
set_option maxRecDepth 100000 in
theorem x79_11 (E : Nat × (Nat → Int32)) (d : Nat) (o0 : Nat) (x2 : Int32) (x3 : Int32) (x4 : Int32) (M : Nat → Nat → Int32) (L : Nat → Nat → Int64) : X E d me79 11 [some (vR 1 8 110), some (vR 1 2 o0), some (vI x2), some (vI x3), some (vI x4)] [] (M, L) = (if x3 ≤ x4 then (bI (C E d 22 [vR 1 2 140, vI x2, vI (1 : Int32)] (M, L)) fun r2 s2 => some (some (vI r2), s2)) else (bI (C E d 81 [vR 1 2 140, vI x2] (M, L)) fun r3 s3 => (if r3 = 0 then (bI (C E d 22 [vR 1 2 140, vI x2, vI (1 : Int32)] s3) fun r4 s4 => some (some (vI r4), s4)) else (bV (C E d 29 [vR 1 2 140, vI x2, vI (x2 + (1 : Int32)), vR 1 3 90] s3) fun s5 => X E d me79 11 [some (vR 1 8 110), some (vR 1 2 o0), some (vI x2), some (vI x3), some (vI (x4 + (1 : Int32)))] [] s5)))) := by
  rw [X_go E d me79 [11] 400]
  rfl
set_option maxRecDepth 100000 in
theorem x80 (E : Nat × (Nat → Int32)) (d : Nat) (o0 : Nat) (p1 : Int32) (M : Nat → Nat → Int32) (L : Nat → Nat → Int64) : C E (d + 1) 80 [vR 1 8 110, vR 1 2 o0, vI p1] (M, L) = (bV (C E d 25 [vR 1 2 140, vR 1 2 o0] (M, L)) fun s1 => X E d me80 10 [some (vR 1 8 110), some (vR 1 2 o0), some (vI p1), some (vI (0 : Int32))] [] s1) := by
  rw [C_of (q := me80) rfl rfl rfl rfl, X_go E d me80 [10] 400]
  rfl
set_option maxRecDepth 100000 in
theorem x80_10 (E : Nat × (Nat → Int32)) (d : Nat) (o0 : Nat) (x2 : Int32) (x3 : Int32) (M : Nat → Nat → Int32) (L : Nat → Nat → Int64) : X E d me80 10 [some (vR 1 8 110), some (vR 1 2 o0), some (vI x2), some (vI x3)] [] (M, L) = (if (60 : Int32) < x3 then some (some (vI (-2 : Int32)), (M, L)) else (bI (C E d 81 [vR 1 2 140, vI x2] (M, L)) fun r2 s2 => (if r2 = 0 then some (some (vI x3), s2) else (bV (C E d 29 [vR 1 2 140, vI x2, vI (x2 + (1 : Int32)), vR 1 3 90] s2) fun s3 => X E d me80 10 [some (vR 1 8 110), some (vR 1 2 o0), some (vI x2), some (vI (x3 + (1 : Int32)))] [] s3)))) := by
  rw [X_go E d me80 [10] 400]
  rfl
set_option maxRecDepth 100000 in
theorem x81 (E : Nat × (Nat → Int32)) (d : Nat) (o0 : Nat) (p1 : Int32) (M : Nat → Nat → Int32) (L : Nat → Nat → Int64) : C E (d + 1) 81 [vR 1 2 o0, vI p1] (M, L) = (bI (C E d 22 [vR 1 2 o0, vI p1, vI (1 : Int32)] (M, L)) fun r1 s1 => (if r1 ≤ 0 then some (some (vI (0 : Int32)), s1) else some (some (vI (1 : Int32)), s1))) := by
  rw [C_of (q := me81) rfl rfl rfl rfl, X_go E d me81 [] 400]
  rfl
set_option maxRecDepth 100000 in
theorem x82 (E : Nat × (Nat → Int32)) (d : Nat)  (M : Nat → Nat → Int32) (L : Nat → Nat → Int64) : C E (d + 1) 82 [vR 1 8 110] (M, L) = (bV (C E d 25 [vR 1 2 140, vR 1 2 40] (M, L)) fun s1 => X E d me82 13 [some (vR 1 8 110), some (vI (0 : Int32)), none] [] s1) := by
  rw [C_of (q := me82) rfl rfl rfl rfl, X_go E d me82 [13, 21] 400]
  rfl
set_option maxRecDepth 100000 in
theorem x82_13 (E : Nat × (Nat → Int32)) (d : Nat) (x1 : Int32) (w2 : Option PV) (M : Nat → Nat → Int32) (L : Nat → Nat → Int64) : X E d me82 13 [some (vR 1 8 110), some (vI x1), w2] [] (M, L) = (if (60 : Int32) < x1 then some (some (vI (-2 : Int32)), (M, L)) else X E d me82 21 [some (vR 1 8 110), some (vI x1), some (vI (0 : Int32))] [] (M, L)) := by
  rw [X_go E d me82 [13, 21] 400]
  rfl
set_option maxRecDepth 100000 in
theorem x82_21 (E : Nat × (Nat → Int32)) (d : Nat) (x1 : Int32) (x2 : Int32) (M : Nat → Nat → Int32) (L : Nat → Nat → Int64) : X E d me82 21 [some (vR 1 8 110), some (vI x1), some (vI x2)] [] (M, L) = (if (M 140 11) ≤ x2 then (bV (C E d 28 [vR 1 2 140, vR 1 3 90] (M, L)) fun s2 => X E d me82 13 [some (vR 1 8 110), some (vI (x1 + (1 : Int32))), some (vI x2)] [] s2) else (bI (C E d 81 [vR 1 2 140, vI x2] (M, L)) fun r3 s3 => (if r3 = 0 then some (some (vI x2), s3) else X E d me82 21 [some (vR 1 8 110), some (vI x1), some (vI (x2 + (1 : Int32)))] [] s3))) := by
  rw [X_go E d me82 [13, 21] 400]
  rfl
set_option maxRecDepth 100000 in
theorem x83 (E : Nat × (Nat → Int32)) (d : Nat) (p0 : Int32) (p1 : Int32) (M : Nat → Nat → Int32) (L : Nat → Nat → Int64) : C E (d + 1) 83 [vR 1 8 110, vI p0, vI p1] (M, L) = (bI (C E d 22 [vR 1 2 40, vI p0, vI (6 : Int32)] (M, L)) fun r1 s1 => (bV (C E d 25 [vR 1 2 140, vR 1 2 40] s1) fun s2 => X E d me83 25 [some (vR 1 8 110), some (vI p0), some (vI p1), some (vI r1), some (vI (0 : Int32))] [] s2)) := by
  rw [C_of (q := me83) rfl rfl rfl rfl, X_go E d me83 [25] 400]
  rfl
set_option maxRecDepth 100000 in
theorem x83_25 (E : Nat × (Nat → Int32)) (d : Nat) (x1 : Int32) (x2 : Int32) (x3 : Int32) (x4 : Int32) (M : Nat → Nat → Int32) (L : Nat → Nat → Int64) : X E d me83 25 [some (vR 1 8 110), some (vI x1), some (vI x2), some (vI x3), some (vI x4)] [] (M, L) = (if x2 ≤ x4 then (bI (C E d 22 [vR 1 2 140, vI x1, vI (3 : Int32)] (M, L)) fun r3 s3 => some (some (vI r3), s3)) else (bV (C E d 29 [vR 1 2 140, vI x3, vI (x3 + (1 : Int32)), vR 1 3 90] (M, L)) fun s4 => X E d me83 25 [some (vR 1 8 110), some (vI x1), some (vI x2), some (vI x3), some (vI (x4 + (1 : Int32)))] [] s4)) := by
  rw [X_go E d me83 [25] 400]
  rfl
set_option maxRecDepth 100000 in
theorem x84 (E : Nat × (Nat → Int32)) (d : Nat) (p0 : Int32) (M : Nat → Nat → Int32) (L : Nat → Nat → Int64) : C E (d + 1) 84 [vR 1 8 110, vI p0] (M, L) = (bI (C E d 22 [vR 1 2 40, vI p0, vI (6 : Int32)] (M, L)) fun r1 s1 => (bV (C E d 25 [vR 1 2 140, vR 1 2 40] s1) fun s2 => X E d me84 24 [some (vR 1 8 110), some (vI p0), some (vI r1), some (vI (0 : Int32))] [] s2)) := by
  rw [C_of (q := me84) rfl rfl rfl rfl, X_go E d me84 [24] 400]
  rfl
set_option maxRecDepth 100000 in
theorem x84_24 (E : Nat × (Nat → Int32)) (d : Nat) (x1 : Int32) (x2 : Int32) (x3 : Int32) (M : Nat → Nat → Int32) (L : Nat → Nat → Int64) : X E d me84 24 [some (vR 1 8 110), some (vI x1), some (vI x2), some (vI x3)] [] (M, L) = (if (60 : Int32) < x3 then some (some (vI (-2 : Int32)), (M, L)) else (bI (C E d 33 [vR 1 2 140, vI x1] (M, L)) fun r3 s3 => (if r3 ≤ 0 then (bV (C E d 29 [vR 1 2 140, vI x2, vI (x2 + (1 : Int32)), vR 1 3 90] s3) fun s4 => X E d me84 24 [some (vR 1 8 110), some (vI x1), some (vI x2), some (vI (x3 + (1 : Int32)))] [] s4) else some (some (vI x3), s3)))) := by
  rw [X_go E d me84 [24] 400]
  rfl
set_option maxRecDepth 100000 in
theorem x85 (E : Nat × (Nat → Int32)) (d : Nat) (p0 : Int32) (M : Nat → Nat → Int32) (L : Nat → Nat → Int64) : C E (d + 1) 85 [vR 1 8 110, vI p0] (M, L) = (bV (C E d 25 [vR 1 2 170, vR 1 2 40] (M, L)) fun s1 => X E d me85 13 [some (vR 1 8 110), some (vI p0), some (vI (0 : Int32))] [] s1) := by
  rw [C_of (q := me85) rfl rfl rfl rfl, X_go E d me85 [13] 400]
  rfl
set_option maxRecDepth 100000 in
theorem x85_13 (E : Nat × (Nat → Int32)) (d : Nat) (x1 : Int32) (x2 : Int32) (M : Nat → Nat → Int32) (L : Nat → Nat → Int64) : X E d me85 13 [some (vR 1 8 110), some (vI x1), some (vI x2)] [] (M, L) = (if (M 170 12) ≤ x2 then (bI (C E d 80 [vR 1 8 110, vR 1 2 170, vI x1] (M, L)) fun r2 s2 => some (some (vI r2), s2)) else (bI (C E d 22 [vR 1 2 170, vI x2, vI (6 : Int32)] (M, L)) fun r3 s3 => (if r3 = x1 then (bV (C E d 23 [vR 1 2 170, vI x2, vI (6 : Int32), vI (-1 : Int32)] s3) fun s4 => X E d me85 13 [some (vR 1 8 110), some (vI x1), some (vI (x2 + (1 : Int32)))] [] s4) else X E d me85 13 [some (vR 1 8 110), some (vI x1), some (vI (x2 + (1 : Int32)))] [] s3))) := by
  rw [X_go E d me85 [13] 400]
  rfl
set_option maxRecDepth 100000 in
theorem x86 (E : Nat × (Nat → Int32)) (d : Nat) (p0 : Int32) (M : Nat → Nat → Int32) (L : Nat → Nat → Int64) : C E (d + 1) 86 [vR 1 8 110, vI p0] (M, L) = (bV (C E d 25 [vR 1 2 170, vR 1 2 40] (M, L)) fun s1 => X E d me86 18 [some (vR 1 8 110), some (vI p0), some (vI (0 : Int32))] [] ((u2 s1.1 110 5 (0 : Int32)), s1.2)) := by
  rw [C_of (q := me86) rfl rfl rfl rfl, X_go E d me86 [18] 400]
  rfl
set_option maxRecDepth 100000 in
theorem x86_18 (E : Nat × (Nat → Int32)) (d : Nat) (x1 : Int32) (x2 : Int32) (M : Nat → Nat → Int32) (L : Nat → Nat → Int64) : X E d me86 18 [some (vR 1 8 110), some (vI x1), some (vI x2)] [] (M, L) = (if (M 40 11) ≤ x2 then some (none, ((u2 (u2 M 110 6 (M 110 5)) 110 7 (900 : Int32)), L)) else (if (8 : Int32) ≤ x2 then some (none, ((u2 (u2 M 110 6 (M 110 5)) 110 7 (900 : Int32)), L)) else (bI (C E d 79 [vR 1 8 110, vR 1 2 170, vI x2, vI x1] (M, L)) fun r2 s2 => (if ib x2 8 then (if ib x2 8 then (bI (C E d 89 [vI ((u2 s2.1 115 (ix x2) r2) 115 (ix x2))] ((u2 s2.1 115 (ix x2) r2), s2.2)) fun r3 s3 => X E d me86 18 [some (vR 1 8 110), some (vI x1), some (vI (x2 + (1 : Int32)))] [] ((u2 s3.1 110 5 (((u2 s2.1 115 (ix x2) r2) 110 5) + r3)), s3.2)) else none) else none)))) := by
  rw [X_go E d me86 [18] 400]
  rfl
set_option maxRecDepth 100000 in
theorem x87 (E : Nat × (Nat → Int32)) (d : Nat) (p0 : Int32) (p1 : Int32) (M : Nat → Nat → Int32) (L : Nat → Nat → Int64) : C E (d + 1) 87 [vR 1 8 110, vI p0, vI p1] (M, L) = (bI (C E d 22 [vR 1 2 40, vI p0, vI (6 : Int32)] (M, L)) fun r1 s1 => (bV (C E d 23 [vR 1 2 170, vI p0, vI (6 : Int32), vI (-1 : Int32)] s1) fun s2 => (bI (C E d 15 [vR 1 2 40, vI r1] s2) fun r3 s3 => (if r3 = 0 then X E d me87 70 [some (vR 1 8 110), some (vI p0), some (vI p1), some (vI r1), some (vI (s1.1 110 5)), some (vI (0 : Int32))] [] s3 else (bI (C E d 79 [vR 1 8 110, vR 1 2 170, vI r1, vI p1] s3) fun r4 s4 => (bI (C E d 89 [vI r4] s4) fun r5 s5 => (if ib r1 8 then (bI (C E d 89 [vI (s5.1 115 (ix r1))] s5) fun r6 s6 => X E d me87 70 [some (vR 1 8 110), some (vI p0), some (vI p1), some (vI r1), some (vI ((s1.1 110 5) + (r5 - r6))), some (vI (0 : Int32))] [] s6) else none))))))) := by
  rw [C_of (q := me87) rfl rfl rfl rfl, X_go E d me87 [70] 400]
  rfl
set_option maxRecDepth 100000 in
theorem x87_70 (E : Nat × (Nat → Int32)) (d : Nat) (x1 : Int32) (x2 : Int32) (x3 : Int32) (x4 : Int32) (x5 : Int32) (M : Nat → Nat → Int32) (L : Nat → Nat → Int64) : X E d me87 70 [some (vR 1 8 110), some (vI x1), some (vI x2), some (vI x3), some (vI x4), some (vI x5)] [] (M, L) = (if (M 40 11) ≤ x5 then (bV (C E d 88 [vR 1 8 110, vI x4, vI (((100 : Int32) * x1) + (8 : Int32))] (M, L)) fun s7 => (bV (C E d 23 [vR 1 2 170, vI x1, vI (6 : Int32), vI x3] s7) fun s8 => some (none, s8))) else (if (8 : Int32) ≤ x5 then (bV (C E d 88 [vR 1 8 110, vI x4, vI (((100 : Int32) * x1) + (8 : Int32))] (M, L)) fun s9 => (bV (C E d 23 [vR 1 2 170, vI x1, vI (6 : Int32), vI x3] s9) fun s10 => some (none, s10))) else (if x5 = x3 then X E d me87 70 [some (vR 1 8 110), some (vI x1), some (vI x2), some (vI x3), some (vI x4), some (vI (x5 + (1 : Int32)))] [] (M, L) else (bV (C E d 23 [vR 1 2 170, vI x1, vI (6 : Int32), vI x5] (M, L)) fun s11 => (bI (C E d 79 [vR 1 8 110, vR 1 2 170, vI x5, vI x2] s11) fun r12 s12 => (bI (C E d 89 [vI r12] s12) fun r13 s13 => (if ib x5 8 then (bI (C E d 89 [vI (s13.1 115 (ix x5))] s13) fun r14 s14 => (bV (C E d 88 [vR 1 8 110, vI ((x4 + r13) - r14), vI (((100 : Int32) * x1) + x5)] s14) fun s15 => X E d me87 70 [some (vR 1 8 110), some (vI x1), some (vI x2), some (vI x3), some (vI x4), some (vI (x5 + (1 : Int32)))] [] s15)) else none))))))) := by
  rw [X_go E d me87 [70] 400]
  rfl
set_option maxRecDepth 100000 in
theorem x88 (E : Nat × (Nat → Int32)) (d : Nat) (p0 : Int32) (p1 : Int32) (M : Nat → Nat → Int32) (L : Nat → Nat → Int64) : C E (d + 1) 88 [vR 1 8 110, vI p0, vI p1] (M, L) = (if p0 ≤ (M 110 6) then some (none, (M, L)) else some (none, ((u2 (u2 M 110 6 p0) 110 7 p1), L))) := by
  rw [C_of (q := me88) rfl rfl rfl rfl, X_go E d me88 [] 400]
  rfl
set_option maxRecDepth 100000 in
theorem x89 (E : Nat × (Nat → Int32)) (d : Nat) (p0 : Int32) (M : Nat → Nat → Int32) (L : Nat → Nat → Int64) : C E (d + 1) 89 [vI p0] (M, L) = (if p0 ≤ 0 then some (some (vI (0 : Int32)), (M, L)) else some (some (vI ((1000 : Int32) + p0)), (M, L))) := by
  rw [C_of (q := me89) rfl rfl rfl rfl, X_go E d me89 [] 400]
  rfl
set_option maxRecDepth 100000 in
theorem x90 (E : Nat × (Nat → Int32)) (d : Nat) (o0 : Nat) (p1 : Int32) (p3 : Int32) (M : Nat → Nat → Int32) (L : Nat → Nat → Int64) : C E (d + 1) 90 [vR 1 8 110, vR 1 2 o0, vI p1, vR 1 6 330, vI p3] (M, L) = (bV (C E d 25 [vR 1 2 140, vR 1 2 o0] (M, L)) fun s1 => (bI (C E d 51 [vR 1 6 330, vI p3] s1) fun r2 s2 => X E d me90 19 [some (vR 1 8 110), some (vR 1 2 o0), some (vI p1), some (vR 1 6 330), some (vI p3), some (vI r2), some (vI (0 : Int32))] [] s2)) := by
  rw [C_of (q := me90) rfl rfl rfl rfl, X_go E d me90 [19] 400]
  rfl
set_option maxRecDepth 100000 in
theorem x90_19 (E : Nat × (Nat → Int32)) (d : Nat) (o0 : Nat) (x2 : Int32) (x4 : Int32) (x5 : Int32) (x6 : Int32) (M : Nat → Nat → Int32) (L : Nat → Nat → Int64) : X E d me90 19 [some (vR 1 8 110), some (vR 1 2 o0), some (vI x2), some (vR 1 6 330), some (vI x4), some (vI x5), some (vI x6)] [] (M, L) = (if x5 ≤ x6 then some (some (vI (-2 : Int32)), (M, L)) else (bL (C E d 61 [vR 1 6 330, vI x4, vI x6] (M, L)) fun r3 s3 => (bI (C E d 22 [vR 1 2 140, vI x2, vI (1 : Int32)] s3) fun r4 s4 => (if (lg_cmp r3 (Int32.toInt64 r4)) = 0 then (bV (C E d 29 [vR 1 2 140, vI x2, vI (x2 + (1 : Int32)), vR 1 3 90] s4) fun s5 => X E d me90 19 [some (vR 1 8 110), some (vR 1 2 o0), some (vI x2), some (vR 1 6 330), some (vI x4), some (vI x5), some (vI (x6 + (1 : Int32)))] [] s5) else some (some (vI x6), s4))))) := by
  rw [X_go E d me90 [19] 400]
  rfl
set_option maxRecDepth 100000 in
theorem x91 (E : Nat × (Nat → Int32)) (d : Nat) (p0 : Int32) (p1 : Int32) (p2 : Int32) (p4 : Int32) (M : Nat → Nat → Int32) (L : Nat → Nat → Int64) : C E (d + 1) 91 [vR 1 8 110, vI p0, vI p1, vI p2, vR 1 6 330, vI p4] (M, L) = (if p1 = (3 : Int32) then (if p1 = (3 : Int32) then (bI (C E d 22 [vR 1 2 40, vI p0, vI (6 : Int32)] (M, L)) fun r1 s1 => (if r1 = p2 then (bV (C E d 25 [vR 1 2 170, vR 1 2 40] ((u2 (u2 s1.1 110 8 (0 : Int32)) 110 9 (-2 : Int32)), s1.2)) fun s2 => X E d me91 82 [some (vR 1 8 110), some (vI p0), some (vI p1), some (vI p2), some (vR 1 6 330), some (vI p4), some (vI (99 : Int32)), some (vI (1 : Int32)), some (vI (0 : Int32)), some (vI (99 : Int32))] [] s2) else (bV (C E d 25 [vR 1 2 170, vR 1 2 40] ((u2 (u2 s1.1 110 8 (0 : Int32)) 110 9 (-2 : Int32)), s1.2)) fun s3 => X E d me91 82 [some (vR 1 8 110), some (vI p0), some (vI p1), some (vI p2), some (vR 1 6 330), some (vI p4), some (vI (99 : Int32)), some (vI (0 : Int32)), some (vI (0 : Int32)), some (vI (99 : Int32))] [] s3))) else (if p0 = p2 then (bV (C E d 25 [vR 1 2 170, vR 1 2 40] ((u2 (u2 M 110 8 (0 : Int32)) 110 9 (-2 : Int32)), L)) fun s4 => X E d me91 82 [some (vR 1 8 110), some (vI p0), some (vI p1), some (vI p2), some (vR 1 6 330), some (vI p4), some (vI (99 : Int32)), some (vI (1 : Int32)), some (vI (0 : Int32)), some (vI (99 : Int32))] [] s4) else (bV (C E d 25 [vR 1 2 170, vR 1 2 40] ((u2 (u2 M 110 8 (0 : Int32)) 110 9 (-2 : Int32)), L)) fun s5 => X E d me91 82 [some (vR 1 8 110), some (vI p0), some (vI p1), some (vI p2), some (vR 1 6 330), some (vI p4), some (vI (99 : Int32)), some (vI (0 : Int32)), some (vI (0 : Int32)), some (vI (99 : Int32))] [] s5))) else (if p1 = (3 : Int32) then (bI (C E d 22 [vR 1 2 40, vI p0, vI (6 : Int32)] (M, L)) fun r6 s6 => (if r6 = p2 then (bV (C E d 25 [vR 1 2 170, vR 1 2 40] ((u2 (u2 s6.1 110 8 (0 : Int32)) 110 9 (-2 : Int32)), s6.2)) fun s7 => X E d me91 82 [some (vR 1 8 110), some (vI p0), some (vI p1), some (vI p2), some (vR 1 6 330), some (vI p4), some (vI (9 : Int32)), some (vI (1 : Int32)), some (vI (0 : Int32)), some (vI (9 : Int32))] [] s7) else (bV (C E d 25 [vR 1 2 170, vR 1 2 40] ((u2 (u2 s6.1 110 8 (0 : Int32)) 110 9 (-2 : Int32)), s6.2)) fun s8 => X E d me91 82 [some (vR 1 8 110), some (vI p0), some (vI p1), some (vI p2), some (vR 1 6 330), some (vI p4), some (vI (9 : Int32)), some (vI (0 : Int32)), some (vI (0 : Int32)), some (vI (9 : Int32))] [] s8))) else (if p0 = p2 then (bV (C E d 25 [vR 1 2 170, vR 1 2 40] ((u2 (u2 M 110 8 (0 : Int32)) 110 9 (-2 : Int32)), L)) fun s9 => X E d me91 82 [some (vR 1 8 110), some (vI p0), some (vI p1), some (vI p2), some (vR 1 6 330), some (vI p4), some (vI (9 : Int32)), some (vI (1 : Int32)), some (vI (0 : Int32)), some (vI (9 : Int32))] [] s9) else (bV (C E d 25 [vR 1 2 170, vR 1 2 40] ((u2 (u2 M 110 8 (0 : Int32)) 110 9 (-2 : Int32)), L)) fun s10 => X E d me91 82 [some (vR 1 8 110), some (vI p0), some (vI p1), some (vI p2), some (vR 1 6 330), some (vI p4), some (vI (9 : Int32)), some (vI (0 : Int32)), some (vI (0 : Int32)), some (vI (9 : Int32))] [] s10)))) := by
  rw [C_of (q := me91) rfl rfl rfl rfl, X_go E d me91 [82] 400]
  rfl
set_option maxRecDepth 100000 in
theorem x91_82 (E : Nat × (Nat → Int32)) (d : Nat) (x1 : Int32) (x2 : Int32) (x3 : Int32) (x5 : Int32) (x6 : Int32) (x7 : Int32) (x8 : Int32) (x9 : Int32) (M : Nat → Nat → Int32) (L : Nat → Nat → Int64) : X E d me91 82 [some (vR 1 8 110), some (vI x1), some (vI x2), some (vI x3), some (vR 1 6 330), some (vI x5), some (vI x6), some (vI x7), some (vI x8), some (vI x9)] [] (M, L) = (if x9 < 0 then some (none, (M, L)) else (if x9 = x6 then (bV (C E d 23 [vR 1 2 170, vI x1, vI x2, vI x9] (M, L)) fun s11 => (bI (C E d 90 [vR 1 8 110, vR 1 2 170, vI x3, vR 1 6 330, vI x5] s11) fun r12 s12 => (if r12 = (-2 : Int32) then X E d me91 82 [some (vR 1 8 110), some (vI x1), some (vI x2), some (vI x3), some (vR 1 6 330), some (vI x5), some (vI x6), some (vI x7), some (vI (1 : Int32)), some (vI (x9 + (Int32.ofInt (-1))))] [] ((u2 (u2 s12.1 110 8 ((s12.1 110 8) + (1 : Int32))) 110 9 x9), s12.2) else X E d me91 82 [some (vR 1 8 110), some (vI x1), some (vI x2), some (vI x3), some (vR 1 6 330), some (vI x5), some (vI x6), some (vI x7), some (vI (0 : Int32)), some (vI (x9 + (Int32.ofInt (-1))))] [] s12))) else (if x7 = 0 then (if x8 = 0 then X E d me91 82 [some (vR 1 8 110), some (vI x1), some (vI x2), some (vI x3), some (vR 1 6 330), some (vI x5), some (vI x6), some (vI x7), some (vI x8), some (vI (x9 + (Int32.ofInt (-1))))] [] (M, L) else X E d me91 82 [some (vR 1 8 110), some (vI x1), some (vI x2), some (vI x3), some (vR 1 6 330), some (vI x5), some (vI x6), some (vI x7), some (vI x8), some (vI (x9 + (Int32.ofInt (-1))))] [] ((u2 (u2 M 110 8 ((M 110 8) + (1 : Int32))) 110 9 x9), L)) else (bV (C E d 23 [vR 1 2 170, vI x1, vI x2, vI x9] (M, L)) fun s13 => (bI (C E d 90 [vR 1 8 110, vR 1 2 170, vI x3, vR 1 6 330, vI x5] s13) fun r14 s14 => (if r14 = (-2 : Int32) then X E d me91 82 [some (vR 1 8 110), some (vI x1), some (vI x2), some (vI x3), some (vR 1 6 330), some (vI x5), some (vI x6), some (vI x7), some (vI (1 : Int32)), some (vI (x9 + (Int32.ofInt (-1))))] [] ((u2 (u2 s14.1 110 8 ((s14.1 110 8) + (1 : Int32))) 110 9 x9), s14.2) else X E d me91 82 [some (vR 1 8 110), some (vI x1), some (vI x2), some (vI x3), some (vR 1 6 330), some (vI x5), some (vI x6), some (vI x7), some (vI (0 : Int32)), some (vI (x9 + (Int32.ofInt (-1))))] [] s14)))))) := by
  rw [X_go E d me91 [82] 400]
  rfl
set_option maxRecDepth 100000 in
theorem x92 (E : Nat × (Nat → Int32)) (d : Nat) (p0 : Int32) (p1 : Int32) (p2 : Int32) (p3 : Int32) (p4 : Int32) (M : Nat → Nat → Int32) (L : Nat → Nat → Int64) : C E (d + 1) 92 [vR 1 8 110, vI p0, vI p1, vI p2, vI p3, vI p4] (M, L) = (if p4 = (-1 : Int32) then (if p4 = (-1 : Int32) then X E d me92 45 [some (vR 1 8 110), some (vI p0), some (vI p1), some (vI p2), some (vI p3), some (vI p4), some (vI (-1 : Int32)), some (vI (M 40 11)), some (vI (0 : Int32)), some (vI p0), some (vI (0 : Int32)), none] [] (M, L) else X E d me92 45 [some (vR 1 8 110), some (vI p0), some (vI p1), some (vI p2), some (vI p3), some (vI p4), some (vI (-1 : Int32)), some (vI (p4 + (1 : Int32))), some (vI (0 : Int32)), some (vI p0), some (vI (0 : Int32)), none] [] (M, L)) else (if p4 = (-1 : Int32) then X E d me92 45 [some (vR 1 8 110), some (vI p0), some (vI p1), some (vI p2), some (vI p3), some (vI p4), some (vI p4), some (vI (M 40 11)), some (vI (0 : Int32)), some (vI p0), some (vI (0 : Int32)), none] [] (M, L) else X E d me92 45 [some (vR 1 8 110), some (vI p0), some (vI p1), some (vI p2), some (vI p3), some (vI p4), some (vI p4), some (vI (p4 + (1 : Int32))), some (vI (0 : Int32)), some (vI p0), some (vI (0 : Int32)), none] [] (M, L))) := by
  rw [C_of (q := me92) rfl rfl rfl rfl, X_go E d me92 [45, 65] 400]
  rfl
set_option maxRecDepth 100000 in
theorem x92_45 (E : Nat × (Nat → Int32)) (d : Nat) (x1 : Int32) (x2 : Int32) (x3 : Int32) (x4 : Int32) (x5 : Int32) (x6 : Int32) (x7 : Int32) (x8 : Int32) (x9 : Int32) (x10 : Int32) (w11 : Option PV) (M : Nat → Nat → Int32) (L : Nat → Nat → Int64) : X E d me92 45 [some (vR 1 8 110), some (vI x1), some (vI x2), some (vI x3), some (vI x4), some (vI x5), some (vI x6), some (vI x7), some (vI x8), some (vI x9), some (vI x10), w11] [] (M, L) = (if x2 ≤ x10 then some (some (vI x8), (M, L)) else (bV (C E d 25 [vR 1 2 140, vR 1 2 40] (M, L)) fun s1 => X E d me92 65 [some (vR 1 8 110), some (vI x1), some (vI x2), some (vI x3), some (vI x4), some (vI x5), some (vI x6), some (vI x7), some (vI x8), some (vI x9), some (vI x10), some (vI (0 : Int32))] [] s1)) := by
  rw [X_go E d me92 [45, 65] 400]
  rfl
set_option maxRecDepth 100000 in
theorem x92_65 (E : Nat × (Nat → Int32)) (d : Nat) (x1 : Int32) (x2 : Int32) (x3 : Int32) (x4 : Int32) (x5 : Int32) (x6 : Int32) (x7 : Int32) (x8 : Int32) (x9 : Int32) (x10 : Int32) (x11 : Int32) (M : Nat → Nat → Int32) (L : Nat → Nat → Int64) : X E d me92 65 [some (vR 1 8 110), some (vI x1), some (vI x2), some (vI x3), some (vI x4), some (vI x5), some (vI x6), some (vI x7), some (vI x8), some (vI x9), some (vI x10), some (vI x11)] [] (M, L) = (if x3 ≤ x11 then (bI (C E d 30 [vR 1 2 140] (M, L)) fun r2 s2 => (if x5 = (-1 : Int32) then (bI (C E d 250 [vI r2] s2) fun r3 s3 => X E d me92 45 [some (vR 1 8 110), some (vI x1), some (vI x2), some (vI x3), some (vI x4), some (vI x5), some (vI x6), some (vI x7), some (vI (x8 + r3)), some (vI x9), some (vI (x10 + (1 : Int32))), some (vI r2)] [] s3) else X E d me92 45 [some (vR 1 8 110), some (vI x1), some (vI x2), some (vI x3), some (vI x4), some (vI x5), some (vI x6), some (vI x7), some (vI (x8 + ((r2 >>> (x5 &&& 31)) &&& (1 : Int32)))), some (vI x9), some (vI (x10 + (1 : Int32))), some (vI r2)] [] s2)) else (if x4 ≤ (rm32 (us32 ((x9 * (1103515245 : Int32)) + (12345 : Int32)) (24 : Int32)) (12 : Int32)) then (bV (C E d 29 [vR 1 2 140, vI x6, vI x7, vR 1 3 90] (M, L)) fun s4 => X E d me92 65 [some (vR 1 8 110), some (vI x1), some (vI x2), some (vI x3), some (vI x4), some (vI x5), some (vI x6), some (vI x7), some (vI x8), some (vI ((x9 * (1103515245 : Int32)) + (12345 : Int32))), some (vI x10), some (vI (x11 + (1 : Int32)))] [] s4) else (if (M 140 12) ≤ 0 then (bV (C E d 29 [vR 1 2 140, vI x6, vI x7, vR 1 3 90] (M, L)) fun s5 => X E d me92 65 [some (vR 1 8 110), some (vI x1), some (vI x2), some (vI x3), some (vI x4), some (vI x5), some (vI x6), some (vI x7), some (vI x8), some (vI ((x9 * (1103515245 : Int32)) + (12345 : Int32))), some (vI x10), some (vI (x11 + (1 : Int32)))] [] s5) else (if (M 140 12) = 0 then none else (bI (C E d 24 [vR 1 2 140, vI (rm32 (us32 ((x9 * (1103515245 : Int32)) + (12345 : Int32)) (8 : Int32)) (M 140 12)), vI (3 : Int32), vI (rm32 (us32 ((x9 * (1103515245 : Int32)) + (12345 : Int32)) (16 : Int32)) (30 : Int32))] (M, L)) fun r6 s6 => (bV (C E d 29 [vR 1 2 140, vI x6, vI x7, vR 1 3 90] s6) fun s7 => X E d me92 65 [some (vR 1 8 110), some (vI x1), some (vI x2), some (vI x3), some (vI x4), some (vI x5), some (vI x6), some (vI x7), some (vI x8), some (vI ((x9 * (1103515245 : Int32)) + (12345 : Int32))), some (vI x10), some (vI (x11 + (1 : Int32)))] [] s7)))))) := by
  rw [X_go E d me92 [45, 65] 400]
  rfl
set_option maxRecDepth 100000 in
theorem x93 (E : Nat × (Nat → Int32)) (d : Nat) (o0 : Nat) (p1 : Int32) (p2 : Int32) (p3 : Int32) (M : Nat → Nat → Int32) (L : Nat → Nat → Int64) : C E (d + 1) 93 [vR 1 9 200, vR 1 2 o0, vI p1, vI p2, vI p3] (M, L) = (bV (C E d 25 [vR 1 2 210, vR 1 2 o0] (M, L)) fun s1 => some (none, ((u2 (u2 (u2 (u2 s1.1 200 2 p1) 200 3 p3) 200 4 p2) 200 5 (9 : Int32)), s1.2))) := by
  rw [C_of (q := me93) rfl rfl rfl rfl, X_go E d me93 [] 400]
  rfl
set_option maxRecDepth 100000 in
theorem x94 (E : Nat × (Nat → Int32)) (d : Nat) (p0 : Int32) (p1 : Int32) (p2 : Int32) (M : Nat → Nat → Int32) (L : Nat → Nat → Int64) : C E (d + 1) 94 [vR 1 9 200, vI p0, vI p1, vI p2] (M, L) = (if 0 < p0 then (if (rm32 ((M 200 4) - p0) (2 : Int32)) = 0 then (bI (C E d 95 [vR 1 9 200, vI p0, vI p1, vI p2] (M, L)) fun r1 s1 => some (some (vI r1), s1)) else (bI (C E d 96 [vR 1 9 200, vI p0, vI p1, vI p2] (M, L)) fun r2 s2 => some (some (vI r2), s2))) else (bI (C E d 79 [vR 1 8 110, vR 1 2 210, vI (M 200 2), vI (M 200 3)] (M, L)) fun r3 s3 => some (some (vI r3), s3))) := by
  rw [C_of (q := me94) rfl rfl rfl rfl, X_go E d me94 [] 400]
  rfl
set_option maxRecDepth 100000 in
theorem x95 (E : Nat × (Nat → Int32)) (d : Nat) (p0 : Int32) (p1 : Int32) (p2 : Int32) (M : Nat → Nat → Int32) (L : Nat → Nat → Int64) : C E (d + 1) 95 [vR 1 9 200, vI p0, vI p1, vI p2] (M, L) = (bI (C E d 94 [vR 1 9 200, vI (p0 - (1 : Int32)), vI p1, vI p2] (M, L)) fun r1 s1 => X E d me95 18 [some (vR 1 9 200), some (vI p0), some (vI p1), some (vI p2), some (vI r1), some (vI (9 : Int32)), some (vI (0 : Int32)), none, none] [] s1) := by
  rw [C_of (q := me95) rfl rfl rfl rfl, X_go E d me95 [18] 400]
  rfl
set_option maxRecDepth 100000 in
theorem x95_18 (E : Nat × (Nat → Int32)) (d : Nat) (x1 : Int32) (x2 : Int32) (x3 : Int32) (x4 : Int32) (x5 : Int32) (x6 : Int32) (w7 : Option PV) (w8 : Option PV) (M : Nat → Nat → Int32) (L : Nat → Nat → Int64) : X E d me95 18 [some (vR 1 9 200), some (vI x1), some (vI x2), some (vI x3), some (vI x4), some (vI x5), some (vI x6), w7, w8] [] (M, L) = (if (M 210 12) ≤ x6 then (if x1 = (M 200 4) then some (some (vI x4), ((u2 M 200 5 x5), L)) else some (some (vI x4), (M, L))) else (if x3 ≤ x4 then (if x1 = (M 200 4) then some (some (vI x4), ((u2 M 200 5 x5), L)) else some (some (vI x4), (M, L))) else (bI (C E d 22 [vR 1 2 210, vI x6, vI (6 : Int32)] (M, L)) fun r2 s2 => (if r2 = (s2.1 200 2) then X E d me95 18 [some (vR 1 9 200), some (vI x1), some (vI x2), some (vI x3), some (vI x4), some (vI x5), some (vI (x6 + (1 : Int32))), some (vI r2), w8] [] s2 else (bV (C E d 23 [vR 1 2 210, vI x6, vI (6 : Int32), vI (s2.1 200 2)] s2) fun s3 => (bI (C E d 998 [vI x2, vI x4] s3) fun r4 s4 => (bI (C E d 94 [vR 1 9 200, vI (x1 - (1 : Int32)), vI r4, vI x3] s4) fun r5 s5 => (bV (C E d 23 [vR 1 2 210, vI x6, vI (6 : Int32), vI r2] s5) fun s6 => (if r5 ≤ x4 then X E d me95 18 [some (vR 1 9 200), some (vI x1), some (vI x2), some (vI x3), some (vI x4), some (vI x5), some (vI (x6 + (1 : Int32))), some (vI r2), some (vI r5)] [] s6 else X E d me95 18 [some (vR 1 9 200), some (vI x1), some (vI x2), some (vI x3), some (vI r5), some (vI x6), some (vI (x6 + (1 : Int32))), some (vI r2), some (vI r5)] [] s6))))))))) := by
  rw [X_go E d me95 [18] 400]
  rfl
set_option maxRecDepth 100000 in
theorem x96 (E : Nat × (Nat → Int32)) (d : Nat) (p0 : Int32) (p1 : Int32) (p2 : Int32) (M : Nat → Nat → Int32) (L : Nat → Nat → Int64) : C E (d + 1) 96 [vR 1 9 200, vI p0, vI p1, vI p2] (M, L) = (bI (C E d 94 [vR 1 9 200, vI (p0 - (1 : Int32)), vI p1, vI p2] (M, L)) fun r1 s1 => X E d me96 14 [some (vR 1 9 200), some (vI p0), some (vI p1), some (vI p2), some (vI r1), some (vI (0 : Int32)), none] [] s1) := by
  rw [C_of (q := me96) rfl rfl rfl rfl, X_go E d me96 [14] 400]
  rfl
set_option maxRecDepth 100000 in
theorem x96_14 (E : Nat × (Nat → Int32)) (d : Nat) (x1 : Int32) (x2 : Int32) (x3 : Int32) (x4 : Int32) (x5 : Int32) (w6 : Option PV) (M : Nat → Nat → Int32) (L : Nat → Nat → Int64) : X E d me96 14 [some (vR 1 9 200), some (vI x1), some (vI x2), some (vI x3), some (vI x4), some (vI x5), w6] [] (M, L) = (if (M 210 12) ≤ x5 then some (some (vI x4), (M, L)) else (if x4 ≤ x2 then some (some (vI x4), (M, L)) else (bI (C E d 22 [vR 1 2 210, vI x5, vI (3 : Int32)] (M, L)) fun r2 s2 => (if (99 : Int32) ≤ r2 then X E d me96 14 [some (vR 1 9 200), some (vI x1), some (vI x2), some (vI x3), some (vI x4), some (vI (x5 + (1 : Int32))), some (vI r2)] [] s2 else (bI (C E d 24 [vR 1 2 210, vI x5, vI (3 : Int32), vI (20 : Int32)] s2) fun r3 s3 => (bI (C E d 997 [vI x3, vI x4] s3) fun r4 s4 => (bI (C E d 94 [vR 1 9 200, vI (x1 - (1 : Int32)), vI x2, vI r4] s4) fun r5 s5 => (bI (C E d 997 [vI x4, vI r5] s5) fun r6 s6 => (bV (C E d 23 [vR 1 2 210, vI x5, vI (3 : Int32), vI r2] s6) fun s7 => X E d me96 14 [some (vR 1 9 200), some (vI x1), some (vI x2), some (vI x3), some (vI r6), some (vI (x5 + (1 : Int32))), some (vI r2)] [] s7))))))))) := by
  rw [X_go E d me96 [14] 400]
  rfl
set_option maxRecDepth 100000 in
theorem x97 (E : Nat × (Nat → Int32)) (d : Nat) (p0 : Int32) (p1 : Int32) (M : Nat → Nat → Int32) (L : Nat → Nat → Int64) : C E (d + 1) 97 [vR 1 10 250, vI p0, vI p1] (M, L) = (bI (C E d 145 [vI p0, vI (0 : Int32), vI (7 : Int32)] (M, L)) fun r1 s1 => (if r1 = 0 then some (some (vI (-1 : Int32)), s1) else (bI (C E d 145 [vI p1, vI (0 : Int32), vI (7 : Int32)] s1) fun r2 s2 => (if r2 = 0 then some (some (vI (-1 : Int32)), s2) else (bV (C E d 252 [vR 2 8 252, vI (1000000 : Int32)] s2) fun s3 => (if ib p0 8 then (bI (C E d 30 [vR 1 2 40] ((u2 s3.1 252 (ix p0) (0 : Int32)), s3.2)) fun r4 s4 => X E d me97 49 [some (vR 1 10 250), some (vI p0), some (vI p1), some (vI r4), some (vI (1 : Int32)), none] [] s4) else none)))))) := by
  rw [C_of (q := me97) rfl rfl rfl rfl, X_go E d me97 [49, 59] 400]
  rfl
set_option maxRecDepth 100000 in
theorem x97_49 (E : Nat × (Nat → Int32)) (d : Nat) (x1 : Int32) (x2 : Int32) (x3 : Int32) (x4 : Int32) (w5 : Option PV) (M : Nat → Nat → Int32) (L : Nat → Nat → Int64) : X E d me97 49 [some (vR 1 10 250), some (vI x1), some (vI x2), some (vI x3), some (vI x4), w5] [] (M, L) = (if (8 : Int32) ≤ x4 then (if ib x2 8 then (if (M 252 (ix x2)) < (1000000 : Int32) then (if ib x2 8 then some (some (vI (M 252 (ix x2))), (M, L)) else none) else some (some (vI (-1 : Int32)), (M, L))) else none) else X E d me97 59 [some (vR 1 10 250), some (vI x1), some (vI x2), some (vI x3), some (vI x4), some (vI (0 : Int32))] [] (M, L)) := by
  rw [X_go E d me97 [49, 59] 400]
  rfl
set_option maxRecDepth 100000 in
theorem x97_59 (E : Nat × (Nat → Int32)) (d : Nat) (x1 : Int32) (x2 : Int32) (x3 : Int32) (x4 : Int32) (x5 : Int32) (M : Nat → Nat → Int32) (L : Nat → Nat → Int64) : X E d me97 59 [some (vR 1 10 250), some (vI x1), some (vI x2), some (vI x3), some (vI x4), some (vI x5)] [] (M, L) = (if (M 40 11) ≤ x5 then X E d me97 49 [some (vR 1 10 250), some (vI x1), some (vI x2), some (vI x3), some (vI (x4 + (1 : Int32))), some (vI x5)] [] (M, L) else (if ((x3 >>> (x5 &&& 31)) &&& (1 : Int32)) = 0 then X E d me97 59 [some (vR 1 10 250), some (vI x1), some (vI x2), some (vI x3), some (vI x4), some (vI (x5 + (1 : Int32)))] [] (M, L) else (bV (C E d 98 [vR 1 10 250, vI x5] (M, L)) fun s5 => X E d me97 59 [some (vR 1 10 250), some (vI x1), some (vI x2), some (vI x3), some (vI x4), some (vI (x5 + (1 : Int32)))] [] s5))) := by
  rw [X_go E d me97 [49, 59] 400]
  rfl
set_option maxRecDepth 100000 in
theorem x98 (E : Nat × (Nat → Int32)) (d : Nat) (p0 : Int32) (M : Nat → Nat → Int32) (L : Nat → Nat → Int64) : C E (d + 1) 98 [vR 1 10 250, vI p0] (M, L) = (bI (C E d 22 [vR 1 2 40, vI p0, vI (9 : Int32)] (M, L)) fun r1 s1 => (bI (C E d 22 [vR 1 2 40, vI p0, vI (10 : Int32)] s1) fun r2 s2 => (bI (C E d 22 [vR 1 2 40, vI p0, vI (0 : Int32)] s2) fun r3 s3 => (bI (C E d 145 [vI r1, vI (0 : Int32), vI (7 : Int32)] s3) fun r4 s4 => (if r4 = 0 then some (none, s4) else (bI (C E d 145 [vI r2, vI (0 : Int32), vI (7 : Int32)] s4) fun r5 s5 => (if r5 = 0 then some (none, s5) else (if ib r2 8 then (if ib r1 8 then (bI (C E d 997 [vI (s5.1 252 (ix r2)), vI ((s5.1 252 (ix r1)) + ((r3 * (100 : Int32)) + (1 : Int32)))] s5) fun r6 s6 => (if ib r2 8 then (if ib r1 8 then (if ib r2 8 then (bI (C E d 997 [vI ((u2 s6.1 252 (ix r2) r6) 252 (ix r1)), vI (((u2 s6.1 252 (ix r2) r6) 252 (ix r2)) + ((r3 * (100 : Int32)) + (1 : Int32)))] ((u2 s6.1 252 (ix r2) r6), s6.2)) fun r7 s7 => (if ib r1 8 then some (none, ((u2 s7.1 252 (ix r1) r7), s7.2)) else none)) else none) else none) else none)) else none) else none)))))))) := by
  rw [C_of (q := me98) rfl rfl rfl rfl, X_go E d me98 [] 400]
  rfl
set_option maxRecDepth 100000 in
theorem x99 (E : Nat × (Nat → Int32)) (d : Nat) (p0 : Int32) (p1 : Int32) (p2 : Int32) (M : Nat → Nat → Int32) (L : Nat → Nat → Int64) : C E (d + 1) 99 [vR 1 10 250, vI p0, vI p1, vI p2] (M, L) = X E d me99 8 [some (vR 1 10 250), some (vI p0), some (vI p1), some (vI p2), some (vI ((1 : Int32) <<< (p0 &&& 31))), some (vI (1 : Int32)), none, none, none] [] (M, L) := by
  rw [C_of (q := me99) rfl rfl rfl rfl, X_go E d me99 [8, 22] 400]
  rfl
set_option maxRecDepth 100000 in
theorem x99_8 (E : Nat × (Nat → Int32)) (d : Nat) (x1 : Int32) (x2 : Int32) (x3 : Int32) (x4 : Int32) (x5 : Int32) (w6 : Option PV) (w7 : Option PV) (w8 : Option PV) (M : Nat → Nat → Int32) (L : Nat → Nat → Int64) : X E d me99 8 [some (vR 1 10 250), some (vI x1), some (vI x2), some (vI x3), some (vI x4), some (vI x5), w6, w7, w8] [] (M, L) = (if (8 : Int32) ≤ x5 then (if ((x4 >>> (x2 &&& 31)) &&& (1 : Int32)) = 0 then some (some (vI (0 : Int32)), (M, L)) else some (some (vI (1 : Int32)), (M, L))) else X E d me99 22 [some (vR 1 10 250), some (vI x1), some (vI x2), some (vI x3), some (vI x4), some (vI x5), some (vI x4), some (vI (0 : Int32)), w8] [] (M, L)) := by
  rw [X_go E d me99 [8, 22] 400]
  rfl
set_option maxRecDepth 100000 in
theorem x99_22 (E : Nat × (Nat → Int32)) (d : Nat) (x1 : Int32) (x2 : Int32) (x3 : Int32) (x4 : Int32) (x5 : Int32) (x6 : Int32) (x7 : Int32) (w8 : Option PV) (M : Nat → Nat → Int32) (L : Nat → Nat → Int64) : X E d me99 22 [some (vR 1 10 250), some (vI x1), some (vI x2), some (vI x3), some (vI x4), some (vI x5), some (vI x6), some (vI x7), w8] [] (M, L) = (if (M 40 11) ≤ x7 then (if x4 = x6 then (if ((x4 >>> (x2 &&& 31)) &&& (1 : Int32)) = 0 then some (some (vI (0 : Int32)), (M, L)) else some (some (vI (1 : Int32)), (M, L))) else X E d me99 8 [some (vR 1 10 250), some (vI x1), some (vI x2), some (vI x3), some (vI x4), some (vI (x5 + (1 : Int32))), some (vI x6), some (vI x7), w8] [] (M, L)) else (bI (C E d 22 [vR 1 2 40, vI x7, vI (9 : Int32)] (M, L)) fun r1 s1 => (bI (C E d 22 [vR 1 2 40, vI x7, vI (10 : Int32)] s1) fun r2 s2 => (if ((x3 >>> (x7 &&& 31)) &&& (1 : Int32)) = 0 then X E d me99 22 [some (vR 1 10 250), some (vI x1), some (vI x2), some (vI x3), some (vI x4), some (vI x5), some (vI x6), some (vI (x7 + (1 : Int32))), some (vI (((1 : Int32) <<< (r1 &&& 31)) ||| ((1 : Int32) <<< (r2 &&& 31))))] [] s2 else (if (x4 &&& (((1 : Int32) <<< (r1 &&& 31)) ||| ((1 : Int32) <<< (r2 &&& 31)))) = 0 then X E d me99 22 [some (vR 1 10 250), some (vI x1), some (vI x2), some (vI x3), some (vI x4), some (vI x5), some (vI x6), some (vI (x7 + (1 : Int32))), some (vI (((1 : Int32) <<< (r1 &&& 31)) ||| ((1 : Int32) <<< (r2 &&& 31))))] [] s2 else X E d me99 22 [some (vR 1 10 250), some (vI x1), some (vI x2), some (vI x3), some (vI (x4 ||| (((1 : Int32) <<< (r1 &&& 31)) ||| ((1 : Int32) <<< (r2 &&& 31))))), some (vI x5), some (vI x6), some (vI (x7 + (1 : Int32))), some (vI (((1 : Int32) <<< (r1 &&& 31)) ||| ((1 : Int32) <<< (r2 &&& 31))))] [] s2))))) := by
  rw [X_go E d me99 [8, 22] 400]
  rfl
set_option maxRecDepth 100000 in
theorem x100 (E : Nat × (Nat → Int32)) (d : Nat) (p0 : Int32) (p1 : Int32) (M : Nat → Nat → Int32) (L : Nat → Nat → Int64) : C E (d + 1) 100 [vR 1 10 250, vI p0, vI p1] (M, L) = (bI (C E d 30 [vR 1 2 40] (M, L)) fun r1 s1 => X E d me100 18 [some (vR 1 10 250), some (vI p0), some (vI p1), some (vI r1), some (vI r1), some (vI (9 : Int32)), some (vI (0 : Int32)), none] [] s1) := by
  rw [C_of (q := me100) rfl rfl rfl rfl, X_go E d me100 [18] 400]
  rfl
set_option maxRecDepth 100000 in
theorem x100_18 (E : Nat × (Nat → Int32)) (d : Nat) (x1 : Int32) (x2 : Int32) (x3 : Int32) (x4 : Int32) (x5 : Int32) (x6 : Int32) (w7 : Option PV) (M : Nat → Nat → Int32) (L : Nat → Nat → Int64) : X E d me100 18 [some (vR 1 10 250), some (vI x1), some (vI x2), some (vI x3), some (vI x4), some (vI x5), some (vI x6), w7] [] (M, L) = (if x3 < x6 then some (some (vI x4), (M, L)) else (if (x6 &&& (x3 ^^^ (-1 : Int32))) = 0 then (bI (C E d 250 [vI x6] (M, L)) fun r2 s2 => (if x5 ≤ r2 then X E d me100 18 [some (vR 1 10 250), some (vI x1), some (vI x2), some (vI x3), some (vI x4), some (vI x5), some (vI (x6 + (1 : Int32))), some (vI (0 : Int32))] [] s2 else (bI (C E d 99 [vR 1 10 250, vI x1, vI x2, vI (x3 &&& (x6 ^^^ (-1 : Int32)))] s2) fun r3 s3 => (if r3 = 0 then (bI (C E d 250 [vI x6] s3) fun r4 s4 => X E d me100 18 [some (vR 1 10 250), some (vI x1), some (vI x2), some (vI x3), some (vI x6), some (vI r4), some (vI (x6 + (1 : Int32))), some (vI (1 : Int32))] [] s4) else X E d me100 18 [some (vR 1 10 250), some (vI x1), some (vI x2), some (vI x3), some (vI x4), some (vI x5), some (vI (x6 + (1 : Int32))), some (vI (1 : Int32))] [] s3)))) else X E d me100 18 [some (vR 1 10 250), some (vI x1), some (vI x2), some (vI x3), some (vI x4), some (vI x5), some (vI (x6 + (1 : Int32))), some (vI (0 : Int32))] [] (M, L))) := by
  rw [X_go E d me100 [18] 400]
  rfl
set_option maxRecDepth 100000 in
theorem x101 (E : Nat × (Nat → Int32)) (d : Nat)  (M : Nat → Nat → Int32) (L : Nat → Nat → Int64) : C E (d + 1) 101 [vR 1 10 250] (M, L) = (bI (C E d 30 [vR 1 2 40] (M, L)) fun r1 s1 => X E d me101 12 [some (vR 1 10 250), some (vI r1), some (vI (0 : Int32)), some (vI (0 : Int32)), none] [] s1) := by
  rw [C_of (q := me101) rfl rfl rfl rfl, X_go E d me101 [12] 400]
  rfl
set_option maxRecDepth 100000 in
theorem x101_12 (E : Nat × (Nat → Int32)) (d : Nat) (x1 : Int32) (x2 : Int32) (x3 : Int32) (w4 : Option PV) (M : Nat → Nat → Int32) (L : Nat → Nat → Int64) : X E d me101 12 [some (vR 1 10 250), some (vI x1), some (vI x2), some (vI x3), w4] [] (M, L) = (if (M 40 11) ≤ x3 then some (some (vI x2), (M, L)) else (if (x1 &&& ((1 : Int32) <<< (x3 &&& 31))) = 0 then X E d me101 12 [some (vR 1 10 250), some (vI x1), some (vI x2), some (vI (x3 + (1 : Int32))), some (vI ((1 : Int32) <<< (x3 &&& 31)))] [] (M, L) else (bI (C E d 22 [vR 1 2 40, vI x3, vI (9 : Int32)] (M, L)) fun r2 s2 => (bI (C E d 22 [vR 1 2 40, vI x3, vI (10 : Int32)] s2) fun r3 s3 => (bI (C E d 99 [vR 1 10 250, vI r2, vI r3, vI (x1 &&& (((1 : Int32) <<< (x3 &&& 31)) ^^^ (-1 : Int32)))] s3) fun r4 s4 => (if r4 = 0 then X E d me101 12 [some (vR 1 10 250), some (vI x1), some (vI (x2 ||| ((1 : Int32) <<< (x3 &&& 31)))), some (vI (x3 + (1 : Int32))), some (vI ((1 : Int32) <<< (x3 &&& 31)))] [] s4 else X E d me101 12 [some (vR 1 10 250), some (vI x1), some (vI x2), some (vI (x3 + (1 : Int32))), some (vI ((1 : Int32) <<< (x3 &&& 31)))] [] s4)))))) := by
  rw [X_go E d me101 [12] 400]
  rfl
end
section
/-! printed by wip/whole/sym.py: what each method does, as a tree; closed by rfl -/
set_option maxRecDepth 100000 in
theorem x102 (E : Nat × (Nat → Int32)) (d : Nat) (p0 : Int32) (p1 : Int32) (M : Nat → Nat → Int32) (L : Nat → Nat → Int64) : C E (d + 1) 102 [vR 1 11 10, vI p0, vI p1] (M, L) = (bI (C E d 146 [vI p0] (M, L)) fun r1 s1 => (if r1 = 0 then some (some (vI (-1 : Int32)), s1) else (bI (C E d 20 [vR 1 2 40, vI (0 : Int32), vI p1] s1) fun r2 s2 => (if r2 = 0 then some (some (vI (-1 : Int32)), s2) else (bI (C E d 17 [vR 1 2 40, vI (p0 / (10 : Int32)), vI (rm32 p0 (10 : Int32)), vI p1] s2) fun r3 s3 => some (some (vI r3), s3)))))) := by
  rw [C_of (q := me102) rfl rfl rfl rfl, X_go E d me102 [] 400]
  rfl
set_option maxRecDepth 100000 in
theorem x103 (E : Nat × (Nat → Int32)) (d : Nat) (p0 : Int32) (p1 : Int32) (M : Nat → Nat → Int32) (L : Nat → Nat → Int64) : C E (d + 1) 103 [vR 1 11 10, vI p0, vI p1] (M, L) = (bI (C E d 20 [vR 1 2 40, vI (4 : Int32), vI p0] (M, L)) fun r1 s1 => (if r1 = 0 then some (some (vI (-1 : Int32)), s1) else (bI (C E d 20 [vR 1 2 40, vI (5 : Int32), vI p1] s1) fun r2 s2 => (if r2 = 0 then some (some (vI (-1 : Int32)), s2) else (bI (C E d 18 [vR 1 2 40, vI (0 : Int32), vI p0, vI p1, vI (-1 : Int32)] s2) fun r3 s3 => some (some (vI r3), s3)))))) := by
  rw [C_of (q := me103) rfl rfl rfl rfl, X_go E d me103 [] 400]
  rfl
set_option maxRecDepth 100000 in
theorem x104 (E : Nat × (Nat → Int32)) (d : Nat) (p0 : Int32) (p1 : Int32) (p2 : Int32) (M : Nat → Nat → Int32) (L : Nat → Nat → Int64) : C E (d + 1) 104 [vR 1 11 10, vI p0, vI p1, vI p2] (M, L) = (bI (C E d 48 [vR 1 6 330, vI p0] (M, L)) fun r1 s1 => (if r1 = 0 then some (some (vI (-1 : Int32)), s1) else (bI (C E d 145 [vI p2, vI (1 : Int32), vI (9 : Int32)] s1) fun r2 s2 => (if r2 = 0 then some (some (vI (-1 : Int32)), s2) else (bI (C E d 57 [vR 1 6 330, vI p0] s2) fun r3 s3 => (if r3 = 0 then X E d me104 59 [some (vR 1 11 10), some (vI p0), some (vI p1), some (vI p2), some (vI r3), some (vI (0 : Int32)), some (vL (Int32.toInt64 p1)), none] [] s3 else (if r3 = (-11 : Int32) then some (some (vI (0 : Int32)), s3) else some (some (vI r3), s3)))))))) := by
  rw [C_of (q := me104) rfl rfl rfl rfl, X_go E d me104 [59] 400]
  rfl
set_option maxRecDepth 100000 in
theorem x104_59 (E : Nat × (Nat → Int32)) (d : Nat) (x1 : Int32) (x2 : Int32) (x3 : Int32) (x4 : Int32) (x5 : Int32) (x6 : Int64) (M : Nat → Nat → Int32) (L : Nat → Nat → Int64) : X E d me104 59 [some (vR 1 11 10), some (vI x1), some (vI x2), some (vI x3), some (vI x4), some (vI x5), some (vL x6), none] [] (M, L) = (if x3 ≤ x5 then some (some (vI x5), (M, L)) else (if (lg_cmp x6 (0 : Int64)) < 0 then some (some (vI x5), (M, L)) else (bI (C E d 51 [vR 1 6 330, vI x1] (M, L)) fun r4 s4 => (if 0 < (lg_cmp (x6 + (4 : Int64)) (Int32.toInt64 r4)) then some (some (vI x5), s4) else (bI (C E d 105 [vR 1 11 10, vI x1, vI (Int64.toInt32 x6)] s4) fun r5 s5 => (if r5 = 0 then some (some (vI x5), s5) else X E d me104 59 [some (vR 1 11 10), some (vI x1), some (vI x2), some (vI x3), some (vI x4), some (vI (x5 + (1 : Int32))), some (vL (x6 + (4 : Int64))), none] [] s5)))))) := by
  rw [X_go E d me104 [59] 400]
  rfl
set_option maxRecDepth 100000 in
theorem x105 (E : Nat × (Nat → Int32)) (d : Nat) (p0 : Int32) (p1 : Int32) (M : Nat → Nat → Int32) (L : Nat → Nat → Int64) : C E (d + 1) 105 [vR 1 11 10, vI p0, vI p1] (M, L) = (bL (C E d 61 [vR 1 6 330, vI p0, vI p1] (M, L)) fun r1 s1 => (bL (C E d 61 [vR 1 6 330, vI p0, vI (p1 + (1 : Int32))] s1) fun r2 s2 => (bL (C E d 61 [vR 1 6 330, vI p0, vI (p1 + (2 : Int32))] s2) fun r3 s3 => (bL (C E d 61 [vR 1 6 330, vI p0, vI (p1 + (3 : Int32))] s3) fun r4 s4 => (bI (C E d 20 [vR 1 2 40, vI (3 : Int32), vI (Int64.toInt32 r1)] s4) fun r5 s5 => (if r5 = 0 then some (some (vI (0 : Int32)), s5) else (bI (C E d 20 [vR 1 2 40, vI (4 : Int32), vI (Int64.toInt32 r2)] s5) fun r6 s6 => (if r6 = 0 then some (some (vI (0 : Int32)), s6) else (bI (C E d 20 [vR 1 2 40, vI (5 : Int32), vI (Int64.toInt32 r3)] s6) fun r7 s7 => (if r7 = 0 then some (some (vI (0 : Int32)), s7) else (bI (C E d 20 [vR 1 2 40, vI (6 : Int32), vI (Int64.toInt32 r4)] s7) fun r8 s8 => (if r8 = 0 then some (some (vI (0 : Int32)), s8) else (bI (C E d 18 [vR 1 2 40, vI (Int64.toInt32 r1), vI (Int64.toInt32 r2), vI (Int64.toInt32 r3), vI (Int64.toInt32 r4)] s8) fun r9 s9 => (if r9 < 0 then some (some (vI (0 : Int32)), s9) else some (some (vI (1 : Int32)), s9))))))))))))))) := by
  rw [C_of (q := me105) rfl rfl rfl rfl, X_go E d me105 [] 400]
  rfl
set_option maxRecDepth 100000 in
theorem x106 (E : Nat × (Nat → Int32)) (d : Nat) (p0 : Int32) (p1 : Int32) (p2 : Int32) (M : Nat → Nat → Int32) (L : Nat → Nat → Int64) : C E (d + 1) 106 [vR 1 11 10, vI p0, vI p1, vI p2] (M, L) = (bI (C E d 145 [vI p1, vI (0 : Int32), vI (8 : Int32)] (M, L)) fun r1 s1 => (if r1 = 0 then some (some (vI (-2000000000 : Int32)), s1) else (bI (C E d 19 [vR 1 2 40, vI p0, vI p1] s1) fun r2 s2 => (if r2 = 0 then some (some (vI (-2000000000 : Int32)), s2) else (bI (C E d 20 [vR 1 2 40, vI p1, vI p2] s2) fun r3 s3 => (if r3 = 0 then some (some (vI (-2000000000 : Int32)), s3) else (bI (C E d 22 [vR 1 2 40, vI p0, vI p1] s3) fun r4 s4 => (if r4 = p2 then some (some (vI r4), s4) else (bV (C E d 11 [vR 1 1 260, vI p0, vI p1, vI r4, vI p2] s4) fun s5 => (bV (C E d 23 [vR 1 2 40, vI p0, vI p1, vI p2] s5) fun s6 => some (some (vI r4), s6))))))))))) := by
  rw [C_of (q := me106) rfl rfl rfl rfl, X_go E d me106 [] 400]
  rfl
set_option maxRecDepth 100000 in
theorem x107 (E : Nat × (Nat → Int32)) (d : Nat) (p0 : Int32) (p1 : Int32) (M : Nat → Nat → Int32) (L : Nat → Nat → Int64) : C E (d + 1) 107 [vR 1 11 10, vI p0, vI p1] (M, L) = (bI (C E d 19 [vR 1 2 40, vI p0, vI p1] (M, L)) fun r1 s1 => (if r1 = 0 then some (some (vI (-2000000000 : Int32)), s1) else (bI (C E d 22 [vR 1 2 40, vI p0, vI p1] s1) fun r2 s2 => some (some (vI r2), s2)))) := by
  rw [C_of (q := me107) rfl rfl rfl rfl, X_go E d me107 [] 400]
  rfl
set_option maxRecDepth 100000 in
theorem x108 (E : Nat × (Nat → Int32)) (d : Nat) (p0 : Int32) (M : Nat → Nat → Int32) (L : Nat → Nat → Int64) : C E (d + 1) 108 [vR 1 11 10, vI p0] (M, L) = (bI (C E d 145 [vI p0, vI (0 : Int32), vI (255 : Int32)] (M, L)) fun r1 s1 => (if r1 = 0 then some (some (vI (-1 : Int32)), s1) else (bI (C E d 65 [vR 1 7 70, vI p0] s1) fun r2 s2 => some (some (vI r2), s2)))) := by
  rw [C_of (q := me108) rfl rfl rfl rfl, X_go E d me108 [] 400]
  rfl
set_option maxRecDepth 100000 in
theorem x109 (E : Nat × (Nat → Int32)) (d : Nat)  (M : Nat → Nat → Int32) (L : Nat → Nat → Int64) : C E (d + 1) 109 [vR 1 11 10] (M, L) = (bI (C E d 67 [vR 1 7 70] (M, L)) fun r1 s1 => (if 0 ≤ r1 then (bV (C E d 66 [vR 1 7 70] s1) fun s2 => (if 0 ≤ r1 then some (some (vI ((-100 : Int32) - r1)), s2) else some (some (vI (1 : Int32)), s2))) else (bV (C E d 35 [vR 1 3 90, vR 1 7 70] s1) fun s3 => (bV (C E d 66 [vR 1 7 70] s3) fun s4 => (if 0 ≤ r1 then some (some (vI ((-100 : Int32) - r1)), s4) else some (some (vI (1 : Int32)), s4)))))) := by
  rw [C_of (q := me109) rfl rfl rfl rfl, X_go E d me109 [] 400]
  rfl
set_option maxRecDepth 100000 in
theorem x110 (E : Nat × (Nat → Int32)) (d : Nat) (p0 : Int32) (M : Nat → Nat → Int32) (L : Nat → Nat → Int64) : C E (d + 1) 110 [vR 1 11 10, vI p0] (M, L) = (bI (C E d 15 [vR 1 2 40, vI p0] (M, L)) fun r1 s1 => (if r1 = 0 then some (some (vI (-1 : Int32)), s1) else (bV (C E d 26 [vR 1 2 40] s1) fun s2 => (bI (C E d 36 [vR 1 3 90, vR 1 2 40, vI p0] s2) fun r3 s3 => some (some (vI r3), s3))))) := by
  rw [C_of (q := me110) rfl rfl rfl rfl, X_go E d me110 [] 400]
  rfl
set_option maxRecDepth 100000 in
theorem x111 (E : Nat × (Nat → Int32)) (d : Nat) (p0 : Int32) (p1 : Int32) (p2 : Int32) (M : Nat → Nat → Int32) (L : Nat → Nat → Int64) : C E (d + 1) 111 [vR 1 11 10, vI p0, vI p1, vI p2] (M, L) = (bI (C E d 145 [vI p0, vI (0 : Int32), vI (60 : Int32)] (M, L)) fun r1 s1 => (if r1 = 0 then some (some (vI (-1 : Int32)), s1) else (if p2 = 0 then (bI (C E d 15 [vR 1 2 40, vI p1] s1) fun r2 s2 => (if r2 = 0 then (if p2 = (1 : Int32) then (bI (C E d 16 [vR 1 2 40, vI p1] s2) fun r3 s3 => (if r3 = 0 then some (some (vI (-1 : Int32)), s3) else (bI (C E d 83 [vR 1 8 110, vI p1, vI p0] s3) fun r4 s4 => some (some (vI r4), s4)))) else some (some (vI (-1 : Int32)), s2)) else (bI (C E d 79 [vR 1 8 110, vR 1 2 40, vI p1, vI p0] s2) fun r5 s5 => some (some (vI r5), s5)))) else (if p2 = (1 : Int32) then (bI (C E d 16 [vR 1 2 40, vI p1] s1) fun r6 s6 => (if r6 = 0 then some (some (vI (-1 : Int32)), s6) else (bI (C E d 83 [vR 1 8 110, vI p1, vI p0] s6) fun r7 s7 => some (some (vI r7), s7)))) else some (some (vI (-1 : Int32)), s1))))) := by
  rw [C_of (q := me111) rfl rfl rfl rfl, X_go E d me111 [] 400]
  rfl
set_option maxRecDepth 100000 in
theorem x112 (E : Nat × (Nat → Int32)) (d : Nat) (p0 : Int32) (p1 : Int32) (M : Nat → Nat → Int32) (L : Nat → Nat → Int64) : C E (d + 1) 112 [vR 1 11 10, vI p0, vI p1] (M, L) = (bI (C E d 145 [vI p0, vI (0 : Int32), vI (60 : Int32)] (M, L)) fun r1 s1 => (if r1 = 0 then some (some (vI (-1 : Int32)), s1) else (bI (C E d 145 [vI p1, vI (0 : Int32), vI (2 : Int32)] s1) fun r2 s2 => (if r2 = 0 then some (some (vI (-1 : Int32)), s2) else (bR (C E d 78 [vR 1 8 110, vI p0] s2) fun k1 n1 a1 s3 => X E d me112 29 [some (vR 1 11 10), some (vI p0), some (vI p1), none] [vR k1 n1 a1] s3))))) := by
  rw [C_of (q := me112) rfl rfl rfl rfl, X_go E d me112 [29] 400]
  rfl
set_option maxRecDepth 100000 in
theorem x112_29c (E : Nat × (Nat → Int32)) (d : Nat) (p0 : Int32) (p1 : Int32) (o1 : Nat) (M : Nat → Nat → Int32) (L : Nat → Nat → Int64) : X E d me112 29 [some (vR 1 11 10), some (vI p0), some (vI p1), none] [vR 1 2 o1] (M, L) = (if p1 = 0 then (bI (C E d 30 [vR 1 2 o1] (M, L)) fun r4 s4 => some (some (vI r4), s4)) else (if p1 = (1 : Int32) then (bI (C E d 31 [vR 1 2 o1] (M, L)) fun r5 s5 => some (some (vI r5), s5)) else (bI (C E d 32 [vR 1 2 o1] (M, L)) fun r6 s6 => some (some (vI r6), s6)))) := by
  rw [X_go E d me112 [29] 400]
  rfl
set_option maxRecDepth 100000 in
theorem x113 (E : Nat × (Nat → Int32)) (d : Nat) (p0 : Int32) (M : Nat → Nat → Int32) (L : Nat → Nat → Int64) : C E (d + 1) 113 [vR 1 11 10, vI p0] (M, L) = (if p0 = (-1 : Int32) then (bI (C E d 82 [vR 1 8 110] (M, L)) fun r1 s1 => some (some (vI r1), s1)) else (bI (C E d 15 [vR 1 2 40, vI p0] (M, L)) fun r2 s2 => (if r2 = 0 then some (some (vI (-1 : Int32)), s2) else (bI (C E d 80 [vR 1 8 110, vR 1 2 40, vI p0] s2) fun r3 s3 => some (some (vI r3), s3))))) := by
  rw [C_of (q := me113) rfl rfl rfl rfl, X_go E d me113 [] 400]
  rfl
set_option maxRecDepth 100000 in
theorem x114 (E : Nat × (Nat → Int32)) (d : Nat) (p0 : Int32) (M : Nat → Nat → Int32) (L : Nat → Nat → Int64) : C E (d + 1) 114 [vR 1 11 10, vI p0] (M, L) = (bI (C E d 16 [vR 1 2 40, vI p0] (M, L)) fun r1 s1 => (if r1 = 0 then some (some (vI (-1 : Int32)), s1) else (bI (C E d 84 [vR 1 8 110, vI p0] s1) fun r2 s2 => some (some (vI r2), s2)))) := by
  rw [C_of (q := me114) rfl rfl rfl rfl, X_go E d me114 [] 400]
  rfl
set_option maxRecDepth 100000 in
theorem x115 (E : Nat × (Nat → Int32)) (d : Nat) (p0 : Int32) (M : Nat → Nat → Int32) (L : Nat → Nat → Int64) : C E (d + 1) 115 [vR 1 11 10, vI p0] (M, L) = (bI (C E d 15 [vR 1 2 40, vI p0] (M, L)) fun r1 s1 => (if r1 = 0 then some (some (vI (-1 : Int32)), s1) else (bI (C E d 85 [vR 1 8 110, vI p0] s1) fun r2 s2 => some (some (vI r2), s2)))) := by
  rw [C_of (q := me115) rfl rfl rfl rfl, X_go E d me115 [] 400]
  rfl
set_option maxRecDepth 100000 in
theorem x116 (E : Nat × (Nat → Int32)) (d : Nat) (p0 : Int32) (p1 : Int32) (M : Nat → Nat → Int32) (L : Nat → Nat → Int64) : C E (d + 1) 116 [vR 1 11 10, vI p0, vI p1] (M, L) = (bI (C E d 145 [vI p0, vI (0 : Int32), vI (20 : Int32)] (M, L)) fun r1 s1 => (if r1 = 0 then some (some (vI (-1 : Int32)), s1) else (bI (C E d 145 [vI p1, vI (0 : Int32), vI (2 : Int32)] s1) fun r2 s2 => (if r2 = 0 then some (some (vI (-1 : Int32)), s2) else (bV (C E d 86 [vR 1 8 110, vI p0] s2) fun s3 => X E d me116 31 [some (vR 1 11 10), some (vI p0), some (vI p1), some (vI (0 : Int32))] [] s3))))) := by
  rw [C_of (q := me116) rfl rfl rfl rfl, X_go E d me116 [31] 400]
  rfl
set_option maxRecDepth 100000 in
theorem x116_31 (E : Nat × (Nat → Int32)) (d : Nat) (x1 : Int32) (x2 : Int32) (x3 : Int32) (M : Nat → Nat → Int32) (L : Nat → Nat → Int64) : X E d me116 31 [some (vR 1 11 10), some (vI x1), some (vI x2), some (vI x3)] [] (M, L) = (if (M 40 12) ≤ x3 then (if x2 = (2 : Int32) then some (some (vI (M 110 7)), (M, L)) else (if x2 = 0 then some (some (vI ((M 110 6) / (1000 : Int32))), (M, L)) else some (some (vI (rm32 (M 110 6) (1000 : Int32))), (M, L)))) else (bV (C E d 87 [vR 1 8 110, vI x3, vI x1] (M, L)) fun s4 => X E d me116 31 [some (vR 1 11 10), some (vI x1), some (vI x2), some (vI (x3 + (1 : Int32)))] [] s4)) := by
  rw [X_go E d me116 [31] 400]
  rfl
set_option maxRecDepth 100000 in
theorem x117 (E : Nat × (Nat → Int32)) (d : Nat) (p0 : Int32) (M : Nat → Nat → Int32) (L : Nat → Nat → Int64) : C E (d + 1) 117 [vR 1 11 10, vI p0] (M, L) = (if p0 = (-1 : Int32) then (bV (C E d 43 [vR 1 5 240] (M, L)) fun s1 => (if p0 = (-1 : Int32) then (bI (C E d 44 [vR 1 5 240, vI (0 : Int32), vI (0 : Int32)] s1) fun r2 s2 => some (some (vI r2), s2)) else (bI (C E d 46 [vR 1 5 240, vI p0] s1) fun r3 s3 => some (some (vI r3), s3)))) else (bI (C E d 15 [vR 1 2 40, vI p0] (M, L)) fun r4 s4 => (if r4 = 0 then some (some (vI (-1 : Int32)), s4) else (bV (C E d 43 [vR 1 5 240] s4) fun s5 => (if p0 = (-1 : Int32) then (bI (C E d 44 [vR 1 5 240, vI (0 : Int32), vI (0 : Int32)] s5) fun r6 s6 => some (some (vI r6), s6)) else (bI (C E d 46 [vR 1 5 240, vI p0] s5) fun r7 s7 => some (some (vI r7), s7))))))) := by
  rw [C_of (q := me117) rfl rfl rfl rfl, X_go E d me117 [] 400]
  rfl
set_option maxRecDepth 100000 in
theorem x118 (E : Nat × (Nat → Int32)) (d : Nat) (p0 : Int32) (p1 : Int32) (M : Nat → Nat → Int32) (L : Nat → Nat → Int64) : C E (d + 1) 118 [vR 1 11 10, vI p0, vI p1] (M, L) = (bI (C E d 146 [vI p0] (M, L)) fun r1 s1 => (if r1 = 0 then some (some (vI (-1 : Int32)), s1) else (bI (C E d 145 [vI p1, vI (0 : Int32), vI (3 : Int32)] s1) fun r2 s2 => (if r2 = 0 then some (some (vI (-1 : Int32)), s2) else (if (2 : Int32) ≤ p1 then (bI (C E d 100 [vR 1 10 250, vI (p0 / (10 : Int32)), vI (rm32 p0 (10 : Int32))] s2) fun r3 s3 => (if p1 = (2 : Int32) then (bI (C E d 250 [vI r3] s3) fun r4 s4 => some (some (vI r4), s4)) else some (some (vI r3), s3))) else (bI (C E d 97 [vR 1 10 250, vI (p0 / (10 : Int32)), vI (rm32 p0 (10 : Int32))] s2) fun r5 s5 => (if 0 ≤ r5 then (if p1 = 0 then some (some (vI (r5 / (100 : Int32))), s5) else some (some (vI (rm32 r5 (100 : Int32))), s5)) else some (some (vI (-2 : Int32)), s5)))))))) := by
  rw [C_of (q := me118) rfl rfl rfl rfl, X_go E d me118 [] 400]
  rfl
set_option maxRecDepth 100000 in
theorem x119 (E : Nat × (Nat → Int32)) (d : Nat)  (M : Nat → Nat → Int32) (L : Nat → Nat → Int64) : C E (d + 1) 119 [vR 1 11 10] (M, L) = (bI (C E d 101 [vR 1 10 250] (M, L)) fun r1 s1 => some (some (vI r1), s1)) := by
  rw [C_of (q := me119) rfl rfl rfl rfl, X_go E d me119 [] 400]
  rfl
set_option maxRecDepth 100000 in
theorem x120 (E : Nat × (Nat → Int32)) (d : Nat) (p0 : Int32) (p1 : Int32) (M : Nat → Nat → Int32) (L : Nat → Nat → Int64) : C E (d + 1) 120 [vR 1 11 10, vI p0, vI p1] (M, L) = (bI (C E d 48 [vR 1 6 330, vI p0] (M, L)) fun r1 s1 => (if r1 = 0 then some (some (vI (-1 : Int32)), s1) else (bI (C E d 15 [vR 1 2 40, vI p1] s1) fun r2 s2 => (if r2 = 0 then some (some (vI (-1 : Int32)), s2) else (bI (C E d 57 [vR 1 6 330, vI p0] s2) fun r3 s3 => (if r3 = 0 then (bI (C E d 90 [vR 1 8 110, vR 1 2 40, vI p1, vR 1 6 330, vI p0] s3) fun r4 s4 => some (some (vI r4), s4)) else some (some (vI r3), s3))))))) := by
  rw [C_of (q := me120) rfl rfl rfl rfl, X_go E d me120 [] 400]
  rfl
set_option maxRecDepth 100000 in
theorem x121 (E : Nat × (Nat → Int32)) (d : Nat) (p0 : Int32) (p1 : Int32) (p2 : Int32) (p3 : Int32) (M : Nat → Nat → Int32) (L : Nat → Nat → Int64) : C E (d + 1) 121 [vR 1 11 10, vI p0, vI p1, vI p2, vI p3] (M, L) = (bI (C E d 48 [vR 1 6 330, vI p0] (M, L)) fun r1 s1 => (if r1 = 0 then some (some (vI (-1 : Int32)), s1) else (bI (C E d 15 [vR 1 2 40, vI p1] s1) fun r2 s2 => (if r2 = 0 then some (some (vI (-1 : Int32)), s2) else (bI (C E d 145 [vI p3, vI (0 : Int32), vI (3 : Int32)] s2) fun r3 s3 => (if r3 = 0 then some (some (vI (-1 : Int32)), s3) else (if (2 : Int32) ≤ p3 then (bI (C E d 15 [vR 1 2 40, vI p2] s3) fun r4 s4 => (if r4 = 0 then some (some (vI (-1 : Int32)), s4) else (bI (C E d 57 [vR 1 6 330, vI p0] s4) fun r5 s5 => (if r5 = 0 then (bV (C E d 91 [vR 1 8 110, vI p2, vI (2 : Int32), vI p1, vR 1 6 330, vI p0] s5) fun s6 => (if (rm32 p3 (2 : Int32)) = 0 then some (some (vI (s6.1 110 8)), s6) else some (some (vI (s6.1 110 9)), s6))) else some (some (vI r5), s5))))) else (bI (C E d 16 [vR 1 2 40, vI p2] s3) fun r7 s7 => (if r7 = 0 then some (some (vI (-1 : Int32)), s7) else (bI (C E d 57 [vR 1 6 330, vI p0] s7) fun r8 s8 => (if r8 = 0 then (bV (C E d 91 [vR 1 8 110, vI p2, vI (3 : Int32), vI p1, vR 1 6 330, vI p0] s8) fun s9 => (if (rm32 p3 (2 : Int32)) = 0 then some (some (vI (s9.1 110 8)), s9) else some (some (vI (s9.1 110 9)), s9))) else some (some (vI r8), s8)))))))))))) := by
  rw [C_of (q := me121) rfl rfl rfl rfl, X_go E d me121 [] 400]
  rfl
set_option maxRecDepth 100000 in
theorem x122 (E : Nat × (Nat → Int32)) (d : Nat) (p0 : Int32) (p1 : Int32) (M : Nat → Nat → Int32) (L : Nat → Nat → Int64) : C E (d + 1) 122 [vR 1 11 10, vI p0, vI p1] (M, L) = (bI (C E d 16 [vR 1 2 40, vI p0] (M, L)) fun r1 s1 => (if r1 = 0 then some (some (vI (-1 : Int32)), s1) else (bI (C E d 145 [vI p1, vI (0 : Int32), vI (9999 : Int32)] s1) fun r2 s2 => (if r2 = 0 then some (some (vI (-1 : Int32)), s2) else X E d me122 29 [some (vR 1 11 10), some (vI p0), some (vI p1), some (vI (0 : Int32)), some (vI (0 : Int32))] [] s2)))) := by
  rw [C_of (q := me122) rfl rfl rfl rfl, X_go E d me122 [29] 400]
  rfl
set_option maxRecDepth 100000 in
theorem x122_29 (E : Nat × (Nat → Int32)) (d : Nat) (x1 : Int32) (x2 : Int32) (x3 : Int32) (x4 : Int32) (M : Nat → Nat → Int32) (L : Nat → Nat → Int64) : X E d me122 29 [some (vR 1 11 10), some (vI x1), some (vI x2), some (vI x3), some (vI x4)] [] (M, L) = (if (M 40 12) ≤ x4 then (if 0 < x3 then (bI (C E d 33 [vR 1 2 40, vI x1] (M, L)) fun r3 s3 => (if x3 = 0 then none else some (some (vI ((x2 * r3) / x3)), s3))) else some (some (vI (0 : Int32)), (M, L))) else (bI (C E d 33 [vR 1 2 40, vI x4] (M, L)) fun r4 s4 => X E d me122 29 [some (vR 1 11 10), some (vI x1), some (vI x2), some (vI (x3 + r4)), some (vI (x4 + (1 : Int32)))] [] s4)) := by
  rw [X_go E d me122 [29] 400]
  rfl
set_option maxRecDepth 100000 in
theorem x123 (E : Nat × (Nat → Int32)) (d : Nat) (p0 : Int32) (M : Nat → Nat → Int32) (L : Nat → Nat → Int64) : C E (d + 1) 123 [vR 1 11 10, vI p0] (M, L) = (bI (C E d 145 [vI p0, vI (0 : Int32), vI (7 : Int32)] (M, L)) fun r1 s1 => (if r1 = 0 then some (some (vI (-1 : Int32)), s1) else (bI (C E d 34 [vR 1 2 40, vI p0] s1) fun r2 s2 => some (some (vI r2), s2)))) := by
  rw [C_of (q := me123) rfl rfl rfl rfl, X_go E d me123 [] 400]
  rfl
set_option maxRecDepth 100000 in
theorem x124 (E : Nat × (Nat → Int32)) (d : Nat) (p0 : Int32) (p1 : Int32) (p2 : Int32) (M : Nat → Nat → Int32) (L : Nat → Nat → Int64) : C E (d + 1) 124 [vR 1 11 10, vI p0, vI p1, vI p2] (M, L) = (bI (C E d 145 [vI (p1 / (100 : Int32)), vI (1 : Int32), vI (3 : Int32)] (M, L)) fun r1 s1 => (if r1 = 0 then some (some (vI (-1 : Int32)), s1) else (bI (C E d 145 [vI (rm32 p1 (100 : Int32)), vI (0 : Int32), vI (20 : Int32)] s1) fun r2 s2 => (if r2 = 0 then some (some (vI (-1 : Int32)), s2) else (bI (C E d 145 [vI p2, vI (0 : Int32), vI (1 : Int32)] s2) fun r3 s3 => (if r3 = 0 then some (some (vI (-1 : Int32)), s3) else (bI (C E d 15 [vR 1 2 40, vI p0] s3) fun r4 s4 => (if r4 = 0 then some (some (vI (-1 : Int32)), s4) else (bV (C E d 93 [vR 1 9 200, vR 1 2 40, vI p0, vI (p1 / (100 : Int32)), vI (rm32 p1 (100 : Int32))] s4) fun s5 => (bI (C E d 22 [vR 1 2 40, vI p0, vI (1 : Int32)] s5) fun r6 s6 => (bI (C E d 94 [vR 1 9 200, vI (p1 / (100 : Int32)), vI (0 : Int32), vI r6] s6) fun r7 s7 => (if p2 = 0 then some (some (vI r7), s7) else some (some (vI (s7.1 200 5)), s7))))))))))))) := by
  rw [C_of (q := me124) rfl rfl rfl rfl, X_go E d me124 [] 400]
  rfl
set_option maxRecDepth 100000 in
theorem x125 (E : Nat × (Nat → Int32)) (d : Nat) (p0 : Int32) (p1 : Int32) (p2 : Int32) (M : Nat → Nat → Int32) (L : Nat → Nat → Int64) : C E (d + 1) 125 [vR 1 11 10, vI p0, vI p1, vI p2] (M, L) = (bI (C E d 145 [vI (p1 / (10000 : Int32)), vI (1 : Int32), vI (30 : Int32)] (M, L)) fun r1 s1 => (if r1 = 0 then some (some (vI (-1 : Int32)), s1) else (bI (C E d 145 [vI (rm32 (p1 / (100 : Int32)) (100 : Int32)), vI (1 : Int32), vI (60 : Int32)] s1) fun r2 s2 => (if r2 = 0 then some (some (vI (-1 : Int32)), s2) else (bI (C E d 145 [vI (rm32 p1 (100 : Int32)), vI (0 : Int32), vI (12 : Int32)] s2) fun r3 s3 => (if r3 = 0 then some (some (vI (-1 : Int32)), s3) else (if p2 = (-1 : Int32) then (bI (C E d 92 [vR 1 8 110, vI p0, vI (p1 / (10000 : Int32)), vI (rm32 (p1 / (100 : Int32)) (100 : Int32)), vI (rm32 p1 (100 : Int32)), vI p2] s3) fun r4 s4 => some (some (vI r4), s4)) else (bI (C E d 15 [vR 1 2 40, vI p2] s3) fun r5 s5 => (if r5 = 0 then some (some (vI (-1 : Int32)), s5) else (bI (C E d 92 [vR 1 8 110, vI p0, vI (p1 / (10000 : Int32)), vI (rm32 (p1 / (100 : Int32)) (100 : Int32)), vI (rm32 p1 (100 : Int32)), vI p2] s5) fun r6 s6 => some (some (vI r6), s6))))))))))) := by
  rw [C_of (q := me125) rfl rfl rfl rfl, X_go E d me125 [] 400]
  rfl
set_option maxRecDepth 100000 in
theorem x126 (E : Nat × (Nat → Int32)) (d : Nat)  (M : Nat → Nat → Int32) (L : Nat → Nat → Int64) : C E (d + 1) 126 [vR 1 11 10] (M, L) = (bI (C E d 30 [vR 1 2 40] (M, L)) fun r1 s1 => (bV (C E d 28 [vR 1 2 40, vR 1 3 90] s1) fun s2 => (bI (C E d 30 [vR 1 2 40] s2) fun r3 s3 => (bV (C E d 40 [vR 1 4 280, vI (0 : Int32), vI (1 : Int32)] s3) fun s4 => (bI (C E d 250 [vI (r1 &&& (r3 ^^^ (-1 : Int32)))] s4) fun r5 s5 => (bV (C E d 40 [vR 1 4 280, vI (4 : Int32), vI r5] s5) fun s6 => (bI (C E d 250 [vI r3] s6) fun r7 s7 => some (some (vI r7), s7)))))))) := by
  rw [C_of (q := me126) rfl rfl rfl rfl, X_go E d me126 [] 400]
  rfl
set_option maxRecDepth 100000 in
theorem x127 (E : Nat × (Nat → Int32)) (d : Nat) (p0 : Int32) (p1 : Int32) (M : Nat → Nat → Int32) (L : Nat → Nat → Int64) : C E (d + 1) 127 [vR 1 11 10, vI p0, vI p1] (M, L) = (bI (C E d 16 [vR 1 2 40, vI p0] (M, L)) fun r1 s1 => (if r1 = 0 then some (some (vI (-2000000000 : Int32)), s1) else (bI (C E d 20 [vR 1 2 40, vI (6 : Int32), vI p1] s1) fun r2 s2 => (if r2 = 0 then some (some (vI (-2000000000 : Int32)), s2) else (bI (C E d 22 [vR 1 2 40, vI p0, vI (6 : Int32)] s2) fun r3 s3 => (bV (C E d 23 [vR 1 2 40, vI p0, vI (6 : Int32), vI p1] s3) fun s4 => (bV (C E d 40 [vR 1 4 280, vI (1 : Int32), vI (1 : Int32)] s4) fun s5 => some (some (vI r3), s5)))))))) := by
  rw [C_of (q := me127) rfl rfl rfl rfl, X_go E d me127 [] 400]
  rfl
set_option maxRecDepth 100000 in
theorem x128 (E : Nat × (Nat → Int32)) (d : Nat) (p0 : Int32) (p1 : Int32) (M : Nat → Nat → Int32) (L : Nat → Nat → Int64) : C E (d + 1) 128 [vR 1 11 10, vI p0, vI p1] (M, L) = (bI (C E d 16 [vR 1 2 40, vI p0] (M, L)) fun r1 s1 => (if r1 = 0 then some (some (vI (-1 : Int32)), s1) else (bI (C E d 145 [vI p1, vI (1 : Int32), vI (99 : Int32)] s1) fun r2 s2 => (if r2 = 0 then some (some (vI (-1 : Int32)), s2) else (bV (C E d 40 [vR 1 4 280, vI (2 : Int32), vI p1] s2) fun s3 => (bI (C E d 24 [vR 1 2 40, vI p0, vI (3 : Int32), vI p1] s3) fun r4 s4 => some (some (vI r4), s4))))))) := by
  rw [C_of (q := me128) rfl rfl rfl rfl, X_go E d me128 [] 400]
  rfl
set_option maxRecDepth 100000 in
theorem x129 (E : Nat × (Nat → Int32)) (d : Nat) (p0 : Int32) (p1 : Int32) (M : Nat → Nat → Int32) (L : Nat → Nat → Int64) : C E (d + 1) 129 [vR 1 11 10, vI p0, vI p1] (M, L) = (bI (C E d 15 [vR 1 2 40, vI p0] (M, L)) fun r1 s1 => (if r1 = 0 then some (some (vI (-1 : Int32)), s1) else (bI (C E d 145 [vI p1, vI (1 : Int32), vI (99 : Int32)] s1) fun r2 s2 => (if r2 = 0 then some (some (vI (-1 : Int32)), s2) else (bV (C E d 40 [vR 1 4 280, vI (3 : Int32), vI p1] s2) fun s3 => (bI (C E d 24 [vR 1 2 40, vI p0, vI (1 : Int32), vI p1] s3) fun r4 s4 => some (some (vI r4), s4))))))) := by
  rw [C_of (q := me129) rfl rfl rfl rfl, X_go E d me129 [] 400]
  rfl
set_option maxRecDepth 100000 in
theorem x130 (E : Nat × (Nat → Int32)) (d : Nat) (p0 : Int32) (M : Nat → Nat → Int32) (L : Nat → Nat → Int64) : C E (d + 1) 130 [vR 1 11 10, vI p0] (M, L) = (bI (C E d 145 [vI p0, vI (0 : Int32), vI (4 : Int32)] (M, L)) fun r1 s1 => (if r1 = 0 then some (some (vI (-1 : Int32)), s1) else (bI (C E d 39 [vR 1 4 280, vI p0] s1) fun r2 s2 => some (some (vI r2), s2)))) := by
  rw [C_of (q := me130) rfl rfl rfl rfl, X_go E d me130 [] 400]
  rfl
set_option maxRecDepth 100000 in
theorem x131 (E : Nat × (Nat → Int32)) (d : Nat)  (M : Nat → Nat → Int32) (L : Nat → Nat → Int64) : C E (d + 1) 131 [vR 1 11 10] (M, L) = (bV (C E d 41 [vR 1 4 280, vR 1 2 40] (M, L)) fun s1 => (bI (C E d 39 [vR 1 4 280, vI (0 : Int32)] s1) fun r2 s2 => some (some (vI r2), s2))) := by
  rw [C_of (q := me131) rfl rfl rfl rfl, X_go E d me131 [] 400]
  rfl
set_option maxRecDepth 100000 in
theorem x132 (E : Nat × (Nat → Int32)) (d : Nat)  (M : Nat → Nat → Int32) (L : Nat → Nat → Int64) : C E (d + 1) 132 [vR 1 11 10] (M, L) = (if (M 280 3) = 0 then some (some (vI (-5 : Int32)), (M, L)) else (bV (C E d 42 [vR 1 4 280, vR 1 2 40] (M, L)) fun s1 => (bI (C E d 39 [vR 1 4 280, vI (0 : Int32)] s1) fun r2 s2 => some (some (vI r2), s2)))) := by
  rw [C_of (q := me132) rfl rfl rfl rfl, X_go E d me132 [] 400]
  rfl
set_option maxRecDepth 100000 in
theorem x133 (E : Nat × (Nat → Int32)) (d : Nat)  (M : Nat → Nat → Int32) (L : Nat → Nat → Int64) : C E (d + 1) 133 [vR 1 11 10] (M, L) = (bI (C E d 13 [vR 1 1 260, vR 1 2 40] (M, L)) fun r1 s1 => some (some (vI r1), s1)) := by
  rw [C_of (q := me133) rfl rfl rfl rfl, X_go E d me133 [] 400]
  rfl
set_option maxRecDepth 100000 in
theorem x134 (E : Nat × (Nat → Int32)) (d : Nat)  (M : Nat → Nat → Int32) (L : Nat → Nat → Int64) : C E (d + 1) 134 [vR 1 11 10] (M, L) = (bI (C E d 14 [vR 1 1 260, vR 1 2 40] (M, L)) fun r1 s1 => some (some (vI r1), s1)) := by
  rw [C_of (q := me134) rfl rfl rfl rfl, X_go E d me134 [] 400]
  rfl
set_option maxRecDepth 100000 in
theorem x135 (E : Nat × (Nat → Int32)) (d : Nat) (p0 : Int32) (M : Nat → Nat → Int32) (L : Nat → Nat → Int64) : C E (d + 1) 135 [vR 1 11 10, vI p0] (M, L) = (bI (C E d 145 [vI p0, vI (0 : Int32), vI (7 : Int32)] (M, L)) fun r1 s1 => (if r1 = 0 then some (some (vI (-1 : Int32)), s1) else (bI (C E d 1 [vR 1 0 320, vI p0] s1) fun r2 s2 => some (some (vI r2), s2)))) := by
  rw [C_of (q := me135) rfl rfl rfl rfl, X_go E d me135 [] 400]
  rfl
set_option maxRecDepth 100000 in
theorem x136 (E : Nat × (Nat → Int32)) (d : Nat) (p0 : Int32) (p1 : Int32) (p2 : Int32) (M : Nat → Nat → Int32) (L : Nat → Nat → Int64) : C E (d + 1) 136 [vR 1 11 10, vI p0, vI p1, vI p2] (M, L) = (bI (C E d 7 [vR 1 0 320, vI p0, vI p1, vI p2] (M, L)) fun r1 s1 => some (some (vI r1), s1)) := by
  rw [C_of (q := me136) rfl rfl rfl rfl, X_go E d me136 [] 400]
  rfl
set_option maxRecDepth 100000 in
theorem x137 (E : Nat × (Nat → Int32)) (d : Nat) (p0 : Int32) (M : Nat → Nat → Int32) (L : Nat → Nat → Int64) : C E (d + 1) 137 [vR 1 11 10, vI p0] (M, L) = (bI (C E d 6 [vR 1 0 320, vI p0] (M, L)) fun r1 s1 => some (some (vI r1), s1)) := by
  rw [C_of (q := me137) rfl rfl rfl rfl, X_go E d me137 [] 400]
  rfl
set_option maxRecDepth 100000 in
theorem x138 (E : Nat × (Nat → Int32)) (d : Nat) (p0 : Int32) (p1 : Int32) (M : Nat → Nat → Int32) (L : Nat → Nat → Int64) : C E (d + 1) 138 [vR 1 11 10, vI p0, vI p1] (M, L) = (bI (C E d 48 [vR 1 6 330, vI p0] (M, L)) fun r1 s1 => (if r1 = 0 then some (some (vI (-1 : Int32)), s1) else (if p1 = (-1 : Int32) then (if p1 = (-1 : Int32) then (bV (C E d 53 [vR 1 6 330, vI p0] s1) fun s2 => some (some (vI (1 : Int32)), s2)) else (bV (C E d 54 [vR 1 6 330, vI p0, vI p1] s1) fun s3 => some (some (vI (1 : Int32)), s3))) else (bI (C E d 0 [vR 1 0 320, vI p1] s1) fun r4 s4 => (if r4 = 0 then some (some (vI (-1 : Int32)), s4) else (if p1 = (-1 : Int32) then (bV (C E d 53 [vR 1 6 330, vI p0] s4) fun s5 => some (some (vI (1 : Int32)), s5)) else (bV (C E d 54 [vR 1 6 330, vI p0, vI p1] s4) fun s6 => some (some (vI (1 : Int32)), s6)))))))) := by
  rw [C_of (q := me138) rfl rfl rfl rfl, X_go E d me138 [] 400]
  rfl
set_option maxRecDepth 100000 in
theorem x139 (E : Nat × (Nat → Int32)) (d : Nat) (p0 : Int32) (p1 : Int32) (p2 : Int32) (M : Nat → Nat → Int32) (L : Nat → Nat → Int64) : C E (d + 1) 139 [vR 1 11 10, vI p0, vI p1, vI p2] (M, L) = (bI (C E d 48 [vR 1 6 330, vI p0] (M, L)) fun r1 s1 => (if r1 = 0 then some (some (vI (-1 : Int32)), s1) else (bI (C E d 145 [vI p1, vI (0 : Int32), vI (4 : Int32)] s1) fun r2 s2 => (if r2 = 0 then some (some (vI (-1 : Int32)), s2) else (if p2 ≤ (60 : Int32) then (if 0 ≤ p2 then (bV (C E d 55 [vR 1 6 330, vI p0, vI p1, vI p2] s2) fun s3 => some (some (vI (1 : Int32)), s3)) else some (some (vI (-14 : Int32)), s2)) else some (some (vI (-1 : Int32)), s2)))))) := by
  rw [C_of (q := me139) rfl rfl rfl rfl, X_go E d me139 [] 400]
  rfl
set_option maxRecDepth 100000 in
theorem x140 (E : Nat × (Nat → Int32)) (d : Nat) (p0 : Int32) (p1 : Int32) (p2 : Int64) (M : Nat → Nat → Int32) (L : Nat → Nat → Int64) : C E (d + 1) 140 [vR 1 11 10, vI p0, vI p1, vL p2] (M, L) = (bI (C E d 58 [vR 1 6 330, vI p0, vI p1] (M, L)) fun r1 s1 => (if r1 = 0 then (bV (C E d 62 [vR 1 6 330, vI p0, vI p1, vL p2] s1) fun s2 => some (some (vI (1 : Int32)), s2)) else some (some (vI r1), s1))) := by
  rw [C_of (q := me140) rfl rfl rfl rfl, X_go E d me140 [] 400]
  rfl
set_option maxRecDepth 100000 in
theorem x141 (E : Nat × (Nat → Int32)) (d : Nat) (p0 : Int32) (p1 : Int32) (M : Nat → Nat → Int32) (L : Nat → Nat → Int64) : C E (d + 1) 141 [vR 1 11 10, vI p0, vI p1] (M, L) = (bI (C E d 58 [vR 1 6 330, vI p0, vI p1] (M, L)) fun r1 s1 => (if r1 = 0 then (bL (C E d 61 [vR 1 6 330, vI p0, vI p1] s1) fun r2 s2 => some (some (vL r2), s2)) else some (some (vL (-9223372036854775808 : Int64)), s1))) := by
  rw [C_of (q := me141) rfl rfl rfl rfl, X_go E d me141 [] 400]
  rfl
set_option maxRecDepth 100000 in
theorem x142 (E : Nat × (Nat → Int32)) (d : Nat) (p0 : Int32) (p1 : Int32) (p2 : Int32) (p3 : Int32) (p4 : Int32) (M : Nat → Nat → Int32) (L : Nat → Nat → Int64) : C E (d + 1) 142 [vR 1 11 10, vI p0, vI p1, vI p2, vI p3, vI p4] (M, L) = (bI (C E d 59 [vR 1 6 330, vI p0, vI p2] (M, L)) fun r1 s1 => (if r1 = 0 then (bI (C E d 60 [vR 1 6 330, vI p0, vI p1, vI p4] s1) fun r2 s2 => (if r2 = 0 then some (some (vI (-13 : Int32)), s2) else (bI (C E d 60 [vR 1 6 330, vI p2, vI p3, vI p4] s2) fun r3 s3 => (if r3 = 0 then some (some (vI (-13 : Int32)), s3) else (bV (C E d 64 [vR 1 6 330, vI p0, vI p1, vI p2, vI p3, vI p4] s3) fun s4 => some (some (vI p4), s4)))))) else some (some (vI r1), s1))) := by
  rw [C_of (q := me142) rfl rfl rfl rfl, X_go E d me142 [] 400]
  rfl
set_option maxRecDepth 100000 in
theorem x143 (E : Nat × (Nat → Int32)) (d : Nat) (p0 : Int32) (p1 : Int32) (M : Nat → Nat → Int32) (L : Nat → Nat → Int64) : C E (d + 1) 143 [vR 1 11 10, vI p0, vI p1] (M, L) = (bI (C E d 48 [vR 1 6 330, vI p0] (M, L)) fun r1 s1 => (if r1 = 0 then some (some (vI (-1 : Int32)), s1) else (bI (C E d 145 [vI p1, vI (0 : Int32), vI (7 : Int32)] s1) fun r2 s2 => (if r2 = 0 then some (some (vI (-1 : Int32)), s2) else (bI (C E d 49 [vR 1 6 330, vI p0] s2) fun r3 s3 => (if r3 = 0 then (bI (C E d 52 [vR 1 6 330, vI p0] s3) fun r4 s4 => (bI (C E d 0 [vR 1 0 320, vI r4] s4) fun r5 s5 => (if r5 = 0 then some (some (vI (-12 : Int32)), s5) else (bI (C E d 5 [vR 1 0 320, vI r4, vI p1] s5) fun r6 s6 => (if r6 = 0 then some (some (vI (-12 : Int32)), s6) else (bI (C E d 2 [vR 1 0 320, vI r4] s6) fun r7 s7 => some (some (vI r7), s7))))))) else some (some (vI (-11 : Int32)), s3))))))) := by
  rw [C_of (q := me143) rfl rfl rfl rfl, X_go E d me143 [] 400]
  rfl
set_option maxRecDepth 100000 in
theorem x144 (E : Nat × (Nat → Int32)) (d : Nat) (p0 : Int32) (M : Nat → Nat → Int32) (L : Nat → Nat → Int64) : C E (d + 1) 144 [vR 1 11 10, vI p0] (M, L) = (if p0 = (0 : Int32) then some (some (vI (M 40 11)), (M, L)) else (if p0 = (1 : Int32) then some (some (vI (M 40 12)), (M, L)) else (if p0 = (2 : Int32) then some (some (vI (M 70 3)), (M, L)) else (if p0 = (3 : Int32) then some (some (vI (M 260 4)), (M, L)) else (if p0 = (4 : Int32) then some (some (vI (M 320 2)), (M, L)) else (if p0 = (5 : Int32) then some (some (vI (M 320 3)), (M, L)) else some (some (vI (-1 : Int32)), (M, L)))))))) := by
  rw [C_of (q := me144) rfl rfl rfl rfl, X_go E d me144 [] 400]
  rfl
end
section
/-! printed by wip/whole/sym.py: what each method does, as a tree; closed by rfl -/
set_option maxRecDepth 100000 in
theorem x145 (E : Nat × (Nat → Int32)) (d : Nat) (p0 : Int32) (p1 : Int32) (p2 : Int32) (M : Nat → Nat → Int32) (L : Nat → Nat → Int64) : C E (d + 1) 145 [vI p0, vI p1, vI p2] (M, L) = (if p0 < p1 then some (some (vI (0 : Int32)), (M, L)) else (if p2 < p0 then some (some (vI (0 : Int32)), (M, L)) else some (some (vI (1 : Int32)), (M, L)))) := by
  rw [C_of (q := me145) rfl rfl rfl rfl, X_go E d me145 [] 400]
  rfl
set_option maxRecDepth 100000 in
theorem x146 (E : Nat × (Nat → Int32)) (d : Nat) (p0 : Int32) (M : Nat → Nat → Int32) (L : Nat → Nat → Int64) : C E (d + 1) 146 [vI p0] (M, L) = (if p0 < 0 then some (some (vI (0 : Int32)), (M, L)) else (if (8 : Int32) ≤ (p0 / (10 : Int32)) then some (some (vI (0 : Int32)), (M, L)) else (if (8 : Int32) ≤ (rm32 p0 (10 : Int32)) then some (some (vI (0 : Int32)), (M, L)) else (if (p0 / (10 : Int32)) = (rm32 p0 (10 : Int32)) then some (some (vI (0 : Int32)), (M, L)) else some (some (vI (1 : Int32)), (M, L)))))) := by
  rw [C_of (q := me146) rfl rfl rfl rfl, X_go E d me146 [] 400]
  rfl
set_option maxRecDepth 100000 in
theorem x147 (E : Nat × (Nat → Int32)) (d : Nat) (p0 : Int32) (p1 : Int32) (M : Nat → Nat → Int32) (L : Nat → Nat → Int64) : C E (d + 1) 147 [vI p0, vI p1] (M, L) = (bI (C E d 997 [vI p1, vI p0] (M, L)) fun r1 s1 => (bI (C E d 998 [vI (0 : Int32), vI r1] s1) fun r2 s2 => some (some (vI r2), s2))) := by
  rw [C_of (q := me147) rfl rfl rfl rfl, X_go E d me147 [] 400]
  rfl
set_option maxRecDepth 100000 in
theorem x148 (E : Nat × (Nat → Int32)) (d : Nat) (p0 : Int64) (p1 : Int64) (p2 : Int64) (M : Nat → Nat → Int32) (L : Nat → Nat → Int64) : C E (d + 1) 148 [vL p0, vL p1, vL p2] (M, L) = (if (lg_cmp p0 p1) < 0 then some (some (vI (0 : Int32)), (M, L)) else (if 0 < (lg_cmp p0 p2) then some (some (vI (0 : Int32)), (M, L)) else some (some (vI (1 : Int32)), (M, L)))) := by
  rw [C_of (q := me148) rfl rfl rfl rfl, X_go E d me148 [] 400]
  rfl
set_option maxRecDepth 100000 in
theorem x149 (E : Nat × (Nat → Int32)) (d : Nat) (p0 : Int32) (p1 : Int32) (M : Nat → Nat → Int32) (L : Nat → Nat → Int64) : C E (d + 1) 149 [vI p0, vI p1] (M, L) = (if ((p0 >>> (p1 &&& 31)) &&& (1 : Int32)) = (1 : Int32) then some (some (vI (1 : Int32)), (M, L)) else some (some (vI (0 : Int32)), (M, L))) := by
  rw [C_of (q := me149) rfl rfl rfl rfl, X_go E d me149 [] 400]
  rfl
set_option maxRecDepth 100000 in
theorem x150 (E : Nat × (Nat → Int32)) (d : Nat) (p0 : Int32) (M : Nat → Nat → Int32) (L : Nat → Nat → Int64) : C E (d + 1) 150 [vI p0] (M, L) = X E d me150 4 [some (vI p0), some (vI (0 : Int32)), some (vI (0 : Int32))] [] (M, L) := by
  rw [C_of (q := me150) rfl rfl rfl rfl, X_go E d me150 [4] 400]
  rfl
set_option maxRecDepth 100000 in
theorem x150_4 (E : Nat × (Nat → Int32)) (d : Nat) (x0 : Int32) (x1 : Int32) (x2 : Int32) (M : Nat → Nat → Int32) (L : Nat → Nat → Int64) : X E d me150 4 [some (vI x0), some (vI x1), some (vI x2)] [] (M, L) = (if (9 : Int32) ≤ x2 then some (some (vI x1), (M, L)) else X E d me150 4 [some (vI x0), some (vI (x1 + ((x0 >>> (x2 &&& 31)) &&& (1 : Int32)))), some (vI (x2 + (1 : Int32)))] [] (M, L)) := by
  rw [X_go E d me150 [4] 400]
  rfl
set_option maxRecDepth 100000 in
theorem x151 (E : Nat × (Nat → Int32)) (d : Nat) (p0 : Int32) (p1 : Int32) (M : Nat → Nat → Int32) (L : Nat → Nat → Int64) : C E (d + 1) 151 [vI p0, vI p1] (M, L) = (if p1 ≤ p0 then some (some (vI p1), (M, L)) else some (some (vI p0), (M, L))) := by
  rw [C_of (q := me151) rfl rfl rfl rfl, X_go E d me151 [] 400]
  rfl
set_option maxRecDepth 100000 in
theorem x152 (E : Nat × (Nat → Int32)) (d : Nat) (p0 : Int32) (M : Nat → Nat → Int32) (L : Nat → Nat → Int64) : C E (d + 1) 152 [vI p0] (M, L) = (if 0 ≤ p0 then (if p0 ≤ (99 : Int32) then some (some (vI p0), (M, L)) else some (some (vI (99 : Int32)), (M, L))) else some (some (vI (0 : Int32)), (M, L))) := by
  rw [C_of (q := me152) rfl rfl rfl rfl, X_go E d me152 [] 400]
  rfl
set_option maxRecDepth 100000 in
theorem x153 (E : Nat × (Nat → Int32)) (d : Nat) (p0 : Int32) (p1 : Int32) (M : Nat → Nat → Int32) (L : Nat → Nat → Int64) : C E (d + 1) 153 [vR 1 12 400, vI p0, vI p1] (M, L) = (if ib p0 62 then (if (M 401 (ix p0)) = p1 then some (some (vI (M 401 (ix p0))), (M, L)) else (if (M 400 5) = (40 : Int32) then X E d me153 26 [some (vR 1 12 400), some (vI p0), some (vI p1), some (vI (M 401 (ix p0))), some (vI (1 : Int32))] [] (M, L) else (if ib (M 400 5) 40 then (if ib ((u2 M 402 (ix (M 400 5)) p0) 400 5) 40 then (if ib ((u2 (u2 M 402 (ix (M 400 5)) p0) 403 (ix ((u2 M 402 (ix (M 400 5)) p0) 400 5)) (M 401 (ix p0))) 400 5) 40 then (if ib p0 62 then some (some (vI (M 401 (ix p0))), ((u2 (u2 (u2 (u2 (u2 (u2 M 402 (ix (M 400 5)) p0) 403 (ix ((u2 M 402 (ix (M 400 5)) p0) 400 5)) (M 401 (ix p0))) 404 (ix ((u2 (u2 M 402 (ix (M 400 5)) p0) 403 (ix ((u2 M 402 (ix (M 400 5)) p0) 400 5)) (M 401 (ix p0))) 400 5)) p1) 400 5 (((u2 (u2 (u2 M 402 (ix (M 400 5)) p0) 403 (ix ((u2 M 402 (ix (M 400 5)) p0) 400 5)) (M 401 (ix p0))) 404 (ix ((u2 (u2 M 402 (ix (M 400 5)) p0) 403 (ix ((u2 M 402 (ix (M 400 5)) p0) 400 5)) (M 401 (ix p0))) 400 5)) p1) 400 5) + (1 : Int32))) 400 4 ((u2 (u2 (u2 (u2 M 402 (ix (M 400 5)) p0) 403 (ix ((u2 M 402 (ix (M 400 5)) p0) 400 5)) (M 401 (ix p0))) 404 (ix ((u2 (u2 M 402 (ix (M 400 5)) p0) 403 (ix ((u2 M 402 (ix (M 400 5)) p0) 400 5)) (M 401 (ix p0))) 400 5)) p1) 400 5 (((u2 (u2 (u2 M 402 (ix (M 400 5)) p0) 403 (ix ((u2 M 402 (ix (M 400 5)) p0) 400 5)) (M 401 (ix p0))) 404 (ix ((u2 (u2 M 402 (ix (M 400 5)) p0) 403 (ix ((u2 M 402 (ix (M 400 5)) p0) 400 5)) (M 401 (ix p0))) 400 5)) p1) 400 5) + (1 : Int32))) 400 5)) 401 (ix p0) p1), L)) else none) else none) else none) else none))) else none) := by
  rw [C_of (q := me153) rfl rfl rfl rfl, X_go E d me153 [26] 400]
  rfl
set_option maxRecDepth 100000 in
theorem x153_26 (E : Nat × (Nat → Int32)) (d : Nat) (x1 : Int32) (x2 : Int32) (x3 : Int32) (x4 : Int32) (M : Nat → Nat → Int32) (L : Nat → Nat → Int64) : X E d me153 26 [some (vR 1 12 400), some (vI x1), some (vI x2), some (vI x3), some (vI x4)] [] (M, L) = (if (40 : Int32) ≤ x4 then (if ib ((u2 M 400 5 ((M 400 5) - (1 : Int32))) 400 5) 40 then (if ib ((u2 (u2 M 400 5 ((M 400 5) - (1 : Int32))) 402 (ix ((u2 M 400 5 ((M 400 5) - (1 : Int32))) 400 5)) x1) 400 5) 40 then (if ib ((u2 (u2 (u2 M 400 5 ((M 400 5) - (1 : Int32))) 402 (ix ((u2 M 400 5 ((M 400 5) - (1 : Int32))) 400 5)) x1) 403 (ix ((u2 (u2 M 400 5 ((M 400 5) - (1 : Int32))) 402 (ix ((u2 M 400 5 ((M 400 5) - (1 : Int32))) 400 5)) x1) 400 5)) x3) 400 5) 40 then (if ib x1 62 then some (some (vI x3), ((u2 (u2 (u2 (u2 (u2 (u2 (u2 M 400 5 ((M 400 5) - (1 : Int32))) 402 (ix ((u2 M 400 5 ((M 400 5) - (1 : Int32))) 400 5)) x1) 403 (ix ((u2 (u2 M 400 5 ((M 400 5) - (1 : Int32))) 402 (ix ((u2 M 400 5 ((M 400 5) - (1 : Int32))) 400 5)) x1) 400 5)) x3) 404 (ix ((u2 (u2 (u2 M 400 5 ((M 400 5) - (1 : Int32))) 402 (ix ((u2 M 400 5 ((M 400 5) - (1 : Int32))) 400 5)) x1) 403 (ix ((u2 (u2 M 400 5 ((M 400 5) - (1 : Int32))) 402 (ix ((u2 M 400 5 ((M 400 5) - (1 : Int32))) 400 5)) x1) 400 5)) x3) 400 5)) x2) 400 5 (((u2 (u2 (u2 (u2 M 400 5 ((M 400 5) - (1 : Int32))) 402 (ix ((u2 M 400 5 ((M 400 5) - (1 : Int32))) 400 5)) x1) 403 (ix ((u2 (u2 M 400 5 ((M 400 5) - (1 : Int32))) 402 (ix ((u2 M 400 5 ((M 400 5) - (1 : Int32))) 400 5)) x1) 400 5)) x3) 404 (ix ((u2 (u2 (u2 M 400 5 ((M 400 5) - (1 : Int32))) 402 (ix ((u2 M 400 5 ((M 400 5) - (1 : Int32))) 400 5)) x1) 403 (ix ((u2 (u2 M 400 5 ((M 400 5) - (1 : Int32))) 402 (ix ((u2 M 400 5 ((M 400 5) - (1 : Int32))) 400 5)) x1) 400 5)) x3) 400 5)) x2) 400 5) + (1 : Int32))) 400 4 ((u2 (u2 (u2 (u2 (u2 M 400 5 ((M 400 5) - (1 : Int32))) 402 (ix ((u2 M 400 5 ((M 400 5) - (1 : Int32))) 400 5)) x1) 403 (ix ((u2 (u2 M 400 5 ((M 400 5) - (1 : Int32))) 402 (ix ((u2 M 400 5 ((M 400 5) - (1 : Int32))) 400 5)) x1) 400 5)) x3) 404 (ix ((u2 (u2 (u2 M 400 5 ((M 400 5) - (1 : Int32))) 402 (ix ((u2 M 400 5 ((M 400 5) - (1 : Int32))) 400 5)) x1) 403 (ix ((u2 (u2 M 400 5 ((M 400 5) - (1 : Int32))) 402 (ix ((u2 M 400 5 ((M 400 5) - (1 : Int32))) 400 5)) x1) 400 5)) x3) 400 5)) x2) 400 5 (((u2 (u2 (u2 (u2 M 400 5 ((M 400 5) - (1 : Int32))) 402 (ix ((u2 M 400 5 ((M 400 5) - (1 : Int32))) 400 5)) x1) 403 (ix ((u2 (u2 M 400 5 ((M 400 5) - (1 : Int32))) 402 (ix ((u2 M 400 5 ((M 400 5) - (1 : Int32))) 400 5)) x1) 400 5)) x3) 404 (ix ((u2 (u2 (u2 M 400 5 ((M 400 5) - (1 : Int32))) 402 (ix ((u2 M 400 5 ((M 400 5) - (1 : Int32))) 400 5)) x1) 403 (ix ((u2 (u2 M 400 5 ((M 400 5) - (1 : Int32))) 402 (ix ((u2 M 400 5 ((M 400 5) - (1 : Int32))) 400 5)) x1) 400 5)) x3) 400 5)) x2) 400 5) + (1 : Int32))) 400 5)) 401 (ix x1) x2), L)) else none) else none) else none) else none) else (if ib x4 40 then (if ib (x4 - (1 : Int32)) 40 then (if ib x4 40 then (if ib (x4 - (1 : Int32)) 40 then (if ib x4 40 then (if ib (x4 - (1 : Int32)) 40 then X E d me153 26 [some (vR 1 12 400), some (vI x1), some (vI x2), some (vI x3), some (vI (x4 + (1 : Int32)))] [] ((u2 (u2 (u2 M 402 (ix (x4 - (1 : Int32))) (M 402 (ix x4))) 403 (ix (x4 - (1 : Int32))) ((u2 M 402 (ix (x4 - (1 : Int32))) (M 402 (ix x4))) 403 (ix x4))) 404 (ix (x4 - (1 : Int32))) ((u2 (u2 M 402 (ix (x4 - (1 : Int32))) (M 402 (ix x4))) 403 (ix (x4 - (1 : Int32))) ((u2 M 402 (ix (x4 - (1 : Int32))) (M 402 (ix x4))) 403 (ix x4))) 404 (ix x4))), L) else none) else none) else none) else none) else none) else none)) := by
  rw [X_go E d me153 [26] 400]
  rfl
set_option maxRecDepth 100000 in
theorem x154 (E : Nat × (Nat → Int32)) (d : Nat)  (M : Nat → Nat → Int32) (L : Nat → Nat → Int64) : C E (d + 1) 154 [vR 1 12 400] (M, L) = (if (M 400 5) = 0 then some (some (vI (-5 : Int32)), (M, L)) else (if ib ((u2 M 400 5 ((M 400 5) - (1 : Int32))) 400 5) 40 then (if ib ((u2 M 400 5 ((M 400 5) - (1 : Int32))) 400 5) 40 then (if ib ((u2 M 400 5 ((M 400 5) - (1 : Int32))) 402 (ix ((u2 M 400 5 ((M 400 5) - (1 : Int32))) 400 5))) 62 then some (some (vI ((u2 (u2 M 400 5 ((M 400 5) - (1 : Int32))) 401 (ix ((u2 M 400 5 ((M 400 5) - (1 : Int32))) 402 (ix ((u2 M 400 5 ((M 400 5) - (1 : Int32))) 400 5)))) ((u2 M 400 5 ((M 400 5) - (1 : Int32))) 403 (ix ((u2 M 400 5 ((M 400 5) - (1 : Int32))) 400 5)))) 400 5)), ((u2 (u2 M 400 5 ((M 400 5) - (1 : Int32))) 401 (ix ((u2 M 400 5 ((M 400 5) - (1 : Int32))) 402 (ix ((u2 M 400 5 ((M 400 5) - (1 : Int32))) 400 5)))) ((u2 M 400 5 ((M 400 5) - (1 : Int32))) 403 (ix ((u2 M 400 5 ((M 400 5) - (1 : Int32))) 400 5)))), L)) else none) else none) else none)) := by
  rw [C_of (q := me154) rfl rfl rfl rfl, X_go E d me154 [] 400]
  rfl
set_option maxRecDepth 100000 in
theorem x155 (E : Nat × (Nat → Int32)) (d : Nat)  (M : Nat → Nat → Int32) (L : Nat → Nat → Int64) : C E (d + 1) 155 [vR 1 12 400] (M, L) = (if (M 400 5) = (M 400 4) then some (some (vI (-5 : Int32)), (M, L)) else (if ib (M 400 5) 40 then (if ib (M 400 5) 40 then (if ib (M 402 (ix (M 400 5))) 62 then some (some (vI (((u2 (u2 M 401 (ix (M 402 (ix (M 400 5)))) (M 404 (ix (M 400 5)))) 400 5 (((u2 M 401 (ix (M 402 (ix (M 400 5)))) (M 404 (ix (M 400 5)))) 400 5) + (1 : Int32))) 400 4) - ((u2 (u2 M 401 (ix (M 402 (ix (M 400 5)))) (M 404 (ix (M 400 5)))) 400 5 (((u2 M 401 (ix (M 402 (ix (M 400 5)))) (M 404 (ix (M 400 5)))) 400 5) + (1 : Int32))) 400 5))), ((u2 (u2 M 401 (ix (M 402 (ix (M 400 5)))) (M 404 (ix (M 400 5)))) 400 5 (((u2 M 401 (ix (M 402 (ix (M 400 5)))) (M 404 (ix (M 400 5)))) 400 5) + (1 : Int32))), L)) else none) else none) else none)) := by
  rw [C_of (q := me155) rfl rfl rfl rfl, X_go E d me155 [] 400]
  rfl
set_option maxRecDepth 100000 in
theorem x156 (E : Nat × (Nat → Int32)) (d : Nat) (p0 : Int64) (M : Nat → Nat → Int32) (L : Nat → Nat → Int64) : C E (d + 1) 156 [vR 1 12 400, vL p0] (M, L) = (bI (C E d 148 [vL p0, vL (0 : Int64), vL (Int32.toInt64 ((M 400 6) - (1 : Int32)))] (M, L)) fun r1 s1 => (if r1 = 0 ∨ r1 = 1 then some (some (vI r1), s1) else none)) := by
  rw [C_of (q := me156) rfl rfl rfl rfl, X_go E d me156 [] 400]
  rfl
set_option maxRecDepth 100000 in
theorem x157 (E : Nat × (Nat → Int32)) (d : Nat) (p0 : Int64) (M : Nat → Nat → Int32) (L : Nat → Nat → Int64) : C E (d + 1) 157 [vR 1 12 400, vL p0] (M, L) = (bI (C E d 148 [vL p0, vL (0 : Int64), vL (Int32.toInt64 ((M 400 7) - (1 : Int32)))] (M, L)) fun r1 s1 => (if r1 = 0 ∨ r1 = 1 then some (some (vI r1), s1) else none)) := by
  rw [C_of (q := me157) rfl rfl rfl rfl, X_go E d me157 [] 400]
  rfl
set_option maxRecDepth 100000 in
theorem x158 (E : Nat × (Nat → Int32)) (d : Nat) (p0 : Int64) (M : Nat → Nat → Int32) (L : Nat → Nat → Int64) : C E (d + 1) 158 [vL p0] (M, L) = (bI (C E d 148 [vL p0, vL (0 : Int64), vL (7 : Int64)] (M, L)) fun r1 s1 => (if r1 = 0 ∨ r1 = 1 then some (some (vI r1), s1) else none)) := by
  rw [C_of (q := me158) rfl rfl rfl rfl, X_go E d me158 [] 400]
  rfl
set_option maxRecDepth 100000 in
theorem x159 (E : Nat × (Nat → Int32)) (d : Nat) (p0 : Int32) (M : Nat → Nat → Int32) (L : Nat → Nat → Int64) : C E (d + 1) 159 [vI p0] (M, L) = (if p0 < 0 then some (some (vI (0 : Int32)), (M, L)) else (bI (C E d 158 [vL (Int32.toInt64 (p0 / (10 : Int32)))] (M, L)) fun r1 s1 => (if r1 = 0 then some (some (vI (0 : Int32)), s1) else (bI (C E d 158 [vL (Int32.toInt64 (rm32 p0 (10 : Int32)))] s1) fun r2 s2 => (if r2 = 0 then some (some (vI (0 : Int32)), s2) else (if (p0 / (10 : Int32)) = (rm32 p0 (10 : Int32)) then some (some (vI (0 : Int32)), s2) else some (some (vI (1 : Int32)), s2))))))) := by
  rw [C_of (q := me159) rfl rfl rfl rfl, X_go E d me159 [] 400]
  rfl
set_option maxRecDepth 100000 in
theorem x160 (E : Nat × (Nat → Int32)) (d : Nat) (p0 : Int64) (M : Nat → Nat → Int32) (L : Nat → Nat → Int64) : C E (d + 1) 160 [vR 1 12 400, vL p0] (M, L) = (if (lg_cmp p0 (-1 : Int64)) = 0 then some (some (vI (1 : Int32)), (M, L)) else (bI (C E d 156 [vR 1 12 400, vL p0] (M, L)) fun r1 s1 => (if r1 = 0 then some (some (vI (0 : Int32)), s1) else some (some (vI (1 : Int32)), s1)))) := by
  rw [C_of (q := me160) rfl rfl rfl rfl, X_go E d me160 [] 400]
  rfl
set_option maxRecDepth 100000 in
theorem x161 (E : Nat × (Nat → Int32)) (d : Nat) (p0 : Int32) (p1 : Int32) (M : Nat → Nat → Int32) (L : Nat → Nat → Int64) : C E (d + 1) 161 [vR 1 12 400, vI p0, vI p1] (M, L) = (bI (C E d 159 [vI p0] (M, L)) fun r1 s1 => (if r1 = 0 then some (some (vI (-1 : Int32)), s1) else (bI (C E d 148 [vL (Int32.toInt64 p1), vL (1 : Int64), vL (9 : Int64)] s1) fun r2 s2 => (if r2 = 0 then some (some (vI (-1 : Int32)), s2) else (if (s2.1 400 6) = (8 : Int32) then some (some (vI (-3 : Int32)), s2) else (if ib (s2.1 400 6) 8 then (if ib ((u2 s2.1 409 (ix (s2.1 400 6)) (p0 / (10 : Int32))) 400 6) 8 then (if ib ((u2 (u2 s2.1 409 (ix (s2.1 400 6)) (p0 / (10 : Int32))) 410 (ix ((u2 s2.1 409 (ix (s2.1 400 6)) (p0 / (10 : Int32))) 400 6)) (rm32 p0 (10 : Int32))) 400 6) 62 then (if ib ((8 : Int32) + ((u2 (u2 (u2 s2.1 409 (ix (s2.1 400 6)) (p0 / (10 : Int32))) 410 (ix ((u2 s2.1 409 (ix (s2.1 400 6)) (p0 / (10 : Int32))) 400 6)) (rm32 p0 (10 : Int32))) 401 (ix ((u2 (u2 s2.1 409 (ix (s2.1 400 6)) (p0 / (10 : Int32))) 410 (ix ((u2 s2.1 409 (ix (s2.1 400 6)) (p0 / (10 : Int32))) 400 6)) (rm32 p0 (10 : Int32))) 400 6)) p1) 400 6)) 62 then (if ib ((16 : Int32) + ((u2 (u2 (u2 (u2 s2.1 409 (ix (s2.1 400 6)) (p0 / (10 : Int32))) 410 (ix ((u2 s2.1 409 (ix (s2.1 400 6)) (p0 / (10 : Int32))) 400 6)) (rm32 p0 (10 : Int32))) 401 (ix ((u2 (u2 s2.1 409 (ix (s2.1 400 6)) (p0 / (10 : Int32))) 410 (ix ((u2 s2.1 409 (ix (s2.1 400 6)) (p0 / (10 : Int32))) 400 6)) (rm32 p0 (10 : Int32))) 400 6)) p1) 401 (ix ((8 : Int32) + ((u2 (u2 (u2 s2.1 409 (ix (s2.1 400 6)) (p0 / (10 : Int32))) 410 (ix ((u2 s2.1 409 (ix (s2.1 400 6)) (p0 / (10 : Int32))) 400 6)) (rm32 p0 (10 : Int32))) 401 (ix ((u2 (u2 s2.1 409 (ix (s2.1 400 6)) (p0 / (10 : Int32))) 410 (ix ((u2 s2.1 409 (ix (s2.1 400 6)) (p0 / (10 : Int32))) 400 6)) (rm32 p0 (10 : Int32))) 400 6)) p1) 400 6))) (99 : Int32)) 400 6)) 62 then some (some (vI (((u2 (u2 (u2 (u2 (u2 (u2 s2.1 409 (ix (s2.1 400 6)) (p0 / (10 : Int32))) 410 (ix ((u2 s2.1 409 (ix (s2.1 400 6)) (p0 / (10 : Int32))) 400 6)) (rm32 p0 (10 : Int32))) 401 (ix ((u2 (u2 s2.1 409 (ix (s2.1 400 6)) (p0 / (10 : Int32))) 410 (ix ((u2 s2.1 409 (ix (s2.1 400 6)) (p0 / (10 : Int32))) 400 6)) (rm32 p0 (10 : Int32))) 400 6)) p1) 401 (ix ((8 : Int32) + ((u2 (u2 (u2 s2.1 409 (ix (s2.1 400 6)) (p0 / (10 : Int32))) 410 (ix ((u2 s2.1 409 (ix (s2.1 400 6)) (p0 / (10 : Int32))) 400 6)) (rm32 p0 (10 : Int32))) 401 (ix ((u2 (u2 s2.1 409 (ix (s2.1 400 6)) (p0 / (10 : Int32))) 410 (ix ((u2 s2.1 409 (ix (s2.1 400 6)) (p0 / (10 : Int32))) 400 6)) (rm32 p0 (10 : Int32))) 400 6)) p1) 400 6))) (99 : Int32)) 401 (ix ((16 : Int32) + ((u2 (u2 (u2 (u2 s2.1 409 (ix (s2.1 400 6)) (p0 / (10 : Int32))) 410 (ix ((u2 s2.1 409 (ix (s2.1 400 6)) (p0 / (10 : Int32))) 400 6)) (rm32 p0 (10 : Int32))) 401 (ix ((u2 (u2 s2.1 409 (ix (s2.1 400 6)) (p0 / (10 : Int32))) 410 (ix ((u2 s2.1 409 (ix (s2.1 400 6)) (p0 / (10 : Int32))) 400 6)) (rm32 p0 (10 : Int32))) 400 6)) p1) 401 (ix ((8 : Int32) + ((u2 (u2 (u2 s2.1 409 (ix (s2.1 400 6)) (p0 / (10 : Int32))) 410 (ix ((u2 s2.1 409 (ix (s2.1 400 6)) (p0 / (10 : Int32))) 400 6)) (rm32 p0 (10 : Int32))) 401 (ix ((u2 (u2 s2.1 409 (ix (s2.1 400 6)) (p0 / (10 : Int32))) 410 (ix ((u2 s2.1 409 (ix (s2.1 400 6)) (p0 / (10 : Int32))) 400 6)) (rm32 p0 (10 : Int32))) 400 6)) p1) 400 6))) (99 : Int32)) 400 6))) (3 : Int32)) 400 6 (((u2 (u2 (u2 (u2 (u2 s2.1 409 (ix (s2.1 400 6)) (p0 / (10 : Int32))) 410 (ix ((u2 s2.1 409 (ix (s2.1 400 6)) (p0 / (10 : Int32))) 400 6)) (rm32 p0 (10 : Int32))) 401 (ix ((u2 (u2 s2.1 409 (ix (s2.1 400 6)) (p0 / (10 : Int32))) 410 (ix ((u2 s2.1 409 (ix (s2.1 400 6)) (p0 / (10 : Int32))) 400 6)) (rm32 p0 (10 : Int32))) 400 6)) p1) 401 (ix ((8 : Int32) + ((u2 (u2 (u2 s2.1 409 (ix (s2.1 400 6)) (p0 / (10 : Int32))) 410 (ix ((u2 s2.1 409 (ix (s2.1 400 6)) (p0 / (10 : Int32))) 400 6)) (rm32 p0 (10 : Int32))) 401 (ix ((u2 (u2 s2.1 409 (ix (s2.1 400 6)) (p0 / (10 : Int32))) 410 (ix ((u2 s2.1 409 (ix (s2.1 400 6)) (p0 / (10 : Int32))) 400 6)) (rm32 p0 (10 : Int32))) 400 6)) p1) 400 6))) (99 : Int32)) 401 (ix ((16 : Int32) + ((u2 (u2 (u2 (u2 s2.1 409 (ix (s2.1 400 6)) (p0 / (10 : Int32))) 410 (ix ((u2 s2.1 409 (ix (s2.1 400 6)) (p0 / (10 : Int32))) 400 6)) (rm32 p0 (10 : Int32))) 401 (ix ((u2 (u2 s2.1 409 (ix (s2.1 400 6)) (p0 / (10 : Int32))) 410 (ix ((u2 s2.1 409 (ix (s2.1 400 6)) (p0 / (10 : Int32))) 400 6)) (rm32 p0 (10 : Int32))) 400 6)) p1) 401 (ix ((8 : Int32) + ((u2 (u2 (u2 s2.1 409 (ix (s2.1 400 6)) (p0 / (10 : Int32))) 410 (ix ((u2 s2.1 409 (ix (s2.1 400 6)) (p0 / (10 : Int32))) 400 6)) (rm32 p0 (10 : Int32))) 401 (ix ((u2 (u2 s2.1 409 (ix (s2.1 400 6)) (p0 / (10 : Int32))) 410 (ix ((u2 s2.1 409 (ix (s2.1 400 6)) (p0 / (10 : Int32))) 400 6)) (rm32 p0 (10 : Int32))) 400 6)) p1) 400 6))) (99 : Int32)) 400 6))) (3 : Int32)) 400 6) + (1 : Int32))) 400 6) - (1 : Int32))), ((u2 (u2 (u2 (u2 (u2 (u2 s2.1 409 (ix (s2.1 400 6)) (p0 / (10 : Int32))) 410 (ix ((u2 s2.1 409 (ix (s2.1 400 6)) (p0 / (10 : Int32))) 400 6)) (rm32 p0 (10 : Int32))) 401 (ix ((u2 (u2 s2.1 409 (ix (s2.1 400 6)) (p0 / (10 : Int32))) 410 (ix ((u2 s2.1 409 (ix (s2.1 400 6)) (p0 / (10 : Int32))) 400 6)) (rm32 p0 (10 : Int32))) 400 6)) p1) 401 (ix ((8 : Int32) + ((u2 (u2 (u2 s2.1 409 (ix (s2.1 400 6)) (p0 / (10 : Int32))) 410 (ix ((u2 s2.1 409 (ix (s2.1 400 6)) (p0 / (10 : Int32))) 400 6)) (rm32 p0 (10 : Int32))) 401 (ix ((u2 (u2 s2.1 409 (ix (s2.1 400 6)) (p0 / (10 : Int32))) 410 (ix ((u2 s2.1 409 (ix (s2.1 400 6)) (p0 / (10 : Int32))) 400 6)) (rm32 p0 (10 : Int32))) 400 6)) p1) 400 6))) (99 : Int32)) 401 (ix ((16 : Int32) + ((u2 (u2 (u2 (u2 s2.1 409 (ix (s2.1 400 6)) (p0 / (10 : Int32))) 410 (ix ((u2 s2.1 409 (ix (s2.1 400 6)) (p0 / (10 : Int32))) 400 6)) (rm32 p0 (10 : Int32))) 401 (ix ((u2 (u2 s2.1 409 (ix (s2.1 400 6)) (p0 / (10 : Int32))) 410 (ix ((u2 s2.1 409 (ix (s2.1 400 6)) (p0 / (10 : Int32))) 400 6)) (rm32 p0 (10 : Int32))) 400 6)) p1) 401 (ix ((8 : Int32) + ((u2 (u2 (u2 s2.1 409 (ix (s2.1 400 6)) (p0 / (10 : Int32))) 410 (ix ((u2 s2.1 409 (ix (s2.1 400 6)) (p0 / (10 : Int32))) 400 6)) (rm32 p0 (10 : Int32))) 401 (ix ((u2 (u2 s2.1 409 (ix (s2.1 400 6)) (p0 / (10 : Int32))) 410 (ix ((u2 s2.1 409 (ix (s2.1 400 6)) (p0 / (10 : Int32))) 400 6)) (rm32 p0 (10 : Int32))) 400 6)) p1) 400 6))) (99 : Int32)) 400 6))) (3 : Int32)) 400 6 (((u2 (u2 (u2 (u2 (u2 s2.1 409 (ix (s2.1 400 6)) (p0 / (10 : Int32))) 410 (ix ((u2 s2.1 409 (ix (s2.1 400 6)) (p0 / (10 : Int32))) 400 6)) (rm32 p0 (10 : Int32))) 401 (ix ((u2 (u2 s2.1 409 (ix (s2.1 400 6)) (p0 / (10 : Int32))) 410 (ix ((u2 s2.1 409 (ix (s2.1 400 6)) (p0 / (10 : Int32))) 400 6)) (rm32 p0 (10 : Int32))) 400 6)) p1) 401 (ix ((8 : Int32) + ((u2 (u2 (u2 s2.1 409 (ix (s2.1 400 6)) (p0 / (10 : Int32))) 410 (ix ((u2 s2.1 409 (ix (s2.1 400 6)) (p0 / (10 : Int32))) 400 6)) (rm32 p0 (10 : Int32))) 401 (ix ((u2 (u2 s2.1 409 (ix (s2.1 400 6)) (p0 / (10 : Int32))) 410 (ix ((u2 s2.1 409 (ix (s2.1 400 6)) (p0 / (10 : Int32))) 400 6)) (rm32 p0 (10 : Int32))) 400 6)) p1) 400 6))) (99 : Int32)) 401 (ix ((16 : Int32) + ((u2 (u2 (u2 (u2 s2.1 409 (ix (s2.1 400 6)) (p0 / (10 : Int32))) 410 (ix ((u2 s2.1 409 (ix (s2.1 400 6)) (p0 / (10 : Int32))) 400 6)) (rm32 p0 (10 : Int32))) 401 (ix ((u2 (u2 s2.1 409 (ix (s2.1 400 6)) (p0 / (10 : Int32))) 410 (ix ((u2 s2.1 409 (ix (s2.1 400 6)) (p0 / (10 : Int32))) 400 6)) (rm32 p0 (10 : Int32))) 400 6)) p1) 401 (ix ((8 : Int32) + ((u2 (u2 (u2 s2.1 409 (ix (s2.1 400 6)) (p0 / (10 : Int32))) 410 (ix ((u2 s2.1 409 (ix (s2.1 400 6)) (p0 / (10 : Int32))) 400 6)) (rm32 p0 (10 : Int32))) 401 (ix ((u2 (u2 s2.1 409 (ix (s2.1 400 6)) (p0 / (10 : Int32))) 410 (ix ((u2 s2.1 409 (ix (s2.1 400 6)) (p0 / (10 : Int32))) 400 6)) (rm32 p0 (10 : Int32))) 400 6)) p1) 400 6))) (99 : Int32)) 400 6))) (3 : Int32)) 400 6) + (1 : Int32))), s2.2)) else none) else none) else none) else none) else none)))))) := by
  rw [C_of (q := me161) rfl rfl rfl rfl, X_go E d me161 [] 400]
  rfl
set_option maxRecDepth 100000 in
theorem x162 (E : Nat × (Nat → Int32)) (d : Nat) (p0 : Int64) (p1 : Int64) (p2 : Int64) (p3 : Int64) (M : Nat → Nat → Int32) (L : Nat → Nat → Int64) : C E (d + 1) 162 [vR 1 12 400, vL p0, vL p1, vL p2, vL p3] (M, L) = (bI (C E d 148 [vL p0, vL (0 : Int64), vL (99 : Int64)] (M, L)) fun r1 s1 => (if r1 = 0 then some (some (vI (0 : Int32)), s1) else (bI (C E d 148 [vL p1, vL (0 : Int64), vL (9 : Int64)] s1) fun r2 s2 => (if r2 = 0 then some (some (vI (0 : Int32)), s2) else (bI (C E d 148 [vL p2, vL (0 : Int64), vL (9 : Int64)] s2) fun r3 s3 => (if r3 = 0 then some (some (vI (0 : Int32)), s3) else (bI (C E d 160 [vR 1 12 400, vL p3] s3) fun r4 s4 => (if r4 = 0 then some (some (vI (0 : Int32)), s4) else some (some (vI (1 : Int32)), s4))))))))) := by
  rw [C_of (q := me162) rfl rfl rfl rfl, X_go E d me162 [] 400]
  rfl
set_option maxRecDepth 100000 in
theorem x163 (E : Nat × (Nat → Int32)) (d : Nat) (p0 : Int32) (p1 : Int32) (p2 : Int32) (p3 : Int32) (M : Nat → Nat → Int32) (L : Nat → Nat → Int64) : C E (d + 1) 163 [vR 1 12 400, vI p0, vI p1, vI p2, vI p3] (M, L) = (if ib ((24 : Int32) + (M 400 7)) 62 then (if ib ((33 : Int32) + ((u2 M 401 (ix ((24 : Int32) + (M 400 7))) p0) 400 7)) 62 then (if ib ((42 : Int32) + ((u2 (u2 M 401 (ix ((24 : Int32) + (M 400 7))) p0) 401 (ix ((33 : Int32) + ((u2 M 401 (ix ((24 : Int32) + (M 400 7))) p0) 400 7))) p1) 400 7)) 62 then (if ib ((51 : Int32) + ((u2 (u2 (u2 M 401 (ix ((24 : Int32) + (M 400 7))) p0) 401 (ix ((33 : Int32) + ((u2 M 401 (ix ((24 : Int32) + (M 400 7))) p0) 400 7))) p1) 401 (ix ((42 : Int32) + ((u2 (u2 M 401 (ix ((24 : Int32) + (M 400 7))) p0) 401 (ix ((33 : Int32) + ((u2 M 401 (ix ((24 : Int32) + (M 400 7))) p0) 400 7))) p1) 400 7))) p2) 400 7)) 62 then some (none, ((u2 (u2 (u2 (u2 (u2 M 401 (ix ((24 : Int32) + (M 400 7))) p0) 401 (ix ((33 : Int32) + ((u2 M 401 (ix ((24 : Int32) + (M 400 7))) p0) 400 7))) p1) 401 (ix ((42 : Int32) + ((u2 (u2 M 401 (ix ((24 : Int32) + (M 400 7))) p0) 401 (ix ((33 : Int32) + ((u2 M 401 (ix ((24 : Int32) + (M 400 7))) p0) 400 7))) p1) 400 7))) p2) 401 (ix ((51 : Int32) + ((u2 (u2 (u2 M 401 (ix ((24 : Int32) + (M 400 7))) p0) 401 (ix ((33 : Int32) + ((u2 M 401 (ix ((24 : Int32) + (M 400 7))) p0) 400 7))) p1) 401 (ix ((42 : Int32) + ((u2 (u2 M 401 (ix ((24 : Int32) + (M 400 7))) p0) 401 (ix ((33 : Int32) + ((u2 M 401 (ix ((24 : Int32) + (M 400 7))) p0) 400 7))) p1) 400 7))) p2) 400 7))) p3) 400 7 (((u2 (u2 (u2 (u2 M 401 (ix ((24 : Int32) + (M 400 7))) p0) 401 (ix ((33 : Int32) + ((u2 M 401 (ix ((24 : Int32) + (M 400 7))) p0) 400 7))) p1) 401 (ix ((42 : Int32) + ((u2 (u2 M 401 (ix ((24 : Int32) + (M 400 7))) p0) 401 (ix ((33 : Int32) + ((u2 M 401 (ix ((24 : Int32) + (M 400 7))) p0) 400 7))) p1) 400 7))) p2) 401 (ix ((51 : Int32) + ((u2 (u2 (u2 M 401 (ix ((24 : Int32) + (M 400 7))) p0) 401 (ix ((33 : Int32) + ((u2 M 401 (ix ((24 : Int32) + (M 400 7))) p0) 400 7))) p1) 401 (ix ((42 : Int32) + ((u2 (u2 M 401 (ix ((24 : Int32) + (M 400 7))) p0) 401 (ix ((33 : Int32) + ((u2 M 401 (ix ((24 : Int32) + (M 400 7))) p0) 400 7))) p1) 400 7))) p2) 400 7))) p3) 400 7) + (1 : Int32))), L)) else none) else none) else none) else none) := by
  rw [C_of (q := me163) rfl rfl rfl rfl, X_go E d me163 [] 400]
  rfl
set_option maxRecDepth 100000 in
theorem x164 (E : Nat × (Nat → Int32)) (d : Nat) (p0 : Int32) (p1 : Int32) (M : Nat → Nat → Int32) (L : Nat → Nat → Int64) : C E (d + 1) 164 [vR 1 12 400, vI p0, vI p1] (M, L) = (bI (C E d 162 [vR 1 12 400, vL (0 : Int64), vL (Int32.toInt64 p0), vL (Int32.toInt64 p1), vL (-1 : Int64)] (M, L)) fun r1 s1 => (if r1 = 0 then some (some (vI (-1 : Int32)), s1) else (if (s1.1 400 7) = (9 : Int32) then some (some (vI (-3 : Int32)), s1) else (bV (C E d 163 [vR 1 12 400, vI (0 : Int32), vI p0, vI p1, vI (-1 : Int32)] s1) fun s2 => some (some (vI ((s2.1 400 7) - (1 : Int32))), s2))))) := by
  rw [C_of (q := me164) rfl rfl rfl rfl, X_go E d me164 [] 400]
  rfl
set_option maxRecDepth 100000 in
theorem x165 (E : Nat × (Nat → Int32)) (d : Nat) (p0 : Int32) (p1 : Int32) (p2 : Int32) (M : Nat → Nat → Int32) (L : Nat → Nat → Int64) : C E (d + 1) 165 [vR 1 12 400, vI p0, vI p1, vI p2] (M, L) = (bI (C E d 240 [vI p0] (M, L)) fun r1 s1 => (if r1 = 0 then some (some (vI (-1 : Int32)), s1) else (bI (C E d 148 [vL (Int32.toInt64 p2), vL (1 : Int64), vL (9 : Int64)] s1) fun r2 s2 => (if r2 = 0 then some (some (vI (-1 : Int32)), s2) else (if ib p0 6 then (if (s2.1 447 (ix p0)) < 0 then (if ib p0 6 then (if (s2.1 447 (ix p0)) = (50 : Int32) then (if p1 < 0 then X E d me165 69 [some (vR 1 12 400), some (vI p0), some (vI p1), some (vI p2), some (vI (0 : Int32)), some (vI (0 : Int32)), none] [] s2 else X E d me165 69 [some (vR 1 12 400), some (vI p0), some (vI p1), some (vI p2), some (vI (0 : Int32)), some (vI (1 : Int32)), none] [] s2) else X E d me165 69 [some (vR 1 12 400), some (vI p0), some (vI p1), some (vI p2), some (vI (0 : Int32)), some (vI (0 : Int32)), none] [] s2) else none) else (if ib p0 6 then (if (s2.1 447 (ix p0)) = (50 : Int32) then (if ib p0 6 then (if (s2.1 447 (ix p0)) = (50 : Int32) then (if p1 < 0 then X E d me165 69 [some (vR 1 12 400), some (vI p0), some (vI p1), some (vI p2), some (vI (0 : Int32)), some (vI (0 : Int32)), none] [] s2 else X E d me165 69 [some (vR 1 12 400), some (vI p0), some (vI p1), some (vI p2), some (vI (0 : Int32)), some (vI (1 : Int32)), none] [] s2) else X E d me165 69 [some (vR 1 12 400), some (vI p0), some (vI p1), some (vI p2), some (vI (0 : Int32)), some (vI (0 : Int32)), none] [] s2) else none) else some (some (vI (-12 : Int32)), s2)) else none)) else none))))) := by
  rw [C_of (q := me165) rfl rfl rfl rfl, X_go E d me165 [69] 400]
  rfl
set_option maxRecDepth 100000 in
theorem x165_69 (E : Nat × (Nat → Int32)) (d : Nat) (x1 : Int32) (x2 : Int32) (x3 : Int32) (x4 : Int32) (x5 : Int32) (w6 : Option PV) (M : Nat → Nat → Int32) (L : Nat → Nat → Int64) : X E d me165 69 [some (vR 1 12 400), some (vI x1), some (vI x2), some (vI x3), some (vI x4), some (vI x5), w6] [] (M, L) = (if x5 = 0 then some (some (vI x4), (M, L)) else (if x3 ≤ x4 then some (some (vI x4), (M, L)) else (if ib x1 6 then (if (((M 448 (ix x1)) - (4 : Int32)) - ((4 : Int32) * x4)) < x2 then X E d me165 69 [some (vR 1 12 400), some (vI x1), some (vI x2), some (vI x3), some (vI x4), some (vI (0 : Int32)), some (vI ((((60 : Int32) * x1) + x2) + ((4 : Int32) * x4)))] [] (M, L) else (if (9 : Int32) ≤ (M 400 7) then X E d me165 69 [some (vR 1 12 400), some (vI x1), some (vI x2), some (vI x3), some (vI x4), some (vI (0 : Int32)), some (vI ((((60 : Int32) * x1) + x2) + ((4 : Int32) * x4)))] [] (M, L) else (if ib ((((60 : Int32) * x1) + x2) + ((4 : Int32) * x4)) 360 then (if ib (((((60 : Int32) * x1) + x2) + ((4 : Int32) * x4)) + (1 : Int32)) 360 then (if ib (((((60 : Int32) * x1) + x2) + ((4 : Int32) * x4)) + (2 : Int32)) 360 then (if ib (((((60 : Int32) * x1) + x2) + ((4 : Int32) * x4)) + (3 : Int32)) 360 then (bI (C E d 162 [vR 1 12 400, vL (L 449 (ix ((((60 : Int32) * x1) + x2) + ((4 : Int32) * x4)))), vL (L 449 (ix (((((60 : Int32) * x1) + x2) + ((4 : Int32) * x4)) + (1 : Int32)))), vL (L 449 (ix (((((60 : Int32) * x1) + x2) + ((4 : Int32) * x4)) + (2 : Int32)))), vL (L 449 (ix (((((60 : Int32) * x1) + x2) + ((4 : Int32) * x4)) + (3 : Int32))))] (M, L)) fun r3 s3 => (if r3 = 0 then X E d me165 69 [some (vR 1 12 400), some (vI x1), some (vI x2), some (vI x3), some (vI x4), some (vI (0 : Int32)), some (vI ((((60 : Int32) * x1) + x2) + ((4 : Int32) * x4)))] [] s3 else (if ib ((((60 : Int32) * x1) + x2) + ((4 : Int32) * x4)) 360 then (if ib (((((60 : Int32) * x1) + x2) + ((4 : Int32) * x4)) + (1 : Int32)) 360 then (if ib (((((60 : Int32) * x1) + x2) + ((4 : Int32) * x4)) + (2 : Int32)) 360 then (if ib (((((60 : Int32) * x1) + x2) + ((4 : Int32) * x4)) + (3 : Int32)) 360 then (bV (C E d 163 [vR 1 12 400, vI (Int64.toInt32 (s3.2 449 (ix ((((60 : Int32) * x1) + x2) + ((4 : Int32) * x4))))), vI (Int64.toInt32 (s3.2 449 (ix (((((60 : Int32) * x1) + x2) + ((4 : Int32) * x4)) + (1 : Int32))))), vI (Int64.toInt32 (s3.2 449 (ix (((((60 : Int32) * x1) + x2) + ((4 : Int32) * x4)) + (2 : Int32))))), vI (Int64.toInt32 (s3.2 449 (ix (((((60 : Int32) * x1) + x2) + ((4 : Int32) * x4)) + (3 : Int32)))))] s3) fun s4 => X E d me165 69 [some (vR 1 12 400), some (vI x1), some (vI x2), some (vI x3), some (vI (x4 + (1 : Int32))), some (vI (1 : Int32)), some (vI ((((60 : Int32) * x1) + x2) + ((4 : Int32) * x4)))] [] s4) else none) else none) else none) else none))) else none) else none) else none) else none))) else none))) := by
  rw [X_go E d me165 [69] 400]
  rfl
set_option maxRecDepth 100000 in
theorem x166 (E : Nat × (Nat → Int32)) (d : Nat) (p0 : Int32) (p1 : Int32) (M : Nat → Nat → Int32) (L : Nat → Nat → Int64) : C E (d + 1) 166 [vR 1 12 400, vI p0, vI p1] (M, L) = (bI (C E d 148 [vL (Int32.toInt64 p1), vL (0 : Int64), vL (2 : Int64)] (M, L)) fun r1 s1 => (if r1 = 0 then (bI (C E d 148 [vL (Int32.toInt64 p1), vL (3 : Int64), vL (6 : Int64)] s1) fun r2 s2 => (if r2 = 0 then (if p0 = 0 then (bI (C E d 148 [vL (Int32.toInt64 p1), vL (7 : Int64), vL (8 : Int64)] s2) fun r3 s3 => (if r3 = 0 then some (some (vI (-1 : Int32)), s3) else some (some (vI (((60 : Int32) + p1) - (7 : Int32))), s3))) else some (some (vI (-1 : Int32)), s2)) else (bI (C E d 157 [vR 1 12 400, vL (Int32.toInt64 p0)] s2) fun r4 s4 => (if r4 = 0 then some (some (vI (-1 : Int32)), s4) else some (some (vI (((24 : Int32) + ((9 : Int32) * (p1 - (3 : Int32)))) + p0)), s4))))) else (bI (C E d 156 [vR 1 12 400, vL (Int32.toInt64 p0)] s1) fun r5 s5 => (if r5 = 0 then some (some (vI (-1 : Int32)), s5) else some (some (vI (((8 : Int32) * p1) + p0)), s5))))) := by
  rw [C_of (q := me166) rfl rfl rfl rfl, X_go E d me166 [] 400]
  rfl
set_option maxRecDepth 100000 in
theorem x167 (E : Nat × (Nat → Int32)) (d : Nat) (p0 : Int32) (p1 : Int32) (M : Nat → Nat → Int32) (L : Nat → Nat → Int64) : C E (d + 1) 167 [vR 1 12 400, vI p0, vI p1] (M, L) = (if p0 = (0 : Int32) then (bI (C E d 148 [vL (Int32.toInt64 p1), vL (1 : Int64), vL (9 : Int64)] (M, L)) fun r10 s10 => (if r10 = 0 ∨ r10 = 1 then some (some (vI r10), s10) else none)) else (if p0 = (1 : Int32) then (bI (C E d 148 [vL (Int32.toInt64 p1), vL (0 : Int64), vL (99 : Int64)] (M, L)) fun r9 s9 => (if r9 = 0 ∨ r9 = 1 then some (some (vI r9), s9) else none)) else (if p0 = (2 : Int32) then (bI (C E d 148 [vL (Int32.toInt64 p1), vL (0 : Int64), vL (9 : Int64)] (M, L)) fun r8 s8 => (if r8 = 0 ∨ r8 = 1 then some (some (vI r8), s8) else none)) else (if p0 = (3 : Int32) then (bI (C E d 148 [vL (Int32.toInt64 p1), vL (0 : Int64), vL (99 : Int64)] (M, L)) fun r7 s7 => (if r7 = 0 ∨ r7 = 1 then some (some (vI r7), s7) else none)) else (if p0 = (4 : Int32) then (bI (C E d 148 [vL (Int32.toInt64 p1), vL (0 : Int64), vL (9 : Int64)] (M, L)) fun r6 s6 => (if r6 = 0 ∨ r6 = 1 then some (some (vI r6), s6) else none)) else (if p0 = (5 : Int32) then (bI (C E d 148 [vL (Int32.toInt64 p1), vL (0 : Int64), vL (9 : Int64)] (M, L)) fun r5 s5 => (if r5 = 0 ∨ r5 = 1 then some (some (vI r5), s5) else none)) else (if p0 = (6 : Int32) then (bI (C E d 160 [vR 1 12 400, vL (Int32.toInt64 p1)] (M, L)) fun r4 s4 => (if r4 = 0 ∨ r4 = 1 then some (some (vI r4), s4) else none)) else (if p0 = (7 : Int32) then (bI (C E d 148 [vL (Int32.toInt64 p1), vL (0 : Int64), vL (99 : Int64)] (M, L)) fun r3 s3 => (if r3 = 0 ∨ r3 = 1 then some (some (vI r3), s3) else none)) else (if p0 = (8 : Int32) then (bI (C E d 148 [vL (Int32.toInt64 p1), vL (0 : Int64), vL (6 : Int64)] (M, L)) fun r2 s2 => (if r2 = 0 ∨ r2 = 1 then some (some (vI r2), s2) else none)) else (bI (C E d 148 [vL (Int32.toInt64 p1), vL (0 : Int64), vL (9 : Int64)] (M, L)) fun r1 s1 => (if r1 = 0 ∨ r1 = 1 then some (some (vI r1), s1) else none))))))))))) := by
  rw [C_of (q := me167) rfl rfl rfl rfl, X_go E d me167 [] 400]
  rfl
set_option maxRecDepth 100000 in
theorem x168 (E : Nat × (Nat → Int32)) (d : Nat) (p0 : Int32) (p1 : Int32) (p2 : Int32) (M : Nat → Nat → Int32) (L : Nat → Nat → Int64) : C E (d + 1) 168 [vR 1 12 400, vI p0, vI p1, vI p2] (M, L) = (bI (C E d 166 [vR 1 12 400, vI p0, vI p1] (M, L)) fun r1 s1 => (if r1 < 0 then some (some (vI (-2000000000 : Int32)), s1) else (bI (C E d 167 [vR 1 12 400, vI p1, vI p2] s1) fun r2 s2 => (if r2 = 0 then some (some (vI (-2000000000 : Int32)), s2) else (bI (C E d 153 [vR 1 12 400, vI r1, vI p2] s2) fun r3 s3 => some (some (vI r3), s3)))))) := by
  rw [C_of (q := me168) rfl rfl rfl rfl, X_go E d me168 [] 400]
  rfl
set_option maxRecDepth 100000 in
theorem x169 (E : Nat × (Nat → Int32)) (d : Nat) (p0 : Int32) (p1 : Int32) (M : Nat → Nat → Int32) (L : Nat → Nat → Int64) : C E (d + 1) 169 [vR 1 12 400, vI p0, vI p1] (M, L) = (bI (C E d 166 [vR 1 12 400, vI p0, vI p1] (M, L)) fun r1 s1 => (if r1 < 0 then (bI (C E d 156 [vR 1 12 400, vL (Int32.toInt64 p0)] s1) fun r2 s2 => (if r2 = 0 then some (some (vI (-2000000000 : Int32)), s2) else (if p1 = (9 : Int32) then (if ib p0 8 then some (some (vI (s2.1 409 (ix p0))), s2) else none) else (if p1 = (10 : Int32) then (if ib p0 8 then some (some (vI (s2.1 410 (ix p0))), s2) else none) else some (some (vI (-2000000000 : Int32)), s2))))) else (if ib r1 62 then some (some (vI (s1.1 401 (ix r1))), s1) else none))) := by
  rw [C_of (q := me169) rfl rfl rfl rfl, X_go E d me169 [] 400]
  rfl
set_option maxRecDepth 100000 in
theorem x170 (E : Nat × (Nat → Int32)) (d : Nat) (p0 : Int32) (M : Nat → Nat → Int32) (L : Nat → Nat → Int64) : C E (d + 1) 170 [vR 1 12 400, vI p0] (M, L) = (bI (C E d 148 [vL (Int32.toInt64 p0), vL (0 : Int64), vL (255 : Int64)] (M, L)) fun r1 s1 => (if r1 = 0 then some (some (vI (-1 : Int32)), s1) else (if (s1.1 400 11) = (120 : Int32) then some (some (vI (-3 : Int32)), s1) else (if ib (s1.1 400 11) 120 then some (some (vI ((u2 (u2 s1.1 411 (ix (s1.1 400 11)) p0) 400 11 (((u2 s1.1 411 (ix (s1.1 400 11)) p0) 400 11) + (1 : Int32))) 400 11)), ((u2 (u2 s1.1 411 (ix (s1.1 400 11)) p0) 400 11 (((u2 s1.1 411 (ix (s1.1 400 11)) p0) 400 11) + (1 : Int32))), s1.2)) else none)))) := by
  rw [C_of (q := me170) rfl rfl rfl rfl, X_go E d me170 [] 400]
  rfl
set_option maxRecDepth 100000 in
theorem x171 (E : Nat × (Nat → Int32)) (d : Nat)  (M : Nat → Nat → Int32) (L : Nat → Nat → Int64) : C E (d + 1) 171 [vR 1 12 400] (M, L) = (if (M 400 11) ≤ (M 400 12) then some (some (vI (0 : Int32)), (M, L)) else (if ib (M 400 12) 120 then some (some (vI (M 411 (ix (M 400 12)))), (M, L)) else none)) := by
  rw [C_of (q := me171) rfl rfl rfl rfl, X_go E d me171 [] 400]
  rfl
set_option maxRecDepth 100000 in
theorem x172 (E : Nat × (Nat → Int32)) (d : Nat)  (M : Nat → Nat → Int32) (L : Nat → Nat → Int64) : C E (d + 1) 172 [vR 1 12 400] (M, L) = (if 0 ≤ (M 400 13) then some (none, ((u2 M 400 13 (M 400 13)), L)) else some (none, ((u2 M 400 13 (M 400 12)), L))) := by
  rw [C_of (q := me172) rfl rfl rfl rfl, X_go E d me172 [] 400]
  rfl
set_option maxRecDepth 100000 in
theorem x173 (E : Nat × (Nat → Int32)) (d : Nat) (p0 : Int32) (M : Nat → Nat → Int32) (L : Nat → Nat → Int64) : C E (d + 1) 173 [vR 1 12 400, vI p0] (M, L) = (if 0 ≤ (M 400 13) then some (some (vI (0 : Int32)), (M, L)) else (bI (C E d 171 [vR 1 12 400] (M, L)) fun r1 s1 => (if r1 = p0 then some (some (vI (1 : Int32)), ((u2 s1.1 400 12 ((s1.1 400 12) + (1 : Int32))), s1.2)) else some (some (vI (0 : Int32)), s1)))) := by
  rw [C_of (q := me173) rfl rfl rfl rfl, X_go E d me173 [] 400]
  rfl
set_option maxRecDepth 100000 in
theorem x174 (E : Nat × (Nat → Int32)) (d : Nat) (p0 : Int32) (M : Nat → Nat → Int32) (L : Nat → Nat → Int64) : C E (d + 1) 174 [vR 1 12 400, vI p0] (M, L) = (if 0 ≤ (M 400 13) then some (none, (M, L)) else (if ib (M 400 19) 120 then some (none, ((u2 (u2 M 417 (ix (M 400 19)) p0) 400 19 (((u2 M 417 (ix (M 400 19)) p0) 400 19) + (1 : Int32))), L)) else none)) := by
  rw [C_of (q := me174) rfl rfl rfl rfl, X_go E d me174 [] 400]
  rfl
set_option maxRecDepth 100000 in
theorem x175 (E : Nat × (Nat → Int32)) (d : Nat)  (M : Nat → Nat → Int32) (L : Nat → Nat → Int64) : C E (d + 1) 175 [vR 1 12 400] (M, L) = (bV (C E d 176 [vR 1 12 400] (M, L)) fun s1 => X E d me175 4 [some (vR 1 12 400)] [] s1) := by
  rw [C_of (q := me175) rfl rfl rfl rfl, X_go E d me175 [4] 400]
  rfl
set_option maxRecDepth 100000 in
theorem x175_4 (E : Nat × (Nat → Int32)) (d : Nat)  (M : Nat → Nat → Int32) (L : Nat → Nat → Int64) : X E d me175 4 [some (vR 1 12 400)] [] (M, L) = (bI (C E d 173 [vR 1 12 400, vI (124 : Int32)] (M, L)) fun r2 s2 => (if r2 = 0 then some (none, s2) else (bV (C E d 176 [vR 1 12 400] s2) fun s3 => (bV (C E d 174 [vR 1 12 400, vI (124 : Int32)] s3) fun s4 => X E d me175 4 [some (vR 1 12 400)] [] s4)))) := by
  rw [X_go E d me175 [4] 400]
  rfl
set_option maxRecDepth 100000 in
theorem x176 (E : Nat × (Nat → Int32)) (d : Nat)  (M : Nat → Nat → Int32) (L : Nat → Nat → Int64) : C E (d + 1) 176 [vR 1 12 400] (M, L) = (bV (C E d 177 [vR 1 12 400] (M, L)) fun s1 => X E d me176 4 [some (vR 1 12 400)] [] s1) := by
  rw [C_of (q := me176) rfl rfl rfl rfl, X_go E d me176 [4] 400]
  rfl
set_option maxRecDepth 100000 in
theorem x176_4 (E : Nat × (Nat → Int32)) (d : Nat)  (M : Nat → Nat → Int32) (L : Nat → Nat → Int64) : X E d me176 4 [some (vR 1 12 400)] [] (M, L) = (bI (C E d 173 [vR 1 12 400, vI (38 : Int32)] (M, L)) fun r2 s2 => (if r2 = 0 then some (none, s2) else (bV (C E d 177 [vR 1 12 400] s2) fun s3 => (bV (C E d 174 [vR 1 12 400, vI (38 : Int32)] s3) fun s4 => X E d me176 4 [some (vR 1 12 400)] [] s4)))) := by
  rw [X_go E d me176 [4] 400]
  rfl
set_option maxRecDepth 100000 in
theorem x177 (E : Nat × (Nat → Int32)) (d : Nat)  (M : Nat → Nat → Int32) (L : Nat → Nat → Int64) : C E (d + 1) 177 [vR 1 12 400] (M, L) = (bV (C E d 178 [vR 1 12 400] (M, L)) fun s1 => (bI (C E d 171 [vR 1 12 400] s1) fun r2 s2 => (if 0 ≤ (s2.1 400 13) then some (none, s2) else (if r2 = (60 : Int32) then (bV (C E d 178 [vR 1 12 400] ((u2 s2.1 400 12 ((s2.1 400 12) + (1 : Int32))), s2.2)) fun s3 => (bV (C E d 174 [vR 1 12 400, vI r2] s3) fun s4 => some (none, s4))) else (if r2 = (61 : Int32) then (bV (C E d 178 [vR 1 12 400] ((u2 s2.1 400 12 ((s2.1 400 12) + (1 : Int32))), s2.2)) fun s5 => (bV (C E d 174 [vR 1 12 400, vI r2] s5) fun s6 => some (none, s6))) else (if r2 = (62 : Int32) then (bV (C E d 178 [vR 1 12 400] ((u2 s2.1 400 12 ((s2.1 400 12) + (1 : Int32))), s2.2)) fun s7 => (bV (C E d 174 [vR 1 12 400, vI r2] s7) fun s8 => some (none, s8))) else some (none, s2))))))) := by
  rw [C_of (q := me177) rfl rfl rfl rfl, X_go E d me177 [] 400]
  rfl
set_option maxRecDepth 100000 in
theorem x178 (E : Nat × (Nat → Int32)) (d : Nat)  (M : Nat → Nat → Int32) (L : Nat → Nat → Int64) : C E (d + 1) 178 [vR 1 12 400] (M, L) = (bV (C E d 179 [vR 1 12 400] (M, L)) fun s1 => X E d me178 4 [some (vR 1 12 400), none] [] s1) := by
  rw [C_of (q := me178) rfl rfl rfl rfl, X_go E d me178 [4] 400]
  rfl
set_option maxRecDepth 100000 in
theorem x178_4 (E : Nat × (Nat → Int32)) (d : Nat) (w1 : Option PV) (M : Nat → Nat → Int32) (L : Nat → Nat → Int64) : X E d me178 4 [some (vR 1 12 400), w1] [] (M, L) = (if 0 ≤ (M 400 13) then some (none, (M, L)) else (bI (C E d 171 [vR 1 12 400] (M, L)) fun r2 s2 => (if r2 = (43 : Int32) then (bI (C E d 171 [vR 1 12 400] s2) fun r3 s3 => (bV (C E d 179 [vR 1 12 400] ((u2 s3.1 400 12 ((s3.1 400 12) + (1 : Int32))), s3.2)) fun s4 => (bV (C E d 174 [vR 1 12 400, vI r3] s4) fun s5 => X E d me178 4 [some (vR 1 12 400), some (vI r3)] [] s5))) else (bI (C E d 171 [vR 1 12 400] s2) fun r6 s6 => (if r6 = (45 : Int32) then (bI (C E d 171 [vR 1 12 400] s6) fun r7 s7 => (bV (C E d 179 [vR 1 12 400] ((u2 s7.1 400 12 ((s7.1 400 12) + (1 : Int32))), s7.2)) fun s8 => (bV (C E d 174 [vR 1 12 400, vI r7] s8) fun s9 => X E d me178 4 [some (vR 1 12 400), some (vI r7)] [] s9))) else some (none, s6)))))) := by
  rw [X_go E d me178 [4] 400]
  rfl
set_option maxRecDepth 100000 in
theorem x179 (E : Nat × (Nat → Int32)) (d : Nat)  (M : Nat → Nat → Int32) (L : Nat → Nat → Int64) : C E (d + 1) 179 [vR 1 12 400] (M, L) = (bV (C E d 182 [vR 1 12 400] (M, L)) fun s1 => (bI (C E d 171 [vR 1 12 400] s1) fun r2 s2 => X E d me179 9 [some (vR 1 12 400), some (vI r2)] [] s2)) := by
  rw [C_of (q := me179) rfl rfl rfl rfl, X_go E d me179 [9] 400]
  rfl
set_option maxRecDepth 100000 in
theorem x179_9 (E : Nat × (Nat → Int32)) (d : Nat) (x1 : Int32) (M : Nat → Nat → Int32) (L : Nat → Nat → Int64) : X E d me179 9 [some (vR 1 12 400), some (vI x1)] [] (M, L) = (if 0 ≤ (M 400 13) then some (none, (M, L)) else (if x1 = (42 : Int32) then (bV (C E d 182 [vR 1 12 400] ((u2 M 400 12 ((M 400 12) + (1 : Int32))), L)) fun s3 => (bV (C E d 174 [vR 1 12 400, vI x1] s3) fun s4 => (bI (C E d 171 [vR 1 12 400] s4) fun r5 s5 => X E d me179 9 [some (vR 1 12 400), some (vI r5)] [] s5))) else (if x1 = (47 : Int32) then (bV (C E d 182 [vR 1 12 400] ((u2 M 400 12 ((M 400 12) + (1 : Int32))), L)) fun s6 => (bV (C E d 174 [vR 1 12 400, vI x1] s6) fun s7 => (bI (C E d 171 [vR 1 12 400] s7) fun r8 s8 => X E d me179 9 [some (vR 1 12 400), some (vI r8)] [] s8))) else (if x1 = (37 : Int32) then (bV (C E d 182 [vR 1 12 400] ((u2 M 400 12 ((M 400 12) + (1 : Int32))), L)) fun s9 => (bV (C E d 174 [vR 1 12 400, vI x1] s9) fun s10 => (bI (C E d 171 [vR 1 12 400] s10) fun r11 s11 => X E d me179 9 [some (vR 1 12 400), some (vI r11)] [] s11))) else some (none, (M, L)))))) := by
  rw [X_go E d me179 [9] 400]
  rfl
set_option maxRecDepth 100000 in
theorem x180 (E : Nat × (Nat → Int32)) (d : Nat) (p0 : Int32) (M : Nat → Nat → Int32) (L : Nat → Nat → Int64) : C E (d + 1) 180 [vI p0] (M, L) = (if p0 = (97 : Int32) then some (some (vI (3 : Int32)), (M, L)) else (if p0 = (100 : Int32) then some (some (vI (4 : Int32)), (M, L)) else (if p0 = (104 : Int32) then some (some (vI (1 : Int32)), (M, L)) else (if p0 = (114 : Int32) then some (some (vI (2 : Int32)), (M, L)) else (if p0 = (115 : Int32) then some (some (vI (0 : Int32)), (M, L)) else (if p0 = (120 : Int32) then some (some (vI (5 : Int32)), (M, L)) else some (some (vI (-1 : Int32)), (M, L)))))))) := by
  rw [C_of (q := me180) rfl rfl rfl rfl, X_go E d me180 [] 400]
  rfl
set_option maxRecDepth 100000 in
theorem x181 (E : Nat × (Nat → Int32)) (d : Nat) (p0 : Int32) (M : Nat → Nat → Int32) (L : Nat → Nat → Int64) : C E (d + 1) 181 [vR 1 12 400, vI p0] (M, L) = (if (M 400 14) = (6 : Int32) then (bV (C E d 172 [vR 1 12 400] (M, L)) fun s1 => some (none, s1)) else (if p0 = (40 : Int32) then (bV (C E d 175 [vR 1 12 400] ((u2 (u2 M 400 14 ((M 400 14) + (1 : Int32))) 400 12 (((u2 M 400 14 ((M 400 14) + (1 : Int32))) 400 12) + (1 : Int32))), L)) fun s2 => (bI (C E d 173 [vR 1 12 400, vI (41 : Int32)] s2) fun r3 s3 => (if r3 = 0 then (bV (C E d 172 [vR 1 12 400] s3) fun s4 => some (none, s4)) else some (none, ((u2 s3.1 400 14 ((s3.1 400 14) - (1 : Int32))), s3.2))))) else (bV (C E d 182 [vR 1 12 400] ((u2 (u2 M 400 14 ((M 400 14) + (1 : Int32))) 400 12 (((u2 M 400 14 ((M 400 14) + (1 : Int32))) 400 12) + (1 : Int32))), L)) fun s5 => (if p0 = (45 : Int32) then (bV (C E d 174 [vR 1 12 400, vI (110 : Int32)] s5) fun s6 => some (none, ((u2 s6.1 400 14 ((s6.1 400 14) - (1 : Int32))), s6.2))) else (bV (C E d 174 [vR 1 12 400, vI p0] s5) fun s7 => some (none, ((u2 s7.1 400 14 ((s7.1 400 14) - (1 : Int32))), s7.2))))))) := by
  rw [C_of (q := me181) rfl rfl rfl rfl, X_go E d me181 [] 400]
  rfl
set_option maxRecDepth 100000 in
theorem x182 (E : Nat × (Nat → Int32)) (d : Nat)  (M : Nat → Nat → Int32) (L : Nat → Nat → Int64) : C E (d + 1) 182 [vR 1 12 400] (M, L) = (if (M 400 13) < 0 then (bI (C E d 171 [vR 1 12 400] (M, L)) fun r1 s1 => (if r1 = (33 : Int32) then (bV (C E d 181 [vR 1 12 400, vI r1] s1) fun s2 => some (none, s2)) else (if r1 = (45 : Int32) then (bV (C E d 181 [vR 1 12 400, vI r1] s1) fun s3 => some (none, s3)) else (if r1 = (40 : Int32) then (bV (C E d 181 [vR 1 12 400, vI r1] s1) fun s4 => some (none, s4)) else (bI (C E d 180 [vI r1] s1) fun r5 s5 => (if r5 < 0 then X E d me182 71 [some (vR 1 12 400), some (vI r1), some (vI r5), some (vI (0 : Int32)), some (vI (0 : Int32))] [] s5 else (bV (C E d 174 [vR 1 12 400, vI ((256 : Int32) + r5)] ((u2 s5.1 400 12 ((s5.1 400 12) + (1 : Int32))), s5.2)) fun s6 => some (none, s6)))))))) else some (none, (M, L))) := by
  rw [C_of (q := me182) rfl rfl rfl rfl, X_go E d me182 [71] 400]
  rfl
set_option maxRecDepth 100000 in
theorem x182_71 (E : Nat × (Nat → Int32)) (d : Nat) (x1 : Int32) (x2 : Int32) (x3 : Int32) (x4 : Int32) (M : Nat → Nat → Int32) (L : Nat → Nat → Int64) : X E d me182 71 [some (vR 1 12 400), some (vI x1), some (vI x2), some (vI x3), some (vI x4)] [] (M, L) = (if (4 : Int32) ≤ x4 then (if x4 = 0 then (bV (C E d 172 [vR 1 12 400] (M, L)) fun s7 => some (none, s7)) else (bV (C E d 174 [vR 1 12 400, vI ((1000 : Int32) + x3)] (M, L)) fun s8 => some (none, s8))) else (bI (C E d 171 [vR 1 12 400] (M, L)) fun r9 s9 => (if r9 < (48 : Int32) then (if x4 = 0 then (bV (C E d 172 [vR 1 12 400] s9) fun s10 => some (none, s10)) else (bV (C E d 174 [vR 1 12 400, vI ((1000 : Int32) + x3)] s9) fun s11 => some (none, s11))) else (bI (C E d 171 [vR 1 12 400] s9) fun r12 s12 => (if (57 : Int32) < r12 then (if x4 = 0 then (bV (C E d 172 [vR 1 12 400] s12) fun s13 => some (none, s13)) else (bV (C E d 174 [vR 1 12 400, vI ((1000 : Int32) + x3)] s12) fun s14 => some (none, s14))) else (bI (C E d 171 [vR 1 12 400] s12) fun r15 s15 => X E d me182 71 [some (vR 1 12 400), some (vI x1), some (vI x2), some (vI ((((10 : Int32) * x3) + r15) - (48 : Int32))), some (vI (x4 + (1 : Int32)))] [] ((u2 s15.1 400 12 ((s15.1 400 12) + (1 : Int32))), s15.2))))))) := by
  rw [X_go E d me182 [71] 400]
  rfl
set_option maxRecDepth 100000 in
theorem x183 (E : Nat × (Nat → Int32)) (d : Nat)  (M : Nat → Nat → Int32) (L : Nat → Nat → Int64) : C E (d + 1) 183 [vR 1 12 400] (M, L) = X E d me183 27 [some (vR 1 12 400), some (vI (1 : Int32))] [] ((u2 (u2 (u2 (u2 (u2 M 400 12 (0 : Int32)) 400 13 (-1 : Int32)) 400 14 (0 : Int32)) 400 19 (0 : Int32)) 400 20 (0 : Int32)), L) := by
  rw [C_of (q := me183) rfl rfl rfl rfl, X_go E d me183 [27] 400]
  rfl
set_option maxRecDepth 100000 in
theorem x183_27 (E : Nat × (Nat → Int32)) (d : Nat) (x1 : Int32) (M : Nat → Nat → Int32) (L : Nat → Nat → Int64) : X E d me183 27 [some (vR 1 12 400), some (vI x1)] [] (M, L) = (if x1 = 0 then (if 0 ≤ (M 400 13) then some (none, (M, L)) else (if (M 400 11) ≤ (M 400 12) then some (none, (M, L)) else (bV (C E d 172 [vR 1 12 400] (M, L)) fun s1 => some (none, s1)))) else (if ib (M 400 20) 121 then (if ib ((u2 M 418 (ix (M 400 20)) (M 400 19)) 400 20) 121 then (bV (C E d 175 [vR 1 12 400] ((u2 (u2 M 418 (ix (M 400 20)) (M 400 19)) 419 (ix ((u2 M 418 (ix (M 400 20)) (M 400 19)) 400 20)) ((u2 M 418 (ix (M 400 20)) (M 400 19)) 400 19)), L)) fun s2 => (bI (C E d 173 [vR 1 12 400, vI (63 : Int32)] s2) fun r3 s3 => (if r3 = 0 then (if ib ((u2 s3.1 400 20 ((s3.1 400 20) + (1 : Int32))) 400 20) 121 then (bI (C E d 173 [vR 1 12 400, vI (59 : Int32)] ((u2 (u2 s3.1 400 20 ((s3.1 400 20) + (1 : Int32))) 418 (ix ((u2 s3.1 400 20 ((s3.1 400 20) + (1 : Int32))) 400 20)) ((u2 s3.1 400 20 ((s3.1 400 20) + (1 : Int32))) 400 19)), s3.2)) fun r4 s4 => X E d me183 27 [some (vR 1 12 400), some (vI r4)] [] s4) else none) else (if ib (s3.1 400 20) 121 then (bV (C E d 175 [vR 1 12 400] ((u2 s3.1 419 (ix (s3.1 400 20)) (s3.1 400 19)), s3.2)) fun s5 => (if ib ((u2 s5.1 400 20 ((s5.1 400 20) + (1 : Int32))) 400 20) 121 then (bI (C E d 173 [vR 1 12 400, vI (59 : Int32)] ((u2 (u2 s5.1 400 20 ((s5.1 400 20) + (1 : Int32))) 418 (ix ((u2 s5.1 400 20 ((s5.1 400 20) + (1 : Int32))) 400 20)) ((u2 s5.1 400 20 ((s5.1 400 20) + (1 : Int32))) 400 19)), s5.2)) fun r6 s6 => X E d me183 27 [some (vR 1 12 400), some (vI r6)] [] s6) else none)) else none)))) else none) else none)) := by
  rw [X_go E d me183 [27] 400]
  rfl
set_option maxRecDepth 100000 in
theorem x184 (E : Nat × (Nat → Int32)) (d : Nat)  (M : Nat → Nat → Int32) (L : Nat → Nat → Int64) : C E (d + 1) 184 [vR 1 12 400] (M, L) = (bV (C E d 183 [vR 1 12 400] (M, L)) fun s1 => (if ((u2 s1.1 400 11 (0 : Int32)) 400 13) < 0 then X E d me184 26 [some (vR 1 12 400), some (vI (0 : Int32))] [] ((u2 s1.1 400 11 (0 : Int32)), s1.2) else some (some (vI ((-100 : Int32) - ((u2 s1.1 400 11 (0 : Int32)) 400 13))), ((u2 s1.1 400 11 (0 : Int32)), s1.2)))) := by
  rw [C_of (q := me184) rfl rfl rfl rfl, X_go E d me184 [26, 54] 400]
  rfl
set_option maxRecDepth 100000 in
theorem x184_26 (E : Nat × (Nat → Int32)) (d : Nat) (x1 : Int32) (M : Nat → Nat → Int32) (L : Nat → Nat → Int64) : X E d me184 26 [some (vR 1 12 400), some (vI x1)] [] (M, L) = (if (M 400 19) ≤ x1 then X E d me184 54 [some (vR 1 12 400), some (vI (0 : Int32))] [] (M, L) else (if ib x1 120 then (if ib x1 120 then X E d me184 26 [some (vR 1 12 400), some (vI (x1 + (1 : Int32)))] [] ((u2 M 422 (ix x1) (M 417 (ix x1))), L) else none) else none)) := by
  rw [X_go E d me184 [26, 54] 400]
  rfl
set_option maxRecDepth 100000 in
theorem x184_54 (E : Nat × (Nat → Int32)) (d : Nat) (x1 : Int32) (M : Nat → Nat → Int32) (L : Nat → Nat → Int64) : X E d me184 54 [some (vR 1 12 400), some (vI x1)] [] (M, L) = (if (M 400 20) < x1 then some (some (vI (1 : Int32)), ((u2 M 400 24 (M 400 20)), L)) else (if ib x1 121 then (if ib x1 121 then (if ib x1 121 then (if ib x1 121 then X E d me184 54 [some (vR 1 12 400), some (vI (x1 + (1 : Int32)))] [] ((u2 (u2 M 423 (ix x1) (M 418 (ix x1))) 424 (ix x1) ((u2 M 423 (ix x1) (M 418 (ix x1))) 419 (ix x1))), L) else none) else none) else none) else none)) := by
  rw [X_go E d me184 [26, 54] 400]
  rfl
end
section
/-! printed by wip/whole/sym.py: what each method does, as a tree; closed by rfl -/
set_option maxRecDepth 100000 in
theorem x185 (E : Nat × (Nat → Int32)) (d : Nat) (p0 : Int32) (p1 : Int32) (p2 : Int32) (M : Nat → Nat → Int32) (L : Nat → Nat → Int64) : C E (d + 1) 185 [vI p0, vI p1, vI p2] (M, L) = (if p0 = (38 : Int32) then (if p1 = 0 then some (some (vI (0 : Int32)), (M, L)) else (if p2 = 0 then some (some (vI (0 : Int32)), (M, L)) else some (some (vI (1 : Int32)), (M, L)))) else (if p0 = (42 : Int32) then some (some (vI (p1 * p2)), (M, L)) else (if p0 = (43 : Int32) then some (some (vI (p1 + p2)), (M, L)) else (if p0 = (45 : Int32) then some (some (vI (p1 - p2)), (M, L)) else (if p0 = (47 : Int32) then (if p2 = 0 then some (some (vI (0 : Int32)), (M, L)) else (if p2 = 0 then none else some (some (vI (p1 / p2)), (M, L)))) else (if p0 = (60 : Int32) then (if p2 ≤ p1 then some (some (vI (0 : Int32)), (M, L)) else some (some (vI (1 : Int32)), (M, L))) else (if p0 = (61 : Int32) then (if p1 = p2 then some (some (vI (1 : Int32)), (M, L)) else some (some (vI (0 : Int32)), (M, L))) else (if p0 = (62 : Int32) then (if p1 ≤ p2 then some (some (vI (0 : Int32)), (M, L)) else some (some (vI (1 : Int32)), (M, L))) else (if p0 = (124 : Int32) then (if p1 = 0 then (if p2 = 0 then some (some (vI (0 : Int32)), (M, L)) else some (some (vI (1 : Int32)), (M, L))) else some (some (vI (1 : Int32)), (M, L))) else (if p2 = 0 then some (some (vI (0 : Int32)), (M, L)) else (if p2 = 0 then none else some (some (vI (rm32 p1 p2)), (M, L))))))))))))) := by
  rw [C_of (q := me185) rfl rfl rfl rfl, X_go E d me185 [] 400]
  rfl
set_option maxRecDepth 100000 in
theorem x186 (E : Nat × (Nat → Int32)) (d : Nat) (p0 : Int32) (p1 : Int32) (M : Nat → Nat → Int32) (L : Nat → Nat → Int64) : C E (d + 1) 186 [vR 1 12 400, vI p0, vI p1] (M, L) = X E d me186 5 [some (vR 1 12 400), some (vI p0), some (vI p1), some (vI (0 : Int32)), some (vI p0), none] [] (M, L) := by
  rw [C_of (q := me186) rfl rfl rfl rfl, X_go E d me186 [5, 132] 400]
  rfl
set_option maxRecDepth 100000 in
theorem x186_5 (E : Nat × (Nat → Int32)) (d : Nat) (x1 : Int32) (x2 : Int32) (x3 : Int32) (x4 : Int32) (w5 : Option PV) (M : Nat → Nat → Int32) (L : Nat → Nat → Int64) : X E d me186 5 [some (vR 1 12 400), some (vI x1), some (vI x2), some (vI x3), some (vI x4), w5] [] (M, L) = (if x2 ≤ x4 then (if ib (0 : Int32) 121 then some (some (vI (M 426 (ix (0 : Int32)))), (M, L)) else none) else (if ib x4 120 then (if (M 422 (ix x4)) < (256 : Int32) then (if (M 422 (ix x4)) = (110 : Int32) then (if ib (x3 - (1 : Int32)) 121 then (if ib (x3 - (1 : Int32)) 121 then X E d me186 5 [some (vR 1 12 400), some (vI x1), some (vI x2), some (vI x3), some (vI (x4 + (1 : Int32))), some (vI (M 422 (ix x4)))] [] ((u2 M 426 (ix (x3 - (1 : Int32))) (-(M 426 (ix (x3 - (1 : Int32)))))), L) else none) else none) else (if (M 422 (ix x4)) = (33 : Int32) then (if ib (x3 - (1 : Int32)) 121 then (if (M 426 (ix (x3 - (1 : Int32)))) = 0 then (if ib (x3 - (1 : Int32)) 121 then X E d me186 5 [some (vR 1 12 400), some (vI x1), some (vI x2), some (vI x3), some (vI (x4 + (1 : Int32))), some (vI (M 422 (ix x4)))] [] ((u2 M 426 (ix (x3 - (1 : Int32))) (1 : Int32)), L) else none) else (if ib (x3 - (1 : Int32)) 121 then X E d me186 5 [some (vR 1 12 400), some (vI x1), some (vI x2), some (vI x3), some (vI (x4 + (1 : Int32))), some (vI (M 422 (ix x4)))] [] ((u2 M 426 (ix (x3 - (1 : Int32))) (0 : Int32)), L) else none)) else none) else X E d me186 132 [some (vR 1 12 400), some (vI x1), some (vI x2), some (vI (x3 + (Int32.ofInt (-1)))), some (vI x4), some (vI (M 422 (ix x4)))] [] (M, L))) else (if (M 422 (ix x4)) < (1000 : Int32) then (if ib ((M 422 (ix x4)) - (256 : Int32)) 6 then (if ib x3 121 then X E d me186 5 [some (vR 1 12 400), some (vI x1), some (vI x2), some (vI (x3 + (1 : Int32))), some (vI (x4 + (1 : Int32))), some (vI (M 422 (ix x4)))] [] ((u2 M 426 (ix x3) (M 416 (ix ((M 422 (ix x4)) - (256 : Int32))))), L) else none) else none) else (if ib x3 121 then X E d me186 5 [some (vR 1 12 400), some (vI x1), some (vI x2), some (vI (x3 + (1 : Int32))), some (vI (x4 + (1 : Int32))), some (vI (M 422 (ix x4)))] [] ((u2 M 426 (ix x3) ((M 422 (ix x4)) - (1000 : Int32))), L) else none))) else none)) := by
  rw [X_go E d me186 [5, 132] 400]
  rfl
set_option maxRecDepth 100000 in
theorem x186_132 (E : Nat × (Nat → Int32)) (d : Nat) (x1 : Int32) (x2 : Int32) (x3 : Int32) (x4 : Int32) (x5 : Int32) (M : Nat → Nat → Int32) (L : Nat → Nat → Int64) : X E d me186 132 [some (vR 1 12 400), some (vI x1), some (vI x2), some (vI x3), some (vI x4), some (vI x5)] [] (M, L) = (if ib (x3 - (1 : Int32)) 121 then (if ib x3 121 then (bI (C E d 185 [vI x5, vI (M 426 (ix (x3 - (1 : Int32)))), vI (M 426 (ix x3))] (M, L)) fun r1 s1 => (if ib (x3 - (1 : Int32)) 121 then X E d me186 5 [some (vR 1 12 400), some (vI x1), some (vI x2), some (vI x3), some (vI (x4 + (1 : Int32))), some (vI x5)] [] ((u2 s1.1 426 (ix (x3 - (1 : Int32))) r1), s1.2) else none)) else none) else none) := by
  rw [X_go E d me186 [5, 132] 400]
  rfl
set_option maxRecDepth 100000 in
theorem x187 (E : Nat × (Nat → Int32)) (d : Nat)  (M : Nat → Nat → Int32) (L : Nat → Nat → Int64) : C E (d + 1) 187 [vR 1 12 400] (M, L) = X E d me187 2 [some (vR 1 12 400), some (vI (0 : Int32))] [] (M, L) := by
  rw [C_of (q := me187) rfl rfl rfl rfl, X_go E d me187 [2] 400]
  rfl
set_option maxRecDepth 100000 in
theorem x187_2 (E : Nat × (Nat → Int32)) (d : Nat) (x1 : Int32) (M : Nat → Nat → Int32) (L : Nat → Nat → Int64) : X E d me187 2 [some (vR 1 12 400), some (vI x1)] [] (M, L) = (if (M 400 24) ≤ x1 then some (some (vI (0 : Int32)), (M, L)) else (if ib x1 121 then (if ib x1 121 then (if (M 424 (ix x1)) = (M 423 (ix x1)) then (if ib x1 121 then (if ib (x1 + (1 : Int32)) 121 then (bI (C E d 186 [vR 1 12 400, vI (M 424 (ix x1)), vI (M 423 (ix (x1 + (1 : Int32))))] (M, L)) fun r1 s1 => some (some (vI r1), s1)) else none) else none) else (if ib x1 121 then (if ib x1 121 then (bI (C E d 186 [vR 1 12 400, vI (M 423 (ix x1)), vI (M 424 (ix x1))] (M, L)) fun r2 s2 => (if r2 = 0 then X E d me187 2 [some (vR 1 12 400), some (vI (x1 + (1 : Int32)))] [] s2 else (if ib x1 121 then (if ib (x1 + (1 : Int32)) 121 then (bI (C E d 186 [vR 1 12 400, vI (s2.1 424 (ix x1)), vI (s2.1 423 (ix (x1 + (1 : Int32))))] s2) fun r3 s3 => some (some (vI r3), s3)) else none) else none))) else none) else none)) else none) else none)) := by
  rw [X_go E d me187 [2] 400]
  rfl
set_option maxRecDepth 100000 in
theorem x188 (E : Nat × (Nat → Int32)) (d : Nat)  (M : Nat → Nat → Int32) (L : Nat → Nat → Int64) : C E (d + 1) 188 [vR 1 12 400] (M, L) = X E d me188 2 [some (vR 1 12 400), some (vI (0 : Int32))] [] (M, L) := by
  rw [C_of (q := me188) rfl rfl rfl rfl, X_go E d me188 [2, 33] 400]
  rfl
set_option maxRecDepth 100000 in
theorem x188_2 (E : Nat × (Nat → Int32)) (d : Nat) (x1 : Int32) (M : Nat → Nat → Int32) (L : Nat → Nat → Int64) : X E d me188 2 [some (vR 1 12 400), some (vI x1)] [] (M, L) = (if (M 400 6) ≤ x1 then X E d me188 33 [some (vR 1 12 400), some (vI (0 : Int32))] [] (M, L) else (if ib ((8 : Int32) + x1) 62 then (if ib x1 8 then X E d me188 2 [some (vR 1 12 400), some (vI (x1 + (1 : Int32)))] [] ((u2 M 427 (ix x1) (M 401 (ix ((8 : Int32) + x1)))), L) else none) else none)) := by
  rw [X_go E d me188 [2, 33] 400]
  rfl
set_option maxRecDepth 100000 in
theorem x188_33 (E : Nat × (Nat → Int32)) (d : Nat) (x1 : Int32) (M : Nat → Nat → Int32) (L : Nat → Nat → Int64) : X E d me188 33 [some (vR 1 12 400), some (vI x1)] [] (M, L) = (if (M 400 7) ≤ x1 then (if ib (61 : Int32) 62 then some (none, ((u2 M 400 29 (M 401 (ix (61 : Int32)))), L)) else none) else (if ib ((24 : Int32) + x1) 62 then (if ib x1 9 then (if ib ((51 : Int32) + x1) 62 then (if ib x1 9 then X E d me188 33 [some (vR 1 12 400), some (vI (x1 + (1 : Int32)))] [] ((u2 (u2 M 428 (ix x1) (M 401 (ix ((24 : Int32) + x1)))) 429 (ix x1) ((u2 M 428 (ix x1) (M 401 (ix ((24 : Int32) + x1)))) 401 (ix ((51 : Int32) + x1)))), L) else none) else none) else none) else none)) := by
  rw [X_go E d me188 [2, 33] 400]
  rfl
set_option maxRecDepth 100000 in
theorem x189 (E : Nat × (Nat → Int32)) (d : Nat) (p0 : Int32) (M : Nat → Nat → Int32) (L : Nat → Nat → Int64) : C E (d + 1) 189 [vR 1 12 400, vI p0] (M, L) = (if ib p0 9 then (if ib (60 : Int32) 62 then (if (M 401 (ix (60 : Int32))) < (M 428 (ix p0)) then some (some (vI (0 : Int32)), (M, L)) else some (some (vI (1 : Int32)), (M, L))) else none) else none) := by
  rw [C_of (q := me189) rfl rfl rfl rfl, X_go E d me189 [] 400]
  rfl
set_option maxRecDepth 100000 in
theorem x190 (E : Nat × (Nat → Int32)) (d : Nat) (p0 : Int32) (p1 : Int32) (M : Nat → Nat → Int32) (L : Nat → Nat → Int64) : C E (d + 1) 190 [vR 1 12 400, vI p0, vI p1] (M, L) = X E d me190 5 [some (vR 1 12 400), some (vI p0), some (vI p1), some (vI (0 : Int32)), some (vI (0 : Int32))] [] (M, L) := by
  rw [C_of (q := me190) rfl rfl rfl rfl, X_go E d me190 [5] 400]
  rfl
set_option maxRecDepth 100000 in
theorem x190_5 (E : Nat × (Nat → Int32)) (d : Nat) (x1 : Int32) (x2 : Int32) (x3 : Int32) (x4 : Int32) (M : Nat → Nat → Int32) (L : Nat → Nat → Int64) : X E d me190 5 [some (vR 1 12 400), some (vI x1), some (vI x2), some (vI x3), some (vI x4)] [] (M, L) = (if (M 400 7) ≤ x4 then some (some (vI x3), (M, L)) else (if ib x4 9 then (if (M 429 (ix x4)) = x1 then (bI (C E d 189 [vR 1 12 400, vI x4] (M, L)) fun r1 s1 => (if r1 = x2 then X E d me190 5 [some (vR 1 12 400), some (vI x1), some (vI x2), some (vI (x3 + (1 : Int32))), some (vI (x4 + (1 : Int32)))] [] s1 else X E d me190 5 [some (vR 1 12 400), some (vI x1), some (vI x2), some (vI (x3 + (0 : Int32))), some (vI (x4 + (1 : Int32)))] [] s1)) else X E d me190 5 [some (vR 1 12 400), some (vI x1), some (vI x2), some (vI (x3 + (0 : Int32))), some (vI (x4 + (1 : Int32)))] [] (M, L)) else none)) := by
  rw [X_go E d me190 [5] 400]
  rfl
set_option maxRecDepth 100000 in
theorem x191 (E : Nat × (Nat → Int32)) (d : Nat) (p0 : Int32) (M : Nat → Nat → Int32) (L : Nat → Nat → Int64) : C E (d + 1) 191 [vR 1 12 400, vI p0] (M, L) = (bI (C E d 190 [vR 1 12 400, vI p0, vI (1 : Int32)] (M, L)) fun r1 s1 => (bI (C E d 190 [vR 1 12 400, vI p0, vI (0 : Int32)] s1) fun r2 s2 => (if ib p0 62 then (if (s2.1 400 24) ≤ 0 then (if 0 ≤ ((((s2.1 401 (ix p0)) / (2 : Int32)) + ((2 : Int32) * r2)) - ((4 : Int32) * r1)) then (if ((((s2.1 401 (ix p0)) / (2 : Int32)) + ((2 : Int32) * r2)) - ((4 : Int32) * r1)) ≤ (20 : Int32) then some (some (vI ((((s2.1 401 (ix p0)) / (2 : Int32)) + ((2 : Int32) * r2)) - ((4 : Int32) * r1))), s2) else some (some (vI (20 : Int32)), s2)) else some (some (vI (0 : Int32)), s2)) else (if ib p0 62 then (if ib (0 : Int32) 6 then (if ib (1 : Int32) 6 then (if ib (2 : Int32) 6 then (if ib ((16 : Int32) + p0) 62 then (if ib (3 : Int32) 6 then (if ib (4 : Int32) 6 then (if ib p0 8 then (if ib (5 : Int32) 6 then (bI (C E d 187 [vR 1 12 400] ((u2 (u2 (u2 (u2 (u2 (u2 s2.1 416 (ix (0 : Int32)) (s2.1 401 (ix p0))) 416 (ix (1 : Int32)) r1) 416 (ix (2 : Int32)) r2) 416 (ix (3 : Int32)) ((u2 (u2 (u2 s2.1 416 (ix (0 : Int32)) (s2.1 401 (ix p0))) 416 (ix (1 : Int32)) r1) 416 (ix (2 : Int32)) r2) 401 (ix ((16 : Int32) + p0)))) 416 (ix (4 : Int32)) ((u2 (u2 (u2 (u2 s2.1 416 (ix (0 : Int32)) (s2.1 401 (ix p0))) 416 (ix (1 : Int32)) r1) 416 (ix (2 : Int32)) r2) 416 (ix (3 : Int32)) ((u2 (u2 (u2 s2.1 416 (ix (0 : Int32)) (s2.1 401 (ix p0))) 416 (ix (1 : Int32)) r1) 416 (ix (2 : Int32)) r2) 401 (ix ((16 : Int32) + p0)))) 400 29)) 416 (ix (5 : Int32)) ((u2 (u2 (u2 (u2 (u2 s2.1 416 (ix (0 : Int32)) (s2.1 401 (ix p0))) 416 (ix (1 : Int32)) r1) 416 (ix (2 : Int32)) r2) 416 (ix (3 : Int32)) ((u2 (u2 (u2 s2.1 416 (ix (0 : Int32)) (s2.1 401 (ix p0))) 416 (ix (1 : Int32)) r1) 416 (ix (2 : Int32)) r2) 401 (ix ((16 : Int32) + p0)))) 416 (ix (4 : Int32)) ((u2 (u2 (u2 (u2 s2.1 416 (ix (0 : Int32)) (s2.1 401 (ix p0))) 416 (ix (1 : Int32)) r1) 416 (ix (2 : Int32)) r2) 416 (ix (3 : Int32)) ((u2 (u2 (u2 s2.1 416 (ix (0 : Int32)) (s2.1 401 (ix p0))) 416 (ix (1 : Int32)) r1) 416 (ix (2 : Int32)) r2) 401 (ix ((16 : Int32) + p0)))) 400 29)) 427 (ix p0))), s2.2)) fun r3 s3 => (if 0 ≤ r3 then (if r3 ≤ (20 : Int32) then some (some (vI r3), s3) else some (some (vI (20 : Int32)), s3)) else some (some (vI (0 : Int32)), s3))) else none) else none) else none) else none) else none) else none) else none) else none) else none)) else none))) := by
  rw [C_of (q := me191) rfl rfl rfl rfl, X_go E d me191 [] 400]
  rfl
set_option maxRecDepth 100000 in
theorem x192 (E : Nat × (Nat → Int32)) (d : Nat)  (M : Nat → Nat → Int32) (L : Nat → Nat → Int64) : C E (d + 1) 192 [vR 1 12 400] (M, L) = X E d me192 2 [some (vR 1 12 400), some (vI (0 : Int32)), none, none] [] (M, L) := by
  rw [C_of (q := me192) rfl rfl rfl rfl, X_go E d me192 [2, 42, 149] 400]
  rfl
set_option maxRecDepth 100000 in
theorem x192_2 (E : Nat × (Nat → Int32)) (d : Nat) (x1 : Int32) (w2 : Option PV) (w3 : Option PV) (M : Nat → Nat → Int32) (L : Nat → Nat → Int64) : X E d me192 2 [some (vR 1 12 400), some (vI x1), w2, w3] [] (M, L) = (if (M 400 6) ≤ x1 then X E d me192 42 [some (vR 1 12 400), some (vI (0 : Int32)), w2, w3] [] (M, L) else (if ib x1 8 then (if (M 427 (ix x1)) ≤ 0 then (if ib x1 8 then X E d me192 2 [some (vR 1 12 400), some (vI (x1 + (1 : Int32))), w2, w3] [] ((u2 M 431 (ix x1) (0 : Int32)), L) else none) else (bI (C E d 191 [vR 1 12 400, vI x1] (M, L)) fun r1 s1 => (if ib x1 8 then X E d me192 2 [some (vR 1 12 400), some (vI (x1 + (1 : Int32))), w2, w3] [] ((u2 s1.1 431 (ix x1) r1), s1.2) else none))) else none)) := by
  rw [X_go E d me192 [2, 42, 149] 400]
  rfl
set_option maxRecDepth 100000 in
theorem x192_42 (E : Nat × (Nat → Int32)) (d : Nat) (x1 : Int32) (w2 : Option PV) (w3 : Option PV) (M : Nat → Nat → Int32) (L : Nat → Nat → Int64) : X E d me192 42 [some (vR 1 12 400), some (vI x1), w2, w3] [] (M, L) = (if (M 400 7) ≤ x1 then X E d me192 149 [some (vR 1 12 400), some (vI (0 : Int32)), w2, w3] [] (M, L) else (if ib x1 9 then (if (M 429 (ix x1)) < 0 then (if ib x1 9 then (if ib ((42 : Int32) + x1) 62 then (bI (C E d 152 [vI (((M 428 (ix x1)) + (0 : Int32)) - (M 401 (ix ((42 : Int32) + x1))))] (M, L)) fun r2 s2 => (if ib x1 9 then X E d me192 42 [some (vR 1 12 400), some (vI (x1 + (1 : Int32))), some (vI (0 : Int32)), some (vI (0 : Int32))] [] ((u2 s2.1 428 (ix x1) r2), s2.2) else none)) else none) else none) else (if ib x1 9 then (if ib (M 429 (ix x1)) 8 then (if (M 427 (ix (M 429 (ix x1)))) ≤ 0 then (if ib x1 9 then (if ib ((42 : Int32) + x1) 62 then (bI (C E d 152 [vI (((M 428 (ix x1)) + (0 : Int32)) - (M 401 (ix ((42 : Int32) + x1))))] (M, L)) fun r3 s3 => (if ib x1 9 then X E d me192 42 [some (vR 1 12 400), some (vI (x1 + (1 : Int32))), some (vI (0 : Int32)), some (vI (0 : Int32))] [] ((u2 s3.1 428 (ix x1) r3), s3.2) else none)) else none) else none) else (if ib x1 9 then (if ib ((16 : Int32) + (M 429 (ix x1))) 62 then (if ib ((33 : Int32) + x1) 62 then (bI (C E d 151 [vI (M 401 (ix ((16 : Int32) + (M 429 (ix x1))))), vI (M 401 (ix ((33 : Int32) + x1)))] (M, L)) fun r4 s4 => (if ib x1 9 then (if ib ((42 : Int32) + x1) 62 then (bI (C E d 152 [vI (((s4.1 428 (ix x1)) + r4) - (s4.1 401 (ix ((42 : Int32) + x1))))] s4) fun r5 s5 => (if ib x1 9 then X E d me192 42 [some (vR 1 12 400), some (vI (x1 + (1 : Int32))), some (vI (1 : Int32)), some (vI r4)] [] ((u2 s5.1 428 (ix x1) r5), s5.2) else none)) else none) else none)) else none) else none) else none)) else none) else none)) else none)) := by
  rw [X_go E d me192 [2, 42, 149] 400]
  rfl
set_option maxRecDepth 100000 in
theorem x192_149 (E : Nat × (Nat → Int32)) (d : Nat) (x1 : Int32) (w2 : Option PV) (w3 : Option PV) (M : Nat → Nat → Int32) (L : Nat → Nat → Int64) : X E d me192 149 [some (vR 1 12 400), some (vI x1), w2, w3] [] (M, L) = (if (M 400 6) ≤ x1 then some (none, ((u2 M 400 29 (rm32 ((M 400 29) + (1 : Int32)) (7 : Int32))), L)) else (if ib x1 8 then (if ib x1 8 then (bI (C E d 152 [vI ((M 427 (ix x1)) - (M 431 (ix x1)))] (M, L)) fun r6 s6 => (if ib x1 8 then X E d me192 149 [some (vR 1 12 400), some (vI (x1 + (1 : Int32))), w2, w3] [] ((u2 s6.1 427 (ix x1) r6), s6.2) else none)) else none) else none)) := by
  rw [X_go E d me192 [2, 42, 149] 400]
  rfl
set_option maxRecDepth 100000 in
theorem x193 (E : Nat × (Nat → Int32)) (d : Nat) (p0 : Int32) (M : Nat → Nat → Int32) (L : Nat → Nat → Int64) : C E (d + 1) 193 [vR 1 12 400, vI p0] (M, L) = X E d me193 2 [some (vR 1 12 400), some (vI p0), some (vI (0 : Int32))] [] (M, L) := by
  rw [C_of (q := me193) rfl rfl rfl rfl, X_go E d me193 [2] 400]
  rfl
set_option maxRecDepth 100000 in
theorem x193_2 (E : Nat × (Nat → Int32)) (d : Nat) (x1 : Int32) (x2 : Int32) (M : Nat → Nat → Int32) (L : Nat → Nat → Int64) : X E d me193 2 [some (vR 1 12 400), some (vI x1), some (vI x2)] [] (M, L) = (if x1 ≤ x2 then some (none, (M, L)) else (bV (C E d 192 [vR 1 12 400] (M, L)) fun s1 => X E d me193 2 [some (vR 1 12 400), some (vI x1), some (vI (x2 + (1 : Int32)))] [] s1)) := by
  rw [X_go E d me193 [2] 400]
  rfl
set_option maxRecDepth 100000 in
theorem x194 (E : Nat × (Nat → Int32)) (d : Nat)  (M : Nat → Nat → Int32) (L : Nat → Nat → Int64) : C E (d + 1) 194 [vR 1 12 400] (M, L) = X E d me194 4 [some (vR 1 12 400), some (vI (0 : Int32)), some (vI (0 : Int32))] [] (M, L) := by
  rw [C_of (q := me194) rfl rfl rfl rfl, X_go E d me194 [4] 400]
  rfl
set_option maxRecDepth 100000 in
theorem x194_4 (E : Nat × (Nat → Int32)) (d : Nat) (x1 : Int32) (x2 : Int32) (M : Nat → Nat → Int32) (L : Nat → Nat → Int64) : X E d me194 4 [some (vR 1 12 400), some (vI x1), some (vI x2)] [] (M, L) = (if (M 400 6) ≤ x2 then some (some (vI x1), (M, L)) else (if ib x2 8 then (if (M 427 (ix x2)) ≤ 0 then X E d me194 4 [some (vR 1 12 400), some (vI (x1 ||| (0 : Int32))), some (vI (x2 + (1 : Int32)))] [] (M, L) else X E d me194 4 [some (vR 1 12 400), some (vI (x1 ||| ((1 : Int32) <<< (x2 &&& 31)))), some (vI (x2 + (1 : Int32)))] [] (M, L)) else none)) := by
  rw [X_go E d me194 [4] 400]
  rfl
set_option maxRecDepth 100000 in
theorem x195 (E : Nat × (Nat → Int32)) (d : Nat)  (M : Nat → Nat → Int32) (L : Nat → Nat → Int64) : C E (d + 1) 195 [vR 1 12 400] (M, L) = X E d me195 4 [some (vR 1 12 400), some (vI (0 : Int32)), some (vI (0 : Int32))] [] (M, L) := by
  rw [C_of (q := me195) rfl rfl rfl rfl, X_go E d me195 [4] 400]
  rfl
set_option maxRecDepth 100000 in
theorem x195_4 (E : Nat × (Nat → Int32)) (d : Nat) (x1 : Int32) (x2 : Int32) (M : Nat → Nat → Int32) (L : Nat → Nat → Int64) : X E d me195 4 [some (vR 1 12 400), some (vI x1), some (vI x2)] [] (M, L) = (if (M 400 6) ≤ x2 then some (some (vI x1), (M, L)) else (if ib x2 8 then X E d me195 4 [some (vR 1 12 400), some (vI (x1 + (M 427 (ix x2)))), some (vI (x2 + (1 : Int32)))] [] (M, L) else none)) := by
  rw [X_go E d me195 [4] 400]
  rfl
set_option maxRecDepth 100000 in
theorem x196 (E : Nat × (Nat → Int32)) (d : Nat)  (M : Nat → Nat → Int32) (L : Nat → Nat → Int64) : C E (d + 1) 196 [vR 1 12 400] (M, L) = X E d me196 4 [some (vR 1 12 400), some (vI (0 : Int32)), some (vI (0 : Int32))] [] (M, L) := by
  rw [C_of (q := me196) rfl rfl rfl rfl, X_go E d me196 [4] 400]
  rfl
set_option maxRecDepth 100000 in
theorem x196_4 (E : Nat × (Nat → Int32)) (d : Nat) (x1 : Int32) (x2 : Int32) (M : Nat → Nat → Int32) (L : Nat → Nat → Int64) : X E d me196 4 [some (vR 1 12 400), some (vI x1), some (vI x2)] [] (M, L) = (if (M 400 7) ≤ x2 then some (some (vI x1), (M, L)) else (bI (C E d 189 [vR 1 12 400, vI x2] (M, L)) fun r1 s1 => (if r1 = 0 then X E d me196 4 [some (vR 1 12 400), some (vI (x1 ||| (0 : Int32))), some (vI (x2 + (1 : Int32)))] [] s1 else X E d me196 4 [some (vR 1 12 400), some (vI (x1 ||| ((1 : Int32) <<< (x2 &&& 31)))), some (vI (x2 + (1 : Int32)))] [] s1))) := by
  rw [X_go E d me196 [4] 400]
  rfl
set_option maxRecDepth 100000 in
theorem x197 (E : Nat × (Nat → Int32)) (d : Nat) (p0 : Int32) (M : Nat → Nat → Int32) (L : Nat → Nat → Int64) : C E (d + 1) 197 [vR 1 12 400, vI p0] (M, L) = (bI (C E d 156 [vR 1 12 400, vL (Int32.toInt64 p0)] (M, L)) fun r1 s1 => (if r1 = 0 then some (some (vI (-1 : Int32)), s1) else (bV (C E d 188 [vR 1 12 400] s1) fun s2 => (bI (C E d 191 [vR 1 12 400, vI p0] s2) fun r3 s3 => some (some (vI r3), s3))))) := by
  rw [C_of (q := me197) rfl rfl rfl rfl, X_go E d me197 [] 400]
  rfl
set_option maxRecDepth 100000 in
theorem x198 (E : Nat × (Nat → Int32)) (d : Nat) (p0 : Int32) (M : Nat → Nat → Int32) (L : Nat → Nat → Int64) : C E (d + 1) 198 [vI p0] (M, L) = (bI (C E d 148 [vL (Int32.toInt64 p0), vL (0 : Int64), vL (60 : Int64)] (M, L)) fun r1 s1 => (if r1 = 0 ∨ r1 = 1 then some (some (vI r1), s1) else none)) := by
  rw [C_of (q := me198) rfl rfl rfl rfl, X_go E d me198 [] 400]
  rfl
set_option maxRecDepth 100000 in
theorem x199 (E : Nat × (Nat → Int32)) (d : Nat) (p0 : Int32) (p1 : Int32) (p2 : Int32) (M : Nat → Nat → Int32) (L : Nat → Nat → Int64) : C E (d + 1) 199 [vR 1 12 400, vI p0, vI p1, vI p2] (M, L) = (bI (C E d 198 [vI p0] (M, L)) fun r1 s1 => (if r1 = 0 then some (some (vI (-1 : Int32)), s1) else (bI (C E d 148 [vL (Int32.toInt64 p2), vL (0 : Int64), vL (1 : Int64)] s1) fun r2 s2 => (if r2 = 0 then some (some (vI (-1 : Int32)), s2) else (if p2 = 0 then (bI (C E d 156 [vR 1 12 400, vL (Int32.toInt64 p1)] s2) fun r3 s3 => (if r3 = 0 then some (some (vI (-1 : Int32)), s3) else (bV (C E d 188 [vR 1 12 400] s3) fun s4 => (bV (C E d 193 [vR 1 12 400, vI p0] s4) fun s5 => (if p2 = 0 then (if ib p1 8 then some (some (vI (s5.1 427 (ix p1))), s5) else none) else (if ib p1 9 then some (some (vI (s5.1 428 (ix p1))), s5) else none)))))) else (bI (C E d 157 [vR 1 12 400, vL (Int32.toInt64 p1)] s2) fun r6 s6 => (if r6 = 0 then some (some (vI (-1 : Int32)), s6) else (bV (C E d 188 [vR 1 12 400] s6) fun s7 => (bV (C E d 193 [vR 1 12 400, vI p0] s7) fun s8 => (if p2 = 0 then (if ib p1 8 then some (some (vI (s8.1 427 (ix p1))), s8) else none) else (if ib p1 9 then some (some (vI (s8.1 428 (ix p1))), s8) else none))))))))))) := by
  rw [C_of (q := me199) rfl rfl rfl rfl, X_go E d me199 [] 400]
  rfl
set_option maxRecDepth 100000 in
theorem x200 (E : Nat × (Nat → Int32)) (d : Nat) (p0 : Int32) (p1 : Int32) (M : Nat → Nat → Int32) (L : Nat → Nat → Int64) : C E (d + 1) 200 [vR 1 12 400, vI p0, vI p1] (M, L) = (bI (C E d 198 [vI p0] (M, L)) fun r1 s1 => (if r1 = 0 then some (some (vI (-1 : Int32)), s1) else (bI (C E d 148 [vL (Int32.toInt64 p1), vL (0 : Int64), vL (2 : Int64)] s1) fun r2 s2 => (if r2 = 0 then some (some (vI (-1 : Int32)), s2) else (bV (C E d 188 [vR 1 12 400] s2) fun s3 => (bV (C E d 193 [vR 1 12 400, vI p0] s3) fun s4 => (if p1 = 0 then (bI (C E d 194 [vR 1 12 400] s4) fun r5 s5 => some (some (vI r5), s5)) else (if p1 = (1 : Int32) then (bI (C E d 195 [vR 1 12 400] s4) fun r6 s6 => some (some (vI r6), s6)) else (bI (C E d 196 [vR 1 12 400] s4) fun r7 s7 => some (some (vI r7), s7)))))))))) := by
  rw [C_of (q := me200) rfl rfl rfl rfl, X_go E d me200 [] 400]
  rfl
set_option maxRecDepth 100000 in
theorem x201 (E : Nat × (Nat → Int32)) (d : Nat) (p0 : Int32) (M : Nat → Nat → Int32) (L : Nat → Nat → Int64) : C E (d + 1) 201 [vR 1 12 400, vI p0] (M, L) = X E d me201 2 [some (vR 1 12 400), some (vI p0), some (vI (0 : Int32))] [] (M, L) := by
  rw [C_of (q := me201) rfl rfl rfl rfl, X_go E d me201 [2] 400]
  rfl
set_option maxRecDepth 100000 in
theorem x201_2 (E : Nat × (Nat → Int32)) (d : Nat) (x1 : Int32) (x2 : Int32) (M : Nat → Nat → Int32) (L : Nat → Nat → Int64) : X E d me201 2 [some (vR 1 12 400), some (vI x1), some (vI x2)] [] (M, L) = (if (60 : Int32) < x2 then some (some (vI (-2 : Int32)), (M, L)) else (if ib x1 8 then (if (M 427 (ix x1)) = 0 then some (some (vI x2), (M, L)) else (bV (C E d 192 [vR 1 12 400] (M, L)) fun s1 => X E d me201 2 [some (vR 1 12 400), some (vI x1), some (vI (x2 + (1 : Int32)))] [] s1)) else none)) := by
  rw [X_go E d me201 [2] 400]
  rfl
set_option maxRecDepth 100000 in
theorem x202 (E : Nat × (Nat → Int32)) (d : Nat) (p0 : Int32) (M : Nat → Nat → Int32) (L : Nat → Nat → Int64) : C E (d + 1) 202 [vR 1 12 400, vI p0] (M, L) = (if p0 = (-1 : Int32) then (bV (C E d 188 [vR 1 12 400] (M, L)) fun s1 => (if p0 < 0 then X E d me202 32 [some (vR 1 12 400), some (vI p0), some (vI (0 : Int32)), none] [] s1 else (bI (C E d 201 [vR 1 12 400, vI p0] s1) fun r2 s2 => some (some (vI r2), s2)))) else (bI (C E d 156 [vR 1 12 400, vL (Int32.toInt64 p0)] (M, L)) fun r3 s3 => (if r3 = 0 then some (some (vI (-1 : Int32)), s3) else (bV (C E d 188 [vR 1 12 400] s3) fun s4 => (if p0 < 0 then X E d me202 32 [some (vR 1 12 400), some (vI p0), some (vI (0 : Int32)), none] [] s4 else (bI (C E d 201 [vR 1 12 400, vI p0] s4) fun r5 s5 => some (some (vI r5), s5))))))) := by
  rw [C_of (q := me202) rfl rfl rfl rfl, X_go E d me202 [32, 40] 400]
  rfl
set_option maxRecDepth 100000 in
theorem x202_32 (E : Nat × (Nat → Int32)) (d : Nat) (x1 : Int32) (x2 : Int32) (w3 : Option PV) (M : Nat → Nat → Int32) (L : Nat → Nat → Int64) : X E d me202 32 [some (vR 1 12 400), some (vI x1), some (vI x2), w3] [] (M, L) = (if (60 : Int32) < x2 then some (some (vI (-2 : Int32)), (M, L)) else X E d me202 40 [some (vR 1 12 400), some (vI x1), some (vI x2), some (vI (0 : Int32))] [] (M, L)) := by
  rw [X_go E d me202 [32, 40] 400]
  rfl
set_option maxRecDepth 100000 in
theorem x202_40 (E : Nat × (Nat → Int32)) (d : Nat) (x1 : Int32) (x2 : Int32) (x3 : Int32) (M : Nat → Nat → Int32) (L : Nat → Nat → Int64) : X E d me202 40 [some (vR 1 12 400), some (vI x1), some (vI x2), some (vI x3)] [] (M, L) = (if (M 400 6) ≤ x3 then (bV (C E d 192 [vR 1 12 400] (M, L)) fun s6 => X E d me202 32 [some (vR 1 12 400), some (vI x1), some (vI (x2 + (1 : Int32))), some (vI x3)] [] s6) else (if ib x3 8 then (if (M 427 (ix x3)) = 0 then some (some (vI x3), (M, L)) else X E d me202 40 [some (vR 1 12 400), some (vI x1), some (vI x2), some (vI (x3 + (1 : Int32)))] [] (M, L)) else none)) := by
  rw [X_go E d me202 [32, 40] 400]
  rfl
set_option maxRecDepth 100000 in
theorem x203 (E : Nat × (Nat → Int32)) (d : Nat) (p0 : Int32) (M : Nat → Nat → Int32) (L : Nat → Nat → Int64) : C E (d + 1) 203 [vR 1 12 400, vI p0] (M, L) = (bI (C E d 157 [vR 1 12 400, vL (Int32.toInt64 p0)] (M, L)) fun r1 s1 => (if r1 = 0 then some (some (vI (-1 : Int32)), s1) else (bV (C E d 188 [vR 1 12 400] s1) fun s2 => X E d me203 17 [some (vR 1 12 400), some (vI p0), some (vI (0 : Int32))] [] s2))) := by
  rw [C_of (q := me203) rfl rfl rfl rfl, X_go E d me203 [17] 400]
  rfl
set_option maxRecDepth 100000 in
theorem x203_17 (E : Nat × (Nat → Int32)) (d : Nat) (x1 : Int32) (x2 : Int32) (M : Nat → Nat → Int32) (L : Nat → Nat → Int64) : X E d me203 17 [some (vR 1 12 400), some (vI x1), some (vI x2)] [] (M, L) = (if (60 : Int32) < x2 then some (some (vI (-2 : Int32)), (M, L)) else (bI (C E d 189 [vR 1 12 400, vI x1] (M, L)) fun r3 s3 => (if r3 = 0 then some (some (vI x2), s3) else (bV (C E d 192 [vR 1 12 400] s3) fun s4 => X E d me203 17 [some (vR 1 12 400), some (vI x1), some (vI (x2 + (1 : Int32)))] [] s4)))) := by
  rw [X_go E d me203 [17] 400]
  rfl
set_option maxRecDepth 100000 in
theorem x204 (E : Nat × (Nat → Int32)) (d : Nat) (p0 : Int32) (M : Nat → Nat → Int32) (L : Nat → Nat → Int64) : C E (d + 1) 204 [vR 1 12 400, vI p0] (M, L) = (bI (C E d 156 [vR 1 12 400, vL (Int32.toInt64 p0)] (M, L)) fun r1 s1 => (if r1 = 0 then some (some (vI (-1 : Int32)), s1) else (bV (C E d 188 [vR 1 12 400] s1) fun s2 => X E d me204 17 [some (vR 1 12 400), some (vI p0), some (vI (0 : Int32))] [] s2))) := by
  rw [C_of (q := me204) rfl rfl rfl rfl, X_go E d me204 [17] 400]
  rfl
set_option maxRecDepth 100000 in
theorem x204_17 (E : Nat × (Nat → Int32)) (d : Nat) (x1 : Int32) (x2 : Int32) (M : Nat → Nat → Int32) (L : Nat → Nat → Int64) : X E d me204 17 [some (vR 1 12 400), some (vI x1), some (vI x2)] [] (M, L) = (if (M 400 7) ≤ x2 then (bI (C E d 201 [vR 1 12 400, vI x1] (M, L)) fun r3 s3 => some (some (vI r3), s3)) else (if ib x2 9 then (if (M 429 (ix x2)) = x1 then (if ib x2 9 then X E d me204 17 [some (vR 1 12 400), some (vI x1), some (vI (x2 + (1 : Int32)))] [] ((u2 M 429 (ix x2) (-1 : Int32)), L) else none) else (if ib x2 9 then (if ib x2 9 then X E d me204 17 [some (vR 1 12 400), some (vI x1), some (vI (x2 + (1 : Int32)))] [] ((u2 M 429 (ix x2) (M 429 (ix x2))), L) else none) else none)) else none)) := by
  rw [X_go E d me204 [17] 400]
  rfl
set_option maxRecDepth 100000 in
theorem x205 (E : Nat × (Nat → Int32)) (d : Nat) (p0 : Int32) (p1 : Int32) (M : Nat → Nat → Int32) (L : Nat → Nat → Int64) : C E (d + 1) 205 [vR 1 12 400, vI p0, vI p1] (M, L) = (bI (C E d 148 [vL (Int32.toInt64 p0), vL (0 : Int64), vL (20 : Int64)] (M, L)) fun r1 s1 => (if r1 = 0 then some (some (vI (-1 : Int32)), s1) else (bI (C E d 148 [vL (Int32.toInt64 p1), vL (0 : Int64), vL (2 : Int64)] s1) fun r2 s2 => (if r2 = 0 then some (some (vI (-1 : Int32)), s2) else (bV (C E d 188 [vR 1 12 400] s2) fun s3 => (bV (C E d 193 [vR 1 12 400, vI p0] s3) fun s4 => (bI (C E d 194 [vR 1 12 400] s4) fun r5 s5 => (bI (C E d 150 [vI r5] s5) fun r6 s6 => (bI (C E d 195 [vR 1 12 400] s6) fun r7 s7 => X E d me205 57 [some (vR 1 12 400), some (vI p0), some (vI p1), some (vI (900 : Int32)), some (vI r6), some (vI r7), some (vI (0 : Int32)), none, none, none] [] s7))))))))) := by
  rw [C_of (q := me205) rfl rfl rfl rfl, X_go E d me205 [57, 69] 400]
  rfl
set_option maxRecDepth 100000 in
theorem x205_57 (E : Nat × (Nat → Int32)) (d : Nat) (x1 : Int32) (x2 : Int32) (x3 : Int32) (x4 : Int32) (x5 : Int32) (x6 : Int32) (w7 : Option PV) (w8 : Option PV) (w9 : Option PV) (M : Nat → Nat → Int32) (L : Nat → Nat → Int64) : X E d me205 57 [some (vR 1 12 400), some (vI x1), some (vI x2), some (vI x3), some (vI x4), some (vI x5), some (vI x6), w7, w8, w9] [] (M, L) = (if (M 400 7) ≤ x6 then (if x2 = 0 then some (some (vI x4), (M, L)) else (if x2 = (1 : Int32) then some (some (vI x5), (M, L)) else some (some (vI x3), (M, L)))) else X E d me205 69 [some (vR 1 12 400), some (vI x1), some (vI x2), some (vI x3), some (vI x4), some (vI x5), some (vI x6), some (vI (0 : Int32)), w8, w9] [] (M, L)) := by
  rw [X_go E d me205 [57, 69] 400]
  rfl
set_option maxRecDepth 100000 in
theorem x205_69 (E : Nat × (Nat → Int32)) (d : Nat) (x1 : Int32) (x2 : Int32) (x3 : Int32) (x4 : Int32) (x5 : Int32) (x6 : Int32) (x7 : Int32) (w8 : Option PV) (w9 : Option PV) (M : Nat → Nat → Int32) (L : Nat → Nat → Int64) : X E d me205 69 [some (vR 1 12 400), some (vI x1), some (vI x2), some (vI x3), some (vI x4), some (vI x5), some (vI x6), some (vI x7), w8, w9] [] (M, L) = (if (8 : Int32) < x7 then X E d me205 57 [some (vR 1 12 400), some (vI x1), some (vI x2), some (vI x3), some (vI x4), some (vI x5), some (vI (x6 + (1 : Int32))), some (vI x7), w8, w9] [] (M, L) else (if x7 = (8 : Int32) then (bI (C E d 160 [vR 1 12 400, vL (Int32.toInt64 (-1 : Int32))] (M, L)) fun r8 s8 => (if r8 = 0 then X E d me205 69 [some (vR 1 12 400), some (vI x1), some (vI x2), some (vI x3), some (vI x4), some (vI x5), some (vI x6), some (vI (x7 + (1 : Int32))), some (vI (-1 : Int32)), w9] [] s8 else (if ib ((51 : Int32) + x6) 62 then (if (-1 : Int32) = (s8.1 401 (ix ((51 : Int32) + x6))) then X E d me205 69 [some (vR 1 12 400), some (vI x1), some (vI x2), some (vI x3), some (vI x4), some (vI x5), some (vI x6), some (vI (x7 + (1 : Int32))), some (vI (-1 : Int32)), w9] [] s8 else (bV (C E d 188 [vR 1 12 400] s8) fun s9 => (if ib x6 9 then (bV (C E d 193 [vR 1 12 400, vI x1] ((u2 s9.1 429 (ix x6) (-1 : Int32)), s9.2)) fun s10 => (bI (C E d 194 [vR 1 12 400] s10) fun r11 s11 => (bI (C E d 150 [vI r11] s11) fun r12 s12 => (if x4 < r12 then (bI (C E d 195 [vR 1 12 400] s12) fun r13 s13 => X E d me205 69 [some (vR 1 12 400), some (vI x1), some (vI x2), some (vI (((100 : Int32) * x6) + x7)), some (vI r12), some (vI r13), some (vI x6), some (vI (x7 + (1 : Int32))), some (vI (-1 : Int32)), some (vI r12)] [] s13) else (if r12 = x4 then (bI (C E d 195 [vR 1 12 400] s12) fun r14 s14 => (if r14 ≤ x5 then X E d me205 69 [some (vR 1 12 400), some (vI x1), some (vI x2), some (vI x3), some (vI x4), some (vI x5), some (vI x6), some (vI (x7 + (1 : Int32))), some (vI (-1 : Int32)), some (vI r12)] [] s14 else (bI (C E d 195 [vR 1 12 400] s14) fun r15 s15 => X E d me205 69 [some (vR 1 12 400), some (vI x1), some (vI x2), some (vI (((100 : Int32) * x6) + x7)), some (vI r12), some (vI r15), some (vI x6), some (vI (x7 + (1 : Int32))), some (vI (-1 : Int32)), some (vI r12)] [] s15))) else X E d me205 69 [some (vR 1 12 400), some (vI x1), some (vI x2), some (vI x3), some (vI x4), some (vI x5), some (vI x6), some (vI (x7 + (1 : Int32))), some (vI (-1 : Int32)), some (vI r12)] [] s12))))) else none))) else none))) else (bI (C E d 160 [vR 1 12 400, vL (Int32.toInt64 x7)] (M, L)) fun r16 s16 => (if r16 = 0 then X E d me205 69 [some (vR 1 12 400), some (vI x1), some (vI x2), some (vI x3), some (vI x4), some (vI x5), some (vI x6), some (vI (x7 + (1 : Int32))), some (vI x7), w9] [] s16 else (if ib ((51 : Int32) + x6) 62 then (if x7 = (s16.1 401 (ix ((51 : Int32) + x6))) then X E d me205 69 [some (vR 1 12 400), some (vI x1), some (vI x2), some (vI x3), some (vI x4), some (vI x5), some (vI x6), some (vI (x7 + (1 : Int32))), some (vI x7), w9] [] s16 else (bV (C E d 188 [vR 1 12 400] s16) fun s17 => (if ib x6 9 then (bV (C E d 193 [vR 1 12 400, vI x1] ((u2 s17.1 429 (ix x6) x7), s17.2)) fun s18 => (bI (C E d 194 [vR 1 12 400] s18) fun r19 s19 => (bI (C E d 150 [vI r19] s19) fun r20 s20 => (if x4 < r20 then (bI (C E d 195 [vR 1 12 400] s20) fun r21 s21 => X E d me205 69 [some (vR 1 12 400), some (vI x1), some (vI x2), some (vI (((100 : Int32) * x6) + x7)), some (vI r20), some (vI r21), some (vI x6), some (vI (x7 + (1 : Int32))), some (vI x7), some (vI r20)] [] s21) else (if r20 = x4 then (bI (C E d 195 [vR 1 12 400] s20) fun r22 s22 => (if r22 ≤ x5 then X E d me205 69 [some (vR 1 12 400), some (vI x1), some (vI x2), some (vI x3), some (vI x4), some (vI x5), some (vI x6), some (vI (x7 + (1 : Int32))), some (vI x7), some (vI r20)] [] s22 else (bI (C E d 195 [vR 1 12 400] s22) fun r23 s23 => X E d me205 69 [some (vR 1 12 400), some (vI x1), some (vI x2), some (vI (((100 : Int32) * x6) + x7)), some (vI r20), some (vI r23), some (vI x6), some (vI (x7 + (1 : Int32))), some (vI x7), some (vI r20)] [] s23))) else X E d me205 69 [some (vR 1 12 400), some (vI x1), some (vI x2), some (vI x3), some (vI x4), some (vI x5), some (vI x6), some (vI (x7 + (1 : Int32))), some (vI x7), some (vI r20)] [] s20))))) else none))) else none))))) := by
  rw [X_go E d me205 [57, 69] 400]
  rfl
set_option maxRecDepth 100000 in
theorem x206 (E : Nat × (Nat → Int32)) (d : Nat) (p0 : Int32) (p1 : Int32) (M : Nat → Nat → Int32) (L : Nat → Nat → Int64) : C E (d + 1) 206 [vR 1 12 400, vI p0, vI p1] (M, L) = some (some (vI ((p0 <<< ((9 : Int32) &&& 31)) + p1)), (M, L)) := by
  rw [C_of (q := me206) rfl rfl rfl rfl, X_go E d me206 [] 400]
  rfl
set_option maxRecDepth 100000 in
theorem x207 (E : Nat × (Nat → Int32)) (d : Nat) (p0 : Int32) (p1 : Int32) (M : Nat → Nat → Int32) (L : Nat → Nat → Int64) : C E (d + 1) 207 [vR 1 12 400, vI p0, vI p1] (M, L) = (if ib p0 9 then (if ib (60 : Int32) 62 then (if (M 401 (ix (60 : Int32))) < (M 428 (ix p0)) then some (some (vI (0 : Int32)), (M, L)) else (if ib ((33 : Int32) + p0) 62 then (if ib ((16 : Int32) + p1) 62 then (bI (C E d 151 [vI (M 401 (ix ((33 : Int32) + p0))), vI (M 401 (ix ((16 : Int32) + p1)))] (M, L)) fun r1 s1 => (if ib ((42 : Int32) + p0) 62 then (if (s1.1 401 (ix ((42 : Int32) + p0))) < r1 then some (some (vI (0 : Int32)), s1) else some (some (vI (1 : Int32)), s1)) else none)) else none) else none)) else none) else none) := by
  rw [C_of (q := me207) rfl rfl rfl rfl, X_go E d me207 [] 400]
  rfl
set_option maxRecDepth 100000 in
theorem x208 (E : Nat × (Nat → Int32)) (d : Nat) (p0 : Int32) (M : Nat → Nat → Int32) (L : Nat → Nat → Int64) : C E (d + 1) 208 [vR 1 12 400, vI p0] (M, L) = (if p0 = (-1 : Int32) then (bV (C E d 188 [vR 1 12 400] (M, L)) fun s1 => X E d me208 22 [some (vR 1 12 400), some (vI p0), some (vI (0 : Int32)), none, none, none, none] [] s1) else (bI (C E d 156 [vR 1 12 400, vL (Int32.toInt64 p0)] (M, L)) fun r2 s2 => (if r2 = 0 then some (some (vI (-1 : Int32)), s2) else (bV (C E d 188 [vR 1 12 400] s2) fun s3 => X E d me208 22 [some (vR 1 12 400), some (vI p0), some (vI (0 : Int32)), none, none, none, none] [] s3)))) := by
  rw [C_of (q := me208) rfl rfl rfl rfl, X_go E d me208 [22, 60, 66, 94, 216, 233] 400]
  rfl
set_option maxRecDepth 100000 in
theorem x208_22 (E : Nat × (Nat → Int32)) (d : Nat) (x1 : Int32) (x2 : Int32) (w3 : Option PV) (w4 : Option PV) (w5 : Option PV) (w6 : Option PV) (M : Nat → Nat → Int32) (L : Nat → Nat → Int64) : X E d me208 22 [some (vR 1 12 400), some (vI x1), some (vI x2), w3, w4, w5, w6] [] (M, L) = (if ((1 : Int32) <<< ((M 400 7) &&& 31)) ≤ x2 then X E d me208 60 [some (vR 1 12 400), some (vI x1), some (vI ((M 400 6) - (1 : Int32))), w3, w4, w5, w6] [] (M, L) else (bI (C E d 206 [vR 1 12 400, vI (M 400 6), vI x2] (M, L)) fun r4 s4 => (if ib r4 4608 then X E d me208 22 [some (vR 1 12 400), some (vI x1), some (vI (x2 + (1 : Int32))), w3, w4, w5, w6] [] ((u2 s4.1 432 (ix r4) (0 : Int32)), s4.2) else none))) := by
  rw [X_go E d me208 [22, 60, 66, 94, 216, 233] 400]
  rfl
set_option maxRecDepth 100000 in
theorem x208_60 (E : Nat × (Nat → Int32)) (d : Nat) (x1 : Int32) (x2 : Int32) (w3 : Option PV) (w4 : Option PV) (w5 : Option PV) (w6 : Option PV) (M : Nat → Nat → Int32) (L : Nat → Nat → Int64) : X E d me208 60 [some (vR 1 12 400), some (vI x1), some (vI x2), w3, w4, w5, w6] [] (M, L) = (if x2 < 0 then (if x1 = (-1 : Int32) then (bI (C E d 206 [vR 1 12 400, vI (0 : Int32), vI (0 : Int32)] (M, L)) fun r5 s5 => (if ib r5 4608 then some (some (vI (s5.1 432 (ix r5))), s5) else none)) else X E d me208 216 [some (vR 1 12 400), some (vI x1), some (vI (0 : Int32)), some (vI (9 : Int32)), some (vI (0 : Int32)), w5, w6] [] (M, L)) else X E d me208 66 [some (vR 1 12 400), some (vI x1), some (vI x2), some (vI (0 : Int32)), w4, w5, w6] [] (M, L)) := by
  rw [X_go E d me208 [22, 60, 66, 94, 216, 233] 400]
  rfl
set_option maxRecDepth 100000 in
theorem x208_66 (E : Nat × (Nat → Int32)) (d : Nat) (x1 : Int32) (x2 : Int32) (x3 : Int32) (w4 : Option PV) (w5 : Option PV) (w6 : Option PV) (M : Nat → Nat → Int32) (L : Nat → Nat → Int64) : X E d me208 66 [some (vR 1 12 400), some (vI x1), some (vI x2), some (vI x3), w4, w5, w6] [] (M, L) = (if ((1 : Int32) <<< ((M 400 7) &&& 31)) ≤ x3 then X E d me208 60 [some (vR 1 12 400), some (vI x1), some (vI (x2 + (Int32.ofInt (-1)))), some (vI x3), w4, w5, w6] [] (M, L) else (bI (C E d 206 [vR 1 12 400, vI (x2 + (1 : Int32)), vI x3] (M, L)) fun r6 s6 => (if ib r6 4608 then X E d me208 94 [some (vR 1 12 400), some (vI x1), some (vI x2), some (vI x3), some (vI (s6.1 432 (ix r6))), some (vI (0 : Int32)), w6] [] s6 else none))) := by
  rw [X_go E d me208 [22, 60, 66, 94, 216, 233] 400]
  rfl
set_option maxRecDepth 100000 in
theorem x208_94 (E : Nat × (Nat → Int32)) (d : Nat) (x1 : Int32) (x2 : Int32) (x3 : Int32) (x4 : Int32) (x5 : Int32) (w6 : Option PV) (M : Nat → Nat → Int32) (L : Nat → Nat → Int64) : X E d me208 94 [some (vR 1 12 400), some (vI x1), some (vI x2), some (vI x3), some (vI x4), some (vI x5), w6] [] (M, L) = (if (M 400 7) ≤ x5 then (bI (C E d 206 [vR 1 12 400, vI x2, vI x3] (M, L)) fun r7 s7 => (if ib r7 4608 then X E d me208 66 [some (vR 1 12 400), some (vI x1), some (vI x2), some (vI (x3 + (1 : Int32))), some (vI x4), some (vI x5), w6] [] ((u2 s7.1 432 (ix r7) x4), s7.2) else none)) else (bI (C E d 149 [vI x3, vI x5] (M, L)) fun r8 s8 => (if r8 = 0 then (bI (C E d 207 [vR 1 12 400, vI x5, vI x2] s8) fun r9 s9 => (if r9 = 0 then X E d me208 94 [some (vR 1 12 400), some (vI x1), some (vI x2), some (vI x3), some (vI x4), some (vI (x5 + (1 : Int32))), w6] [] s9 else (bI (C E d 206 [vR 1 12 400, vI (x2 + (1 : Int32)), vI (x3 ||| ((1 : Int32) <<< (x5 &&& 31)))] s9) fun r10 s10 => (if ib r10 4608 then (if ((1 : Int32) + (s10.1 432 (ix r10))) ≤ x4 then X E d me208 94 [some (vR 1 12 400), some (vI x1), some (vI x2), some (vI x3), some (vI x4), some (vI (x5 + (1 : Int32))), some (vI ((1 : Int32) + (s10.1 432 (ix r10))))] [] s10 else X E d me208 94 [some (vR 1 12 400), some (vI x1), some (vI x2), some (vI x3), some (vI ((1 : Int32) + (s10.1 432 (ix r10)))), some (vI (x5 + (1 : Int32))), some (vI ((1 : Int32) + (s10.1 432 (ix r10))))] [] s10) else none)))) else X E d me208 94 [some (vR 1 12 400), some (vI x1), some (vI x2), some (vI x3), some (vI x4), some (vI (x5 + (1 : Int32))), w6] [] s8))) := by
  rw [X_go E d me208 [22, 60, 66, 94, 216, 233] 400]
  rfl
set_option maxRecDepth 100000 in
theorem x208_216 (E : Nat × (Nat → Int32)) (d : Nat) (x1 : Int32) (x2 : Int32) (x3 : Int32) (x4 : Int32) (w5 : Option PV) (w6 : Option PV) (M : Nat → Nat → Int32) (L : Nat → Nat → Int64) : X E d me208 216 [some (vR 1 12 400), some (vI x1), some (vI x2), some (vI x3), some (vI x4), w5, w6] [] (M, L) = (if x1 < x4 then some (some (vI x3), (M, L)) else X E d me208 233 [some (vR 1 12 400), some (vI x1), some (vI x2), some (vI (9 : Int32)), some (vI x4), some (vI ((M 400 7) - (1 : Int32))), w6] [] (M, L)) := by
  rw [X_go E d me208 [22, 60, 66, 94, 216, 233] 400]
  rfl
set_option maxRecDepth 100000 in
theorem x208_233 (E : Nat × (Nat → Int32)) (d : Nat) (x1 : Int32) (x2 : Int32) (x3 : Int32) (x4 : Int32) (x5 : Int32) (w6 : Option PV) (M : Nat → Nat → Int32) (L : Nat → Nat → Int64) : X E d me208 233 [some (vR 1 12 400), some (vI x1), some (vI x2), some (vI x3), some (vI x4), some (vI x5), w6] [] (M, L) = (if x5 < 0 then (if x3 = (9 : Int32) then X E d me208 216 [some (vR 1 12 400), some (vI x1), some (vI (x2 ||| (0 : Int32))), some (vI x3), some (vI (x4 + (1 : Int32))), some (vI x5), w6] [] (M, L) else X E d me208 216 [some (vR 1 12 400), some (vI x1), some (vI (x2 ||| ((1 : Int32) <<< (x3 &&& 31)))), some (vI x3), some (vI (x4 + (1 : Int32))), some (vI x5), w6] [] (M, L)) else (bI (C E d 149 [vI x2, vI x5] (M, L)) fun r11 s11 => (if r11 = 0 then (bI (C E d 207 [vR 1 12 400, vI x5, vI x4] s11) fun r12 s12 => (if r12 = 0 then X E d me208 233 [some (vR 1 12 400), some (vI x1), some (vI x2), some (vI x3), some (vI x4), some (vI (x5 + (Int32.ofInt (-1)))), some (vI (0 : Int32))] [] s12 else (bI (C E d 206 [vR 1 12 400, vI (x4 + (1 : Int32)), vI (x2 ||| ((1 : Int32) <<< (x5 &&& 31)))] s12) fun r13 s13 => (if ib r13 4608 then (bI (C E d 206 [vR 1 12 400, vI x4, vI x2] s13) fun r14 s14 => (if ib r14 4608 then (if ((1 : Int32) + (s13.1 432 (ix r13))) = (s14.1 432 (ix r14)) then X E d me208 233 [some (vR 1 12 400), some (vI x1), some (vI x2), some (vI x5), some (vI x4), some (vI (x5 + (Int32.ofInt (-1)))), some (vI (1 : Int32))] [] s14 else X E d me208 233 [some (vR 1 12 400), some (vI x1), some (vI x2), some (vI x3), some (vI x4), some (vI (x5 + (Int32.ofInt (-1)))), some (vI (0 : Int32))] [] s14) else none)) else none)))) else X E d me208 233 [some (vR 1 12 400), some (vI x1), some (vI x2), some (vI x3), some (vI x4), some (vI (x5 + (Int32.ofInt (-1)))), some (vI (0 : Int32))] [] s11))) := by
  rw [X_go E d me208 [22, 60, 66, 94, 216, 233] 400]
  rfl
set_option maxRecDepth 100000 in
theorem x209 (E : Nat × (Nat → Int32)) (d : Nat) (p0 : Int32) (p1 : Int32) (p2 : Int32) (M : Nat → Nat → Int32) (L : Nat → Nat → Int64) : C E (d + 1) 209 [vR 1 12 400, vI p0, vI p1, vI p2] (M, L) = X E d me209 3 [some (vR 1 12 400), some (vI p0), some (vI p1), some (vI p2), some (vI (0 : Int32)), none, none] [] (M, L) := by
  rw [C_of (q := me209) rfl rfl rfl rfl, X_go E d me209 [3, 39, 49] 400]
  rfl
set_option maxRecDepth 100000 in
theorem x209_3 (E : Nat × (Nat → Int32)) (d : Nat) (x1 : Int32) (x2 : Int32) (x3 : Int32) (x4 : Int32) (w5 : Option PV) (w6 : Option PV) (M : Nat → Nat → Int32) (L : Nat → Nat → Int64) : X E d me209 3 [some (vR 1 12 400), some (vI x1), some (vI x2), some (vI x3), some (vI x4), w5, w6] [] (M, L) = (if (8 : Int32) ≤ x4 then X E d me209 39 [some (vR 1 12 400), some (vI x1), some (vI x2), some (vI x3), some (vI (0 : Int32)), w5, w6] [] (M, L) else (if x4 = x1 then (if ib x4 8 then X E d me209 3 [some (vR 1 12 400), some (vI x1), some (vI x2), some (vI x3), some (vI (x4 + (1 : Int32))), w5, w6] [] ((u2 M 433 (ix x4) (0 : Int32)), L) else none) else (if ib x4 8 then X E d me209 3 [some (vR 1 12 400), some (vI x1), some (vI x2), some (vI x3), some (vI (x4 + (1 : Int32))), w5, w6] [] ((u2 M 433 (ix x4) (1000000 : Int32)), L) else none))) := by
  rw [X_go E d me209 [3, 39, 49] 400]
  rfl
set_option maxRecDepth 100000 in
theorem x209_39 (E : Nat × (Nat → Int32)) (d : Nat) (x1 : Int32) (x2 : Int32) (x3 : Int32) (x4 : Int32) (w5 : Option PV) (w6 : Option PV) (M : Nat → Nat → Int32) (L : Nat → Nat → Int64) : X E d me209 39 [some (vR 1 12 400), some (vI x1), some (vI x2), some (vI x3), some (vI x4), w5, w6] [] (M, L) = (if (8 : Int32) ≤ x4 then (if ib x2 8 then some (some (vI (M 433 (ix x2))), (M, L)) else none) else X E d me209 49 [some (vR 1 12 400), some (vI x1), some (vI x2), some (vI x3), some (vI x4), some (vI (0 : Int32)), w6] [] (M, L)) := by
  rw [X_go E d me209 [3, 39, 49] 400]
  rfl
set_option maxRecDepth 100000 in
theorem x209_49 (E : Nat × (Nat → Int32)) (d : Nat) (x1 : Int32) (x2 : Int32) (x3 : Int32) (x4 : Int32) (x5 : Int32) (w6 : Option PV) (M : Nat → Nat → Int32) (L : Nat → Nat → Int64) : X E d me209 49 [some (vR 1 12 400), some (vI x1), some (vI x2), some (vI x3), some (vI x4), some (vI x5), w6] [] (M, L) = (if (M 400 6) ≤ x5 then X E d me209 39 [some (vR 1 12 400), some (vI x1), some (vI x2), some (vI x3), some (vI (x4 + (1 : Int32))), some (vI x5), w6] [] (M, L) else (bI (C E d 149 [vI x3, vI x5] (M, L)) fun r1 s1 => (if r1 = 0 then X E d me209 49 [some (vR 1 12 400), some (vI x1), some (vI x2), some (vI x3), some (vI x4), some (vI (x5 + (1 : Int32))), w6] [] s1 else (if ib x5 62 then (if ib x5 8 then (if ib x5 8 then (if ib (s1.1 410 (ix x5)) 8 then (if ib x5 8 then (if ib (s1.1 409 (ix x5)) 8 then (bI (C E d 151 [vI (s1.1 433 (ix (s1.1 410 (ix x5)))), vI ((s1.1 433 (ix (s1.1 409 (ix x5)))) + (((100 : Int32) * (s1.1 401 (ix x5))) + (1 : Int32)))] s1) fun r2 s2 => (if ib (s1.1 410 (ix x5)) 8 then (if ib x5 8 then (if ib x5 8 then (if ib ((u2 s2.1 433 (ix (s1.1 410 (ix x5))) r2) 409 (ix x5)) 8 then (if ib x5 8 then (if ib ((u2 s2.1 433 (ix (s1.1 410 (ix x5))) r2) 410 (ix x5)) 8 then (bI (C E d 151 [vI ((u2 s2.1 433 (ix (s1.1 410 (ix x5))) r2) 433 (ix ((u2 s2.1 433 (ix (s1.1 410 (ix x5))) r2) 409 (ix x5)))), vI (((u2 s2.1 433 (ix (s1.1 410 (ix x5))) r2) 433 (ix ((u2 s2.1 433 (ix (s1.1 410 (ix x5))) r2) 410 (ix x5)))) + (((100 : Int32) * (s1.1 401 (ix x5))) + (1 : Int32)))] ((u2 s2.1 433 (ix (s1.1 410 (ix x5))) r2), s2.2)) fun r3 s3 => (if ib ((u2 s2.1 433 (ix (s1.1 410 (ix x5))) r2) 409 (ix x5)) 8 then X E d me209 49 [some (vR 1 12 400), some (vI x1), some (vI x2), some (vI x3), some (vI x4), some (vI (x5 + (1 : Int32))), some (vI (((100 : Int32) * (s1.1 401 (ix x5))) + (1 : Int32)))] [] ((u2 s3.1 433 (ix ((u2 s2.1 433 (ix (s1.1 410 (ix x5))) r2) 409 (ix x5))) r3), s3.2) else none)) else none) else none) else none) else none) else none) else none)) else none) else none) else none) else none) else none) else none)))) := by
  rw [X_go E d me209 [3, 39, 49] 400]
  rfl
set_option maxRecDepth 100000 in
theorem x210 (E : Nat × (Nat → Int32)) (d : Nat) (p0 : Int32) (p1 : Int32) (M : Nat → Nat → Int32) (L : Nat → Nat → Int64) : C E (d + 1) 210 [vR 1 12 400, vI p0, vI p1] (M, L) = (bI (C E d 159 [vI p0] (M, L)) fun r1 s1 => (if r1 = 0 then some (some (vI (-1 : Int32)), s1) else (bI (C E d 148 [vL (Int32.toInt64 p1), vL (0 : Int64), vL (3 : Int64)] s1) fun r2 s2 => (if r2 = 0 then some (some (vI (-1 : Int32)), s2) else (bV (C E d 188 [vR 1 12 400] s2) fun s3 => (bI (C E d 194 [vR 1 12 400] s3) fun r4 s4 => (if (2 : Int32) ≤ p1 then X E d me210 87 [some (vR 1 12 400), some (vI p0), some (vI p1), some (vI r4), some (vI (-1 : Int32)), some (vI (0 : Int32)), none] [] s4 else (bI (C E d 209 [vR 1 12 400, vI (p0 / (10 : Int32)), vI (rm32 p0 (10 : Int32)), vI r4] s4) fun r5 s5 => (if r5 < (1000000 : Int32) then (if p1 = 0 then some (some (vI (r5 / (100 : Int32))), s5) else some (some (vI (rm32 r5 (100 : Int32))), s5)) else some (some (vI (-2 : Int32)), s5)))))))))) := by
  rw [C_of (q := me210) rfl rfl rfl rfl, X_go E d me210 [87] 400]
  rfl
set_option maxRecDepth 100000 in
theorem x210_87 (E : Nat × (Nat → Int32)) (d : Nat) (x1 : Int32) (x2 : Int32) (x3 : Int32) (x4 : Int32) (x5 : Int32) (w6 : Option PV) (M : Nat → Nat → Int32) (L : Nat → Nat → Int64) : X E d me210 87 [some (vR 1 12 400), some (vI x1), some (vI x2), some (vI x3), some (vI x4), some (vI x5), w6] [] (M, L) = (if ((1 : Int32) <<< ((M 400 6) &&& 31)) ≤ x5 then (if x2 = (2 : Int32) then (bI (C E d 150 [vI x4] (M, L)) fun r6 s6 => some (some (vI r6), s6)) else some (some (vI x4), (M, L))) else (if (x5 &&& (x3 ^^^ (-1 : Int32))) = 0 then (if x4 < 0 then (bI (C E d 209 [vR 1 12 400, vI (x1 / (10 : Int32)), vI (rm32 x1 (10 : Int32)), vI (x3 &&& (x5 ^^^ (-1 : Int32)))] (M, L)) fun r7 s7 => (if r7 < (1000000 : Int32) then X E d me210 87 [some (vR 1 12 400), some (vI x1), some (vI x2), some (vI x3), some (vI x4), some (vI (x5 + (1 : Int32))), some (vI (0 : Int32))] [] s7 else X E d me210 87 [some (vR 1 12 400), some (vI x1), some (vI x2), some (vI x3), some (vI x5), some (vI (x5 + (1 : Int32))), some (vI (1 : Int32))] [] s7)) else (bI (C E d 150 [vI x5] (M, L)) fun r8 s8 => (bI (C E d 150 [vI x4] s8) fun r9 s9 => (if r9 ≤ r8 then X E d me210 87 [some (vR 1 12 400), some (vI x1), some (vI x2), some (vI x3), some (vI x4), some (vI (x5 + (1 : Int32))), some (vI (0 : Int32))] [] s9 else (bI (C E d 209 [vR 1 12 400, vI (x1 / (10 : Int32)), vI (rm32 x1 (10 : Int32)), vI (x3 &&& (x5 ^^^ (-1 : Int32)))] s9) fun r10 s10 => (if r10 < (1000000 : Int32) then X E d me210 87 [some (vR 1 12 400), some (vI x1), some (vI x2), some (vI x3), some (vI x4), some (vI (x5 + (1 : Int32))), some (vI (0 : Int32))] [] s10 else X E d me210 87 [some (vR 1 12 400), some (vI x1), some (vI x2), some (vI x3), some (vI x5), some (vI (x5 + (1 : Int32))), some (vI (1 : Int32))] [] s10)))))) else X E d me210 87 [some (vR 1 12 400), some (vI x1), some (vI x2), some (vI x3), some (vI x4), some (vI (x5 + (1 : Int32))), some (vI (0 : Int32))] [] (M, L))) := by
  rw [X_go E d me210 [87] 400]
  rfl
set_option maxRecDepth 100000 in
theorem x211 (E : Nat × (Nat → Int32)) (d : Nat)  (M : Nat → Nat → Int32) (L : Nat → Nat → Int64) : C E (d + 1) 211 [vR 1 12 400] (M, L) = (bV (C E d 188 [vR 1 12 400] (M, L)) fun s1 => (bI (C E d 194 [vR 1 12 400] s1) fun r2 s2 => X E d me211 13 [some (vR 1 12 400), some (vI r2), some (vI (0 : Int32)), some (vI (0 : Int32))] [] s2)) := by
  rw [C_of (q := me211) rfl rfl rfl rfl, X_go E d me211 [13] 400]
  rfl
set_option maxRecDepth 100000 in
theorem x211_13 (E : Nat × (Nat → Int32)) (d : Nat) (x1 : Int32) (x2 : Int32) (x3 : Int32) (M : Nat → Nat → Int32) (L : Nat → Nat → Int64) : X E d me211 13 [some (vR 1 12 400), some (vI x1), some (vI x2), some (vI x3)] [] (M, L) = (if (M 400 6) ≤ x3 then some (some (vI x2), (M, L)) else (bI (C E d 149 [vI x1, vI x3] (M, L)) fun r3 s3 => (if r3 = 0 then X E d me211 13 [some (vR 1 12 400), some (vI x1), some (vI (x2 ||| (0 : Int32))), some (vI (x3 + (1 : Int32)))] [] s3 else (if ib x3 8 then (if ib x3 8 then (bI (C E d 209 [vR 1 12 400, vI (s3.1 409 (ix x3)), vI (s3.1 410 (ix x3)), vI (x1 &&& (((1 : Int32) <<< (x3 &&& 31)) ^^^ (-1 : Int32)))] s3) fun r4 s4 => (if r4 < (1000000 : Int32) then X E d me211 13 [some (vR 1 12 400), some (vI x1), some (vI (x2 ||| (0 : Int32))), some (vI (x3 + (1 : Int32)))] [] s4 else X E d me211 13 [some (vR 1 12 400), some (vI x1), some (vI (x2 ||| ((1 : Int32) <<< (x3 &&& 31)))), some (vI (x3 + (1 : Int32)))] [] s4)) else none) else none)))) := by
  rw [X_go E d me211 [13] 400]
  rfl
end
section
/-! printed by wip/whole/sym.py: what each method does, as a tree; closed by rfl -/
set_option maxRecDepth 100000 in
theorem x212 (E : Nat × (Nat → Int32)) (d : Nat) (p0 : Int32) (M : Nat → Nat → Int32) (L : Nat → Nat → Int64) : C E (d + 1) 212 [vR 1 12 400, vI p0] (M, L) = (bI (C E d 240 [vI p0] (M, L)) fun r1 s1 => (if r1 = 0 then some (some (vI (-1 : Int32)), s1) else (if ib p0 6 then (if 0 ≤ (s1.1 447 (ix p0)) then (if ib p0 6 then (if (s1.1 447 (ix p0)) = (50 : Int32) then some (some (vI (1 : Int32)), s1) else some (some (vI (-12 : Int32)), s1)) else none) else some (some (vI (-11 : Int32)), s1)) else none))) := by
  rw [C_of (q := me212) rfl rfl rfl rfl, X_go E d me212 [] 400]
  rfl
set_option maxRecDepth 100000 in
theorem x213 (E : Nat × (Nat → Int32)) (d : Nat) (p0 : Int32) (p1 : Int32) (M : Nat → Nat → Int32) (L : Nat → Nat → Int64) : C E (d + 1) 213 [vR 1 12 400, vI p0, vI p1] (M, L) = (bV (C E d 188 [vR 1 12 400] (M, L)) fun s1 => X E d me213 6 [some (vR 1 12 400), some (vI p0), some (vI p1), some (vI (0 : Int32))] [] s1) := by
  rw [C_of (q := me213) rfl rfl rfl rfl, X_go E d me213 [6] 400]
  rfl
set_option maxRecDepth 100000 in
theorem x213_6 (E : Nat × (Nat → Int32)) (d : Nat) (x1 : Int32) (x2 : Int32) (x3 : Int32) (M : Nat → Nat → Int32) (L : Nat → Nat → Int64) : X E d me213 6 [some (vR 1 12 400), some (vI x1), some (vI x2), some (vI x3)] [] (M, L) = (if ib x1 6 then (if (M 448 (ix x1)) ≤ x3 then some (some (vI (-2 : Int32)), (M, L)) else (if ib (((60 : Int32) * x1) + x3) 360 then (if ib x2 8 then (if (lg_cmp (L 449 (ix (((60 : Int32) * x1) + x3))) (Int32.toInt64 (M 427 (ix x2)))) = 0 then (bV (C E d 192 [vR 1 12 400] (M, L)) fun s2 => X E d me213 6 [some (vR 1 12 400), some (vI x1), some (vI x2), some (vI (x3 + (1 : Int32)))] [] s2) else some (some (vI x3), (M, L))) else none) else none)) else none) := by
  rw [X_go E d me213 [6] 400]
  rfl
set_option maxRecDepth 100000 in
theorem x214 (E : Nat × (Nat → Int32)) (d : Nat) (p0 : Int32) (p1 : Int32) (M : Nat → Nat → Int32) (L : Nat → Nat → Int64) : C E (d + 1) 214 [vR 1 12 400, vI p0, vI p1] (M, L) = (bI (C E d 212 [vR 1 12 400, vI p0] (M, L)) fun r1 s1 => (if r1 = (-1 : Int32) then some (some (vI (-1 : Int32)), s1) else (bI (C E d 156 [vR 1 12 400, vL (Int32.toInt64 p1)] s1) fun r2 s2 => (if r2 = 0 then some (some (vI (-1 : Int32)), s2) else (bI (C E d 212 [vR 1 12 400, vI p0] s2) fun r3 s3 => (if 0 ≤ r3 then (bI (C E d 213 [vR 1 12 400, vI p0, vI p1] s3) fun r4 s4 => some (some (vI r4), s4)) else (bI (C E d 212 [vR 1 12 400, vI p0] s3) fun r5 s5 => some (some (vI r5), s5)))))))) := by
  rw [C_of (q := me214) rfl rfl rfl rfl, X_go E d me214 [] 400]
  rfl
set_option maxRecDepth 100000 in
theorem x215 (E : Nat × (Nat → Int32)) (d : Nat) (p0 : Int32) (p1 : Int32) (p2 : Int32) (p3 : Int32) (M : Nat → Nat → Int32) (L : Nat → Nat → Int64) : C E (d + 1) 215 [vR 1 12 400, vI p0, vI p1, vI p2, vI p3] (M, L) = (bI (C E d 212 [vR 1 12 400, vI p0] (M, L)) fun r1 s1 => (if r1 = (-1 : Int32) then some (some (vI (-1 : Int32)), s1) else (bI (C E d 156 [vR 1 12 400, vL (Int32.toInt64 p1)] s1) fun r2 s2 => (if r2 = 0 then some (some (vI (-1 : Int32)), s2) else (bI (C E d 148 [vL (Int32.toInt64 p3), vL (0 : Int64), vL (3 : Int64)] s2) fun r3 s3 => (if r3 = 0 then some (some (vI (-1 : Int32)), s3) else (if (2 : Int32) ≤ p3 then (bI (C E d 156 [vR 1 12 400, vL (Int32.toInt64 p2)] s3) fun r4 s4 => (if r4 = 0 then some (some (vI (-1 : Int32)), s4) else (bI (C E d 212 [vR 1 12 400, vI p0] s4) fun r5 s5 => (if 0 ≤ r5 then (if (2 : Int32) ≤ p3 then (if ib ((16 : Int32) + p2) 62 then X E d me215 110 [some (vR 1 12 400), some (vI p0), some (vI p1), some (vI p2), some (vI p3), some (vI ((16 : Int32) + p2)), some (vI (s5.1 401 (ix ((16 : Int32) + p2)))), some (vI (0 : Int32)), some (vI (-2 : Int32)), some (vI (0 : Int32))] [] s5 else none) else (if ib ((24 : Int32) + p2) 62 then X E d me215 110 [some (vR 1 12 400), some (vI p0), some (vI p1), some (vI p2), some (vI p3), some (vI ((24 : Int32) + p2)), some (vI (s5.1 401 (ix ((24 : Int32) + p2)))), some (vI (0 : Int32)), some (vI (-2 : Int32)), some (vI (0 : Int32))] [] s5 else none)) else (bI (C E d 212 [vR 1 12 400, vI p0] s5) fun r6 s6 => some (some (vI r6), s6)))))) else (bI (C E d 157 [vR 1 12 400, vL (Int32.toInt64 p2)] s3) fun r7 s7 => (if r7 = 0 then some (some (vI (-1 : Int32)), s7) else (bI (C E d 212 [vR 1 12 400, vI p0] s7) fun r8 s8 => (if 0 ≤ r8 then (if (2 : Int32) ≤ p3 then (if ib ((16 : Int32) + p2) 62 then X E d me215 110 [some (vR 1 12 400), some (vI p0), some (vI p1), some (vI p2), some (vI p3), some (vI ((16 : Int32) + p2)), some (vI (s8.1 401 (ix ((16 : Int32) + p2)))), some (vI (0 : Int32)), some (vI (-2 : Int32)), some (vI (0 : Int32))] [] s8 else none) else (if ib ((24 : Int32) + p2) 62 then X E d me215 110 [some (vR 1 12 400), some (vI p0), some (vI p1), some (vI p2), some (vI p3), some (vI ((24 : Int32) + p2)), some (vI (s8.1 401 (ix ((24 : Int32) + p2)))), some (vI (0 : Int32)), some (vI (-2 : Int32)), some (vI (0 : Int32))] [] s8 else none)) else (bI (C E d 212 [vR 1 12 400, vI p0] s8) fun r9 s9 => some (some (vI r9), s9))))))))))))) := by
  rw [C_of (q := me215) rfl rfl rfl rfl, X_go E d me215 [110] 400]
  rfl
set_option maxRecDepth 100000 in
theorem x215_110 (E : Nat × (Nat → Int32)) (d : Nat) (x1 : Int32) (x2 : Int32) (x3 : Int32) (x4 : Int32) (x5 : Int32) (x6 : Int32) (x7 : Int32) (x8 : Int32) (x9 : Int32) (M : Nat → Nat → Int32) (L : Nat → Nat → Int64) : X E d me215 110 [some (vR 1 12 400), some (vI x1), some (vI x2), some (vI x3), some (vI x4), some (vI x5), some (vI x6), some (vI x7), some (vI x8), some (vI x9)] [] (M, L) = (if (2 : Int32) ≤ x4 then (if (9 : Int32) < x9 then (if ib x5 62 then (if (rm32 x4 (2 : Int32)) = 0 then some (some (vI x7), ((u2 M 401 (ix x5) x6), L)) else some (some (vI x8), ((u2 M 401 (ix x5) x6), L))) else none) else (if ib x5 62 then (bI (C E d 213 [vR 1 12 400, vI x1, vI x2] ((u2 M 401 (ix x5) x9), L)) fun r10 s10 => (if r10 = (-2 : Int32) then (if x7 = 0 then X E d me215 110 [some (vR 1 12 400), some (vI x1), some (vI x2), some (vI x3), some (vI x4), some (vI x5), some (vI x6), some (vI (x7 + (1 : Int32))), some (vI x9), some (vI (x9 + (1 : Int32)))] [] s10 else X E d me215 110 [some (vR 1 12 400), some (vI x1), some (vI x2), some (vI x3), some (vI x4), some (vI x5), some (vI x6), some (vI (x7 + (1 : Int32))), some (vI x8), some (vI (x9 + (1 : Int32)))] [] s10) else X E d me215 110 [some (vR 1 12 400), some (vI x1), some (vI x2), some (vI x3), some (vI x4), some (vI x5), some (vI x6), some (vI x7), some (vI x8), some (vI (x9 + (1 : Int32)))] [] s10)) else none)) else (if (99 : Int32) < x9 then (if ib x5 62 then (if (rm32 x4 (2 : Int32)) = 0 then some (some (vI x7), ((u2 M 401 (ix x5) x6), L)) else some (some (vI x8), ((u2 M 401 (ix x5) x6), L))) else none) else (if ib x5 62 then (bI (C E d 213 [vR 1 12 400, vI x1, vI x2] ((u2 M 401 (ix x5) x9), L)) fun r11 s11 => (if r11 = (-2 : Int32) then (if x7 = 0 then X E d me215 110 [some (vR 1 12 400), some (vI x1), some (vI x2), some (vI x3), some (vI x4), some (vI x5), some (vI x6), some (vI (x7 + (1 : Int32))), some (vI x9), some (vI (x9 + (1 : Int32)))] [] s11 else X E d me215 110 [some (vR 1 12 400), some (vI x1), some (vI x2), some (vI x3), some (vI x4), some (vI x5), some (vI x6), some (vI (x7 + (1 : Int32))), some (vI x8), some (vI (x9 + (1 : Int32)))] [] s11) else X E d me215 110 [some (vR 1 12 400), some (vI x1), some (vI x2), some (vI x3), some (vI x4), some (vI x5), some (vI x6), some (vI x7), some (vI x8), some (vI (x9 + (1 : Int32)))] [] s11)) else none))) := by
  rw [X_go E d me215 [110] 400]
  rfl
set_option maxRecDepth 100000 in
theorem x216 (E : Nat × (Nat → Int32)) (d : Nat) (p0 : Int32) (M : Nat → Nat → Int32) (L : Nat → Nat → Int64) : C E (d + 1) 216 [vR 1 12 400, vI p0] (M, L) = (bI (C E d 189 [vR 1 12 400, vI p0] (M, L)) fun r1 s1 => (if r1 = 0 then (if ib p0 9 then (if ib (60 : Int32) 62 then some (some (vI ((s1.1 428 (ix p0)) - (s1.1 401 (ix (60 : Int32))))), s1) else none) else none) else some (some (vI (0 : Int32)), s1))) := by
  rw [C_of (q := me216) rfl rfl rfl rfl, X_go E d me216 [] 400]
  rfl
set_option maxRecDepth 100000 in
theorem x217 (E : Nat × (Nat → Int32)) (d : Nat) (p0 : Int32) (p1 : Int32) (M : Nat → Nat → Int32) (L : Nat → Nat → Int64) : C E (d + 1) 217 [vR 1 12 400, vI p0, vI p1] (M, L) = (bI (C E d 157 [vR 1 12 400, vL (Int32.toInt64 p0)] (M, L)) fun r1 s1 => (if r1 = 0 then some (some (vI (-1 : Int32)), s1) else (bI (C E d 148 [vL (Int32.toInt64 p1), vL (0 : Int64), vL (9999 : Int64)] s1) fun r2 s2 => (if r2 = 0 then some (some (vI (-1 : Int32)), s2) else (bV (C E d 188 [vR 1 12 400] s2) fun s3 => X E d me217 32 [some (vR 1 12 400), some (vI p0), some (vI p1), some (vI (0 : Int32)), some (vI (0 : Int32))] [] s3))))) := by
  rw [C_of (q := me217) rfl rfl rfl rfl, X_go E d me217 [32] 400]
  rfl
set_option maxRecDepth 100000 in
theorem x217_32 (E : Nat × (Nat → Int32)) (d : Nat) (x1 : Int32) (x2 : Int32) (x3 : Int32) (x4 : Int32) (M : Nat → Nat → Int32) (L : Nat → Nat → Int64) : X E d me217 32 [some (vR 1 12 400), some (vI x1), some (vI x2), some (vI x3), some (vI x4)] [] (M, L) = (if (M 400 7) ≤ x4 then (if x3 = 0 then some (some (vI (0 : Int32)), (M, L)) else (bI (C E d 216 [vR 1 12 400, vI x1] (M, L)) fun r4 s4 => (if x3 = 0 then none else some (some (vI ((x2 * r4) / x3)), s4)))) else (bI (C E d 216 [vR 1 12 400, vI x4] (M, L)) fun r5 s5 => X E d me217 32 [some (vR 1 12 400), some (vI x1), some (vI x2), some (vI (x3 + r5)), some (vI (x4 + (1 : Int32)))] [] s5)) := by
  rw [X_go E d me217 [32] 400]
  rfl
set_option maxRecDepth 100000 in
theorem x218 (E : Nat × (Nat → Int32)) (d : Nat) (p0 : Int32) (M : Nat → Nat → Int32) (L : Nat → Nat → Int64) : C E (d + 1) 218 [vR 1 12 400, vI p0] (M, L) = (bI (C E d 158 [vL (Int32.toInt64 p0)] (M, L)) fun r1 s1 => (if r1 = 0 then some (some (vI (-1 : Int32)), s1) else (bV (C E d 188 [vR 1 12 400] s1) fun s2 => X E d me218 21 [some (vR 1 12 400), some (vI p0), some (vI (0 : Int32)), some (vI (0 : Int32)), some (vI (0 : Int32))] [] s2))) := by
  rw [C_of (q := me218) rfl rfl rfl rfl, X_go E d me218 [21] 400]
  rfl
set_option maxRecDepth 100000 in
theorem x218_21 (E : Nat × (Nat → Int32)) (d : Nat) (x1 : Int32) (x2 : Int32) (x3 : Int32) (x4 : Int32) (M : Nat → Nat → Int32) (L : Nat → Nat → Int64) : X E d me218 21 [some (vR 1 12 400), some (vI x1), some (vI x2), some (vI x3), some (vI x4)] [] (M, L) = (if (M 400 6) ≤ x4 then some (some (vI (((10 : Int32) * x2) + x3)), (M, L)) else (if ib x4 8 then (if (M 409 (ix x4)) = x1 then (bI (C E d 190 [vR 1 12 400, vI x4, vI (1 : Int32)] (M, L)) fun r3 s3 => (bI (C E d 190 [vR 1 12 400, vI x4, vI (0 : Int32)] s3) fun r4 s4 => X E d me218 21 [some (vR 1 12 400), some (vI x1), some (vI (x2 + r3)), some (vI (x3 + r4)), some (vI (x4 + (1 : Int32)))] [] s4)) else (if ib x4 8 then (if (M 410 (ix x4)) = x1 then (bI (C E d 190 [vR 1 12 400, vI x4, vI (1 : Int32)] (M, L)) fun r5 s5 => (bI (C E d 190 [vR 1 12 400, vI x4, vI (0 : Int32)] s5) fun r6 s6 => X E d me218 21 [some (vR 1 12 400), some (vI x1), some (vI (x2 + r5)), some (vI (x3 + r6)), some (vI (x4 + (1 : Int32)))] [] s6)) else X E d me218 21 [some (vR 1 12 400), some (vI x1), some (vI x2), some (vI x3), some (vI (x4 + (1 : Int32)))] [] (M, L)) else none)) else none)) := by
  rw [X_go E d me218 [21] 400]
  rfl
set_option maxRecDepth 100000 in
theorem x219 (E : Nat × (Nat → Int32)) (d : Nat) (p0 : Int32) (p1 : Int32) (p2 : Int32) (p3 : Int32) (M : Nat → Nat → Int32) (L : Nat → Nat → Int64) : C E (d + 1) 219 [vR 1 12 400, vI p0, vI p1, vI p2, vI p3] (M, L) = (if p1 = p2 then (bV (C E d 188 [vR 1 12 400] (M, L)) fun s1 => X E d me219 12 [some (vR 1 12 400), some (vI p0), some (vI p1), some (vI p2), some (vI p3), some (vI (0 : Int32)), none, none] [] s1) else (if ib p1 3 then (bI (C E d 219 [vR 1 12 400, vI p0, vI (p1 + (1 : Int32)), vI p2, vI p3] ((u2 M 434 (ix p1) (9 : Int32)), L)) fun r2 s2 => X E d me219 163 [some (vR 1 12 400), some (vI p0), some (vI p1), some (vI p2), some (vI p3), some (vI r2), some (vI (0 : Int32)), none] [] s2) else none)) := by
  rw [C_of (q := me219) rfl rfl rfl rfl, X_go E d me219 [12, 163] 400]
  rfl
set_option maxRecDepth 100000 in
theorem x219_12 (E : Nat × (Nat → Int32)) (d : Nat) (x1 : Int32) (x2 : Int32) (x3 : Int32) (x4 : Int32) (x5 : Int32) (w6 : Option PV) (w7 : Option PV) (M : Nat → Nat → Int32) (L : Nat → Nat → Int64) : X E d me219 12 [some (vR 1 12 400), some (vI x1), some (vI x2), some (vI x3), some (vI x4), some (vI x5), w6, w7] [] (M, L) = (if x3 ≤ x5 then (bV (C E d 193 [vR 1 12 400, vI x4] (M, L)) fun s3 => (if ib x1 8 then some (some (vI (s3.1 427 (ix x1))), s3) else none)) else (if ib x5 3 then (if (M 400 7) ≤ (M 434 (ix x5)) then X E d me219 12 [some (vR 1 12 400), some (vI x1), some (vI x2), some (vI x3), some (vI x4), some (vI (x5 + (1 : Int32))), w6, w7] [] (M, L) else (if ib x5 3 then (if (rm32 x5 (2 : Int32)) = 0 then (if ib (M 434 (ix x5)) 9 then (if ib x5 3 then (if (rm32 x5 (2 : Int32)) = (1 : Int32) then (if ib x5 3 then (if ib ((u2 M 429 (ix (M 434 (ix x5))) x1) 434 (ix x5)) 9 then (bI (C E d 152 [vI (((u2 M 429 (ix (M 434 (ix x5))) x1) 428 (ix ((u2 M 429 (ix (M 434 (ix x5))) x1) 434 (ix x5)))) + (20 : Int32))] ((u2 M 429 (ix (M 434 (ix x5))) x1), L)) fun r4 s4 => (if ib ((u2 M 429 (ix (M 434 (ix x5))) x1) 434 (ix x5)) 9 then X E d me219 12 [some (vR 1 12 400), some (vI x1), some (vI x2), some (vI x3), some (vI x4), some (vI (x5 + (1 : Int32))), w6, w7] [] ((u2 s4.1 428 (ix ((u2 M 429 (ix (M 434 (ix x5))) x1) 434 (ix x5))) r4), s4.2) else none)) else none) else none) else (if ib x5 3 then (if ib ((u2 M 429 (ix (M 434 (ix x5))) x1) 434 (ix x5)) 9 then (if ib ((u2 M 429 (ix (M 434 (ix x5))) x1) 434 (ix x5)) 9 then X E d me219 12 [some (vR 1 12 400), some (vI x1), some (vI x2), some (vI x3), some (vI x4), some (vI (x5 + (1 : Int32))), w6, w7] [] ((u2 (u2 M 429 (ix (M 434 (ix x5))) x1) 428 (ix ((u2 M 429 (ix (M 434 (ix x5))) x1) 434 (ix x5))) ((u2 M 429 (ix (M 434 (ix x5))) x1) 428 (ix ((u2 M 429 (ix (M 434 (ix x5))) x1) 434 (ix x5))))), L) else none) else none) else none)) else none) else none) else (if ib x5 3 then (if ib (M 434 (ix x5)) 9 then (if ib (M 434 (ix x5)) 9 then (if ib x5 3 then (if (rm32 x5 (2 : Int32)) = (1 : Int32) then (if ib x5 3 then (if ib ((u2 M 429 (ix (M 434 (ix x5))) (M 429 (ix (M 434 (ix x5))))) 434 (ix x5)) 9 then (bI (C E d 152 [vI (((u2 M 429 (ix (M 434 (ix x5))) (M 429 (ix (M 434 (ix x5))))) 428 (ix ((u2 M 429 (ix (M 434 (ix x5))) (M 429 (ix (M 434 (ix x5))))) 434 (ix x5)))) + (20 : Int32))] ((u2 M 429 (ix (M 434 (ix x5))) (M 429 (ix (M 434 (ix x5))))), L)) fun r5 s5 => (if ib ((u2 M 429 (ix (M 434 (ix x5))) (M 429 (ix (M 434 (ix x5))))) 434 (ix x5)) 9 then X E d me219 12 [some (vR 1 12 400), some (vI x1), some (vI x2), some (vI x3), some (vI x4), some (vI (x5 + (1 : Int32))), w6, w7] [] ((u2 s5.1 428 (ix ((u2 M 429 (ix (M 434 (ix x5))) (M 429 (ix (M 434 (ix x5))))) 434 (ix x5))) r5), s5.2) else none)) else none) else none) else (if ib x5 3 then (if ib ((u2 M 429 (ix (M 434 (ix x5))) (M 429 (ix (M 434 (ix x5))))) 434 (ix x5)) 9 then (if ib ((u2 M 429 (ix (M 434 (ix x5))) (M 429 (ix (M 434 (ix x5))))) 434 (ix x5)) 9 then X E d me219 12 [some (vR 1 12 400), some (vI x1), some (vI x2), some (vI x3), some (vI x4), some (vI (x5 + (1 : Int32))), w6, w7] [] ((u2 (u2 M 429 (ix (M 434 (ix x5))) (M 429 (ix (M 434 (ix x5))))) 428 (ix ((u2 M 429 (ix (M 434 (ix x5))) (M 429 (ix (M 434 (ix x5))))) 434 (ix x5))) ((u2 M 429 (ix (M 434 (ix x5))) (M 429 (ix (M 434 (ix x5))))) 428 (ix ((u2 M 429 (ix (M 434 (ix x5))) (M 429 (ix (M 434 (ix x5))))) 434 (ix x5))))), L) else none) else none) else none)) else none) else none) else none) else none)) else none)) else none)) := by
  rw [X_go E d me219 [12, 163] 400]
  rfl
set_option maxRecDepth 100000 in
theorem x219_163 (E : Nat × (Nat → Int32)) (d : Nat) (x1 : Int32) (x2 : Int32) (x3 : Int32) (x4 : Int32) (x5 : Int32) (x6 : Int32) (w7 : Option PV) (M : Nat → Nat → Int32) (L : Nat → Nat → Int64) : X E d me219 163 [some (vR 1 12 400), some (vI x1), some (vI x2), some (vI x3), some (vI x4), some (vI x5), some (vI x6), w7] [] (M, L) = (if (M 400 7) ≤ x6 then some (some (vI x5), (M, L)) else (if ib x2 3 then (bI (C E d 219 [vR 1 12 400, vI x1, vI (x2 + (1 : Int32)), vI x3, vI x4] ((u2 M 434 (ix x2) x6), L)) fun r6 s6 => (if (rm32 x2 (2 : Int32)) = 0 then (if r6 ≤ x5 then X E d me219 163 [some (vR 1 12 400), some (vI x1), some (vI x2), some (vI x3), some (vI x4), some (vI x5), some (vI (x6 + (1 : Int32))), some (vI r6)] [] s6 else X E d me219 163 [some (vR 1 12 400), some (vI x1), some (vI x2), some (vI x3), some (vI x4), some (vI r6), some (vI (x6 + (1 : Int32))), some (vI r6)] [] s6) else (if x5 ≤ r6 then X E d me219 163 [some (vR 1 12 400), some (vI x1), some (vI x2), some (vI x3), some (vI x4), some (vI x5), some (vI (x6 + (1 : Int32))), some (vI r6)] [] s6 else X E d me219 163 [some (vR 1 12 400), some (vI x1), some (vI x2), some (vI x3), some (vI x4), some (vI r6), some (vI (x6 + (1 : Int32))), some (vI r6)] [] s6))) else none)) := by
  rw [X_go E d me219 [12, 163] 400]
  rfl
set_option maxRecDepth 100000 in
theorem x220 (E : Nat × (Nat → Int32)) (d : Nat) (p0 : Int32) (p1 : Int32) (p2 : Int32) (M : Nat → Nat → Int32) (L : Nat → Nat → Int64) : C E (d + 1) 220 [vR 1 12 400, vI p0, vI p1, vI p2] (M, L) = (bI (C E d 156 [vR 1 12 400, vL (Int32.toInt64 p0)] (M, L)) fun r1 s1 => (if r1 = 0 then some (some (vI (-1 : Int32)), s1) else (if p1 < 0 then some (some (vI (-1 : Int32)), s1) else (bI (C E d 148 [vL (Int32.toInt64 (p1 / (100 : Int32))), vL (1 : Int64), vL (3 : Int64)] s1) fun r2 s2 => (if r2 = 0 then some (some (vI (-1 : Int32)), s2) else (bI (C E d 148 [vL (Int32.toInt64 (rm32 p1 (100 : Int32))), vL (0 : Int64), vL (20 : Int64)] s2) fun r3 s3 => (if r3 = 0 then some (some (vI (-1 : Int32)), s3) else (bI (C E d 148 [vL (Int32.toInt64 p2), vL (0 : Int64), vL (1 : Int64)] s3) fun r4 s4 => (if r4 = 0 then some (some (vI (-1 : Int32)), s4) else (bI (C E d 219 [vR 1 12 400, vI p0, vI (0 : Int32), vI (p1 / (100 : Int32)), vI (rm32 p1 (100 : Int32))] s4) fun r5 s5 => (if p2 = 0 then some (some (vI r5), s5) else X E d me220 92 [some (vR 1 12 400), some (vI p0), some (vI p1), some (vI p2), some (vI (p1 / (100 : Int32))), some (vI (rm32 p1 (100 : Int32))), some (vI r5), some (vI (-1 : Int32)), some (vI (0 : Int32))] [] s5))))))))))) := by
  rw [C_of (q := me220) rfl rfl rfl rfl, X_go E d me220 [92] 400]
  rfl
set_option maxRecDepth 100000 in
theorem x220_92 (E : Nat × (Nat → Int32)) (d : Nat) (x1 : Int32) (x2 : Int32) (x3 : Int32) (x4 : Int32) (x5 : Int32) (x6 : Int32) (x7 : Int32) (x8 : Int32) (M : Nat → Nat → Int32) (L : Nat → Nat → Int64) : X E d me220 92 [some (vR 1 12 400), some (vI x1), some (vI x2), some (vI x3), some (vI x4), some (vI x5), some (vI x6), some (vI x7), some (vI x8)] [] (M, L) = (if (M 400 7) < x8 then some (some (vI x7), (M, L)) else (if 0 ≤ x7 then some (some (vI x7), (M, L)) else (if x8 = 0 then (if ib (0 : Int32) 3 then (bI (C E d 219 [vR 1 12 400, vI x1, vI (1 : Int32), vI x4, vI x5] ((u2 M 434 (ix (0 : Int32)) (9 : Int32)), L)) fun r6 s6 => (if r6 = x6 then (if x8 = 0 then X E d me220 92 [some (vR 1 12 400), some (vI x1), some (vI x2), some (vI x3), some (vI x4), some (vI x5), some (vI x6), some (vI (9 : Int32)), some (vI (x8 + (1 : Int32)))] [] s6 else X E d me220 92 [some (vR 1 12 400), some (vI x1), some (vI x2), some (vI x3), some (vI x4), some (vI x5), some (vI x6), some (vI (x8 - (1 : Int32))), some (vI (x8 + (1 : Int32)))] [] s6) else X E d me220 92 [some (vR 1 12 400), some (vI x1), some (vI x2), some (vI x3), some (vI x4), some (vI x5), some (vI x6), some (vI (-1 : Int32)), some (vI (x8 + (1 : Int32)))] [] s6)) else none) else (if ib (0 : Int32) 3 then (bI (C E d 219 [vR 1 12 400, vI x1, vI (1 : Int32), vI x4, vI x5] ((u2 M 434 (ix (0 : Int32)) (x8 - (1 : Int32))), L)) fun r7 s7 => (if r7 = x6 then (if x8 = 0 then X E d me220 92 [some (vR 1 12 400), some (vI x1), some (vI x2), some (vI x3), some (vI x4), some (vI x5), some (vI x6), some (vI (9 : Int32)), some (vI (x8 + (1 : Int32)))] [] s7 else X E d me220 92 [some (vR 1 12 400), some (vI x1), some (vI x2), some (vI x3), some (vI x4), some (vI x5), some (vI x6), some (vI (x8 - (1 : Int32))), some (vI (x8 + (1 : Int32)))] [] s7) else X E d me220 92 [some (vR 1 12 400), some (vI x1), some (vI x2), some (vI x3), some (vI x4), some (vI x5), some (vI x6), some (vI (-1 : Int32)), some (vI (x8 + (1 : Int32)))] [] s7)) else none)))) := by
  rw [X_go E d me220 [92] 400]
  rfl
set_option maxRecDepth 100000 in
theorem x221 (E : Nat × (Nat → Int32)) (d : Nat) (p0 : Int32) (p1 : Int32) (p2 : Int32) (M : Nat → Nat → Int32) (L : Nat → Nat → Int64) : C E (d + 1) 221 [vR 1 12 400, vI p0, vI p1, vI p2] (M, L) = (if p1 < 0 then some (some (vI (-1 : Int32)), (M, L)) else (bI (C E d 148 [vL (Int32.toInt64 (p1 / (10000 : Int32))), vL (1 : Int64), vL (30 : Int64)] (M, L)) fun r1 s1 => (if r1 = 0 then some (some (vI (-1 : Int32)), s1) else (bI (C E d 148 [vL (Int32.toInt64 (rm32 (p1 / (100 : Int32)) (100 : Int32))), vL (1 : Int64), vL (60 : Int64)] s1) fun r2 s2 => (if r2 = 0 then some (some (vI (-1 : Int32)), s2) else (bI (C E d 148 [vL (Int32.toInt64 (rm32 p1 (100 : Int32))), vL (0 : Int64), vL (12 : Int64)] s2) fun r3 s3 => (if r3 = 0 then some (some (vI (-1 : Int32)), s3) else (if p2 = (-1 : Int32) then X E d me221 81 [some (vR 1 12 400), some (vI p0), some (vI p1), some (vI p2), some (vI p0), some (vI (0 : Int32)), some (vI (0 : Int32)), some (vI (0 : Int32)), none, none] [] s3 else (bI (C E d 156 [vR 1 12 400, vL (Int32.toInt64 p2)] s3) fun r4 s4 => (if r4 = 0 then some (some (vI (-1 : Int32)), s4) else X E d me221 81 [some (vR 1 12 400), some (vI p0), some (vI p1), some (vI p2), some (vI p0), some (vI (0 : Int32)), some (vI (0 : Int32)), some (vI (0 : Int32)), none, none] [] s4)))))))))) := by
  rw [C_of (q := me221) rfl rfl rfl rfl, X_go E d me221 [81, 98] 400]
  rfl
set_option maxRecDepth 100000 in
theorem x221_81 (E : Nat × (Nat → Int32)) (d : Nat) (x1 : Int32) (x2 : Int32) (x3 : Int32) (x4 : Int32) (x5 : Int32) (x6 : Int32) (x7 : Int32) (w8 : Option PV) (w9 : Option PV) (M : Nat → Nat → Int32) (L : Nat → Nat → Int64) : X E d me221 81 [some (vR 1 12 400), some (vI x1), some (vI x2), some (vI x3), some (vI x4), some (vI x5), some (vI x6), some (vI x7), w8, w9] [] (M, L) = (if (x2 / (10000 : Int32)) ≤ x7 then (if 0 ≤ x3 then some (some (vI x6), (M, L)) else some (some (vI x5), (M, L))) else (bV (C E d 188 [vR 1 12 400] (M, L)) fun s5 => X E d me221 98 [some (vR 1 12 400), some (vI x1), some (vI x2), some (vI x3), some (vI x4), some (vI x5), some (vI x6), some (vI x7), some (vI (0 : Int32)), w9] [] s5)) := by
  rw [X_go E d me221 [81, 98] 400]
  rfl
set_option maxRecDepth 100000 in
theorem x221_98 (E : Nat × (Nat → Int32)) (d : Nat) (x1 : Int32) (x2 : Int32) (x3 : Int32) (x4 : Int32) (x5 : Int32) (x6 : Int32) (x7 : Int32) (x8 : Int32) (w9 : Option PV) (M : Nat → Nat → Int32) (L : Nat → Nat → Int64) : X E d me221 98 [some (vR 1 12 400), some (vI x1), some (vI x2), some (vI x3), some (vI x4), some (vI x5), some (vI x6), some (vI x7), some (vI x8), w9] [] (M, L) = (if (rm32 (x2 / (100 : Int32)) (100 : Int32)) ≤ x8 then (bI (C E d 194 [vR 1 12 400] (M, L)) fun r6 s6 => (bI (C E d 150 [vI r6] s6) fun r7 s7 => (if x3 < 0 then X E d me221 81 [some (vR 1 12 400), some (vI x1), some (vI x2), some (vI x3), some (vI x4), some (vI (x5 + r7)), some (vI (x6 + (0 : Int32))), some (vI (x7 + (1 : Int32))), some (vI x8), w9] [] s7 else (if ib x3 8 then (if (s7.1 427 (ix x3)) ≤ 0 then X E d me221 81 [some (vR 1 12 400), some (vI x1), some (vI x2), some (vI x3), some (vI x4), some (vI (x5 + r7)), some (vI (x6 + (0 : Int32))), some (vI (x7 + (1 : Int32))), some (vI x8), w9] [] s7 else X E d me221 81 [some (vR 1 12 400), some (vI x1), some (vI x2), some (vI x3), some (vI x4), some (vI (x5 + r7)), some (vI (x6 + (1 : Int32))), some (vI (x7 + (1 : Int32))), some (vI x8), w9] [] s7) else none)))) else (if (M 400 7) ≤ 0 then (bV (C E d 192 [vR 1 12 400] (M, L)) fun s8 => X E d me221 98 [some (vR 1 12 400), some (vI x1), some (vI x2), some (vI x3), some (vI ((x4 * (1103515245 : Int32)) + (12345 : Int32))), some (vI x5), some (vI x6), some (vI x7), some (vI (x8 + (1 : Int32))), w9] [] s8) else (if (rm32 x2 (100 : Int32)) ≤ (rm32 (us32 ((x4 * (1103515245 : Int32)) + (12345 : Int32)) (24 : Int32)) (12 : Int32)) then (bV (C E d 192 [vR 1 12 400] (M, L)) fun s9 => X E d me221 98 [some (vR 1 12 400), some (vI x1), some (vI x2), some (vI x3), some (vI ((x4 * (1103515245 : Int32)) + (12345 : Int32))), some (vI x5), some (vI x6), some (vI x7), some (vI (x8 + (1 : Int32))), w9] [] s9) else (if (M 400 7) = 0 then none else (if ib (rm32 (us32 ((x4 * (1103515245 : Int32)) + (12345 : Int32)) (8 : Int32)) (M 400 7)) 9 then (bI (C E d 152 [vI ((M 428 (ix (rm32 (us32 ((x4 * (1103515245 : Int32)) + (12345 : Int32)) (8 : Int32)) (M 400 7)))) + (rm32 (us32 ((x4 * (1103515245 : Int32)) + (12345 : Int32)) (16 : Int32)) (30 : Int32)))] (M, L)) fun r10 s10 => (if ib (rm32 (us32 ((x4 * (1103515245 : Int32)) + (12345 : Int32)) (8 : Int32)) (M 400 7)) 9 then (bV (C E d 192 [vR 1 12 400] ((u2 s10.1 428 (ix (rm32 (us32 ((x4 * (1103515245 : Int32)) + (12345 : Int32)) (8 : Int32)) (M 400 7))) r10), s10.2)) fun s11 => X E d me221 98 [some (vR 1 12 400), some (vI x1), some (vI x2), some (vI x3), some (vI ((x4 * (1103515245 : Int32)) + (12345 : Int32))), some (vI x5), some (vI x6), some (vI x7), some (vI (x8 + (1 : Int32))), some (vI (rm32 (us32 ((x4 * (1103515245 : Int32)) + (12345 : Int32)) (8 : Int32)) (M 400 7)))] [] s11) else none)) else none))))) := by
  rw [X_go E d me221 [81, 98] 400]
  rfl
set_option maxRecDepth 100000 in
theorem x222 (E : Nat × (Nat → Int32)) (d : Nat)  (M : Nat → Nat → Int32) (L : Nat → Nat → Int64) : C E (d + 1) 222 [vR 1 12 400] (M, L) = (bV (C E d 188 [vR 1 12 400] (M, L)) fun s1 => (bI (C E d 194 [vR 1 12 400] s1) fun r2 s2 => (bV (C E d 192 [vR 1 12 400] s2) fun s3 => X E d me222 15 [some (vR 1 12 400), some (vI r2), some (vI (0 : Int32))] [] s3))) := by
  rw [C_of (q := me222) rfl rfl rfl rfl, X_go E d me222 [15, 46] 400]
  rfl
set_option maxRecDepth 100000 in
theorem x222_15 (E : Nat × (Nat → Int32)) (d : Nat) (x1 : Int32) (x2 : Int32) (M : Nat → Nat → Int32) (L : Nat → Nat → Int64) : X E d me222 15 [some (vR 1 12 400), some (vI x1), some (vI x2)] [] (M, L) = (if (M 400 6) ≤ x2 then X E d me222 46 [some (vR 1 12 400), some (vI x1), some (vI (0 : Int32))] [] (M, L) else (if ib x2 8 then (if ib ((8 : Int32) + x2) 62 then X E d me222 15 [some (vR 1 12 400), some (vI x1), some (vI (x2 + (1 : Int32)))] [] ((u2 M 401 (ix ((8 : Int32) + x2)) (M 427 (ix x2))), L) else none) else none)) := by
  rw [X_go E d me222 [15, 46] 400]
  rfl
set_option maxRecDepth 100000 in
theorem x222_46 (E : Nat × (Nat → Int32)) (d : Nat) (x1 : Int32) (x2 : Int32) (M : Nat → Nat → Int32) (L : Nat → Nat → Int64) : X E d me222 46 [some (vR 1 12 400), some (vI x1), some (vI x2)] [] (M, L) = (if (M 400 7) ≤ x2 then (if ib (61 : Int32) 62 then (if ib (0 : Int32) 5 then (if ib (0 : Int32) 5 then (if ib (4 : Int32) 5 then (bI (C E d 194 [vR 1 12 400] ((u2 (u2 M 401 (ix (61 : Int32)) (M 400 29)) 435 (ix (0 : Int32)) (((u2 M 401 (ix (61 : Int32)) (M 400 29)) 435 (ix (0 : Int32))) + (1 : Int32))), L)) fun r4 s4 => (bI (C E d 150 [vI (x1 &&& (r4 ^^^ (-1 : Int32)))] s4) fun r5 s5 => (if ib (4 : Int32) 5 then (bI (C E d 194 [vR 1 12 400] ((u2 s5.1 435 (ix (4 : Int32)) (((u2 (u2 M 401 (ix (61 : Int32)) (M 400 29)) 435 (ix (0 : Int32)) (((u2 M 401 (ix (61 : Int32)) (M 400 29)) 435 (ix (0 : Int32))) + (1 : Int32))) 435 (ix (4 : Int32))) + r5)), s5.2)) fun r6 s6 => (bI (C E d 150 [vI r6] s6) fun r7 s7 => some (some (vI r7), s7))) else none))) else none) else none) else none) else none) else (if ib x2 9 then (if ib ((24 : Int32) + x2) 62 then X E d me222 46 [some (vR 1 12 400), some (vI x1), some (vI (x2 + (1 : Int32)))] [] ((u2 M 401 (ix ((24 : Int32) + x2)) (M 428 (ix x2))), L) else none) else none)) := by
  rw [X_go E d me222 [15, 46] 400]
  rfl
set_option maxRecDepth 100000 in
theorem x223 (E : Nat × (Nat → Int32)) (d : Nat) (p0 : Int32) (p1 : Int32) (M : Nat → Nat → Int32) (L : Nat → Nat → Int64) : C E (d + 1) 223 [vR 1 12 400, vI p0, vI p1] (M, L) = (bI (C E d 157 [vR 1 12 400, vL (Int32.toInt64 p0)] (M, L)) fun r1 s1 => (if r1 = 0 then some (some (vI (-2000000000 : Int32)), s1) else (bI (C E d 160 [vR 1 12 400, vL (Int32.toInt64 p1)] s1) fun r2 s2 => (if r2 = 0 then some (some (vI (-2000000000 : Int32)), s2) else (if ib ((51 : Int32) + p0) 62 then (if ib ((51 : Int32) + p0) 62 then (if ib (1 : Int32) 5 then (if ib (1 : Int32) 5 then some (some (vI (s2.1 401 (ix ((51 : Int32) + p0)))), ((u2 (u2 s2.1 401 (ix ((51 : Int32) + p0)) p1) 435 (ix (1 : Int32)) (((u2 s2.1 401 (ix ((51 : Int32) + p0)) p1) 435 (ix (1 : Int32))) + (1 : Int32))), s2.2)) else none) else none) else none) else none))))) := by
  rw [C_of (q := me223) rfl rfl rfl rfl, X_go E d me223 [] 400]
  rfl
set_option maxRecDepth 100000 in
theorem x224 (E : Nat × (Nat → Int32)) (d : Nat) (p0 : Int32) (p1 : Int32) (M : Nat → Nat → Int32) (L : Nat → Nat → Int64) : C E (d + 1) 224 [vR 1 12 400, vI p0, vI p1] (M, L) = (bI (C E d 157 [vR 1 12 400, vL (Int32.toInt64 p0)] (M, L)) fun r1 s1 => (if r1 = 0 then some (some (vI (-1 : Int32)), s1) else (bI (C E d 148 [vL (Int32.toInt64 p1), vL (1 : Int64), vL (99 : Int64)] s1) fun r2 s2 => (if r2 = 0 then some (some (vI (-1 : Int32)), s2) else (if ib ((24 : Int32) + p0) 62 then (bI (C E d 152 [vI ((s2.1 401 (ix ((24 : Int32) + p0))) + p1)] s2) fun r3 s3 => (if ib ((24 : Int32) + p0) 62 then (if ib (2 : Int32) 5 then (if ib (2 : Int32) 5 then (if ib ((24 : Int32) + p0) 62 then some (some (vI ((u2 (u2 s3.1 401 (ix ((24 : Int32) + p0)) r3) 435 (ix (2 : Int32)) (((u2 s3.1 401 (ix ((24 : Int32) + p0)) r3) 435 (ix (2 : Int32))) + p1)) 401 (ix ((24 : Int32) + p0)))), ((u2 (u2 s3.1 401 (ix ((24 : Int32) + p0)) r3) 435 (ix (2 : Int32)) (((u2 s3.1 401 (ix ((24 : Int32) + p0)) r3) 435 (ix (2 : Int32))) + p1)), s3.2)) else none) else none) else none) else none)) else none))))) := by
  rw [C_of (q := me224) rfl rfl rfl rfl, X_go E d me224 [] 400]
  rfl
set_option maxRecDepth 100000 in
theorem x225 (E : Nat × (Nat → Int32)) (d : Nat) (p0 : Int32) (p1 : Int32) (M : Nat → Nat → Int32) (L : Nat → Nat → Int64) : C E (d + 1) 225 [vR 1 12 400, vI p0, vI p1] (M, L) = (bI (C E d 156 [vR 1 12 400, vL (Int32.toInt64 p0)] (M, L)) fun r1 s1 => (if r1 = 0 then some (some (vI (-1 : Int32)), s1) else (bI (C E d 148 [vL (Int32.toInt64 p1), vL (1 : Int64), vL (99 : Int64)] s1) fun r2 s2 => (if r2 = 0 then some (some (vI (-1 : Int32)), s2) else (if ib ((8 : Int32) + p0) 62 then (bI (C E d 152 [vI ((s2.1 401 (ix ((8 : Int32) + p0))) + p1)] s2) fun r3 s3 => (if ib ((8 : Int32) + p0) 62 then (if ib (3 : Int32) 5 then (if ib (3 : Int32) 5 then (if ib ((8 : Int32) + p0) 62 then some (some (vI ((u2 (u2 s3.1 401 (ix ((8 : Int32) + p0)) r3) 435 (ix (3 : Int32)) (((u2 s3.1 401 (ix ((8 : Int32) + p0)) r3) 435 (ix (3 : Int32))) + p1)) 401 (ix ((8 : Int32) + p0)))), ((u2 (u2 s3.1 401 (ix ((8 : Int32) + p0)) r3) 435 (ix (3 : Int32)) (((u2 s3.1 401 (ix ((8 : Int32) + p0)) r3) 435 (ix (3 : Int32))) + p1)), s3.2)) else none) else none) else none) else none)) else none))))) := by
  rw [C_of (q := me225) rfl rfl rfl rfl, X_go E d me225 [] 400]
  rfl
set_option maxRecDepth 100000 in
theorem x226 (E : Nat × (Nat → Int32)) (d : Nat) (p0 : Int32) (M : Nat → Nat → Int32) (L : Nat → Nat → Int64) : C E (d + 1) 226 [vR 1 12 400, vI p0] (M, L) = (bI (C E d 148 [vL (Int32.toInt64 p0), vL (0 : Int64), vL (4 : Int64)] (M, L)) fun r1 s1 => (if r1 = 0 then some (some (vI (-1 : Int32)), s1) else (if ib p0 5 then some (some (vI (s1.1 435 (ix p0))), s1) else none))) := by
  rw [C_of (q := me226) rfl rfl rfl rfl, X_go E d me226 [] 400]
  rfl
set_option maxRecDepth 100000 in
theorem x227 (E : Nat × (Nat → Int32)) (d : Nat)  (M : Nat → Nat → Int32) (L : Nat → Nat → Int64) : C E (d + 1) 227 [vR 1 12 400] (M, L) = X E d me227 23 [some (vR 1 12 400), some (vI (0 : Int32))] [] ((u2 (u2 (u2 M 400 35 (1 : Int32)) 400 36 ((u2 M 400 35 (1 : Int32)) 400 6)) 400 37 ((u2 (u2 M 400 35 (1 : Int32)) 400 36 ((u2 M 400 35 (1 : Int32)) 400 6)) 400 7)), L) := by
  rw [C_of (q := me227) rfl rfl rfl rfl, X_go E d me227 [23, 49] 400]
  rfl
set_option maxRecDepth 100000 in
theorem x227_23 (E : Nat × (Nat → Int32)) (d : Nat) (x1 : Int32) (M : Nat → Nat → Int32) (L : Nat → Nat → Int64) : X E d me227 23 [some (vR 1 12 400), some (vI x1)] [] (M, L) = (if (61 : Int32) < x1 then X E d me227 49 [some (vR 1 12 400), some (vI (0 : Int32))] [] (M, L) else (if ib x1 62 then (if ib x1 62 then X E d me227 23 [some (vR 1 12 400), some (vI (x1 + (1 : Int32)))] [] ((u2 M 439 (ix x1) (M 401 (ix x1))), L) else none) else none)) := by
  rw [X_go E d me227 [23, 49] 400]
  rfl
set_option maxRecDepth 100000 in
theorem x227_49 (E : Nat × (Nat → Int32)) (d : Nat) (x1 : Int32) (M : Nat → Nat → Int32) (L : Nat → Nat → Int64) : X E d me227 49 [some (vR 1 12 400), some (vI x1)] [] (M, L) = (if (5 : Int32) ≤ x1 then (if ib (0 : Int32) 5 then some (some (vI (M 435 (ix (0 : Int32)))), (M, L)) else none) else (if ib x1 5 then (if ib x1 5 then X E d me227 49 [some (vR 1 12 400), some (vI (x1 + (1 : Int32)))] [] ((u2 M 440 (ix x1) (M 435 (ix x1))), L) else none) else none)) := by
  rw [X_go E d me227 [23, 49] 400]
  rfl
set_option maxRecDepth 100000 in
theorem x228 (E : Nat × (Nat → Int32)) (d : Nat)  (M : Nat → Nat → Int32) (L : Nat → Nat → Int64) : C E (d + 1) 228 [vR 1 12 400] (M, L) = (if (M 400 35) = 0 then some (some (vI (-5 : Int32)), (M, L)) else X E d me228 12 [some (vR 1 12 400), some (vI (0 : Int32))] [] (M, L)) := by
  rw [C_of (q := me228) rfl rfl rfl rfl, X_go E d me228 [12, 46, 112] 400]
  rfl
set_option maxRecDepth 100000 in
theorem x228_12 (E : Nat × (Nat → Int32)) (d : Nat) (x1 : Int32) (M : Nat → Nat → Int32) (L : Nat → Nat → Int64) : X E d me228 12 [some (vR 1 12 400), some (vI x1)] [] (M, L) = (if (M 400 36) ≤ x1 then X E d me228 46 [some (vR 1 12 400), some (vI (0 : Int32))] [] (M, L) else (if ib ((8 : Int32) + x1) 62 then (if ib ((8 : Int32) + x1) 62 then X E d me228 12 [some (vR 1 12 400), some (vI (x1 + (1 : Int32)))] [] ((u2 M 401 (ix ((8 : Int32) + x1)) (M 439 (ix ((8 : Int32) + x1)))), L) else none) else none)) := by
  rw [X_go E d me228 [12, 46, 112] 400]
  rfl
set_option maxRecDepth 100000 in
theorem x228_46 (E : Nat × (Nat → Int32)) (d : Nat) (x1 : Int32) (M : Nat → Nat → Int32) (L : Nat → Nat → Int64) : X E d me228 46 [some (vR 1 12 400), some (vI x1)] [] (M, L) = (if (M 400 37) ≤ x1 then (if ib (61 : Int32) 62 then (if ib (61 : Int32) 62 then X E d me228 112 [some (vR 1 12 400), some (vI (0 : Int32))] [] ((u2 M 401 (ix (61 : Int32)) (M 439 (ix (61 : Int32)))), L) else none) else none) else (if ib ((24 : Int32) + x1) 62 then (if ib ((24 : Int32) + x1) 62 then (if ib ((51 : Int32) + x1) 62 then (if ib ((51 : Int32) + x1) 62 then X E d me228 46 [some (vR 1 12 400), some (vI (x1 + (1 : Int32)))] [] ((u2 (u2 M 401 (ix ((24 : Int32) + x1)) (M 439 (ix ((24 : Int32) + x1)))) 401 (ix ((51 : Int32) + x1)) ((u2 M 401 (ix ((24 : Int32) + x1)) (M 439 (ix ((24 : Int32) + x1)))) 439 (ix ((51 : Int32) + x1)))), L) else none) else none) else none) else none)) := by
  rw [X_go E d me228 [12, 46, 112] 400]
  rfl
set_option maxRecDepth 100000 in
theorem x228_112 (E : Nat × (Nat → Int32)) (d : Nat) (x1 : Int32) (M : Nat → Nat → Int32) (L : Nat → Nat → Int64) : X E d me228 112 [some (vR 1 12 400), some (vI x1)] [] (M, L) = (if (5 : Int32) ≤ x1 then (if ib (0 : Int32) 5 then some (some (vI (M 435 (ix (0 : Int32)))), (M, L)) else none) else (if ib x1 5 then (if ib x1 5 then X E d me228 112 [some (vR 1 12 400), some (vI (x1 + (1 : Int32)))] [] ((u2 M 435 (ix x1) (M 440 (ix x1))), L) else none) else none)) := by
  rw [X_go E d me228 [12, 46, 112] 400]
  rfl
set_option maxRecDepth 100000 in
theorem x229 (E : Nat × (Nat → Int32)) (d : Nat) (p0 : Int32) (M : Nat → Nat → Int32) (L : Nat → Nat → Int64) : C E (d + 1) 229 [vR 1 12 400, vI p0] (M, L) = (bI (C E d 148 [vL (Int32.toInt64 p0), vL (0 : Int64), vL (Int32.toInt64 ((M 400 40) - (1 : Int32)))] (M, L)) fun r1 s1 => (if r1 = 0 ∨ r1 = 1 then some (some (vI r1), s1) else none)) := by
  rw [C_of (q := me229) rfl rfl rfl rfl, X_go E d me229 [] 400]
  rfl
set_option maxRecDepth 100000 in
theorem x230 (E : Nat × (Nat → Int32)) (d : Nat) (p0 : Int32) (M : Nat → Nat → Int32) (L : Nat → Nat → Int64) : C E (d + 1) 230 [vR 1 12 400, vI p0] (M, L) = (if ib p0 50 then some (some (vI (M 442 (ix p0))), (M, L)) else none) := by
  rw [C_of (q := me230) rfl rfl rfl rfl, X_go E d me230 [] 400]
  rfl
set_option maxRecDepth 100000 in
theorem x231 (E : Nat × (Nat → Int32)) (d : Nat) (p0 : Int32) (M : Nat → Nat → Int32) (L : Nat → Nat → Int64) : C E (d + 1) 231 [vR 1 12 400, vI p0] (M, L) = (bI (C E d 148 [vL (Int32.toInt64 p0), vL (0 : Int64), vL (7 : Int64)] (M, L)) fun r1 s1 => (if r1 = 0 then some (some (vI (-1 : Int32)), s1) else (if (s1.1 400 40) = (50 : Int32) then some (some (vI (-3 : Int32)), s1) else (if ib (s1.1 400 40) 50 then some (some (vI (((u2 (u2 s1.1 442 (ix (s1.1 400 40)) p0) 400 40 (((u2 s1.1 442 (ix (s1.1 400 40)) p0) 400 40) + (1 : Int32))) 400 40) - (1 : Int32))), ((u2 (u2 s1.1 442 (ix (s1.1 400 40)) p0) 400 40 (((u2 s1.1 442 (ix (s1.1 400 40)) p0) 400 40) + (1 : Int32))), s1.2)) else none)))) := by
  rw [C_of (q := me231) rfl rfl rfl rfl, X_go E d me231 [] 400]
  rfl
set_option maxRecDepth 100000 in
theorem x232 (E : Nat × (Nat → Int32)) (d : Nat) (p0 : Int32) (M : Nat → Nat → Int32) (L : Nat → Nat → Int64) : C E (d + 1) 232 [vI p0] (M, L) = (if p0 = (3 : Int32) then some (some (vI (2 : Int32)), (M, L)) else (if p0 = (4 : Int32) then some (some (vI (1 : Int32)), (M, L)) else (if p0 = (5 : Int32) then some (some (vI (3 : Int32)), (M, L)) else (if p0 = (7 : Int32) then some (some (vI (4 : Int32)), (M, L)) else some (some (vI (0 : Int32)), (M, L)))))) := by
  rw [C_of (q := me232) rfl rfl rfl rfl, X_go E d me232 [] 400]
  rfl
set_option maxRecDepth 100000 in
theorem x233 (E : Nat × (Nat → Int32)) (d : Nat) (p0 : Int32) (M : Nat → Nat → Int32) (L : Nat → Nat → Int64) : C E (d + 1) 233 [vR 1 12 400, vI p0] (M, L) = (if (24 : Int32) ≤ (M 400 43) then some (none, ((u2 M 400 43 ((M 400 43) + (1 : Int32))), L)) else (if ib (M 400 43) 24 then some (none, ((u2 (u2 M 443 (ix (M 400 43)) p0) 400 43 (((u2 M 443 (ix (M 400 43)) p0) 400 43) + (1 : Int32))), L)) else none)) := by
  rw [C_of (q := me233) rfl rfl rfl rfl, X_go E d me233 [] 400]
  rfl
set_option maxRecDepth 100000 in
theorem x234 (E : Nat × (Nat → Int32)) (d : Nat) (p0 : Int32) (p1 : Int32) (M : Nat → Nat → Int32) (L : Nat → Nat → Int64) : C E (d + 1) 234 [vR 1 12 400, vI p0, vI p1] (M, L) = (if p0 = (1 : Int32) then (bV (C E d 233 [vR 1 12 400, vI (20 : Int32)] (M, L)) fun s1 => (bI (C E d 234 [vR 1 12 400, vI (0 : Int32), vI p1] s1) fun r2 s2 => some (some (vI (r2 + (3 : Int32))), s2))) else (if p0 = (4 : Int32) then (bV (C E d 233 [vR 1 12 400, vI (20 : Int32)] (M, L)) fun s3 => (bI (C E d 234 [vR 1 12 400, vI (0 : Int32), vI p1] s3) fun r4 s4 => some (some (vI (r4 + (3 : Int32))), s4))) else (if p0 = (7 : Int32) then (bV (C E d 233 [vR 1 12 400, vI (20 : Int32)] (M, L)) fun s5 => (bI (C E d 234 [vR 1 12 400, vI (0 : Int32), vI p1] s5) fun r6 s6 => some (some (vI (r6 + (3 : Int32))), s6))) else (if p0 = (6 : Int32) then (bV (C E d 233 [vR 1 12 400, vI (70 : Int32)] (M, L)) fun s7 => (bI (C E d 234 [vR 1 12 400, vI (0 : Int32), vI p1] s7) fun r8 s8 => some (some (vI (r8 * (2 : Int32))), s8))) else (bV (C E d 233 [vR 1 12 400, vI (1 : Int32)] (M, L)) fun s9 => some (some (vI (p1 + (s9.1 400 45))), s9)))))) := by
  rw [C_of (q := me234) rfl rfl rfl rfl, X_go E d me234 [] 400]
  rfl
set_option maxRecDepth 100000 in
theorem x235 (E : Nat × (Nat → Int32)) (d : Nat) (p0 : Int32) (p1 : Int32) (M : Nat → Nat → Int32) (L : Nat → Nat → Int64) : C E (d + 1) 235 [vR 1 12 400, vI p0, vI p1] (M, L) = (if p0 = (3 : Int32) then (bV (C E d 233 [vR 1 12 400, vI (41 : Int32)] (M, L)) fun s1 => (bI (C E d 235 [vR 1 12 400, vI (2 : Int32), vI (p1 + (1 : Int32))] s1) fun r2 s2 => some (some (vI r2), s2))) else (if p0 = (5 : Int32) then (bV (C E d 233 [vR 1 12 400, vI (41 : Int32)] (M, L)) fun s3 => (bI (C E d 235 [vR 1 12 400, vI (2 : Int32), vI (p1 + (1 : Int32))] s3) fun r4 s4 => some (some (vI r4), s4))) else (if p0 = (2 : Int32) then (bV (C E d 233 [vR 1 12 400, vI (30 : Int32)] (M, L)) fun s5 => (bI (C E d 235 [vR 1 12 400, vI (0 : Int32), vI p1] s5) fun r6 s6 => some (some (vI (-r6)), s6))) else (if p0 = (7 : Int32) then (bV (C E d 233 [vR 1 12 400, vI (80 : Int32)] (M, L)) fun s7 => (bI (C E d 235 [vR 1 12 400, vI (4 : Int32), vI p1] s7) fun r8 s8 => (bI (C E d 236 [vR 1 12 400, vI (s8.1 400 44), vI (2 : Int32)] s8) fun r9 s9 => some (some (vI (r8 + r9)), s9)))) else (bV (C E d 233 [vR 1 12 400, vI (10 : Int32)] (M, L)) fun s10 => (bI (C E d 234 [vR 1 12 400, vI (s10.1 400 44), vI p1] s10) fun r11 s11 => some (some (vI (r11 * (2 : Int32))), s11))))))) := by
  rw [C_of (q := me235) rfl rfl rfl rfl, X_go E d me235 [] 400]
  rfl
set_option maxRecDepth 100000 in
theorem x236 (E : Nat × (Nat → Int32)) (d : Nat) (p0 : Int32) (p1 : Int32) (M : Nat → Nat → Int32) (L : Nat → Nat → Int64) : C E (d + 1) 236 [vR 1 12 400, vI p0, vI p1] (M, L) = (if p0 = (3 : Int32) then (bV (C E d 233 [vR 1 12 400, vI (40 : Int32)] (M, L)) fun s1 => (bI (C E d 236 [vR 1 12 400, vI (2 : Int32), vI p1] s1) fun r2 s2 => some (some (vI (r2 * (3 : Int32))), s2))) else (if p0 = (5 : Int32) then (bV (C E d 233 [vR 1 12 400, vI (40 : Int32)] (M, L)) fun s3 => (bI (C E d 236 [vR 1 12 400, vI (2 : Int32), vI p1] s3) fun r4 s4 => some (some (vI (r4 * (3 : Int32))), s4))) else (if p0 = (4 : Int32) then (bV (C E d 233 [vR 1 12 400, vI (50 : Int32)] (M, L)) fun s5 => (bI (C E d 236 [vR 1 12 400, vI (1 : Int32), vI p1] s5) fun r6 s6 => (bI (C E d 234 [vR 1 12 400, vI (s6.1 400 44), vI (2 : Int32)] s6) fun r7 s7 => some (some (vI (r6 - r7)), s7)))) else (if p0 = (7 : Int32) then (bV (C E d 233 [vR 1 12 400, vI (50 : Int32)] (M, L)) fun s8 => (bI (C E d 236 [vR 1 12 400, vI (1 : Int32), vI p1] s8) fun r9 s9 => (bI (C E d 234 [vR 1 12 400, vI (s9.1 400 44), vI (2 : Int32)] s9) fun r10 s10 => some (some (vI (r9 - r10)), s10)))) else (bV (C E d 233 [vR 1 12 400, vI (11 : Int32)] (M, L)) fun s11 => some (some (vI (p1 ^^^ (s11.1 400 45))), s11)))))) := by
  rw [C_of (q := me236) rfl rfl rfl rfl, X_go E d me236 [] 400]
  rfl
set_option maxRecDepth 100000 in
theorem x237 (E : Nat × (Nat → Int32)) (d : Nat) (p0 : Int32) (p1 : Int32) (M : Nat → Nat → Int32) (L : Nat → Nat → Int64) : C E (d + 1) 237 [vR 1 12 400, vI p0, vI p1] (M, L) = (if p0 = (5 : Int32) then (bV (C E d 233 [vR 1 12 400, vI (60 : Int32)] (M, L)) fun s1 => (bI (C E d 237 [vR 1 12 400, vI (3 : Int32), vI p1] s1) fun r2 s2 => some (some (vI (r2 ^^^ (5 : Int32))), s2))) else (if p0 = (7 : Int32) then (bV (C E d 233 [vR 1 12 400, vI (81 : Int32)] (M, L)) fun s3 => (bI (C E d 237 [vR 1 12 400, vI (4 : Int32), vI p1] s3) fun r4 s4 => some (some (vI (r4 - (1 : Int32))), s4))) else (bV (C E d 233 [vR 1 12 400, vI (2 : Int32)] (M, L)) fun s5 => (bI (C E d 235 [vR 1 12 400, vI (s5.1 400 44), vI p1] s5) fun r6 s6 => (bI (C E d 236 [vR 1 12 400, vI (s6.1 400 44), vI (1 : Int32)] s6) fun r7 s7 => some (some (vI (r6 - r7)), s7)))))) := by
  rw [C_of (q := me237) rfl rfl rfl rfl, X_go E d me237 [] 400]
  rfl
set_option maxRecDepth 100000 in
theorem x238 (E : Nat × (Nat → Int32)) (d : Nat) (p0 : Int32) (p1 : Int32) (p2 : Int32) (M : Nat → Nat → Int32) (L : Nat → Nat → Int64) : C E (d + 1) 238 [vR 1 12 400, vI p0, vI p1, vI p2] (M, L) = (bI (C E d 229 [vR 1 12 400, vI p0] ((u2 M 400 43 (0 : Int32)), L)) fun r1 s1 => (if r1 = 0 then some (some (vI (0 : Int32)), s1) else (if ib p0 50 then (if p1 = (0 : Int32) then (bI (C E d 234 [vR 1 12 400, vI ((u2 (u2 s1.1 400 44 (s1.1 442 (ix p0))) 400 45 p0) 400 44), vI p2] ((u2 (u2 s1.1 400 44 (s1.1 442 (ix p0))) 400 45 p0), s1.2)) fun r5 s5 => some (some (vI r5), s5)) else (if p1 = (1 : Int32) then (bI (C E d 235 [vR 1 12 400, vI ((u2 (u2 s1.1 400 44 (s1.1 442 (ix p0))) 400 45 p0) 400 44), vI p2] ((u2 (u2 s1.1 400 44 (s1.1 442 (ix p0))) 400 45 p0), s1.2)) fun r4 s4 => some (some (vI r4), s4)) else (if p1 = (2 : Int32) then (bI (C E d 236 [vR 1 12 400, vI ((u2 (u2 s1.1 400 44 (s1.1 442 (ix p0))) 400 45 p0) 400 44), vI p2] ((u2 (u2 s1.1 400 44 (s1.1 442 (ix p0))) 400 45 p0), s1.2)) fun r3 s3 => some (some (vI r3), s3)) else (if p1 = (3 : Int32) then (bI (C E d 237 [vR 1 12 400, vI ((u2 (u2 s1.1 400 44 (s1.1 442 (ix p0))) 400 45 p0) 400 44), vI p2] ((u2 (u2 s1.1 400 44 (s1.1 442 (ix p0))) 400 45 p0), s1.2)) fun r2 s2 => some (some (vI r2), s2)) else some (some (vI (0 : Int32)), ((u2 (u2 s1.1 400 44 (s1.1 442 (ix p0))) 400 45 p0), s1.2)))))) else none))) := by
  rw [C_of (q := me238) rfl rfl rfl rfl, X_go E d me238 [] 400]
  rfl
set_option maxRecDepth 100000 in
theorem x239 (E : Nat × (Nat → Int32)) (d : Nat) (p0 : Int32) (M : Nat → Nat → Int32) (L : Nat → Nat → Int64) : C E (d + 1) 239 [vR 1 12 400, vI p0] (M, L) = (if p0 < 0 then some (some (vI (-1 : Int32)), (M, L)) else (if (M 400 43) ≤ p0 then some (some (vI (-1 : Int32)), (M, L)) else (if (24 : Int32) ≤ p0 then some (some (vI (-1 : Int32)), (M, L)) else (if ib p0 24 then some (some (vI (M 443 (ix p0))), (M, L)) else none)))) := by
  rw [C_of (q := me239) rfl rfl rfl rfl, X_go E d me239 [] 400]
  rfl
set_option maxRecDepth 100000 in
theorem x240 (E : Nat × (Nat → Int32)) (d : Nat) (p0 : Int32) (M : Nat → Nat → Int32) (L : Nat → Nat → Int64) : C E (d + 1) 240 [vI p0] (M, L) = (bI (C E d 148 [vL (Int32.toInt64 p0), vL (0 : Int64), vL (5 : Int64)] (M, L)) fun r1 s1 => (if r1 = 0 ∨ r1 = 1 then some (some (vI r1), s1) else none)) := by
  rw [C_of (q := me240) rfl rfl rfl rfl, X_go E d me240 [] 400]
  rfl
set_option maxRecDepth 100000 in
theorem x241 (E : Nat × (Nat → Int32)) (d : Nat) (p0 : Int32) (p1 : Int32) (M : Nat → Nat → Int32) (L : Nat → Nat → Int64) : C E (d + 1) 241 [vR 1 12 400, vI p0, vI p1] (M, L) = (bI (C E d 240 [vI p0] (M, L)) fun r1 s1 => (if r1 = 0 then some (some (vI (-1 : Int32)), s1) else (if p1 = (-1 : Int32) then (if ib p0 6 then (if ib p0 6 then some (some (vI (1 : Int32)), ((u2 (u2 s1.1 447 (ix p0) p1) 448 (ix p0) (0 : Int32)), s1.2)) else none) else none) else (bI (C E d 229 [vR 1 12 400, vI p1] s1) fun r2 s2 => (if r2 = 0 then some (some (vI (-1 : Int32)), s2) else (if ib p0 6 then (if ib p0 6 then some (some (vI (1 : Int32)), ((u2 (u2 s2.1 447 (ix p0) p1) 448 (ix p0) (0 : Int32)), s2.2)) else none) else none)))))) := by
  rw [C_of (q := me241) rfl rfl rfl rfl, X_go E d me241 [] 400]
  rfl
set_option maxRecDepth 100000 in
theorem x242 (E : Nat × (Nat → Int32)) (d : Nat) (p0 : Int32) (p1 : Int32) (p2 : Int32) (M : Nat → Nat → Int32) (L : Nat → Nat → Int64) : C E (d + 1) 242 [vR 1 12 400, vI p0, vI p1, vI p2] (M, L) = (bI (C E d 240 [vI p0] (M, L)) fun r1 s1 => (if r1 = 0 then some (some (vI (-1 : Int32)), s1) else (bI (C E d 148 [vL (Int32.toInt64 p1), vL (0 : Int64), vL (4 : Int64)] s1) fun r2 s2 => (if r2 = 0 then some (some (vI (-1 : Int32)), s2) else (if p2 ≤ (60 : Int32) then (if 0 ≤ p2 then (if ib p0 6 then (if ib p0 6 then X E d me242 57 [some (vR 1 12 400), some (vI p0), some (vI p1), some (vI p2), some (vI ((60 : Int32) * p0))] [] ((u2 (u2 s2.1 447 (ix p0) ((50 : Int32) + p1)) 448 (ix p0) p2), s2.2) else none) else none) else some (some (vI (-14 : Int32)), s2)) else some (some (vI (-1 : Int32)), s2)))))) := by
  rw [C_of (q := me242) rfl rfl rfl rfl, X_go E d me242 [57] 400]
  rfl
set_option maxRecDepth 100000 in
theorem x242_57 (E : Nat × (Nat → Int32)) (d : Nat) (x1 : Int32) (x2 : Int32) (x3 : Int32) (x4 : Int32) (M : Nat → Nat → Int32) (L : Nat → Nat → Int64) : X E d me242 57 [some (vR 1 12 400), some (vI x1), some (vI x2), some (vI x3), some (vI x4)] [] (M, L) = (if (((60 : Int32) * x1) + (60 : Int32)) ≤ x4 then some (some (vI (1 : Int32)), (M, L)) else (if ib x4 360 then X E d me242 57 [some (vR 1 12 400), some (vI x1), some (vI x2), some (vI x3), some (vI (x4 + (1 : Int32)))] [] (M, (u2L L 449 (ix x4) (0 : Int64))) else none)) := by
  rw [X_go E d me242 [57] 400]
  rfl
set_option maxRecDepth 100000 in
theorem x243 (E : Nat × (Nat → Int32)) (d : Nat) (p0 : Int32) (p1 : Int32) (M : Nat → Nat → Int32) (L : Nat → Nat → Int64) : C E (d + 1) 243 [vR 1 12 400, vI p0, vI p1] (M, L) = (bI (C E d 240 [vI p0] (M, L)) fun r1 s1 => (if r1 = 0 then some (some (vI (-1 : Int32)), s1) else (if ib p0 6 then (if 0 ≤ (s1.1 447 (ix p0)) then (if ib p0 6 then (if (50 : Int32) ≤ (s1.1 447 (ix p0)) then (if p1 < 0 then some (some (vI (-13 : Int32)), s1) else (if ib p0 6 then (if (s1.1 448 (ix p0)) ≤ p1 then some (some (vI (-13 : Int32)), s1) else some (some (vI (0 : Int32)), s1)) else none)) else some (some (vI (-12 : Int32)), s1)) else none) else some (some (vI (-11 : Int32)), s1)) else none))) := by
  rw [C_of (q := me243) rfl rfl rfl rfl, X_go E d me243 [] 400]
  rfl
set_option maxRecDepth 100000 in
theorem x244 (E : Nat × (Nat → Int32)) (d : Nat) (p0 : Int32) (p1 : Int64) (M : Nat → Nat → Int32) (L : Nat → Nat → Int64) : C E (d + 1) 244 [vI p0, vL p1] (M, L) = (if p0 = 0 then some (some (vL (Int32.toInt64 (Int8.toInt32 (Int32.toInt8 (Int64.toInt32 p1))))), (M, L)) else (if p0 = (1 : Int32) then some (some (vL (Int32.toInt64 (Int16.toInt32 (Int32.toInt16 (Int64.toInt32 p1))))), (M, L)) else (if p0 = (2 : Int32) then some (some (vL (Int32.toInt64 (Int64.toInt32 p1))), (M, L)) else (if p0 = (4 : Int32) then (if (lg_cmp p1 (0 : Int64)) = 0 then some (some (vL (0 : Int64)), (M, L)) else some (some (vL (1 : Int64)), (M, L))) else some (some (vL p1), (M, L)))))) := by
  rw [C_of (q := me244) rfl rfl rfl rfl, X_go E d me244 [] 400]
  rfl
set_option maxRecDepth 100000 in
theorem x245 (E : Nat × (Nat → Int32)) (d : Nat) (p0 : Int32) (p1 : Int32) (p2 : Int64) (M : Nat → Nat → Int32) (L : Nat → Nat → Int64) : C E (d + 1) 245 [vR 1 12 400, vI p0, vI p1, vL p2] (M, L) = (bI (C E d 243 [vR 1 12 400, vI p0, vI p1] (M, L)) fun r1 s1 => (if r1 = 0 then (if ib p0 6 then (bL (C E d 244 [vI ((s1.1 447 (ix p0)) - (50 : Int32)), vL p2] s1) fun r2 s2 => (if ib (((60 : Int32) * p0) + p1) 360 then (if r1 = 0 then some (some (vI (1 : Int32)), (s2.1, (u2L s2.2 449 (ix (((60 : Int32) * p0) + p1)) r2))) else some (some (vI r1), (s2.1, (u2L s2.2 449 (ix (((60 : Int32) * p0) + p1)) r2)))) else none)) else none) else (if r1 = 0 then some (some (vI (1 : Int32)), s1) else some (some (vI r1), s1)))) := by
  rw [C_of (q := me245) rfl rfl rfl rfl, X_go E d me245 [] 400]
  rfl
set_option maxRecDepth 100000 in
theorem x246 (E : Nat × (Nat → Int32)) (d : Nat) (p0 : Int32) (p1 : Int32) (M : Nat → Nat → Int32) (L : Nat → Nat → Int64) : C E (d + 1) 246 [vR 1 12 400, vI p0, vI p1] (M, L) = (bI (C E d 243 [vR 1 12 400, vI p0, vI p1] (M, L)) fun r1 s1 => (if r1 = 0 then (if ib (((60 : Int32) * p0) + p1) 360 then some (some (vL (s1.2 449 (ix (((60 : Int32) * p0) + p1)))), s1) else none) else some (some (vL (-9223372036854775808 : Int64)), s1))) := by
  rw [C_of (q := me246) rfl rfl rfl rfl, X_go E d me246 [] 400]
  rfl
set_option maxRecDepth 100000 in
theorem x247 (E : Nat × (Nat → Int32)) (d : Nat) (p0 : Int32) (p1 : Int32) (p2 : Int32) (p3 : Int32) (p4 : Int32) (M : Nat → Nat → Int32) (L : Nat → Nat → Int64) : C E (d + 1) 247 [vR 1 12 400, vI p0, vI p1, vI p2, vI p3, vI p4] (M, L) = (bI (C E d 240 [vI p0] (M, L)) fun r1 s1 => (if r1 = 0 then some (some (vI (-1 : Int32)), s1) else (bI (C E d 240 [vI p2] s1) fun r2 s2 => (if r2 = 0 then some (some (vI (-1 : Int32)), s2) else (if ib p0 6 then (if (s2.1 447 (ix p0)) < 0 then some (some (vI (-11 : Int32)), s2) else (if ib p2 6 then (if 0 ≤ (s2.1 447 (ix p2)) then (if ib p0 6 then (if (s2.1 447 (ix p0)) < (50 : Int32) then some (some (vI (-12 : Int32)), s2) else (if ib p0 6 then (if ib p2 6 then (if (s2.1 447 (ix p0)) = (s2.1 447 (ix p2)) then (if p4 < 0 then some (some (vI (-13 : Int32)), s2) else (if p1 < 0 then some (some (vI (-13 : Int32)), s2) else (if p3 < 0 then some (some (vI (-13 : Int32)), s2) else (if ib p0 6 then (if ((s2.1 448 (ix p0)) - p4) < p1 then some (some (vI (-13 : Int32)), s2) else (if ib p2 6 then (if p3 ≤ ((s2.1 448 (ix p2)) - p4) then X E d me247 113 [some (vR 1 12 400), some (vI p0), some (vI p1), some (vI p2), some (vI p3), some (vI p4), some (vI (0 : Int32))] [] s2 else some (some (vI (-13 : Int32)), s2)) else none)) else none)))) else some (some (vI (-12 : Int32)), s2)) else none) else none)) else none) else some (some (vI (-11 : Int32)), s2)) else none)) else none))))) := by
  rw [C_of (q := me247) rfl rfl rfl rfl, X_go E d me247 [113, 150] 400]
  rfl
set_option maxRecDepth 100000 in
theorem x247_113 (E : Nat × (Nat → Int32)) (d : Nat) (x1 : Int32) (x2 : Int32) (x3 : Int32) (x4 : Int32) (x5 : Int32) (x6 : Int32) (M : Nat → Nat → Int32) (L : Nat → Nat → Int64) : X E d me247 113 [some (vR 1 12 400), some (vI x1), some (vI x2), some (vI x3), some (vI x4), some (vI x5), some (vI x6)] [] (M, L) = (if x5 ≤ x6 then X E d me247 150 [some (vR 1 12 400), some (vI x1), some (vI x2), some (vI x3), some (vI x4), some (vI x5), some (vI (0 : Int32))] [] (M, L) else (if ib ((((60 : Int32) * x1) + x2) + x6) 360 then (if ib x6 60 then X E d me247 113 [some (vR 1 12 400), some (vI x1), some (vI x2), some (vI x3), some (vI x4), some (vI x5), some (vI (x6 + (1 : Int32)))] [] (M, (u2L L 450 (ix x6) (L 449 (ix ((((60 : Int32) * x1) + x2) + x6))))) else none) else none)) := by
  rw [X_go E d me247 [113, 150] 400]
  rfl
set_option maxRecDepth 100000 in
theorem x247_150 (E : Nat × (Nat → Int32)) (d : Nat) (x1 : Int32) (x2 : Int32) (x3 : Int32) (x4 : Int32) (x5 : Int32) (x6 : Int32) (M : Nat → Nat → Int32) (L : Nat → Nat → Int64) : X E d me247 150 [some (vR 1 12 400), some (vI x1), some (vI x2), some (vI x3), some (vI x4), some (vI x5), some (vI x6)] [] (M, L) = (if x5 ≤ x6 then some (some (vI x5), (M, L)) else (if ib x6 60 then (if ib ((((60 : Int32) * x3) + x4) + x6) 360 then X E d me247 150 [some (vR 1 12 400), some (vI x1), some (vI x2), some (vI x3), some (vI x4), some (vI x5), some (vI (x6 + (1 : Int32)))] [] (M, (u2L L 449 (ix ((((60 : Int32) * x3) + x4) + x6)) (L 450 (ix x6)))) else none) else none)) := by
  rw [X_go E d me247 [113, 150] 400]
  rfl
set_option maxRecDepth 100000 in
theorem x248 (E : Nat × (Nat → Int32)) (d : Nat) (p0 : Int32) (p1 : Int32) (M : Nat → Nat → Int32) (L : Nat → Nat → Int64) : C E (d + 1) 248 [vR 1 12 400, vI p0, vI p1] (M, L) = (bI (C E d 240 [vI p0] (M, L)) fun r1 s1 => (if r1 = 0 then some (some (vI (-1 : Int32)), s1) else (bI (C E d 148 [vL (Int32.toInt64 p1), vL (0 : Int64), vL (7 : Int64)] s1) fun r2 s2 => (if r2 = 0 then some (some (vI (-1 : Int32)), s2) else (if ib p0 6 then (if 0 ≤ (s2.1 447 (ix p0)) then (if ib p0 6 then (if (s2.1 447 (ix p0)) < (50 : Int32) then (if ib p0 6 then (bI (C E d 230 [vR 1 12 400, vI (s2.1 447 (ix p0))] s2) fun r3 s3 => X E d me248 58 [some (vR 1 12 400), some (vI p0), some (vI p1), some (vI r3)] [] s3) else none) else some (some (vI (-12 : Int32)), s2)) else none) else some (some (vI (-11 : Int32)), s2)) else none))))) := by
  rw [C_of (q := me248) rfl rfl rfl rfl, X_go E d me248 [58] 400]
  rfl
set_option maxRecDepth 100000 in
theorem x248_58 (E : Nat × (Nat → Int32)) (d : Nat) (x1 : Int32) (x2 : Int32) (x3 : Int32) (M : Nat → Nat → Int32) (L : Nat → Nat → Int64) : X E d me248 58 [some (vR 1 12 400), some (vI x1), some (vI x2), some (vI x3)] [] (M, L) = (if x3 = x2 then (if x3 = x2 then (if ib x1 6 then (bI (C E d 230 [vR 1 12 400, vI (M 447 (ix x1))] (M, L)) fun r4 s4 => some (some (vI r4), s4)) else none) else some (some (vI (-12 : Int32)), (M, L))) else (if x3 ≤ 0 then (if x3 = x2 then (if ib x1 6 then (bI (C E d 230 [vR 1 12 400, vI (M 447 (ix x1))] (M, L)) fun r5 s5 => some (some (vI r5), s5)) else none) else some (some (vI (-12 : Int32)), (M, L))) else (bI (C E d 232 [vI x3] (M, L)) fun r6 s6 => X E d me248 58 [some (vR 1 12 400), some (vI x1), some (vI x2), some (vI r6)] [] s6))) := by
  rw [X_go E d me248 [58] 400]
  rfl
set_option maxRecDepth 100000 in
theorem x249 (E : Nat × (Nat → Int32)) (d : Nat) (p0 : Int32) (M : Nat → Nat → Int32) (L : Nat → Nat → Int64) : C E (d + 1) 249 [vR 1 12 400, vI p0] (M, L) = (if p0 = (0 : Int32) then some (some (vI (M 400 6)), (M, L)) else (if p0 = (1 : Int32) then some (some (vI (M 400 7)), (M, L)) else (if p0 = (2 : Int32) then some (some (vI (M 400 11)), (M, L)) else (if p0 = (3 : Int32) then some (some (vI (M 400 5)), (M, L)) else (if p0 = (4 : Int32) then some (some (vI (M 400 40)), (M, L)) else (if p0 = (5 : Int32) then some (some (vI (M 400 43)), (M, L)) else some (some (vI (-1 : Int32)), (M, L)))))))) := by
  rw [C_of (q := me249) rfl rfl rfl rfl, X_go E d me249 [] 400]
  rfl
set_option maxRecDepth 100000 in
theorem x250 (E : Nat × (Nat → Int32)) (d : Nat) (p0 : Int32) (M : Nat → Nat → Int32) (L : Nat → Nat → Int64) : C E (d + 1) 250 [vI p0] (M, L) = some (some (vI ((((((((p0 - ((us32 p0 (1 : Int32)) &&& (1431655765 : Int32))) &&& (858993459 : Int32)) + ((us32 (p0 - ((us32 p0 (1 : Int32)) &&& (1431655765 : Int32))) (2 : Int32)) &&& (858993459 : Int32))) + (us32 (((p0 - ((us32 p0 (1 : Int32)) &&& (1431655765 : Int32))) &&& (858993459 : Int32)) + ((us32 (p0 - ((us32 p0 (1 : Int32)) &&& (1431655765 : Int32))) (2 : Int32)) &&& (858993459 : Int32))) (4 : Int32))) &&& (252645135 : Int32)) + (us32 (((((p0 - ((us32 p0 (1 : Int32)) &&& (1431655765 : Int32))) &&& (858993459 : Int32)) + ((us32 (p0 - ((us32 p0 (1 : Int32)) &&& (1431655765 : Int32))) (2 : Int32)) &&& (858993459 : Int32))) + (us32 (((p0 - ((us32 p0 (1 : Int32)) &&& (1431655765 : Int32))) &&& (858993459 : Int32)) + ((us32 (p0 - ((us32 p0 (1 : Int32)) &&& (1431655765 : Int32))) (2 : Int32)) &&& (858993459 : Int32))) (4 : Int32))) &&& (252645135 : Int32)) (8 : Int32))) + (us32 ((((((p0 - ((us32 p0 (1 : Int32)) &&& (1431655765 : Int32))) &&& (858993459 : Int32)) + ((us32 (p0 - ((us32 p0 (1 : Int32)) &&& (1431655765 : Int32))) (2 : Int32)) &&& (858993459 : Int32))) + (us32 (((p0 - ((us32 p0 (1 : Int32)) &&& (1431655765 : Int32))) &&& (858993459 : Int32)) + ((us32 (p0 - ((us32 p0 (1 : Int32)) &&& (1431655765 : Int32))) (2 : Int32)) &&& (858993459 : Int32))) (4 : Int32))) &&& (252645135 : Int32)) + (us32 (((((p0 - ((us32 p0 (1 : Int32)) &&& (1431655765 : Int32))) &&& (858993459 : Int32)) + ((us32 (p0 - ((us32 p0 (1 : Int32)) &&& (1431655765 : Int32))) (2 : Int32)) &&& (858993459 : Int32))) + (us32 (((p0 - ((us32 p0 (1 : Int32)) &&& (1431655765 : Int32))) &&& (858993459 : Int32)) + ((us32 (p0 - ((us32 p0 (1 : Int32)) &&& (1431655765 : Int32))) (2 : Int32)) &&& (858993459 : Int32))) (4 : Int32))) &&& (252645135 : Int32)) (8 : Int32))) (16 : Int32))) &&& (63 : Int32))), (M, L)) := by
  rw [C_of (q := me250) rfl rfl rfl rfl, X_go E d me250 [] 400]
  rfl
set_option maxRecDepth 100000 in
theorem x251 (E : Nat × (Nat → Int32)) (d : Nat) (n0 a0 : Nat) (p1 : Int64) (M : Nat → Nat → Int32) (L : Nat → Nat → Int64) : C E (d + 1) 251 [vR 3 n0 a0, vL p1] (M, L) = X E d me251 6 [some (vR 3 n0 a0), some (vL p1), none, some (vI (0 : Int32)), some (vI (Int32.ofNat n0))] [] (M, L) := by
  rw [C_of (q := me251) rfl rfl rfl rfl, X_go E d me251 [6] 400]
  rfl
set_option maxRecDepth 100000 in
theorem x251_6 (E : Nat × (Nat → Int32)) (d : Nat) (n0 : Nat) (a0 : Nat) (x1 : Int64) (x3 : Int32) (x4 : Int32) (M : Nat → Nat → Int32) (L : Nat → Nat → Int64) : X E d me251 6 [some (vR 3 n0 a0), some (vL x1), none, some (vI x3), some (vI x4)] [] (M, L) = (if x4 ≤ x3 then some (none, (M, L)) else (if ib x3 n0 then X E d me251 6 [some (vR 3 n0 a0), some (vL x1), none, some (vI (x3 + (1 : Int32))), some (vI x4)] [] (M, (u2L L a0 (ix x3) x1)) else none)) := by
  rw [X_go E d me251 [6] 400]
  rfl
set_option maxRecDepth 100000 in
theorem x252 (E : Nat × (Nat → Int32)) (d : Nat) (n0 a0 : Nat) (p1 : Int32) (M : Nat → Nat → Int32) (L : Nat → Nat → Int64) : C E (d + 1) 252 [vR 2 n0 a0, vI p1] (M, L) = X E d me252 5 [some (vR 2 n0 a0), some (vI p1), some (vI (0 : Int32)), some (vI (Int32.ofNat n0))] [] (M, L) := by
  rw [C_of (q := me252) rfl rfl rfl rfl, X_go E d me252 [5] 400]
  rfl
set_option maxRecDepth 100000 in
theorem x252_5 (E : Nat × (Nat → Int32)) (d : Nat) (n0 : Nat) (a0 : Nat) (x1 : Int32) (x2 : Int32) (x3 : Int32) (M : Nat → Nat → Int32) (L : Nat → Nat → Int64) : X E d me252 5 [some (vR 2 n0 a0), some (vI x1), some (vI x2), some (vI x3)] [] (M, L) = (if x3 ≤ x2 then some (none, (M, L)) else (if ib x2 n0 then X E d me252 5 [some (vR 2 n0 a0), some (vI x1), some (vI (x2 + (1 : Int32))), some (vI x3)] [] ((u2 M a0 (ix x2) x1), L) else none)) := by
  rw [X_go E d me252 [5] 400]
  rfl
end
section
/-! printed by wip/whole/sym.py: what each method does, as a tree; closed by rfl -/
set_option maxRecDepth 100000 in
set_option maxHeartbeats 4000000 in
theorem x253_18 (E : Nat × (Nat → Int32)) (d : Nat) (x3 : Int32) (M : Nat → Nat → Int32) (L : Nat → Nat → Int64) : X E d me253 18 [some (vR 4 E.1 0), some (vR 1 11 10), some (vR 1 12 400), some (vI x3)] [] (M, L) = (if ((Int32.ofNat E.1) - (6 : Int32)) < x3 then some (some (vI (1 : Int32)), (M, L)) else (if ib x3 E.1 then (if ((roV E 0 (ix x3)) &&& (63 : Int32)) = (0 : Int32) then (if ib (x3 + (1 : Int32)) E.1 then (if ib (x3 + (2 : Int32)) E.1 then (bI (C E d 102 [vR 1 11 10, vI (roV E 0 (ix (x3 + (1 : Int32)))), vI (roV E 0 (ix (x3 + (2 : Int32))))] (M, L)) fun r83 s83 => (if ib (x3 + (1 : Int32)) E.1 then (if ib (x3 + (2 : Int32)) E.1 then (bI (C E d 161 [vR 1 12 400, vI (roV E 0 (ix (x3 + (1 : Int32)))), vI (roV E 0 (ix (x3 + (2 : Int32))))] s83) fun r84 s84 => (if r83 = r84 then X E d me253 18 [some (vR 4 E.1 0), some (vR 1 11 10), some (vR 1 12 400), some (vI (x3 + (6 : Int32)))] [] s84 else some (some (vI (0 : Int32)), s84))) else none) else none)) else none) else none) else (if ((roV E 0 (ix x3)) &&& (63 : Int32)) = (1 : Int32) then (if ib (x3 + (1 : Int32)) E.1 then (if ib (x3 + (2 : Int32)) E.1 then (bI (C E d 103 [vR 1 11 10, vI (roV E 0 (ix (x3 + (1 : Int32)))), vI (roV E 0 (ix (x3 + (2 : Int32))))] (M, L)) fun r81 s81 => (if ib (x3 + (1 : Int32)) E.1 then (if ib (x3 + (2 : Int32)) E.1 then (bI (C E d 164 [vR 1 12 400, vI (roV E 0 (ix (x3 + (1 : Int32)))), vI (roV E 0 (ix (x3 + (2 : Int32))))] s81) fun r82 s82 => (if r81 = r82 then X E d me253 18 [some (vR 4 E.1 0), some (vR 1 11 10), some (vR 1 12 400), some (vI (x3 + (6 : Int32)))] [] s82 else some (some (vI (0 : Int32)), s82))) else none) else none)) else none) else none) else (if ((roV E 0 (ix x3)) &&& (63 : Int32)) = (2 : Int32) then (if ib (x3 + (1 : Int32)) E.1 then (if ib (x3 + (2 : Int32)) E.1 then (if ib (x3 + (3 : Int32)) E.1 then (bI (C E d 104 [vR 1 11 10, vI (roV E 0 (ix (x3 + (1 : Int32)))), vI (roV E 0 (ix (x3 + (2 : Int32)))), vI (roV E 0 (ix (x3 + (3 : Int32))))] (M, L)) fun r79 s79 => (if ib (x3 + (1 : Int32)) E.1 then (if ib (x3 + (2 : Int32)) E.1 then (if ib (x3 + (3 : Int32)) E.1 then (bI (C E d 165 [vR 1 12 400, vI (roV E 0 (ix (x3 + (1 : Int32)))), vI (roV E 0 (ix (x3 + (2 : Int32)))), vI (roV E 0 (ix (x3 + (3 : Int32))))] s79) fun r80 s80 => (if r79 = r80 then X E d me253 18 [some (vR 4 E.1 0), some (vR 1 11 10), some (vR 1 12 400), some (vI (x3 + (6 : Int32)))] [] s80 else some (some (vI (0 : Int32)), s80))) else none) else none) else none)) else none) else none) else none) else (if ((roV E 0 (ix x3)) &&& (63 : Int32)) = (3 : Int32) then (if ib (x3 + (1 : Int32)) E.1 then (if ib (x3 + (2 : Int32)) E.1 then (if ib (x3 + (3 : Int32)) E.1 then (bI (C E d 106 [vR 1 11 10, vI (roV E 0 (ix (x3 + (1 : Int32)))), vI (roV E 0 (ix (x3 + (2 : Int32)))), vI (roV E 0 (ix (x3 + (3 : Int32))))] (M, L)) fun r77 s77 => (if ib (x3 + (1 : Int32)) E.1 then (if ib (x3 + (2 : Int32)) E.1 then (if ib (x3 + (3 : Int32)) E.1 then (bI (C E d 168 [vR 1 12 400, vI (roV E 0 (ix (x3 + (1 : Int32)))), vI (roV E 0 (ix (x3 + (2 : Int32)))), vI (roV E 0 (ix (x3 + (3 : Int32))))] s77) fun r78 s78 => (if r77 = r78 then X E d me253 18 [some (vR 4 E.1 0), some (vR 1 11 10), some (vR 1 12 400), some (vI (x3 + (6 : Int32)))] [] s78 else some (some (vI (0 : Int32)), s78))) else none) else none) else none)) else none) else none) else none) else (if ((roV E 0 (ix x3)) &&& (63 : Int32)) = (4 : Int32) then (if ib (x3 + (1 : Int32)) E.1 then (if ib (x3 + (2 : Int32)) E.1 then (bI (C E d 107 [vR 1 11 10, vI (roV E 0 (ix (x3 + (1 : Int32)))), vI (roV E 0 (ix (x3 + (2 : Int32))))] (M, L)) fun r75 s75 => (if ib (x3 + (1 : Int32)) E.1 then (if ib (x3 + (2 : Int32)) E.1 then (bI (C E d 169 [vR 1 12 400, vI (roV E 0 (ix (x3 + (1 : Int32)))), vI (roV E 0 (ix (x3 + (2 : Int32))))] s75) fun r76 s76 => (if r75 = r76 then X E d me253 18 [some (vR 4 E.1 0), some (vR 1 11 10), some (vR 1 12 400), some (vI (x3 + (6 : Int32)))] [] s76 else some (some (vI (0 : Int32)), s76))) else none) else none)) else none) else none) else (if ((roV E 0 (ix x3)) &&& (63 : Int32)) = (5 : Int32) then (if ib (x3 + (1 : Int32)) E.1 then (bI (C E d 108 [vR 1 11 10, vI (roV E 0 (ix (x3 + (1 : Int32))))] (M, L)) fun r73 s73 => (if ib (x3 + (1 : Int32)) E.1 then (bI (C E d 170 [vR 1 12 400, vI (roV E 0 (ix (x3 + (1 : Int32))))] s73) fun r74 s74 => (if r73 = r74 then X E d me253 18 [some (vR 4 E.1 0), some (vR 1 11 10), some (vR 1 12 400), some (vI (x3 + (6 : Int32)))] [] s74 else some (some (vI (0 : Int32)), s74))) else none)) else none) else (if ((roV E 0 (ix x3)) &&& (63 : Int32)) = (6 : Int32) then (bI (C E d 109 [vR 1 11 10] (M, L)) fun r71 s71 => (bI (C E d 184 [vR 1 12 400] s71) fun r72 s72 => (if r71 = r72 then X E d me253 18 [some (vR 4 E.1 0), some (vR 1 11 10), some (vR 1 12 400), some (vI (x3 + (6 : Int32)))] [] s72 else some (some (vI (0 : Int32)), s72)))) else (if ((roV E 0 (ix x3)) &&& (63 : Int32)) = (7 : Int32) then (if ib (x3 + (1 : Int32)) E.1 then (bI (C E d 110 [vR 1 11 10, vI (roV E 0 (ix (x3 + (1 : Int32))))] (M, L)) fun r69 s69 => (if ib (x3 + (1 : Int32)) E.1 then (bI (C E d 197 [vR 1 12 400, vI (roV E 0 (ix (x3 + (1 : Int32))))] s69) fun r70 s70 => (if r69 = r70 then X E d me253 18 [some (vR 4 E.1 0), some (vR 1 11 10), some (vR 1 12 400), some (vI (x3 + (6 : Int32)))] [] s70 else some (some (vI (0 : Int32)), s70))) else none)) else none) else (if ((roV E 0 (ix x3)) &&& (63 : Int32)) = (8 : Int32) then (if ib (x3 + (1 : Int32)) E.1 then (if ib (x3 + (2 : Int32)) E.1 then (if ib (x3 + (3 : Int32)) E.1 then (bI (C E d 111 [vR 1 11 10, vI (roV E 0 (ix (x3 + (1 : Int32)))), vI (roV E 0 (ix (x3 + (2 : Int32)))), vI (roV E 0 (ix (x3 + (3 : Int32))))] (M, L)) fun r67 s67 => (if ib (x3 + (1 : Int32)) E.1 then (if ib (x3 + (2 : Int32)) E.1 then (if ib (x3 + (3 : Int32)) E.1 then (bI (C E d 199 [vR 1 12 400, vI (roV E 0 (ix (x3 + (1 : Int32)))), vI (roV E 0 (ix (x3 + (2 : Int32)))), vI (roV E 0 (ix (x3 + (3 : Int32))))] s67) fun r68 s68 => (if r67 = r68 then X E d me253 18 [some (vR 4 E.1 0), some (vR 1 11 10), some (vR 1 12 400), some (vI (x3 + (6 : Int32)))] [] s68 else some (some (vI (0 : Int32)), s68))) else none) else none) else none)) else none) else none) else none) else (if ((roV E 0 (ix x3)) &&& (63 : Int32)) = (9 : Int32) then (if ib (x3 + (1 : Int32)) E.1 then (if ib (x3 + (2 : Int32)) E.1 then (bI (C E d 112 [vR 1 11 10, vI (roV E 0 (ix (x3 + (1 : Int32)))), vI (roV E 0 (ix (x3 + (2 : Int32))))] (M, L)) fun r65 s65 => (if ib (x3 + (1 : Int32)) E.1 then (if ib (x3 + (2 : Int32)) E.1 then (bI (C E d 200 [vR 1 12 400, vI (roV E 0 (ix (x3 + (1 : Int32)))), vI (roV E 0 (ix (x3 + (2 : Int32))))] s65) fun r66 s66 => (if r65 = r66 then X E d me253 18 [some (vR 4 E.1 0), some (vR 1 11 10), some (vR 1 12 400), some (vI (x3 + (6 : Int32)))] [] s66 else some (some (vI (0 : Int32)), s66))) else none) else none)) else none) else none) else (if ((roV E 0 (ix x3)) &&& (63 : Int32)) = (10 : Int32) then (if ib (x3 + (1 : Int32)) E.1 then (bI (C E d 113 [vR 1 11 10, vI (roV E 0 (ix (x3 + (1 : Int32))))] (M, L)) fun r63 s63 => (if ib (x3 + (1 : Int32)) E.1 then (bI (C E d 202 [vR 1 12 400, vI (roV E 0 (ix (x3 + (1 : Int32))))] s63) fun r64 s64 => (if r63 = r64 then X E d me253 18 [some (vR 4 E.1 0), some (vR 1 11 10), some (vR 1 12 400), some (vI (x3 + (6 : Int32)))] [] s64 else some (some (vI (0 : Int32)), s64))) else none)) else none) else (if ((roV E 0 (ix x3)) &&& (63 : Int32)) = (11 : Int32) then (if ib (x3 + (1 : Int32)) E.1 then (bI (C E d 114 [vR 1 11 10, vI (roV E 0 (ix (x3 + (1 : Int32))))] (M, L)) fun r61 s61 => (if ib (x3 + (1 : Int32)) E.1 then (bI (C E d 203 [vR 1 12 400, vI (roV E 0 (ix (x3 + (1 : Int32))))] s61) fun r62 s62 => (if r61 = r62 then X E d me253 18 [some (vR 4 E.1 0), some (vR 1 11 10), some (vR 1 12 400), some (vI (x3 + (6 : Int32)))] [] s62 else some (some (vI (0 : Int32)), s62))) else none)) else none) else (if ((roV E 0 (ix x3)) &&& (63 : Int32)) = (12 : Int32) then (if ib (x3 + (1 : Int32)) E.1 then (bI (C E d 115 [vR 1 11 10, vI (roV E 0 (ix (x3 + (1 : Int32))))] (M, L)) fun r59 s59 => (if ib (x3 + (1 : Int32)) E.1 then (bI (C E d 204 [vR 1 12 400, vI (roV E 0 (ix (x3 + (1 : Int32))))] s59) fun r60 s60 => (if r59 = r60 then X E d me253 18 [some (vR 4 E.1 0), some (vR 1 11 10), some (vR 1 12 400), some (vI (x3 + (6 : Int32)))] [] s60 else some (some (vI (0 : Int32)), s60))) else none)) else none) else (if ((roV E 0 (ix x3)) &&& (63 : Int32)) = (13 : Int32) then (if ib (x3 + (1 : Int32)) E.1 then (if ib (x3 + (2 : Int32)) E.1 then (bI (C E d 116 [vR 1 11 10, vI (roV E 0 (ix (x3 + (1 : Int32)))), vI (roV E 0 (ix (x3 + (2 : Int32))))] (M, L)) fun r57 s57 => (if ib (x3 + (1 : Int32)) E.1 then (if ib (x3 + (2 : Int32)) E.1 then (bI (C E d 205 [vR 1 12 400, vI (roV E 0 (ix (x3 + (1 : Int32)))), vI (roV E 0 (ix (x3 + (2 : Int32))))] s57) fun r58 s58 => (if r57 = r58 then X E d me253 18 [some (vR 4 E.1 0), some (vR 1 11 10), some (vR 1 12 400), some (vI (x3 + (6 : Int32)))] [] s58 else some (some (vI (0 : Int32)), s58))) else none) else none)) else none) else none) else (if ((roV E 0 (ix x3)) &&& (63 : Int32)) = (14 : Int32) then (if ib (x3 + (1 : Int32)) E.1 then (bI (C E d 117 [vR 1 11 10, vI (roV E 0 (ix (x3 + (1 : Int32))))] (M, L)) fun r55 s55 => (if ib (x3 + (1 : Int32)) E.1 then (bI (C E d 208 [vR 1 12 400, vI (roV E 0 (ix (x3 + (1 : Int32))))] s55) fun r56 s56 => (if r55 = r56 then X E d me253 18 [some (vR 4 E.1 0), some (vR 1 11 10), some (vR 1 12 400), some (vI (x3 + (6 : Int32)))] [] s56 else some (some (vI (0 : Int32)), s56))) else none)) else none) else (if ((roV E 0 (ix x3)) &&& (63 : Int32)) = (15 : Int32) then (if ib (x3 + (1 : Int32)) E.1 then (if ib (x3 + (2 : Int32)) E.1 then (bI (C E d 118 [vR 1 11 10, vI (roV E 0 (ix (x3 + (1 : Int32)))), vI (roV E 0 (ix (x3 + (2 : Int32))))] (M, L)) fun r53 s53 => (if ib (x3 + (1 : Int32)) E.1 then (if ib (x3 + (2 : Int32)) E.1 then (bI (C E d 210 [vR 1 12 400, vI (roV E 0 (ix (x3 + (1 : Int32)))), vI (roV E 0 (ix (x3 + (2 : Int32))))] s53) fun r54 s54 => (if r53 = r54 then X E d me253 18 [some (vR 4 E.1 0), some (vR 1 11 10), some (vR 1 12 400), some (vI (x3 + (6 : Int32)))] [] s54 else some (some (vI (0 : Int32)), s54))) else none) else none)) else none) else none) else (if ((roV E 0 (ix x3)) &&& (63 : Int32)) = (16 : Int32) then (bI (C E d 119 [vR 1 11 10] (M, L)) fun r51 s51 => (bI (C E d 211 [vR 1 12 400] s51) fun r52 s52 => (if r51 = r52 then X E d me253 18 [some (vR 4 E.1 0), some (vR 1 11 10), some (vR 1 12 400), some (vI (x3 + (6 : Int32)))] [] s52 else some (some (vI (0 : Int32)), s52)))) else (if ((roV E 0 (ix x3)) &&& (63 : Int32)) = (17 : Int32) then (if ib (x3 + (1 : Int32)) E.1 then (if ib (x3 + (2 : Int32)) E.1 then (bI (C E d 120 [vR 1 11 10, vI (roV E 0 (ix (x3 + (1 : Int32)))), vI (roV E 0 (ix (x3 + (2 : Int32))))] (M, L)) fun r49 s49 => (if ib (x3 + (1 : Int32)) E.1 then (if ib (x3 + (2 : Int32)) E.1 then (bI (C E d 214 [vR 1 12 400, vI (roV E 0 (ix (x3 + (1 : Int32)))), vI (roV E 0 (ix (x3 + (2 : Int32))))] s49) fun r50 s50 => (if r49 = r50 then X E d me253 18 [some (vR 4 E.1 0), some (vR 1 11 10), some (vR 1 12 400), some (vI (x3 + (6 : Int32)))] [] s50 else some (some (vI (0 : Int32)), s50))) else none) else none)) else none) else none) else (if ((roV E 0 (ix x3)) &&& (63 : Int32)) = (18 : Int32) then (if ib (x3 + (1 : Int32)) E.1 then (if ib (x3 + (2 : Int32)) E.1 then (if ib (x3 + (3 : Int32)) E.1 then (if ib (x3 + (4 : Int32)) E.1 then (bI (C E d 121 [vR 1 11 10, vI (roV E 0 (ix (x3 + (1 : Int32)))), vI (roV E 0 (ix (x3 + (2 : Int32)))), vI (roV E 0 (ix (x3 + (3 : Int32)))), vI (roV E 0 (ix (x3 + (4 : Int32))))] (M, L)) fun r47 s47 => (if ib (x3 + (1 : Int32)) E.1 then (if ib (x3 + (2 : Int32)) E.1 then (if ib (x3 + (3 : Int32)) E.1 then (if ib (x3 + (4 : Int32)) E.1 then (bI (C E d 215 [vR 1 12 400, vI (roV E 0 (ix (x3 + (1 : Int32)))), vI (roV E 0 (ix (x3 + (2 : Int32)))), vI (roV E 0 (ix (x3 + (3 : Int32)))), vI (roV E 0 (ix (x3 + (4 : Int32))))] s47) fun r48 s48 => (if r47 = r48 then X E d me253 18 [some (vR 4 E.1 0), some (vR 1 11 10), some (vR 1 12 400), some (vI (x3 + (6 : Int32)))] [] s48 else some (some (vI (0 : Int32)), s48))) else none) else none) else none) else none)) else none) else none) else none) else none) else (if ((roV E 0 (ix x3)) &&& (63 : Int32)) = (19 : Int32) then (if ib (x3 + (1 : Int32)) E.1 then (if ib (x3 + (2 : Int32)) E.1 then (bI (C E d 122 [vR 1 11 10, vI (roV E 0 (ix (x3 + (1 : Int32)))), vI (roV E 0 (ix (x3 + (2 : Int32))))] (M, L)) fun r45 s45 => (if ib (x3 + (1 : Int32)) E.1 then (if ib (x3 + (2 : Int32)) E.1 then (bI (C E d 217 [vR 1 12 400, vI (roV E 0 (ix (x3 + (1 : Int32)))), vI (roV E 0 (ix (x3 + (2 : Int32))))] s45) fun r46 s46 => (if r45 = r46 then X E d me253 18 [some (vR 4 E.1 0), some (vR 1 11 10), some (vR 1 12 400), some (vI (x3 + (6 : Int32)))] [] s46 else some (some (vI (0 : Int32)), s46))) else none) else none)) else none) else none) else (if ((roV E 0 (ix x3)) &&& (63 : Int32)) = (20 : Int32) then (if ib (x3 + (1 : Int32)) E.1 then (bI (C E d 123 [vR 1 11 10, vI (roV E 0 (ix (x3 + (1 : Int32))))] (M, L)) fun r43 s43 => (if ib (x3 + (1 : Int32)) E.1 then (bI (C E d 218 [vR 1 12 400, vI (roV E 0 (ix (x3 + (1 : Int32))))] s43) fun r44 s44 => (if r43 = r44 then X E d me253 18 [some (vR 4 E.1 0), some (vR 1 11 10), some (vR 1 12 400), some (vI (x3 + (6 : Int32)))] [] s44 else some (some (vI (0 : Int32)), s44))) else none)) else none) else (if ((roV E 0 (ix x3)) &&& (63 : Int32)) = (21 : Int32) then (if ib (x3 + (1 : Int32)) E.1 then (if ib (x3 + (2 : Int32)) E.1 then (if ib (x3 + (3 : Int32)) E.1 then (bI (C E d 124 [vR 1 11 10, vI (roV E 0 (ix (x3 + (1 : Int32)))), vI (roV E 0 (ix (x3 + (2 : Int32)))), vI (roV E 0 (ix (x3 + (3 : Int32))))] (M, L)) fun r41 s41 => (if ib (x3 + (1 : Int32)) E.1 then (if ib (x3 + (2 : Int32)) E.1 then (if ib (x3 + (3 : Int32)) E.1 then (bI (C E d 220 [vR 1 12 400, vI (roV E 0 (ix (x3 + (1 : Int32)))), vI (roV E 0 (ix (x3 + (2 : Int32)))), vI (roV E 0 (ix (x3 + (3 : Int32))))] s41) fun r42 s42 => (if r41 = r42 then X E d me253 18 [some (vR 4 E.1 0), some (vR 1 11 10), some (vR 1 12 400), some (vI (x3 + (6 : Int32)))] [] s42 else some (some (vI (0 : Int32)), s42))) else none) else none) else none)) else none) else none) else none) else (if ((roV E 0 (ix x3)) &&& (63 : Int32)) = (22 : Int32) then (if ib (x3 + (1 : Int32)) E.1 then (if ib (x3 + (2 : Int32)) E.1 then (if ib (x3 + (3 : Int32)) E.1 then (bI (C E d 125 [vR 1 11 10, vI (roV E 0 (ix (x3 + (1 : Int32)))), vI (roV E 0 (ix (x3 + (2 : Int32)))), vI (roV E 0 (ix (x3 + (3 : Int32))))] (M, L)) fun r39 s39 => (if ib (x3 + (1 : Int32)) E.1 then (if ib (x3 + (2 : Int32)) E.1 then (if ib (x3 + (3 : Int32)) E.1 then (bI (C E d 221 [vR 1 12 400, vI (roV E 0 (ix (x3 + (1 : Int32)))), vI (roV E 0 (ix (x3 + (2 : Int32)))), vI (roV E 0 (ix (x3 + (3 : Int32))))] s39) fun r40 s40 => (if r39 = r40 then X E d me253 18 [some (vR 4 E.1 0), some (vR 1 11 10), some (vR 1 12 400), some (vI (x3 + (6 : Int32)))] [] s40 else some (some (vI (0 : Int32)), s40))) else none) else none) else none)) else none) else none) else none) else (if ((roV E 0 (ix x3)) &&& (63 : Int32)) = (23 : Int32) then (bI (C E d 126 [vR 1 11 10] (M, L)) fun r37 s37 => (bI (C E d 222 [vR 1 12 400] s37) fun r38 s38 => (if r37 = r38 then X E d me253 18 [some (vR 4 E.1 0), some (vR 1 11 10), some (vR 1 12 400), some (vI (x3 + (6 : Int32)))] [] s38 else some (some (vI (0 : Int32)), s38)))) else (if ((roV E 0 (ix x3)) &&& (63 : Int32)) = (24 : Int32) then (if ib (x3 + (1 : Int32)) E.1 then (if ib (x3 + (2 : Int32)) E.1 then (bI (C E d 127 [vR 1 11 10, vI (roV E 0 (ix (x3 + (1 : Int32)))), vI (roV E 0 (ix (x3 + (2 : Int32))))] (M, L)) fun r35 s35 => (if ib (x3 + (1 : Int32)) E.1 then (if ib (x3 + (2 : Int32)) E.1 then (bI (C E d 223 [vR 1 12 400, vI (roV E 0 (ix (x3 + (1 : Int32)))), vI (roV E 0 (ix (x3 + (2 : Int32))))] s35) fun r36 s36 => (if r35 = r36 then X E d me253 18 [some (vR 4 E.1 0), some (vR 1 11 10), some (vR 1 12 400), some (vI (x3 + (6 : Int32)))] [] s36 else some (some (vI (0 : Int32)), s36))) else none) else none)) else none) else none) else (if ((roV E 0 (ix x3)) &&& (63 : Int32)) = (25 : Int32) then (if ib (x3 + (1 : Int32)) E.1 then (if ib (x3 + (2 : Int32)) E.1 then (bI (C E d 128 [vR 1 11 10, vI (roV E 0 (ix (x3 + (1 : Int32)))), vI (roV E 0 (ix (x3 + (2 : Int32))))] (M, L)) fun r33 s33 => (if ib (x3 + (1 : Int32)) E.1 then (if ib (x3 + (2 : Int32)) E.1 then (bI (C E d 224 [vR 1 12 400, vI (roV E 0 (ix (x3 + (1 : Int32)))), vI (roV E 0 (ix (x3 + (2 : Int32))))] s33) fun r34 s34 => (if r33 = r34 then X E d me253 18 [some (vR 4 E.1 0), some (vR 1 11 10), some (vR 1 12 400), some (vI (x3 + (6 : Int32)))] [] s34 else some (some (vI (0 : Int32)), s34))) else none) else none)) else none) else none) else (if ((roV E 0 (ix x3)) &&& (63 : Int32)) = (26 : Int32) then (if ib (x3 + (1 : Int32)) E.1 then (if ib (x3 + (2 : Int32)) E.1 then (bI (C E d 129 [vR 1 11 10, vI (roV E 0 (ix (x3 + (1 : Int32)))), vI (roV E 0 (ix (x3 + (2 : Int32))))] (M, L)) fun r31 s31 => (if ib (x3 + (1 : Int32)) E.1 then (if ib (x3 + (2 : Int32)) E.1 then (bI (C E d 225 [vR 1 12 400, vI (roV E 0 (ix (x3 + (1 : Int32)))), vI (roV E 0 (ix (x3 + (2 : Int32))))] s31) fun r32 s32 => (if r31 = r32 then X E d me253 18 [some (vR 4 E.1 0), some (vR 1 11 10), some (vR 1 12 400), some (vI (x3 + (6 : Int32)))] [] s32 else some (some (vI (0 : Int32)), s32))) else none) else none)) else none) else none) else (if ((roV E 0 (ix x3)) &&& (63 : Int32)) = (27 : Int32) then (if ib (x3 + (1 : Int32)) E.1 then (bI (C E d 130 [vR 1 11 10, vI (roV E 0 (ix (x3 + (1 : Int32))))] (M, L)) fun r29 s29 => (if ib (x3 + (1 : Int32)) E.1 then (bI (C E d 226 [vR 1 12 400, vI (roV E 0 (ix (x3 + (1 : Int32))))] s29) fun r30 s30 => (if r29 = r30 then X E d me253 18 [some (vR 4 E.1 0), some (vR 1 11 10), some (vR 1 12 400), some (vI (x3 + (6 : Int32)))] [] s30 else some (some (vI (0 : Int32)), s30))) else none)) else none) else (if ((roV E 0 (ix x3)) &&& (63 : Int32)) = (28 : Int32) then (bI (C E d 131 [vR 1 11 10] (M, L)) fun r27 s27 => (bI (C E d 227 [vR 1 12 400] s27) fun r28 s28 => (if r27 = r28 then X E d me253 18 [some (vR 4 E.1 0), some (vR 1 11 10), some (vR 1 12 400), some (vI (x3 + (6 : Int32)))] [] s28 else some (some (vI (0 : Int32)), s28)))) else (if ((roV E 0 (ix x3)) &&& (63 : Int32)) = (29 : Int32) then (bI (C E d 132 [vR 1 11 10] (M, L)) fun r25 s25 => (bI (C E d 228 [vR 1 12 400] s25) fun r26 s26 => (if r25 = r26 then X E d me253 18 [some (vR 4 E.1 0), some (vR 1 11 10), some (vR 1 12 400), some (vI (x3 + (6 : Int32)))] [] s26 else some (some (vI (0 : Int32)), s26)))) else (if ((roV E 0 (ix x3)) &&& (63 : Int32)) = (30 : Int32) then (bI (C E d 133 [vR 1 11 10] (M, L)) fun r23 s23 => (bI (C E d 154 [vR 1 12 400] s23) fun r24 s24 => (if r23 = r24 then X E d me253 18 [some (vR 4 E.1 0), some (vR 1 11 10), some (vR 1 12 400), some (vI (x3 + (6 : Int32)))] [] s24 else some (some (vI (0 : Int32)), s24)))) else (if ((roV E 0 (ix x3)) &&& (63 : Int32)) = (31 : Int32) then (bI (C E d 134 [vR 1 11 10] (M, L)) fun r21 s21 => (bI (C E d 155 [vR 1 12 400] s21) fun r22 s22 => (if r21 = r22 then X E d me253 18 [some (vR 4 E.1 0), some (vR 1 11 10), some (vR 1 12 400), some (vI (x3 + (6 : Int32)))] [] s22 else some (some (vI (0 : Int32)), s22)))) else (if ((roV E 0 (ix x3)) &&& (63 : Int32)) = (32 : Int32) then (if ib (x3 + (1 : Int32)) E.1 then (bI (C E d 135 [vR 1 11 10, vI (roV E 0 (ix (x3 + (1 : Int32))))] (M, L)) fun r19 s19 => (if ib (x3 + (1 : Int32)) E.1 then (bI (C E d 231 [vR 1 12 400, vI (roV E 0 (ix (x3 + (1 : Int32))))] s19) fun r20 s20 => (if r19 = r20 then X E d me253 18 [some (vR 4 E.1 0), some (vR 1 11 10), some (vR 1 12 400), some (vI (x3 + (6 : Int32)))] [] s20 else some (some (vI (0 : Int32)), s20))) else none)) else none) else (if ((roV E 0 (ix x3)) &&& (63 : Int32)) = (33 : Int32) then (if ib (x3 + (1 : Int32)) E.1 then (if ib (x3 + (2 : Int32)) E.1 then (if ib (x3 + (3 : Int32)) E.1 then (bI (C E d 136 [vR 1 11 10, vI (roV E 0 (ix (x3 + (1 : Int32)))), vI (roV E 0 (ix (x3 + (2 : Int32)))), vI (roV E 0 (ix (x3 + (3 : Int32))))] (M, L)) fun r17 s17 => (if ib (x3 + (1 : Int32)) E.1 then (if ib (x3 + (2 : Int32)) E.1 then (if ib (x3 + (3 : Int32)) E.1 then (bI (C E d 238 [vR 1 12 400, vI (roV E 0 (ix (x3 + (1 : Int32)))), vI (roV E 0 (ix (x3 + (2 : Int32)))), vI (roV E 0 (ix (x3 + (3 : Int32))))] s17) fun r18 s18 => (if r17 = r18 then X E d me253 18 [some (vR 4 E.1 0), some (vR 1 11 10), some (vR 1 12 400), some (vI (x3 + (6 : Int32)))] [] s18 else some (some (vI (0 : Int32)), s18))) else none) else none) else none)) else none) else none) else none) else (if ((roV E 0 (ix x3)) &&& (63 : Int32)) = (34 : Int32) then (if ib (x3 + (1 : Int32)) E.1 then (bI (C E d 137 [vR 1 11 10, vI (roV E 0 (ix (x3 + (1 : Int32))))] (M, L)) fun r15 s15 => (if ib (x3 + (1 : Int32)) E.1 then (bI (C E d 239 [vR 1 12 400, vI (roV E 0 (ix (x3 + (1 : Int32))))] s15) fun r16 s16 => (if r15 = r16 then X E d me253 18 [some (vR 4 E.1 0), some (vR 1 11 10), some (vR 1 12 400), some (vI (x3 + (6 : Int32)))] [] s16 else some (some (vI (0 : Int32)), s16))) else none)) else none) else (if ((roV E 0 (ix x3)) &&& (63 : Int32)) = (35 : Int32) then (if ib (x3 + (1 : Int32)) E.1 then (if ib (x3 + (2 : Int32)) E.1 then (bI (C E d 138 [vR 1 11 10, vI (roV E 0 (ix (x3 + (1 : Int32)))), vI (roV E 0 (ix (x3 + (2 : Int32))))] (M, L)) fun r13 s13 => (if ib (x3 + (1 : Int32)) E.1 then (if ib (x3 + (2 : Int32)) E.1 then (bI (C E d 241 [vR 1 12 400, vI (roV E 0 (ix (x3 + (1 : Int32)))), vI (roV E 0 (ix (x3 + (2 : Int32))))] s13) fun r14 s14 => (if r13 = r14 then X E d me253 18 [some (vR 4 E.1 0), some (vR 1 11 10), some (vR 1 12 400), some (vI (x3 + (6 : Int32)))] [] s14 else some (some (vI (0 : Int32)), s14))) else none) else none)) else none) else none) else (if ((roV E 0 (ix x3)) &&& (63 : Int32)) = (36 : Int32) then (if ib (x3 + (1 : Int32)) E.1 then (if ib (x3 + (2 : Int32)) E.1 then (if ib (x3 + (3 : Int32)) E.1 then (bI (C E d 139 [vR 1 11 10, vI (roV E 0 (ix (x3 + (1 : Int32)))), vI (roV E 0 (ix (x3 + (2 : Int32)))), vI (roV E 0 (ix (x3 + (3 : Int32))))] (M, L)) fun r11 s11 => (if ib (x3 + (1 : Int32)) E.1 then (if ib (x3 + (2 : Int32)) E.1 then (if ib (x3 + (3 : Int32)) E.1 then (bI (C E d 242 [vR 1 12 400, vI (roV E 0 (ix (x3 + (1 : Int32)))), vI (roV E 0 (ix (x3 + (2 : Int32)))), vI (roV E 0 (ix (x3 + (3 : Int32))))] s11) fun r12 s12 => (if r11 = r12 then X E d me253 18 [some (vR 4 E.1 0), some (vR 1 11 10), some (vR 1 12 400), some (vI (x3 + (6 : Int32)))] [] s12 else some (some (vI (0 : Int32)), s12))) else none) else none) else none)) else none) else none) else none) else (if ((roV E 0 (ix x3)) &&& (63 : Int32)) = (37 : Int32) then (if ib (x3 + (1 : Int32)) E.1 then (if ib (x3 + (2 : Int32)) E.1 then (if ib (x3 + (3 : Int32)) E.1 then (if ib (x3 + (4 : Int32)) E.1 then (bI (C E d 140 [vR 1 11 10, vI (roV E 0 (ix (x3 + (1 : Int32)))), vI (roV E 0 (ix (x3 + (2 : Int32)))), vL (((Int32.toInt64 (roV E 0 (ix (x3 + (3 : Int32))))) <<< (((32 : Int32)).toInt64 &&& 63)) ||| ((Int32.toInt64 (roV E 0 (ix (x3 + (4 : Int32))))) &&& (4294967295 : Int64)))] (M, L)) fun r9 s9 => (if ib (x3 + (1 : Int32)) E.1 then (if ib (x3 + (2 : Int32)) E.1 then (if ib (x3 + (3 : Int32)) E.1 then (if ib (x3 + (4 : Int32)) E.1 then (bI (C E d 245 [vR 1 12 400, vI (roV E 0 (ix (x3 + (1 : Int32)))), vI (roV E 0 (ix (x3 + (2 : Int32)))), vL (((Int32.toInt64 (roV E 0 (ix (x3 + (3 : Int32))))) <<< (((32 : Int32)).toInt64 &&& 63)) ||| ((Int32.toInt64 (roV E 0 (ix (x3 + (4 : Int32))))) &&& (4294967295 : Int64)))] s9) fun r10 s10 => (if r9 = r10 then X E d me253 18 [some (vR 4 E.1 0), some (vR 1 11 10), some (vR 1 12 400), some (vI (x3 + (6 : Int32)))] [] s10 else some (some (vI (0 : Int32)), s10))) else none) else none) else none) else none)) else none) else none) else none) else none) else (if ((roV E 0 (ix x3)) &&& (63 : Int32)) = (38 : Int32) then (if ib (x3 + (1 : Int32)) E.1 then (if ib (x3 + (2 : Int32)) E.1 then (bL (C E d 141 [vR 1 11 10, vI (roV E 0 (ix (x3 + (1 : Int32)))), vI (roV E 0 (ix (x3 + (2 : Int32))))] (M, L)) fun r7 s7 => (if ib (x3 + (1 : Int32)) E.1 then (if ib (x3 + (2 : Int32)) E.1 then (bL (C E d 246 [vR 1 12 400, vI (roV E 0 (ix (x3 + (1 : Int32)))), vI (roV E 0 (ix (x3 + (2 : Int32))))] s7) fun r8 s8 => (if (lg_cmp r7 r8) = 0 then X E d me253 18 [some (vR 4 E.1 0), some (vR 1 11 10), some (vR 1 12 400), some (vI (x3 + (6 : Int32)))] [] s8 else some (some (vI (0 : Int32)), s8))) else none) else none)) else none) else none) else (if ((roV E 0 (ix x3)) &&& (63 : Int32)) = (39 : Int32) then (if ib (x3 + (1 : Int32)) E.1 then (if ib (x3 + (2 : Int32)) E.1 then (if ib (x3 + (3 : Int32)) E.1 then (if ib (x3 + (4 : Int32)) E.1 then (if ib (x3 + (5 : Int32)) E.1 then (bI (C E d 142 [vR 1 11 10, vI (roV E 0 (ix (x3 + (1 : Int32)))), vI (roV E 0 (ix (x3 + (2 : Int32)))), vI (roV E 0 (ix (x3 + (3 : Int32)))), vI (roV E 0 (ix (x3 + (4 : Int32)))), vI (roV E 0 (ix (x3 + (5 : Int32))))] (M, L)) fun r5 s5 => (if ib (x3 + (1 : Int32)) E.1 then (if ib (x3 + (2 : Int32)) E.1 then (if ib (x3 + (3 : Int32)) E.1 then (if ib (x3 + (4 : Int32)) E.1 then (if ib (x3 + (5 : Int32)) E.1 then (bI (C E d 247 [vR 1 12 400, vI (roV E 0 (ix (x3 + (1 : Int32)))), vI (roV E 0 (ix (x3 + (2 : Int32)))), vI (roV E 0 (ix (x3 + (3 : Int32)))), vI (roV E 0 (ix (x3 + (4 : Int32)))), vI (roV E 0 (ix (x3 + (5 : Int32))))] s5) fun r6 s6 => (if r5 = r6 then X E d me253 18 [some (vR 4 E.1 0), some (vR 1 11 10), some (vR 1 12 400), some (vI (x3 + (6 : Int32)))] [] s6 else some (some (vI (0 : Int32)), s6))) else none) else none) else none) else none) else none)) else none) else none) else none) else none) else none) else (if ((roV E 0 (ix x3)) &&& (63 : Int32)) = (40 : Int32) then (if ib (x3 + (1 : Int32)) E.1 then (if ib (x3 + (2 : Int32)) E.1 then (bI (C E d 143 [vR 1 11 10, vI (roV E 0 (ix (x3 + (1 : Int32)))), vI (roV E 0 (ix (x3 + (2 : Int32))))] (M, L)) fun r3 s3 => (if ib (x3 + (1 : Int32)) E.1 then (if ib (x3 + (2 : Int32)) E.1 then (bI (C E d 248 [vR 1 12 400, vI (roV E 0 (ix (x3 + (1 : Int32)))), vI (roV E 0 (ix (x3 + (2 : Int32))))] s3) fun r4 s4 => (if r3 = r4 then X E d me253 18 [some (vR 4 E.1 0), some (vR 1 11 10), some (vR 1 12 400), some (vI (x3 + (6 : Int32)))] [] s4 else some (some (vI (0 : Int32)), s4))) else none) else none)) else none) else none) else (if ((roV E 0 (ix x3)) &&& (63 : Int32)) = (41 : Int32) then (if ib (x3 + (1 : Int32)) E.1 then (bI (C E d 144 [vR 1 11 10, vI (roV E 0 (ix (x3 + (1 : Int32))))] (M, L)) fun r1 s1 => (if ib (x3 + (1 : Int32)) E.1 then (bI (C E d 249 [vR 1 12 400, vI (roV E 0 (ix (x3 + (1 : Int32))))] s1) fun r2 s2 => (if r1 = r2 then X E d me253 18 [some (vR 4 E.1 0), some (vR 1 11 10), some (vR 1 12 400), some (vI (x3 + (6 : Int32)))] [] s2 else some (some (vI (0 : Int32)), s2))) else none)) else none) else X E d me253 18 [some (vR 4 E.1 0), some (vR 1 11 10), some (vR 1 12 400), some (vI (x3 + (6 : Int32)))] [] (M, L))))))))))))))))))))))))))))))))))))))))))) else none)) := by
  rw [X_go E d me253 [18] 400]
  rfl
end
