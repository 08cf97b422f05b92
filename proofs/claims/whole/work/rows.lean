section
-- ===== PART A: goes FIRST, ahead of the names: the tables' words, and 'selects' of the private methods out of them =====
/-- a private method of a class that the tables say can be made, by its rows of tables_1 -/
def lw_okq (q : MethodName × Nat) : Prop := (q.1.cls ≠ "java/lang/invoke/MethodHandle" ∧ q.1.cls ≠ "java/lang/invoke/VarHandle") ∧ Cond.instantiable q.1.cls q.2 ∈ tables_1 ∧ Cond.privateMethod q.1 ∈ tables_1 ∧ Cond.instanceMethod q.1 ∈ tables_1
theorem lw_p0 : lw_okq (⟨"OneCoin$LawReader", "readRule", "(I)I"⟩, 2) := ⟨⟨by decide +kernel, by decide +kernel⟩, List.mem_of_getElem? (i := 187) (by decide +kernel), List.mem_of_getElem? (i := 436) (by decide +kernel), List.mem_of_getElem? (i := 437) (by decide +kernel)⟩
theorem lw_p1 : lw_okq (⟨"OneCoin$LawReader", "readNumber", "(I)I"⟩, 2) := ⟨⟨by decide +kernel, by decide +kernel⟩, List.mem_of_getElem? (i := 187) (by decide +kernel), List.mem_of_getElem? (i := 453) (by decide +kernel), List.mem_of_getElem? (i := 454) (by decide +kernel)⟩
theorem lw_p2 : lw_okq (⟨"OneCoin$LawReader", "readFactor", "(I)I"⟩, 2) := ⟨⟨by decide +kernel, by decide +kernel⟩, List.mem_of_getElem? (i := 187) (by decide +kernel), List.mem_of_getElem? (i := 457) (by decide +kernel), List.mem_of_getElem? (i := 458) (by decide +kernel)⟩
theorem lw_p3 : lw_okq (⟨"OneCoin$LawReader", "readDigits", "()I"⟩, 2) := ⟨⟨by decide +kernel, by decide +kernel⟩, List.mem_of_getElem? (i := 187) (by decide +kernel), List.mem_of_getElem? (i := 465) (by decide +kernel), List.mem_of_getElem? (i := 466) (by decide +kernel)⟩
theorem lw_p4 : lw_okq (⟨"OneCoin$LawReader", "readCondition", "(I)I"⟩, 2) := ⟨⟨by decide +kernel, by decide +kernel⟩, List.mem_of_getElem? (i := 187) (by decide +kernel), List.mem_of_getElem? (i := 560) (by decide +kernel), List.mem_of_getElem? (i := 561) (by decide +kernel)⟩
theorem lw_p5 : lw_okq (⟨"OneCoin$LawReader", "readTest", "(I)I"⟩, 2) := ⟨⟨by decide +kernel, by decide +kernel⟩, List.mem_of_getElem? (i := 187) (by decide +kernel), List.mem_of_getElem? (i := 564) (by decide +kernel), List.mem_of_getElem? (i := 565) (by decide +kernel)⟩
theorem lw_p6 : lw_okq (⟨"OneCoin$LawReader", "readPlainTest", "(I)I"⟩, 2) := ⟨⟨by decide +kernel, by decide +kernel⟩, List.mem_of_getElem? (i := 187) (by decide +kernel), List.mem_of_getElem? (i := 568) (by decide +kernel), List.mem_of_getElem? (i := 569) (by decide +kernel)⟩
theorem lw_p7 : lw_okq (⟨"OneCoin$DebtsReader", "readLine", "(I)I"⟩, 3) := ⟨⟨by decide +kernel, by decide +kernel⟩, List.mem_of_getElem? (i := 200) (by decide +kernel), List.mem_of_getElem? (i := 603) (by decide +kernel), List.mem_of_getElem? (i := 604) (by decide +kernel)⟩
theorem lw_p8 : lw_okq (⟨"OneCoin$DebtsReader", "readMany", "(I)I"⟩, 3) := ⟨⟨by decide +kernel, by decide +kernel⟩, List.mem_of_getElem? (i := 200) (by decide +kernel), List.mem_of_getElem? (i := 616) (by decide +kernel), List.mem_of_getElem? (i := 617) (by decide +kernel)⟩
theorem lw_p9 : lw_okq (⟨"OneCoin$Clock", "beginDay", "(LOneCoin$Duchy;)V"⟩, 6) := ⟨⟨by decide +kernel, by decide +kernel⟩, List.mem_of_getElem? (i := 234) (by decide +kernel), List.mem_of_getElem? (i := 648) (by decide +kernel), List.mem_of_getElem? (i := 649) (by decide +kernel)⟩
theorem lw_p10 : lw_okq (⟨"OneCoin$Law", "firstOf", "(II)I"⟩, 11) := ⟨⟨by decide +kernel, by decide +kernel⟩, List.mem_of_getElem? (i := 140) (by decide +kernel), List.mem_of_getElem? (i := 662) (by decide +kernel), List.mem_of_getElem? (i := 663) (by decide +kernel)⟩
theorem lw_p11 : lw_okq (⟨"OneCoin$Law", "reckoned", "(II)I"⟩, 11) := ⟨⟨by decide +kernel, by decide +kernel⟩, List.mem_of_getElem? (i := 140) (by decide +kernel), List.mem_of_getElem? (i := 666) (by decide +kernel), List.mem_of_getElem? (i := 667) (by decide +kernel)⟩
theorem lw_p12 : lw_okq (⟨"OneCoin$Law", "look", "(LOneCoin$Duchy;II)V"⟩, 11) := ⟨⟨by decide +kernel, by decide +kernel⟩, List.mem_of_getElem? (i := 140) (by decide +kernel), List.mem_of_getElem? (i := 679) (by decide +kernel), List.mem_of_getElem? (i := 680) (by decide +kernel)⟩
theorem lw_p13 : lw_okq (⟨"OneCoin$Clock", "travel", "(LOneCoin$Duchy;)V"⟩, 6) := ⟨⟨by decide +kernel, by decide +kernel⟩, List.mem_of_getElem? (i := 234) (by decide +kernel), List.mem_of_getElem? (i := 705) (by decide +kernel), List.mem_of_getElem? (i := 706) (by decide +kernel)⟩
theorem lw_p14 : lw_okq (⟨"OneCoin$Duchy", "write", "(I)V"⟩, 12) := ⟨⟨by decide +kernel, by decide +kernel⟩, List.mem_of_getElem? (i := 73) (by decide +kernel), List.mem_of_getElem? (i := 715) (by decide +kernel), List.mem_of_getElem? (i := 716) (by decide +kernel)⟩
theorem lw_p15 : lw_okq (⟨"OneCoin$Clock", "setOut", "(LOneCoin$Duchy;)V"⟩, 6) := ⟨⟨by decide +kernel, by decide +kernel⟩, List.mem_of_getElem? (i := 234) (by decide +kernel), List.mem_of_getElem? (i := 721) (by decide +kernel), List.mem_of_getElem? (i := 722) (by decide +kernel)⟩
def lw_privs_1 : List (MethodName × Nat) := [(⟨"OneCoin$LawReader", "readRule", "(I)I"⟩, 2), (⟨"OneCoin$LawReader", "readNumber", "(I)I"⟩, 2), (⟨"OneCoin$LawReader", "readFactor", "(I)I"⟩, 2), (⟨"OneCoin$LawReader", "readDigits", "()I"⟩, 2), (⟨"OneCoin$LawReader", "readCondition", "(I)I"⟩, 2), (⟨"OneCoin$LawReader", "readTest", "(I)I"⟩, 2), (⟨"OneCoin$LawReader", "readPlainTest", "(I)I"⟩, 2), (⟨"OneCoin$DebtsReader", "readLine", "(I)I"⟩, 3), (⟨"OneCoin$DebtsReader", "readMany", "(I)I"⟩, 3), (⟨"OneCoin$Clock", "beginDay", "(LOneCoin$Duchy;)V"⟩, 6), (⟨"OneCoin$Law", "firstOf", "(II)I"⟩, 11), (⟨"OneCoin$Law", "reckoned", "(II)I"⟩, 11), (⟨"OneCoin$Law", "look", "(LOneCoin$Duchy;II)V"⟩, 11), (⟨"OneCoin$Clock", "travel", "(LOneCoin$Duchy;)V"⟩, 6), (⟨"OneCoin$Duchy", "write", "(I)V"⟩, 12), (⟨"OneCoin$Clock", "setOut", "(LOneCoin$Duchy;)V"⟩, 6)]
theorem lw_r1 : ∀ q ∈ lw_privs_1, lw_okq q := List.forall_mem_cons.mpr ⟨lw_p0, List.forall_mem_cons.mpr ⟨lw_p1, List.forall_mem_cons.mpr ⟨lw_p2, List.forall_mem_cons.mpr ⟨lw_p3, List.forall_mem_cons.mpr ⟨lw_p4, List.forall_mem_cons.mpr ⟨lw_p5, List.forall_mem_cons.mpr ⟨lw_p6, List.forall_mem_cons.mpr ⟨lw_p7, List.forall_mem_cons.mpr ⟨lw_p8, List.forall_mem_cons.mpr ⟨lw_p9, List.forall_mem_cons.mpr ⟨lw_p10, List.forall_mem_cons.mpr ⟨lw_p11, List.forall_mem_cons.mpr ⟨lw_p12, List.forall_mem_cons.mpr ⟨lw_p13, List.forall_mem_cons.mpr ⟨lw_p14, List.forall_mem_cons.mpr ⟨lw_p15, fun _ h => absurd h List.not_mem_nil⟩⟩⟩⟩⟩⟩⟩⟩⟩⟩⟩⟩⟩⟩⟩⟩
theorem lw_p16 : lw_okq (⟨"OneCoin", "readRoute", "()I"⟩, 14) := ⟨⟨by decide +kernel, by decide +kernel⟩, List.mem_of_getElem? (i := 23) (by decide +kernel), List.mem_of_getElem? (i := 767) (by decide +kernel), List.mem_of_getElem? (i := 768) (by decide +kernel)⟩
theorem lw_p17 : lw_okq (⟨"OneCoin$RouteReader", "readPayings", "(I)I"⟩, 3) := ⟨⟨by decide +kernel, by decide +kernel⟩, List.mem_of_getElem? (i := 217) (by decide +kernel), List.mem_of_getElem? (i := 775) (by decide +kernel), List.mem_of_getElem? (i := 776) (by decide +kernel)⟩
theorem lw_p18 : lw_okq (⟨"OneCoin$RouteReader", "readPaying", "(I)I"⟩, 3) := ⟨⟨by decide +kernel, by decide +kernel⟩, List.mem_of_getElem? (i := 217) (by decide +kernel), List.mem_of_getElem? (i := 779) (by decide +kernel), List.mem_of_getElem? (i := 780) (by decide +kernel)⟩
theorem lw_p19 : lw_okq (⟨"OneCoin$RouteReader", "repeat", "(II)Z"⟩, 3) := ⟨⟨by decide +kernel, by decide +kernel⟩, List.mem_of_getElem? (i := 217) (by decide +kernel), List.mem_of_getElem? (i := 789) (by decide +kernel), List.mem_of_getElem? (i := 790) (by decide +kernel)⟩
theorem lw_p20 : lw_okq (⟨"OneCoin$Rows", "leastNext", "(I)I"⟩, 8) := ⟨⟨by decide +kernel, by decide +kernel⟩, List.mem_of_getElem? (i := 263) (by decide +kernel), List.mem_of_getElem? (i := 827) (by decide +kernel), List.mem_of_getElem? (i := 828) (by decide +kernel)⟩
theorem lw_p21 : lw_okq (⟨"OneCoin$Balance", "weigh", "(LOneCoin$Duchy;)V"⟩, 9) := ⟨⟨by decide +kernel, by decide +kernel⟩, List.mem_of_getElem? (i := 296) (by decide +kernel), List.mem_of_getElem? (i := 864) (by decide +kernel), List.mem_of_getElem? (i := 865) (by decide +kernel)⟩
theorem lw_p22 : lw_okq (⟨"OneCoin$Balance", "isEvenTurned", "(II)Z"⟩, 9) := ⟨⟨by decide +kernel, by decide +kernel⟩, List.mem_of_getElem? (i := 296) (by decide +kernel), List.mem_of_getElem? (i := 900) (by decide +kernel), List.mem_of_getElem? (i := 901) (by decide +kernel)⟩
theorem lw_p23 : lw_okq (⟨"OneCoin$Rows", "hoursOf", "(II)I"⟩, 8) := ⟨⟨by decide +kernel, by decide +kernel⟩, List.mem_of_getElem? (i := 263) (by decide +kernel), List.mem_of_getElem? (i := 956) (by decide +kernel), List.mem_of_getElem? (i := 957) (by decide +kernel)⟩
theorem lw_p24 : lw_okq (⟨"OneCoin$Rows", "setShare", "([III)V"⟩, 8) := ⟨⟨by decide +kernel, by decide +kernel⟩, List.mem_of_getElem? (i := 263) (by decide +kernel), List.mem_of_getElem? (i := 961) (by decide +kernel), List.mem_of_getElem? (i := 962) (by decide +kernel)⟩
theorem lw_p25 : lw_okq (⟨"OneCoinModel", "areTwo", "(II)Z"⟩, 62) := ⟨⟨by decide +kernel, by decide +kernel⟩, List.mem_of_getElem? (i := 997) (by decide +kernel), List.mem_of_getElem? (i := 1202) (by decide +kernel), List.mem_of_getElem? (i := 1203) (by decide +kernel)⟩
theorem lw_p26 : lw_okq (⟨"OneCoinModel", "isPerson", "(I)Z"⟩, 62) := ⟨⟨by decide +kernel, by decide +kernel⟩, List.mem_of_getElem? (i := 997) (by decide +kernel), List.mem_of_getElem? (i := 1206) (by decide +kernel), List.mem_of_getElem? (i := 1207) (by decide +kernel)⟩
theorem lw_p27 : lw_okq (⟨"OneCoinModel", "rests", "(I)V"⟩, 62) := ⟨⟨by decide +kernel, by decide +kernel⟩, List.mem_of_getElem? (i := 997) (by decide +kernel), List.mem_of_getElem? (i := 1217) (by decide +kernel), List.mem_of_getElem? (i := 1218) (by decide +kernel)⟩
theorem lw_p28 : lw_okq (⟨"OneCoinModel", "types", "(I)V"⟩, 62) := ⟨⟨by decide +kernel, by decide +kernel⟩, List.mem_of_getElem? (i := 997) (by decide +kernel), List.mem_of_getElem? (i := 1225) (by decide +kernel), List.mem_of_getElem? (i := 1226) (by decide +kernel)⟩
theorem lw_p29 : lw_okq (⟨"OneCoinModel", "readsRule", "()Z"⟩, 62) := ⟨⟨by decide +kernel, by decide +kernel⟩, List.mem_of_getElem? (i := 997) (by decide +kernel), List.mem_of_getElem? (i := 1233) (by decide +kernel), List.mem_of_getElem? (i := 1234) (by decide +kernel)⟩
theorem lw_p30 : lw_okq (⟨"OneCoinModel", "here", "()I"⟩, 62) := ⟨⟨by decide +kernel, by decide +kernel⟩, List.mem_of_getElem? (i := 997) (by decide +kernel), List.mem_of_getElem? (i := 1237) (by decide +kernel), List.mem_of_getElem? (i := 1238) (by decide +kernel)⟩
theorem lw_p31 : lw_okq (⟨"OneCoinModel", "wrongAt", "(II)Z"⟩, 62) := ⟨⟨by decide +kernel, by decide +kernel⟩, List.mem_of_getElem? (i := 997) (by decide +kernel), List.mem_of_getElem? (i := 1241) (by decide +kernel), List.mem_of_getElem? (i := 1242) (by decide +kernel)⟩
def lw_privs_2 : List (MethodName × Nat) := [(⟨"OneCoin", "readRoute", "()I"⟩, 14), (⟨"OneCoin$RouteReader", "readPayings", "(I)I"⟩, 3), (⟨"OneCoin$RouteReader", "readPaying", "(I)I"⟩, 3), (⟨"OneCoin$RouteReader", "repeat", "(II)Z"⟩, 3), (⟨"OneCoin$Rows", "leastNext", "(I)I"⟩, 8), (⟨"OneCoin$Balance", "weigh", "(LOneCoin$Duchy;)V"⟩, 9), (⟨"OneCoin$Balance", "isEvenTurned", "(II)Z"⟩, 9), (⟨"OneCoin$Rows", "hoursOf", "(II)I"⟩, 8), (⟨"OneCoin$Rows", "setShare", "([III)V"⟩, 8), (⟨"OneCoinModel", "areTwo", "(II)Z"⟩, 62), (⟨"OneCoinModel", "isPerson", "(I)Z"⟩, 62), (⟨"OneCoinModel", "rests", "(I)V"⟩, 62), (⟨"OneCoinModel", "types", "(I)V"⟩, 62), (⟨"OneCoinModel", "readsRule", "()Z"⟩, 62), (⟨"OneCoinModel", "here", "()I"⟩, 62), (⟨"OneCoinModel", "wrongAt", "(II)Z"⟩, 62)]
theorem lw_r2 : ∀ q ∈ lw_privs_2, lw_okq q := List.forall_mem_cons.mpr ⟨lw_p16, List.forall_mem_cons.mpr ⟨lw_p17, List.forall_mem_cons.mpr ⟨lw_p18, List.forall_mem_cons.mpr ⟨lw_p19, List.forall_mem_cons.mpr ⟨lw_p20, List.forall_mem_cons.mpr ⟨lw_p21, List.forall_mem_cons.mpr ⟨lw_p22, List.forall_mem_cons.mpr ⟨lw_p23, List.forall_mem_cons.mpr ⟨lw_p24, List.forall_mem_cons.mpr ⟨lw_p25, List.forall_mem_cons.mpr ⟨lw_p26, List.forall_mem_cons.mpr ⟨lw_p27, List.forall_mem_cons.mpr ⟨lw_p28, List.forall_mem_cons.mpr ⟨lw_p29, List.forall_mem_cons.mpr ⟨lw_p30, List.forall_mem_cons.mpr ⟨lw_p31, fun _ h => absurd h List.not_mem_nil⟩⟩⟩⟩⟩⟩⟩⟩⟩⟩⟩⟩⟩⟩⟩⟩
theorem lw_p32 : lw_okq (⟨"OneCoinModel", "readsSum", "()Z"⟩, 62) := ⟨⟨by decide +kernel, by decide +kernel⟩, List.mem_of_getElem? (i := 997) (by decide +kernel), List.mem_of_getElem? (i := 1245) (by decide +kernel), List.mem_of_getElem? (i := 1246) (by decide +kernel)⟩
theorem lw_p33 : lw_okq (⟨"OneCoinModel", "readsFactor", "()Z"⟩, 62) := ⟨⟨by decide +kernel, by decide +kernel⟩, List.mem_of_getElem? (i := 997) (by decide +kernel), List.mem_of_getElem? (i := 1249) (by decide +kernel), List.mem_of_getElem? (i := 1250) (by decide +kernel)⟩
theorem lw_p34 : lw_okq (⟨"OneCoinModel", "opens", "(I)Z"⟩, 62) := ⟨⟨by decide +kernel, by decide +kernel⟩, List.mem_of_getElem? (i := 997) (by decide +kernel), List.mem_of_getElem? (i := 1253) (by decide +kernel), List.mem_of_getElem? (i := 1254) (by decide +kernel)⟩
theorem lw_p35 : lw_okq (⟨"OneCoinModel", "isDigit", "()Z"⟩, 62) := ⟨⟨by decide +kernel, by decide +kernel⟩, List.mem_of_getElem? (i := 997) (by decide +kernel), List.mem_of_getElem? (i := 1258) (by decide +kernel), List.mem_of_getElem? (i := 1259) (by decide +kernel)⟩
theorem lw_p36 : lw_okq (⟨"OneCoinModel", "readsNumber", "()Z"⟩, 62) := ⟨⟨by decide +kernel, by decide +kernel⟩, List.mem_of_getElem? (i := 997) (by decide +kernel), List.mem_of_getElem? (i := 1262) (by decide +kernel), List.mem_of_getElem? (i := 1263) (by decide +kernel)⟩
theorem lw_p37 : lw_okq (⟨"OneCoinModel", "notes", "(II)V"⟩, 62) := ⟨⟨by decide +kernel, by decide +kernel⟩, List.mem_of_getElem? (i := 997) (by decide +kernel), List.mem_of_getElem? (i := 1266) (by decide +kernel), List.mem_of_getElem? (i := 1267) (by decide +kernel)⟩
theorem lw_p38 : lw_okq (⟨"OneCoinModel", "closesSums", "(Z)V"⟩, 62) := ⟨⟨by decide +kernel, by decide +kernel⟩, List.mem_of_getElem? (i := 997) (by decide +kernel), List.mem_of_getElem? (i := 1276) (by decide +kernel), List.mem_of_getElem? (i := 1277) (by decide +kernel)⟩
theorem lw_p39 : lw_okq (⟨"OneCoinModel", "waitTop", "()I"⟩, 62) := ⟨⟨by decide +kernel, by decide +kernel⟩, List.mem_of_getElem? (i := 997) (by decide +kernel), List.mem_of_getElem? (i := 1280) (by decide +kernel), List.mem_of_getElem? (i := 1281) (by decide +kernel)⟩
theorem lw_p40 : lw_okq (⟨"OneCoinModel", "hasOpenSum", "(I)Z"⟩, 62) := ⟨⟨by decide +kernel, by decide +kernel⟩, List.mem_of_getElem? (i := 997) (by decide +kernel), List.mem_of_getElem? (i := 1284) (by decide +kernel), List.mem_of_getElem? (i := 1285) (by decide +kernel)⟩
theorem lw_p41 : lw_okq (⟨"OneCoinModel", "readsCondition", "()Z"⟩, 62) := ⟨⟨by decide +kernel, by decide +kernel⟩, List.mem_of_getElem? (i := 997) (by decide +kernel), List.mem_of_getElem? (i := 1288) (by decide +kernel), List.mem_of_getElem? (i := 1289) (by decide +kernel)⟩
theorem lw_p42 : lw_okq (⟨"OneCoinModel", "readsCompared", "()Z"⟩, 62) := ⟨⟨by decide +kernel, by decide +kernel⟩, List.mem_of_getElem? (i := 997) (by decide +kernel), List.mem_of_getElem? (i := 1292) (by decide +kernel), List.mem_of_getElem? (i := 1293) (by decide +kernel)⟩
theorem lw_p43 : lw_okq (⟨"OneCoinModel", "endsPiece", "()V"⟩, 62) := ⟨⟨by decide +kernel, by decide +kernel⟩, List.mem_of_getElem? (i := 997) (by decide +kernel), List.mem_of_getElem? (i := 1296) (by decide +kernel), List.mem_of_getElem? (i := 1297) (by decide +kernel)⟩
theorem lw_p44 : lw_okq (⟨"OneCoinModel", "lands", "(Z)V"⟩, 62) := ⟨⟨by decide +kernel, by decide +kernel⟩, List.mem_of_getElem? (i := 997) (by decide +kernel), List.mem_of_getElem? (i := 1300) (by decide +kernel), List.mem_of_getElem? (i := 1301) (by decide +kernel)⟩
theorem lw_p45 : lw_okq (⟨"OneCoinModel", "jumps", "(I)V"⟩, 62) := ⟨⟨by decide +kernel, by decide +kernel⟩, List.mem_of_getElem? (i := 997) (by decide +kernel), List.mem_of_getElem? (i := 1304) (by decide +kernel), List.mem_of_getElem? (i := 1305) (by decide +kernel)⟩
theorem lw_p46 : lw_okq (⟨"OneCoinModel", "takes", "(I)Z"⟩, 62) := ⟨⟨by decide +kernel, by decide +kernel⟩, List.mem_of_getElem? (i := 997) (by decide +kernel), List.mem_of_getElem? (i := 1308) (by decide +kernel), List.mem_of_getElem? (i := 1309) (by decide +kernel)⟩
theorem lw_p47 : lw_okq (⟨"OneCoinModel", "readsLine", "()Z"⟩, 62) := ⟨⟨by decide +kernel, by decide +kernel⟩, List.mem_of_getElem? (i := 997) (by decide +kernel), List.mem_of_getElem? (i := 1316) (by decide +kernel), List.mem_of_getElem? (i := 1317) (by decide +kernel)⟩
def lw_privs_3 : List (MethodName × Nat) := [(⟨"OneCoinModel", "readsSum", "()Z"⟩, 62), (⟨"OneCoinModel", "readsFactor", "()Z"⟩, 62), (⟨"OneCoinModel", "opens", "(I)Z"⟩, 62), (⟨"OneCoinModel", "isDigit", "()Z"⟩, 62), (⟨"OneCoinModel", "readsNumber", "()Z"⟩, 62), (⟨"OneCoinModel", "notes", "(II)V"⟩, 62), (⟨"OneCoinModel", "closesSums", "(Z)V"⟩, 62), (⟨"OneCoinModel", "waitTop", "()I"⟩, 62), (⟨"OneCoinModel", "hasOpenSum", "(I)Z"⟩, 62), (⟨"OneCoinModel", "readsCondition", "()Z"⟩, 62), (⟨"OneCoinModel", "readsCompared", "()Z"⟩, 62), (⟨"OneCoinModel", "endsPiece", "()V"⟩, 62), (⟨"OneCoinModel", "lands", "(Z)V"⟩, 62), (⟨"OneCoinModel", "jumps", "(I)V"⟩, 62), (⟨"OneCoinModel", "takes", "(I)Z"⟩, 62), (⟨"OneCoinModel", "readsLine", "()Z"⟩, 62)]
theorem lw_r3 : ∀ q ∈ lw_privs_3, lw_okq q := List.forall_mem_cons.mpr ⟨lw_p32, List.forall_mem_cons.mpr ⟨lw_p33, List.forall_mem_cons.mpr ⟨lw_p34, List.forall_mem_cons.mpr ⟨lw_p35, List.forall_mem_cons.mpr ⟨lw_p36, List.forall_mem_cons.mpr ⟨lw_p37, List.forall_mem_cons.mpr ⟨lw_p38, List.forall_mem_cons.mpr ⟨lw_p39, List.forall_mem_cons.mpr ⟨lw_p40, List.forall_mem_cons.mpr ⟨lw_p41, List.forall_mem_cons.mpr ⟨lw_p42, List.forall_mem_cons.mpr ⟨lw_p43, List.forall_mem_cons.mpr ⟨lw_p44, List.forall_mem_cons.mpr ⟨lw_p45, List.forall_mem_cons.mpr ⟨lw_p46, List.forall_mem_cons.mpr ⟨lw_p47, fun _ h => absurd h List.not_mem_nil⟩⟩⟩⟩⟩⟩⟩⟩⟩⟩⟩⟩⟩⟩⟩⟩
theorem lw_p48 : lw_okq (⟨"OneCoinModel", "readsPerson", "(Z)Z"⟩, 62) := ⟨⟨by decide +kernel, by decide +kernel⟩, List.mem_of_getElem? (i := 997) (by decide +kernel), List.mem_of_getElem? (i := 1320) (by decide +kernel), List.mem_of_getElem? (i := 1321) (by decide +kernel)⟩
theorem lw_p49 : lw_okq (⟨"OneCoinModel", "owedInAll", "()I"⟩, 62) := ⟨⟨by decide +kernel, by decide +kernel⟩, List.mem_of_getElem? (i := 997) (by decide +kernel), List.mem_of_getElem? (i := 1327) (by decide +kernel), List.mem_of_getElem? (i := 1328) (by decide +kernel)⟩
theorem lw_p50 : lw_okq (⟨"OneCoinModel", "owesAll", "(I)I"⟩, 62) := ⟨⟨by decide +kernel, by decide +kernel⟩, List.mem_of_getElem? (i := 997) (by decide +kernel), List.mem_of_getElem? (i := 1331) (by decide +kernel), List.mem_of_getElem? (i := 1332) (by decide +kernel)⟩
theorem lw_p51 : lw_okq (⟨"OneCoinModel", "debtOf", "(II)I"⟩, 62) := ⟨⟨by decide +kernel, by decide +kernel⟩, List.mem_of_getElem? (i := 997) (by decide +kernel), List.mem_of_getElem? (i := 1335) (by decide +kernel), List.mem_of_getElem? (i := 1336) (by decide +kernel)⟩
theorem lw_p52 : lw_okq (⟨"OneCoinModel", "hoursGo", "(I)V"⟩, 62) := ⟨⟨by decide +kernel, by decide +kernel⟩, List.mem_of_getElem? (i := 997) (by decide +kernel), List.mem_of_getElem? (i := 1343) (by decide +kernel), List.mem_of_getElem? (i := 1344) (by decide +kernel)⟩
theorem lw_p53 : lw_okq (⟨"OneCoinModel", "begins", "()V"⟩, 62) := ⟨⟨by decide +kernel, by decide +kernel⟩, List.mem_of_getElem? (i := 997) (by decide +kernel), List.mem_of_getElem? (i := 1347) (by decide +kernel), List.mem_of_getElem? (i := 1348) (by decide +kernel)⟩
theorem lw_p54 : lw_okq (⟨"OneCoinModel", "hourGoes", "()V"⟩, 62) := ⟨⟨by decide +kernel, by decide +kernel⟩, List.mem_of_getElem? (i := 997) (by decide +kernel), List.mem_of_getElem? (i := 1351) (by decide +kernel), List.mem_of_getElem? (i := 1352) (by decide +kernel)⟩
theorem lw_p55 : lw_okq (⟨"OneCoinModel", "dayBegins", "()V"⟩, 62) := ⟨⟨by decide +kernel, by decide +kernel⟩, List.mem_of_getElem? (i := 997) (by decide +kernel), List.mem_of_getElem? (i := 1355) (by decide +kernel), List.mem_of_getElem? (i := 1356) (by decide +kernel)⟩
theorem lw_p56 : lw_okq (⟨"OneCoinModel", "rainBy", "()I"⟩, 62) := ⟨⟨by decide +kernel, by decide +kernel⟩, List.mem_of_getElem? (i := 997) (by decide +kernel), List.mem_of_getElem? (i := 1360) (by decide +kernel), List.mem_of_getElem? (i := 1361) (by decide +kernel)⟩
theorem lw_p57 : lw_okq (⟨"OneCoinModel", "feels", "(I)V"⟩, 62) := ⟨⟨by decide +kernel, by decide +kernel⟩, List.mem_of_getElem? (i := 997) (by decide +kernel), List.mem_of_getElem? (i := 1364) (by decide +kernel), List.mem_of_getElem? (i := 1365) (by decide +kernel)⟩
theorem lw_p58 : lw_okq (⟨"OneCoinModel", "byLaw", "(II)I"⟩, 62) := ⟨⟨by decide +kernel, by decide +kernel⟩, List.mem_of_getElem? (i := 997) (by decide +kernel), List.mem_of_getElem? (i := 1368) (by decide +kernel), List.mem_of_getElem? (i := 1369) (by decide +kernel)⟩
theorem lw_p59 : lw_okq (⟨"OneCoinModel", "comesTo", "(II)I"⟩, 62) := ⟨⟨by decide +kernel, by decide +kernel⟩, List.mem_of_getElem? (i := 997) (by decide +kernel), List.mem_of_getElem? (i := 1372) (by decide +kernel), List.mem_of_getElem? (i := 1373) (by decide +kernel)⟩
theorem lw_p60 : lw_okq (⟨"OneCoinModel", "feelsTwo", "(II)V"⟩, 62) := ⟨⟨by decide +kernel, by decide +kernel⟩, List.mem_of_getElem? (i := 997) (by decide +kernel), List.mem_of_getElem? (i := 1379) (by decide +kernel), List.mem_of_getElem? (i := 1380) (by decide +kernel)⟩
theorem lw_p61 : lw_okq (⟨"OneCoinModel", "wayOf", "(II)I"⟩, 62) := ⟨⟨by decide +kernel, by decide +kernel⟩, List.mem_of_getElem? (i := 997) (by decide +kernel), List.mem_of_getElem? (i := 1383) (by decide +kernel), List.mem_of_getElem? (i := 1384) (by decide +kernel)⟩
theorem lw_p62 : lw_okq (⟨"OneCoinModel", "chalksOf", "(I)I"⟩, 62) := ⟨⟨by decide +kernel, by decide +kernel⟩, List.mem_of_getElem? (i := 997) (by decide +kernel), List.mem_of_getElem? (i := 1393) (by decide +kernel), List.mem_of_getElem? (i := 1394) (by decide +kernel)⟩
theorem lw_p63 : lw_okq (⟨"OneCoinModel", "pays", "(II)V"⟩, 62) := ⟨⟨by decide +kernel, by decide +kernel⟩, List.mem_of_getElem? (i := 997) (by decide +kernel), List.mem_of_getElem? (i := 1397) (by decide +kernel), List.mem_of_getElem? (i := 1398) (by decide +kernel)⟩
def lw_privs_4 : List (MethodName × Nat) := [(⟨"OneCoinModel", "readsPerson", "(Z)Z"⟩, 62), (⟨"OneCoinModel", "owedInAll", "()I"⟩, 62), (⟨"OneCoinModel", "owesAll", "(I)I"⟩, 62), (⟨"OneCoinModel", "debtOf", "(II)I"⟩, 62), (⟨"OneCoinModel", "hoursGo", "(I)V"⟩, 62), (⟨"OneCoinModel", "begins", "()V"⟩, 62), (⟨"OneCoinModel", "hourGoes", "()V"⟩, 62), (⟨"OneCoinModel", "dayBegins", "()V"⟩, 62), (⟨"OneCoinModel", "rainBy", "()I"⟩, 62), (⟨"OneCoinModel", "feels", "(I)V"⟩, 62), (⟨"OneCoinModel", "byLaw", "(II)I"⟩, 62), (⟨"OneCoinModel", "comesTo", "(II)I"⟩, 62), (⟨"OneCoinModel", "feelsTwo", "(II)V"⟩, 62), (⟨"OneCoinModel", "wayOf", "(II)I"⟩, 62), (⟨"OneCoinModel", "chalksOf", "(I)I"⟩, 62), (⟨"OneCoinModel", "pays", "(II)V"⟩, 62)]
theorem lw_r4 : ∀ q ∈ lw_privs_4, lw_okq q := List.forall_mem_cons.mpr ⟨lw_p48, List.forall_mem_cons.mpr ⟨lw_p49, List.forall_mem_cons.mpr ⟨lw_p50, List.forall_mem_cons.mpr ⟨lw_p51, List.forall_mem_cons.mpr ⟨lw_p52, List.forall_mem_cons.mpr ⟨lw_p53, List.forall_mem_cons.mpr ⟨lw_p54, List.forall_mem_cons.mpr ⟨lw_p55, List.forall_mem_cons.mpr ⟨lw_p56, List.forall_mem_cons.mpr ⟨lw_p57, List.forall_mem_cons.mpr ⟨lw_p58, List.forall_mem_cons.mpr ⟨lw_p59, List.forall_mem_cons.mpr ⟨lw_p60, List.forall_mem_cons.mpr ⟨lw_p61, List.forall_mem_cons.mpr ⟨lw_p62, List.forall_mem_cons.mpr ⟨lw_p63, fun _ h => absurd h List.not_mem_nil⟩⟩⟩⟩⟩⟩⟩⟩⟩⟩⟩⟩⟩⟩⟩⟩
theorem lw_p64 : lw_okq (⟨"OneCoinModel", "chalks", "(I)V"⟩, 62) := ⟨⟨by decide +kernel, by decide +kernel⟩, List.mem_of_getElem? (i := 997) (by decide +kernel), List.mem_of_getElem? (i := 1401) (by decide +kernel), List.mem_of_getElem? (i := 1402) (by decide +kernel)⟩
theorem lw_p65 : lw_okq (⟨"OneCoinModel", "holds", "(I)V"⟩, 62) := ⟨⟨by decide +kernel, by decide +kernel⟩, List.mem_of_getElem? (i := 997) (by decide +kernel), List.mem_of_getElem? (i := 1405) (by decide +kernel), List.mem_of_getElem? (i := 1406) (by decide +kernel)⟩
theorem lw_p66 : lw_okq (⟨"OneCoinModel", "nextPaid", "(I)I"⟩, 62) := ⟨⟨by decide +kernel, by decide +kernel⟩, List.mem_of_getElem? (i := 997) (by decide +kernel), List.mem_of_getElem? (i := 1409) (by decide +kernel), List.mem_of_getElem? (i := 1410) (by decide +kernel)⟩
theorem lw_p67 : lw_okq (⟨"OneCoinModel", "likesBy", "(II)I"⟩, 62) := ⟨⟨by decide +kernel, by decide +kernel⟩, List.mem_of_getElem? (i := 997) (by decide +kernel), List.mem_of_getElem? (i := 1413) (by decide +kernel), List.mem_of_getElem? (i := 1414) (by decide +kernel)⟩
theorem lw_p68 : lw_okq (⟨"OneCoinModel", "holdsAny", "(I)Z"⟩, 62) := ⟨⟨by decide +kernel, by decide +kernel⟩, List.mem_of_getElem? (i := 997) (by decide +kernel), List.mem_of_getElem? (i := 1417) (by decide +kernel), List.mem_of_getElem? (i := 1418) (by decide +kernel)⟩
theorem lw_p69 : lw_okq (⟨"OneCoinModel", "setsOut", "(II)V"⟩, 62) := ⟨⟨by decide +kernel, by decide +kernel⟩, List.mem_of_getElem? (i := 997) (by decide +kernel), List.mem_of_getElem? (i := 1421) (by decide +kernel), List.mem_of_getElem? (i := 1422) (by decide +kernel)⟩
theorem lw_p70 : lw_okq (⟨"OneCoinModel", "getsAll", "(I)I"⟩, 62) := ⟨⟨by decide +kernel, by decide +kernel⟩, List.mem_of_getElem? (i := 997) (by decide +kernel), List.mem_of_getElem? (i := 1436) (by decide +kernel), List.mem_of_getElem? (i := 1437) (by decide +kernel)⟩
theorem lw_p71 : lw_okq (⟨"OneCoinModel", "readsRoute", "(I)I"⟩, 62) := ⟨⟨by decide +kernel, by decide +kernel⟩, List.mem_of_getElem? (i := 997) (by decide +kernel), List.mem_of_getElem? (i := 1452) (by decide +kernel), List.mem_of_getElem? (i := 1453) (by decide +kernel)⟩
theorem lw_p72 : lw_okq (⟨"OneCoinModel", "readsItem", "()Z"⟩, 62) := ⟨⟨by decide +kernel, by decide +kernel⟩, List.mem_of_getElem? (i := 997) (by decide +kernel), List.mem_of_getElem? (i := 1456) (by decide +kernel), List.mem_of_getElem? (i := 1457) (by decide +kernel)⟩
theorem lw_p73 : lw_okq (⟨"OneCoinModel", "readsTimes", "()V"⟩, 62) := ⟨⟨by decide +kernel, by decide +kernel⟩, List.mem_of_getElem? (i := 997) (by decide +kernel), List.mem_of_getElem? (i := 1460) (by decide +kernel), List.mem_of_getElem? (i := 1461) (by decide +kernel)⟩
theorem lw_p74 : lw_okq (⟨"OneCoinModel", "repeats", "(III)Z"⟩, 62) := ⟨⟨by decide +kernel, by decide +kernel⟩, List.mem_of_getElem? (i := 997) (by decide +kernel), List.mem_of_getElem? (i := 1464) (by decide +kernel), List.mem_of_getElem? (i := 1465) (by decide +kernel)⟩
theorem lw_p75 : lw_okq (⟨"OneCoinModel", "walksRoute", "()V"⟩, 62) := ⟨⟨by decide +kernel, by decide +kernel⟩, List.mem_of_getElem? (i := 997) (by decide +kernel), List.mem_of_getElem? (i := 1468) (by decide +kernel), List.mem_of_getElem? (i := 1469) (by decide +kernel)⟩
theorem lw_p76 : lw_okq (⟨"OneCoinModel", "laysTour", "(II)Z"⟩, 62) := ⟨⟨by decide +kernel, by decide +kernel⟩, List.mem_of_getElem? (i := 997) (by decide +kernel), List.mem_of_getElem? (i := 1480) (by decide +kernel), List.mem_of_getElem? (i := 1481) (by decide +kernel)⟩
theorem lw_p77 : lw_okq (⟨"OneCoinModel", "isRow", "(I)Z"⟩, 62) := ⟨⟨by decide +kernel, by decide +kernel⟩, List.mem_of_getElem? (i := 997) (by decide +kernel), List.mem_of_getElem? (i := 1484) (by decide +kernel), List.mem_of_getElem? (i := 1485) (by decide +kernel)⟩
theorem lw_p78 : lw_okq (⟨"OneCoinModel", "reachLeft", "(I)I"⟩, 62) := ⟨⟨by decide +kernel, by decide +kernel⟩, List.mem_of_getElem? (i := 997) (by decide +kernel), List.mem_of_getElem? (i := 1488) (by decide +kernel), List.mem_of_getElem? (i := 1489) (by decide +kernel)⟩
theorem lw_p79 : lw_okq (⟨"OneCoinModel", "leftOf", "(II)I"⟩, 62) := ⟨⟨by decide +kernel, by decide +kernel⟩, List.mem_of_getElem? (i := 997) (by decide +kernel), List.mem_of_getElem? (i := 1492) (by decide +kernel), List.mem_of_getElem? (i := 1493) (by decide +kernel)⟩
def lw_privs_5 : List (MethodName × Nat) := [(⟨"OneCoinModel", "chalks", "(I)V"⟩, 62), (⟨"OneCoinModel", "holds", "(I)V"⟩, 62), (⟨"OneCoinModel", "nextPaid", "(I)I"⟩, 62), (⟨"OneCoinModel", "likesBy", "(II)I"⟩, 62), (⟨"OneCoinModel", "holdsAny", "(I)Z"⟩, 62), (⟨"OneCoinModel", "setsOut", "(II)V"⟩, 62), (⟨"OneCoinModel", "getsAll", "(I)I"⟩, 62), (⟨"OneCoinModel", "readsRoute", "(I)I"⟩, 62), (⟨"OneCoinModel", "readsItem", "()Z"⟩, 62), (⟨"OneCoinModel", "readsTimes", "()V"⟩, 62), (⟨"OneCoinModel", "repeats", "(III)Z"⟩, 62), (⟨"OneCoinModel", "walksRoute", "()V"⟩, 62), (⟨"OneCoinModel", "laysTour", "(II)Z"⟩, 62), (⟨"OneCoinModel", "isRow", "(I)Z"⟩, 62), (⟨"OneCoinModel", "reachLeft", "(I)I"⟩, 62), (⟨"OneCoinModel", "leftOf", "(II)I"⟩, 62)]
theorem lw_r5 : ∀ q ∈ lw_privs_5, lw_okq q := List.forall_mem_cons.mpr ⟨lw_p64, List.forall_mem_cons.mpr ⟨lw_p65, List.forall_mem_cons.mpr ⟨lw_p66, List.forall_mem_cons.mpr ⟨lw_p67, List.forall_mem_cons.mpr ⟨lw_p68, List.forall_mem_cons.mpr ⟨lw_p69, List.forall_mem_cons.mpr ⟨lw_p70, List.forall_mem_cons.mpr ⟨lw_p71, List.forall_mem_cons.mpr ⟨lw_p72, List.forall_mem_cons.mpr ⟨lw_p73, List.forall_mem_cons.mpr ⟨lw_p74, List.forall_mem_cons.mpr ⟨lw_p75, List.forall_mem_cons.mpr ⟨lw_p76, List.forall_mem_cons.mpr ⟨lw_p77, List.forall_mem_cons.mpr ⟨lw_p78, List.forall_mem_cons.mpr ⟨lw_p79, fun _ h => absurd h List.not_mem_nil⟩⟩⟩⟩⟩⟩⟩⟩⟩⟩⟩⟩⟩⟩⟩⟩
theorem lw_p80 : lw_okq (⟨"OneCoinModel", "canGo", "(II)Z"⟩, 62) := ⟨⟨by decide +kernel, by decide +kernel⟩, List.mem_of_getElem? (i := 997) (by decide +kernel), List.mem_of_getElem? (i := 1496) (by decide +kernel), List.mem_of_getElem? (i := 1497) (by decide +kernel)⟩
theorem lw_p81 : lw_okq (⟨"OneCoinModel", "laysCoins", "(I)Z"⟩, 62) := ⟨⟨by decide +kernel, by decide +kernel⟩, List.mem_of_getElem? (i := 997) (by decide +kernel), List.mem_of_getElem? (i := 1504) (by decide +kernel), List.mem_of_getElem? (i := 1505) (by decide +kernel)⟩
theorem lw_p82 : lw_okq (⟨"OneCoinModel", "laysMore", "()V"⟩, 62) := ⟨⟨by decide +kernel, by decide +kernel⟩, List.mem_of_getElem? (i := 997) (by decide +kernel), List.mem_of_getElem? (i := 1508) (by decide +kernel), List.mem_of_getElem? (i := 1509) (by decide +kernel)⟩
theorem lw_p83 : lw_okq (⟨"OneCoinModel", "bestCoin", "(II)I"⟩, 62) := ⟨⟨by decide +kernel, by decide +kernel⟩, List.mem_of_getElem? (i := 997) (by decide +kernel), List.mem_of_getElem? (i := 1512) (by decide +kernel), List.mem_of_getElem? (i := 1513) (by decide +kernel)⟩
theorem lw_p84 : lw_okq (⟨"OneCoinModel", "laysBack", "()V"⟩, 62) := ⟨⟨by decide +kernel, by decide +kernel⟩, List.mem_of_getElem? (i := 997) (by decide +kernel), List.mem_of_getElem? (i := 1520) (by decide +kernel), List.mem_of_getElem? (i := 1521) (by decide +kernel)⟩
theorem lw_p85 : lw_okq (⟨"OneCoinModel", "laysLacks", "()V"⟩, 62) := ⟨⟨by decide +kernel, by decide +kernel⟩, List.mem_of_getElem? (i := 997) (by decide +kernel), List.mem_of_getElem? (i := 1529) (by decide +kernel), List.mem_of_getElem? (i := 1530) (by decide +kernel)⟩
theorem lw_p86 : lw_okq (⟨"OneCoinModel", "setOffOf", "(I)I"⟩, 62) := ⟨⟨by decide +kernel, by decide +kernel⟩, List.mem_of_getElem? (i := 997) (by decide +kernel), List.mem_of_getElem? (i := 1533) (by decide +kernel), List.mem_of_getElem? (i := 1534) (by decide +kernel)⟩
theorem lw_p87 : lw_okq (⟨"OneCoinModel", "readsRow", "(II)Z"⟩, 62) := ⟨⟨by decide +kernel, by decide +kernel⟩, List.mem_of_getElem? (i := 997) (by decide +kernel), List.mem_of_getElem? (i := 1537) (by decide +kernel), List.mem_of_getElem? (i := 1538) (by decide +kernel)⟩
theorem lw_p88 : lw_okq (⟨"OneCoinModel", "hoursOfRow", "(I)I"⟩, 62) := ⟨⟨by decide +kernel, by decide +kernel⟩, List.mem_of_getElem? (i := 997) (by decide +kernel), List.mem_of_getElem? (i := 1541) (by decide +kernel), List.mem_of_getElem? (i := 1542) (by decide +kernel)⟩
theorem lw_p89 : lw_okq (⟨"OneCoinModel", "isEven", "(I)Z"⟩, 62) := ⟨⟨by decide +kernel, by decide +kernel⟩, List.mem_of_getElem? (i := 997) (by decide +kernel), List.mem_of_getElem? (i := 1552) (by decide +kernel), List.mem_of_getElem? (i := 1553) (by decide +kernel)⟩
theorem lw_p90 : lw_okq (⟨"OneCoinModel", "laysGroups", "()V"⟩, 62) := ⟨⟨by decide +kernel, by decide +kernel⟩, List.mem_of_getElem? (i := 997) (by decide +kernel), List.mem_of_getElem? (i := 1565) (by decide +kernel), List.mem_of_getElem? (i := 1566) (by decide +kernel)⟩
theorem lw_p91 : lw_okq (⟨"OneCoinModel", "ringOf", "(I)I"⟩, 62) := ⟨⟨by decide +kernel, by decide +kernel⟩, List.mem_of_getElem? (i := 997) (by decide +kernel), List.mem_of_getElem? (i := 1573) (by decide +kernel), List.mem_of_getElem? (i := 1574) (by decide +kernel)⟩
theorem lw_p92 : lw_okq (⟨"OneCoinModel", "reachOf", "(I)I"⟩, 62) := ⟨⟨by decide +kernel, by decide +kernel⟩, List.mem_of_getElem? (i := 997) (by decide +kernel), List.mem_of_getElem? (i := 1577) (by decide +kernel), List.mem_of_getElem? (i := 1578) (by decide +kernel)⟩
theorem lw_p93 : lw_okq (⟨"OneCoinModel", "hoursOf", "(I)I"⟩, 62) := ⟨⟨by decide +kernel, by decide +kernel⟩, List.mem_of_getElem? (i := 997) (by decide +kernel), List.mem_of_getElem? (i := 1605) (by decide +kernel), List.mem_of_getElem? (i := 1606) (by decide +kernel)⟩
theorem lw_p94 : lw_okq (⟨"OneCoinModel", "isRowOf", "(II)Z"⟩, 62) := ⟨⟨by decide +kernel, by decide +kernel⟩, List.mem_of_getElem? (i := 997) (by decide +kernel), List.mem_of_getElem? (i := 1609) (by decide +kernel), List.mem_of_getElem? (i := 1610) (by decide +kernel)⟩
def lw_privs_6 : List (MethodName × Nat) := [(⟨"OneCoinModel", "canGo", "(II)Z"⟩, 62), (⟨"OneCoinModel", "laysCoins", "(I)Z"⟩, 62), (⟨"OneCoinModel", "laysMore", "()V"⟩, 62), (⟨"OneCoinModel", "bestCoin", "(II)I"⟩, 62), (⟨"OneCoinModel", "laysBack", "()V"⟩, 62), (⟨"OneCoinModel", "laysLacks", "()V"⟩, 62), (⟨"OneCoinModel", "setOffOf", "(I)I"⟩, 62), (⟨"OneCoinModel", "readsRow", "(II)Z"⟩, 62), (⟨"OneCoinModel", "hoursOfRow", "(I)I"⟩, 62), (⟨"OneCoinModel", "isEven", "(I)Z"⟩, 62), (⟨"OneCoinModel", "laysGroups", "()V"⟩, 62), (⟨"OneCoinModel", "ringOf", "(I)I"⟩, 62), (⟨"OneCoinModel", "reachOf", "(I)I"⟩, 62), (⟨"OneCoinModel", "hoursOf", "(I)I"⟩, 62), (⟨"OneCoinModel", "isRowOf", "(II)Z"⟩, 62)]
theorem lw_r6 : ∀ q ∈ lw_privs_6, lw_okq q := List.forall_mem_cons.mpr ⟨lw_p80, List.forall_mem_cons.mpr ⟨lw_p81, List.forall_mem_cons.mpr ⟨lw_p82, List.forall_mem_cons.mpr ⟨lw_p83, List.forall_mem_cons.mpr ⟨lw_p84, List.forall_mem_cons.mpr ⟨lw_p85, List.forall_mem_cons.mpr ⟨lw_p86, List.forall_mem_cons.mpr ⟨lw_p87, List.forall_mem_cons.mpr ⟨lw_p88, List.forall_mem_cons.mpr ⟨lw_p89, List.forall_mem_cons.mpr ⟨lw_p90, List.forall_mem_cons.mpr ⟨lw_p91, List.forall_mem_cons.mpr ⟨lw_p92, List.forall_mem_cons.mpr ⟨lw_p93, List.forall_mem_cons.mpr ⟨lw_p94, fun _ h => absurd h List.not_mem_nil⟩⟩⟩⟩⟩⟩⟩⟩⟩⟩⟩⟩⟩⟩⟩
def lw_privs : List (MethodName × Nat) := lw_privs_1 ++ (lw_privs_2 ++ (lw_privs_3 ++ (lw_privs_4 ++ (lw_privs_5 ++ (lw_privs_6)))))
def lw_tbl : List Cond := k2_sels lw_privs ++ tables_1
theorem lw_privs_ok : ∀ q ∈ lw_privs, lw_okq q := by
  show ∀ q ∈ lw_privs_1 ++ (lw_privs_2 ++ (lw_privs_3 ++ (lw_privs_4 ++ (lw_privs_5 ++ (lw_privs_6))))), lw_okq q
  exact List.forall_mem_append.mpr ⟨lw_r1, List.forall_mem_append.mpr ⟨lw_r2, List.forall_mem_append.mpr ⟨lw_r3, List.forall_mem_append.mpr ⟨lw_r4, List.forall_mem_append.mpr ⟨lw_r5, lw_r6⟩⟩⟩⟩⟩
-- ===== end of PART A; then your names; then what follows =====
/-- the words that stay true while the machine runs -/
def oT : List Cond := lw_tbl.filter goodWord
theorem oT_good {ws : List Cond} (h : ∀ w ∈ ws, w ∈ oT) : GoodIn oT ws := fun w hw => ⟨h w hw, good_of_word (List.mem_filter.mp (h w hw)).2⟩
theorem oT_mem {w : Cond} (i : Nat) (h : lw_tbl[i]? = some w) (g : goodWord w = true) : w ∈ oT := List.mem_filter.mpr ⟨List.mem_of_getElem? h, g⟩
theorem oT_hts {args : Array Value} {s : State} (h : ∀ w ∈ lw_tbl, w.before args s = true) : ∀ w ∈ oT, w.before args s = true := fun w hw => h w (List.mem_filter.mp hw).1
end
section
/-! mathematical integers for ints of 32 bits -/
def inR (a : Int) : Prop := -2147483648 ≤ a ∧ a < 2147483648
def w32 (a : Int) : Int := (a + 2147483648) % 4294967296 - 2147483648
theorem inR_w32 (a : Int) : inR (w32 a) := by unfold inR w32; omega
theorem w32_id {a : Int} (h : inR a) : w32 a = a := by unfold inR at h; unfold w32; omega
theorem w32_of {a : Int} (h1 : -2147483648 ≤ a) (h2 : a < 2147483648) : w32 a = a := w32_id ⟨h1, h2⟩
theorem inR_toInt (x : Int32) : inR x.toInt := by
  have h1 := x.toInt_lt
  have h2 := x.le_toInt
  unfold inR; omega
theorem oc_toInt {a : Int} (h : inR a) : (Int32.ofInt a).toInt = a := Int32.toInt_ofInt_of_le (by have := h.1; omega) (by have := h.2; omega)
theorem oc_bmod (a : Int) : a.bmod (2 ^ 32) = w32 a := by
  rw [Int.bmod_def]
  unfold w32
  omega
theorem oc_ofInt_w32 (a : Int) : Int32.ofInt (w32 a) = Int32.ofInt a := by
  apply Int32.toInt_inj.1
  rw [oc_toInt (inR_w32 a), Int32.toInt_ofInt]
  exact (oc_bmod a).symm
theorem oc_add (a b : Int) : Int32.ofInt a + Int32.ofInt b = Int32.ofInt (w32 (a + b)) := by rw [oc_ofInt_w32, Int32.ofInt_add]
theorem oc_sub (a b : Int) : Int32.ofInt a - Int32.ofInt b = Int32.ofInt (w32 (a - b)) := by rw [oc_ofInt_w32, Int32.ofInt_sub]
theorem oc_mul (a b : Int) : Int32.ofInt a * Int32.ofInt b = Int32.ofInt (w32 (a * b)) := by rw [oc_ofInt_w32, Int32.ofInt_mul]
theorem oc_neg (a : Int) : -Int32.ofInt a = Int32.ofInt (w32 (-a)) := by rw [oc_ofInt_w32, Int32.ofInt_neg]
theorem oc_lt {a b : Int} (ha : inR a) (hb : inR b) : Int32.ofInt a < Int32.ofInt b ↔ a < b := by rw [Int32.lt_iff_toInt_lt, oc_toInt ha, oc_toInt hb]
theorem oc_le {a b : Int} (ha : inR a) (hb : inR b) : Int32.ofInt a ≤ Int32.ofInt b ↔ a ≤ b := by rw [Int32.le_iff_toInt_le, oc_toInt ha, oc_toInt hb]
theorem oc_eq {a b : Int} (ha : inR a) (hb : inR b) : Int32.ofInt a = Int32.ofInt b ↔ a = b := by rw [← Int32.toInt_inj, oc_toInt ha, oc_toInt hb]
theorem inR_0 : inR 0 := by unfold inR; omega
theorem oc_zero : (0 : Int32) = Int32.ofInt 0 := rfl
theorem oc_div {a b : Int} (ha : inR a) (hb : inR b) : Int32.ofInt a / Int32.ofInt b = Int32.ofInt (w32 (a.tdiv b)) := by
  apply Int32.toInt_inj.1
  rw [Int32.toInt_div, oc_toInt ha, oc_toInt hb, oc_toInt (inR_w32 _), oc_bmod]
theorem inR_tmod {a b : Int} (ha : inR a) : inR (a.tmod b) := by
  unfold inR at *
  rcases Int.lt_or_le a 0 with h | h
  · have h1 : (-a).tmod b ≤ -a := by
      by_cases hb : b = 0
      · subst hb; simp
      · have := Int.tmod_nonneg (a := -a) b (by omega)
        have h2 := Int.mul_tdiv_add_tmod (-a) b
        rcases Int.lt_or_le b 0 with hb0 | hb0
        · have h3 := Int.tdiv_nonpos_of_nonneg_of_nonpos (a := -a) (b := b) (by omega) (by omega)
          have := Int.mul_nonneg_of_nonpos_of_nonpos (a := b) (b := (-a).tdiv b) (by omega) h3
          omega
        · have h3 := Int.tdiv_nonneg (a := -a) (b := b) (by omega) hb0
          have := Int.mul_nonneg hb0 h3
          omega
    have h2 := Int.tmod_nonneg (a := -a) b (by omega)
    rw [Int.neg_tmod] at h1 h2
    omega
  · have h1 : a.tmod b ≤ a := by
      by_cases hb : b = 0
      · subst hb; simp
      · have h2 := Int.mul_tdiv_add_tmod a b
        rcases Int.lt_or_le b 0 with hb0 | hb0
        · have h3 := Int.tdiv_nonpos_of_nonneg_of_nonpos (a := a) (b := b) (by omega) (by omega)
          have := Int.mul_nonneg_of_nonpos_of_nonpos (a := b) (b := a.tdiv b) (by omega) h3
          omega
        · have h3 := Int.tdiv_nonneg (a := a) (b := b) (by omega) hb0
          have := Int.mul_nonneg hb0 h3
          omega
    have h2 := Int.tmod_nonneg (a := a) b (by omega)
    omega
theorem oc_rem {a b : Int} (ha : inR a) (hb : inR b) : Int32.ofInt a - Int32.ofInt a / Int32.ofInt b * Int32.ofInt b = Int32.ofInt (a.tmod b) := by
  rw [oc_div ha hb, oc_ofInt_w32, ← Int32.ofInt_mul, ← Int32.ofInt_sub]
  congr 1
  have := Int.mul_tdiv_add_tmod a b
  have h2 : a.tdiv b * b = b * a.tdiv b := Int.mul_comm _ _
  omega
def iand (a b : Int) : Int := (Int32.ofInt a &&& Int32.ofInt b).toInt
def ior (a b : Int) : Int := (Int32.ofInt a ||| Int32.ofInt b).toInt
def ixor (a b : Int) : Int := (Int32.ofInt a ^^^ Int32.ofInt b).toInt
def ishl (a b : Int) : Int := (Int32.ofInt a <<< (Int32.ofInt b &&& 31)).toInt
def ishr (a b : Int) : Int := (Int32.ofInt a >>> (Int32.ofInt b &&& 31)).toInt
def iushr (a b : Int) : Int := ((Int32.ofInt a).toUInt32 >>> ((Int32.ofInt b).toUInt32 &&& Int32.toUInt32 31)).toInt32.toInt
def i2b (a : Int) : Int := (Int32.ofInt a).toInt8.toInt32.toInt
def i2c (a : Int) : Int := ((Int32.ofInt a).toUInt32 % 65536).toInt32.toInt
/-- guards of the walked programs -/
def bnd {α : Type} (n i : Int) (k : Int → Option α) : Option α := if 0 ≤ i ∧ i < n then k i else none
def nz {α : Type} (b : Int) (k : Int → Option α) : Option α := if b = 0 then none else k b
def okp {α : Type} : Option α → (α → Prop) → Prop
  | none, _ => False
  | some a, K => K a
theorem okp_bind {α β : Type} {x : Option α} {g : α → Option β} {K : β → Prop} (h : okp (x.bind g) K) : okp x (fun a => okp (g a) K) := by
  cases x with
  | none => exact h
  | some a => exact h
theorem okp_bind' {α β : Type} {x : Option α} {g : α → Option β} {K : β → Prop} (h : okp x (fun a => okp (g a) K)) : okp (x.bind g) K := by
  cases x with
  | none => exact h
  | some a => exact h
theorem okp_mono {α : Type} {x : Option α} {K K' : α → Prop} (h : okp x K) (hk : ∀ a, K a → K' a) : okp x K' := by
  cases x with
  | none => exact h
  | some a => exact hk a h
theorem okp_bnd {α : Type} {n i : Int} {k : Int → Option α} {K : α → Prop} (h : okp (bnd n i k) K) : 0 ≤ i ∧ i < n ∧ okp (k i) K := by
  unfold bnd at h
  split at h
  · rename_i c; exact ⟨c.1, c.2, h⟩
  · exact h.elim
theorem okp_nz {α : Type} {b : Int} {k : Int → Option α} {K : α → Prop} (h : okp (nz b k) K) : b ≠ 0 ∧ okp (k b) K := by
  unfold nz at h
  split at h
  · exact h.elim
  · rename_i c; exact ⟨c, h⟩
theorem okp_t {α : Type} {c : Prop} [Decidable c] {x y : Option α} {K : α → Prop} (hc : c) (h : okp (if c then x else y) K) : okp x K := by rw [if_pos hc] at h; exact h
theorem okp_f {α : Type} {c : Prop} [Decidable c] {x y : Option α} {K : α → Prop} (hc : ¬ c) (h : okp (if c then x else y) K) : okp y K := by rw [if_neg hc] at h; exact h
def iter {S R : Type} (step : S → Option (S ⊕ R)) : Nat → S → Option R
  | 0, _ => none
  | n + 1, s => (step s).bind fun y => match y with
    | .inl s' => iter step n s'
    | .inr r => some r
theorem iter_J {S R : Type} {step : S → Option (S ⊕ R)} {Jh : S → Prop} {G : R → Prop} (hstep : ∀ s, okp (step s) (fun y => match y with | .inl s' => Jh s' | .inr r => G r) → Jh s) : ∀ (f : Nat) (s : S), okp (iter step f s) G → Jh s := by
  intro f
  induction f with
  | zero => intro s h; exact h.elim
  | succ n ih =>
    intro s h
    refine hstep s (okp_mono (okp_bind h) ?_)
    intro y hy
    cases y with
    | inl s' => exact ih s' hy
    | inr r => exact hy
end
section
/-! classes, fields in the order of the slots (out of the printed names) -/
def RX0 : String := "OneCoin$Balance"
def TX0 : u_T := fun k => match k with
  | 0 => ("OneCoin$Balance", "people", "LOneCoin$People;", true)
  | 1 => ("OneCoin$Balance", "more", "[I", true)
  | 2 => ("OneCoin$Balance", "rest", "[I", true)
  | 3 => ("OneCoin$Balance", "debtors", "[I", true)
  | 4 => ("OneCoin$Balance", "row", "[I", true)
  | 5 => ("OneCoin$Balance", "best", "[I", true)
  | 6 => ("OneCoin$Balance", "pairs", "[I", true)
  | 7 => ("OneCoin$Balance", "groups", "[I", true)
  | _ => ("OneCoin$Balance", "bestHours", "I", false)
def tyX0 : Nat → FieldType := fun k => match k with
  | 0 => .object "OneCoin$People"
  | 1 => .array .int
  | 2 => .array .int
  | 3 => .array .int
  | 4 => .array .int
  | 5 => .array .int
  | 6 => .array .int
  | 7 => .array .int
  | _ => .int
theorem nmX0 : ∀ a, a < 9 → ∀ b, b < 9 → a ≠ b → (TX0 a).2.1 ≠ (TX0 b).2.1 := by decide +kernel
theorem tyX0_ok : ∀ k, k < 9 → parseFieldDescriptor (TX0 k).2.2.1 = some (tyX0 k) := by decide +kernel
def RX1 : String := "OneCoin$Clock"
def TX1 : u_T := fun k => match k with
  | 0 => ("OneCoin$Clock", "people", "LOneCoin$People;", true)
  | 1 => ("OneCoin$Clock", "law", "LOneCoin$Law;", true)
  | 2 => ("OneCoin$Clock", "payings", "I", false)
  | 3 => ("OneCoin$Clock", "rainyDays", "I", false)
  | 4 => ("OneCoin$Clock", "interest", "I", false)
  | _ => ("OneCoin$Clock", "arrivedAt", "I", false)
def tyX1 : Nat → FieldType := fun k => match k with
  | 0 => .object "OneCoin$People"
  | 1 => .object "OneCoin$Law"
  | 2 => .int
  | 3 => .int
  | 4 => .int
  | _ => .int
theorem nmX1 : ∀ a, a < 6 → ∀ b, b < 6 → a ≠ b → (TX1 a).2.1 ≠ (TX1 b).2.1 := by decide +kernel
theorem tyX1_ok : ∀ k, k < 6 → parseFieldDescriptor (TX1 k).2.2.1 = some (tyX1 k) := by decide +kernel
def RX2 : String := "OneCoin$DebtsReader"
def TX2 : u_T := fun k => match k with
  | 0 => ("OneCoin$DebtsReader", "text", "LOneCoin$Tape;", true)
  | 1 => ("OneCoin$DebtsReader", "people", "LOneCoin$People;", true)
  | _ => ("OneCoin$DebtsReader", "draft", "[I", true)
def tyX2 : Nat → FieldType := fun k => match k with
  | 0 => .object "OneCoin$Tape"
  | 1 => .object "OneCoin$People"
  | _ => .array .int
theorem nmX2 : ∀ a, a < 3 → ∀ b, b < 3 → a ≠ b → (TX2 a).2.1 ≠ (TX2 b).2.1 := by decide +kernel
theorem tyX2_ok : ∀ k, k < 3 → parseFieldDescriptor (TX2 k).2.2.1 = some (tyX2 k) := by decide +kernel
def RX3 : String := "OneCoin$Duchy"
def TX3 : u_T := fun k => match k with
  | 0 => ("OneCoin$Duchy", "debts", "[I", true)
  | 1 => ("OneCoin$Duchy", "held", "[I", true)
  | 2 => ("OneCoin$Duchy", "chalks", "[I", true)
  | 3 => ("OneCoin$Duchy", "chalked", "I", false)
  | 4 => ("OneCoin$Duchy", "holder", "I", false)
  | 5 => ("OneCoin$Duchy", "payer", "I", false)
  | 6 => ("OneCoin$Duchy", "payee", "I", false)
  | 7 => ("OneCoin$Duchy", "left", "I", false)
  | 8 => ("OneCoin$Duchy", "hour", "I", false)
  | 9 => ("OneCoin$Duchy", "day", "I", false)
  | 10 => ("OneCoin$Duchy", "rainy", "Z", false)
  | _ => ("OneCoin$Duchy", "x", "I", false)
def tyX3 : Nat → FieldType := fun k => match k with
  | 0 => .array .int
  | 1 => .array .int
  | 2 => .array .int
  | 3 => .int
  | 4 => .int
  | 5 => .int
  | 6 => .int
  | 7 => .int
  | 8 => .int
  | 9 => .int
  | 10 => .boolean
  | _ => .int
theorem nmX3 : ∀ a, a < 12 → ∀ b, b < 12 → a ≠ b → (TX3 a).2.1 ≠ (TX3 b).2.1 := by decide +kernel
theorem tyX3_ok : ∀ k, k < 12 → parseFieldDescriptor (TX3 k).2.2.1 = some (tyX3 k) := by decide +kernel
def RX4 : String := "OneCoin$Law"
def TX4 : u_T := fun k => match k with
  | 0 => ("OneCoin$Law", "people", "LOneCoin$People;", true)
  | 1 => ("OneCoin$Law", "steps", "[I", true)
  | 2 => ("OneCoin$Law", "details", "[I", true)
  | 3 => ("OneCoin$Law", "kinds", "[I", true)
  | 4 => ("OneCoin$Law", "starts", "[I", true)
  | 5 => ("OneCoin$Law", "middles", "[I", true)
  | 6 => ("OneCoin$Law", "ends", "[I", true)
  | 7 => ("OneCoin$Law", "letters", "[I", true)
  | 8 => ("OneCoin$Law", "stack", "[I", true)
  | 9 => ("OneCoin$Law", "size", "I", false)
  | _ => ("OneCoin$Law", "rules", "I", false)
def tyX4 : Nat → FieldType := fun k => match k with
  | 0 => .object "OneCoin$People"
  | 1 => .array .int
  | 2 => .array .int
  | 3 => .array .int
  | 4 => .array .int
  | 5 => .array .int
  | 6 => .array .int
  | 7 => .array .int
  | 8 => .array .int
  | 9 => .int
  | _ => .int
theorem nmX4 : ∀ a, a < 11 → ∀ b, b < 11 → a ≠ b → (TX4 a).2.1 ≠ (TX4 b).2.1 := by decide +kernel
theorem tyX4_ok : ∀ k, k < 11 → parseFieldDescriptor (TX4 k).2.2.1 = some (tyX4 k) := by decide +kernel
def RX5 : String := "OneCoin$LawReader"
def TX5 : u_T := fun k => match k with
  | 0 => ("OneCoin$LawReader", "text", "LOneCoin$Tape;", true)
  | _ => ("OneCoin$LawReader", "draft", "LOneCoin$Law;", true)
def tyX5 : Nat → FieldType := fun k => match k with
  | 0 => .object "OneCoin$Tape"
  | _ => .object "OneCoin$Law"
theorem nmX5 : ∀ a, a < 2 → ∀ b, b < 2 → a ≠ b → (TX5 a).2.1 ≠ (TX5 b).2.1 := by decide +kernel
theorem tyX5_ok : ∀ k, k < 2 → parseFieldDescriptor (TX5 k).2.2.1 = some (tyX5 k) := by decide +kernel
def RX6 : String := "OneCoin$People"
def TX6 : u_T := fun k => match k with
  | 0 => ("OneCoin$People", "spotX", "[I", true)
  | 1 => ("OneCoin$People", "spotY", "[I", true)
  | _ => ("OneCoin$People", "told", "I", false)
def tyX6 : Nat → FieldType := fun k => match k with
  | 0 => .array .int
  | 1 => .array .int
  | _ => .int
theorem nmX6 : ∀ a, a < 3 → ∀ b, b < 3 → a ≠ b → (TX6 a).2.1 ≠ (TX6 b).2.1 := by decide +kernel
theorem tyX6_ok : ∀ k, k < 3 → parseFieldDescriptor (TX6 k).2.2.1 = some (tyX6 k) := by decide +kernel
def RX7 : String := "OneCoin$RouteReader"
def TX7 : u_T := fun k => match k with
  | 0 => ("OneCoin$RouteReader", "text", "LOneCoin$Tape;", true)
  | 1 => ("OneCoin$RouteReader", "row", "[I", true)
  | _ => ("OneCoin$RouteReader", "length", "I", false)
def tyX7 : Nat → FieldType := fun k => match k with
  | 0 => .object "OneCoin$Tape"
  | 1 => .array .int
  | _ => .int
theorem nmX7 : ∀ a, a < 3 → ∀ b, b < 3 → a ≠ b → (TX7 a).2.1 ≠ (TX7 b).2.1 := by decide +kernel
theorem tyX7_ok : ∀ k, k < 3 → parseFieldDescriptor (TX7 k).2.2.1 = some (tyX7 k) := by decide +kernel
def RX8 : String := "OneCoin$Rows"
def TX8 : u_T := fun k => match k with
  | 0 => ("OneCoin$Rows", "people", "LOneCoin$People;", true)
  | 1 => ("OneCoin$Rows", "left", "[I", true)
  | 2 => ("OneCoin$Rows", "right", "[I", true)
  | 3 => ("OneCoin$Rows", "pairs", "[I", true)
  | 4 => ("OneCoin$Rows", "far", "[I", true)
  | 5 => ("OneCoin$Rows", "row", "[I", true)
  | 6 => ("OneCoin$Rows", "best", "[I", true)
  | _ => ("OneCoin$Rows", "bestLength", "I", false)
def tyX8 : Nat → FieldType := fun k => match k with
  | 0 => .object "OneCoin$People"
  | 1 => .array .int
  | 2 => .array .int
  | 3 => .array .int
  | 4 => .array .int
  | 5 => .array .int
  | 6 => .array .int
  | _ => .int
theorem nmX8 : ∀ a, a < 8 → ∀ b, b < 8 → a ≠ b → (TX8 a).2.1 ≠ (TX8 b).2.1 := by decide +kernel
theorem tyX8_ok : ∀ k, k < 8 → parseFieldDescriptor (TX8 k).2.2.1 = some (tyX8 k) := by decide +kernel
def RX9 : String := "OneCoin$Tape"
def TX9 : u_T := fun k => match k with
  | 0 => ("OneCoin$Tape", "bytes", "[I", true)
  | 1 => ("OneCoin$Tape", "size", "I", false)
  | 2 => ("OneCoin$Tape", "limit", "I", false)
  | 3 => ("OneCoin$Tape", "place", "I", false)
  | _ => ("OneCoin$Tape", "next", "I", false)
def tyX9 : Nat → FieldType := fun k => match k with
  | 0 => .array .int
  | 1 => .int
  | 2 => .int
  | 3 => .int
  | _ => .int
theorem nmX9 : ∀ a, a < 5 → ∀ b, b < 5 → a ≠ b → (TX9 a).2.1 ≠ (TX9 b).2.1 := by decide +kernel
theorem tyX9_ok : ∀ k, k < 5 → parseFieldDescriptor (TX9 k).2.2.1 = some (tyX9 k) := by decide +kernel
def RX10 : String := "OneCoin"
def TX10 : u_T := fun k => match k with
  | 0 => ("OneCoin", "tape", "LOneCoin$Tape;", true)
  | 1 => ("OneCoin", "people", "LOneCoin$People;", true)
  | 2 => ("OneCoin", "now", "LOneCoin$Duchy;", true)
  | 3 => ("OneCoin", "kept", "LOneCoin$Duchy;", true)
  | 4 => ("OneCoin", "trial", "LOneCoin$Duchy;", true)
  | 5 => ("OneCoin", "law", "LOneCoin$Law;", true)
  | 6 => ("OneCoin", "draft", "LOneCoin$Law;", true)
  | 7 => ("OneCoin", "lawReader", "LOneCoin$LawReader;", true)
  | 8 => ("OneCoin", "debtsReader", "LOneCoin$DebtsReader;", true)
  | 9 => ("OneCoin", "routeReader", "LOneCoin$RouteReader;", true)
  | 10 => ("OneCoin", "clock", "LOneCoin$Clock;", true)
  | 11 => ("OneCoin", "rows", "LOneCoin$Rows;", true)
  | 12 => ("OneCoin", "balance", "LOneCoin$Balance;", true)
  | _ => ("OneCoin", "wasKept", "Z", false)
def tyX10 : Nat → FieldType := fun k => match k with
  | 0 => .object "OneCoin$Tape"
  | 1 => .object "OneCoin$People"
  | 2 => .object "OneCoin$Duchy"
  | 3 => .object "OneCoin$Duchy"
  | 4 => .object "OneCoin$Duchy"
  | 5 => .object "OneCoin$Law"
  | 6 => .object "OneCoin$Law"
  | 7 => .object "OneCoin$LawReader"
  | 8 => .object "OneCoin$DebtsReader"
  | 9 => .object "OneCoin$RouteReader"
  | 10 => .object "OneCoin$Clock"
  | 11 => .object "OneCoin$Rows"
  | 12 => .object "OneCoin$Balance"
  | _ => .boolean
theorem nmX10 : ∀ a, a < 14 → ∀ b, b < 14 → a ≠ b → (TX10 a).2.1 ≠ (TX10 b).2.1 := by decide +kernel
theorem tyX10_ok : ∀ k, k < 14 → parseFieldDescriptor (TX10 k).2.2.1 = some (tyX10 k) := by decide +kernel
def RX11 : String := "OneCoinModel"
def TX11 : u_T := fun k => match k with
  | 0 => ("OneCoinModel", "now", "[I", true)
  | 1 => ("OneCoinModel", "aside", "[I", true)
  | 2 => ("OneCoinModel", "kept", "[I", true)
  | 3 => ("OneCoinModel", "spotX", "[I", true)
  | 4 => ("OneCoinModel", "spotY", "[I", true)
  | 5 => ("OneCoinModel", "people", "I", false)
  | 6 => ("OneCoinModel", "tape", "[B", true)
  | 7 => ("OneCoinModel", "taped", "I", false)
  | 8 => ("OneCoinModel", "place0", "I", false)
  | 9 => ("OneCoinModel", "length0", "I", false)
  | 10 => ("OneCoinModel", "fault", "I", false)
  | 11 => ("OneCoinModel", "number0", "I", false)
  | 12 => ("OneCoinModel", "open", "I", false)
  | 13 => ("OneCoinModel", "codeMany", "I", false)
  | 14 => ("OneCoinModel", "waiting", "I", false)
  | 15 => ("OneCoinModel", "saidMany", "I", false)
  | 16 => ("OneCoinModel", "clauses", "I", false)
  | 17 => ("OneCoinModel", "said", "[I", true)
  | 18 => ("OneCoinModel", "waitsAt", "[I", true)
  | 19 => ("OneCoinModel", "saidLetter", "[I", true)
  | 20 => ("OneCoinModel", "saidFrom", "[I", true)
  | 21 => ("OneCoinModel", "saidHalf", "[I", true)
  | 22 => ("OneCoinModel", "saidTo", "[I", true)
  | 23 => ("OneCoinModel", "codes", "[I", true)
  | 24 => ("OneCoinModel", "clauseOf", "[I", true)
  | 25 => ("OneCoinModel", "codeFrom", "[I", true)
  | 26 => ("OneCoinModel", "codeHalf", "[I", true)
  | 27 => ("OneCoinModel", "codeTo", "[I", true)
  | 28 => ("OneCoinModel", "stack", "[I", true)
  | 29 => ("OneCoinModel", "facts", "[I", true)
  | 30 => ("OneCoinModel", "newDebt", "[I", true)
  | 31 => ("OneCoinModel", "lines", "I", false)
  | 32 => ("OneCoinModel", "paid", "I", false)
  | 33 => ("OneCoinModel", "rained", "I", false)
  | 34 => ("OneCoinModel", "grown", "I", false)
  | 35 => ("OneCoinModel", "arrived", "I", false)
  | 36 => ("OneCoinModel", "newStep", "[I", true)
  | 37 => ("OneCoinModel", "roundFrom", "[I", true)
  | 38 => ("OneCoinModel", "roundAt", "[I", true)
  | 39 => ("OneCoinModel", "roundTimes", "[I", true)
  | 40 => ("OneCoinModel", "newMany", "I", false)
  | 41 => ("OneCoinModel", "rounds", "I", false)
  | 42 => ("OneCoinModel", "itemFrom", "I", false)
  | 43 => ("OneCoinModel", "itemTimes", "I", false)
  | 44 => ("OneCoinModel", "walkedMany", "I", false)
  | 45 => ("OneCoinModel", "walkedHours", "I", false)
  | 46 => ("OneCoinModel", "leftDebt", "[I", true)
  | 47 => ("OneCoinModel", "tourStep", "[I", true)
  | 48 => ("OneCoinModel", "coinFrom", "[I", true)
  | 49 => ("OneCoinModel", "coinTo", "[I", true)
  | 50 => ("OneCoinModel", "coinMany", "I", false)
  | 51 => ("OneCoinModel", "moreBy", "[B", true)
  | 52 => ("OneCoinModel", "stepsTo", "[I", true)
  | 53 => ("OneCoinModel", "hoursTo", "[I", true)
  | 54 => ("OneCoinModel", "lackOf", "[I", true)
  | 55 => ("OneCoinModel", "wantOf", "[I", true)
  | 56 => ("OneCoinModel", "rowNow", "[I", true)
  | 57 => ("OneCoinModel", "rowBest", "[I", true)
  | 58 => ("OneCoinModel", "lacks", "I", false)
  | 59 => ("OneCoinModel", "sumOf", "[I", true)
  | 60 => ("OneCoinModel", "groupsOf", "[I", true)
  | _ => ("OneCoinModel", "isKept", "Z", false)
def tyX11 : Nat → FieldType := fun k => match k with
  | 0 => .array .int
  | 1 => .array .int
  | 2 => .array .int
  | 3 => .array .int
  | 4 => .array .int
  | 5 => .int
  | 6 => .array .byte
  | 7 => .int
  | 8 => .int
  | 9 => .int
  | 10 => .int
  | 11 => .int
  | 12 => .int
  | 13 => .int
  | 14 => .int
  | 15 => .int
  | 16 => .int
  | 17 => .array .int
  | 18 => .array .int
  | 19 => .array .int
  | 20 => .array .int
  | 21 => .array .int
  | 22 => .array .int
  | 23 => .array .int
  | 24 => .array .int
  | 25 => .array .int
  | 26 => .array .int
  | 27 => .array .int
  | 28 => .array .int
  | 29 => .array .int
  | 30 => .array .int
  | 31 => .int
  | 32 => .int
  | 33 => .int
  | 34 => .int
  | 35 => .int
  | 36 => .array .int
  | 37 => .array .int
  | 38 => .array .int
  | 39 => .array .int
  | 40 => .int
  | 41 => .int
  | 42 => .int
  | 43 => .int
  | 44 => .int
  | 45 => .int
  | 46 => .array .int
  | 47 => .array .int
  | 48 => .array .int
  | 49 => .array .int
  | 50 => .int
  | 51 => .array .byte
  | 52 => .array .int
  | 53 => .array .int
  | 54 => .array .int
  | 55 => .array .int
  | 56 => .array .int
  | 57 => .array .int
  | 58 => .int
  | 59 => .array .int
  | 60 => .array .int
  | _ => .boolean
theorem nmX11 : ∀ a, a < 62 → ∀ b, b < 62 → a ≠ b → (TX11 a).2.1 ≠ (TX11 b).2.1 := by decide +kernel
theorem tyX11_ok : ∀ k, k < 62 → parseFieldDescriptor (TX11 k).2.2.1 = some (tyX11 k) := by decide +kernel
abbrev vwCl : List vw_C := [(RX0, TX0, 9), (RX1, TX1, 6), (RX2, TX2, 3), (RX3, TX3, 12), (RX4, TX4, 11), (RX5, TX5, 2), (RX6, TX6, 3), (RX7, TX7, 3), (RX8, TX8, 8), (RX9, TX9, 5), (RX10, TX10, 14), (RX11, TX11, 62)]
set_option maxRecDepth 100000 in
theorem oinX0 : ∀ w ∈ u_ws RX0 TX0 9, w ∈ oT := by decide +kernel
set_option maxRecDepth 100000 in
theorem oinX1 : ∀ w ∈ u_ws RX1 TX1 6, w ∈ oT := by decide +kernel
set_option maxRecDepth 100000 in
theorem oinX2 : ∀ w ∈ u_ws RX2 TX2 3, w ∈ oT := by decide +kernel
set_option maxRecDepth 100000 in
theorem oinX3 : ∀ w ∈ u_ws RX3 TX3 12, w ∈ oT := by decide +kernel
set_option maxRecDepth 100000 in
theorem oinX4 : ∀ w ∈ u_ws RX4 TX4 11, w ∈ oT := by decide +kernel
set_option maxRecDepth 100000 in
theorem oinX5 : ∀ w ∈ u_ws RX5 TX5 2, w ∈ oT := by decide +kernel
set_option maxRecDepth 100000 in
theorem oinX6 : ∀ w ∈ u_ws RX6 TX6 3, w ∈ oT := by decide +kernel
set_option maxRecDepth 100000 in
theorem oinX7 : ∀ w ∈ u_ws RX7 TX7 3, w ∈ oT := by decide +kernel
set_option maxRecDepth 100000 in
theorem oinX8 : ∀ w ∈ u_ws RX8 TX8 8, w ∈ oT := by decide +kernel
set_option maxRecDepth 100000 in
theorem oinX9 : ∀ w ∈ u_ws RX9 TX9 5, w ∈ oT := by decide +kernel
set_option maxRecDepth 100000 in
theorem oinX10 : ∀ w ∈ u_ws RX10 TX10 14, w ∈ oT := by decide +kernel
set_option maxRecDepth 100000 in
theorem oinX11 : ∀ w ∈ u_ws RX11 TX11 62, w ∈ oT := by decide +kernel
def oCls (ci : Nat) (C : String) (T : u_T) (N : Nat) (ty : Nat → FieldType) : Prop := vwCl[ci]? = some (C, T, N) ∧ (∀ w ∈ u_ws C T N, w ∈ oT) ∧ (∀ k, k < N → parseFieldDescriptor (T k).2.2.1 = some (ty k)) ∧ ∀ a, a < N → ∀ b, b < N → a ≠ b → (T a).2.1 ≠ (T b).2.1
theorem oC0 : oCls 0 RX0 TX0 9 tyX0 := ⟨rfl, oinX0, tyX0_ok, nmX0⟩
theorem oC1 : oCls 1 RX1 TX1 6 tyX1 := ⟨rfl, oinX1, tyX1_ok, nmX1⟩
theorem oC2 : oCls 2 RX2 TX2 3 tyX2 := ⟨rfl, oinX2, tyX2_ok, nmX2⟩
theorem oC3 : oCls 3 RX3 TX3 12 tyX3 := ⟨rfl, oinX3, tyX3_ok, nmX3⟩
theorem oC4 : oCls 4 RX4 TX4 11 tyX4 := ⟨rfl, oinX4, tyX4_ok, nmX4⟩
theorem oC5 : oCls 5 RX5 TX5 2 tyX5 := ⟨rfl, oinX5, tyX5_ok, nmX5⟩
theorem oC6 : oCls 6 RX6 TX6 3 tyX6 := ⟨rfl, oinX6, tyX6_ok, nmX6⟩
theorem oC7 : oCls 7 RX7 TX7 3 tyX7 := ⟨rfl, oinX7, tyX7_ok, nmX7⟩
theorem oC8 : oCls 8 RX8 TX8 8 tyX8 := ⟨rfl, oinX8, tyX8_ok, nmX8⟩
theorem oC9 : oCls 9 RX9 TX9 5 tyX9 := ⟨rfl, oinX9, tyX9_ok, nmX9⟩
theorem oC10 : oCls 10 RX10 TX10 14 tyX10 := ⟨rfl, oinX10, tyX10_ok, nmX10⟩
theorem oC11 : oCls 11 RX11 TX11 62 tyX11 := ⟨rfl, oinX11, tyX11_ok, nmX11⟩
end
section
/-! the walked program's state: abstract values, memory, shapes; the judgement oJ over W, the contract oK over Met -/
abbrev oV : Type := Int ⊕ Option Nat
abbrev vi (a : Int) : oV := .inl a
abbrev vr (o : Nat) : oV := .inr (some o)
abbrev vu : oV := .inr none
abbrev oM : Type := Nat → Int → Int
abbrev oSh : Type := (Bool × Nat) ⊕ (Nat × List (Option (Option Nat)))
abbrev oW : Type := List oSh
abbrev oMI : Type := MethodName × ByteArray × Nat × Option FieldType
abbrev oE : Type := Nat × Nat × Nat × Option (Nat × (Nat → Int)) × (Int → oW → oM → Prop)
def oU (M : oM) (o : Nat) (i v : Int) : oM := fun o' i' => if o' = o ∧ i' = i then v else M o' i'
def rlv (ad : Nat → Nat) : oV → Value
  | .inl a => .int (Int32.ofInt a)
  | .inr none => .null
  | .inr (some o) => .ref (ad o)
def oFv (ad : Nat → Nat) (f : Int → Int) (k : Nat) : Option (Option Nat) → Value
  | none => .int (Int32.ofInt (f k))
  | some none => .null
  | some (some o) => .ref (ad o)
def oCe (ad : Nat → Nat) (cI cB : ClassId) (f : Int → Int) : oSh → va_E
  | .inl (b, n) => .inl (if b then cB else cI, n, .inl (fun k => Int32.ofInt (f k)))
  | .inr (ci, fs) => .inr (ci, fs.mapIdx (oFv ad f))
def oCells (ad : Nat → Nat) (cI cB : ClassId) (wd : oW) (M : oM) : va_W := wd.mapIdx (fun o sh => (ad o, oCe ad cI cB (M o) sh))
theorem oCells_get {ad : Nat → Nat} {cI cB : ClassId} {wd : oW} {M : oM} {o : Nat} {sh : oSh} (h : wd[o]? = some sh) : (oCells ad cI cB wd M)[o]? = some (ad o, oCe ad cI cB (M o) sh) := by
  unfold oCells
  rw [List.getElem?_mapIdx, h]; rfl
theorem oCells_inv {ad : Nat → Nat} {cI cB : ClassId} {wd : oW} {M : oM} {o : Nat} {q : Nat × va_E} (h : (oCells ad cI cB wd M)[o]? = some q) : o < wd.length ∧ q.1 = ad o := by
  unfold oCells at h
  rw [List.getElem?_mapIdx] at h
  cases hw : wd[o]? with
  | none => rw [hw] at h; cases h
  | some sh =>
    rw [hw] at h
    have h1 := Option.some.inj h
    exact ⟨(List.getElem?_eq_some_iff.mp hw).1, by rw [← h1]⟩
theorem oCells_set {ad : Nat → Nat} {cI cB : ClassId} {wd : oW} {M M' : oM} {o : Nat} {sh : oSh} {x : va_E} (h : wd[o]? = some sh) (hx : x = oCe ad cI cB (M' o) sh) (hM : ∀ o' : Nat, o' ≠ o → M' o' = M o') : (oCells ad cI cB wd M).set o (ad o, x) = oCells ad cI cB wd M' := by
  apply List.ext_getElem?
  intro i
  unfold oCells
  by_cases hi : i = o
  · subst hi
    rw [List.getElem?_set_self (by rw [List.length_mapIdx]; exact (List.getElem?_eq_some_iff.mp h).1), List.getElem?_mapIdx, h, hx]; rfl
  · rw [List.getElem?_set_ne (Ne.symm hi), List.getElem?_mapIdx, List.getElem?_mapIdx, hM i hi]
theorem oCells_sh {ad : Nat → Nat} {cI cB : ClassId} {wd : oW} {M : oM} {o : Nat} {sh : oSh} {x : va_E} (h : o < wd.length) (hx : x = oCe ad cI cB (M o) sh) : (oCells ad cI cB wd M).set o (ad o, x) = oCells ad cI cB (wd.set o sh) M := by
  apply List.ext_getElem?
  intro i
  unfold oCells
  by_cases hi : i = o
  · subst hi
    rw [List.getElem?_set_self (by rw [List.length_mapIdx]; exact h), List.getElem?_mapIdx, List.getElem?_set_self h, hx]; rfl
  · rw [List.getElem?_set_ne (Ne.symm hi), List.getElem?_mapIdx, List.getElem?_mapIdx, List.getElem?_set_ne (Ne.symm hi)]
def okv (len : Nat) : oV → Prop
  | .inl a => inR a
  | .inr none => True
  | .inr (some o) => o < len ∨ 1000 ≤ o
def oks (len : Nat) : List oV → Prop
  | [] => True
  | v :: l => okv len v ∧ oks len l
def okSh (len : Nat) : oSh → Prop
  | .inl _ => True
  | .inr (_, fs) => ∀ (k r : Nat), fs[k]? = some (some (some r)) → r < len ∨ 1000 ≤ r
def oRg (wd : oW) (lv st : List oV) (M : oM) : Prop := oks wd.length lv ∧ oks wd.length st ∧ (∀ o i, inR (M o i)) ∧ wd.length < 1000 ∧ ∀ (k : Nat) (sh : oSh), wd[k]? = some sh → okSh wd.length sh
def oN : List oV → Nat → oV
  | [], _ => vu
  | v :: _, 0 => v
  | _ :: l, k + 1 => oN l k
theorem oks_N {len : Nat} : ∀ {l : List oV} (k : Nat), oks len l → okv len (oN l k)
  | [], _, _ => trivial
  | _ :: _, 0, h => h.1
  | _ :: _, k + 1, h => oks_N k h.2
theorem oks_app {len : Nat} {a b : List oV} (ha : oks len a) (hb : oks len b) : oks len (a ++ b) := by
  induction a with
  | nil => exact hb
  | cons v l ih => exact ⟨ha.1, ih ha.2⟩
theorem oks_app1 {len : Nat} {a b : List oV} (h : oks len (a ++ b)) : oks len a := by
  induction a with
  | nil => trivial
  | cons v l ih => exact ⟨h.1, ih h.2⟩
theorem oks_app2 {len : Nat} {a b : List oV} (h : oks len (a ++ b)) : oks len b := by
  induction a with
  | nil => exact h
  | cons v l ih => exact ih h.2
theorem oks_rep {len n : Nat} : oks len (List.replicate n vu) := by
  induction n with
  | zero => trivial
  | succ n ih => exact ⟨trivial, ih⟩
theorem okv_mono {a b : Nat} (h : a ≤ b) {v : oV} (hv : okv a v) : okv b v := by
  rcases v with v | v | o
  · exact hv
  · trivial
  · exact hv.elim (fun q => Or.inl (Nat.lt_of_lt_of_le q h)) Or.inr
theorem oks_mono {a b : Nat} (h : a ≤ b) {l : List oV} (hv : oks a l) : oks b l := by
  induction l with
  | nil => trivial
  | cons v l ih => exact ⟨okv_mono h hv.1, ih hv.2⟩
theorem rlv_agree {ad ad' : Nat → Nat} {len : Nat} (h : ∀ o, o < len ∨ 1000 ≤ o → ad' o = ad o) {v : oV} (hv : okv len v) : rlv ad' v = rlv ad v := by
  rcases v with v | v | o
  · rfl
  · rfl
  · show Value.ref _ = Value.ref _
    rw [h o hv]
theorem rlv_agrees {ad ad' : Nat → Nat} {len : Nat} (h : ∀ o, o < len ∨ 1000 ≤ o → ad' o = ad o) {l : List oV} (hv : oks len l) : l.map (rlv ad') = l.map (rlv ad) := by
  induction l with
  | nil => rfl
  | cons v l ih => rw [List.map_cons, List.map_cons, rlv_agree h hv.1, ih hv.2]
/-- the frame's locals hold what is known -/
def oLv (ad : Nat → Nat) (lv : List oV) (ls : Array Slot) (nL : Nat) : Prop := ls.size = nL ∧ lv_wf ls ∧ ∀ k : Nat, oN lv k ≠ vu → ls[k]? = some (.val (rlv ad (oN lv k)))
def oIsN : Cond → Bool
  | .fieldLinkNest .. => true
  | .methodLinkNest .. => true
  | _ => false
/-- the words of nest mates -/
def oTN : List Cond := lw_tbl.filter oIsN
theorem oTN_mem {w : Cond} (i : Nat) (h : lw_tbl[i]? = some w) (g : oIsN w = true) : w ∈ oTN := List.mem_filter.mpr ⟨List.mem_of_getElem? h, g⟩
/-- what lies outside: the text constant, String's switch, the nest mates' words -/
def oOut (ad : Nat → Nat) (A : Nat → Prop) (U : State) (H : Heap) : Prop := vk_S 1 [8] [[104, 99, 110, 111, 119, 103, 116, 121]] (fun _ => ad 1000) (fun _ => ad 1001) A U H ∧ vk_R "OneCoin$LawReader" 90 "hcnowgty" (ad 1000) U ∧ va_Z "java/lang/String" "COMPACT_STRINGS" "Z" (.int 1) A U H ∧ ∀ w ∈ oTN, va_Nw w U
def oScr (sc : Option (Nat × (Nat → Int))) (ad : Nat → Nat) (A : Nat → Prop) (s : State) : Prop := ∀ (L : Nat) (xs : Nat → Int), sc = some (L, xs) → va_X (ad 1002) L (fun k => Int32.ofInt (xs k)) s s.heap ∧ ad 1002 < s.heap.size ∧ ¬ A (ad 1002) ∧ L < 2 ^ 31 ∧ ∀ k, inR (xs k)
def oTy (cI cB : ClassId) : List (ClassId × FieldType) := [(cI, .int), (cB, .byte)]
def oHp (A : Nat → Prop) (D : va_G) (ad : Nat → Nat) (cI cB : ClassId) (wd : oW) (M : oM) (s : State) (H : Heap) (locs : List Loc) : Prop := va_P D vwCl (oCells ad cI cB wd M) H ∧ va_D A (oCells ad cI cB wd M) ∧ va_S A s.heap H locs
def oAg (n0 : Nat) (ad0 ad : Nat → Nat) : Prop := ∀ o, o < n0 ∨ 1000 ≤ o → ad o = ad0 o
def oRet (mt : oMI) (E : oE) (p : Program) (l : Launch) (e : Env) (R : Room) (s : State) (m : MethodId) (args : Array Value) (below : List Frame) (meth : Method) (c : Code) (A : Nat → Prop) (D : va_G) (cI cB : ClassId) (Z : State → Prop) (n0 : Nat) (ad0 : Nat → Nat) : Prop :=
  ∀ (r : Int) (wd : oW) (M : oM) (ad : Nat → Nat) (H : Heap) (locs : List Loc) (pc : Nat) (ls : Array Slot), E.2.2.2.2 r wd M → oHp A D ad cI cB wd M s H locs → oRg wd [] [] M → oAg n0 ad0 ad → n0 ≤ wd.length →
    (mt.2.2.2 = none → r = 0 → decode mt.2.1 pc = .ok (.return_, 1) → W p l e R s m args below meth c H locs E.2.1 E.2.2.1 Z (F0 m pc ls [])) ∧
    (∀ ty, mt.2.2.2 = some ty → inR r → narrow ty (.int (Int32.ofInt r)) = .int (Int32.ofInt r) → decode mt.2.1 pc = .ok (.ireturn, 1) → W p l e R s m args below meth c H locs E.2.1 E.2.2.1 Z (F0 m pc ls [.int (Int32.ofInt r)]))
def oCtx (mt : oMI) (E : oE) (p : Program) (l : Launch) (e : Env) (R : Room) (s : State) (m : MethodId) (args : Array Value) (below : List Frame) (meth : Method) (c : Code) (A : Nat → Prop) (D : va_G) (cI cB : ClassId) (Z : State → Prop) (n0 : Nat) (ad0 : Nat → Nat) : Prop :=
  p.tables.exec = Jvm.exec ∧ c.code = mt.2.1 ∧ c.maxLocals = mt.2.2.1 ∧ s.vm.findClass mt.1.cls = some m.cls ∧ (∀ w ∈ oT, w.before args s = true) ∧ (E.1 ≤ R.frames ∧ 100 * E.1 ≤ R.locals ∧ E.2.1 ≤ R.cells ∧ E.2.2.1 ≤ R.slots) ∧ va_K D vwCl (oTy cI cB) s ∧ (∀ q, s.heap.size ≤ q → A q) ∧ oOut ad0 A s s.heap ∧ oScr E.2.2.2.1 ad0 A s ∧ meth.name = mt.1.name ∧ oRet mt E p l e R s m args below meth c A D cI cB Z n0 ad0
/-- from pc, with these locals, this stack, this memory, k cells and n slots made: the method goes on to a return that E allows -/
def oJ (l : Launch) (mt : oMI) (E : oE) (k n pc : Nat) (lv st : List oV) (wd : oW) (M : oM) : Prop :=
  ∀ (p : Program) (e : Env) (R : Room) (s : State) (m : MethodId) (args : Array Value) (below : List Frame) (meth : Method) (c : Code) (A : Nat → Prop) (D : va_G) (cI cB : ClassId) (Z : State → Prop) (n0 : Nat) (ad0 ad : Nat → Nat) (H : Heap) (locs : List Loc) (ls : Array Slot),
    oCtx mt E p l e R s m args below meth c A D cI cB Z n0 ad0 → oHp A D ad cI cB wd M s H locs → oLv ad lv ls mt.2.2.1 → oRg wd lv st M → oAg n0 ad0 ad → n0 ≤ wd.length →
    W p l e R s m args below meth c H locs k n Z (F0 m pc ls (st.map (rlv ad)))
/-- a row that moves pc and stack alone -/
theorem oJ_row {l : Launch} {mt : oMI} {E : oE} {k n pc pc' : Nat} {lv st st' : List oV} {wd : oW} {M : oM}
    (hst : ∀ len, oks len st → oks len st')
    (hr : ∀ (p : Program) (e : Env) (R : Room) (s : State) (m : MethodId) (args : Array Value) (below : List Frame) (meth : Method) (c : Code) (Z : State → Prop) (ad : Nat → Nat) (H : Heap) (locs : List Loc) (ls : Array Slot), p.tables.exec = Jvm.exec → c.code = mt.2.1 → oLv ad lv ls mt.2.2.1 → (∀ len, oks len st → True) → oks wd.length lv → oks wd.length st →
      W p l e R s m args below meth c H locs k n Z (F0 m pc' ls (st'.map (rlv ad))) → W p l e R s m args below meth c H locs k n Z (F0 m pc ls (st.map (rlv ad))))
    (h : oks wd.length lv → oJ l mt E k n pc' lv st' wd M) : oJ l mt E k n pc lv st wd M := by
  intro p e R s m args below meth c A D cI cB Z n0 ad0 ad H locs ls C hH hl hR hg hn
  exact hr p e R s m args below meth c Z ad H locs ls C.1 C.2.1 hl (fun _ _ => trivial) hR.1 hR.2.1 (h hR.1 p e R s m args below meth c A D cI cB Z n0 ad0 ad H locs ls C hH hl ⟨hR.1, hst _ hR.2.1, hR.2.2⟩ hg hn)
end
section
/-! rows: an instruction each, over oJ; a pure program's run (okp) goes along where the machine asks something -/
def oSet : List oV → Nat → oV → List oV
  | [], _, _ => []
  | _ :: l, 0, v => v :: l
  | a :: l, k + 1, v => a :: oSet l k v
theorem oN_set_ne : ∀ {l : List oV} {i k : Nat} {v : oV}, k ≠ i → oN (oSet l i v) k = oN l k
  | [], _, _, _, _ => rfl
  | _ :: _, 0, 0, _, h => absurd rfl h
  | _ :: _, 0, _ + 1, _, _ => rfl
  | _ :: _, _ + 1, 0, _, _ => rfl
  | _ :: l, i + 1, k + 1, v, h => oN_set_ne (l := l) (fun e => h (by rw [e]))
theorem oN_set_eq : ∀ {l : List oV} {i : Nat} {v : oV}, oN (oSet l i v) i = v ∨ oN (oSet l i v) i = vu
  | [], _, _ => Or.inr rfl
  | _ :: _, 0, _ => Or.inl rfl
  | _ :: l, i + 1, v => oN_set_eq (l := l)
theorem oks_set {len : Nat} : ∀ {l : List oV} {i : Nat} {v : oV}, oks len l → okv len v → oks len (oSet l i v)
  | [], _, _, _, _ => trivial
  | _ :: _, 0, _, h, hv => ⟨hv, h.2⟩
  | _ :: l, i + 1, v, h, hv => ⟨h.1, oks_set h.2 hv⟩
theorem oN_lt : ∀ {l : List oV} {k : Nat}, oN l k ≠ vu → k < l.length
  | [], _, h => absurd rfl h
  | _ :: _, 0, _ => Nat.succ_pos _
  | _ :: l, k + 1, h => Nat.succ_lt_succ (oN_lt (l := l) h)
def oPr (ad : Nat → Nat) (lv : List oV) : List (Nat × Value) := (List.range lv.length).filterMap (fun k => if oN lv k = vu then none else some (k, rlv ad (oN lv k)))
theorem oPr_mem {ad : Nat → Nat} {lv : List oV} {q : Nat × Value} : q ∈ oPr ad lv ↔ oN lv q.1 ≠ vu ∧ q.2 = rlv ad (oN lv q.1) := by
  unfold oPr
  rw [List.mem_filterMap]
  constructor
  · rintro ⟨k, hk, h⟩
    split at h
    · cases h
    · rename_i c
      cases h
      exact ⟨c, rfl⟩
  · rintro ⟨h1, h2⟩
    refine ⟨q.1, List.mem_range.mpr (oN_lt h1), ?_⟩
    rw [if_neg h1, ← h2]
theorem oLv_has {ad : Nat → Nat} {lv : List oV} {ls : Array Slot} {nL : Nat} (h : oLv ad lv ls nL) : lv_has ls nL (oPr ad lv) := ⟨h.1, h.2.1, fun q hq => by
  obtain ⟨h1, h2⟩ := oPr_mem.mp hq
  rw [h2]; exact h.2.2 q.1 h1⟩
theorem rlv_cat {ad : Nat → Nat} (v : oV) : (rlv ad v).category = 1 := by rcases v with v | v | o <;> rfl
theorem oLv_set {ad : Nat → Nat} {lv : List oV} {ls' : Array Slot} {nL i : Nat} {v : oV} (h : lv_has ls' nL ((i, rlv ad v) :: (oPr ad lv).filter (fun q => !(q.1 == i) && !(q.1 + 1 == i && q.2.category == 2)))) : oLv ad (oSet lv i v) ls' nL := by
  refine ⟨h.1, h.2.1, fun k hk => ?_⟩
  by_cases e : k = i
  · subst e
    rcases oN_set_eq (l := lv) (i := k) (v := v) with q | q
    · rw [q]; exact h.2.2 (k, rlv ad v) List.mem_cons_self
    · exact absurd q hk
  · rw [oN_set_ne e] at hk ⊢
    refine h.2.2 (k, rlv ad (oN lv k)) (List.mem_cons_of_mem _ (List.mem_filter.mpr ⟨oPr_mem.mpr ⟨hk, rfl⟩, ?_⟩))
    simp [e, rlv_cat]
theorem oLv_int {ad : Nat → Nat} {lv : List oV} {ls : Array Slot} {nL i : Nat} {a : Int} (h : oLv ad lv ls nL) (hv : oN lv i = vi a) : ls[i]? = some (.val (.int (Int32.ofInt a))) := by
  have h1 := h.2.2 i (by rw [hv]; intro e; cases e)
  rw [hv] at h1; exact h1
theorem oLv_ref {ad : Nat → Nat} {lv : List oV} {ls : Array Slot} {nL i : Nat} {o : Nat} (h : oLv ad lv ls nL) (hv : oN lv i = vr o) : ls[i]? = some (.val (.ref (ad o))) := by
  have h1 := h.2.2 i (by rw [hv]; intro e; cases e)
  rw [hv] at h1; exact h1
section ROWS
variable {l : Launch} {mt : oMI} {E : oE} {k n pc : Nat} {lv st : List oV} {wd : oW} {M : oM}
theorem oj_iloadn {i : Fin 4} {a : Int} (hd : decode mt.2.1 pc = .ok (.iload_n i, 1)) (hv : oN lv i = vi a) (h : oJ l mt E k n (pc + 1) lv (vi a :: st) wd M) : oJ l mt E k n pc lv st wd M := by
  intro p e R s m args below meth c A D cI cB Z n0 ad0 ad H locs ls C hH hl hR hg hn
  have hok := oks_N (i : Nat) hR.1
  rw [hv] at hok
  exact lv_iload_n C.1 C.2.1 hd rfl (oLv_int hl hv) (h p e R s m args below meth c A D cI cB Z n0 ad0 ad H locs ls C hH hl ⟨hR.1, ⟨hok, hR.2.1⟩, hR.2.2⟩ hg hn)
theorem oj_iload {i : Nat} {a : Int} (hd : decode mt.2.1 pc = .ok (.iload i, 2)) (hv : oN lv i = vi a) (h : oJ l mt E k n (pc + 2) lv (vi a :: st) wd M) : oJ l mt E k n pc lv st wd M := by
  intro p e R s m args below meth c A D cI cB Z n0 ad0 ad H locs ls C hH hl hR hg hn
  have hok := oks_N i hR.1
  rw [hv] at hok
  exact lv_iload C.1 C.2.1 hd (oLv_int hl hv) (h p e R s m args below meth c A D cI cB Z n0 ad0 ad H locs ls C hH hl ⟨hR.1, ⟨hok, hR.2.1⟩, hR.2.2⟩ hg hn)
theorem oj_aloadn {i : Fin 4} {o : Nat} (hd : decode mt.2.1 pc = .ok (.aload_n i, 1)) (hv : oN lv i = vr o) (h : oJ l mt E k n (pc + 1) lv (vr o :: st) wd M) : oJ l mt E k n pc lv st wd M := by
  intro p e R s m args below meth c A D cI cB Z n0 ad0 ad H locs ls C hH hl hR hg hn
  have hok := oks_N (i : Nat) hR.1
  rw [hv] at hok
  exact lv_aload_n C.1 C.2.1 hd rfl (oLv_ref hl hv) (h p e R s m args below meth c A D cI cB Z n0 ad0 ad H locs ls C hH hl ⟨hR.1, ⟨hok, hR.2.1⟩, hR.2.2⟩ hg hn)
theorem oj_aload {i : Nat} {o : Nat} (hd : decode mt.2.1 pc = .ok (.aload i, 2)) (hv : oN lv i = vr o) (h : oJ l mt E k n (pc + 2) lv (vr o :: st) wd M) : oJ l mt E k n pc lv st wd M := by
  intro p e R s m args below meth c A D cI cB Z n0 ad0 ad H locs ls C hH hl hR hg hn
  have hok := oks_N i hR.1
  rw [hv] at hok
  exact lv_aload C.1 C.2.1 hd (oLv_ref hl hv) (h p e R s m args below meth c A D cI cB Z n0 ad0 ad H locs ls C hH hl ⟨hR.1, ⟨hok, hR.2.1⟩, hR.2.2⟩ hg hn)
theorem oj_istoren {i : Fin 4} {a : Int} {lv' : List oV} (hd : decode mt.2.1 pc = .ok (.istore_n i, 1)) (hn' : (i : Nat) < mt.2.2.1) (hv : oSet lv i (vi a) = lv') (h : oJ l mt E k n (pc + 1) lv' st wd M) : oJ l mt E k n pc lv (vi a :: st) wd M := by
  subst hv
  intro p e R s m args below meth c A D cI cB Z n0 ad0 ad H locs ls C hH hl hR hg hn
  exact lv_istore_n C.1 C.2.1 hd rfl (oLv_has hl) hn' rfl (fun ls' h' => h p e R s m args below meth c A D cI cB Z n0 ad0 ad H locs ls' C hH (oLv_set (v := vi a) h') ⟨oks_set hR.1 hR.2.1.1, hR.2.1.2, hR.2.2⟩ hg hn)
theorem oj_istore {i : Nat} {a : Int} {lv' : List oV} (hd : decode mt.2.1 pc = .ok (.istore i, 2)) (hn' : i < mt.2.2.1) (hv : oSet lv i (vi a) = lv') (h : oJ l mt E k n (pc + 2) lv' st wd M) : oJ l mt E k n pc lv (vi a :: st) wd M := by
  subst hv
  intro p e R s m args below meth c A D cI cB Z n0 ad0 ad H locs ls C hH hl hR hg hn
  exact lv_istore C.1 C.2.1 hd (oLv_has hl) hn' rfl (fun ls' h' => h p e R s m args below meth c A D cI cB Z n0 ad0 ad H locs ls' C hH (oLv_set (v := vi a) h') ⟨oks_set hR.1 hR.2.1.1, hR.2.1.2, hR.2.2⟩ hg hn)
theorem oj_astoren {i : Fin 4} {o : Nat} {lv' : List oV} (hd : decode mt.2.1 pc = .ok (.astore_n i, 1)) (hn' : (i : Nat) < mt.2.2.1) (hv : oSet lv i (vr o) = lv') (h : oJ l mt E k n (pc + 1) lv' st wd M) : oJ l mt E k n pc lv (vr o :: st) wd M := by
  subst hv
  intro p e R s m args below meth c A D cI cB Z n0 ad0 ad H locs ls C hH hl hR hg hn
  exact lv_astore_n C.1 C.2.1 hd rfl (oLv_has hl) hn' rfl (fun ls' h' => h p e R s m args below meth c A D cI cB Z n0 ad0 ad H locs ls' C hH (oLv_set (v := vr o) h') ⟨oks_set hR.1 hR.2.1.1, hR.2.1.2, hR.2.2⟩ hg hn)
theorem oj_iinc {i : Nat} {d a : Int} {lv' : List oV} (hd : decode mt.2.1 pc = .ok (.iinc i d, 3)) (hn' : i < mt.2.2.1) (hv0 : oN lv i = vi a) (hv : oSet lv i (vi (w32 (a + d))) = lv') (h : oJ l mt E k n (pc + 3) lv' st wd M) : oJ l mt E k n pc lv st wd M := by
  subst hv
  intro p e R s m args below meth c A D cI cB Z n0 ad0 ad H locs ls C hH hl hR hg hn
  obtain ⟨q, hq⟩ := List.getElem?_of_mem ((oPr_mem (ad := ad) (lv := lv) (q := (i, rlv ad (vi a)))).mpr ⟨fun z => (by rw [hv0] at z; cases z), (by rw [hv0])⟩)
  exact lv_iinc C.1 C.2.1 hd (oLv_has hl) hq (oc_add a d) hn' rfl (fun ls' h' => h p e R s m args below meth c A D cI cB Z n0 ad0 ad H locs ls' C hH (oLv_set (v := vi (w32 (a + d))) h') ⟨oks_set hR.1 (inR_w32 _), hR.2⟩ hg hn)
theorem oj_iconst {v : Int} (hv : inR v) (hd : decode mt.2.1 pc = .ok (.iconst v, 1)) (h : oJ l mt E k n (pc + 1) lv (vi v :: st) wd M) : oJ l mt E k n pc lv (st) wd M := by
  refine oJ_row (pc' := pc + 1) (st' := vi v :: st) (fun len hs => ⟨hv, hs⟩) ?_ (fun _ => h)
  intro p e R s m args below meth c Z ad H locs ls hx hb hl _ _ hs hk
  exact lv_iconst hx hb hd rfl hk
theorem oc_b8 {v : Int} (h1 : -128 ≤ v) (h2 : v < 128) : (Int8.ofInt v).toInt32 = Int32.ofInt v := by
  apply Int32.toInt_inj.1
  rw [oc_toInt ⟨by omega, by omega⟩, Int8.toInt_toInt32, Int8.toInt_ofInt_of_le (by omega) (by omega)]
theorem oc_b16 {v : Int} (h1 : -32768 ≤ v) (h2 : v < 32768) : (Int16.ofInt v).toInt32 = Int32.ofInt v := by
  apply Int32.toInt_inj.1
  rw [oc_toInt ⟨by omega, by omega⟩, Int16.toInt_toInt32, Int16.toInt_ofInt_of_le (by omega) (by omega)]
theorem oj_bipush {v : Int} (hv : -128 ≤ v ∧ v < 128) (hd : decode mt.2.1 pc = .ok (.bipush v, 2)) (h : oJ l mt E k n (pc + 2) lv (vi v :: st) wd M) : oJ l mt E k n pc lv (st) wd M := by
  refine oJ_row (pc' := pc + 2) (st' := vi v :: st) (fun len hs => ⟨⟨by omega, by omega⟩, hs⟩) ?_ (fun _ => h)
  intro p e R s m args below meth c Z ad H locs ls hx hb hl _ _ hs hk
  exact lv_bipush hx hb hd (oc_b8 hv.1 hv.2) hk
theorem oj_sipush {v : Int} (hv : -32768 ≤ v ∧ v < 32768) (hd : decode mt.2.1 pc = .ok (.sipush v, 3)) (h : oJ l mt E k n (pc + 3) lv (vi v :: st) wd M) : oJ l mt E k n pc lv (st) wd M := by
  refine oJ_row (pc' := pc + 3) (st' := vi v :: st) (fun len hs => ⟨⟨by omega, by omega⟩, hs⟩) ?_ (fun _ => h)
  intro p e R s m args below meth c Z ad H locs ls hx hb hl _ _ hs hk
  exact lv_sipush hx hb hd (oc_b16 hv.1 hv.2) hk
theorem oj_dup {v : oV} (hd : decode mt.2.1 pc = .ok (.dup, 1)) (h : oJ l mt E k n (pc + 1) lv (v :: v :: st) wd M) : oJ l mt E k n pc lv (v :: st) wd M := by
  refine oJ_row (pc' := pc + 1) (st' := v :: v :: st) (fun len hs => ⟨hs.1, hs⟩) ?_ (fun _ => h)
  intro p e R s m args below meth c Z ad H locs ls hx hb hl _ _ hs hk
  exact lv_dup hx hb hd (rlv_cat v) hk
theorem oj_pop {v : oV} (hd : decode mt.2.1 pc = .ok (.pop, 1)) (h : oJ l mt E k n (pc + 1) lv (st) wd M) : oJ l mt E k n pc lv (v :: st) wd M := by
  refine oJ_row (pc' := pc + 1) (st' := st) (fun len hs => hs.2) ?_ (fun _ => h)
  intro p e R s m args below meth c Z ad H locs ls hx hb hl _ _ hs hk
  exact lv_pop hx hb hd (rlv_cat v) hk
theorem oj_dup2 {v u : oV} (hd : decode mt.2.1 pc = .ok (.dup2, 1)) (h : oJ l mt E k n (pc + 1) lv (v :: u :: v :: u :: st) wd M) : oJ l mt E k n pc lv (v :: u :: st) wd M := by
  refine oJ_row (pc' := pc + 1) (st' := v :: u :: v :: u :: st) (fun len hs => ⟨hs.1, hs.2.1, hs⟩) ?_ (fun _ => h)
  intro p e R s m args below meth c Z ad H locs ls hx hb hl _ _ hs hk
  exact lv_dup2_11 hx hb hd (rlv_cat v) (rlv_cat u) hk
theorem oj_iadd {a b : Int} (hd : decode mt.2.1 pc = .ok (.iadd, 1)) (h : oJ l mt E k n (pc + 1) lv (vi (w32 (a + b)) :: st) wd M) : oJ l mt E k n pc lv (vi b :: vi a :: st) wd M := by
  refine oJ_row (pc' := pc + 1) (st' := vi (w32 (a + b)) :: st) (fun len hs => ⟨inR_w32 _, hs.2.2⟩) ?_ (fun _ => h)
  intro p e R s m args below meth c Z ad H locs ls hx hb hl _ _ hs hk
  exact lv_iadd hx hb hd (by rw [oc_add]; exact hk)
theorem oj_isub {a b : Int} (hd : decode mt.2.1 pc = .ok (.isub, 1)) (h : oJ l mt E k n (pc + 1) lv (vi (w32 (a - b)) :: st) wd M) : oJ l mt E k n pc lv (vi b :: vi a :: st) wd M := by
  refine oJ_row (pc' := pc + 1) (st' := vi (w32 (a - b)) :: st) (fun len hs => ⟨inR_w32 _, hs.2.2⟩) ?_ (fun _ => h)
  intro p e R s m args below meth c Z ad H locs ls hx hb hl _ _ hs hk
  exact lv_isub hx hb hd (by rw [oc_sub]; exact hk)
theorem oj_imul {a b : Int} (hd : decode mt.2.1 pc = .ok (.imul, 1)) (h : oJ l mt E k n (pc + 1) lv (vi (w32 (a * b)) :: st) wd M) : oJ l mt E k n pc lv (vi b :: vi a :: st) wd M := by
  refine oJ_row (pc' := pc + 1) (st' := vi (w32 (a * b)) :: st) (fun len hs => ⟨inR_w32 _, hs.2.2⟩) ?_ (fun _ => h)
  intro p e R s m args below meth c Z ad H locs ls hx hb hl _ _ hs hk
  exact lv_imul hx hb hd (by rw [oc_mul]; exact hk)
theorem oj_iand {a b : Int} (hd : decode mt.2.1 pc = .ok (.iand, 1)) (h : oJ l mt E k n (pc + 1) lv (vi (iand a b) :: st) wd M) : oJ l mt E k n pc lv (vi b :: vi a :: st) wd M := by
  refine oJ_row (pc' := pc + 1) (st' := vi (iand a b) :: st) (fun len hs => ⟨inR_toInt _, hs.2.2⟩) ?_ (fun _ => h)
  intro p e R s m args below meth c Z ad H locs ls hx hb hl _ _ hs hk
  exact lv_iand hx hb hd (by have h9 := hk; unfold iand at h9; simp only [List.map_cons, rlv, Int32.ofInt_toInt] at h9; exact h9)
theorem oj_ior {a b : Int} (hd : decode mt.2.1 pc = .ok (.ior, 1)) (h : oJ l mt E k n (pc + 1) lv (vi (ior a b) :: st) wd M) : oJ l mt E k n pc lv (vi b :: vi a :: st) wd M := by
  refine oJ_row (pc' := pc + 1) (st' := vi (ior a b) :: st) (fun len hs => ⟨inR_toInt _, hs.2.2⟩) ?_ (fun _ => h)
  intro p e R s m args below meth c Z ad H locs ls hx hb hl _ _ hs hk
  exact lv_ior hx hb hd (by have h9 := hk; unfold ior at h9; simp only [List.map_cons, rlv, Int32.ofInt_toInt] at h9; exact h9)
theorem oj_ixor {a b : Int} (hd : decode mt.2.1 pc = .ok (.ixor, 1)) (h : oJ l mt E k n (pc + 1) lv (vi (ixor a b) :: st) wd M) : oJ l mt E k n pc lv (vi b :: vi a :: st) wd M := by
  refine oJ_row (pc' := pc + 1) (st' := vi (ixor a b) :: st) (fun len hs => ⟨inR_toInt _, hs.2.2⟩) ?_ (fun _ => h)
  intro p e R s m args below meth c Z ad H locs ls hx hb hl _ _ hs hk
  exact lv_ixor hx hb hd (by have h9 := hk; unfold ixor at h9; simp only [List.map_cons, rlv, Int32.ofInt_toInt] at h9; exact h9)
theorem oj_ishl {a b : Int} (hd : decode mt.2.1 pc = .ok (.ishl, 1)) (h : oJ l mt E k n (pc + 1) lv (vi (ishl a b) :: st) wd M) : oJ l mt E k n pc lv (vi b :: vi a :: st) wd M := by
  refine oJ_row (pc' := pc + 1) (st' := vi (ishl a b) :: st) (fun len hs => ⟨inR_toInt _, hs.2.2⟩) ?_ (fun _ => h)
  intro p e R s m args below meth c Z ad H locs ls hx hb hl _ _ hs hk
  exact lv_ishl hx hb hd (by have h9 := hk; unfold ishl at h9; simp only [List.map_cons, rlv, Int32.ofInt_toInt] at h9; exact h9)
theorem oj_ishr {a b : Int} (hd : decode mt.2.1 pc = .ok (.ishr, 1)) (h : oJ l mt E k n (pc + 1) lv (vi (ishr a b) :: st) wd M) : oJ l mt E k n pc lv (vi b :: vi a :: st) wd M := by
  refine oJ_row (pc' := pc + 1) (st' := vi (ishr a b) :: st) (fun len hs => ⟨inR_toInt _, hs.2.2⟩) ?_ (fun _ => h)
  intro p e R s m args below meth c Z ad H locs ls hx hb hl _ _ hs hk
  exact lv_ishr hx hb hd (by have h9 := hk; unfold ishr at h9; simp only [List.map_cons, rlv, Int32.ofInt_toInt] at h9; exact h9)
theorem oj_iushr {a b : Int} (hd : decode mt.2.1 pc = .ok (.iushr, 1)) (h : oJ l mt E k n (pc + 1) lv (vi (iushr a b) :: st) wd M) : oJ l mt E k n pc lv (vi b :: vi a :: st) wd M := by
  refine oJ_row (pc' := pc + 1) (st' := vi (iushr a b) :: st) (fun len hs => ⟨inR_toInt _, hs.2.2⟩) ?_ (fun _ => h)
  intro p e R s m args below meth c Z ad H locs ls hx hb hl _ _ hs hk
  exact lv_iushr hx hb hd (v := Int32.ofInt (iushr a b)) (by unfold iushr; rw [Int32.ofInt_toInt]) hk
theorem oj_ineg {a : Int} (hd : decode mt.2.1 pc = .ok (.ineg, 1)) (h : oJ l mt E k n (pc + 1) lv (vi (w32 (-a)) :: st) wd M) : oJ l mt E k n pc lv (vi a :: st) wd M := by
  refine oJ_row (pc' := pc + 1) (st' := vi (w32 (-a)) :: st) (fun len hs => ⟨inR_w32 _, hs.2⟩) ?_ (fun _ => h)
  intro p e R s m args below meth c Z ad H locs ls hx hb hl _ _ hs hk
  exact lv_ineg hx hb hd (by rw [oc_neg]; exact hk)
theorem oj_i2b {a : Int} (hd : decode mt.2.1 pc = .ok (.i2b, 1)) (h : oJ l mt E k n (pc + 1) lv (vi (i2b a) :: st) wd M) : oJ l mt E k n pc lv (vi a :: st) wd M := by
  refine oJ_row (pc' := pc + 1) (st' := vi (i2b a) :: st) (fun len hs => ⟨inR_toInt _, hs.2⟩) ?_ (fun _ => h)
  intro p e R s m args below meth c Z ad H locs ls hx hb hl _ _ hs hk
  exact lv_i2b hx hb hd (v := Int32.ofInt (i2b a)) (by unfold i2b; rw [Int32.ofInt_toInt]) hk
theorem oj_i2c {a : Int} (hd : decode mt.2.1 pc = .ok (.i2c, 1)) (h : oJ l mt E k n (pc + 1) lv (vi (i2c a) :: st) wd M) : oJ l mt E k n pc lv (vi a :: st) wd M := by
  refine oJ_row (pc' := pc + 1) (st' := vi (i2c a) :: st) (fun len hs => ⟨inR_toInt _, hs.2⟩) ?_ (fun _ => h)
  intro p e R s m args below meth c Z ad H locs ls hx hb hl _ _ hs hk
  exact lv_i2c hx hb hd (v := Int32.ofInt (i2c a)) (by unfold i2c; rw [Int32.ofInt_toInt]) hk
theorem oj_goto {off : Int} {tgt : Nat} (hd : decode mt.2.1 pc = .ok (.goto off, 3)) (ht : (pc : Int) + off = (tgt : Int)) (h : oJ l mt E k n tgt lv st wd M) : oJ l mt E k n pc lv st wd M := by
  refine oJ_row (pc' := tgt) (st' := st) (fun len hs => hs) ?_ (fun _ => h)
  intro p e R s m args below meth c Z ad H locs ls hx hb hl _ _ hs hk
  exact lv_goto hx hb hd ht hk
theorem oj_idiv {α : Type} {K : α → Prop} {f : Int → Option α} {a b : Int} (hd : decode mt.2.1 pc = .ok (.idiv, 1)) (hk : okp (nz b f) K) (h : b ≠ 0 → okp (f b) K → oJ l mt E k n (pc + 1) lv (vi (w32 (a.tdiv b)) :: st) wd M) : oJ l mt E k n pc lv (vi b :: vi a :: st) wd M := by
  obtain ⟨h0, hk⟩ := okp_nz hk
  intro p e R s m args below meth c A D cI cB Z n0 ad0 ad H locs ls C hH hl hR hg hn
  refine lv_idiv C.1 C.2.1 hd (fun e => h0 ((oc_eq hR.2.1.1 inR_0).mp e)) ?_
  rw [oc_div hR.2.1.2.1 hR.2.1.1]
  exact h h0 hk p e R s m args below meth c A D cI cB Z n0 ad0 ad H locs ls C hH hl ⟨hR.1, ⟨inR_w32 _, hR.2.1.2.2⟩, hR.2.2⟩ hg hn
theorem oj_irem {α : Type} {K : α → Prop} {f : Int → Option α} {a b : Int} (hd : decode mt.2.1 pc = .ok (.irem, 1)) (hk : okp (nz b f) K) (h : b ≠ 0 → okp (f b) K → oJ l mt E k n (pc + 1) lv (vi (a.tmod b) :: st) wd M) : oJ l mt E k n pc lv (vi b :: vi a :: st) wd M := by
  obtain ⟨h0, hk⟩ := okp_nz hk
  intro p e R s m args below meth c A D cI cB Z n0 ad0 ad H locs ls C hH hl hR hg hn
  refine lv_irem C.1 C.2.1 hd (fun e => h0 ((oc_eq hR.2.1.1 inR_0).mp e)) ?_
  rw [oc_rem hR.2.1.2.1 hR.2.1.1]
  exact h h0 hk p e R s m args below meth c A D cI cB Z n0 ad0 ad H locs ls C hH hl ⟨hR.1, ⟨inR_tmod hR.2.1.2.1, hR.2.1.2.2⟩, hR.2.2⟩ hg hn
theorem oj_case {α : Type} {K : α → Prop} {c : Prop} [Decidable c] {x y : Option α} (hk : okp (if c then x else y) K) (ht : c → okp x K → oJ l mt E k n pc lv st wd M) (hf : ¬ c → okp y K → oJ l mt E k n pc lv st wd M) : oJ l mt E k n pc lv st wd M := by
  by_cases hc : c
  · exact ht hc (okp_t hc hk)
  · exact hf hc (okp_f hc hk)
theorem oj_icmp_eq {α : Type} {K : α → Prop} {x y : Option α} {a b : Int} {off : Int} {tgt : Nat} (hd : decode mt.2.1 pc = .ok (.if_icmp .eq off, 3)) (ht : (pc : Int) + off = (tgt : Int)) (hk : okp (if a = b then x else y) K) (h1 : a = b → okp x K → oJ l mt E k n tgt lv st wd M) (h2 : ¬ a = b → okp y K → oJ l mt E k n (pc + 3) lv st wd M) : oJ l mt E k n pc lv (vi b :: vi a :: st) wd M := by
  intro p e R s m args below meth c A D cI cB Z n0 ad0 ad H locs ls C hH hl hR hg hn
  have ha := hR.2.1.2.1; have hb := hR.2.1.1
  refine lv_icmp_eq C.1 C.2.1 hd ht (fun q => ?_) (fun q => ?_)
  · have q1 : a = b := (oc_eq ha hb).mp q
    exact h1 q1 (okp_t q1 hk) p e R s m args below meth c A D cI cB Z n0 ad0 ad H locs ls C hH hl ⟨hR.1, hR.2.1.2.2, hR.2.2⟩ hg hn
  · have q1 : ¬ a = b := fun z => q ((oc_eq ha hb).mpr z)
    exact h2 q1 (okp_f q1 hk) p e R s m args below meth c A D cI cB Z n0 ad0 ad H locs ls C hH hl ⟨hR.1, hR.2.1.2.2, hR.2.2⟩ hg hn
theorem oj_icmp_ne {α : Type} {K : α → Prop} {x y : Option α} {a b : Int} {off : Int} {tgt : Nat} (hd : decode mt.2.1 pc = .ok (.if_icmp .ne off, 3)) (ht : (pc : Int) + off = (tgt : Int)) (hk : okp (if a = b then y else x) K) (h1 : ¬ a = b → okp x K → oJ l mt E k n tgt lv st wd M) (h2 : a = b → okp y K → oJ l mt E k n (pc + 3) lv st wd M) : oJ l mt E k n pc lv (vi b :: vi a :: st) wd M := by
  intro p e R s m args below meth c A D cI cB Z n0 ad0 ad H locs ls C hH hl hR hg hn
  have ha := hR.2.1.2.1; have hb := hR.2.1.1
  refine lv_icmp_ne C.1 C.2.1 hd ht (fun q => ?_) (fun q => ?_)
  · have q1 : ¬ a = b := fun z => q ((oc_eq ha hb).mpr z)
    exact h1 q1 (okp_f q1 hk) p e R s m args below meth c A D cI cB Z n0 ad0 ad H locs ls C hH hl ⟨hR.1, hR.2.1.2.2, hR.2.2⟩ hg hn
  · have q1 : a = b := (oc_eq ha hb).mp q
    exact h2 q1 (okp_t q1 hk) p e R s m args below meth c A D cI cB Z n0 ad0 ad H locs ls C hH hl ⟨hR.1, hR.2.1.2.2, hR.2.2⟩ hg hn
theorem oj_icmp_lt {α : Type} {K : α → Prop} {x y : Option α} {a b : Int} {off : Int} {tgt : Nat} (hd : decode mt.2.1 pc = .ok (.if_icmp .lt off, 3)) (ht : (pc : Int) + off = (tgt : Int)) (hk : okp (if a < b then x else y) K) (h1 : a < b → okp x K → oJ l mt E k n tgt lv st wd M) (h2 : ¬ a < b → okp y K → oJ l mt E k n (pc + 3) lv st wd M) : oJ l mt E k n pc lv (vi b :: vi a :: st) wd M := by
  intro p e R s m args below meth c A D cI cB Z n0 ad0 ad H locs ls C hH hl hR hg hn
  have ha := hR.2.1.2.1; have hb := hR.2.1.1
  refine lv_icmp_lt C.1 C.2.1 hd ht (fun q => ?_) (fun q => ?_)
  · have q1 : a < b := (oc_lt ha hb).mp q
    exact h1 q1 (okp_t q1 hk) p e R s m args below meth c A D cI cB Z n0 ad0 ad H locs ls C hH hl ⟨hR.1, hR.2.1.2.2, hR.2.2⟩ hg hn
  · have q1 : ¬ a < b := fun z => q ((oc_lt ha hb).mpr z)
    exact h2 q1 (okp_f q1 hk) p e R s m args below meth c A D cI cB Z n0 ad0 ad H locs ls C hH hl ⟨hR.1, hR.2.1.2.2, hR.2.2⟩ hg hn
theorem oj_icmp_ge {α : Type} {K : α → Prop} {x y : Option α} {a b : Int} {off : Int} {tgt : Nat} (hd : decode mt.2.1 pc = .ok (.if_icmp .ge off, 3)) (ht : (pc : Int) + off = (tgt : Int)) (hk : okp (if a < b then y else x) K) (h1 : ¬ a < b → okp x K → oJ l mt E k n tgt lv st wd M) (h2 : a < b → okp y K → oJ l mt E k n (pc + 3) lv st wd M) : oJ l mt E k n pc lv (vi b :: vi a :: st) wd M := by
  intro p e R s m args below meth c A D cI cB Z n0 ad0 ad H locs ls C hH hl hR hg hn
  have ha := hR.2.1.2.1; have hb := hR.2.1.1
  refine lv_icmp_ge C.1 C.2.1 hd ht (fun q => ?_) (fun q => ?_)
  · have q1 : ¬ a < b := Int.not_lt.mpr ((oc_le hb ha).mp q)
    exact h1 q1 (okp_f q1 hk) p e R s m args below meth c A D cI cB Z n0 ad0 ad H locs ls C hH hl ⟨hR.1, hR.2.1.2.2, hR.2.2⟩ hg hn
  · have q1 : a < b := Int.not_le.mp (fun z => q ((oc_le hb ha).mpr z))
    exact h2 q1 (okp_t q1 hk) p e R s m args below meth c A D cI cB Z n0 ad0 ad H locs ls C hH hl ⟨hR.1, hR.2.1.2.2, hR.2.2⟩ hg hn
theorem oj_icmp_gt {α : Type} {K : α → Prop} {x y : Option α} {a b : Int} {off : Int} {tgt : Nat} (hd : decode mt.2.1 pc = .ok (.if_icmp .gt off, 3)) (ht : (pc : Int) + off = (tgt : Int)) (hk : okp (if b < a then x else y) K) (h1 : b < a → okp x K → oJ l mt E k n tgt lv st wd M) (h2 : ¬ b < a → okp y K → oJ l mt E k n (pc + 3) lv st wd M) : oJ l mt E k n pc lv (vi b :: vi a :: st) wd M := by
  intro p e R s m args below meth c A D cI cB Z n0 ad0 ad H locs ls C hH hl hR hg hn
  have ha := hR.2.1.2.1; have hb := hR.2.1.1
  refine lv_icmp_gt C.1 C.2.1 hd ht (fun q => ?_) (fun q => ?_)
  · have q1 : b < a := (oc_lt hb ha).mp q
    exact h1 q1 (okp_t q1 hk) p e R s m args below meth c A D cI cB Z n0 ad0 ad H locs ls C hH hl ⟨hR.1, hR.2.1.2.2, hR.2.2⟩ hg hn
  · have q1 : ¬ b < a := fun z => q ((oc_lt hb ha).mpr z)
    exact h2 q1 (okp_f q1 hk) p e R s m args below meth c A D cI cB Z n0 ad0 ad H locs ls C hH hl ⟨hR.1, hR.2.1.2.2, hR.2.2⟩ hg hn
theorem oj_icmp_le {α : Type} {K : α → Prop} {x y : Option α} {a b : Int} {off : Int} {tgt : Nat} (hd : decode mt.2.1 pc = .ok (.if_icmp .le off, 3)) (ht : (pc : Int) + off = (tgt : Int)) (hk : okp (if b < a then y else x) K) (h1 : ¬ b < a → okp x K → oJ l mt E k n tgt lv st wd M) (h2 : b < a → okp y K → oJ l mt E k n (pc + 3) lv st wd M) : oJ l mt E k n pc lv (vi b :: vi a :: st) wd M := by
  intro p e R s m args below meth c A D cI cB Z n0 ad0 ad H locs ls C hH hl hR hg hn
  have ha := hR.2.1.2.1; have hb := hR.2.1.1
  refine lv_icmp_le C.1 C.2.1 hd ht (fun q => ?_) (fun q => ?_)
  · have q1 : ¬ b < a := Int.not_lt.mpr ((oc_le ha hb).mp q)
    exact h1 q1 (okp_f q1 hk) p e R s m args below meth c A D cI cB Z n0 ad0 ad H locs ls C hH hl ⟨hR.1, hR.2.1.2.2, hR.2.2⟩ hg hn
  · have q1 : b < a := Int.not_le.mp (fun z => q ((oc_le ha hb).mpr z))
    exact h2 q1 (okp_t q1 hk) p e R s m args below meth c A D cI cB Z n0 ad0 ad H locs ls C hH hl ⟨hR.1, hR.2.1.2.2, hR.2.2⟩ hg hn
theorem oj_if_eq {α : Type} {K : α → Prop} {x y : Option α} {a : Int} {off : Int} {tgt : Nat} (hd : decode mt.2.1 pc = .ok (.ifCond .eq off, 3)) (ht : (pc : Int) + off = (tgt : Int)) (hk : okp (if a = 0 then x else y) K) (h1 : a = 0 → okp x K → oJ l mt E k n tgt lv st wd M) (h2 : ¬ a = 0 → okp y K → oJ l mt E k n (pc + 3) lv st wd M) : oJ l mt E k n pc lv (vi a :: st) wd M := by
  intro p e R s m args below meth c A D cI cB Z n0 ad0 ad H locs ls C hH hl hR hg hn
  have ha := hR.2.1.1
  refine lv_if_eq C.1 C.2.1 hd ht (fun q => ?_) (fun q => ?_)
  · have q1 : a = 0 := (oc_eq ha inR_0).mp q
    exact h1 q1 (okp_t q1 hk) p e R s m args below meth c A D cI cB Z n0 ad0 ad H locs ls C hH hl ⟨hR.1, hR.2.1.2, hR.2.2⟩ hg hn
  · have q1 : ¬ a = 0 := fun z => q ((oc_eq ha inR_0).mpr z)
    exact h2 q1 (okp_f q1 hk) p e R s m args below meth c A D cI cB Z n0 ad0 ad H locs ls C hH hl ⟨hR.1, hR.2.1.2, hR.2.2⟩ hg hn
theorem oj_if_ne {α : Type} {K : α → Prop} {x y : Option α} {a : Int} {off : Int} {tgt : Nat} (hd : decode mt.2.1 pc = .ok (.ifCond .ne off, 3)) (ht : (pc : Int) + off = (tgt : Int)) (hk : okp (if a = 0 then y else x) K) (h1 : ¬ a = 0 → okp x K → oJ l mt E k n tgt lv st wd M) (h2 : a = 0 → okp y K → oJ l mt E k n (pc + 3) lv st wd M) : oJ l mt E k n pc lv (vi a :: st) wd M := by
  intro p e R s m args below meth c A D cI cB Z n0 ad0 ad H locs ls C hH hl hR hg hn
  have ha := hR.2.1.1
  refine lv_if_ne C.1 C.2.1 hd ht (fun q => ?_) (fun q => ?_)
  · have q1 : ¬ a = 0 := fun z => q ((oc_eq ha inR_0).mpr z)
    exact h1 q1 (okp_f q1 hk) p e R s m args below meth c A D cI cB Z n0 ad0 ad H locs ls C hH hl ⟨hR.1, hR.2.1.2, hR.2.2⟩ hg hn
  · have q1 : a = 0 := (oc_eq ha inR_0).mp q
    exact h2 q1 (okp_t q1 hk) p e R s m args below meth c A D cI cB Z n0 ad0 ad H locs ls C hH hl ⟨hR.1, hR.2.1.2, hR.2.2⟩ hg hn
theorem oj_if_lt {α : Type} {K : α → Prop} {x y : Option α} {a : Int} {off : Int} {tgt : Nat} (hd : decode mt.2.1 pc = .ok (.ifCond .lt off, 3)) (ht : (pc : Int) + off = (tgt : Int)) (hk : okp (if a < 0 then x else y) K) (h1 : a < 0 → okp x K → oJ l mt E k n tgt lv st wd M) (h2 : ¬ a < 0 → okp y K → oJ l mt E k n (pc + 3) lv st wd M) : oJ l mt E k n pc lv (vi a :: st) wd M := by
  intro p e R s m args below meth c A D cI cB Z n0 ad0 ad H locs ls C hH hl hR hg hn
  have ha := hR.2.1.1
  refine lv_if_lt C.1 C.2.1 hd ht (fun q => ?_) (fun q => ?_)
  · have q1 : a < 0 := (oc_lt ha inR_0).mp q
    exact h1 q1 (okp_t q1 hk) p e R s m args below meth c A D cI cB Z n0 ad0 ad H locs ls C hH hl ⟨hR.1, hR.2.1.2, hR.2.2⟩ hg hn
  · have q1 : ¬ a < 0 := fun z => q ((oc_lt ha inR_0).mpr z)
    exact h2 q1 (okp_f q1 hk) p e R s m args below meth c A D cI cB Z n0 ad0 ad H locs ls C hH hl ⟨hR.1, hR.2.1.2, hR.2.2⟩ hg hn
theorem oj_if_ge {α : Type} {K : α → Prop} {x y : Option α} {a : Int} {off : Int} {tgt : Nat} (hd : decode mt.2.1 pc = .ok (.ifCond .ge off, 3)) (ht : (pc : Int) + off = (tgt : Int)) (hk : okp (if a < 0 then y else x) K) (h1 : ¬ a < 0 → okp x K → oJ l mt E k n tgt lv st wd M) (h2 : a < 0 → okp y K → oJ l mt E k n (pc + 3) lv st wd M) : oJ l mt E k n pc lv (vi a :: st) wd M := by
  intro p e R s m args below meth c A D cI cB Z n0 ad0 ad H locs ls C hH hl hR hg hn
  have ha := hR.2.1.1
  refine lv_if_ge C.1 C.2.1 hd ht (fun q => ?_) (fun q => ?_)
  · have q1 : ¬ a < 0 := Int.not_lt.mpr ((oc_le inR_0 ha).mp q)
    exact h1 q1 (okp_f q1 hk) p e R s m args below meth c A D cI cB Z n0 ad0 ad H locs ls C hH hl ⟨hR.1, hR.2.1.2, hR.2.2⟩ hg hn
  · have q1 : a < 0 := Int.not_le.mp (fun z => q ((oc_le inR_0 ha).mpr z))
    exact h2 q1 (okp_t q1 hk) p e R s m args below meth c A D cI cB Z n0 ad0 ad H locs ls C hH hl ⟨hR.1, hR.2.1.2, hR.2.2⟩ hg hn
theorem oj_if_gt {α : Type} {K : α → Prop} {x y : Option α} {a : Int} {off : Int} {tgt : Nat} (hd : decode mt.2.1 pc = .ok (.ifCond .gt off, 3)) (ht : (pc : Int) + off = (tgt : Int)) (hk : okp (if 0 < a then x else y) K) (h1 : 0 < a → okp x K → oJ l mt E k n tgt lv st wd M) (h2 : ¬ 0 < a → okp y K → oJ l mt E k n (pc + 3) lv st wd M) : oJ l mt E k n pc lv (vi a :: st) wd M := by
  intro p e R s m args below meth c A D cI cB Z n0 ad0 ad H locs ls C hH hl hR hg hn
  have ha := hR.2.1.1
  refine lv_if_gt C.1 C.2.1 hd ht (fun q => ?_) (fun q => ?_)
  · have q1 : 0 < a := (oc_lt inR_0 ha).mp q
    exact h1 q1 (okp_t q1 hk) p e R s m args below meth c A D cI cB Z n0 ad0 ad H locs ls C hH hl ⟨hR.1, hR.2.1.2, hR.2.2⟩ hg hn
  · have q1 : ¬ 0 < a := fun z => q ((oc_lt inR_0 ha).mpr z)
    exact h2 q1 (okp_f q1 hk) p e R s m args below meth c A D cI cB Z n0 ad0 ad H locs ls C hH hl ⟨hR.1, hR.2.1.2, hR.2.2⟩ hg hn
theorem oj_if_le {α : Type} {K : α → Prop} {x y : Option α} {a : Int} {off : Int} {tgt : Nat} (hd : decode mt.2.1 pc = .ok (.ifCond .le off, 3)) (ht : (pc : Int) + off = (tgt : Int)) (hk : okp (if 0 < a then y else x) K) (h1 : ¬ 0 < a → okp x K → oJ l mt E k n tgt lv st wd M) (h2 : 0 < a → okp y K → oJ l mt E k n (pc + 3) lv st wd M) : oJ l mt E k n pc lv (vi a :: st) wd M := by
  intro p e R s m args below meth c A D cI cB Z n0 ad0 ad H locs ls C hH hl hR hg hn
  have ha := hR.2.1.1
  refine lv_if_le C.1 C.2.1 hd ht (fun q => ?_) (fun q => ?_)
  · have q1 : ¬ 0 < a := Int.not_lt.mpr ((oc_le ha inR_0).mp q)
    exact h1 q1 (okp_f q1 hk) p e R s m args below meth c A D cI cB Z n0 ad0 ad H locs ls C hH hl ⟨hR.1, hR.2.1.2, hR.2.2⟩ hg hn
  · have q1 : 0 < a := Int.not_le.mp (fun z => q ((oc_le ha inR_0).mpr z))
    exact h2 q1 (okp_t q1 hk) p e R s m args below meth c A D cI cB Z n0 ad0 ad H locs ls C hH hl ⟨hR.1, hR.2.1.2, hR.2.2⟩ hg hn
end ROWS
end
section
/-! rows: fields, arrays -/
theorem oc_clamp {a : Int} (h0 : 0 ≤ a) (h : inR a) : (Int32.ofInt a).toNatClampNeg = a.toNat := by
  show (Int32.ofInt a).toInt.toNat = a.toNat
  rw [oc_toInt h]
theorem oc_in {a : Int} {n : Nat} (h0 : 0 ≤ a) (h1 : a < n) (h : inR a) : vp_in (Int32.ofInt a) n := by
  intro q
  rcases q with q | q
  · have := (oc_lt h inR_0).mp q
    omega
  · rw [oc_clamp h0 h] at q
    omega
theorem oU_ne {M : oM} {o : Nat} {i v : Int} {o' : Nat} (h : o' ≠ o) : (oU M o i v) o' = M o' := by
  funext i'
  simp [oU, h]
theorem oU_in {M : oM} {o : Nat} {i v : Int} (hM : ∀ o i, inR (M o i)) (hv : inR v) : ∀ o' i', inR (oU M o i v o' i') := by
  intro o' i'
  unfold oU
  split
  · exact hv
  · exact hM o' i'
def oFl (own : String) (idx ci kf : Nat) (fin : Bool) (fty : FieldType) : Prop := ∃ (C : String) (T : u_T) (N : Nat) (ty : Nat → FieldType) (name desc : String), oCls ci C T N ty ∧ kf < N ∧ T kf = (C, name, desc, fin) ∧ parseFieldDescriptor desc = some fty ∧ (Cond.fieldLink own idx C name desc ∈ oT ∨ ∃ host, Cond.fieldLinkNest own idx C name desc host ∈ oTN)
theorem oCe_obj {ad : Nat → Nat} {cI cB : ClassId} {f : Int → Int} {ci : Nat} {fs : List (Option (Option Nat))} : oCe ad cI cB f (.inr (ci, fs)) = .inr (ci, fs.mapIdx (oFv ad f)) := rfl
theorem oFs_set {ad : Nat → Nat} {M : oM} {o kf : Nat} {ki v : Int} {fs : List (Option (Option Nat))} (hki : ((kf : Nat) : Int) = ki) (hk : fs[kf]? = some none) : (fs.mapIdx (oFv ad (M o))).set kf (.int (Int32.ofInt v)) = fs.mapIdx (oFv ad ((oU M o ki v) o)) := by
  apply List.ext_getElem?
  intro i
  by_cases hi : i = kf
  · subst hi
    rw [List.getElem?_set_self (by rw [List.length_mapIdx]; exact (List.getElem?_eq_some_iff.mp hk).1), List.getElem?_mapIdx, hk]
    simp [oFv, oU, hki]
  · rw [List.getElem?_set_ne (Ne.symm hi), List.getElem?_mapIdx, List.getElem?_mapIdx]
    cases hx : fs[i]? with
    | none => rfl
    | some x =>
      rcases x with _ | x
      · simp only [Option.map_some, oFv, oU]
        rw [if_neg (fun q => hi (by omega))]
      · rcases x with _ | x <;> rfl
section HEAP
variable {l : Launch} {mt : oMI} {E : oE} {k n pc : Nat} {lv st : List oV} {wd : oW} {M : oM}
theorem oj_getI {idx ci kf o : Nat} {ki : Int} {fin : Bool} {fty : FieldType} {fs : List (Option (Option Nat))} (hf : oFl mt.1.cls idx ci kf fin fty) (hw : wd[o]? = some (.inr (ci, fs))) (hk : fs[kf]? = some none) (hki : ((kf : Nat) : Int) = ki) (hd : decode mt.2.1 pc = .ok (.getfield idx, 3)) (h : oJ l mt E k n (pc + 3) lv (vi (M o ki) :: st) wd M) : oJ l mt E k n pc lv (vr o :: st) wd M := by
  intro p e R s m args below meth c A D cI cB Z n0 ad0 ad H locs ls C hH hl hR hg hn
  have hkk := h p e R s m args below meth c A D cI cB Z n0 ad0 ad H locs ls C hH hl ⟨hR.1, ⟨hR.2.2.1 _ _, hR.2.1.2⟩, hR.2.2⟩ hg hn
  obtain ⟨Cn, T, N, ty, name, desc, ⟨hc, hin, hty, hnm⟩, hkN, hT, hpd, hlk⟩ := hf
  have e1 : (T kf).2.1 = name := by rw [hT]
  have e2 : (T kf).2.2.1 = desc := by rw [hT]
  have e3 : (T kf).1 = Cn := by rw [hT]
  have hv : (fs.mapIdx (oFv ad (M o)))[kf]? = some (.int (Int32.ofInt (M o ki))) := by
    rw [List.getElem?_mapIdx, hk, ← hki]; rfl
  rcases hlk with hlk | ⟨host, hlk⟩
  · exact va_get (D := D) (C := Cn) (T := T) (N := N) (ref := Cn) (index := idx) C.1 C.2.1 C.2.2.2.2.1 hin C.2.2.2.1 C.2.2.2.2.2.2.1 hH.1 o (oCells_get hw) hc kf hkN (by rw [e1, e2]; exact C.2.2.2.2.1 _ hlk) (fun _ hx => by rw [e3] at hx; exact hx) hv hd hkk
  · exact va_getN (D := D) (C := Cn) (T := T) (N := N) (ref := Cn) (index := idx) (host := host) C.1 C.2.1 C.2.2.2.2.1 hin C.2.2.2.1 C.2.2.2.2.2.2.1 hH.1 o (oCells_get hw) hc kf hkN (by rw [e1, e2]; exact va_Nw.use rfl (C.2.2.2.2.2.2.2.2.1.2.2.2 _ hlk)) (fun _ hx => by rw [e3] at hx; exact hx) hv hd hkk
theorem oj_getR {idx ci kf o r : Nat} {fin : Bool} {fty : FieldType} {fs : List (Option (Option Nat))} (hf : oFl mt.1.cls idx ci kf fin fty) (hw : wd[o]? = some (.inr (ci, fs))) (hk : fs[kf]? = some (some (some r))) (hd : decode mt.2.1 pc = .ok (.getfield idx, 3)) (h : oJ l mt E k n (pc + 3) lv (vr r :: st) wd M) : oJ l mt E k n pc lv (vr o :: st) wd M := by
  intro p e R s m args below meth c A D cI cB Z n0 ad0 ad H locs ls C hH hl hR hg hn
  have hkk := h p e R s m args below meth c A D cI cB Z n0 ad0 ad H locs ls C hH hl ⟨hR.1, ⟨hR.2.2.2.2 o _ hw kf r hk, hR.2.1.2⟩, hR.2.2⟩ hg hn
  obtain ⟨Cn, T, N, ty, name, desc, ⟨hc, hin, hty, hnm⟩, hkN, hT, hpd, hlk⟩ := hf
  have e1 : (T kf).2.1 = name := by rw [hT]
  have e2 : (T kf).2.2.1 = desc := by rw [hT]
  have e3 : (T kf).1 = Cn := by rw [hT]
  have hv : (fs.mapIdx (oFv ad (M o)))[kf]? = some (.ref (ad r)) := by
    rw [List.getElem?_mapIdx, hk]; rfl
  rcases hlk with hlk | ⟨host, hlk⟩
  · exact va_get (D := D) (C := Cn) (T := T) (N := N) (ref := Cn) (index := idx) C.1 C.2.1 C.2.2.2.2.1 hin C.2.2.2.1 C.2.2.2.2.2.2.1 hH.1 o (oCells_get hw) hc kf hkN (by rw [e1, e2]; exact C.2.2.2.2.1 _ hlk) (fun _ hx => by rw [e3] at hx; exact hx) hv hd hkk
  · exact va_getN (D := D) (C := Cn) (T := T) (N := N) (ref := Cn) (index := idx) (host := host) C.1 C.2.1 C.2.2.2.2.1 hin C.2.2.2.1 C.2.2.2.2.2.2.1 hH.1 o (oCells_get hw) hc kf hkN (by rw [e1, e2]; exact va_Nw.use rfl (C.2.2.2.2.2.2.2.2.1.2.2.2 _ hlk)) (fun _ hx => by rw [e3] at hx; exact hx) hv hd hkk
theorem oj_put {idx ci kf o : Nat} {ki v : Int} {fty : FieldType} {fs : List (Option (Option Nat))} (hf : oFl mt.1.cls idx ci kf false fty) (hw : wd[o]? = some (.inr (ci, fs))) (hk : fs[kf]? = some none) (hki : ((kf : Nat) : Int) = ki) (hnr : narrow fty (.int (Int32.ofInt v)) = .int (Int32.ofInt v)) (hft : fits fty (.int (Int32.ofInt v)) = true) (hd : decode mt.2.1 pc = .ok (.putfield idx, 3)) (h : oJ l mt E k n (pc + 3) lv st wd (oU M o ki v)) : oJ l mt E k n pc lv (vi v :: vr o :: st) wd M := by
  intro p e R s m args below meth c A D cI cB Z n0 ad0 ad H locs ls C hH hl hR hg hn
  obtain ⟨Cn, T, N, ty, name, desc, ⟨hc, hin, hty, hnm⟩, hkN, hT, hpd, hlk⟩ := hf
  have e1 : (T kf).2.1 = name := by rw [hT]
  have e2 : (T kf).2.2.1 = desc := by rw [hT]
  have e3 : (T kf).1 = Cn := by rw [hT]
  have e4 : (T kf).2.2.2 = false := by rw [hT]
  have hset : (oCells ad cI cB wd M).set o (ad o, .inr (ci, (fs.mapIdx (oFv ad (M o))).set kf (.int (Int32.ofInt v)))) = oCells ad cI cB wd (oU M o ki v) :=
    oCells_set (M' := oU M o ki v) hw (by rw [oCe_obj, oFs_set hki hk]) (fun o' ho => oU_ne ho)
  have hlen : kf < (fs.mapIdx (oFv ad (M o))).length := by rw [List.length_mapIdx]; exact (List.getElem?_eq_some_iff.mp hk).1
  have hkk : ∀ (H1 : Heap) (locs1 : List Loc), va_P D vwCl ((oCells ad cI cB wd M).set o (ad o, .inr (ci, (fs.mapIdx (oFv ad (M o))).set kf (.int (Int32.ofInt v))))) H1 → va_D A ((oCells ad cI cB wd M).set o (ad o, .inr (ci, (fs.mapIdx (oFv ad (M o))).set kf (.int (Int32.ofInt v))))) → va_S A s.heap H1 locs1 → W p l e R s m args below meth c H1 locs1 k n Z (F0 m (pc + 3) ls (st.map (rlv ad))) := by
    intro H1 locs1 h1 h2 h3
    rw [hset] at h1 h2
    exact h p e R s m args below meth c A D cI cB Z n0 ad0 ad H1 locs1 ls C ⟨h1, h2, h3⟩ hl ⟨hR.1, hR.2.1.2.2, oU_in hR.2.2.1 hR.2.1.1, hR.2.2.2⟩ hg hn
  rcases hlk with hlk | ⟨host, hlk⟩
  · exact va_put (D := D) (C := Cn) (T := T) (N := N) (ref := Cn) (index := idx) (ty := fty) C.1 C.2.1 C.2.2.2.2.1 hin ty hty hnm C.2.2.2.1 C.2.2.2.2.2.2.1 hH.1 hH.2.1 hH.2.2 o (oCells_get hw) hc kf hkN (by rw [e1, e2]; exact C.2.2.2.2.1 _ hlk) (fun _ hx => by rw [e3] at hx; exact hx) e4 (by rw [e2]; exact hpd) hnr hft hlen hd hkk
  · exact va_putN (D := D) (C := Cn) (T := T) (N := N) (ref := Cn) (index := idx) (host := host) (ty := fty) C.1 C.2.1 C.2.2.2.2.1 hin ty hty hnm C.2.2.2.1 C.2.2.2.2.2.2.1 hH.1 hH.2.1 hH.2.2 o (oCells_get hw) hc kf hkN (by rw [e1, e2]; exact va_Nw.use rfl (C.2.2.2.2.2.2.2.2.1.2.2.2 _ hlk)) (fun _ hx => by rw [e3] at hx; exact hx) e4 (by rw [e2]; exact hpd) hnr hft hlen hd hkk
theorem oj_putI {idx ci kf o : Nat} {ki v : Int} {fs : List (Option (Option Nat))} (hf : oFl mt.1.cls idx ci kf false .int) (hw : wd[o]? = some (.inr (ci, fs))) (hk : fs[kf]? = some none) (hki : ((kf : Nat) : Int) = ki) (hd : decode mt.2.1 pc = .ok (.putfield idx, 3)) (h : oJ l mt E k n (pc + 3) lv st wd (oU M o ki v)) : oJ l mt E k n pc lv (vi v :: vr o :: st) wd M := oj_put hf hw hk hki rfl rfl hd h
theorem oc_nz {v : Int} (h0 : 0 ≤ v) (h1 : v < 2) : narrow .boolean (.int (Int32.ofInt v)) = .int (Int32.ofInt v) := by
  rcases (show v = 0 ∨ v = 1 by omega) with rfl | rfl <;> rfl
theorem oc_fz {v : Int} (h0 : 0 ≤ v) (h1 : v < 2) : fits .boolean (.int (Int32.ofInt v)) = true := by
  rcases (show v = 0 ∨ v = 1 by omega) with rfl | rfl <;> rfl
theorem oj_putZ {α : Type} {K : α → Prop} {f : Int → Option α} {idx ci kf o : Nat} {ki v : Int} {fs : List (Option (Option Nat))} (hf : oFl mt.1.cls idx ci kf false .boolean) (hw : wd[o]? = some (.inr (ci, fs))) (hk : fs[kf]? = some none) (hki : ((kf : Nat) : Int) = ki) (hd : decode mt.2.1 pc = .ok (.putfield idx, 3)) (hK : okp (bnd 2 v f) K) (h : okp (f v) K → oJ l mt E k n (pc + 3) lv st wd (oU M o ki v)) : oJ l mt E k n pc lv (vi v :: vr o :: st) wd M := by
  obtain ⟨h0, h1, hK⟩ := okp_bnd hK
  exact oj_put hf hw hk hki (oc_nz h0 h1) (oc_fz h0 h1) hd (h hK)
theorem oj_iald {α : Type} {K : α → Prop} {f : Int → Option α} {o N : Nat} {NN a : Int} (hw : wd[o]? = some (.inl (false, N))) (hNN : ((N : Nat) : Int) = NN) (hd : decode mt.2.1 pc = .ok (.iaload, 1)) (hK : okp (bnd NN a f) K) (h : okp (f a) K → oJ l mt E k n (pc + 1) lv (vi (M o a) :: st) wd M) : oJ l mt E k n pc lv (vi a :: vr o :: st) wd M := by
  obtain ⟨h0, h1, hK⟩ := okp_bnd hK
  intro p e R s m args below meth c A D cI cB Z n0 ad0 ad H locs ls C hH hl hR hg hn
  have ha := hR.2.1.1
  have hkk := h hK p e R s m args below meth c A D cI cB Z n0 ad0 ad H locs ls C hH hl ⟨hR.1, ⟨hR.2.2.1 _ _, hR.2.1.2.2⟩, hR.2.2⟩ hg hn
  refine va_iald C.1 C.2.1 C.2.2.2.2.2.2.1 hH.1 o 0 (oCells_get hw) rfl (oc_in h0 (by omega) ha) hd ?_
  rw [oc_clamp h0 ha, Int.toNat_of_nonneg h0]
  exact hkk
theorem oj_bald {α : Type} {K : α → Prop} {f : Int → Option α} {o N : Nat} {NN a : Int} (hw : wd[o]? = some (.inl (true, N))) (hNN : ((N : Nat) : Int) = NN) (hd : decode mt.2.1 pc = .ok (.baload, 1)) (hK : okp (bnd NN a f) K) (h : okp (f a) K → oJ l mt E k n (pc + 1) lv (vi (M o a) :: st) wd M) : oJ l mt E k n pc lv (vi a :: vr o :: st) wd M := by
  obtain ⟨h0, h1, hK⟩ := okp_bnd hK
  intro p e R s m args below meth c A D cI cB Z n0 ad0 ad H locs ls C hH hl hR hg hn
  have ha := hR.2.1.1
  have hkk := h hK p e R s m args below meth c A D cI cB Z n0 ad0 ad H locs ls C hH hl ⟨hR.1, ⟨hR.2.2.1 _ _, hR.2.1.2.2⟩, hR.2.2⟩ hg hn
  refine va_bald C.1 C.2.1 C.2.2.2.2.2.2.1 hH.1 o 1 (oCells_get hw) rfl (oc_in h0 (by omega) ha) hd ?_
  rw [oc_clamp h0 ha, Int.toNat_of_nonneg h0]
  exact hkk
theorem oA_set {M : oM} {o : Nat} {a v : Int} (h0 : 0 ≤ a) : upd (fun q : Nat => Int32.ofInt (M o q)) a.toNat (Int32.ofInt v) = fun q : Nat => Int32.ofInt ((oU M o a v) o q) := by
  funext q
  unfold upd oU
  by_cases hq : q = a.toNat
  · rw [if_pos hq, if_pos ⟨rfl, by omega⟩]
  · rw [if_neg hq, if_neg (fun z => hq (by omega))]
theorem oj_iast {α : Type} {K : α → Prop} {f : Int → Option α} {o N : Nat} {NN a v : Int} (hw : wd[o]? = some (.inl (false, N))) (hNN : ((N : Nat) : Int) = NN) (hd : decode mt.2.1 pc = .ok (.iastore, 1)) (hK : okp (bnd NN a f) K) (h : okp (f a) K → oJ l mt E k n (pc + 1) lv st wd (oU M o a v)) : oJ l mt E k n pc lv (vi v :: vi a :: vr o :: st) wd M := by
  obtain ⟨h0, h1, hK⟩ := okp_bnd hK
  intro p e R s m args below meth c A D cI cB Z n0 ad0 ad H locs ls C hH hl hR hg hn
  have ha := hR.2.1.2.1
  refine va_iast C.1 C.2.1 C.2.2.2.2.2.2.1 hH.1 hH.2.1 hH.2.2 o 0 (oCells_get hw) rfl (oc_in h0 (by omega) ha) hd (fun H1 locs1 h1 h2 h3 => ?_)
  have hset : (oCells ad cI cB wd M).set o (ad o, .inl (if false = true then cB else cI, N, .inl (upd (fun q : Nat => Int32.ofInt (M o q)) (Int32.ofInt a).toNatClampNeg (Int32.ofInt v)))) = oCells ad cI cB wd (oU M o a v) :=
    oCells_set (M' := oU M o a v) hw (by rw [oc_clamp h0 ha, oA_set h0]; rfl) (fun o' ho => oU_ne ho)
  have h1 := hset ▸ h1
  have h2 := hset ▸ h2
  exact h hK p e R s m args below meth c A D cI cB Z n0 ad0 ad H1 locs1 ls C ⟨h1, h2, h3⟩ hl ⟨hR.1, hR.2.1.2.2.2, oU_in hR.2.2.1 hR.2.1.1, hR.2.2.2⟩ hg hn
theorem oj_bast {α : Type} {K : α → Prop} {f : Int → Option α} {o N : Nat} {NN a v : Int} (hw : wd[o]? = some (.inl (true, N))) (hNN : ((N : Nat) : Int) = NN) (hd : decode mt.2.1 pc = .ok (.bastore, 1)) (hK : okp (bnd NN a f) K) (h : okp (f a) K → oJ l mt E k n (pc + 1) lv st wd (oU M o a (i2b v))) : oJ l mt E k n pc lv (vi v :: vi a :: vr o :: st) wd M := by
  obtain ⟨h0, h1, hK⟩ := okp_bnd hK
  intro p e R s m args below meth c A D cI cB Z n0 ad0 ad H locs ls C hH hl hR hg hn
  have ha := hR.2.1.2.1
  refine va_bast C.1 C.2.1 C.2.2.2.2.2.2.1 hH.1 hH.2.1 hH.2.2 o 1 (oCells_get hw) rfl (oc_in h0 (by omega) ha) hd (fun H1 locs1 h1 h2 h3 => ?_)
  have hset : (oCells ad cI cB wd M).set o (ad o, .inl (if true = true then cB else cI, N, .inl (upd (fun q : Nat => Int32.ofInt (M o q)) (Int32.ofInt a).toNatClampNeg (vp_nar .byte (Int32.ofInt v))))) = oCells ad cI cB wd (oU M o a (i2b v)) :=
    oCells_set (M' := oU M o a (i2b v)) hw (by rw [oc_clamp h0 ha, vp_nar_byte, show (Int32.ofInt v).toInt8.toInt32 = Int32.ofInt (i2b v) from by unfold i2b; rw [Int32.ofInt_toInt], oA_set h0]; rfl) (fun o' ho => oU_ne ho)
  have h1 := hset ▸ h1
  have h2 := hset ▸ h2
  exact h hK p e R s m args below meth c A D cI cB Z n0 ad0 ad H1 locs1 ls C ⟨h1, h2, h3⟩ hl ⟨hR.1, hR.2.1.2.2.2, oU_in hR.2.2.1 (inR_toInt _), hR.2.2.2⟩ hg hn
theorem oj_alen {o N : Nat} {b : Bool} {NN : Int} (hw : wd[o]? = some (.inl (b, N))) (hNN : ((N : Nat) : Int) = NN) (hN : NN < 2147483648) (hd : decode mt.2.1 pc = .ok (.arraylength, 1)) (h : oJ l mt E k n (pc + 1) lv (vi NN :: st) wd M) : oJ l mt E k n pc lv (vr o :: st) wd M := by
  intro p e R s m args below meth c A D cI cB Z n0 ad0 ad H locs ls C hH hl hR hg hn
  have hkk := h p e R s m args below meth c A D cI cB Z n0 ad0 ad H locs ls C hH hl ⟨hR.1, ⟨⟨by omega, hN⟩, hR.2.1.2⟩, hR.2.2⟩ hg hn
  cases b with
  | false => exact va_alen C.1 C.2.1 C.2.2.2.2.2.2.1 hH.1 o 0 (oCells_get hw) rfl (by show Int32.ofNat N = Int32.ofInt NN; rw [← hNN, Int32.ofInt_eq_ofNat]) hd hkk
  | true => exact va_alen C.1 C.2.1 C.2.2.2.2.2.2.1 hH.1 o 1 (oCells_get hw) rfl (by show Int32.ofNat N = Int32.ofInt NN; rw [← hNN, Int32.ofInt_eq_ofNat]) hd hkk
theorem oj_iret {r : Int} {ty : FieldType} (hd : decode mt.2.1 pc = .ok (.ireturn, 1)) (hr : mt.2.2.2 = some ty) (hn : narrow ty (.int (Int32.ofInt r)) = .int (Int32.ofInt r)) (hk : k ≤ E.2.1) (hn' : n ≤ E.2.2.1) (hq : E.2.2.2.2 r wd M) : oJ l mt E k n pc lv [vi r] wd M := by
  intro p e R s m args below meth c A D cI cB Z n0 ad0 ad H locs ls C hH hl hR hg hnn
  refine W.widen hk hn' ?_
  exact ((C.2.2.2.2.2.2.2.2.2.2.2) r wd M ad H locs pc ls hq hH ⟨trivial, trivial, hR.2.2⟩ hg hnn).2 ty hr hR.2.1.1 hn hd
theorem oj_zret {α : Type} {K : α → Prop} {f : Int → Option α} {r : Int} (hd : decode mt.2.1 pc = .ok (.ireturn, 1)) (hr : mt.2.2.2 = some .boolean) (hk : k ≤ E.2.1) (hn' : n ≤ E.2.2.1) (hK : okp (bnd 2 r f) K) (hq : okp (f r) K → E.2.2.2.2 r wd M) : oJ l mt E k n pc lv [vi r] wd M := by
  obtain ⟨h0, h1, hK⟩ := okp_bnd hK
  exact oj_iret hd hr (oc_nz h0 h1) hk hn' (hq hK)
theorem oj_vret (hd : decode mt.2.1 pc = .ok (.return_, 1)) (hr : mt.2.2.2 = none) (hk : k ≤ E.2.1) (hn' : n ≤ E.2.2.1) (hq : E.2.2.2.2 0 wd M) : oJ l mt E k n pc lv [] wd M := by
  intro p e R s m args below meth c A D cI cB Z n0 ad0 ad H locs ls C hH hl hR hg hnn
  refine W.widen hk hn' ?_
  exact ((C.2.2.2.2.2.2.2.2.2.2.2) 0 wd M ad H locs pc ls hq hH ⟨trivial, trivial, hR.2.2⟩ hg hnn).1 hr rfl hd
end HEAP
end
section
/-! contracts over oJ, calls -/
def oWs (mt : oMI) : List Cond := Cond.code mt.1 mt.2.1 mt.2.2.1 mt.2.2.2 :: oT
def oRm (d mc ms : Nat) : Room := { frames := d, cells := mc, slots := ms, locals := 100 * d }
abbrev oS : Type := Int × oW × oM × (Nat → Nat)
def oBs (D : va_G) (cI cB : ClassId) (A1 : Nat → Prop) (u : oS) (t : State) : Prop := va_P D vwCl (oCells u.2.2.2 cI cB u.2.1 u.2.2.1) t.heap ∧ va_K D vwCl (oTy cI cB) t ∧ va_D A1 (oCells u.2.2.2 cI cB u.2.1 u.2.2.1)
def oPo (wd : oW) (ad : Nat → Nat) (Q : Int → oW → oM → Prop) (r : Int) (u : oS) : Prop := inR r ∧ Q r u.2.1 u.2.2.1 ∧ oRg u.2.1 [] [] u.2.2.1 ∧ oAg wd.length ad u.2.2.2 ∧ wd.length ≤ u.2.1.length
def oPre (D : va_G) (cI cB : ClassId) (wd : oW) (M : oM) (ad : Nat → Nat) (sz : Nat) (U : State) : Prop := U.heap.size = sz ∧ va_P D vwCl (oCells ad cI cB wd M) U.heap ∧ va_K D vwCl (oTy cI cB) U ∧ va_D (fun _ => True) (oCells ad cI cB wd M) ∧ oOut ad (va_A (oCells ad cI cB wd M) sz) U U.heap
/-- a method's contract: from these arguments and this memory it returns as Q says -/
def oK (l : Launch) (mt : oMI) (d mc ms : Nat) (as : List oV) (wd : oW) (M : oM) (Q : Int → oW → oM → Prop) : Prop :=
  ∀ (D : va_G) (cI cB : ClassId) (ad : Nat → Nat) (sz : Nat), oRg wd [] as M →
    (mt.2.2.2 = none → Met l mt.1 (oWs mt) (oRm d mc ms) (va_Pc (as.map (rlv ad)) (oPre D cI cB wd M ad sz)) (va_Qv (fun u : oS => oPo wd ad Q 0 u) (oBs D cI cB (va_A (oCells ad cI cB wd M) sz)) (va_A (oCells ad cI cB wd M) sz)) mc ms (va_A (oCells ad cI cB wd M) sz)) ∧
    (∀ ty, mt.2.2.2 = some ty → Met l mt.1 (oWs mt) (oRm d mc ms) (va_Pc (as.map (rlv ad)) (oPre D cI cB wd M ad sz)) (va_Qi (fun (r : Int32) (u : oS) => r = Int32.ofInt u.1 ∧ oPo wd ad Q u.1 u) (oBs D cI cB (va_A (oCells ad cI cB wd M) sz)) (va_A (oCells ad cI cB wd M) sz)) mc ms (va_A (oCells ad cI cB wd M) sz))
theorem oN_entry {as : List oV} {n k : Nat} (h : oN (as ++ List.replicate n vu) k ≠ vu) : ∃ v, as[k]? = some v ∧ oN (as ++ List.replicate n vu) k = v := by
  induction as generalizing k with
  | nil =>
    exfalso
    apply h
    induction n generalizing k with
    | zero => cases k <;> rfl
    | succ n ih =>
      cases k with
      | zero => rfl
      | succ k => exact Classical.byContradiction fun q => ih (k := k) (fun z => q z) |> fun z => q z
  | cons v l ih =>
    cases k with
    | zero => exact ⟨v, rfl, rfl⟩
    | succ k => exact ih h
theorem lg_sl_1 {vs : List Value} (h : ∀ v ∈ vs, v.category = 1) : lg_sl vs = vs.map Slot.val := by
  induction vs with
  | nil => rfl
  | cons v l ih =>
    have h1 := h v List.mem_cons_self
    unfold lg_sl at ih ⊢
    rw [List.flatMap_cons, ih (fun w hw => h w (List.mem_cons_of_mem _ hw)), if_neg (by omega)]
    rfl
theorem oLv_entry {ad : Nat → Nat} {as : List oV} {nL : Nat} (h : as.length ≤ nL) : oLv ad (as ++ List.replicate (nL - as.length) vu) ((lg_sl (as.map (rlv ad)) ++ List.replicate (nL - (lg_sl (as.map (rlv ad))).length) Slot.unset).toArray) nL := by
  have hs : lg_sl (as.map (rlv ad)) = (as.map (rlv ad)).map Slot.val := lg_sl_1 (fun v hv => by
    obtain ⟨w, -, rfl⟩ := List.mem_map.mp hv
    exact rlv_cat w)
  have hlen : (lg_sl (as.map (rlv ad))).length = as.length := by rw [hs]; simp
  obtain ⟨h1, h2, h3⟩ := lv_entry (as.map (rlv ad)) (n := nL) (by omega)
  refine ⟨h1, h2, fun k hk => ?_⟩
  obtain ⟨v, hv, he⟩ := oN_entry hk
  rw [he, hs, List.getElem?_toArray, List.getElem?_append_left (by simpa using (List.getElem?_eq_some_iff.mp hv).1), List.getElem?_map, List.getElem?_map, hv]
  rfl
theorem oOut_to {ad : Nat → Nat} {A A1 : Nat → Prop} {s U : State} {H : Heap} {locs : List Loc} (hW : s.WarmedH U.vm) (hU : U.heap = H) (h : oOut ad A s s.heap) (hS : va_S A s.heap H locs) (hAA : ∀ q, A1 q → A q) : oOut ad A1 U U.heap := by
  rw [hU]
  refine ⟨((h.1.kept hS.2.1).narrow hAA).moved hW.alike, vk_R.warm hW h.2.1, ((h.2.2.1.kept hS.2.1).narrow hAA).moved hW.alike, fun w hw => ?_⟩
  have h1 := h.2.2.2 w hw
  have h2 := (List.mem_filter.mp hw).2
  cases w <;> first | (exact absurd h2 (by decide)) | exact va_Nw.warmF hW h1 | exact va_Nw.warmM hW h1 | (simp [oIsN] at h2)
theorem oOut_calling {ad : Nat → Nat} {A : Nat → Prop} {U : State} {g : JFrame} {mk : MethodId} {a : Array Value} (h : oOut ad A U U.heap) : oOut ad A (U.calling g mk a) (U.calling g mk a).heap :=
  ⟨h.1.moved (u := U) (U := U.calling g mk a) (Vm.Alike.refl U.vm), vk_R.same (u := U) rfl h.2.1, h.2.2.1.moved (u := U) (U := U.calling g mk a) (Vm.Alike.refl U.vm), fun w hw => by
    have h1 := h.2.2.2 w hw
    have h2 := (List.mem_filter.mp hw).2
    refine va_Nw.same (u := U) ?_ rfl h1
    cases w <;> first | rfl | (simp [oIsN] at h2)⟩
theorem oPre_blind {D : va_G} {cI cB : ClassId} {wd : oW} {M : oM} {ad : Nat → Nat} {sz : Nat} {as : List Value} : FrameBlind (va_Pc as (oPre D cI cB wd M ad sz)) :=
  fun a U g mk q => ⟨q.1, q.2.1, q.2.2.1, va_K.moved (u := U) (U := U.calling g mk a) (Vm.Alike.refl U.vm) q.2.2.2.1, q.2.2.2.2.1, oOut_calling q.2.2.2.2.2⟩
theorem oK_intro {l : Launch} {mt : oMI} {d mc ms : Nat} {as lv : List oV} {wd : oW} {M : oM} {Q : Int → oW → oM → Prop} (hpl : plainName mt.1.cls = true) (hlen : as.length ≤ mt.2.2.1) (hlv : as ++ List.replicate (mt.2.2.1 - as.length) vu = lv) (h : oJ l mt (d, mc, ms, none, Q) 0 0 0 lv [] wd M) : oK l mt d mc ms as wd M Q := by
  subst hlv
  intro D cI cB ad sz hRg
  have hrg' : oRg wd (as ++ List.replicate (mt.2.2.1 - as.length) vu) [] M := ⟨oks_app hRg.2.1 oks_rep, trivial, hRg.2.2⟩
  have core : ∀ (Qc : Array Value → State → Outcome → State → Prop),
      (∀ (p : Program) (e : Env) (s : State) (m : MethodId) (below : List Frame) (meth : Method) (c : Code), p.tables.exec = Jvm.exec → c.code = mt.2.1 → meth.sig.returnType = mt.2.2.2 → meth.locks = false → s.heap.size = sz → va_K D vwCl (oTy cI cB) s →
        oRet mt (d, mc, ms, none, Q) p l e (oRm d mc ms) s m (as.map (rlv ad)).toArray below meth c (va_A (oCells ad cI cB wd M) sz) D cI cB (MQ below Qc (as.map (rlv ad)).toArray s mc ms (va_A (oCells ad cI cB wd M) sz)) wd.length ad) →
      Met l mt.1 (oWs mt) (oRm d mc ms) (va_Pc (as.map (rlv ad)) (oPre D cI cB wd M ad sz)) Qc mc ms (va_A (oCells ad cI cB wd M) sz) := by
    intro Qc hret
    refine Met.ofW (cc := mt.2.1) (maxL := mt.2.2.1) (ret := mt.2.2.2) hpl rfl ?_
    intro p e s m args below meth c s₁ B hml hv
    obtain ⟨rfl, hsz, hP, hK, hD0, hO⟩ := hv
    have hts0 := atoms_spec (ws := oWs mt) B.pre
    have hts : ∀ w ∈ oT, w.before (as.map (rlv ad)).toArray s = true := fun w hw => hts0 w (List.mem_cons_of_mem _ hw)
    have hown : s.vm.findClass mt.1.cls = some m.cls := findClass_of_methodNamed B.named
    have hnm : meth.name = mt.1.name := (name_of_methodNamed B.named B.method).1
    rw [lg_entry_eq]
    refine h p e (oRm d mc ms) s m _ below meth c (va_A (oCells ad cI cB wd M) sz) D cI cB _ wd.length ad ad s.heap [] _ ⟨B.exec, B.bytes, hml, hown, hts, ⟨Nat.le_refl _, Nat.le_refl _, Nat.le_refl _, Nat.le_refl _⟩, hK, fun q hq => Or.inr (by omega), hO, (fun L xs hx => by cases hx), hnm, hret p e s m below meth c B.exec B.bytes B.returns B.notSynchronized hsz hK⟩ ⟨hP, hD0.self (sz := sz), va_S.rf⟩ (oLv_entry hlen) hrg' (fun o _ => rfl) (Nat.le_refl _)
  refine ⟨fun hn => core _ ?_, fun ty hty => core _ ?_⟩
  · intro p e s m below meth c hx hb hr hlk hsz hKs r wd' M' ad' H locs pc ls hq hH hR hag hle
    refine ⟨fun _ hr0 hd => W.vret hx hb (hr.trans hn) (fun t ht hW => ⟨⟨(0, wd', M', ad'), rfl, ⟨inR_0, by rw [hr0] at hq; exact hq, hR, hag, hle⟩, by rw [ht]; exact hH.1, va_K.moved hW.alike hKs, hH.2.1⟩, hH.2.2.F ht⟩) hH.2.2.2.2 hd hlk, fun ty hty => ?_⟩
    rw [hn] at hty
    cases hty
  · intro p e s m below meth c hx hb hr hlk hsz hKs r wd' M' ad' H locs pc ls hq hH hR hag hle
    refine ⟨fun hn => ?_, fun ty' hty' hr0 hnr hd => W.zret hx hb (hr.trans hty') hnr (fun t ht hW => ⟨⟨Int32.ofInt r, (r, wd', M', ad'), rfl, ⟨rfl, hr0, hq, hR, hag, hle⟩, by rw [ht]; exact hH.1, va_K.moved hW.alike hKs, hH.2.1⟩, hH.2.2.F ht⟩) hH.2.2.2.2 hd hlk⟩
    rw [hn] at hty
    cases hty
/-- the callee's part lies in the caller's -/
theorem oA_in {A : Nat → Prop} {D : va_G} {ad : Nat → Nat} {cI cB : ClassId} {wd : oW} {M : oM} {s : State} {H : Heap} {locs : List Loc} (hH : oHp A D ad cI cB wd M s H locs) (hA : ∀ q, s.heap.size ≤ q → A q) : ∀ q, va_A (oCells ad cI cB wd M) H.size q → A q := by
  intro q hq
  rcases hq with ⟨k, e, hq⟩ | hq
  · exact hH.2.1.2 k (q, e) hq
  · exact hA q (Nat.le_trans hH.2.2.1 hq)
theorem oPre_of {U s : State} {A : Nat → Prop} {D : va_G} {ad : Nat → Nat} {cI cB : ClassId} {wd : oW} {M : oM} {H : Heap} {locs : List Loc} (hU : U.heap = H) (hW : s.WarmedH U.vm) (hH : oHp A D ad cI cB wd M s H locs) (hK : va_K D vwCl (oTy cI cB) s) (hA : ∀ q, s.heap.size ≤ q → A q) (hO : oOut ad A s s.heap) : oPre D cI cB wd M ad H.size U :=
  ⟨by rw [hU], by rw [hU]; exact hH.1, va_K.moved hW.alike hK, hH.2.1.weaken (fun _ _ _ _ => trivial), oOut_to hW hU hO hH.2.2 (oA_in hH hA)⟩
theorem oOut_ag {ad ad0 : Nat → Nat} {n0 : Nat} {A : Nat → Prop} {U : State} {H : Heap} (hg : oAg n0 ad0 ad) (h : oOut ad0 A U H) : oOut ad A U H := by
  unfold oOut at h ⊢
  rw [hg 1000 (Or.inr (Nat.le_refl _)), hg 1001 (Or.inr (by omega))]
  exact h
theorem oLv_ag {ad ad' : Nat → Nat} {len nL : Nat} {lv : List oV} {ls : Array Slot} (hag : ∀ o, o < len ∨ 1000 ≤ o → ad' o = ad o) (hv : oks len lv) (h : oLv ad lv ls nL) : oLv ad' lv ls nL :=
  ⟨h.1, h.2.1, fun k hk => by rw [rlv_agree hag (oks_N k hv)]; exact h.2.2 k hk⟩
theorem oSt_sum {ad : Nat → Nat} {st : List oV} : ((st.map (rlv ad)).map fun v => v.category).sum = st.length := by
  induction st with
  | nil => rfl
  | cons v l ih =>
    rw [List.map_cons, List.map_cons, List.sum_cons, ih, rlv_cat, List.length_cons]
    omega
section CALLS
variable {l : Launch} {mt : oMI} {E : oE} {k n pc : Nat} {lv st st0 : List oV} {wd : oW} {M : oM}
theorem oj_runi {mc' ms' : Nat} {Qc : Int → oW → oM → Prop} (hst : ∀ len, oks len st0 → oks len st)
    (hr : ∀ (p : Program) (e : Env) (R : Room) (s : State) (m : MethodId) (args : Array Value) (below : List Frame) (meth : Method) (c : Code) (A : Nat → Prop) (D : va_G) (cI cB : ClassId) (Z : State → Prop) (n0 : Nat) (ad0 ad : Nat → Nat) (H : Heap) (locs : List Loc) (ls : Array Slot),
      oCtx mt E p l e R s m args below meth c A D cI cB Z n0 ad0 → oHp A D ad cI cB wd M s H locs → oLv ad lv ls mt.2.2.1 → oRg wd lv st0 M → oAg n0 ad0 ad →
      ∃ a, va_Run p l e R s m args below meth c H locs k n mc' ms' (F0 m pc ls (st0.map (rlv ad))) (st.map (rlv ad)) (va_Qi (fun (r : Int32) (u : oS) => r = Int32.ofInt u.1 ∧ oPo wd ad Qc u.1 u) (oBs D cI cB (va_A (oCells ad cI cB wd M) H.size)) (va_A (oCells ad cI cB wd M) H.size) a) (va_A (oCells ad cI cB wd M) H.size))
    (h : ∀ r wd' M', Qc r wd' M' → oJ l mt E (k + mc') (n + ms') (pc + 3) lv (vi r :: st) wd' M') : oJ l mt E k n pc lv st0 wd M := by
  intro p e R s m args below meth c A D cI cB Z n0 ad0 ad H locs ls C hH hl hR hg hn
  obtain ⟨a, hrun⟩ := hr p e R s m args below meth c A D cI cB Z n0 ad0 ad H locs ls C hH hl hR hg
  have hAi := oA_in hH C.2.2.2.2.2.2.2.1
  refine va_calli hrun hH.2.2 (fun q _ hq => hAi q hq) hAi (fun r u t H1 locs1 ht hvm hw hB hz hk hS1 => ?_)
  obtain ⟨rfl, hr1, hq, hRg', hag', hle'⟩ := hw
  obtain ⟨hP1, hK1, hD1⟩ := hB
  rw [ht] at hP1
  have hs := hst _ hR.2.1
  have key := h u.1 u.2.1 u.2.2.1 hq p e R s m args below meth c A D cI cB Z n0 ad0 u.2.2.2 H1 locs1 ls C ⟨hP1, hD1.weaken (fun _ q _ hq => hAi q.1 hq), hS1⟩ (oLv_ag hag' hR.1 hl) ⟨oks_mono hle' hR.1, ⟨hr1, oks_mono hle' hs⟩, hRg'.2.2⟩ (fun o ho => by rw [hag' o (ho.elim (fun z => Or.inl (Nat.lt_of_lt_of_le z hn)) Or.inr), hg o ho]) (Nat.le_trans hn hle')
  rw [List.map_cons, rlv_agrees hag' hs] at key
  exact key
theorem oj_runv {mc' ms' : Nat} {Qc : Int → oW → oM → Prop} (hst : ∀ len, oks len st0 → oks len st)
    (hr : ∀ (p : Program) (e : Env) (R : Room) (s : State) (m : MethodId) (args : Array Value) (below : List Frame) (meth : Method) (c : Code) (A : Nat → Prop) (D : va_G) (cI cB : ClassId) (Z : State → Prop) (n0 : Nat) (ad0 ad : Nat → Nat) (H : Heap) (locs : List Loc) (ls : Array Slot),
      oCtx mt E p l e R s m args below meth c A D cI cB Z n0 ad0 → oHp A D ad cI cB wd M s H locs → oLv ad lv ls mt.2.2.1 → oRg wd lv st0 M → oAg n0 ad0 ad →
      ∃ a, va_Run p l e R s m args below meth c H locs k n mc' ms' (F0 m pc ls (st0.map (rlv ad))) (st.map (rlv ad)) (va_Qv (fun (u : oS) => oPo wd ad Qc 0 u) (oBs D cI cB (va_A (oCells ad cI cB wd M) H.size)) (va_A (oCells ad cI cB wd M) H.size) a) (va_A (oCells ad cI cB wd M) H.size))
    (h : ∀ wd' M', Qc 0 wd' M' → oJ l mt E (k + mc') (n + ms') (pc + 3) lv st wd' M') : oJ l mt E k n pc lv st0 wd M := by
  intro p e R s m args below meth c A D cI cB Z n0 ad0 ad H locs ls C hH hl hR hg hn
  obtain ⟨a, hrun⟩ := hr p e R s m args below meth c A D cI cB Z n0 ad0 ad H locs ls C hH hl hR hg
  have hAi := oA_in hH C.2.2.2.2.2.2.2.1
  refine va_callv hrun hH.2.2 (fun q _ hq => hAi q hq) hAi (fun u t H1 locs1 ht hvm hw hB hz hk hS1 => ?_)
  obtain ⟨hr1, hq, hRg', hag', hle'⟩ := hw
  obtain ⟨hP1, hK1, hD1⟩ := hB
  rw [ht] at hP1
  have hs := hst _ hR.2.1
  have key := h u.2.1 u.2.2.1 hq p e R s m args below meth c A D cI cB Z n0 ad0 u.2.2.2 H1 locs1 ls C ⟨hP1, hD1.weaken (fun _ q _ hq => hAi q.1 hq), hS1⟩ (oLv_ag hag' hR.1 hl) ⟨oks_mono hle' hR.1, oks_mono hle' hs, hRg'.2.2⟩ (fun o ho => by rw [hag' o (ho.elim (fun z => Or.inl (Nat.lt_of_lt_of_le z hn)) Or.inr), hg o ho]) (Nat.le_trans hn hle')
  rw [rlv_agrees hag' hs] at key
  exact key
end CALLS
end
section
/-! the kinds of calls -/
theorem oks_rev {len : Nat} {l : List oV} (h : oks len l.reverse) : oks len l := by
  induction l with
  | nil => trivial
  | cons v l ih =>
    rw [List.reverse_cons] at h
    exact ⟨(oks_app2 h).1, ih (oks_app1 h)⟩
def oCo (y : oMI) (np : Nat) : Prop := Cond.code y.1 y.2.1 y.2.2.1 y.2.2.2 ∈ oT ∧ Cond.initialized y.1.cls ∈ oT ∧ (y.1.cls ≠ "java/lang/invoke/MethodHandle" ∧ y.1.cls ≠ "java/lang/invoke/VarHandle" ∧ (parseMethodDescriptor y.1.desc).map (fun d => d.parameters.length) = some np) ∧ y.2.2.1 ≤ 80
def oLk (own : String) (idx : Nat) (y : oMI) : Prop := Cond.methodLink own idx y.1 ∈ oT ∨ ∃ host, Cond.methodLinkNest own idx y.1 host ∈ oTN
def oClV (own : String) (idx : Nat) (y : oMI) (np ci : Nat) : Prop := oLk own idx y ∧ Cond.instanceMethod y.1 ∈ oT ∧ Cond.selects y.1.cls y.1 y.1 ∈ oT ∧ oCo y np ∧ ∃ q : vw_C, vwCl[ci]? = some q ∧ q.1 = y.1.cls
def oClS (own : String) (idx : Nat) (y : oMI) (np : Nat) : Prop := oLk own idx y ∧ Cond.static y.1 ∈ oT ∧ oCo y np
def oClI (own : String) (idx : Nat) (y : oMI) (np : Nat) : Prop := oLk own idx y ∧ Cond.instanceMethod y.1 ∈ oT ∧ oCo y np ∧ y.1.name = "<init>" ∧ y.2.2.2 = none
section KINDS
variable {l : Launch} {mt : oMI} {E : oE} {k n pc : Nat} {lv st st0 : List oV} {wd : oW} {M : oM}
theorem oWs_good {y : oMI} {np : Nat} (hc : oCo y np) : GoodIn oT (oWs y) := oT_good (fun w hw => by
  rcases List.mem_cons.mp hw with h | h
  · rw [h]; exact hc.1
  · exact h)
theorem oRm_fits {d' dE mc' ms' L : Nat} {R : Room} (hR : dE ≤ R.frames ∧ 100 * dE ≤ R.locals) (hd : d' + 1 ≤ dE) (hL : L ≤ 80) : (oRm d' mc' ms').frames + 1 ≤ R.frames ∧ 8 + (L + 11) + (oRm d' mc' ms').locals ≤ R.locals := by
  show d' + 1 ≤ R.frames ∧ 8 + (L + 11) + 100 * d' ≤ R.locals
  omega
theorem oCellsRoom {k n mc' ms' : Nat} {R : Room} {d mc ms : Nat} (hR : d ≤ R.frames ∧ 100 * d ≤ R.locals ∧ mc ≤ R.cells ∧ ms ≤ R.slots) (h1 : k + mc' ≤ mc) (h2 : n + ms' ≤ ms) : k + mc' ≤ R.cells ∧ n + ms' ≤ R.slots := by omega
theorem oj_V {y : oMI} {d' mc' ms' np idx ci o : Nat} {as : List oV} {fs : List (Option (Option Nat))} {Qc : Int → oW → oM → Prop} (hv : oClV mt.1.cls idx y np ci) (hw : wd[o]? = some (.inr (ci, fs))) (hst : st0 = as.reverse ++ vr o :: st) (has : as.length = np) (hsl : st.length ≤ 8) (hd : decode mt.2.1 pc = .ok (.invokevirtual idx, 3)) (hdep : d' + 1 ≤ E.1) (hk1 : k + mc' ≤ E.2.1) (hk2 : n + ms' ≤ E.2.2.1) (hK : oK l y d' mc' ms' (vr o :: as) wd M Qc) :
    (∀ ty, y.2.2.2 = some ty → (∀ r wd' M', Qc r wd' M' → oJ l mt E (k + mc') (n + ms') (pc + 3) lv (vi r :: st) wd' M') → oJ l mt E k n pc lv st0 wd M) ∧ (y.2.2.2 = none → (∀ wd' M', Qc 0 wd' M' → oJ l mt E (k + mc') (n + ms') (pc + 3) lv st wd' M') → oJ l mt E k n pc lv st0 wd M) := by
  obtain ⟨hlk, hin, hse, hc, q, hq, hqn⟩ := hv
  subst hst
  have hos : ∀ len, oks len (as.reverse ++ vr o :: st) → oks len st := fun len h => (oks_app2 h).2
  have hoa : ∀ len, oks len (as.reverse ++ vr o :: st) → oks len (vr o :: as) := fun len h => ⟨(oks_app2 h).1, oks_rev (oks_app1 h)⟩
  have run : ∀ (p : Program) (e : Env) (R : Room) (s : State) (m : MethodId) (args : Array Value) (below : List Frame) (meth : Method) (c : Code) (A : Nat → Prop) (D : va_G) (cI cB : ClassId) (Z : State → Prop) (n0 : Nat) (ad0 ad : Nat → Nat) (H : Heap) (locs : List Loc) (ls : Array Slot) (Qx : Array Value → State → Outcome → State → Prop),
      oCtx mt E p l e R s m args below meth c A D cI cB Z n0 ad0 → oHp A D ad cI cB wd M s H locs → oLv ad lv ls mt.2.2.1 → oAg n0 ad0 ad →
      Met l y.1 (oWs y) (oRm d' mc' ms') (va_Pc ((vr o :: as).map (rlv ad)) (oPre D cI cB wd M ad H.size)) Qx mc' ms' (va_A (oCells ad cI cB wd M) H.size) →
      va_Run p l e R s m args below meth c H locs k n mc' ms' (F0 m pc ls ((as.reverse ++ vr o :: st).map (rlv ad))) (st.map (rlv ad)) (Qx (Value.ref (ad o) :: as.map (rlv ad)).toArray) (va_A (oCells ad cI cB wd M) H.size) := by
    intro p e R s m args below meth c A D cI cB Z n0 ad0 ad H locs ls Qx C hH hl hg hM
    have hts := C.2.2.2.2.1
    have hpv : PreV s H y.1.cls (ad o) (va_Pc ((vr o :: as).map (rlv ad)) (oPre D cI cB wd M ad H.size)) (as.map (rlv ad)) :=
      ⟨oPre_blind, by have h9 := va_recv C.2.2.2.2.2.2.1 hH.1 hq (oCells_get hw); rw [hqn] at h9; exact h9, fun U hU hW => ⟨rfl, oPre_of hU hW hH C.2.2.2.2.2.2.1 C.2.2.2.2.2.2.2.1 (oOut_ag hg C.2.2.2.2.2.2.2.2.1)⟩⟩
    have hsk : (F0 m pc ls ((as.reverse ++ vr o :: st).map (rlv ad))).stack = (as.map (rlv ad)).reverse ++ .ref (ad o) :: st.map (rlv ad) := by
      show (as.reverse ++ vr o :: st).map (rlv ad) = _
      rw [List.map_append, List.map_reverse]; rfl
    have hW8 : 2 * (F0 m pc ls ((as.reverse ++ vr o :: st).map (rlv ad))).monitorRoom + ((st.map (rlv ad)).map fun v => v.category).sum ≤ 8 := by
      rw [oSt_sum]; show 2 * 0 + _ ≤ 8; omega
    rcases hlk with hlk | ⟨host, hlk⟩
    · exact va_runV (As := as.map (rlv ad)) ⟨C.1, C.2.1, C.2.2.1, C.2.2.2.1, hts⟩ hM ⟨callB_of np hts (oWs_good hc) rfl rfl rfl (hts _ hc.2.1) (hts _ hlk) hc.2.2.1 (oRm_fits ⟨C.2.2.2.2.2.1.1, C.2.2.2.2.2.1.2.1⟩ hdep hc.2.2.2), hts _ hin, hts _ hse⟩ hpv rfl (by rw [List.length_map, has]) hl.1 hsk hW8 hd (oCellsRoom C.2.2.2.2.2.1 hk1 hk2)
    · exact va_runVN (As := as.map (rlv ad)) ⟨C.1, C.2.1, C.2.2.1, C.2.2.2.1, hts⟩ hM ⟨va_cnB np hts (oWs_good hc) rfl rfl rfl (C.2.2.2.2.2.2.2.2.1.2.2.2 _ hlk) (hts _ hc.2.1) hc.2.2.1 (oRm_fits ⟨C.2.2.2.2.2.1.1, C.2.2.2.2.2.1.2.1⟩ hdep hc.2.2.2), hts _ hin, hts _ hse⟩ hpv rfl (by rw [List.length_map, has]) hl.1 hsk hW8 hd (oCellsRoom C.2.2.2.2.2.1 hk1 hk2)
  refine ⟨fun ty hty h => oj_runi hos (fun p e R s m args below meth c A D cI cB Z n0 ad0 ad H locs ls C hH hl hR hg => ?_) h, fun hty h => oj_runv hos (fun p e R s m args below meth c A D cI cB Z n0 ad0 ad H locs ls C hH hl hR hg => ?_) h⟩
  · exact ⟨_, run p e R s m args below meth c A D cI cB Z n0 ad0 ad H locs ls _ C hH hl hg ((hK D cI cB ad H.size ⟨trivial, hoa _ hR.2.1, hR.2.2⟩).2 ty hty)⟩
  · exact ⟨_, run p e R s m args below meth c A D cI cB Z n0 ad0 ad H locs ls _ C hH hl hg ((hK D cI cB ad H.size ⟨trivial, hoa _ hR.2.1, hR.2.2⟩).1 hty)⟩
theorem oj_S {y : oMI} {d' mc' ms' np idx : Nat} {as : List oV} {Qc : Int → oW → oM → Prop} (hv : oClS mt.1.cls idx y np) (hst : st0 = as.reverse ++ st) (has : as.length = np) (hsl : st.length ≤ 8) (hd : decode mt.2.1 pc = .ok (.invokestatic idx, 3)) (hdep : d' + 1 ≤ E.1) (hk1 : k + mc' ≤ E.2.1) (hk2 : n + ms' ≤ E.2.2.1) (hK : oK l y d' mc' ms' as wd M Qc) :
    (∀ ty, y.2.2.2 = some ty → (∀ r wd' M', Qc r wd' M' → oJ l mt E (k + mc') (n + ms') (pc + 3) lv (vi r :: st) wd' M') → oJ l mt E k n pc lv st0 wd M) ∧ (y.2.2.2 = none → (∀ wd' M', Qc 0 wd' M' → oJ l mt E (k + mc') (n + ms') (pc + 3) lv st wd' M') → oJ l mt E k n pc lv st0 wd M) := by
  obtain ⟨hlk, hstt, hc⟩ := hv
  subst hst
  have hos : ∀ len, oks len (as.reverse ++ st) → oks len st := fun len h => oks_app2 h
  have hoa : ∀ len, oks len (as.reverse ++ st) → oks len as := fun len h => oks_rev (oks_app1 h)
  have run : ∀ (p : Program) (e : Env) (R : Room) (s : State) (m : MethodId) (args : Array Value) (below : List Frame) (meth : Method) (c : Code) (A : Nat → Prop) (D : va_G) (cI cB : ClassId) (Z : State → Prop) (n0 : Nat) (ad0 ad : Nat → Nat) (H : Heap) (locs : List Loc) (ls : Array Slot) (Qx : Array Value → State → Outcome → State → Prop),
      oCtx mt E p l e R s m args below meth c A D cI cB Z n0 ad0 → oHp A D ad cI cB wd M s H locs → oLv ad lv ls mt.2.2.1 → oAg n0 ad0 ad →
      Met l y.1 (oWs y) (oRm d' mc' ms') (va_Pc (as.map (rlv ad)) (oPre D cI cB wd M ad H.size)) Qx mc' ms' (va_A (oCells ad cI cB wd M) H.size) →
      va_Run p l e R s m args below meth c H locs k n mc' ms' (F0 m pc ls ((as.reverse ++ st).map (rlv ad))) (st.map (rlv ad)) (Qx (as.map (rlv ad)).toArray) (va_A (oCells ad cI cB wd M) H.size) := by
    intro p e R s m args below meth c A D cI cB Z n0 ad0 ad H locs ls Qx C hH hl hg hM
    have hts := C.2.2.2.2.1
    have hpv : PreS s H (va_Pc (as.map (rlv ad)) (oPre D cI cB wd M ad H.size)) (as.map (rlv ad)) :=
      ⟨oPre_blind, fun U hU hW => ⟨rfl, oPre_of hU hW hH C.2.2.2.2.2.2.1 C.2.2.2.2.2.2.2.1 (oOut_ag hg C.2.2.2.2.2.2.2.2.1)⟩⟩
    have hsk : (F0 m pc ls ((as.reverse ++ st).map (rlv ad))).stack = (as.map (rlv ad)).reverse ++ st.map (rlv ad) := by
      show (as.reverse ++ st).map (rlv ad) = _
      rw [List.map_append, List.map_reverse]
    have hW8 : 2 * (F0 m pc ls ((as.reverse ++ st).map (rlv ad))).monitorRoom + ((st.map (rlv ad)).map fun v => v.category).sum ≤ 8 := by
      rw [oSt_sum]; show 2 * 0 + _ ≤ 8; omega
    rcases hlk with hlk | ⟨host, hlk⟩
    · exact va_runS (As := as.map (rlv ad)) ⟨C.1, C.2.1, C.2.2.1, C.2.2.2.1, hts⟩ hM ⟨callB_of np hts (oWs_good hc) rfl rfl rfl (hts _ hc.2.1) (hts _ hlk) hc.2.2.1 (oRm_fits ⟨C.2.2.2.2.2.1.1, C.2.2.2.2.2.1.2.1⟩ hdep hc.2.2.2), hts _ hstt⟩ hpv rfl (by rw [List.length_map, has]) hl.1 hsk hW8 hd (oCellsRoom C.2.2.2.2.2.1 hk1 hk2)
    · exact va_runSN (As := as.map (rlv ad)) ⟨C.1, C.2.1, C.2.2.1, C.2.2.2.1, hts⟩ hM ⟨va_cnB np hts (oWs_good hc) rfl rfl rfl (C.2.2.2.2.2.2.2.2.1.2.2.2 _ hlk) (hts _ hc.2.1) hc.2.2.1 (oRm_fits ⟨C.2.2.2.2.2.1.1, C.2.2.2.2.2.1.2.1⟩ hdep hc.2.2.2), hts _ hstt, trivial⟩ hpv rfl (by rw [List.length_map, has]) hl.1 hsk hW8 hd (oCellsRoom C.2.2.2.2.2.1 hk1 hk2)
  refine ⟨fun ty hty h => oj_runi hos (fun p e R s m args below meth c A D cI cB Z n0 ad0 ad H locs ls C hH hl hR hg => ?_) h, fun hty h => oj_runv hos (fun p e R s m args below meth c A D cI cB Z n0 ad0 ad H locs ls C hH hl hR hg => ?_) h⟩
  · exact ⟨_, run p e R s m args below meth c A D cI cB Z n0 ad0 ad H locs ls _ C hH hl hg ((hK D cI cB ad H.size ⟨trivial, hoa _ hR.2.1, hR.2.2⟩).2 ty hty)⟩
  · exact ⟨_, run p e R s m args below meth c A D cI cB Z n0 ad0 ad H locs ls _ C hH hl hg ((hK D cI cB ad H.size ⟨trivial, hoa _ hR.2.1, hR.2.2⟩).1 hty)⟩
theorem oj_I {y : oMI} {d' mc' ms' np idx o : Nat} {as : List oV} {Qc : Int → oW → oM → Prop} (hv : oClI mt.1.cls idx y np) (hst : st0 = as.reverse ++ vr o :: st) (has : as.length = np) (hsl : st.length ≤ 8) (hd : decode mt.2.1 pc = .ok (.invokespecial idx, 3)) (hdep : d' + 1 ≤ E.1) (hk1 : k + mc' ≤ E.2.1) (hk2 : n + ms' ≤ E.2.2.1) (hK : oK l y d' mc' ms' (vr o :: as) wd M Qc)
    (h : ∀ wd' M', Qc 0 wd' M' → oJ l mt E (k + mc') (n + ms') (pc + 3) lv st wd' M') : oJ l mt E k n pc lv st0 wd M := by
  obtain ⟨hlk, hin, hc, hini, hret⟩ := hv
  subst hst
  have hos : ∀ len, oks len (as.reverse ++ vr o :: st) → oks len st := fun len h => (oks_app2 h).2
  have hoa : ∀ len, oks len (as.reverse ++ vr o :: st) → oks len (vr o :: as) := fun len h => ⟨(oks_app2 h).1, oks_rev (oks_app1 h)⟩
  refine oj_runv hos (fun p e R s m args below meth c A D cI cB Z n0 ad0 ad H locs ls C hH hl hR hg => ⟨(Value.ref (ad o) :: as.map (rlv ad)).toArray, ?_⟩) h
  have hM := (hK D cI cB ad H.size ⟨trivial, hoa _ hR.2.1, hR.2.2⟩).1 hret
  have hts := C.2.2.2.2.1
  have hpv : PreS s H (va_Pc ((vr o :: as).map (rlv ad)) (oPre D cI cB wd M ad H.size)) (.ref (ad o) :: as.map (rlv ad)) :=
    ⟨oPre_blind, fun U hU hW => ⟨rfl, oPre_of hU hW hH C.2.2.2.2.2.2.1 C.2.2.2.2.2.2.2.1 (oOut_ag hg C.2.2.2.2.2.2.2.2.1)⟩⟩
  have hsk : (F0 m pc ls ((as.reverse ++ vr o :: st).map (rlv ad))).stack = (as.map (rlv ad)).reverse ++ .ref (ad o) :: st.map (rlv ad) := by
    show (as.reverse ++ vr o :: st).map (rlv ad) = _
    rw [List.map_append, List.map_reverse]; rfl
  have hW8 : 2 * (F0 m pc ls ((as.reverse ++ vr o :: st).map (rlv ad))).monitorRoom + ((st.map (rlv ad)).map fun v => v.category).sum ≤ 8 := by
    rw [oSt_sum]; show 2 * 0 + _ ≤ 8; omega
  rcases hlk with hlk | ⟨host, hlk⟩
  · exact va_runI (As := as.map (rlv ad)) ⟨C.1, C.2.1, C.2.2.1, C.2.2.2.1, hts⟩ hM ⟨callB_of np hts (oWs_good hc) (by rw [← hret]; rfl) rfl rfl (hts _ hc.2.1) (hts _ hlk) hc.2.2.1 (oRm_fits ⟨C.2.2.2.2.2.1.1, C.2.2.2.2.2.1.2.1⟩ hdep hc.2.2.2), hini, hts _ hin⟩ hpv rfl (by rw [List.length_map, has]) hl.1 hsk hW8 hd (oCellsRoom C.2.2.2.2.2.1 hk1 hk2)
  · exact va_runIN (As := as.map (rlv ad)) ⟨C.1, C.2.1, C.2.2.1, C.2.2.2.1, hts⟩ hM ⟨va_cnB np hts (oWs_good hc) (by rw [← hret]; rfl) rfl rfl (C.2.2.2.2.2.2.2.2.1.2.2.2 _ hlk) (hts _ hc.2.1) hc.2.2.1 (oRm_fits ⟨C.2.2.2.2.2.1.1, C.2.2.2.2.2.1.2.1⟩ hdep hc.2.2.2), hini, hts _ hin⟩ hpv rfl (by rw [List.length_map, has]) hl.1 hsk hW8 hd (oCellsRoom C.2.2.2.2.2.1 hk1 hk2)
end KINDS
end
section
/-! rows: new cells, constructors, copies, constants, switches, the script, the text constant -/
def oZ (M : oM) (n : Nat) : oM := fun o i => if o = n then 0 else M o i
def acopy (M : oM) (src : Nat) (sp : Int) (dst : Nat) (dp n : Int) : oM := fun o i => if o = dst ∧ dp ≤ i ∧ i < dp + n then M src (sp + (i - dp)) else M o i
def cpg {α : Type} (n0 n1 sp dp n : Int) (k : Int → Option α) : Option α := if 0 ≤ sp ∧ 0 ≤ dp ∧ 0 ≤ n ∧ sp + n ≤ n0 ∧ dp + n ≤ n1 then k 0 else none
theorem okp_cpg {α : Type} {n0 n1 sp dp n : Int} {k : Int → Option α} {K : α → Prop} (h : okp (cpg n0 n1 sp dp n k) K) : (0 ≤ sp ∧ 0 ≤ dp ∧ 0 ≤ n ∧ sp + n ≤ n0 ∧ dp + n ≤ n1) ∧ okp (k 0) K := by
  unfold cpg at h
  split at h
  · rename_i c; exact ⟨c, h⟩
  · exact h.elim
def oAd (ad : Nat → Nat) (n q : Nat) : Nat → Nat := fun o => if o = n then q else ad o
theorem oAd_ag {ad : Nat → Nat} {n q : Nat} (hn : n < 1000) : ∀ o, o < n ∨ 1000 ≤ o → oAd ad n q o = ad o := by
  intro o ho
  unfold oAd
  rw [if_neg (by omega)]
theorem oFv_ag {ad ad' : Nat → Nat} {len : Nat} {f : Int → Int} {k : Nat} (hag : ∀ o, o < len ∨ 1000 ≤ o → ad' o = ad o) {x : Option (Option Nat)} (hx : ∀ r, x = some (some r) → r < len ∨ 1000 ≤ r) : oFv ad' f k x = oFv ad f k x := by
  rcases x with _ | x
  · rfl
  · rcases x with _ | r
    · rfl
    · show Value.ref _ = Value.ref _
      rw [hag r (hx r rfl)]
theorem oCe_ag {ad ad' : Nat → Nat} {cI cB : ClassId} {len : Nat} {f : Int → Int} (hag : ∀ o, o < len ∨ 1000 ≤ o → ad' o = ad o) {sh : oSh} (hs : okSh len sh) : oCe ad' cI cB f sh = oCe ad cI cB f sh := by
  rcases sh with ⟨b, n⟩ | ⟨ci, fs⟩
  · rfl
  · show Sum.inr _ = Sum.inr _
    congr 2
    apply List.ext_getElem?
    intro i
    rw [List.getElem?_mapIdx, List.getElem?_mapIdx]
    cases hx : fs[i]? with
    | none => rfl
    | some x => exact congrArg some (oFv_ag hag (fun r hr => hs i r (by rw [hx, hr])))
theorem oCells_app {ad : Nat → Nat} {cI cB : ClassId} {wd : oW} {M : oM} {sh : oSh} {q : Nat} (hlen : wd.length < 1000) (hwd : ∀ (k : Nat) (sh : oSh), wd[k]? = some sh → okSh wd.length sh) : oCells (oAd ad wd.length q) cI cB (wd ++ [sh]) (oZ M wd.length) = oCells ad cI cB wd M ++ [(q, oCe (oAd ad wd.length q) cI cB (fun _ => 0) sh)] := by
  apply List.ext_getElem?
  intro i
  unfold oCells
  rcases Nat.lt_or_ge i wd.length with hi | hi
  · rw [List.getElem?_mapIdx, List.getElem?_append_left hi, List.getElem?_append_left (by rw [List.length_mapIdx]; exact hi), List.getElem?_mapIdx]
    cases hx : wd[i]? with
    | none => rfl
    | some x =>
      simp only [Option.map_some]
      rw [oCe_ag (oAd_ag hlen) (hwd i x hx), oAd_ag hlen i (Or.inl hi)]
      congr 3
      funext j
      unfold oZ
      rw [if_neg (by omega)]
  · rw [List.getElem?_mapIdx, List.getElem?_append_right hi, List.getElem?_append_right (by rw [List.length_mapIdx]; exact hi), List.length_mapIdx]
    cases hj : i - wd.length with
    | zero =>
      have he : i = wd.length := by omega
      subst he
      simp only [List.getElem?_cons_zero, Option.map_some, oAd, if_true]
      congr 3
      funext j
      simp [oZ]
    | succ j => simp
def oDf : Option (Option (Option Nat)) → Value
  | some none => .int 0
  | _ => .null
def oFp (own : String) (idx ci kf : Nat) (fty : FieldType) : Prop := ∃ (C : String) (T : u_T) (N : Nat) (ty : Nat → FieldType) (name desc : String), oCls ci C T N ty ∧ kf < N ∧ T kf = (C, name, desc, true) ∧ parseFieldDescriptor desc = some fty ∧ Cond.fieldLink own idx C name desc ∈ oT
section MORE
variable {l : Launch} {mt : oMI} {E : oE} {k n pc : Nat} {lv st : List oV} {wd : oW} {M : oM}
theorem oj_new {idx ci N : Nat} {C : String} {T : u_T} {ty : Nat → FieldType} {fs : List (Option (Option Nat))} (hc : oCls ci C T N ty) (hcl : Cond.classLink mt.1.cls idx C ∈ oT) (hins : Cond.instantiable C N ∈ oT) (hini : Cond.initialized C ∈ oT) (hfs : ∀ j, j < N → defaultValue (ty j) = oDf fs[j]?) (hnr : ∀ x ∈ fs, x = none ∨ x = some none) (hlen : wd.length + 1 < 1000) (h1 : k + 1 ≤ E.2.1) (h2 : n + N ≤ E.2.2.1) (hd : decode mt.2.1 pc = .ok (.new idx, 3))
    (h : oJ l mt E (k + 1) (n + N) (pc + 3) lv (vr wd.length :: st) (wd ++ [.inr (ci, fs)]) (oZ M wd.length)) : oJ l mt E k n pc lv st wd M := by
  obtain ⟨hcc, hin, hty, hnm⟩ := hc
  intro p e R s m args below meth c A D cI cB Z n0 ad0 ad H locs ls Cx hH hl hR hg hn
  have hts := Cx.2.2.2.2.1
  have hag : ∀ q o, o < wd.length ∨ 1000 ≤ o → oAd ad wd.length q o = ad o := fun q => oAd_ag (by omega)
  have hfv : ∀ (ad' : Nat → Nat) (j : Nat), j < N → defaultValue (ty j) = vp_V (fs.mapIdx (oFv ad' (fun _ => 0))) j := by
    intro ad' j hj
    rw [hfs j hj]
    unfold vp_V
    rw [List.getD_eq_getElem?_getD, List.getElem?_mapIdx]
    cases hx : fs[j]? with
    | none => rfl
    | some x =>
      rcases hnr x (List.mem_of_getElem? hx) with rfl | rfl <;> rfl
  refine va_new (D := D) (ci := ci) (fs := fs.mapIdx (oFv ad (fun _ => 0))) (C := C) (T := T) (N := N) (index := idx) Cx.1 Cx.2.1 hts hin ty hty Cx.2.2.2.1 (hts _ hcl) (hts _ hins) (hts _ hini) Cx.2.2.2.2.2.2.1 hH.1 hH.2.1 hH.2.2 Cx.2.2.2.2.2.2.2.1 hcc (hfv ad) (by have := Cx.2.2.2.2.2.1; omega) (by have := Cx.2.2.2.2.2.1; omega) hd (fun q H1 hP1 hD1 hS1 => ?_)
  have e1 : fs.mapIdx (oFv ad (fun _ => 0)) = fs.mapIdx (oFv (oAd ad wd.length q) (fun _ => 0)) := by
    apply List.ext_getElem?
    intro i
    rw [List.getElem?_mapIdx, List.getElem?_mapIdx]
    cases hx : fs[i]? with
    | none => rfl
    | some x => rcases hnr x (List.mem_of_getElem? hx) with rfl | rfl <;> rfl
  have e2 := oCells_app (ad := ad) (cI := cI) (cB := cB) (M := M) (sh := .inr (ci, fs)) (q := q) hR.2.2.2.1 hR.2.2.2.2
  rw [oCe_obj, ← e1] at e2
  rw [← e2] at hP1 hD1
  have hwl : (wd ++ [(.inr (ci, fs) : oSh)]).length = wd.length + 1 := by simp
  have key := h p e R s m args below meth c A D cI cB Z n0 ad0 (oAd ad wd.length q) H1 locs ls Cx ⟨hP1, hD1, hS1⟩ (oLv_ag (hag q) hR.1 hl) ⟨by rw [hwl]; exact oks_mono (Nat.le_succ _) hR.1, ⟨by show wd.length < _ ∨ _; rw [hwl]; exact Or.inl (Nat.lt_succ_self _), by rw [hwl]; exact oks_mono (Nat.le_succ _) hR.2.1⟩, fun o i => by unfold oZ; split; exact inR_0; exact hR.2.2.1 o i, by rw [hwl]; exact hlen, fun i sh hi => by
    rw [hwl]
    rcases Nat.lt_or_ge i wd.length with q1 | q1
    · rw [List.getElem?_append_left q1] at hi
      have q2 := hR.2.2.2.2 i sh hi
      rcases sh with sh | ⟨ci', fs'⟩
      · trivial
      · exact fun k r hk => (q2 k r hk).elim (fun z => Or.inl (by omega)) Or.inr
    · rw [List.getElem?_append_right q1] at hi
      cases hz : i - wd.length with
      | zero =>
        rw [hz] at hi
        cases hi
        intro k r hk
        rcases hnr _ (List.mem_of_getElem? hk) with q3 | q3 <;> cases q3
      | succ z => rw [hz] at hi; simp at hi⟩ (fun o ho => by rw [hag q o (ho.elim (fun z => Or.inl (by omega)) Or.inr), hg o ho]) (by rw [hwl]; omega)
  rw [List.map_cons, rlv_agrees (hag q) hR.2.1] at key
  have e3 : rlv (oAd ad wd.length q) (vr wd.length) = .ref q := by
    show Value.ref _ = _
    unfold oAd
    rw [if_pos rfl]
  rw [e3] at key
  exact key
theorem oj_newa {b : Bool} {aty : ArrayType} {N : Nat} {NN : Int} (hb : (aty = .int ∧ b = false) ∨ (aty = .byte ∧ b = true)) (harr : Cond.arrayClass (newarray.typeOf aty) ∈ oT) (hNN : ((N : Nat) : Int) = NN) (hlen : wd.length + 1 < 1000) (hN : N ≤ 100000) (h1 : k + 1 ≤ E.2.1) (h2 : n + N ≤ E.2.2.1) (hd : decode mt.2.1 pc = .ok (.newarray aty, 2))
    (h : oJ l mt E (k + 1) (n + N) (pc + 2) lv (vr wd.length :: st) (wd ++ [.inl (b, N)]) (oZ M wd.length)) : oJ l mt E k n pc lv (vi NN :: st) wd M := by
  intro p e R s m args below meth c A D cI cB Z n0 ad0 ad H locs ls Cx hH hl hR hg hn
  have hts := Cx.2.2.2.2.1
  have hag : ∀ q o, o < wd.length ∨ 1000 ≤ o → oAd ad wd.length q o = ad o := fun q => oAd_ag (by omega)
  have hcl : (Int32.ofInt NN).toNatClampNeg = N := by rw [oc_clamp (by omega) hR.2.1.1]; omega
  have hneg : ¬ Int32.ofInt NN < 0 := fun z => by have := (oc_lt hR.2.1.1 inR_0).mp z; omega
  have hdef : ∀ cA : ClassId, vp_cell cA (N, .inl (fun _ => Int32.ofInt 0)) = arrV cA N (fun _ => defaultValue (newarray.typeOf aty)) := by
    intro cA
    rcases hb with ⟨rfl, rfl⟩ | ⟨rfl, rfl⟩ <;> rfl
  have hby : N * componentBytes (newarray.typeOf aty) ≤ 536870912 := by
    rcases hb with ⟨rfl, rfl⟩ | ⟨rfl, rfl⟩
    · show N * 4 ≤ _; omega
    · show N * 1 ≤ _; omega
  refine va_newa (D := D) (ty := newarray.typeOf aty) (N' := N) (a0 := (N, .inl (fun _ => Int32.ofInt 0))) Cx.1 Cx.2.1 (hts _ harr) rfl Cx.2.2.2.2.2.2.1 hH.1 hH.2.1 hH.2.2 Cx.2.2.2.2.2.2.2.1 hdef hneg hcl hby (by have := Cx.2.2.2.2.2.1; omega) (by have := Cx.2.2.2.2.2.1; omega) hd (fun q cA H1 hK1 hP1 hD1 hS1 => ?_)
  have hcA : cA = if b then cB else cI := by
    have q2 := (hK1.2 2 (cA, newarray.typeOf aty) rfl).2
    rcases hb with ⟨rfl, rfl⟩ | ⟨rfl, rfl⟩
    · have q1 := (Cx.2.2.2.2.2.2.1.2 0 (cI, .int) rfl).2
      exact Option.some.inj (q2.symm.trans q1)
    · have q1 := (Cx.2.2.2.2.2.2.1.2 1 (cB, .byte) rfl).2
      exact Option.some.inj (q2.symm.trans q1)
  have e2 := oCells_app (ad := ad) (cI := cI) (cB := cB) (M := M) (sh := .inl (b, N)) (q := q) hR.2.2.2.1 hR.2.2.2.2
  have e4 : oCe (oAd ad wd.length q) cI cB (fun _ => 0) (.inl (b, N)) = .inl (cA, N, .inl (fun _ => Int32.ofInt 0)) := by rw [hcA]; rfl
  rw [e4] at e2
  rw [← e2] at hP1 hD1
  have hwl : (wd ++ [(.inl (b, N) : oSh)]).length = wd.length + 1 := by simp
  have key := h p e R s m args below meth c A D cI cB Z n0 ad0 (oAd ad wd.length q) H1 locs ls Cx ⟨hP1, hD1, hS1⟩ (oLv_ag (hag q) hR.1 hl) ⟨by rw [hwl]; exact oks_mono (Nat.le_succ _) hR.1, ⟨by show wd.length < _ ∨ _; rw [hwl]; exact Or.inl (Nat.lt_succ_self _), by rw [hwl]; exact oks_mono (Nat.le_succ _) hR.2.1.2⟩, fun o i => by unfold oZ; split; exact inR_0; exact hR.2.2.1 o i, by rw [hwl]; exact hlen, fun i sh hi => by
    rw [hwl]
    rcases Nat.lt_or_ge i wd.length with q1 | q1
    · rw [List.getElem?_append_left q1] at hi
      have q2 := hR.2.2.2.2 i sh hi
      rcases sh with sh | ⟨ci', fs'⟩
      · trivial
      · exact fun k r hk => (q2 k r hk).elim (fun z => Or.inl (by omega)) Or.inr
    · rw [List.getElem?_append_right q1] at hi
      cases hz : i - wd.length with
      | zero =>
        rw [hz] at hi
        cases hi
        trivial
      | succ z => rw [hz] at hi; simp at hi⟩ (fun o ho => by rw [hag q o (ho.elim (fun z => Or.inl (by omega)) Or.inr), hg o ho]) (by rw [hwl]; omega)
  rw [List.map_cons, rlv_agrees (hag q) hR.2.1.2] at key
  have e3 : rlv (oAd ad wd.length q) (vr wd.length) = .ref q := by
    show Value.ref _ = _
    unfold oAd
    rw [if_pos rfl]
  rw [e3] at key
  exact key
theorem oj_objInit {idx o : Nat} (hl1 : Cond.methodLink mt.1.cls idx Lib.objectInit ∈ oT) (hin : Cond.instanceMethod Lib.objectInit ∈ oT) (hco : Cond.code Lib.objectInit ⟨#[0xb1]⟩ 1 none ∈ oT) (hsl : st.length ≤ 8) (hdep : 1 ≤ E.1) (hd : decode mt.2.1 pc = .ok (.invokespecial idx, 3)) (h : oJ l mt E k n (pc + 3) lv st wd M) : oJ l mt E k n pc lv (vr o :: st) wd M := by
  intro p e R s m args below meth c A D cI cB Z n0 ad0 ad H locs ls Cx hH hl hR hg hn
  have hts := Cx.2.2.2.2.1
  refine W.objInit (a := ad o) (rest := st.map (rlv ad)) Cx.1 Cx.2.1 Cx.2.2.2.1 (hts _ hl1) (hts _ hin) (hts _ hco) rfl (by rw [Cx.2.2.1]; exact hl.1) rfl hd (by have := Cx.2.2.2.2.2.1; omega) (by rw [oSt_sum]; show 2 * 0 + _ + 12 ≤ _; have := Cx.2.2.2.2.2.1; omega) ?_
  exact h p e R s m args below meth c A D cI cB Z n0 ad0 ad H locs ls Cx hH hl ⟨hR.1, hR.2.1.2, hR.2.2⟩ hg hn
theorem oj_putF {idx ci kf o r : Nat} {fty : FieldType} {fs : List (Option (Option Nat))} (hf : oFp mt.1.cls idx ci kf fty) (hdecl : ∃ q : vw_C, vwCl[ci]? = some q ∧ q.1 = mt.1.cls) (hinit : mt.1.name = "<init>") (hw : wd[o]? = some (.inr (ci, fs))) (hk : kf < fs.length) (hft : narrow fty (.ref 0) = .ref 0 ∧ ∀ a, narrow fty (.ref a) = .ref a ∧ fits fty (.ref a) = true) (hd : decode mt.2.1 pc = .ok (.putfield idx, 3)) (h : oJ l mt E k n (pc + 3) lv st (wd.set o (.inr (ci, fs.set kf (some (some r))))) M) : oJ l mt E k n pc lv (vr r :: vr o :: st) wd M := by
  intro p e R s m args below meth c A D cI cB Z n0 ad0 ad H locs ls C hH hl hR hg hn
  obtain ⟨Cn, T, N, ty, name, desc, ⟨hc, hin, hty, hnm⟩, hkN, hT, hpd, hlk⟩ := hf
  have e1 : (T kf).2.1 = name := by rw [hT]
  have e2 : (T kf).2.2.1 = desc := by rw [hT]
  have e3 : (T kf).1 = Cn := by rw [hT]
  have e4 : (T kf).2.2.2 = true := by rw [hT]
  obtain ⟨q, hq1, hq2⟩ := hdecl
  have e5 : Cn = mt.1.cls := by rw [hc] at hq1; cases hq1; exact hq2
  have hol : o < wd.length := (List.getElem?_eq_some_iff.mp hw).1
  have hx : (fs.mapIdx (oFv ad (M o))).set kf (.ref (ad r)) = (fs.set kf (some (some r))).mapIdx (oFv ad (M o)) := by
    apply List.ext_getElem?
    intro i
    by_cases hi : i = kf
    · subst hi
      rw [List.getElem?_set_self (by rw [List.length_mapIdx]; exact hk), List.getElem?_mapIdx, List.getElem?_set_self hk]; rfl
    · rw [List.getElem?_set_ne (Ne.symm hi), List.getElem?_mapIdx, List.getElem?_mapIdx, List.getElem?_set_ne (Ne.symm hi)]
  have hset : (oCells ad cI cB wd M).set o (ad o, .inr (ci, (fs.mapIdx (oFv ad (M o))).set kf (.ref (ad r)))) = oCells ad cI cB (wd.set o (.inr (ci, fs.set kf (some (some r))))) M :=
    oCells_sh hol (by rw [hx]; rfl)
  have hlen : kf < (fs.mapIdx (oFv ad (M o))).length := by rw [List.length_mapIdx]; exact hk
  have hrok := hR.2.1.1
  have hkk : ∀ (H1 : Heap) (locs1 : List Loc), va_P D vwCl ((oCells ad cI cB wd M).set o (ad o, .inr (ci, (fs.mapIdx (oFv ad (M o))).set kf (.ref (ad r))))) H1 → va_D A ((oCells ad cI cB wd M).set o (ad o, .inr (ci, (fs.mapIdx (oFv ad (M o))).set kf (.ref (ad r))))) → va_S A s.heap H1 locs1 → W p l e R s m args below meth c H1 locs1 k n Z (F0 m (pc + 3) ls (st.map (rlv ad))) := by
    intro H1 locs1 h1 h2 h3
    rw [hset] at h1 h2
    refine h p e R s m args below meth c A D cI cB Z n0 ad0 ad H1 locs1 ls C ⟨h1, h2, h3⟩ hl ⟨by rw [List.length_set]; exact hR.1, by rw [List.length_set]; exact hR.2.1.2.2, hR.2.2.1, by rw [List.length_set]; exact hR.2.2.2.1, fun i sh hi => ?_⟩ hg (by rw [List.length_set]; exact hn)
    rw [List.length_set]
    by_cases hio : i = o
    · subst hio
      rw [List.getElem?_set_self hol] at hi
      cases hi
      intro j r' hj
      by_cases hjk : j = kf
      · subst hjk
        rw [List.getElem?_set_self hk] at hj
        cases hj
        exact hrok
      · rw [List.getElem?_set_ne (Ne.symm hjk)] at hj
        exact hR.2.2.2.2 i _ hw j r' hj
    · rw [List.getElem?_set_ne (Ne.symm hio)] at hi
      exact hR.2.2.2.2 i sh hi
  exact va_putF (D := D) (C := Cn) (T := T) (N := N) (ref := Cn) (index := idx) (ty := fty) C.1 C.2.1 C.2.2.2.2.1 hin ty hty hnm C.2.2.2.1 C.2.2.2.2.2.2.1 hH.1 hH.2.1 hH.2.2 o (oCells_get hw) hc kf hkN (by rw [e1, e2]; exact C.2.2.2.2.1 _ hlk) (fun _ hx => by rw [e3] at hx; exact hx) e4 (C.2.2.2.2.2.2.2.2.2.2.1.trans hinit) (by rw [e3]; exact e5) (by rw [e2]; exact hpd) (hft.2 _).1 (hft.2 _).2 hlen hd hkk
theorem oj_copy {α : Type} {K : α → Prop} {f : Int → Option α} {idx src dst Ns Nd : Nat} {n0 n1 sp dp nn : Int} (hlk : Cond.methodLink mt.1.cls idx arraycopyName ∈ oT) (hnat : Cond.native arraycopyName ∈ oT) (hstt : Cond.static arraycopyName ∈ oT) (hini : Cond.initialized "java/lang/System" ∈ oT) (hs : wd[src]? = some (.inl (false, Ns))) (hdst : wd[dst]? = some (.inl (false, Nd))) (h0 : ((Ns : Nat) : Int) = n0) (h1 : ((Nd : Nat) : Int) = n1) (hsl : st.length ≤ 8) (hdep : 1 ≤ E.1) (hd : decode mt.2.1 pc = .ok (.invokestatic idx, 3)) (hK : okp (cpg n0 n1 sp dp nn f) K)
    (h : okp (f 0) K → oJ l mt E k n (pc + 3) lv st wd (acopy M src sp dst dp nn)) : oJ l mt E k n pc lv (vi nn :: vi dp :: vr dst :: vi sp :: vr src :: st) wd M := by
  obtain ⟨⟨g1, g2, g3, g4, g5⟩, hK⟩ := okp_cpg hK
  intro p e R s m args below meth c A D cI cB Z n0' ad0 ad H locs ls Cx hH hl hR hg hn
  have hts := Cx.2.2.2.2.1
  have rn := hR.2.1.1
  have rd := hR.2.1.2.1
  have rs := hR.2.1.2.2.2.1
  have cn := oc_clamp g3 rn
  have cd := oc_clamp g2 rd
  have cs := oc_clamp g1 rs
  have hw100 : 8 + (nativeFrameWords "java/lang/System" "arraycopy" 5 + 11) ≤ 100 := by decide +kernel
  refine va_copyi (D := D) (ty := .int) (rest := st.map (rlv ad)) (locs := locs) Cx.1 Cx.2.1 (by rw [Cx.2.2.1, hl.1]) Cx.2.2.2.1 (hts _ hlk) (hts _ hnat) (hts _ hstt) (hts _ hini) Cx.2.2.2.2.2.2.1 hH.1 hH.2.1 hH.2.2 src dst 0 0 (oCells_get hs) (oCells_get hdst) rfl rfl rfl (fun z => by have := (oc_lt rs inR_0).mp z; omega) (fun z => by have := (oc_lt rd inR_0).mp z; omega) (fun z => by have := (oc_lt rn inR_0).mp z; omega) (by rw [cs, cn]; omega) (by rw [cd, cn]; omega) (fun _ _ => rfl) (by have := Cx.2.2.2.2.2.1; omega) (by rw [oSt_sum]; have := Cx.2.2.2.2.2.1; omega) hd (fun H1 locs1 p1 p2 p3 => ?_)
  have hset : (oCells ad cI cB wd M).set dst (ad dst, .inl (if false = true then cB else cI, Nd, .inl (va_cpy (fun q : Nat => Int32.ofInt (M src q)) (fun q : Nat => Int32.ofInt (M dst q)) (Int32.ofInt sp).toNatClampNeg (Int32.ofInt dp).toNatClampNeg (Int32.ofInt nn).toNatClampNeg))) = oCells ad cI cB wd (acopy M src sp dst dp nn) := by
    refine oCells_set (M' := acopy M src sp dst dp nn) hdst ?_ (fun o' ho => by funext i; unfold acopy; rw [if_neg (fun z => ho z.1)])
    rw [cs, cd, cn]
    show Sum.inl _ = Sum.inl _
    congr 3
    congr 1
    funext q
    unfold va_cpy acopy
    by_cases hq : dp.toNat ≤ q ∧ q < dp.toNat + nn.toNat
    · rw [if_pos hq, if_pos ⟨rfl, by omega, by omega⟩]
      show Int32.ofInt (M src ((sp.toNat + (q - dp.toNat) : Nat) : Int)) = _
      rw [show ((sp.toNat + (q - dp.toNat) : Nat) : Int) = sp + ((q : Int) - dp) from by omega]
    · rw [if_neg hq, if_neg (fun z => hq (by omega))]
  have p1 := hset ▸ p1
  have p2 := hset ▸ p2
  exact h hK p e R s m args below meth c A D cI cB Z n0' ad0 ad H1 locs1 ls Cx ⟨p1, p2, p3⟩ hl ⟨hR.1, hR.2.1.2.2.2.2.2, fun o i => by unfold acopy; split; exact hR.2.2.1 _ _; exact hR.2.2.1 _ _, hR.2.2.2⟩ hg hn
theorem oj_ldc {idx : Nat} {v : Int} (hc : Cond.constant mt.1.cls idx (Int32.ofInt v) ∈ oT) (hv : inR v) (hd : decode mt.2.1 pc = .ok (.ldc idx, 2)) (h : oJ l mt E k n (pc + 2) lv (vi v :: st) wd M) : oJ l mt E k n pc lv st wd M := by
  intro p e R s m args below meth c A D cI cB Z n0 ad0 ad H locs ls Cx hH hl hR hg hn
  exact lv_ldc Cx.1 Cx.2.1 Cx.2.2.2.1 (Cx.2.2.2.2.1 _ hc) hd (h p e R s m args below meth c A D cI cB Z n0 ad0 ad H locs ls Cx hH hl ⟨hR.1, ⟨hv, hR.2.1⟩, hR.2.2⟩ hg hn)
theorem oj_ldcw {idx : Nat} {v : Int} (hc : Cond.constant mt.1.cls idx (Int32.ofInt v) ∈ oT) (hv : inR v) (hd : decode mt.2.1 pc = .ok (.ldc_w idx, 3)) (h : oJ l mt E k n (pc + 3) lv (vi v :: st) wd M) : oJ l mt E k n pc lv st wd M := by
  intro p e R s m args below meth c A D cI cB Z n0 ad0 ad H locs ls Cx hH hl hR hg hn
  exact lv_ldcw Cx.1 Cx.2.1 Cx.2.2.2.1 (Cx.2.2.2.2.1 _ hc) hd (h p e R s m args below meth c A D cI cB Z n0 ad0 ad H locs ls Cx hH hl ⟨hR.1, ⟨hv, hR.2.1⟩, hR.2.2⟩ hg hn)
theorem oj_tin {a dflt lo hi off : Int} {offs : Array Int} {len tgt : Nat} (x : Int) (ha : a = x) (hd : decode mt.2.1 pc = .ok (.tableswitch dflt lo hi offs, len)) (h1 : lo ≤ x ∧ x ≤ hi) (ho : offs[(x - lo).toNat]? = some off) (ht : (pc : Int) + off = (tgt : Int)) (h : oJ l mt E k n tgt lv st wd M) : oJ l mt E k n pc lv (vi a :: st) wd M := by
  subst ha
  intro p e R s m args below meth c A D cI cB Z n0 ad0 ad H locs ls Cx hH hl hR hg hn
  have e1 := oc_toInt hR.2.1.1
  exact lv_tableIn Cx.1 Cx.2.1 hd (by rw [e1]; omega) (by rw [e1]; omega) (by rw [e1]; exact ho) ht (h p e R s m args below meth c A D cI cB Z n0 ad0 ad H locs ls Cx hH hl ⟨hR.1, hR.2.1.2, hR.2.2⟩ hg hn)
theorem oj_tout {a dflt lo hi : Int} {offs : Array Int} {len tgt : Nat} (hd : decode mt.2.1 pc = .ok (.tableswitch dflt lo hi offs, len)) (h1 : a < lo ∨ hi < a) (ht : (pc : Int) + dflt = (tgt : Int)) (h : oJ l mt E k n tgt lv st wd M) : oJ l mt E k n pc lv (vi a :: st) wd M := by
  intro p e R s m args below meth c A D cI cB Z n0 ad0 ad H locs ls Cx hH hl hR hg hn
  have e1 := oc_toInt hR.2.1.1
  exact lv_tableOut Cx.1 Cx.2.1 hd (by rw [e1]; exact h1) ht (h p e R s m args below meth c A D cI cB Z n0 ad0 ad H locs ls Cx hH hl ⟨hR.1, hR.2.1.2, hR.2.2⟩ hg hn)
theorem oj_look {a dflt off : Int} {ps : Array (Int × Int)} {len tgt : Nat} (hd : decode mt.2.1 pc = .ok (.lookupswitch dflt ps, len)) (hp : (ps.toList.zip (ps.toList.drop 1)).all (fun (a, next) => a.1 < next.1) = true) (ho : Op.lookupswitch.offset ps.toList dflt a = off) (ht : (pc : Int) + off = (tgt : Int)) (h : oJ l mt E k n tgt lv st wd M) : oJ l mt E k n pc lv (vi a :: st) wd M := by
  intro p e R s m args below meth c A D cI cB Z n0 ad0 ad H locs ls Cx hH hl hR hg hn
  have e1 := oc_toInt hR.2.1.1
  exact lv_lookup Cx.1 Cx.2.1 hd hp (by rw [e1]; exact ho) ht (h p e R s m args below meth c A D cI cB Z n0 ad0 ad H locs ls Cx hH hl ⟨hR.1, hR.2.1.2, hR.2.2⟩ hg hn)
/-- less may be known of the locals -/
def oLe : List oV → List oV → Prop
  | [], _ => True
  | v :: l, [] => v = vu ∧ oLe l []
  | v :: l, w :: r => (v = vu ∨ v = w) ∧ oLe l r
theorem oN_nil {k : Nat} : oN [] k = vu := by cases k <;> rfl
theorem oLe_N : ∀ {a b : List oV} {k : Nat}, oLe a b → oN a k ≠ vu → oN b k = oN a k
  | [], _, k, _, h => absurd (oN_nil (k := k)) h
  | v :: l, [], 0, h, hk => absurd h.1 hk
  | v :: l, [], k + 1, h, hk => by
    have := oLe_N (k := k) h.2 hk
    rw [oN_nil] at this
    rw [oN_nil]; exact this
  | v :: l, w :: r, 0, h, hk => h.1.elim (fun z => absurd z hk) (fun z => z.symm)
  | v :: l, w :: r, k + 1, h, hk => oLe_N (k := k) (a := l) (b := r) h.2 hk
theorem oks_le {len : Nat} : ∀ {a b : List oV}, oLe a b → oks len b → oks len a
  | [], _, _, _ => trivial
  | v :: l, [], h, hb => ⟨by rw [h.1]; trivial, oks_le h.2 hb⟩
  | v :: l, w :: r, h, hb => ⟨h.1.elim (fun z => by rw [z]; trivial) (fun z => by rw [z]; exact hb.1), oks_le h.2 hb.2⟩
theorem oj_le {lv' : List oV} (hle : oLe lv' lv) (h : oJ l mt E k n pc lv' st wd M) : oJ l mt E k n pc lv st wd M := by
  intro p e R s m args below meth c A D cI cB Z n0 ad0 ad H locs ls Cx hH hl hR hg hn
  exact h p e R s m args below meth c A D cI cB Z n0 ad0 ad H locs ls Cx hH ⟨hl.1, hl.2.1, fun i hi => by rw [← oLe_N hle hi]; exact hl.2.2 i (by rw [oLe_N hle hi]; exact hi)⟩ ⟨oks_le hle hR.1, hR.2⟩ hg hn
/-- the law's script -/
theorem oj_slen {L : Nat} {xs : Nat → Int} (hsc : E.2.2.2.1 = some (L, xs)) (hd : decode mt.2.1 pc = .ok (.arraylength, 1)) (h : oJ l mt E k n (pc + 1) lv (vi (L : Int) :: st) wd M) : oJ l mt E k n pc lv (vr 1002 :: st) wd M := by
  intro p e R s m args below meth c A D cI cB Z n0 ad0 ad H locs ls Cx hH hl hR hg hn
  obtain ⟨hX, hb, hA, hL, hxs⟩ := Cx.2.2.2.2.2.2.2.2.2.1 L xs hsc
  have e1 : ad 1002 = ad0 1002 := hg 1002 (Or.inr (by omega))
  have key := h p e R s m args below meth c A D cI cB Z n0 ad0 ad H locs ls Cx hH hl ⟨hR.1, ⟨⟨by omega, by omega⟩, hR.2.1.2⟩, hR.2.2⟩ hg hn
  show W p l e R s m args below meth c H locs k n Z (F0 m pc ls (.ref (ad 1002) :: st.map (rlv ad)))
  rw [e1]
  refine va_slen Cx.1 Cx.2.1 hX hb hA hH.2.2 hd ?_
  rw [← Int32.ofInt_eq_ofNat]
  exact key
theorem oj_sld {α : Type} {K : α → Prop} {f : Int → Option α} {L : Nat} {xs : Nat → Int} {a : Int} (hsc : E.2.2.2.1 = some (L, xs)) (hd : decode mt.2.1 pc = .ok (.iaload, 1)) (h0 : 0 ≤ a) (h1 : a < L) (h : oJ l mt E k n (pc + 1) lv (vi (xs a.toNat) :: st) wd M) : oJ l mt E k n pc lv (vi a :: vr 1002 :: st) wd M := by
  intro p e R s m args below meth c A D cI cB Z n0 ad0 ad H locs ls Cx hH hl hR hg hn
  obtain ⟨hX, hb, hA, hL, hxs⟩ := Cx.2.2.2.2.2.2.2.2.2.1 L xs hsc
  have e1 : ad 1002 = ad0 1002 := hg 1002 (Or.inr (by omega))
  have ha := hR.2.1.1
  have key := h p e R s m args below meth c A D cI cB Z n0 ad0 ad H locs ls Cx hH hl ⟨hR.1, ⟨hxs _, hR.2.1.2.2⟩, hR.2.2⟩ hg hn
  show W p l e R s m args below meth c H locs k n Z (F0 m pc ls (.int (Int32.ofInt a) :: .ref (ad 1002) :: st.map (rlv ad)))
  rw [e1]
  refine va_sld Cx.1 Cx.2.1 hX hb hA hH.2.2 (oc_in h0 h1 ha) hd ?_
  rw [oc_clamp h0 ha]
  exact key
end MORE
end
