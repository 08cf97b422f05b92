section
-- ===== PART A: goes FIRST, ahead of the names: the tables' words, and 'selects' of the private methods out of them =====
/-- a private method of a class that the tables say can be made, by its rows of tables_1 -/
def lw_okq (q : MethodName × Nat) : Prop := (q.1.cls ≠ "java/lang/invoke/MethodHandle" ∧ q.1.cls ≠ "java/lang/invoke/VarHandle") ∧ Cond.instantiable q.1.cls q.2 ∈ tables_1 ∧ Cond.privateMethod q.1 ∈ tables_1 ∧ Cond.instanceMethod q.1 ∈ tables_1
theorem lw_p0 : lw_okq (⟨"OneCoin$LawReader", "readRule", "(I)I"⟩, 2) := ⟨⟨by decide +kernel, by decide +kernel⟩, List.mem_of_getElem? (i := 187) (by decide +kernel), List.mem_of_getElem? (i := 436) (by decide +kernel), List.mem_of_getElem? (i := 437) (by decide +kernel)⟩
theorem lw_p1 : lw_okq (⟨"OneCoin$LawReader", "readNumber", "(I)I"⟩, 2) := ⟨⟨by decide +kernel, by decide +kernel⟩, List.mem_of_getElem? (i := 187) (by decide +kernel), List.mem_of_getElem? (i := 453) (by decide +kernel), List.mem_of_getElem? (i := 454) (by decide +kernel)⟩
theorem lw_p2 : lw_okq (⟨"OneCoin$LawReader", "readFactor", "(I)I"⟩, 2) := ⟨⟨by decide +kernel, by decide +kernel⟩, List.mem_of_getElem? (i := 187) (by decide +kernel), List.mem_of_getElem? (i := 457) (by decide +kernel), List.mem_of_getElem? (i := 458) (by decide +kernel)⟩
theorem lw_p3 : lw_okq (⟨"OneCoin$LawReader", "readDigits", "()I"⟩, 2) := ⟨⟨by decide +kernel, by decide +kernel⟩, List.mem_of_getElem? (i := 187) (by decide +kernel), List.mem_of_getElem? (i := 465) (by decide +kernel), List.mem_of_getElem? (i := 466) (by decide +kernel)⟩
theorem lw_p4 : lw_okq (⟨"OneCoin$LawReader", "readCondition", "(I)I"⟩, 2) := ⟨⟨by decide +kernel, by decide +kernel⟩, List.mem_of_getElem? (i := 187) (by decide +kernel), List.mem_of_getElem? (i := 560) (by decide +kernel), List.mem_of_getElem? (i := 561) (by decide +kernel)⟩
theorem lw_p5 : lw_okq (⟨"OneCoin$LawReader", "readTest", "(I)I"⟩, 2) := ⟨⟨by decide +kernel, by decide +kernel⟩, List.mem_of_getElem? (i := 187) (by decide +kernel), List.mem_of_getElem? (i := 564) (by decide +kernel), List.mem_of_getElem? (i := 565) (by decide +kernel)⟩
theorem lw_p6 : lw_okq (⟨"OneCoin$LawReader", "readPlainTest", "(I)I"⟩, 2) := ⟨⟨by decide +kernel, by decide +kernel⟩, List.mem_of_getElem? (i := 187) (by decide +kernel), List.mem_of_getElem? (i := 568) (by decide +kernel), List.mem_of_getElem? (i := 569) (by decide +kernel)⟩
theorem lw_p7 : lw_okq (⟨"OneCoin$DebtsReader", "readLine", "(I)I"⟩, 3) := ⟨⟨by decide +kernel, by decide +kernel⟩, List.mem_of_getElem? (i := 200) (by decide +kernel), List.mem_of_getElem? (i := 603) (by decide +kernel), List.mem_of_getElem? (i := 604) (by decide +kernel)⟩
theorem lw_p8 : lw_okq (⟨"OneCoin$DebtsReader", "readMany", "(I)I"⟩, 3) := ⟨⟨by decide +kernel, by decide +kernel⟩, List.mem_of_getElem? (i := 200) (by decide +kernel), List.mem_of_getElem? (i := 616) (by decide +kernel), List.mem_of_getElem? (i := 617) (by decide +kernel)⟩
theorem lw_p9 : lw_okq (⟨"OneCoin$Clock", "beginDay", "(LOneCoin$Duchy;)V"⟩, 6) := ⟨⟨by decide +kernel, by decide +kernel⟩, List.mem_of_getElem? (i := 234) (by decide +kernel), List.mem_of_getElem? (i := 648) (by decide +kernel), List.mem_of_getElem? (i := 649) (by decide +kernel)⟩
theorem lw_p10 : lw_okq (⟨"OneCoin$Law", "firstOf", "(II)I"⟩, 11) := ⟨⟨by decide +kernel, by decide +kernel⟩, List.mem_of_getElem? (i := 140) (by decide +kernel), List.mem_of_getElem? (i := 662) (by decide +kernel), List.mem_of_getElem? (i := 663) (by decide +kernel)⟩
theorem lw_p11 : lw_okq (⟨"OneCoin$Law", "reckoned", "(II)I"⟩, 11) := ⟨⟨by decide +kernel, by decide +kernel⟩, List.mem_of_getElem? (i := 140) (by decide +kernel), List.mem_of_getElem? (i := 666) (by decide +kernel), List.mem_of_getElem? (i := 667) (by decide +kernel)⟩
theorem lw_p12 : lw_okq (⟨"OneCoin$Law", "look", "(LOneCoin$Duchy;II)V"⟩, 11) := ⟨⟨by decide +kernel, by decide +kernel⟩, List.mem_of_getElem? (i := 140) (by decide +kernel), List.mem_of_getElem? (i := 679) (by decide +kernel), List.mem_of_getElem? (i := 680) (by decide +kernel)⟩
theorem lw_p13 : lw_okq (⟨"OneCoin$Clock", "travel", "(LOneCoin$Duchy;)V"⟩, 6) := ⟨⟨by decide +kernel, by decide +kernel⟩, List.mem_of_getElem? (i := 234) (by decide +kernel), List.mem_of_getElem? (i := 705) (by decide +kernel), List.mem_of_getElem? (i := 706) (by decide +kernel)⟩
theorem lw_p14 : lw_okq (⟨"OneCoin$Duchy", "write", "(I)V"⟩, 12) := ⟨⟨by decide +kernel, by decide +kernel⟩, List.mem_of_getElem? (i := 73) (by decide +kernel), List.mem_of_getElem? (i := 715) (by decide +kernel), List.mem_of_getElem? (i := 716) (by decide +kernel)⟩
theorem lw_p15 : lw_okq (⟨"OneCoin$Clock", "setOut", "(LOneCoin$Duchy;)V"⟩, 6) := ⟨⟨by decide +kernel, by decide +kernel⟩, List.mem_of_getElem? (i := 234) (by decide +kernel), List.mem_of_getElem? (i := 721) (by decide +kernel), List.mem_of_getElem? (i := 722) (by decide +kernel)⟩
def lw_privs_1 : List (MethodName × Nat) := [(⟨"OneCoin$LawReader", "readRule", "(I)I"⟩, 2), (⟨"OneCoin$LawReader", "readNumber", "(I)I"⟩, 2), (⟨"OneCoin$LawReader", "readFactor", "(I)I"⟩, 2), (⟨"OneCoin$LawReader", "readDigits", "()I"⟩, 2), (⟨"OneCoin$LawReader", "readCondition", "(I)I"⟩, 2), (⟨"OneCoin$LawReader", "readTest", "(I)I"⟩, 2), (⟨"OneCoin$LawReader", "readPlainTest", "(I)I"⟩, 2), (⟨"OneCoin$DebtsReader", "readLine", "(I)I"⟩, 3), (⟨"OneCoin$DebtsReader", "readMany", "(I)I"⟩, 3), (⟨"OneCoin$Clock", "beginDay", "(LOneCoin$Duchy;)V"⟩, 6), (⟨"OneCoin$Law", "firstOf", "(II)I"⟩, 11), (⟨"OneCoin$Law", "reckoned", "(II)I"⟩, 11), (⟨"OneCoin$Law", "look", "(LOneCoin$Duchy;II)V"⟩, 11), (⟨"OneCoin$Clock", "travel", "(LOneCoin$Duchy;)V"⟩, 6), (⟨"OneCoin$Duchy", "write", "(I)V"⟩, 12), (⟨"OneCoin$Clock", "setOut", "(LOneCoin$Duchy;)V"⟩, 6)]
theorem lw_r1 : ∀ q ∈ lw_privs_1, lw_okq q := List.forall_mem_cons.mpr ⟨lw_p0, List.forall_mem_cons.mpr ⟨lw_p1, List.forall_mem_cons.mpr ⟨lw_p2, List.forall_mem_cons.mpr ⟨lw_p3, List.forall_mem_cons.mpr ⟨lw_p4, List.forall_mem_cons.mpr ⟨lw_p5, List.forall_mem_cons.mpr ⟨lw_p6, List.forall_mem_cons.mpr ⟨lw_p7, List.forall_mem_cons.mpr ⟨lw_p8, List.forall_mem_cons.mpr ⟨lw_p9, List.forall_mem_cons.mpr ⟨lw_p10, List.forall_mem_cons.mpr ⟨lw_p11, List.forall_mem_cons.mpr ⟨lw_p12, List.forall_mem_cons.mpr ⟨lw_p13, List.forall_mem_cons.mpr ⟨lw_p14, List.forall_mem_cons.mpr ⟨lw_p15, fun _ h => absurd h List.not_mem_nil⟩⟩⟩⟩⟩⟩⟩⟩⟩⟩⟩⟩⟩⟩⟩⟩
theorem lw_p16 : lw_okq (⟨"OneCoin", "readRoute", "()I"⟩, 14) := ⟨⟨by decide +kernel, by decide +kernel⟩, List.mem_of_getElem? (i := 23) (by decide +kernel), List.mem_of_getElem? (i := 767) (by decide +kernel), List.mem_of_getElem? (i := 768) (by decide +kernel)⟩
theorem lw_p17 : lw_okq (⟨"OneCoin$RouteReader", "readPayings", "(I)I"⟩, 3) := ⟨⟨by decide +kernel, by decide +kernel⟩, List.mem_of_getElem? (i := 217) (by decide +kernel), List.mem_of_getElem? (i := 775) (by decide +kernel), List.mem_of_getElem? (i := 776) (by decide +kernel)⟩
theorem lw_p18 : lw_okq (⟨"OneCoin$RouteReader", "readPaying", "(I)I"⟩, 3) := ⟨⟨by decide +kernel, by decide +kernel⟩, List.mem_of_getElem? (i := 217) (by decide +kernel), List.mem_of_getElem? (i := 779) (by decide +kernel), List.mem_of_getElem? (i := 780) (by decide +kernel)⟩
theorem lw_p19 : lw_okq (⟨"OneCoin$RouteReader", "repeat", "(II)Z"⟩, 3) := ⟨⟨by decide +kernel, by decide +kernel⟩, List.mem_of_getElem? (i := 217) (by decide +kernel), List.mem_of_getElem? (i := 789) (by decide +kernel), List.mem_of_getElem? (i := 790) (by decide +kernel)⟩
theorem lw_p20 : lw_okq (⟨"OneCoin$Rows", "leastNext", "(I)I"⟩, 8) := ⟨⟨by decide +kernel, by decide +kernel⟩, List.mem_of_getElem? (i := 263) (by decide +kernel), List.mem_of_getElem? (i := 827) (by decide +kernel), List.mem_of_getElem? (i := 828) (by decide +kernel)⟩
theorem lw_p21 : lw_okq (⟨"OneCoin$Balance", "weigh", "(LOneCoin$Duchy;)V"⟩, 9) := ⟨⟨by decide +kernel, by decide +kernel⟩, List.mem_of_getElem? (i := 296) (by decide +kernel), List.mem_of_getElem? (i := 864) (by decide +kernel), List.mem_of_getElem? (i := 865) (by decide +kernel)⟩
theorem lw_p22 : lw_okq (⟨"OneCoin$Balance", "isEvenTurned", "(II)Z"⟩, 9) := ⟨⟨by decide +kernel, by decide +kernel⟩, List.mem_of_getElem? (i := 296) (by decide +kernel), List.mem_of_getElem? (i := 900) (by decide +kernel), List.mem_of_getElem? (i := 901) (by decide +kernel)⟩
theorem lw_p23 : lw_okq (⟨"OneCoin$Rows", "hoursOf", "(II)I"⟩, 8) := ⟨⟨by decide +kernel, by decide +kernel⟩, List.mem_of_getElem? (i := 263) (by decide +kernel), List.mem_of_getElem? (i := 956) (by decide +kernel), List.mem_of_getElem? (i := 957) (by decide +kernel)⟩
theorem lw_p24 : lw_okq (⟨"OneCoin$Rows", "setShare", "([III)V"⟩, 8) := ⟨⟨by decide +kernel, by decide +kernel⟩, List.mem_of_getElem? (i := 263) (by decide +kernel), List.mem_of_getElem? (i := 961) (by decide +kernel), List.mem_of_getElem? (i := 962) (by decide +kernel)⟩
theorem lw_p25 : lw_okq (⟨"OneCoinModel", "areTwo", "(II)Z"⟩, 62) := ⟨⟨by decide +kernel, by decide +kernel⟩, List.mem_of_getElem? (i := 997) (by decide +kernel), List.mem_of_getElem? (i := 1202) (by decide +kernel), List.mem_of_getElem? (i := 1203) (by decide +kernel)⟩
theorem lw_p26 : lw_okq (⟨"OneCoinModel", "isPerson", "(I)Z"⟩, 62) := ⟨⟨by decide +kernel, by decide +kernel⟩, List.mem_of_getElem? (i := 997) (by decide +kernel), List.mem_of_getElem? (i := 1206) (by decide +kernel), List.mem_of_getElem? (i := 1207) (by decide +kernel)⟩
theorem lw_p27 : lw_okq (⟨"OneCoinModel", "rests", "(I)V"⟩, 62) := ⟨⟨by decide +kernel, by decide +kernel⟩, List.mem_of_getElem? (i := 997) (by decide +kernel), List.mem_of_getElem? (i := 1217) (by decide +kernel), List.mem_of_getElem? (i := 1218) (by decide +kernel)⟩
theorem lw_p28 : lw_okq (⟨"OneCoinModel", "types", "(I)V"⟩, 62) := ⟨⟨by decide +kernel, by decide +kernel⟩, List.mem_of_getElem? (i := 997) (by decide +kernel), List.mem_of_getElem? (i := 1225) (by decide +kernel), List.mem_of_getElem? (i := 1226) (by decide +kernel)⟩
theorem lw_p29 : lw_okq (⟨"OneCoinModel", "readsRule", "()Z"⟩, 62) := ⟨⟨by decide +kernel, by decide +kernel⟩, List.mem_of_getElem? (i := 997) (by decide +kernel), List.mem_of_getElem? (i := 1233) (by decide +kernel), List.mem_of_getElem? (i := 1234) (by decide +kernel)⟩
theorem lw_p30 : lw_okq (⟨"OneCoinModel", "here", "()I"⟩, 62) := ⟨⟨by decide +kernel, by decide +kernel⟩, List.mem_of_getElem? (i := 997) (by decide +kernel), List.mem_of_getElem? (i := 1237) (by decide +kernel), List.mem_of_getElem? (i := 1238) (by decide +kernel)⟩
theorem lw_p31 : lw_okq (⟨"OneCoinModel", "wrongAt", "(II)Z"⟩, 62) := ⟨⟨by decide +kernel, by decide +kernel⟩, List.mem_of_getElem? (i := 997) (by decide +kernel), List.mem_of_getElem? (i := 1241) (by decide +kernel), List.mem_of_getElem? (i := 1242) (by decide +kernel)⟩
def lw_privs_2 : List (MethodName × Nat) := [(⟨"OneCoin", "readRoute", "()I"⟩, 14), (⟨"OneCoin$RouteReader", "readPayings", "(I)I"⟩, 3), (⟨"OneCoin$RouteReader", "readPaying", "(I)I"⟩, 3), (⟨"OneCoin$RouteReader", "repeat", "(II)Z"⟩, 3), (⟨"OneCoin$Rows", "leastNext", "(I)I"⟩, 8), (⟨"OneCoin$Balance", "weigh", "(LOneCoin$Duchy;)V"⟩, 9), (⟨"OneCoin$Balance", "isEvenTurned", "(II)Z"⟩, 9), (⟨"OneCoin$Rows", "hoursOf", "(II)I"⟩, 8), (⟨"OneCoin$Rows", "setShare", "([III)V"⟩, 8), (⟨"OneCoinModel", "areTwo", "(II)Z"⟩, 62), (⟨"OneCoinModel", "isPerson", "(I)Z"⟩, 62), (⟨"OneCoinModel", "rests", "(I)V"⟩, 62), (⟨"OneCoinModel", "types", "(I)V"⟩, 62), (⟨"OneCoinModel", "readsRule", "()Z"⟩, 62), (⟨"OneCoinModel", "here", "()I"⟩, 62), (⟨"OneCoinModel", "wrongAt", "(II)Z"⟩, 62)]
theorem lw_r2 : ∀ q ∈ lw_privs_2, lw_okq q := List.forall_mem_cons.mpr ⟨lw_p16, List.forall_mem_cons.mpr ⟨lw_p17, List.forall_mem_cons.mpr ⟨lw_p18, List.forall_mem_cons.mpr ⟨lw_p19, List.forall_mem_cons.mpr ⟨lw_p20, List.forall_mem_cons.mpr ⟨lw_p21, List.forall_mem_cons.mpr ⟨lw_p22, List.forall_mem_cons.mpr ⟨lw_p23, List.forall_mem_cons.mpr ⟨lw_p24, List.forall_mem_cons.mpr ⟨lw_p25, List.forall_mem_cons.mpr ⟨lw_p26, List.forall_mem_cons.mpr ⟨lw_p27, List.forall_mem_cons.mpr ⟨lw_p28, List.forall_mem_cons.mpr ⟨lw_p29, List.forall_mem_cons.mpr ⟨lw_p30, List.forall_mem_cons.mpr ⟨lw_p31, fun _ h => absurd h List.not_mem_nil⟩⟩⟩⟩⟩⟩⟩⟩⟩⟩⟩⟩⟩⟩⟩⟩
theorem lw_p32 : lw_okq (⟨"OneCoinModel", "readsSum", "()Z"⟩, 62) := ⟨⟨by decide +kernel, by decide +kernel⟩, List.mem_of_getElem? (i := 997) (by decide +kernel), List.mem_of_getElem? (i := 1245) (by decide +kernel), List.mem_of_getElem? (i := 1246) (by decide +kernel)⟩
theorem lw_p33 : lw_okq (⟨"OneCoinModel", "readsFactor", "()Z"⟩, 62) := ⟨⟨by decide +kernel, by decide +kernel⟩, List.mem_of_getElem? (i := 997) (by decide +kernel), List.mem_of_getElem? (i := 1249) (by decide +kernel), List.mem_of_getElem? (i := 1250) (by decide +kernel)⟩
theorem lw_p34 : lw_okq (⟨"OneCoinModel", "opens", "(I)Z"⟩, 62) := ⟨⟨by decide +kernel, by decide +kernel⟩, List.mem_of_getElem? (i := 997) (by decide +kernel), List.mem_of_getElem? (i := 1253) (by decide +kernel), List.mem_of_getElem? (i := 1254) (by decide +kernel)⟩
theorem lw_p35 : lw_okq (⟨"OneCoinModel", "isDigit", "()Z"⟩, 62) := ⟨⟨by decide +kernel, by decide +kernel⟩, List.mem_of_getElem? (i := 997) (by decide +kernel), List.mem_of_getElem? (i := 1258) (by decide +kernel), List.mem_of_getElem? (i := 1259) (by decide +kernel)⟩
theorem lw_p36 : lw_okq (⟨"OneCoinModel", "readsNumber", "()Z"⟩, 62) := ⟨⟨by decide +kernel, by decide +kernel⟩, List.mem_of_getElem? (i := 997) (by decide +kernel), List.mem_of_getElem? (i := 1262) (by decide +kernel), List.mem_of_getElem? (i := 1263) (by decide +kernel)⟩
theorem lw_p37 : lw_okq (⟨"OneCoinModel", "notes", "(II)V"⟩, 62) := ⟨⟨by decide +kernel, by decide +kernel⟩, List.mem_of_getElem? (i := 997) (by decide +kernel), List.mem_of_getElem? (i := 1266) (by decide +kernel), List.mem_of_getElem? (i := 1267) (by decide +kernel)⟩
theorem lw_p38 : lw_okq (⟨"OneCoinModel", "closesSums", "(Z)V"⟩, 62) := ⟨⟨by decide +kernel, by decide +kernel⟩, List.mem_of_getElem? (i := 997) (by decide +kernel), List.mem_of_getElem? (i := 1276) (by decide +kernel), List.mem_of_getElem? (i := 1277) (by decide +kernel)⟩
theorem lw_p39 : lw_okq (⟨"OneCoinModel", "waitTop", "()I"⟩, 62) := ⟨⟨by decide +kernel, by decide +kernel⟩, List.mem_of_getElem? (i := 997) (by decide +kernel), List.mem_of_getElem? (i := 1280) (by decide +kernel), List.mem_of_getElem? (i := 1281) (by decide +kernel)⟩
theorem lw_p40 : lw_okq (⟨"OneCoinModel", "hasOpenSum", "(I)Z"⟩, 62) := ⟨⟨by decide +kernel, by decide +kernel⟩, List.mem_of_getElem? (i := 997) (by decide +kernel), List.mem_of_getElem? (i := 1284) (by decide +kernel), List.mem_of_getElem? (i := 1285) (by decide +kernel)⟩
theorem lw_p41 : lw_okq (⟨"OneCoinModel", "readsCondition", "()Z"⟩, 62) := ⟨⟨by decide +kernel, by decide +kernel⟩, List.mem_of_getElem? (i := 997) (by decide +kernel), List.mem_of_getElem? (i := 1288) (by decide +kernel), List.mem_of_getElem? (i := 1289) (by decide +kernel)⟩
theorem lw_p42 : lw_okq (⟨"OneCoinModel", "readsCompared", "()Z"⟩, 62) := ⟨⟨by decide +kernel, by decide +kernel⟩, List.mem_of_getElem? (i := 997) (by decide +kernel), List.mem_of_getElem? (i := 1292) (by decide +kernel), List.mem_of_getElem? (i := 1293) (by decide +kernel)⟩
theorem lw_p43 : lw_okq (⟨"OneCoinModel", "endsPiece", "()V"⟩, 62) := ⟨⟨by decide +kernel, by decide +kernel⟩, List.mem_of_getElem? (i := 997) (by decide +kernel), List.mem_of_getElem? (i := 1296) (by decide +kernel), List.mem_of_getElem? (i := 1297) (by decide +kernel)⟩
theorem lw_p44 : lw_okq (⟨"OneCoinModel", "lands", "(Z)V"⟩, 62) := ⟨⟨by decide +kernel, by decide +kernel⟩, List.mem_of_getElem? (i := 997) (by decide +kernel), List.mem_of_getElem? (i := 1300) (by decide +kernel), List.mem_of_getElem? (i := 1301) (by decide +kernel)⟩
theorem lw_p45 : lw_okq (⟨"OneCoinModel", "jumps", "(I)V"⟩, 62) := ⟨⟨by decide +kernel, by decide +kernel⟩, List.mem_of_getElem? (i := 997) (by decide +kernel), List.mem_of_getElem? (i := 1304) (by decide +kernel), List.mem_of_getElem? (i := 1305) (by decide +kernel)⟩
theorem lw_p46 : lw_okq (⟨"OneCoinModel", "takes", "(I)Z"⟩, 62) := ⟨⟨by decide +kernel, by decide +kernel⟩, List.mem_of_getElem? (i := 997) (by decide +kernel), List.mem_of_getElem? (i := 1308) (by decide +kernel), List.mem_of_getElem? (i := 1309) (by decide +kernel)⟩
theorem lw_p47 : lw_okq (⟨"OneCoinModel", "readsLine", "()Z"⟩, 62) := ⟨⟨by decide +kernel, by decide +kernel⟩, List.mem_of_getElem? (i := 997) (by decide +kernel), List.mem_of_getElem? (i := 1316) (by decide +kernel), List.mem_of_getElem? (i := 1317) (by decide +kernel)⟩
def lw_privs_3 : List (MethodName × Nat) := [(⟨"OneCoinModel", "readsSum", "()Z"⟩, 62), (⟨"OneCoinModel", "readsFactor", "()Z"⟩, 62), (⟨"OneCoinModel", "opens", "(I)Z"⟩, 62), (⟨"OneCoinModel", "isDigit", "()Z"⟩, 62), (⟨"OneCoinModel", "readsNumber", "()Z"⟩, 62), (⟨"OneCoinModel", "notes", "(II)V"⟩, 62), (⟨"OneCoinModel", "closesSums", "(Z)V"⟩, 62), (⟨"OneCoinModel", "waitTop", "()I"⟩, 62), (⟨"OneCoinModel", "hasOpenSum", "(I)Z"⟩, 62), (⟨"OneCoinModel", "readsCondition", "()Z"⟩, 62), (⟨"OneCoinModel", "readsCompared", "()Z"⟩, 62), (⟨"OneCoinModel", "endsPiece", "()V"⟩, 62), (⟨"OneCoinModel", "lands", "(Z)V"⟩, 62), (⟨"OneCoinModel", "jumps", "(I)V"⟩, 62), (⟨"OneCoinModel", "takes", "(I)Z"⟩, 62), (⟨"OneCoinModel", "readsLine", "()Z"⟩, 62)]
theorem lw_r3 : ∀ q ∈ lw_privs_3, lw_okq q := List.forall_mem_cons.mpr ⟨lw_p32, List.forall_mem_cons.mpr ⟨lw_p33, List.forall_mem_cons.mpr ⟨lw_p34, List.forall_mem_cons.mpr ⟨lw_p35, List.forall_mem_cons.mpr ⟨lw_p36, List.forall_mem_cons.mpr ⟨lw_p37, List.forall_mem_cons.mpr ⟨lw_p38, List.forall_mem_cons.mpr ⟨lw_p39, List.forall_mem_cons.mpr ⟨lw_p40, List.forall_mem_cons.mpr ⟨lw_p41, List.forall_mem_cons.mpr ⟨lw_p42, List.forall_mem_cons.mpr ⟨lw_p43, List.forall_mem_cons.mpr ⟨lw_p44, List.forall_mem_cons.mpr ⟨lw_p45, List.forall_mem_cons.mpr ⟨lw_p46, List.forall_mem_cons.mpr ⟨lw_p47, fun _ h => absurd h List.not_mem_nil⟩⟩⟩⟩⟩⟩⟩⟩⟩⟩⟩⟩⟩⟩⟩⟩
theorem lw_p48 : lw_okq (⟨"OneCoinModel", "readsPerson", "(Z)Z"⟩, 62) := ⟨⟨by decide +kernel, by decide +kernel⟩, List.mem_of_getElem? (i := 997) (by decide +kernel), List.mem_of_getElem? (i := 1320) (by decide +kernel), List.mem_of_getElem? (i := 1321) (by decide +kernel)⟩
theorem lw_p49 : lw_okq (⟨"OneCoinModel", "owedInAll", "()I"⟩, 62) := ⟨⟨by decide +kernel, by decide +kernel⟩, List.mem_of_getElem? (i := 997) (by decide +kernel), List.mem_of_getElem? (i := 1327) (by decide +kernel), List.mem_of_getElem? (i := 1328) (by decide +kernel)⟩
theorem lw_p50 : lw_okq (⟨"OneCoinModel", "owesAll", "(I)I"⟩, 62) := ⟨⟨by decide +kernel, by decide +kernel⟩, List.mem_of_getElem? (i := 997) (by decide +kernel), List.mem_of_getElem? (i := 1331) (by decide +kernel), List.mem_of_getElem? (i := 1332) (by decide +kernel)⟩
theorem lw_p51 : lw_okq (⟨"OneCoinModel", "debtOf", "(II)I"⟩, 62) := ⟨⟨by decide +kernel, by decide +kernel⟩, List.mem_of_getElem? (i := 997) (by decide +kernel), List.mem_of_getElem? (i := 1335) (by decide +kernel), List.mem_of_getElem? (i := 1336) (by decide +kernel)⟩
theorem lw_p52 : lw_okq (⟨"OneCoinModel", "hoursGo", "(I)V"⟩, 62) := ⟨⟨by decide +kernel, by decide +kernel⟩, List.mem_of_getElem? (i := 997) (by decide +kernel), List.mem_of_getElem? (i := 1343) (by decide +kernel), List.mem_of_getElem? (i := 1344) (by decide +kernel)⟩
theorem lw_p53 : lw_okq (⟨"OneCoinModel", "begins", "()V"⟩, 62) := ⟨⟨by decide +kernel, by decide +kernel⟩, List.mem_of_getElem? (i := 997) (by decide +kernel), List.mem_of_getElem? (i := 1347) (by decide +kernel), List.mem_of_getElem? (i := 1348) (by decide +kernel)⟩
theorem lw_p54 : lw_okq (⟨"OneCoinModel", "hourGoes", "()V"⟩, 62) := ⟨⟨by decide +kernel, by decide +kernel⟩, List.mem_of_getElem? (i := 997) (by decide +kernel), List.mem_of_getElem? (i := 1351) (by decide +kernel), List.mem_of_getElem? (i := 1352) (by decide +kernel)⟩
theorem lw_p55 : lw_okq (⟨"OneCoinModel", "dayBegins", "()V"⟩, 62) := ⟨⟨by decide +kernel, by decide +kernel⟩, List.mem_of_getElem? (i := 997) (by decide +kernel), List.mem_of_getElem? (i := 1355) (by decide +kernel), List.mem_of_getElem? (i := 1356) (by decide +kernel)⟩
theorem lw_p56 : lw_okq (⟨"OneCoinModel", "rainBy", "()I"⟩, 62) := ⟨⟨by decide +kernel, by decide +kernel⟩, List.mem_of_getElem? (i := 997) (by decide +kernel), List.mem_of_getElem? (i := 1360) (by decide +kernel), List.mem_of_getElem? (i := 1361) (by decide +kernel)⟩
theorem lw_p57 : lw_okq (⟨"OneCoinModel", "feels", "(I)V"⟩, 62) := ⟨⟨by decide +kernel, by decide +kernel⟩, List.mem_of_getElem? (i := 997) (by decide +kernel), List.mem_of_getElem? (i := 1364) (by decide +kernel), List.mem_of_getElem? (i := 1365) (by decide +kernel)⟩
theorem lw_p58 : lw_okq (⟨"OneCoinModel", "byLaw", "(II)I"⟩, 62) := ⟨⟨by decide +kernel, by decide +kernel⟩, List.mem_of_getElem? (i := 997) (by decide +kernel), List.mem_of_getElem? (i := 1368) (by decide +kernel), List.mem_of_getElem? (i := 1369) (by decide +kernel)⟩
theorem lw_p59 : lw_okq (⟨"OneCoinModel", "comesTo", "(II)I"⟩, 62) := ⟨⟨by decide +kernel, by decide +kernel⟩, List.mem_of_getElem? (i := 997) (by decide +kernel), List.mem_of_getElem? (i := 1372) (by decide +kernel), List.mem_of_getElem? (i := 1373) (by decide +kernel)⟩
theorem lw_p60 : lw_okq (⟨"OneCoinModel", "feelsTwo", "(II)V"⟩, 62) := ⟨⟨by decide +kernel, by decide +kernel⟩, List.mem_of_getElem? (i := 997) (by decide +kernel), List.mem_of_getElem? (i := 1379) (by decide +kernel), List.mem_of_getElem? (i := 1380) (by decide +kernel)⟩
theorem lw_p61 : lw_okq (⟨"OneCoinModel", "wayOf", "(II)I"⟩, 62) := ⟨⟨by decide +kernel, by decide +kernel⟩, List.mem_of_getElem? (i := 997) (by decide +kernel), List.mem_of_getElem? (i := 1383) (by decide +kernel), List.mem_of_getElem? (i := 1384) (by decide +kernel)⟩
theorem lw_p62 : lw_okq (⟨"OneCoinModel", "chalksOf", "(I)I"⟩, 62) := ⟨⟨by decide +kernel, by decide +kernel⟩, List.mem_of_getElem? (i := 997) (by decide +kernel), List.mem_of_getElem? (i := 1393) (by decide +kernel), List.mem_of_getElem? (i := 1394) (by decide +kernel)⟩
theorem lw_p63 : lw_okq (⟨"OneCoinModel", "pays", "(II)V"⟩, 62) := ⟨⟨by decide +kernel, by decide +kernel⟩, List.mem_of_getElem? (i := 997) (by decide +kernel), List.mem_of_getElem? (i := 1397) (by decide +kernel), List.mem_of_getElem? (i := 1398) (by decide +kernel)⟩
def lw_privs_4 : List (MethodName × Nat) := [(⟨"OneCoinModel", "readsPerson", "(Z)Z"⟩, 62), (⟨"OneCoinModel", "owedInAll", "()I"⟩, 62), (⟨"OneCoinModel", "owesAll", "(I)I"⟩, 62), (⟨"OneCoinModel", "debtOf", "(II)I"⟩, 62), (⟨"OneCoinModel", "hoursGo", "(I)V"⟩, 62), (⟨"OneCoinModel", "begins", "()V"⟩, 62), (⟨"OneCoinModel", "hourGoes", "()V"⟩, 62), (⟨"OneCoinModel", "dayBegins", "()V"⟩, 62), (⟨"OneCoinModel", "rainBy", "()I"⟩, 62), (⟨"OneCoinModel", "feels", "(I)V"⟩, 62), (⟨"OneCoinModel", "byLaw", "(II)I"⟩, 62), (⟨"OneCoinModel", "comesTo", "(II)I"⟩, 62), (⟨"OneCoinModel", "feelsTwo", "(II)V"⟩, 62), (⟨"OneCoinModel", "wayOf", "(II)I"⟩, 62), (⟨"OneCoinModel", "chalksOf", "(I)I"⟩, 62), (⟨"OneCoinModel", "pays", "(II)V"⟩, 62)]
theorem lw_r4 : ∀ q ∈ lw_privs_4, lw_okq q := List.forall_mem_cons.mpr ⟨lw_p48, List.forall_mem_cons.mpr ⟨lw_p49, List.forall_mem_cons.mpr ⟨lw_p50, List.forall_mem_cons.mpr ⟨lw_p51, List.forall_mem_cons.mpr ⟨lw_p52, List.forall_mem_cons.mpr ⟨lw_p53, List.forall_mem_cons.mpr ⟨lw_p54, List.forall_mem_cons.mpr ⟨lw_p55, List.forall_mem_cons.mpr ⟨lw_p56, List.forall_mem_cons.mpr ⟨lw_p57, List.forall_mem_cons.mpr ⟨lw_p58, List.forall_mem_cons.mpr ⟨lw_p59, List.forall_mem_cons.mpr ⟨lw_p60, List.forall_mem_cons.mpr ⟨lw_p61, List.forall_mem_cons.mpr ⟨lw_p62, List.forall_mem_cons.mpr ⟨lw_p63, fun _ h => absurd h List.not_mem_nil⟩⟩⟩⟩⟩⟩⟩⟩⟩⟩⟩⟩⟩⟩⟩⟩
theorem lw_p64 : lw_okq (⟨"OneCoinModel", "chalks", "(I)V"⟩, 62) := ⟨⟨by decide +kernel, by decide +kernel⟩, List.mem_of_getElem? (i := 997) (by decide +kernel), List.mem_of_getElem? (i := 1401) (by decide +kernel), List.mem_of_getElem? (i := 1402) (by decide +kernel)⟩
theorem lw_p65 : lw_okq (⟨"OneCoinModel", "holds", "(I)V"⟩, 62) := ⟨⟨by decide +kernel, by decide +kernel⟩, List.mem_of_getElem? (i := 997) (by decide +kernel), List.mem_of_getElem? (i := 1405) (by decide +kernel), List.mem_of_getElem? (i := 1406) (by decide +kernel)⟩
theorem lw_p66 : lw_okq (⟨"OneCoinModel", "nextPaid", "(I)I"⟩, 62) := ⟨⟨by decide +kernel, by decide +kernel⟩, List.mem_of_getElem? (i := 997) (by decide +kernel), List.mem_of_getElem? (i := 1409) (by decide +kernel), List.mem_of_getElem? (i := 1410) (by decide +kernel)⟩
theorem lw_p67 : lw_okq (⟨"OneCoinModel", "likesBy", "(II)I"⟩, 62) := ⟨⟨by decide +kernel, by decide +kernel⟩, List.mem_of_getElem? (i := 997) (by decide +kernel), List.mem_of_getElem? (i := 1413) (by decide +kernel), List.mem_of_getElem? (i := 1414) (by decide +kernel)⟩
theorem lw_p68 : lw_okq (⟨"OneCoinModel", "holdsAny", "(I)Z"⟩, 62) := ⟨⟨by decide +kernel, by decide +kernel⟩, List.mem_of_getElem? (i := 997) (by decide +kernel), List.mem_of_getElem? (i := 1417) (by decide +kernel), List.mem_of_getElem? (i := 1418) (by decide +kernel)⟩
theorem lw_p69 : lw_okq (⟨"OneCoinModel", "setsOut", "(II)V"⟩, 62) := ⟨⟨by decide +kernel, by decide +kernel⟩, List.mem_of_getElem? (i := 997) (by decide +kernel), List.mem_of_getElem? (i := 1421) (by decide +kernel), List.mem_of_getElem? (i := 1422) (by decide +kernel)⟩
theorem lw_p70 : lw_okq (⟨"OneCoinModel", "getsAll", "(I)I"⟩, 62) := ⟨⟨by decide +kernel, by decide +kernel⟩, List.mem_of_getElem? (i := 997) (by decide +kernel), List.mem_of_getElem? (i := 1436) (by decide +kernel), List.mem_of_getElem? (i := 1437) (by decide +kernel)⟩
theorem lw_p71 : lw_okq (⟨"OneCoinModel", "readsRoute", "(I)I"⟩, 62) := ⟨⟨by decide +kernel, by decide +kernel⟩, List.mem_of_getElem? (i := 997) (by decide +kernel), List.mem_of_getElem? (i := 1452) (by decide +kernel), List.mem_of_getElem? (i := 1453) (by decide +kernel)⟩
theorem lw_p72 : lw_okq (⟨"OneCoinModel", "readsItem", "()Z"⟩, 62) := ⟨⟨by decide +kernel, by decide +kernel⟩, List.mem_of_getElem? (i := 997) (by decide +kernel), List.mem_of_getElem? (i := 1456) (by decide +kernel), List.mem_of_getElem? (i := 1457) (by decide +kernel)⟩
theorem lw_p73 : lw_okq (⟨"OneCoinModel", "readsTimes", "()V"⟩, 62) := ⟨⟨by decide +kernel, by decide +kernel⟩, List.mem_of_getElem? (i := 997) (by decide +kernel), List.mem_of_getElem? (i := 1460) (by decide +kernel), List.mem_of_getElem? (i := 1461) (by decide +kernel)⟩
theorem lw_p74 : lw_okq (⟨"OneCoinModel", "repeats", "(III)Z"⟩, 62) := ⟨⟨by decide +kernel, by decide +kernel⟩, List.mem_of_getElem? (i := 997) (by decide +kernel), List.mem_of_getElem? (i := 1464) (by decide +kernel), List.mem_of_getElem? (i := 1465) (by decide +kernel)⟩
theorem lw_p75 : lw_okq (⟨"OneCoinModel", "walksRoute", "()V"⟩, 62) := ⟨⟨by decide +kernel, by decide +kernel⟩, List.mem_of_getElem? (i := 997) (by decide +kernel), List.mem_of_getElem? (i := 1468) (by decide +kernel), List.mem_of_getElem? (i := 1469) (by decide +kernel)⟩
theorem lw_p76 : lw_okq (⟨"OneCoinModel", "laysTour", "(II)Z"⟩, 62) := ⟨⟨by decide +kernel, by decide +kernel⟩, List.mem_of_getElem? (i := 997) (by decide +kernel), List.mem_of_getElem? (i := 1480) (by decide +kernel), List.mem_of_getElem? (i := 1481) (by decide +kernel)⟩
theorem lw_p77 : lw_okq (⟨"OneCoinModel", "isRow", "(I)Z"⟩, 62) := ⟨⟨by decide +kernel, by decide +kernel⟩, List.mem_of_getElem? (i := 997) (by decide +kernel), List.mem_of_getElem? (i := 1484) (by decide +kernel), List.mem_of_getElem? (i := 1485) (by decide +kernel)⟩
theorem lw_p78 : lw_okq (⟨"OneCoinModel", "reachLeft", "(I)I"⟩, 62) := ⟨⟨by decide +kernel, by decide +kernel⟩, List.mem_of_getElem? (i := 997) (by decide +kernel), List.mem_of_getElem? (i := 1488) (by decide +kernel), List.mem_of_getElem? (i := 1489) (by decide +kernel)⟩
theorem lw_p79 : lw_okq (⟨"OneCoinModel", "leftOf", "(II)I"⟩, 62) := ⟨⟨by decide +kernel, by decide +kernel⟩, List.mem_of_getElem? (i := 997) (by decide +kernel), List.mem_of_getElem? (i := 1492) (by decide +kernel), List.mem_of_getElem? (i := 1493) (by decide +kernel)⟩
def lw_privs_5 : List (MethodName × Nat) := [(⟨"OneCoinModel", "chalks", "(I)V"⟩, 62), (⟨"OneCoinModel", "holds", "(I)V"⟩, 62), (⟨"OneCoinModel", "nextPaid", "(I)I"⟩, 62), (⟨"OneCoinModel", "likesBy", "(II)I"⟩, 62), (⟨"OneCoinModel", "holdsAny", "(I)Z"⟩, 62), (⟨"OneCoinModel", "setsOut", "(II)V"⟩, 62), (⟨"OneCoinModel", "getsAll", "(I)I"⟩, 62), (⟨"OneCoinModel", "readsRoute", "(I)I"⟩, 62), (⟨"OneCoinModel", "readsItem", "()Z"⟩, 62), (⟨"OneCoinModel", "readsTimes", "()V"⟩, 62), (⟨"OneCoinModel", "repeats", "(III)Z"⟩, 62), (⟨"OneCoinModel", "walksRoute", "()V"⟩, 62), (⟨"OneCoinModel", "laysTour", "(II)Z"⟩, 62), (⟨"OneCoinModel", "isRow", "(I)Z"⟩, 62), (⟨"OneCoinModel", "reachLeft", "(I)I"⟩, 62), (⟨"OneCoinModel", "leftOf", "(II)I"⟩, 62)]
theorem lw_r5 : ∀ q ∈ lw_privs_5, lw_okq q := List.forall_mem_cons.mpr ⟨lw_p64, List.forall_mem_cons.mpr ⟨lw_p65, List.forall_mem_cons.mpr ⟨lw_p66, List.forall_mem_cons.mpr ⟨lw_p67, List.forall_mem_cons.mpr ⟨lw_p68, List.forall_mem_cons.mpr ⟨lw_p69, List.forall_mem_cons.mpr ⟨lw_p70, List.forall_mem_cons.mpr ⟨lw_p71, List.forall_mem_cons.mpr ⟨lw_p72, List.forall_mem_cons.mpr ⟨lw_p73, List.forall_mem_cons.mpr ⟨lw_p74, List.forall_mem_cons.mpr ⟨lw_p75, List.forall_mem_cons.mpr ⟨lw_p76, List.forall_mem_cons.mpr ⟨lw_p77, List.forall_mem_cons.mpr ⟨lw_p78, List.forall_mem_cons.mpr ⟨lw_p79, fun _ h => absurd h List.not_mem_nil⟩⟩⟩⟩⟩⟩⟩⟩⟩⟩⟩⟩⟩⟩⟩⟩
theorem lw_p80 : lw_okq (⟨"OneCoinModel", "canGo", "(II)Z"⟩, 62) := ⟨⟨by decide +kernel, by decide +kernel⟩, List.mem_of_getElem? (i := 997) (by decide +kernel), List.mem_of_getElem? (i := 1496) (by decide +kernel), List.mem_of_getElem? (i := 1497) (by decide +kernel)⟩
theorem lw_p81 : lw_okq (⟨"OneCoinModel", "laysCoins", "(I)Z"⟩, 62) := ⟨⟨by decide +kernel, by decide +kernel⟩, List.mem_of_getElem? (i := 997) (by decide +kernel), List.mem_of_getElem? (i := 1504) (by decide +kernel), List.mem_of_getElem? (i := 1505) (by decide +kernel)⟩
theorem lw_p82 : lw_okq (⟨"OneCoinModel", "laysMore", "()V"⟩, 62) := ⟨⟨by decide +kernel, by decide +kernel⟩, List.mem_of_getElem? (i := 997) (by decide +kernel), List.mem_of_getElem? (i := 1508) (by decide +kernel), List.mem_of_getElem? (i := 1509) (by decide +kernel)⟩
theorem lw_p83 : lw_okq (⟨"OneCoinModel", "bestCoin", "(II)I"⟩, 62) := ⟨⟨by decide +kernel, by decide +kernel⟩, List.mem_of_getElem? (i := 997) (by decide +kernel), List.mem_of_getElem? (i := 1512) (by decide +kernel), List.mem_of_getElem? (i := 1513) (by decide +kernel)⟩
theorem lw_p84 : lw_okq (⟨"OneCoinModel", "laysBack", "()V"⟩, 62) := ⟨⟨by decide +kernel, by decide +kernel⟩, List.mem_of_getElem? (i := 997) (by decide +kernel), List.mem_of_getElem? (i := 1520) (by decide +kernel), List.mem_of_getElem? (i := 1521) (by decide +kernel)⟩
theorem lw_p85 : lw_okq (⟨"OneCoinModel", "laysLacks", "()V"⟩, 62) := ⟨⟨by decide +kernel, by decide +kernel⟩, List.mem_of_getElem? (i := 997) (by decide +kernel), List.mem_of_getElem? (i := 1529) (by decide +kernel), List.mem_of_getElem? (i := 1530) (by decide +kernel)⟩
theorem lw_p86 : lw_okq (⟨"OneCoinModel", "setOffOf", "(I)I"⟩, 62) := ⟨⟨by decide +kernel, by decide +kernel⟩, List.mem_of_getElem? (i := 997) (by decide +kernel), List.mem_of_getElem? (i := 1533) (by decide +kernel), List.mem_of_getElem? (i := 1534) (by decide +kernel)⟩
theorem lw_p87 : lw_okq (⟨"OneCoinModel", "readsRow", "(II)Z"⟩, 62) := ⟨⟨by decide +kernel, by decide +kernel⟩, List.mem_of_getElem? (i := 997) (by decide +kernel), List.mem_of_getElem? (i := 1537) (by decide +kernel), List.mem_of_getElem? (i := 1538) (by decide +kernel)⟩
theorem lw_p88 : lw_okq (⟨"OneCoinModel", "hoursOfRow", "(I)I"⟩, 62) := ⟨⟨by decide +kernel, by decide +kernel⟩, List.mem_of_getElem? (i := 997) (by decide +kernel), List.mem_of_getElem? (i := 1541) (by decide +kernel), List.mem_of_getElem? (i := 1542) (by decide +kernel)⟩
theorem lw_p89 : lw_okq (⟨"OneCoinModel", "isEven", "(I)Z"⟩, 62) := ⟨⟨by decide +kernel, by decide +kernel⟩, List.mem_of_getElem? (i := 997) (by decide +kernel), List.mem_of_getElem? (i := 1552) (by decide +kernel), List.mem_of_getElem? (i := 1553) (by decide +kernel)⟩
theorem lw_p90 : lw_okq (⟨"OneCoinModel", "laysGroups", "()V"⟩, 62) := ⟨⟨by decide +kernel, by decide +kernel⟩, List.mem_of_getElem? (i := 997) (by decide +kernel), List.mem_of_getElem? (i := 1565) (by decide +kernel), List.mem_of_getElem? (i := 1566) (by decide +kernel)⟩
theorem lw_p91 : lw_okq (⟨"OneCoinModel", "ringOf", "(I)I"⟩, 62) := ⟨⟨by decide +kernel, by decide +kernel⟩, List.mem_of_getElem? (i := 997) (by decide +kernel), List.mem_of_getElem? (i := 1573) (by decide +kernel), List.mem_of_getElem? (i := 1574) (by decide +kernel)⟩
theorem lw_p92 : lw_okq (⟨"OneCoinModel", "reachOf", "(I)I"⟩, 62) := ⟨⟨by decide +kernel, by decide +kernel⟩, List.mem_of_getElem? (i := 997) (by decide +kernel), List.mem_of_getElem? (i := 1577) (by decide +kernel), List.mem_of_getElem? (i := 1578) (by decide +kernel)⟩
theorem lw_p93 : lw_okq (⟨"OneCoinModel", "hoursOf", "(I)I"⟩, 62) := ⟨⟨by decide +kernel, by decide +kernel⟩, List.mem_of_getElem? (i := 997) (by decide +kernel), List.mem_of_getElem? (i := 1605) (by decide +kernel), List.mem_of_getElem? (i := 1606) (by decide +kernel)⟩
theorem lw_p94 : lw_okq (⟨"OneCoinModel", "isRowOf", "(II)Z"⟩, 62) := ⟨⟨by decide +kernel, by decide +kernel⟩, List.mem_of_getElem? (i := 997) (by decide +kernel), List.mem_of_getElem? (i := 1609) (by decide +kernel), List.mem_of_getElem? (i := 1610) (by decide +kernel)⟩
def lw_privs_6 : List (MethodName × Nat) := [(⟨"OneCoinModel", "canGo", "(II)Z"⟩, 62), (⟨"OneCoinModel", "laysCoins", "(I)Z"⟩, 62), (⟨"OneCoinModel", "laysMore", "()V"⟩, 62), (⟨"OneCoinModel", "bestCoin", "(II)I"⟩, 62), (⟨"OneCoinModel", "laysBack", "()V"⟩, 62), (⟨"OneCoinModel", "laysLacks", "()V"⟩, 62), (⟨"OneCoinModel", "setOffOf", "(I)I"⟩, 62), (⟨"OneCoinModel", "readsRow", "(II)Z"⟩, 62), (⟨"OneCoinModel", "hoursOfRow", "(I)I"⟩, 62), (⟨"OneCoinModel", "isEven", "(I)Z"⟩, 62), (⟨"OneCoinModel", "laysGroups", "()V"⟩, 62), (⟨"OneCoinModel", "ringOf", "(I)I"⟩, 62), (⟨"OneCoinModel", "reachOf", "(I)I"⟩, 62), (⟨"OneCoinModel", "hoursOf", "(I)I"⟩, 62), (⟨"OneCoinModel", "isRowOf", "(II)Z"⟩, 62)]
theorem lw_r6 : ∀ q ∈ lw_privs_6, lw_okq q := List.forall_mem_cons.mpr ⟨lw_p80, List.forall_mem_cons.mpr ⟨lw_p81, List.forall_mem_cons.mpr ⟨lw_p82, List.forall_mem_cons.mpr ⟨lw_p83, List.forall_mem_cons.mpr ⟨lw_p84, List.forall_mem_cons.mpr ⟨lw_p85, List.forall_mem_cons.mpr ⟨lw_p86, List.forall_mem_cons.mpr ⟨lw_p87, List.forall_mem_cons.mpr ⟨lw_p88, List.forall_mem_cons.mpr ⟨lw_p89, List.forall_mem_cons.mpr ⟨lw_p90, List.forall_mem_cons.mpr ⟨lw_p91, List.forall_mem_cons.mpr ⟨lw_p92, List.forall_mem_cons.mpr ⟨lw_p93, List.forall_mem_cons.mpr ⟨lw_p94, fun _ h => absurd h List.not_mem_nil⟩⟩⟩⟩⟩⟩⟩⟩⟩⟩⟩⟩⟩⟩⟩
def lw_privs : List (MethodName × Nat) := lw_privs_1 ++ (lw_privs_2 ++ (lw_privs_3 ++ (lw_privs_4 ++ (lw_privs_5 ++ (lw_privs_6)))))
def lw_tbl : List Cond := k2_sels lw_privs ++ tables_1
theorem lw_privs_ok : ∀ q ∈ lw_privs, lw_okq q := by
  show ∀ q ∈ lw_privs_1 ++ (lw_privs_2 ++ (lw_privs_3 ++ (lw_privs_4 ++ (lw_privs_5 ++ (lw_privs_6))))), lw_okq q
  exact List.forall_mem_append.mpr ⟨lw_r1, List.forall_mem_append.mpr ⟨lw_r2, List.forall_mem_append.mpr ⟨lw_r3, List.forall_mem_append.mpr ⟨lw_r4, List.forall_mem_append.mpr ⟨lw_r5, lw_r6⟩⟩⟩⟩⟩
-- ===== end of PART A; then your names; then what follows =====
/-- the words that stay true while the machine runs -/
def oT : List Cond := lw_tbl.filter goodWord
theorem oT_good {ws : List Cond} (h : ∀ w ∈ ws, w ∈ oT) : GoodIn oT ws := fun w hw => ⟨h w hw, good_of_word (List.mem_filter.mp (h w hw)).2⟩
theorem oT_mem {w : Cond} (i : Nat) (h : lw_tbl[i]? = some w) (g : goodWord w = true) : w ∈ oT := List.mem_filter.mpr ⟨List.mem_of_getElem? h, g⟩
theorem oT_hts {args : Array Value} {s : State} (h : ∀ w ∈ lw_tbl, w.before args s = true) : ∀ w ∈ oT, w.before args s = true := fun w hw => h w (List.mem_filter.mp hw).1
end
section
/-! mathematical integers for ints of 32 bits -/
def inR (a : Int) : Prop := -2147483648 ≤ a ∧ a < 2147483648
def w32 (a : Int) : Int := (a + 2147483648) % 4294967296 - 2147483648
theorem inR_w32 (a : Int) : inR (w32 a) := by unfold inR w32; omega
theorem w32_id {a : Int} (h : inR a) : w32 a = a := by unfold inR at h; unfold w32; omega
theorem w32_of {a : Int} (h1 : -2147483648 ≤ a) (h2 : a < 2147483648) : w32 a = a := w32_id ⟨h1, h2⟩
theorem inR_toInt (x : Int32) : inR x.toInt := by
  have h1 := x.toInt_lt
  have h2 := x.le_toInt
  unfold inR; omega
theorem oc_toInt {a : Int} (h : inR a) : (Int32.ofInt a).toInt = a := Int32.toInt_ofInt_of_le (by have := h.1; omega) (by have := h.2; omega)
theorem oc_bmod (a : Int) : a.bmod (2 ^ 32) = w32 a := by
  rw [Int.bmod_def]
  unfold w32
  omega
theorem oc_ofInt_w32 (a : Int) : Int32.ofInt (w32 a) = Int32.ofInt a := by
  apply Int32.toInt_inj.1
  rw [oc_toInt (inR_w32 a), Int32.toInt_ofInt]
  exact (oc_bmod a).symm
theorem oc_add (a b : Int) : Int32.ofInt a + Int32.ofInt b = Int32.ofInt (w32 (a + b)) := by rw [oc_ofInt_w32, Int32.ofInt_add]
theorem oc_sub (a b : Int) : Int32.ofInt a - Int32.ofInt b = Int32.ofInt (w32 (a - b)) := by rw [oc_ofInt_w32, Int32.ofInt_sub]
theorem oc_mul (a b : Int) : Int32.ofInt a * Int32.ofInt b = Int32.ofInt (w32 (a * b)) := by rw [oc_ofInt_w32, Int32.ofInt_mul]
theorem oc_neg (a : Int) : -Int32.ofInt a = Int32.ofInt (w32 (-a)) := by rw [oc_ofInt_w32, Int32.ofInt_neg]
theorem oc_lt {a b : Int} (ha : inR a) (hb : inR b) : Int32.ofInt a < Int32.ofInt b ↔ a < b := by rw [Int32.lt_iff_toInt_lt, oc_toInt ha, oc_toInt hb]
theorem oc_le {a b : Int} (ha : inR a) (hb : inR b) : Int32.ofInt a ≤ Int32.ofInt b ↔ a ≤ b := by rw [Int32.le_iff_toInt_le, oc_toInt ha, oc_toInt hb]
theorem oc_eq {a b : Int} (ha : inR a) (hb : inR b) : Int32.ofInt a = Int32.ofInt b ↔ a = b := by rw [← Int32.toInt_inj, oc_toInt ha, oc_toInt hb]
theorem inR_0 : inR 0 := by unfold inR; omega
theorem oc_zero : (0 : Int32) = Int32.ofInt 0 := rfl
theorem oc_div {a b : Int} (ha : inR a) (hb : inR b) : Int32.ofInt a / Int32.ofInt b = Int32.ofInt (w32 (a.tdiv b)) := by
  apply Int32.toInt_inj.1
  rw [Int32.toInt_div, oc_toInt ha, oc_toInt hb, oc_toInt (inR_w32 _), oc_bmod]
theorem inR_tmod {a b : Int} (ha : inR a) : inR (a.tmod b) := by
  unfold inR at *
  rcases Int.lt_or_le a 0 with h | h
  · have h1 : (-a).tmod b ≤ -a := by
      by_cases hb : b = 0
      · subst hb; simp
      · have := Int.tmod_nonneg (a := -a) b (by omega)
        have h2 := Int.mul_tdiv_add_tmod (-a) b
        rcases Int.lt_or_le b 0 with hb0 | hb0
        · have h3 := Int.tdiv_nonpos_of_nonneg_of_nonpos (a := -a) (b := b) (by omega) (by omega)
          have := Int.mul_nonneg_of_nonpos_of_nonpos (a := b) (b := (-a).tdiv b) (by omega) h3
          omega
        · have h3 := Int.tdiv_nonneg (a := -a) (b := b) (by omega) hb0
          have := Int.mul_nonneg hb0 h3
          omega
    have h2 := Int.tmod_nonneg (a := -a) b (by omega)
    rw [Int.neg_tmod] at h1 h2
    omega
  · have h1 : a.tmod b ≤ a := by
      by_cases hb : b = 0
      · subst hb; simp
      · have h2 := Int.mul_tdiv_add_tmod a b
        rcases Int.lt_or_le b 0 with hb0 | hb0
        · have h3 := Int.tdiv_nonpos_of_nonneg_of_nonpos (a := a) (b := b) (by omega) (by omega)
          have := Int.mul_nonneg_of_nonpos_of_nonpos (a := b) (b := a.tdiv b) (by omega) h3
          omega
        · have h3 := Int.tdiv_nonneg (a := a) (b := b) (by omega) hb0
          have := Int.mul_nonneg hb0 h3
          omega
    have h2 := Int.tmod_nonneg (a := a) b (by omega)
    omega
theorem oc_rem {a b : Int} (ha : inR a) (hb : inR b) : Int32.ofInt a - Int32.ofInt a / Int32.ofInt b * Int32.ofInt b = Int32.ofInt (a.tmod b) := by
  rw [oc_div ha hb, oc_ofInt_w32, ← Int32.ofInt_mul, ← Int32.ofInt_sub]
  congr 1
  have := Int.mul_tdiv_add_tmod a b
  have h2 : a.tdiv b * b = b * a.tdiv b := Int.mul_comm _ _
  omega
def iand (a b : Int) : Int := (Int32.ofInt a &&& Int32.ofInt b).toInt
def ior (a b : Int) : Int := (Int32.ofInt a ||| Int32.ofInt b).toInt
def ixor (a b : Int) : Int := (Int32.ofInt a ^^^ Int32.ofInt b).toInt
def ishl (a b : Int) : Int := (Int32.ofInt a <<< (Int32.ofInt b &&& 31)).toInt
def ishr (a b : Int) : Int := (Int32.ofInt a >>> (Int32.ofInt b &&& 31)).toInt
def iushr (a b : Int) : Int := ((Int32.ofInt a).toUInt32 >>> ((Int32.ofInt b).toUInt32 &&& Int32.toUInt32 31)).toInt32.toInt
def i2b (a : Int) : Int := (Int32.ofInt a).toInt8.toInt32.toInt
def i2c (a : Int) : Int := ((Int32.ofInt a).toUInt32 % 65536).toInt32.toInt
/-- guards of the walked programs -/
def bnd {α : Type} (n i : Int) (k : Int → Option α) : Option α := if 0 ≤ i ∧ i < n then k i else none
def nz {α : Type} (b : Int) (k : Int → Option α) : Option α := if b = 0 then none else k b
def okp {α : Type} : Option α → (α → Prop) → Prop
  | none, _ => False
  | some a, K => K a
theorem okp_bind {α β : Type} {x : Option α} {g : α → Option β} {K : β → Prop} (h : okp (x.bind g) K) : okp x (fun a => okp (g a) K) := by
  cases x with
  | none => exact h
  | some a => exact h
theorem okp_bind' {α β : Type} {x : Option α} {g : α → Option β} {K : β → Prop} (h : okp x (fun a => okp (g a) K)) : okp (x.bind g) K := by
  cases x with
  | none => exact h
  | some a => exact h
theorem okp_mono {α : Type} {x : Option α} {K K' : α → Prop} (h : okp x K) (hk : ∀ a, K a → K' a) : okp x K' := by
  cases x with
  | none => exact h
  | some a => exact hk a h
theorem okp_bnd {α : Type} {n i : Int} {k : Int → Option α} {K : α → Prop} (h : okp (bnd n i k) K) : 0 ≤ i ∧ i < n ∧ okp (k i) K := by
  unfold bnd at h
  split at h
  · rename_i c; exact ⟨c.1, c.2, h⟩
  · exact h.elim
theorem okp_nz {α : Type} {b : Int} {k : Int → Option α} {K : α → Prop} (h : okp (nz b k) K) : b ≠ 0 ∧ okp (k b) K := by
  unfold nz at h
  split at h
  · exact h.elim
  · rename_i c; exact ⟨c, h⟩
theorem okp_t {α : Type} {c : Prop} [Decidable c] {x y : Option α} {K : α → Prop} (hc : c) (h : okp (if c then x else y) K) : okp x K := by rw [if_pos hc] at h; exact h
theorem okp_f {α : Type} {c : Prop} [Decidable c] {x y : Option α} {K : α → Prop} (hc : ¬ c) (h : okp (if c then x else y) K) : okp y K := by rw [if_neg hc] at h; exact h
def iter {S R : Type} (step : S → Option (S ⊕ R)) : Nat → S → Option R
  | 0, _ => none
  | n + 1, s => (step s).bind fun y => match y with
    | .inl s' => iter step n s'
    | .inr r => some r
theorem iter_J {S R : Type} {step : S → Option (S ⊕ R)} {Jh : S → Prop} {G : R → Prop} (hstep : ∀ s, okp (step s) (fun y => match y with | .inl s' => Jh s' | .inr r => G r) → Jh s) : ∀ (f : Nat) (s : S), okp (iter step f s) G → Jh s := by
  intro f
  induction f with
  | zero => intro s h; exact h.elim
  | succ n ih =>
    intro s h
    refine hstep s (okp_mono (okp_bind h) ?_)
    intro y hy
    cases y with
    | inl s' => exact ih s' hy
    | inr r => exact hy
end
section
/-! classes, fields in the order of the slots (out of the printed names) -/
def RX0 : String := "OneCoin$Balance"
def TX0 : u_T := fun k => match k with
  | 0 => ("OneCoin$Balance", "people", "LOneCoin$People;", true)
  | 1 => ("OneCoin$Balance", "more", "[I", true)
  | 2 => ("OneCoin$Balance", "rest", "[I", true)
  | 3 => ("OneCoin$Balance", "debtors", "[I", true)
  | 4 => ("OneCoin$Balance", "row", "[I", true)
  | 5 => ("OneCoin$Balance", "best", "[I", true)
  | 6 => ("OneCoin$Balance", "pairs", "[I", true)
  | 7 => ("OneCoin$Balance", "groups", "[I", true)
  | _ => ("OneCoin$Balance", "bestHours", "I", false)
def tyX0 : Nat → FieldType := fun k => match k with
  | 0 => .object "OneCoin$People"
  | 1 => .array .int
  | 2 => .array .int
  | 3 => .array .int
  | 4 => .array .int
  | 5 => .array .int
  | 6 => .array .int
  | 7 => .array .int
  | _ => .int
theorem nmX0 : ∀ a, a < 9 → ∀ b, b < 9 → a ≠ b → (TX0 a).2.1 ≠ (TX0 b).2.1 := by decide +kernel
theorem tyX0_ok : ∀ k, k < 9 → parseFieldDescriptor (TX0 k).2.2.1 = some (tyX0 k) := by decide +kernel
def RX1 : String := "OneCoin$Clock"
def TX1 : u_T := fun k => match k with
  | 0 => ("OneCoin$Clock", "people", "LOneCoin$People;", true)
  | 1 => ("OneCoin$Clock", "law", "LOneCoin$Law;", true)
  | 2 => ("OneCoin$Clock", "payings", "I", false)
  | 3 => ("OneCoin$Clock", "rainyDays", "I", false)
  | 4 => ("OneCoin$Clock", "interest", "I", false)
  | _ => ("OneCoin$Clock", "arrivedAt", "I", false)
def tyX1 : Nat → FieldType := fun k => match k with
  | 0 => .object "OneCoin$People"
  | 1 => .object "OneCoin$Law"
  | 2 => .int
  | 3 => .int
  | 4 => .int
  | _ => .int
theorem nmX1 : ∀ a, a < 6 → ∀ b, b < 6 → a ≠ b → (TX1 a).2.1 ≠ (TX1 b).2.1 := by decide +kernel
theorem tyX1_ok : ∀ k, k < 6 → parseFieldDescriptor (TX1 k).2.2.1 = some (tyX1 k) := by decide +kernel
def RX2 : String := "OneCoin$DebtsReader"
def TX2 : u_T := fun k => match k with
  | 0 => ("OneCoin$DebtsReader", "text", "LOneCoin$Tape;", true)
  | 1 => ("OneCoin$DebtsReader", "people", "LOneCoin$People;", true)
  | _ => ("OneCoin$DebtsReader", "draft", "[I", true)
def tyX2 : Nat → FieldType := fun k => match k with
  | 0 => .object "OneCoin$Tape"
  | 1 => .object "OneCoin$People"
  | _ => .array .int
theorem nmX2 : ∀ a, a < 3 → ∀ b, b < 3 → a ≠ b → (TX2 a).2.1 ≠ (TX2 b).2.1 := by decide +kernel
theorem tyX2_ok : ∀ k, k < 3 → parseFieldDescriptor (TX2 k).2.2.1 = some (tyX2 k) := by decide +kernel
def RX3 : String := "OneCoin$Duchy"
def TX3 : u_T := fun k => match k with
  | 0 => ("OneCoin$Duchy", "debts", "[I", true)
  | 1 => ("OneCoin$Duchy", "held", "[I", true)
  | 2 => ("OneCoin$Duchy", "chalks", "[I", true)
  | 3 => ("OneCoin$Duchy", "chalked", "I", false)
  | 4 => ("OneCoin$Duchy", "holder", "I", false)
  | 5 => ("OneCoin$Duchy", "payer", "I", false)
  | 6 => ("OneCoin$Duchy", "payee", "I", false)
  | 7 => ("OneCoin$Duchy", "left", "I", false)
  | 8 => ("OneCoin$Duchy", "hour", "I", false)
  | 9 => ("OneCoin$Duchy", "day", "I", false)
  | 10 => ("OneCoin$Duchy", "rainy", "Z", false)
  | _ => ("OneCoin$Duchy", "x", "I", false)
def tyX3 : Nat → FieldType := fun k => match k with
  | 0 => .array .int
  | 1 => .array .int
  | 2 => .array .int
  | 3 => .int
  | 4 => .int
  | 5 => .int
  | 6 => .int
  | 7 => .int
  | 8 => .int
  | 9 => .int
  | 10 => .boolean
  | _ => .int
theorem nmX3 : ∀ a, a < 12 → ∀ b, b < 12 → a ≠ b → (TX3 a).2.1 ≠ (TX3 b).2.1 := by decide +kernel
theorem tyX3_ok : ∀ k, k < 12 → parseFieldDescriptor (TX3 k).2.2.1 = some (tyX3 k) := by decide +kernel
def RX4 : String := "OneCoin$Law"
def TX4 : u_T := fun k => match k with
  | 0 => ("OneCoin$Law", "people", "LOneCoin$People;", true)
  | 1 => ("OneCoin$Law", "steps", "[I", true)
  | 2 => ("OneCoin$Law", "details", "[I", true)
  | 3 => ("OneCoin$Law", "kinds", "[I", true)
  | 4 => ("OneCoin$Law", "starts", "[I", true)
  | 5 => ("OneCoin$Law", "middles", "[I", true)
  | 6 => ("OneCoin$Law", "ends", "[I", true)
  | 7 => ("OneCoin$Law", "letters", "[I", true)
  | 8 => ("OneCoin$Law", "stack", "[I", true)
  | 9 => ("OneCoin$Law", "size", "I", false)
  | _ => ("OneCoin$Law", "rules", "I", false)
def tyX4 : Nat → FieldType := fun k => match k with
  | 0 => .object "OneCoin$People"
  | 1 => .array .int
  | 2 => .array .int
  | 3 => .array .int
  | 4 => .array .int
  | 5 => .array .int
  | 6 => .array .int
  | 7 => .array .int
  | 8 => .array .int
  | 9 => .int
  | _ => .int
theorem nmX4 : ∀ a, a < 11 → ∀ b, b < 11 → a ≠ b → (TX4 a).2.1 ≠ (TX4 b).2.1 := by decide +kernel
theorem tyX4_ok : ∀ k, k < 11 → parseFieldDescriptor (TX4 k).2.2.1 = some (tyX4 k) := by decide +kernel
def RX5 : String := "OneCoin$LawReader"
def TX5 : u_T := fun k => match k with
  | 0 => ("OneCoin$LawReader", "text", "LOneCoin$Tape;", true)
  | _ => ("OneCoin$LawReader", "draft", "LOneCoin$Law;", true)
def tyX5 : Nat → FieldType := fun k => match k with
  | 0 => .object "OneCoin$Tape"
  | _ => .object "OneCoin$Law"
theorem nmX5 : ∀ a, a < 2 → ∀ b, b < 2 → a ≠ b → (TX5 a).2.1 ≠ (TX5 b).2.1 := by decide +kernel
theorem tyX5_ok : ∀ k, k < 2 → parseFieldDescriptor (TX5 k).2.2.1 = some (tyX5 k) := by decide +kernel
def RX6 : String := "OneCoin$People"
def TX6 : u_T := fun k => match k with
  | 0 => ("OneCoin$People", "spotX", "[I", true)
  | 1 => ("OneCoin$People", "spotY", "[I", true)
  | _ => ("OneCoin$People", "told", "I", false)
def tyX6 : Nat → FieldType := fun k => match k with
  | 0 => .array .int
  | 1 => .array .int
  | _ => .int
theorem nmX6 : ∀ a, a < 3 → ∀ b, b < 3 → a ≠ b → (TX6 a).2.1 ≠ (TX6 b).2.1 := by decide +kernel
theorem tyX6_ok : ∀ k, k < 3 → parseFieldDescriptor (TX6 k).2.2.1 = some (tyX6 k) := by decide +kernel
def RX7 : String := "OneCoin$RouteReader"
def TX7 : u_T := fun k => match k with
  | 0 => ("OneCoin$RouteReader", "text", "LOneCoin$Tape;", true)
  | 1 => ("OneCoin$RouteReader", "row", "[I", true)
  | _ => ("OneCoin$RouteReader", "length", "I", false)
def tyX7 : Nat → FieldType := fun k => match k with
  | 0 => .object "OneCoin$Tape"
  | 1 => .array .int
  | _ => .int
theorem nmX7 : ∀ a, a < 3 → ∀ b, b < 3 → a ≠ b → (TX7 a).2.1 ≠ (TX7 b).2.1 := by decide +kernel
theorem tyX7_ok : ∀ k, k < 3 → parseFieldDescriptor (TX7 k).2.2.1 = some (tyX7 k) := by decide +kernel
def RX8 : String := "OneCoin$Rows"
def TX8 : u_T := fun k => match k with
  | 0 => ("OneCoin$Rows", "people", "LOneCoin$People;", true)
  | 1 => ("OneCoin$Rows", "left", "[I", true)
  | 2 => ("OneCoin$Rows", "right", "[I", true)
  | 3 => ("OneCoin$Rows", "pairs", "[I", true)
  | 4 => ("OneCoin$Rows", "far", "[I", true)
  | 5 => ("OneCoin$Rows", "row", "[I", true)
  | 6 => ("OneCoin$Rows", "best", "[I", true)
  | _ => ("OneCoin$Rows", "bestLength", "I", false)
def tyX8 : Nat → FieldType := fun k => match k with
  | 0 => .object "OneCoin$People"
  | 1 => .array .int
  | 2 => .array .int
  | 3 => .array .int
  | 4 => .array .int
  | 5 => .array .int
  | 6 => .array .int
  | _ => .int
theorem nmX8 : ∀ a, a < 8 → ∀ b, b < 8 → a ≠ b → (TX8 a).2.1 ≠ (TX8 b).2.1 := by decide +kernel
theorem tyX8_ok : ∀ k, k < 8 → parseFieldDescriptor (TX8 k).2.2.1 = some (tyX8 k) := by decide +kernel
def RX9 : String := "OneCoin$Tape"
def TX9 : u_T := fun k => match k with
  | 0 => ("OneCoin$Tape", "bytes", "[I", true)
  | 1 => ("OneCoin$Tape", "size", "I", false)
  | 2 => ("OneCoin$Tape", "limit", "I", false)
  | 3 => ("OneCoin$Tape", "place", "I", false)
  | _ => ("OneCoin$Tape", "next", "I", false)
def tyX9 : Nat → FieldType := fun k => match k with
  | 0 => .array .int
  | 1 => .int
  | 2 => .int
  | 3 => .int
  | _ => .int
theorem nmX9 : ∀ a, a < 5 → ∀ b, b < 5 → a ≠ b → (TX9 a).2.1 ≠ (TX9 b).2.1 := by decide +kernel
theorem tyX9_ok : ∀ k, k < 5 → parseFieldDescriptor (TX9 k).2.2.1 = some (tyX9 k) := by decide +kernel
def RX10 : String := "OneCoin"
def TX10 : u_T := fun k => match k with
  | 0 => ("OneCoin", "tape", "LOneCoin$Tape;", true)
  | 1 => ("OneCoin", "people", "LOneCoin$People;", true)
  | 2 => ("OneCoin", "now", "LOneCoin$Duchy;", true)
  | 3 => ("OneCoin", "kept", "LOneCoin$Duchy;", true)
  | 4 => ("OneCoin", "trial", "LOneCoin$Duchy;", true)
  | 5 => ("OneCoin", "law", "LOneCoin$Law;", true)
  | 6 => ("OneCoin", "draft", "LOneCoin$Law;", true)
  | 7 => ("OneCoin", "lawReader", "LOneCoin$LawReader;", true)
  | 8 => ("OneCoin", "debtsReader", "LOneCoin$DebtsReader;", true)
  | 9 => ("OneCoin", "routeReader", "LOneCoin$RouteReader;", true)
  | 10 => ("OneCoin", "clock", "LOneCoin$Clock;", true)
  | 11 => ("OneCoin", "rows", "LOneCoin$Rows;", true)
  | 12 => ("OneCoin", "balance", "LOneCoin$Balance;", true)
  | _ => ("OneCoin", "wasKept", "Z", false)
def tyX10 : Nat → FieldType := fun k => match k with
  | 0 => .object "OneCoin$Tape"
  | 1 => .object "OneCoin$People"
  | 2 => .object "OneCoin$Duchy"
  | 3 => .object "OneCoin$Duchy"
  | 4 => .object "OneCoin$Duchy"
  | 5 => .object "OneCoin$Law"
  | 6 => .object "OneCoin$Law"
  | 7 => .object "OneCoin$LawReader"
  | 8 => .object "OneCoin$DebtsReader"
  | 9 => .object "OneCoin$RouteReader"
  | 10 => .object "OneCoin$Clock"
  | 11 => .object "OneCoin$Rows"
  | 12 => .object "OneCoin$Balance"
  | _ => .boolean
theorem nmX10 : ∀ a, a < 14 → ∀ b, b < 14 → a ≠ b → (TX10 a).2.1 ≠ (TX10 b).2.1 := by decide +kernel
theorem tyX10_ok : ∀ k, k < 14 → parseFieldDescriptor (TX10 k).2.2.1 = some (tyX10 k) := by decide +kernel
def RX11 : String := "OneCoinModel"
def TX11 : u_T := fun k => match k with
  | 0 => ("OneCoinModel", "now", "[I", true)
  | 1 => ("OneCoinModel", "aside", "[I", true)
  | 2 => ("OneCoinModel", "kept", "[I", true)
  | 3 => ("OneCoinModel", "spotX", "[I", true)
  | 4 => ("OneCoinModel", "spotY", "[I", true)
  | 5 => ("OneCoinModel", "people", "I", false)
  | 6 => ("OneCoinModel", "tape", "[B", true)
  | 7 => ("OneCoinModel", "taped", "I", false)
  | 8 => ("OneCoinModel", "place0", "I", false)
  | 9 => ("OneCoinModel", "length0", "I", false)
  | 10 => ("OneCoinModel", "fault", "I", false)
  | 11 => ("OneCoinModel", "number0", "I", false)
  | 12 => ("OneCoinModel", "open", "I", false)
  | 13 => ("OneCoinModel", "codeMany", "I", false)
  | 14 => ("OneCoinModel", "waiting", "I", false)
  | 15 => ("OneCoinModel", "saidMany", "I", false)
  | 16 => ("OneCoinModel", "clauses", "I", false)
  | 17 => ("OneCoinModel", "said", "[I", true)
  | 18 => ("OneCoinModel", "waitsAt", "[I", true)
  | 19 => ("OneCoinModel", "saidLetter", "[I", true)
  | 20 => ("OneCoinModel", "saidFrom", "[I", true)
  | 21 => ("OneCoinModel", "saidHalf", "[I", true)
  | 22 => ("OneCoinModel", "saidTo", "[I", true)
  | 23 => ("OneCoinModel", "codes", "[I", true)
  | 24 => ("OneCoinModel", "clauseOf", "[I", true)
  | 25 => ("OneCoinModel", "codeFrom", "[I", true)
  | 26 => ("OneCoinModel", "codeHalf", "[I", true)
  | 27 => ("OneCoinModel", "codeTo", "[I", true)
  | 28 => ("OneCoinModel", "stack", "[I", true)
  | 29 => ("OneCoinModel", "facts", "[I", true)
  | 30 => ("OneCoinModel", "newDebt", "[I", true)
  | 31 => ("OneCoinModel", "lines", "I", false)
  | 32 => ("OneCoinModel", "paid", "I", false)
  | 33 => ("OneCoinModel", "rained", "I", false)
  | 34 => ("OneCoinModel", "grown", "I", false)
  | 35 => ("OneCoinModel", "arrived", "I", false)
  | 36 => ("OneCoinModel", "newStep", "[I", true)
  | 37 => ("OneCoinModel", "roundFrom", "[I", true)
  | 38 => ("OneCoinModel", "roundAt", "[I", true)
  | 39 => ("OneCoinModel", "roundTimes", "[I", true)
  | 40 => ("OneCoinModel", "newMany", "I", false)
  | 41 => ("OneCoinModel", "rounds", "I", false)
  | 42 => ("OneCoinModel", "itemFrom", "I", false)
  | 43 => ("OneCoinModel", "itemTimes", "I", false)
  | 44 => ("OneCoinModel", "walkedMany", "I", false)
  | 45 => ("OneCoinModel", "walkedHours", "I", false)
  | 46 => ("OneCoinModel", "leftDebt", "[I", true)
  | 47 => ("OneCoinModel", "tourStep", "[I", true)
  | 48 => ("OneCoinModel", "coinFrom", "[I", true)
  | 49 => ("OneCoinModel", "coinTo", "[I", true)
  | 50 => ("OneCoinModel", "coinMany", "I", false)
  | 51 => ("OneCoinModel", "moreBy", "[B", true)
  | 52 => ("OneCoinModel", "stepsTo", "[I", true)
  | 53 => ("OneCoinModel", "hoursTo", "[I", true)
  | 54 => ("OneCoinModel", "lackOf", "[I", true)
  | 55 => ("OneCoinModel", "wantOf", "[I", true)
  | 56 => ("OneCoinModel", "rowNow", "[I", true)
  | 57 => ("OneCoinModel", "rowBest", "[I", true)
  | 58 => ("OneCoinModel", "lacks", "I", false)
  | 59 => ("OneCoinModel", "sumOf", "[I", true)
  | 60 => ("OneCoinModel", "groupsOf", "[I", true)
  | _ => ("OneCoinModel", "isKept", "Z", false)
def tyX11 : Nat → FieldType := fun k => match k with
  | 0 => .array .int
  | 1 => .array .int
  | 2 => .array .int
  | 3 => .array .int
  | 4 => .array .int
  | 5 => .int
  | 6 => .array .byte
  | 7 => .int
  | 8 => .int
  | 9 => .int
  | 10 => .int
  | 11 => .int
  | 12 => .int
  | 13 => .int
  | 14 => .int
  | 15 => .int
  | 16 => .int
  | 17 => .array .int
  | 18 => .array .int
  | 19 => .array .int
  | 20 => .array .int
  | 21 => .array .int
  | 22 => .array .int
  | 23 => .array .int
  | 24 => .array .int
  | 25 => .array .int
  | 26 => .array .int
  | 27 => .array .int
  | 28 => .array .int
  | 29 => .array .int
  | 30 => .array .int
  | 31 => .int
  | 32 => .int
  | 33 => .int
  | 34 => .int
  | 35 => .int
  | 36 => .array .int
  | 37 => .array .int
  | 38 => .array .int
  | 39 => .array .int
  | 40 => .int
  | 41 => .int
  | 42 => .int
  | 43 => .int
  | 44 => .int
  | 45 => .int
  | 46 => .array .int
  | 47 => .array .int
  | 48 => .array .int
  | 49 => .array .int
  | 50 => .int
  | 51 => .array .byte
  | 52 => .array .int
  | 53 => .array .int
  | 54 => .array .int
  | 55 => .array .int
  | 56 => .array .int
  | 57 => .array .int
  | 58 => .int
  | 59 => .array .int
  | 60 => .array .int
  | _ => .boolean
theorem nmX11 : ∀ a, a < 62 → ∀ b, b < 62 → a ≠ b → (TX11 a).2.1 ≠ (TX11 b).2.1 := by decide +kernel
theorem tyX11_ok : ∀ k, k < 62 → parseFieldDescriptor (TX11 k).2.2.1 = some (tyX11 k) := by decide +kernel
abbrev vwCl : List vw_C := [(RX0, TX0, 9), (RX1, TX1, 6), (RX2, TX2, 3), (RX3, TX3, 12), (RX4, TX4, 11), (RX5, TX5, 2), (RX6, TX6, 3), (RX7, TX7, 3), (RX8, TX8, 8), (RX9, TX9, 5), (RX10, TX10, 14), (RX11, TX11, 62)]
set_option maxRecDepth 100000 in
theorem oinX0 : ∀ w ∈ u_ws RX0 TX0 9, w ∈ oT := by decide +kernel
set_option maxRecDepth 100000 in
theorem oinX1 : ∀ w ∈ u_ws RX1 TX1 6, w ∈ oT := by decide +kernel
set_option maxRecDepth 100000 in
theorem oinX2 : ∀ w ∈ u_ws RX2 TX2 3, w ∈ oT := by decide +kernel
set_option maxRecDepth 100000 in
theorem oinX3 : ∀ w ∈ u_ws RX3 TX3 12, w ∈ oT := by decide +kernel
set_option maxRecDepth 100000 in
theorem oinX4 : ∀ w ∈ u_ws RX4 TX4 11, w ∈ oT := by decide +kernel
set_option maxRecDepth 100000 in
theorem oinX5 : ∀ w ∈ u_ws RX5 TX5 2, w ∈ oT := by decide +kernel
set_option maxRecDepth 100000 in
theorem oinX6 : ∀ w ∈ u_ws RX6 TX6 3, w ∈ oT := by decide +kernel
set_option maxRecDepth 100000 in
theorem oinX7 : ∀ w ∈ u_ws RX7 TX7 3, w ∈ oT := by decide +kernel
set_option maxRecDepth 100000 in
theorem oinX8 : ∀ w ∈ u_ws RX8 TX8 8, w ∈ oT := by decide +kernel
set_option maxRecDepth 100000 in
theorem oinX9 : ∀ w ∈ u_ws RX9 TX9 5, w ∈ oT := by decide +kernel
set_option maxRecDepth 100000 in
theorem oinX10 : ∀ w ∈ u_ws RX10 TX10 14, w ∈ oT := by decide +kernel
set_option maxRecDepth 100000 in
theorem oinX11 : ∀ w ∈ u_ws RX11 TX11 62, w ∈ oT := by decide +kernel
def oCls (ci : Nat) (C : String) (T : u_T) (N : Nat) (ty : Nat → FieldType) : Prop := vwCl[ci]? = some (C, T, N) ∧ (∀ w ∈ u_ws C T N, w ∈ oT) ∧ (∀ k, k < N → parseFieldDescriptor (T k).2.2.1 = some (ty k)) ∧ ∀ a, a < N → ∀ b, b < N → a ≠ b → (T a).2.1 ≠ (T b).2.1
theorem oC0 : oCls 0 RX0 TX0 9 tyX0 := ⟨rfl, oinX0, tyX0_ok, nmX0⟩
theorem oC1 : oCls 1 RX1 TX1 6 tyX1 := ⟨rfl, oinX1, tyX1_ok, nmX1⟩
theorem oC2 : oCls 2 RX2 TX2 3 tyX2 := ⟨rfl, oinX2, tyX2_ok, nmX2⟩
theorem oC3 : oCls 3 RX3 TX3 12 tyX3 := ⟨rfl, oinX3, tyX3_ok, nmX3⟩
theorem oC4 : oCls 4 RX4 TX4 11 tyX4 := ⟨rfl, oinX4, tyX4_ok, nmX4⟩
theorem oC5 : oCls 5 RX5 TX5 2 tyX5 := ⟨rfl, oinX5, tyX5_ok, nmX5⟩
theorem oC6 : oCls 6 RX6 TX6 3 tyX6 := ⟨rfl, oinX6, tyX6_ok, nmX6⟩
theorem oC7 : oCls 7 RX7 TX7 3 tyX7 := ⟨rfl, oinX7, tyX7_ok, nmX7⟩
theorem oC8 : oCls 8 RX8 TX8 8 tyX8 := ⟨rfl, oinX8, tyX8_ok, nmX8⟩
theorem oC9 : oCls 9 RX9 TX9 5 tyX9 := ⟨rfl, oinX9, tyX9_ok, nmX9⟩
theorem oC10 : oCls 10 RX10 TX10 14 tyX10 := ⟨rfl, oinX10, tyX10_ok, nmX10⟩
theorem oC11 : oCls 11 RX11 TX11 62 tyX11 := ⟨rfl, oinX11, tyX11_ok, nmX11⟩
end
section
/-! the walked program's state: abstract values, memory, shapes; the judgement oJ over W, the contract oK over Met -/
abbrev oV : Type := Int ⊕ Option Nat
abbrev vi (a : Int) : oV := .inl a
abbrev vr (o : Nat) : oV := .inr (some o)
abbrev vu : oV := .inr none
abbrev oM : Type := Nat → Int → Int
abbrev oSh : Type := (Bool × Nat) ⊕ (Nat × List (Option (Option Nat)))
abbrev oW : Type := List oSh
abbrev oMI : Type := MethodName × ByteArray × Nat × Option FieldType
abbrev oE : Type := Nat × Nat × Nat × Option (Nat × (Nat → Int)) × (Int → oW → oM → Prop)
def oU (M : oM) (o : Nat) (i v : Int) : oM := fun o' i' => if o' = o ∧ i' = i then v else M o' i'
def rlv (ad : Nat → Nat) : oV → Value
  | .inl a => .int (Int32.ofInt a)
  | .inr none => .null
  | .inr (some o) => .ref (ad o)
def oFv (ad : Nat → Nat) (f : Int → Int) (k : Nat) : Option (Option Nat) → Value
  | none => .int (Int32.ofInt (f k))
  | some none => .null
  | some (some o) => .ref (ad o)
def oCe (ad : Nat → Nat) (cI cB : ClassId) (f : Int → Int) : oSh → va_E
  | .inl (b, n) => .inl (if b then cB else cI, n, .inl (fun k => Int32.ofInt (f k)))
  | .inr (ci, fs) => .inr (ci, fs.mapIdx (oFv ad f))
def oCells (ad : Nat → Nat) (cI cB : ClassId) (wd : oW) (M : oM) : va_W := wd.mapIdx (fun o sh => (ad o, oCe ad cI cB (M o) sh))
theorem oCells_get {ad : Nat → Nat} {cI cB : ClassId} {wd : oW} {M : oM} {o : Nat} {sh : oSh} (h : wd[o]? = some sh) : (oCells ad cI cB wd M)[o]? = some (ad o, oCe ad cI cB (M o) sh) := by
  unfold oCells
  rw [List.getElem?_mapIdx, h]; rfl
theorem oCells_inv {ad : Nat → Nat} {cI cB : ClassId} {wd : oW} {M : oM} {o : Nat} {q : Nat × va_E} (h : (oCells ad cI cB wd M)[o]? = some q) : o < wd.length ∧ q.1 = ad o := by
  unfold oCells at h
  rw [List.getElem?_mapIdx] at h
  cases hw : wd[o]? with
  | none => rw [hw] at h; cases h
  | some sh =>
    rw [hw] at h
    have h1 := Option.some.inj h
    exact ⟨(List.getElem?_eq_some_iff.mp hw).1, by rw [← h1]⟩
theorem oCells_set {ad : Nat → Nat} {cI cB : ClassId} {wd : oW} {M M' : oM} {o : Nat} {sh : oSh} {x : va_E} (h : wd[o]? = some sh) (hx : x = oCe ad cI cB (M' o) sh) (hM : ∀ o' : Nat, o' ≠ o → M' o' = M o') : (oCells ad cI cB wd M).set o (ad o, x) = oCells ad cI cB wd M' := by
  apply List.ext_getElem?
  intro i
  unfold oCells
  by_cases hi : i = o
  · subst hi
    rw [List.getElem?_set_self (by rw [List.length_mapIdx]; exact (List.getElem?_eq_some_iff.mp h).1), List.getElem?_mapIdx, h, hx]; rfl
  · rw [List.getElem?_set_ne (Ne.symm hi), List.getElem?_mapIdx, List.getElem?_mapIdx, hM i hi]
theorem oCells_sh {ad : Nat → Nat} {cI cB : ClassId} {wd : oW} {M : oM} {o : Nat} {sh : oSh} {x : va_E} (h : o < wd.length) (hx : x = oCe ad cI cB (M o) sh) : (oCells ad cI cB wd M).set o (ad o, x) = oCells ad cI cB (wd.set o sh) M := by
  apply List.ext_getElem?
  intro i
  unfold oCells
  by_cases hi : i = o
  · subst hi
    rw [List.getElem?_set_self (by rw [List.length_mapIdx]; exact h), List.getElem?_mapIdx, List.getElem?_set_self h, hx]; rfl
  · rw [List.getElem?_set_ne (Ne.symm hi), List.getElem?_mapIdx, List.getElem?_mapIdx, List.getElem?_set_ne (Ne.symm hi)]
def okv (len : Nat) : oV → Prop
  | .inl a => inR a
  | .inr none => True
  | .inr (some o) => o < len ∨ 1000 ≤ o
def oks (len : Nat) : List oV → Prop
  | [] => True
  | v :: l => okv len v ∧ oks len l
def okSh (len : Nat) : oSh → Prop
  | .inl _ => True
  | .inr (_, fs) => ∀ (k r : Nat), fs[k]? = some (some (some r)) → r < len ∨ 1000 ≤ r
def oRg (wd : oW) (lv st : List oV) (M : oM) : Prop := oks wd.length lv ∧ oks wd.length st ∧ (∀ o i, inR (M o i)) ∧ wd.length < 1000 ∧ ∀ (k : Nat) (sh : oSh), wd[k]? = some sh → okSh wd.length sh
def oN : List oV → Nat → oV
  | [], _ => vu
  | v :: _, 0 => v
  | _ :: l, k + 1 => oN l k
theorem oks_N {len : Nat} : ∀ {l : List oV} (k : Nat), oks len l → okv len (oN l k)
  | [], _, _ => trivial
  | _ :: _, 0, h => h.1
  | _ :: _, k + 1, h => oks_N k h.2
theorem oks_app {len : Nat} {a b : List oV} (ha : oks len a) (hb : oks len b) : oks len (a ++ b) := by
  induction a with
  | nil => exact hb
  | cons v l ih => exact ⟨ha.1, ih ha.2⟩
theorem oks_app1 {len : Nat} {a b : List oV} (h : oks len (a ++ b)) : oks len a := by
  induction a with
  | nil => trivial
  | cons v l ih => exact ⟨h.1, ih h.2⟩
theorem oks_app2 {len : Nat} {a b : List oV} (h : oks len (a ++ b)) : oks len b := by
  induction a with
  | nil => exact h
  | cons v l ih => exact ih h.2
theorem oks_rep {len n : Nat} : oks len (List.replicate n vu) := by
  induction n with
  | zero => trivial
  | succ n ih => exact ⟨trivial, ih⟩
theorem okv_mono {a b : Nat} (h : a ≤ b) {v : oV} (hv : okv a v) : okv b v := by
  rcases v with v | v | o
  · exact hv
  · trivial
  · exact hv.elim (fun q => Or.inl (Nat.lt_of_lt_of_le q h)) Or.inr
theorem oks_mono {a b : Nat} (h : a ≤ b) {l : List oV} (hv : oks a l) : oks b l := by
  induction l with
  | nil => trivial
  | cons v l ih => exact ⟨okv_mono h hv.1, ih hv.2⟩
theorem rlv_agree {ad ad' : Nat → Nat} {len : Nat} (h : ∀ o, o < len ∨ 1000 ≤ o → ad' o = ad o) {v : oV} (hv : okv len v) : rlv ad' v = rlv ad v := by
  rcases v with v | v | o
  · rfl
  · rfl
  · show Value.ref _ = Value.ref _
    rw [h o hv]
theorem rlv_agrees {ad ad' : Nat → Nat} {len : Nat} (h : ∀ o, o < len ∨ 1000 ≤ o → ad' o = ad o) {l : List oV} (hv : oks len l) : l.map (rlv ad') = l.map (rlv ad) := by
  induction l with
  | nil => rfl
  | cons v l ih => rw [List.map_cons, List.map_cons, rlv_agree h hv.1, ih hv.2]
/-- the frame's locals hold what is known -/
def oLv (ad : Nat → Nat) (lv : List oV) (ls : Array Slot) (nL : Nat) : Prop := ls.size = nL ∧ lv_wf ls ∧ ∀ k : Nat, oN lv k ≠ vu → ls[k]? = some (.val (rlv ad (oN lv k)))
def oIsN : Cond → Bool
  | .fieldLinkNest .. => true
  | .methodLinkNest .. => true
  | _ => false
/-- the words of nest mates -/
def oTN : List Cond := lw_tbl.filter oIsN
theorem oTN_mem {w : Cond} (i : Nat) (h : lw_tbl[i]? = some w) (g : oIsN w = true) : w ∈ oTN := List.mem_filter.mpr ⟨List.mem_of_getElem? h, g⟩
/-- what lies outside: the text constant, String's switch, the nest mates' words -/
def oOut (ad : Nat → Nat) (A : Nat → Prop) (U : State) (H : Heap) : Prop := vk_S 1 [8] [[104, 99, 110, 111, 119, 103, 116, 121]] (fun _ => ad 1000) (fun _ => ad 1001) A U H ∧ vk_R "OneCoin$LawReader" 90 "hcnowgty" (ad 1000) U ∧ va_Z "java/lang/String" "COMPACT_STRINGS" "Z" (.int 1) A U H ∧ ∀ w ∈ oTN, va_Nw w U
def oScr (sc : Option (Nat × (Nat → Int))) (ad : Nat → Nat) (A : Nat → Prop) (s : State) : Prop := ∀ (L : Nat) (xs : Nat → Int), sc = some (L, xs) → va_X (ad 1002) L (fun k => Int32.ofInt (xs k)) s s.heap ∧ ad 1002 < s.heap.size ∧ ¬ A (ad 1002) ∧ L < 2 ^ 31 ∧ ∀ k, inR (xs k)
def oTy (cI cB : ClassId) : List (ClassId × FieldType) := [(cI, .int), (cB, .byte)]
def oHp (A : Nat → Prop) (D : va_G) (ad : Nat → Nat) (cI cB : ClassId) (wd : oW) (M : oM) (s : State) (H : Heap) (locs : List Loc) : Prop := va_P D vwCl (oCells ad cI cB wd M) H ∧ va_D A (oCells ad cI cB wd M) ∧ va_S A s.heap H locs
def oAg (n0 : Nat) (ad0 ad : Nat → Nat) : Prop := ∀ o, o < n0 ∨ 1000 ≤ o → ad o = ad0 o
def oRet (mt : oMI) (E : oE) (p : Program) (l : Launch) (e : Env) (R : Room) (s : State) (m : MethodId) (args : Array Value) (below : List Frame) (meth : Method) (c : Code) (A : Nat → Prop) (D : va_G) (cI cB : ClassId) (Z : State → Prop) (n0 : Nat) (ad0 : Nat → Nat) : Prop :=
  ∀ (r : Int) (wd : oW) (M : oM) (ad : Nat → Nat) (H : Heap) (locs : List Loc) (pc : Nat) (ls : Array Slot), E.2.2.2.2 r wd M → oHp A D ad cI cB wd M s H locs → oRg wd [] [] M → oAg n0 ad0 ad → n0 ≤ wd.length →
    (mt.2.2.2 = none → r = 0 → decode mt.2.1 pc = .ok (.return_, 1) → W p l e R s m args below meth c H locs E.2.1 E.2.2.1 Z (F0 m pc ls [])) ∧
    (∀ ty, mt.2.2.2 = some ty → inR r → narrow ty (.int (Int32.ofInt r)) = .int (Int32.ofInt r) → decode mt.2.1 pc = .ok (.ireturn, 1) → W p l e R s m args below meth c H locs E.2.1 E.2.2.1 Z (F0 m pc ls [.int (Int32.ofInt r)]))
def oCtx (mt : oMI) (E : oE) (p : Program) (l : Launch) (e : Env) (R : Room) (s : State) (m : MethodId) (args : Array Value) (below : List Frame) (meth : Method) (c : Code) (A : Nat → Prop) (D : va_G) (cI cB : ClassId) (Z : State → Prop) (n0 : Nat) (ad0 : Nat → Nat) : Prop :=
  p.tables.exec = Jvm.exec ∧ c.code = mt.2.1 ∧ c.maxLocals = mt.2.2.1 ∧ s.vm.findClass mt.1.cls = some m.cls ∧ (∀ w ∈ oT, w.before args s = true) ∧ (E.1 ≤ R.frames ∧ 100 * E.1 ≤ R.locals ∧ E.2.1 ≤ R.cells ∧ E.2.2.1 ≤ R.slots) ∧ va_K D vwCl (oTy cI cB) s ∧ (∀ q, s.heap.size ≤ q → A q) ∧ oOut ad0 A s s.heap ∧ oScr E.2.2.2.1 ad0 A s ∧ meth.name = mt.1.name ∧ oRet mt E p l e R s m args below meth c A D cI cB Z n0 ad0
/-- from pc, with these locals, this stack, this memory, k cells and n slots made: the method goes on to a return that E allows -/
def oJ (l : Launch) (mt : oMI) (E : oE) (k n pc : Nat) (lv st : List oV) (wd : oW) (M : oM) : Prop :=
  ∀ (p : Program) (e : Env) (R : Room) (s : State) (m : MethodId) (args : Array Value) (below : List Frame) (meth : Method) (c : Code) (A : Nat → Prop) (D : va_G) (cI cB : ClassId) (Z : State → Prop) (n0 : Nat) (ad0 ad : Nat → Nat) (H : Heap) (locs : List Loc) (ls : Array Slot),
    oCtx mt E p l e R s m args below meth c A D cI cB Z n0 ad0 → oHp A D ad cI cB wd M s H locs → oLv ad lv ls mt.2.2.1 → oRg wd lv st M → oAg n0 ad0 ad → n0 ≤ wd.length →
    W p l e R s m args below meth c H locs k n Z (F0 m pc ls (st.map (rlv ad)))
/-- a row that moves pc and stack alone -/
theorem oJ_row {l : Launch} {mt : oMI} {E : oE} {k n pc pc' : Nat} {lv st st' : List oV} {wd : oW} {M : oM}
    (hst : ∀ len, oks len st → oks len st')
    (hr : ∀ (p : Program) (e : Env) (R : Room) (s : State) (m : MethodId) (args : Array Value) (below : List Frame) (meth : Method) (c : Code) (Z : State → Prop) (ad : Nat → Nat) (H : Heap) (locs : List Loc) (ls : Array Slot), p.tables.exec = Jvm.exec → c.code = mt.2.1 → oLv ad lv ls mt.2.2.1 → (∀ len, oks len st → True) → oks wd.length lv → oks wd.length st →
      W p l e R s m args below meth c H locs k n Z (F0 m pc' ls (st'.map (rlv ad))) → W p l e R s m args below meth c H locs k n Z (F0 m pc ls (st.map (rlv ad))))
    (h : oks wd.length lv → oJ l mt E k n pc' lv st' wd M) : oJ l mt E k n pc lv st wd M := by
  intro p e R s m args below meth c A D cI cB Z n0 ad0 ad H locs ls C hH hl hR hg hn
  exact hr p e R s m args below meth c Z ad H locs ls C.1 C.2.1 hl (fun _ _ => trivial) hR.1 hR.2.1 (h hR.1 p e R s m args below meth c A D cI cB Z n0 ad0 ad H locs ls C hH hl ⟨hR.1, hst _ hR.2.1, hR.2.2⟩ hg hn)
end
section
/-! rows: an instruction each, over oJ; a pure program's run (okp) goes along where the machine asks something -/
def oSet : List oV → Nat → oV → List oV
  | [], _, _ => []
  | _ :: l, 0, v => v :: l
  | a :: l, k + 1, v => a :: oSet l k v
theorem oN_set_ne : ∀ {l : List oV} {i k : Nat} {v : oV}, k ≠ i → oN (oSet l i v) k = oN l k
  | [], _, _, _, _ => rfl
  | _ :: _, 0, 0, _, h => absurd rfl h
  | _ :: _, 0, _ + 1, _, _ => rfl
  | _ :: _, _ + 1, 0, _, _ => rfl
  | _ :: l, i + 1, k + 1, v, h => oN_set_ne (l := l) (fun e => h (by rw [e]))
theorem oN_set_eq : ∀ {l : List oV} {i : Nat} {v : oV}, oN (oSet l i v) i = v ∨ oN (oSet l i v) i = vu
  | [], _, _ => Or.inr rfl
  | _ :: _, 0, _ => Or.inl rfl
  | _ :: l, i + 1, v => oN_set_eq (l := l)
theorem oks_set {len : Nat} : ∀ {l : List oV} {i : Nat} {v : oV}, oks len l → okv len v → oks len (oSet l i v)
  | [], _, _, _, _ => trivial
  | _ :: _, 0, _, h, hv => ⟨hv, h.2⟩
  | _ :: l, i + 1, v, h, hv => ⟨h.1, oks_set h.2 hv⟩
theorem oN_lt : ∀ {l : List oV} {k : Nat}, oN l k ≠ vu → k < l.length
  | [], _, h => absurd rfl h
  | _ :: _, 0, _ => Nat.succ_pos _
  | _ :: l, k + 1, h => Nat.succ_lt_succ (oN_lt (l := l) h)
def oPr (ad : Nat → Nat) (lv : List oV) : List (Nat × Value) := (List.range lv.length).filterMap (fun k => if oN lv k = vu then none else some (k, rlv ad (oN lv k)))
theorem oPr_mem {ad : Nat → Nat} {lv : List oV} {q : Nat × Value} : q ∈ oPr ad lv ↔ oN lv q.1 ≠ vu ∧ q.2 = rlv ad (oN lv q.1) := by
  unfold oPr
  rw [List.mem_filterMap]
  constructor
  · rintro ⟨k, hk, h⟩
    split at h
    · cases h
    · rename_i c
      cases h
      exact ⟨c, rfl⟩
  · rintro ⟨h1, h2⟩
    refine ⟨q.1, List.mem_range.mpr (oN_lt h1), ?_⟩
    rw [if_neg h1, ← h2]
theorem oLv_has {ad : Nat → Nat} {lv : List oV} {ls : Array Slot} {nL : Nat} (h : oLv ad lv ls nL) : lv_has ls nL (oPr ad lv) := ⟨h.1, h.2.1, fun q hq => by
  obtain ⟨h1, h2⟩ := oPr_mem.mp hq
  rw [h2]; exact h.2.2 q.1 h1⟩
theorem rlv_cat {ad : Nat → Nat} (v : oV) : (rlv ad v).category = 1 := by rcases v with v | v | o <;> rfl
theorem oLv_set {ad : Nat → Nat} {lv : List oV} {ls' : Array Slot} {nL i : Nat} {v : oV} (h : lv_has ls' nL ((i, rlv ad v) :: (oPr ad lv).filter (fun q => !(q.1 == i) && !(q.1 + 1 == i && q.2.category == 2)))) : oLv ad (oSet lv i v) ls' nL := by
  refine ⟨h.1, h.2.1, fun k hk => ?_⟩
  by_cases e : k = i
  · subst e
    rcases oN_set_eq (l := lv) (i := k) (v := v) with q | q
    · rw [q]; exact h.2.2 (k, rlv ad v) List.mem_cons_self
    · exact absurd q hk
  · rw [oN_set_ne e] at hk ⊢
    refine h.2.2 (k, rlv ad (oN lv k)) (List.mem_cons_of_mem _ (List.mem_filter.mpr ⟨oPr_mem.mpr ⟨hk, rfl⟩, ?_⟩))
    simp [e, rlv_cat]
theorem oLv_int {ad : Nat → Nat} {lv : List oV} {ls : Array Slot} {nL i : Nat} {a : Int} (h : oLv ad lv ls nL) (hv : oN lv i = vi a) : ls[i]? = some (.val (.int (Int32.ofInt a))) := by
  have h1 := h.2.2 i (by rw [hv]; intro e; cases e)
  rw [hv] at h1; exact h1
theorem oLv_ref {ad : Nat → Nat} {lv : List oV} {ls : Array Slot} {nL i : Nat} {o : Nat} (h : oLv ad lv ls nL) (hv : oN lv i = vr o) : ls[i]? = some (.val (.ref (ad o))) := by
  have h1 := h.2.2 i (by rw [hv]; intro e; cases e)
  rw [hv] at h1; exact h1
section ROWS
variable {l : Launch} {mt : oMI} {E : oE} {k n pc : Nat} {lv st : List oV} {wd : oW} {M : oM}
theorem oj_iloadn {i : Fin 4} {a : Int} (hd : decode mt.2.1 pc = .ok (.iload_n i, 1)) (hv : oN lv i = vi a) (h : oJ l mt E k n (pc + 1) lv (vi a :: st) wd M) : oJ l mt E k n pc lv st wd M := by
  intro p e R s m args below meth c A D cI cB Z n0 ad0 ad H locs ls C hH hl hR hg hn
  have hok := oks_N (i : Nat) hR.1
  rw [hv] at hok
  exact lv_iload_n C.1 C.2.1 hd rfl (oLv_int hl hv) (h p e R s m args below meth c A D cI cB Z n0 ad0 ad H locs ls C hH hl ⟨hR.1, ⟨hok, hR.2.1⟩, hR.2.2⟩ hg hn)
theorem oj_iload {i : Nat} {a : Int} (hd : decode mt.2.1 pc = .ok (.iload i, 2)) (hv : oN lv i = vi a) (h : oJ l mt E k n (pc + 2) lv (vi a :: st) wd M) : oJ l mt E k n pc lv st wd M := by
  intro p e R s m args below meth c A D cI cB Z n0 ad0 ad H locs ls C hH hl hR hg hn
  have hok := oks_N i hR.1
  rw [hv] at hok
  exact lv_iload C.1 C.2.1 hd (oLv_int hl hv) (h p e R s m args below meth c A D cI cB Z n0 ad0 ad H locs ls C hH hl ⟨hR.1, ⟨hok, hR.2.1⟩, hR.2.2⟩ hg hn)
theorem oj_aloadn {i : Fin 4} {o : Nat} (hd : decode mt.2.1 pc = .ok (.aload_n i, 1)) (hv : oN lv i = vr o) (h : oJ l mt E k n (pc + 1) lv (vr o :: st) wd M) : oJ l mt E k n pc lv st wd M := by
  intro p e R s m args below meth c A D cI cB Z n0 ad0 ad H locs ls C hH hl hR hg hn
  have hok := oks_N (i : Nat) hR.1
  rw [hv] at hok
  exact lv_aload_n C.1 C.2.1 hd rfl (oLv_ref hl hv) (h p e R s m args below meth c A D cI cB Z n0 ad0 ad H locs ls C hH hl ⟨hR.1, ⟨hok, hR.2.1⟩, hR.2.2⟩ hg hn)
theorem oj_aload {i : Nat} {o : Nat} (hd : decode mt.2.1 pc = .ok (.aload i, 2)) (hv : oN lv i = vr o) (h : oJ l mt E k n (pc + 2) lv (vr o :: st) wd M) : oJ l mt E k n pc lv st wd M := by
  intro p e R s m args below meth c A D cI cB Z n0 ad0 ad H locs ls C hH hl hR hg hn
  have hok := oks_N i hR.1
  rw [hv] at hok
  exact lv_aload C.1 C.2.1 hd (oLv_ref hl hv) (h p e R s m args below meth c A D cI cB Z n0 ad0 ad H locs ls C hH hl ⟨hR.1, ⟨hok, hR.2.1⟩, hR.2.2⟩ hg hn)
theorem oj_istoren {i : Fin 4} {a : Int} {lv' : List oV} (hd : decode mt.2.1 pc = .ok (.istore_n i, 1)) (hn' : (i : Nat) < mt.2.2.1) (hv : oSet lv i (vi a) = lv') (h : oJ l mt E k n (pc + 1) lv' st wd M) : oJ l mt E k n pc lv (vi a :: st) wd M := by
  subst hv
  intro p e R s m args below meth c A D cI cB Z n0 ad0 ad H locs ls C hH hl hR hg hn
  exact lv_istore_n C.1 C.2.1 hd rfl (oLv_has hl) hn' rfl (fun ls' h' => h p e R s m args below meth c A D cI cB Z n0 ad0 ad H locs ls' C hH (oLv_set (v := vi a) h') ⟨oks_set hR.1 hR.2.1.1, hR.2.1.2, hR.2.2⟩ hg hn)
theorem oj_istore {i : Nat} {a : Int} {lv' : List oV} (hd : decode mt.2.1 pc = .ok (.istore i, 2)) (hn' : i < mt.2.2.1) (hv : oSet lv i (vi a) = lv') (h : oJ l mt E k n (pc + 2) lv' st wd M) : oJ l mt E k n pc lv (vi a :: st) wd M := by
  subst hv
  intro p e R s m args below meth c A D cI cB Z n0 ad0 ad H locs ls C hH hl hR hg hn
  exact lv_istore C.1 C.2.1 hd (oLv_has hl) hn' rfl (fun ls' h' => h p e R s m args below meth c A D cI cB Z n0 ad0 ad H locs ls' C hH (oLv_set (v := vi a) h') ⟨oks_set hR.1 hR.2.1.1, hR.2.1.2, hR.2.2⟩ hg hn)
theorem oj_astoren {i : Fin 4} {o : Nat} {lv' : List oV} (hd : decode mt.2.1 pc = .ok (.astore_n i, 1)) (hn' : (i : Nat) < mt.2.2.1) (hv : oSet lv i (vr o) = lv') (h : oJ l mt E k n (pc + 1) lv' st wd M) : oJ l mt E k n pc lv (vr o :: st) wd M := by
  subst hv
  intro p e R s m args below meth c A D cI cB Z n0 ad0 ad H locs ls C hH hl hR hg hn
  exact lv_astore_n C.1 C.2.1 hd rfl (oLv_has hl) hn' rfl (fun ls' h' => h p e R s m args below meth c A D cI cB Z n0 ad0 ad H locs ls' C hH (oLv_set (v := vr o) h') ⟨oks_set hR.1 hR.2.1.1, hR.2.1.2, hR.2.2⟩ hg hn)
theorem oj_iinc {i : Nat} {d a : Int} {lv' : List oV} (hd : decode mt.2.1 pc = .ok (.iinc i d, 3)) (hn' : i < mt.2.2.1) (hv0 : oN lv i = vi a) (hv : oSet lv i (vi (w32 (a + d))) = lv') (h : oJ l mt E k n (pc + 3) lv' st wd M) : oJ l mt E k n pc lv st wd M := by
  subst hv
  intro p e R s m args below meth c A D cI cB Z n0 ad0 ad H locs ls C hH hl hR hg hn
  obtain ⟨q, hq⟩ := List.getElem?_of_mem ((oPr_mem (ad := ad) (lv := lv) (q := (i, rlv ad (vi a)))).mpr ⟨fun z => (by rw [hv0] at z; cases z), (by rw [hv0])⟩)
  exact lv_iinc C.1 C.2.1 hd (oLv_has hl) hq (oc_add a d) hn' rfl (fun ls' h' => h p e R s m args below meth c A D cI cB Z n0 ad0 ad H locs ls' C hH (oLv_set (v := vi (w32 (a + d))) h') ⟨oks_set hR.1 (inR_w32 _), hR.2⟩ hg hn)
theorem oj_iconst {v : Int} (hv : inR v) (hd : decode mt.2.1 pc = .ok (.iconst v, 1)) (h : oJ l mt E k n (pc + 1) lv (vi v :: st) wd M) : oJ l mt E k n pc lv (st) wd M := by
  refine oJ_row (pc' := pc + 1) (st' := vi v :: st) (fun len hs => ⟨hv, hs⟩) ?_ (fun _ => h)
  intro p e R s m args below meth c Z ad H locs ls hx hb hl _ _ hs hk
  exact lv_iconst hx hb hd rfl hk
theorem oc_b8 {v : Int} (h1 : -128 ≤ v) (h2 : v < 128) : (Int8.ofInt v).toInt32 = Int32.ofInt v := by
  apply Int32.toInt_inj.1
  rw [oc_toInt ⟨by omega, by omega⟩, Int8.toInt_toInt32, Int8.toInt_ofInt_of_le (by omega) (by omega)]
theorem oc_b16 {v : Int} (h1 : -32768 ≤ v) (h2 : v < 32768) : (Int16.ofInt v).toInt32 = Int32.ofInt v := by
  apply Int32.toInt_inj.1
  rw [oc_toInt ⟨by omega, by omega⟩, Int16.toInt_toInt32, Int16.toInt_ofInt_of_le (by omega) (by omega)]
theorem oj_bipush {v : Int} (hv : -128 ≤ v ∧ v < 128) (hd : decode mt.2.1 pc = .ok (.bipush v, 2)) (h : oJ l mt E k n (pc + 2) lv (vi v :: st) wd M) : oJ l mt E k n pc lv (st) wd M := by
  refine oJ_row (pc' := pc + 2) (st' := vi v :: st) (fun len hs => ⟨⟨by omega, by omega⟩, hs⟩) ?_ (fun _ => h)
  intro p e R s m args below meth c Z ad H locs ls hx hb hl _ _ hs hk
  exact lv_bipush hx hb hd (oc_b8 hv.1 hv.2) hk
theorem oj_sipush {v : Int} (hv : -32768 ≤ v ∧ v < 32768) (hd : decode mt.2.1 pc = .ok (.sipush v, 3)) (h : oJ l mt E k n (pc + 3) lv (vi v :: st) wd M) : oJ l mt E k n pc lv (st) wd M := by
  refine oJ_row (pc' := pc + 3) (st' := vi v :: st) (fun len hs => ⟨⟨by omega, by omega⟩, hs⟩) ?_ (fun _ => h)
  intro p e R s m args below meth c Z ad H locs ls hx hb hl _ _ hs hk
  exact lv_sipush hx hb hd (oc_b16 hv.1 hv.2) hk
theorem oj_dup {v : oV} (hd : decode mt.2.1 pc = .ok (.dup, 1)) (h : oJ l mt E k n (pc + 1) lv (v :: v :: st) wd M) : oJ l mt E k n pc lv (v :: st) wd M := by
  refine oJ_row (pc' := pc + 1) (st' := v :: v :: st) (fun len hs => ⟨hs.1, hs⟩) ?_ (fun _ => h)
  intro p e R s m args below meth c Z ad H locs ls hx hb hl _ _ hs hk
  exact lv_dup hx hb hd (rlv_cat v) hk
theorem oj_pop {v : oV} (hd : decode mt.2.1 pc = .ok (.pop, 1)) (h : oJ l mt E k n (pc + 1) lv (st) wd M) : oJ l mt E k n pc lv (v :: st) wd M := by
  refine oJ_row (pc' := pc + 1) (st' := st) (fun len hs => hs.2) ?_ (fun _ => h)
  intro p e R s m args below meth c Z ad H locs ls hx hb hl _ _ hs hk
  exact lv_pop hx hb hd (rlv_cat v) hk
theorem oj_dup2 {v u : oV} (hd : decode mt.2.1 pc = .ok (.dup2, 1)) (h : oJ l mt E k n (pc + 1) lv (v :: u :: v :: u :: st) wd M) : oJ l mt E k n pc lv (v :: u :: st) wd M := by
  refine oJ_row (pc' := pc + 1) (st' := v :: u :: v :: u :: st) (fun len hs => ⟨hs.1, hs.2.1, hs⟩) ?_ (fun _ => h)
  intro p e R s m args below meth c Z ad H locs ls hx hb hl _ _ hs hk
  exact lv_dup2_11 hx hb hd (rlv_cat v) (rlv_cat u) hk
theorem oj_iadd {a b : Int} (hd : decode mt.2.1 pc = .ok (.iadd, 1)) (h : oJ l mt E k n (pc + 1) lv (vi (w32 (a + b)) :: st) wd M) : oJ l mt E k n pc lv (vi b :: vi a :: st) wd M := by
  refine oJ_row (pc' := pc + 1) (st' := vi (w32 (a + b)) :: st) (fun len hs => ⟨inR_w32 _, hs.2.2⟩) ?_ (fun _ => h)
  intro p e R s m args below meth c Z ad H locs ls hx hb hl _ _ hs hk
  exact lv_iadd hx hb hd (by rw [oc_add]; exact hk)
theorem oj_isub {a b : Int} (hd : decode mt.2.1 pc = .ok (.isub, 1)) (h : oJ l mt E k n (pc + 1) lv (vi (w32 (a - b)) :: st) wd M) : oJ l mt E k n pc lv (vi b :: vi a :: st) wd M := by
  refine oJ_row (pc' := pc + 1) (st' := vi (w32 (a - b)) :: st) (fun len hs => ⟨inR_w32 _, hs.2.2⟩) ?_ (fun _ => h)
  intro p e R s m args below meth c Z ad H locs ls hx hb hl _ _ hs hk
  exact lv_isub hx hb hd (by rw [oc_sub]; exact hk)
theorem oj_imul {a b : Int} (hd : decode mt.2.1 pc = .ok (.imul, 1)) (h : oJ l mt E k n (pc + 1) lv (vi (w32 (a * b)) :: st) wd M) : oJ l mt E k n pc lv (vi b :: vi a :: st) wd M := by
  refine oJ_row (pc' := pc + 1) (st' := vi (w32 (a * b)) :: st) (fun len hs => ⟨inR_w32 _, hs.2.2⟩) ?_ (fun _ => h)
  intro p e R s m args below meth c Z ad H locs ls hx hb hl _ _ hs hk
  exact lv_imul hx hb hd (by rw [oc_mul]; exact hk)
theorem oj_iand {a b : Int} (hd : decode mt.2.1 pc = .ok (.iand, 1)) (h : oJ l mt E k n (pc + 1) lv (vi (iand a b) :: st) wd M) : oJ l mt E k n pc lv (vi b :: vi a :: st) wd M := by
  refine oJ_row (pc' := pc + 1) (st' := vi (iand a b) :: st) (fun len hs => ⟨inR_toInt _, hs.2.2⟩) ?_ (fun _ => h)
  intro p e R s m args below meth c Z ad H locs ls hx hb hl _ _ hs hk
  exact lv_iand hx hb hd (by have h9 := hk; unfold iand at h9; simp only [List.map_cons, rlv, Int32.ofInt_toInt] at h9; exact h9)
theorem oj_ior {a b : Int} (hd : decode mt.2.1 pc = .ok (.ior, 1)) (h : oJ l mt E k n (pc + 1) lv (vi (ior a b) :: st) wd M) : oJ l mt E k n pc lv (vi b :: vi a :: st) wd M := by
  refine oJ_row (pc' := pc + 1) (st' := vi (ior a b) :: st) (fun len hs => ⟨inR_toInt _, hs.2.2⟩) ?_ (fun _ => h)
  intro p e R s m args below meth c Z ad H locs ls hx hb hl _ _ hs hk
  exact lv_ior hx hb hd (by have h9 := hk; unfold ior at h9; simp only [List.map_cons, rlv, Int32.ofInt_toInt] at h9; exact h9)
theorem oj_ixor {a b : Int} (hd : decode mt.2.1 pc = .ok (.ixor, 1)) (h : oJ l mt E k n (pc + 1) lv (vi (ixor a b) :: st) wd M) : oJ l mt E k n pc lv (vi b :: vi a :: st) wd M := by
  refine oJ_row (pc' := pc + 1) (st' := vi (ixor a b) :: st) (fun len hs => ⟨inR_toInt _, hs.2.2⟩) ?_ (fun _ => h)
  intro p e R s m args below meth c Z ad H locs ls hx hb hl _ _ hs hk
  exact lv_ixor hx hb hd (by have h9 := hk; unfold ixor at h9; simp only [List.map_cons, rlv, Int32.ofInt_toInt] at h9; exact h9)
theorem oj_ishl {a b : Int} (hd : decode mt.2.1 pc = .ok (.ishl, 1)) (h : oJ l mt E k n (pc + 1) lv (vi (ishl a b) :: st) wd M) : oJ l mt E k n pc lv (vi b :: vi a :: st) wd M := by
  refine oJ_row (pc' := pc + 1) (st' := vi (ishl a b) :: st) (fun len hs => ⟨inR_toInt _, hs.2.2⟩) ?_ (fun _ => h)
  intro p e R s m args below meth c Z ad H locs ls hx hb hl _ _ hs hk
  exact lv_ishl hx hb hd (by have h9 := hk; unfold ishl at h9; simp only [List.map_cons, rlv, Int32.ofInt_toInt] at h9; exact h9)
theorem oj_ishr {a b : Int} (hd : decode mt.2.1 pc = .ok (.ishr, 1)) (h : oJ l mt E k n (pc + 1) lv (vi (ishr a b) :: st) wd M) : oJ l mt E k n pc lv (vi b :: vi a :: st) wd M := by
  refine oJ_row (pc' := pc + 1) (st' := vi (ishr a b) :: st) (fun len hs => ⟨inR_toInt _, hs.2.2⟩) ?_ (fun _ => h)
  intro p e R s m args below meth c Z ad H locs ls hx hb hl _ _ hs hk
  exact lv_ishr hx hb hd (by have h9 := hk; unfold ishr at h9; simp only [List.map_cons, rlv, Int32.ofInt_toInt] at h9; exact h9)
theorem oj_iushr {a b : Int} (hd : decode mt.2.1 pc = .ok (.iushr, 1)) (h : oJ l mt E k n (pc + 1) lv (vi (iushr a b) :: st) wd M) : oJ l mt E k n pc lv (vi b :: vi a :: st) wd M := by
  refine oJ_row (pc' := pc + 1) (st' := vi (iushr a b) :: st) (fun len hs => ⟨inR_toInt _, hs.2.2⟩) ?_ (fun _ => h)
  intro p e R s m args below meth c Z ad H locs ls hx hb hl _ _ hs hk
  exact lv_iushr hx hb hd (v := Int32.ofInt (iushr a b)) (by unfold iushr; rw [Int32.ofInt_toInt]) hk
theorem oj_ineg {a : Int} (hd : decode mt.2.1 pc = .ok (.ineg, 1)) (h : oJ l mt E k n (pc + 1) lv (vi (w32 (-a)) :: st) wd M) : oJ l mt E k n pc lv (vi a :: st) wd M := by
  refine oJ_row (pc' := pc + 1) (st' := vi (w32 (-a)) :: st) (fun len hs => ⟨inR_w32 _, hs.2⟩) ?_ (fun _ => h)
  intro p e R s m args below meth c Z ad H locs ls hx hb hl _ _ hs hk
  exact lv_ineg hx hb hd (by rw [oc_neg]; exact hk)
theorem oj_i2b {a : Int} (hd : decode mt.2.1 pc = .ok (.i2b, 1)) (h : oJ l mt E k n (pc + 1) lv (vi (i2b a) :: st) wd M) : oJ l mt E k n pc lv (vi a :: st) wd M := by
  refine oJ_row (pc' := pc + 1) (st' := vi (i2b a) :: st) (fun len hs => ⟨inR_toInt _, hs.2⟩) ?_ (fun _ => h)
  intro p e R s m args below meth c Z ad H locs ls hx hb hl _ _ hs hk
  exact lv_i2b hx hb hd (v := Int32.ofInt (i2b a)) (by unfold i2b; rw [Int32.ofInt_toInt]) hk
theorem oj_i2c {a : Int} (hd : decode mt.2.1 pc = .ok (.i2c, 1)) (h : oJ l mt E k n (pc + 1) lv (vi (i2c a) :: st) wd M) : oJ l mt E k n pc lv (vi a :: st) wd M := by
  refine oJ_row (pc' := pc + 1) (st' := vi (i2c a) :: st) (fun len hs => ⟨inR_toInt _, hs.2⟩) ?_ (fun _ => h)
  intro p e R s m args below meth c Z ad H locs ls hx hb hl _ _ hs hk
  exact lv_i2c hx hb hd (v := Int32.ofInt (i2c a)) (by unfold i2c; rw [Int32.ofInt_toInt]) hk
theorem oj_goto {off : Int} {tgt : Nat} (hd : decode mt.2.1 pc = .ok (.goto off, 3)) (ht : (pc : Int) + off = (tgt : Int)) (h : oJ l mt E k n tgt lv st wd M) : oJ l mt E k n pc lv st wd M := by
  refine oJ_row (pc' := tgt) (st' := st) (fun len hs => hs) ?_ (fun _ => h)
  intro p e R s m args below meth c Z ad H locs ls hx hb hl _ _ hs hk
  exact lv_goto hx hb hd ht hk
theorem oj_idiv {α : Type} {K : α → Prop} {f : Int → Option α} {a b : Int} (hd : decode mt.2.1 pc = .ok (.idiv, 1)) (hk : okp (nz b f) K) (h : b ≠ 0 → okp (f b) K → oJ l mt E k n (pc + 1) lv (vi (w32 (a.tdiv b)) :: st) wd M) : oJ l mt E k n pc lv (vi b :: vi a :: st) wd M := by
  obtain ⟨h0, hk⟩ := okp_nz hk
  intro p e R s m args below meth c A D cI cB Z n0 ad0 ad H locs ls C hH hl hR hg hn
  refine lv_idiv C.1 C.2.1 hd (fun e => h0 ((oc_eq hR.2.1.1 inR_0).mp e)) ?_
  rw [oc_div hR.2.1.2.1 hR.2.1.1]
  exact h h0 hk p e R s m args below meth c A D cI cB Z n0 ad0 ad H locs ls C hH hl ⟨hR.1, ⟨inR_w32 _, hR.2.1.2.2⟩, hR.2.2⟩ hg hn
theorem oj_irem {α : Type} {K : α → Prop} {f : Int → Option α} {a b : Int} (hd : decode mt.2.1 pc = .ok (.irem, 1)) (hk : okp (nz b f) K) (h : b ≠ 0 → okp (f b) K → oJ l mt E k n (pc + 1) lv (vi (a.tmod b) :: st) wd M) : oJ l mt E k n pc lv (vi b :: vi a :: st) wd M := by
  obtain ⟨h0, hk⟩ := okp_nz hk
  intro p e R s m args below meth c A D cI cB Z n0 ad0 ad H locs ls C hH hl hR hg hn
  refine lv_irem C.1 C.2.1 hd (fun e => h0 ((oc_eq hR.2.1.1 inR_0).mp e)) ?_
  rw [oc_rem hR.2.1.2.1 hR.2.1.1]
  exact h h0 hk p e R s m args below meth c A D cI cB Z n0 ad0 ad H locs ls C hH hl ⟨hR.1, ⟨inR_tmod hR.2.1.2.1, hR.2.1.2.2⟩, hR.2.2⟩ hg hn
theorem oj_case {α : Type} {K : α → Prop} {c : Prop} [Decidable c] {x y : Option α} (hk : okp (if c then x else y) K) (ht : c → okp x K → oJ l mt E k n pc lv st wd M) (hf : ¬ c → okp y K → oJ l mt E k n pc lv st wd M) : oJ l mt E k n pc lv st wd M := by
  by_cases hc : c
  · exact ht hc (okp_t hc hk)
  · exact hf hc (okp_f hc hk)
theorem oj_icmp_eq {α : Type} {K : α → Prop} {x y : Option α} {a b : Int} {off : Int} {tgt : Nat} (hd : decode mt.2.1 pc = .ok (.if_icmp .eq off, 3)) (ht : (pc : Int) + off = (tgt : Int)) (hk : okp (if a = b then x else y) K) (h1 : a = b → okp x K → oJ l mt E k n tgt lv st wd M) (h2 : ¬ a = b → okp y K → oJ l mt E k n (pc + 3) lv st wd M) : oJ l mt E k n pc lv (vi b :: vi a :: st) wd M := by
  intro p e R s m args below meth c A D cI cB Z n0 ad0 ad H locs ls C hH hl hR hg hn
  have ha := hR.2.1.2.1; have hb := hR.2.1.1
  refine lv_icmp_eq C.1 C.2.1 hd ht (fun q => ?_) (fun q => ?_)
  · have q1 : a = b := (oc_eq ha hb).mp q
    exact h1 q1 (okp_t q1 hk) p e R s m args below meth c A D cI cB Z n0 ad0 ad H locs ls C hH hl ⟨hR.1, hR.2.1.2.2, hR.2.2⟩ hg hn
  · have q1 : ¬ a = b := fun z => q ((oc_eq ha hb).mpr z)
    exact h2 q1 (okp_f q1 hk) p e R s m args below meth c A D cI cB Z n0 ad0 ad H locs ls C hH hl ⟨hR.1, hR.2.1.2.2, hR.2.2⟩ hg hn
theorem oj_icmp_ne {α : Type} {K : α → Prop} {x y : Option α} {a b : Int} {off : Int} {tgt : Nat} (hd : decode mt.2.1 pc = .ok (.if_icmp .ne off, 3)) (ht : (pc : Int) + off = (tgt : Int)) (hk : okp (if a = b then y else x) K) (h1 : ¬ a = b → okp x K → oJ l mt E k n tgt lv st wd M) (h2 : a = b → okp y K → oJ l mt E k n (pc + 3) lv st wd M) : oJ l mt E k n pc lv (vi b :: vi a :: st) wd M := by
  intro p e R s m args below meth c A D cI cB Z n0 ad0 ad H locs ls C hH hl hR hg hn
  have ha := hR.2.1.2.1; have hb := hR.2.1.1
  refine lv_icmp_ne C.1 C.2.1 hd ht (fun q => ?_) (fun q => ?_)
  · have q1 : ¬ a = b := fun z => q ((oc_eq ha hb).mpr z)
    exact h1 q1 (okp_f q1 hk) p e R s m args below meth c A D cI cB Z n0 ad0 ad H locs ls C hH hl ⟨hR.1, hR.2.1.2.2, hR.2.2⟩ hg hn
  · have q1 : a = b := (oc_eq ha hb).mp q
    exact h2 q1 (okp_t q1 hk) p e R s m args below meth c A D cI cB Z n0 ad0 ad H locs ls C hH hl ⟨hR.1, hR.2.1.2.2, hR.2.2⟩ hg hn
theorem oj_icmp_lt {α : Type} {K : α → Prop} {x y : Option α} {a b : Int} {off : Int} {tgt : Nat} (hd : decode mt.2.1 pc = .ok (.if_icmp .lt off, 3)) (ht : (pc : Int) + off = (tgt : Int)) (hk : okp (if a < b then x else y) K) (h1 : a < b → okp x K → oJ l mt E k n tgt lv st wd M) (h2 : ¬ a < b → okp y K → oJ l mt E k n (pc + 3) lv st wd M) : oJ l mt E k n pc lv (vi b :: vi a :: st) wd M := by
  intro p e R s m args below meth c A D cI cB Z n0 ad0 ad H locs ls C hH hl hR hg hn
  have ha := hR.2.1.2.1; have hb := hR.2.1.1
  refine lv_icmp_lt C.1 C.2.1 hd ht (fun q => ?_) (fun q => ?_)
  · have q1 : a < b := (oc_lt ha hb).mp q
    exact h1 q1 (okp_t q1 hk) p e R s m args below meth c A D cI cB Z n0 ad0 ad H locs ls C hH hl ⟨hR.1, hR.2.1.2.2, hR.2.2⟩ hg hn
  · have q1 : ¬ a < b := fun z => q ((oc_lt ha hb).mpr z)
    exact h2 q1 (okp_f q1 hk) p e R s m args below meth c A D cI cB Z n0 ad0 ad H locs ls C hH hl ⟨hR.1, hR.2.1.2.2, hR.2.2⟩ hg hn
theorem oj_icmp_ge {α : Type} {K : α → Prop} {x y : Option α} {a b : Int} {off : Int} {tgt : Nat} (hd : decode mt.2.1 pc = .ok (.if_icmp .ge off, 3)) (ht : (pc : Int) + off = (tgt : Int)) (hk : okp (if a < b then y else x) K) (h1 : ¬ a < b → okp x K → oJ l mt E k n tgt lv st wd M) (h2 : a < b → okp y K → oJ l mt E k n (pc + 3) lv st wd M) : oJ l mt E k n pc lv (vi b :: vi a :: st) wd M := by
  intro p e R s m args below meth c A D cI cB Z n0 ad0 ad H locs ls C hH hl hR hg hn
  have ha := hR.2.1.2.1; have hb := hR.2.1.1
  refine lv_icmp_ge C.1 C.2.1 hd ht (fun q => ?_) (fun q => ?_)
  · have q1 : ¬ a < b := Int.not_lt.mpr ((oc_le hb ha).mp q)
    exact h1 q1 (okp_f q1 hk) p e R s m args below meth c A D cI cB Z n0 ad0 ad H locs ls C hH hl ⟨hR.1, hR.2.1.2.2, hR.2.2⟩ hg hn
  · have q1 : a < b := Int.not_le.mp (fun z => q ((oc_le hb ha).mpr z))
    exact h2 q1 (okp_t q1 hk) p e R s m args below meth c A D cI cB Z n0 ad0 ad H locs ls C hH hl ⟨hR.1, hR.2.1.2.2, hR.2.2⟩ hg hn
theorem oj_icmp_gt {α : Type} {K : α → Prop} {x y : Option α} {a b : Int} {off : Int} {tgt : Nat} (hd : decode mt.2.1 pc = .ok (.if_icmp .gt off, 3)) (ht : (pc : Int) + off = (tgt : Int)) (hk : okp (if b < a then x else y) K) (h1 : b < a → okp x K → oJ l mt E k n tgt lv st wd M) (h2 : ¬ b < a → okp y K → oJ l mt E k n (pc + 3) lv st wd M) : oJ l mt E k n pc lv (vi b :: vi a :: st) wd M := by
  intro p e R s m args below meth c A D cI cB Z n0 ad0 ad H locs ls C hH hl hR hg hn
  have ha := hR.2.1.2.1; have hb := hR.2.1.1
  refine lv_icmp_gt C.1 C.2.1 hd ht (fun q => ?_) (fun q => ?_)
  · have q1 : b < a := (oc_lt hb ha).mp q
    exact h1 q1 (okp_t q1 hk) p e R s m args below meth c A D cI cB Z n0 ad0 ad H locs ls C hH hl ⟨hR.1, hR.2.1.2.2, hR.2.2⟩ hg hn
  · have q1 : ¬ b < a := fun z => q ((oc_lt hb ha).mpr z)
    exact h2 q1 (okp_f q1 hk) p e R s m args below meth c A D cI cB Z n0 ad0 ad H locs ls C hH hl ⟨hR.1, hR.2.1.2.2, hR.2.2⟩ hg hn
theorem oj_icmp_le {α : Type} {K : α → Prop} {x y : Option α} {a b : Int} {off : Int} {tgt : Nat} (hd : decode mt.2.1 pc = .ok (.if_icmp .le off, 3)) (ht : (pc : Int) + off = (tgt : Int)) (hk : okp (if b < a then y else x) K) (h1 : ¬ b < a → okp x K → oJ l mt E k n tgt lv st wd M) (h2 : b < a → okp y K → oJ l mt E k n (pc + 3) lv st wd M) : oJ l mt E k n pc lv (vi b :: vi a :: st) wd M := by
  intro p e R s m args below meth c A D cI cB Z n0 ad0 ad H locs ls C hH hl hR hg hn
  have ha := hR.2.1.2.1; have hb := hR.2.1.1
  refine lv_icmp_le C.1 C.2.1 hd ht (fun q => ?_) (fun q => ?_)
  · have q1 : ¬ b < a := Int.not_lt.mpr ((oc_le ha hb).mp q)
    exact h1 q1 (okp_f q1 hk) p e R s m args below meth c A D cI cB Z n0 ad0 ad H locs ls C hH hl ⟨hR.1, hR.2.1.2.2, hR.2.2⟩ hg hn
  · have q1 : b < a := Int.not_le.mp (fun z => q ((oc_le ha hb).mpr z))
    exact h2 q1 (okp_t q1 hk) p e R s m args below meth c A D cI cB Z n0 ad0 ad H locs ls C hH hl ⟨hR.1, hR.2.1.2.2, hR.2.2⟩ hg hn
theorem oj_if_eq {α : Type} {K : α → Prop} {x y : Option α} {a : Int} {off : Int} {tgt : Nat} (hd : decode mt.2.1 pc = .ok (.ifCond .eq off, 3)) (ht : (pc : Int) + off = (tgt : Int)) (hk : okp (if a = 0 then x else y) K) (h1 : a = 0 → okp x K → oJ l mt E k n tgt lv st wd M) (h2 : ¬ a = 0 → okp y K → oJ l mt E k n (pc + 3) lv st wd M) : oJ l mt E k n pc lv (vi a :: st) wd M := by
  intro p e R s m args below meth c A D cI cB Z n0 ad0 ad H locs ls C hH hl hR hg hn
  have ha := hR.2.1.1
  refine lv_if_eq C.1 C.2.1 hd ht (fun q => ?_) (fun q => ?_)
  · have q1 : a = 0 := (oc_eq ha inR_0).mp q
    exact h1 q1 (okp_t q1 hk) p e R s m args below meth c A D cI cB Z n0 ad0 ad H locs ls C hH hl ⟨hR.1, hR.2.1.2, hR.2.2⟩ hg hn
  · have q1 : ¬ a = 0 := fun z => q ((oc_eq ha inR_0).mpr z)
    exact h2 q1 (okp_f q1 hk) p e R s m args below meth c A D cI cB Z n0 ad0 ad H locs ls C hH hl ⟨hR.1, hR.2.1.2, hR.2.2⟩ hg hn
theorem oj_if_ne {α : Type} {K : α → Prop} {x y : Option α} {a : Int} {off : Int} {tgt : Nat} (hd : decode mt.2.1 pc = .ok (.ifCond .ne off, 3)) (ht : (pc : Int) + off = (tgt : Int)) (hk : okp (if a = 0 then y else x) K) (h1 : ¬ a = 0 → okp x K → oJ l mt E k n tgt lv st wd M) (h2 : a = 0 → okp y K → oJ l mt E k n (pc + 3) lv st wd M) : oJ l mt E k n pc lv (vi a :: st) wd M := by
  intro p e R s m args below meth c A D cI cB Z n0 ad0 ad H locs ls C hH hl hR hg hn
  have ha := hR.2.1.1
  refine lv_if_ne C.1 C.2.1 hd ht (fun q => ?_) (fun q => ?_)
  · have q1 : ¬ a = 0 := fun z => q ((oc_eq ha inR_0).mpr z)
    exact h1 q1 (okp_f q1 hk) p e R s m args below meth c A D cI cB Z n0 ad0 ad H locs ls C hH hl ⟨hR.1, hR.2.1.2, hR.2.2⟩ hg hn
  · have q1 : a = 0 := (oc_eq ha inR_0).mp q
    exact h2 q1 (okp_t q1 hk) p e R s m args below meth c A D cI cB Z n0 ad0 ad H locs ls C hH hl ⟨hR.1, hR.2.1.2, hR.2.2⟩ hg hn
theorem oj_if_lt {α : Type} {K : α → Prop} {x y : Option α} {a : Int} {off : Int} {tgt : Nat} (hd : decode mt.2.1 pc = .ok (.ifCond .lt off, 3)) (ht : (pc : Int) + off = (tgt : Int)) (hk : okp (if a < 0 then x else y) K) (h1 : a < 0 → okp x K → oJ l mt E k n tgt lv st wd M) (h2 : ¬ a < 0 → okp y K → oJ l mt E k n (pc + 3) lv st wd M) : oJ l mt E k n pc lv (vi a :: st) wd M := by
  intro p e R s m args below meth c A D cI cB Z n0 ad0 ad H locs ls C hH hl hR hg hn
  have ha := hR.2.1.1
  refine lv_if_lt C.1 C.2.1 hd ht (fun q => ?_) (fun q => ?_)
  · have q1 : a < 0 := (oc_lt ha inR_0).mp q
    exact h1 q1 (okp_t q1 hk) p e R s m args below meth c A D cI cB Z n0 ad0 ad H locs ls C hH hl ⟨hR.1, hR.2.1.2, hR.2.2⟩ hg hn
  · have q1 : ¬ a < 0 := fun z => q ((oc_lt ha inR_0).mpr z)
    exact h2 q1 (okp_f q1 hk) p e R s m args below meth c A D cI cB Z n0 ad0 ad H locs ls C hH hl ⟨hR.1, hR.2.1.2, hR.2.2⟩ hg hn
theorem oj_if_ge {α : Type} {K : α → Prop} {x y : Option α} {a : Int} {off : Int} {tgt : Nat} (hd : decode mt.2.1 pc = .ok (.ifCond .ge off, 3)) (ht : (pc : Int) + off = (tgt : Int)) (hk : okp (if a < 0 then y else x) K) (h1 : ¬ a < 0 → okp x K → oJ l mt E k n tgt lv st wd M) (h2 : a < 0 → okp y K → oJ l mt E k n (pc + 3) lv st wd M) : oJ l mt E k n pc lv (vi a :: st) wd M := by
  intro p e R s m args below meth c A D cI cB Z n0 ad0 ad H locs ls C hH hl hR hg hn
  have ha := hR.2.1.1
  refine lv_if_ge C.1 C.2.1 hd ht (fun q => ?_) (fun q => ?_)
  · have q1 : ¬ a < 0 := Int.not_lt.mpr ((oc_le inR_0 ha).mp q)
    exact h1 q1 (okp_f q1 hk) p e R s m args below meth c A D cI cB Z n0 ad0 ad H locs ls C hH hl ⟨hR.1, hR.2.1.2, hR.2.2⟩ hg hn
  · have q1 : a < 0 := Int.not_le.mp (fun z => q ((oc_le inR_0 ha).mpr z))
    exact h2 q1 (okp_t q1 hk) p e R s m args below meth c A D cI cB Z n0 ad0 ad H locs ls C hH hl ⟨hR.1, hR.2.1.2, hR.2.2⟩ hg hn
theorem oj_if_gt {α : Type} {K : α → Prop} {x y : Option α} {a : Int} {off : Int} {tgt : Nat} (hd : decode mt.2.1 pc = .ok (.ifCond .gt off, 3)) (ht : (pc : Int) + off = (tgt : Int)) (hk : okp (if 0 < a then x else y) K) (h1 : 0 < a → okp x K → oJ l mt E k n tgt lv st wd M) (h2 : ¬ 0 < a → okp y K → oJ l mt E k n (pc + 3) lv st wd M) : oJ l mt E k n pc lv (vi a :: st) wd M := by
  intro p e R s m args below meth c A D cI cB Z n0 ad0 ad H locs ls C hH hl hR hg hn
  have ha := hR.2.1.1
  refine lv_if_gt C.1 C.2.1 hd ht (fun q => ?_) (fun q => ?_)
  · have q1 : 0 < a := (oc_lt inR_0 ha).mp q
    exact h1 q1 (okp_t q1 hk) p e R s m args below meth c A D cI cB Z n0 ad0 ad H locs ls C hH hl ⟨hR.1, hR.2.1.2, hR.2.2⟩ hg hn
  · have q1 : ¬ 0 < a := fun z => q ((oc_lt inR_0 ha).mpr z)
    exact h2 q1 (okp_f q1 hk) p e R s m args below meth c A D cI cB Z n0 ad0 ad H locs ls C hH hl ⟨hR.1, hR.2.1.2, hR.2.2⟩ hg hn
theorem oj_if_le {α : Type} {K : α → Prop} {x y : Option α} {a : Int} {off : Int} {tgt : Nat} (hd : decode mt.2.1 pc = .ok (.ifCond .le off, 3)) (ht : (pc : Int) + off = (tgt : Int)) (hk : okp (if 0 < a then y else x) K) (h1 : ¬ 0 < a → okp x K → oJ l mt E k n tgt lv st wd M) (h2 : 0 < a → okp y K → oJ l mt E k n (pc + 3) lv st wd M) : oJ l mt E k n pc lv (vi a :: st) wd M := by
  intro p e R s m args below meth c A D cI cB Z n0 ad0 ad H locs ls C hH hl hR hg hn
  have ha := hR.2.1.1
  refine lv_if_le C.1 C.2.1 hd ht (fun q => ?_) (fun q => ?_)
  · have q1 : ¬ 0 < a := Int.not_lt.mpr ((oc_le ha inR_0).mp q)
    exact h1 q1 (okp_f q1 hk) p e R s m args below meth c A D cI cB Z n0 ad0 ad H locs ls C hH hl ⟨hR.1, hR.2.1.2, hR.2.2⟩ hg hn
  · have q1 : 0 < a := Int.not_le.mp (fun z => q ((oc_le ha inR_0).mpr z))
    exact h2 q1 (okp_t q1 hk) p e R s m args below meth c A D cI cB Z n0 ad0 ad H locs ls C hH hl ⟨hR.1, hR.2.1.2, hR.2.2⟩ hg hn
end ROWS
end
section
/-! rows: fields, arrays -/
theorem oc_clamp {a : Int} (h0 : 0 ≤ a) (h : inR a) : (Int32.ofInt a).toNatClampNeg = a.toNat := by
  show (Int32.ofInt a).toInt.toNat = a.toNat
  rw [oc_toInt h]
theorem oc_in {a : Int} {n : Nat} (h0 : 0 ≤ a) (h1 : a < n) (h : inR a) : vp_in (Int32.ofInt a) n := by
  intro q
  rcases q with q | q
  · have := (oc_lt h inR_0).mp q
    omega
  · rw [oc_clamp h0 h] at q
    omega
theorem oU_ne {M : oM} {o : Nat} {i v : Int} {o' : Nat} (h : o' ≠ o) : (oU M o i v) o' = M o' := by
  funext i'
  simp [oU, h]
theorem oU_in {M : oM} {o : Nat} {i v : Int} (hM : ∀ o i, inR (M o i)) (hv : inR v) : ∀ o' i', inR (oU M o i v o' i') := by
  intro o' i'
  unfold oU
  split
  · exact hv
  · exact hM o' i'
def oFl (own : String) (idx ci kf : Nat) (fin : Bool) (fty : FieldType) : Prop := ∃ (C : String) (T : u_T) (N : Nat) (ty : Nat → FieldType) (name desc : String), oCls ci C T N ty ∧ kf < N ∧ T kf = (C, name, desc, fin) ∧ parseFieldDescriptor desc = some fty ∧ (Cond.fieldLink own idx C name desc ∈ oT ∨ ∃ host, Cond.fieldLinkNest own idx C name desc host ∈ oTN)
theorem oCe_obj {ad : Nat → Nat} {cI cB : ClassId} {f : Int → Int} {ci : Nat} {fs : List (Option (Option Nat))} : oCe ad cI cB f (.inr (ci, fs)) = .inr (ci, fs.mapIdx (oFv ad f)) := rfl
theorem oFs_set {ad : Nat → Nat} {M : oM} {o kf : Nat} {ki v : Int} {fs : List (Option (Option Nat))} (hki : ((kf : Nat) : Int) = ki) (hk : fs[kf]? = some none) : (fs.mapIdx (oFv ad (M o))).set kf (.int (Int32.ofInt v)) = fs.mapIdx (oFv ad ((oU M o ki v) o)) := by
  apply List.ext_getElem?
  intro i
  by_cases hi : i = kf
  · subst hi
    rw [List.getElem?_set_self (by rw [List.length_mapIdx]; exact (List.getElem?_eq_some_iff.mp hk).1), List.getElem?_mapIdx, hk]
    simp [oFv, oU, hki]
  · rw [List.getElem?_set_ne (Ne.symm hi), List.getElem?_mapIdx, List.getElem?_mapIdx]
    cases hx : fs[i]? with
    | none => rfl
    | some x =>
      rcases x with _ | x
      · simp only [Option.map_some, oFv, oU]
        rw [if_neg (fun q => hi (by omega))]
      · rcases x with _ | x <;> rfl
section HEAP
variable {l : Launch} {mt : oMI} {E : oE} {k n pc : Nat} {lv st : List oV} {wd : oW} {M : oM}
theorem oj_getI {idx ci kf o : Nat} {ki : Int} {fin : Bool} {fty : FieldType} {fs : List (Option (Option Nat))} (hf : oFl mt.1.cls idx ci kf fin fty) (hw : wd[o]? = some (.inr (ci, fs))) (hk : fs[kf]? = some none) (hki : ((kf : Nat) : Int) = ki) (hd : decode mt.2.1 pc = .ok (.getfield idx, 3)) (h : oJ l mt E k n (pc + 3) lv (vi (M o ki) :: st) wd M) : oJ l mt E k n pc lv (vr o :: st) wd M := by
  intro p e R s m args below meth c A D cI cB Z n0 ad0 ad H locs ls C hH hl hR hg hn
  have hkk := h p e R s m args below meth c A D cI cB Z n0 ad0 ad H locs ls C hH hl ⟨hR.1, ⟨hR.2.2.1 _ _, hR.2.1.2⟩, hR.2.2⟩ hg hn
  obtain ⟨Cn, T, N, ty, name, desc, ⟨hc, hin, hty, hnm⟩, hkN, hT, hpd, hlk⟩ := hf
  have e1 : (T kf).2.1 = name := by rw [hT]
  have e2 : (T kf).2.2.1 = desc := by rw [hT]
  have e3 : (T kf).1 = Cn := by rw [hT]
  have hv : (fs.mapIdx (oFv ad (M o)))[kf]? = some (.int (Int32.ofInt (M o ki))) := by
    rw [List.getElem?_mapIdx, hk, ← hki]; rfl
  rcases hlk with hlk | ⟨host, hlk⟩
  · exact va_get (D := D) (C := Cn) (T := T) (N := N) (ref := Cn) (index := idx) C.1 C.2.1 C.2.2.2.2.1 hin C.2.2.2.1 C.2.2.2.2.2.2.1 hH.1 o (oCells_get hw) hc kf hkN (by rw [e1, e2]; exact C.2.2.2.2.1 _ hlk) (fun _ hx => by rw [e3] at hx; exact hx) hv hd hkk
  · exact va_getN (D := D) (C := Cn) (T := T) (N := N) (ref := Cn) (index := idx) (host := host) C.1 C.2.1 C.2.2.2.2.1 hin C.2.2.2.1 C.2.2.2.2.2.2.1 hH.1 o (oCells_get hw) hc kf hkN (by rw [e1, e2]; exact va_Nw.use rfl (C.2.2.2.2.2.2.2.2.1.2.2.2 _ hlk)) (fun _ hx => by rw [e3] at hx; exact hx) hv hd hkk
theorem oj_getR {idx ci kf o r : Nat} {fin : Bool} {fty : FieldType} {fs : List (Option (Option Nat))} (hf : oFl mt.1.cls idx ci kf fin fty) (hw : wd[o]? = some (.inr (ci, fs))) (hk : fs[kf]? = some (some (some r))) (hd : decode mt.2.1 pc = .ok (.getfield idx, 3)) (h : oJ l mt E k n (pc + 3) lv (vr r :: st) wd M) : oJ l mt E k n pc lv (vr o :: st) wd M := by
  intro p e R s m args below meth c A D cI cB Z n0 ad0 ad H locs ls C hH hl hR hg hn
  have hkk := h p e R s m args below meth c A D cI cB Z n0 ad0 ad H locs ls C hH hl ⟨hR.1, ⟨hR.2.2.2.2 o _ hw kf r hk, hR.2.1.2⟩, hR.2.2⟩ hg hn
  obtain ⟨Cn, T, N, ty, name, desc, ⟨hc, hin, hty, hnm⟩, hkN, hT, hpd, hlk⟩ := hf
  have e1 : (T kf).2.1 = name := by rw [hT]
  have e2 : (T kf).2.2.1 = desc := by rw [hT]
  have e3 : (T kf).1 = Cn := by rw [hT]
  have hv : (fs.mapIdx (oFv ad (M o)))[kf]? = some (.ref (ad r)) := by
    rw [List.getElem?_mapIdx, hk]; rfl
  rcases hlk with hlk | ⟨host, hlk⟩
  · exact va_get (D := D) (C := Cn) (T := T) (N := N) (ref := Cn) (index := idx) C.1 C.2.1 C.2.2.2.2.1 hin C.2.2.2.1 C.2.2.2.2.2.2.1 hH.1 o (oCells_get hw) hc kf hkN (by rw [e1, e2]; exact C.2.2.2.2.1 _ hlk) (fun _ hx => by rw [e3] at hx; exact hx) hv hd hkk
  · exact va_getN (D := D) (C := Cn) (T := T) (N := N) (ref := Cn) (index := idx) (host := host) C.1 C.2.1 C.2.2.2.2.1 hin C.2.2.2.1 C.2.2.2.2.2.2.1 hH.1 o (oCells_get hw) hc kf hkN (by rw [e1, e2]; exact va_Nw.use rfl (C.2.2.2.2.2.2.2.2.1.2.2.2 _ hlk)) (fun _ hx => by rw [e3] at hx; exact hx) hv hd hkk
theorem oj_put {idx ci kf o : Nat} {ki v : Int} {fty : FieldType} {fs : List (Option (Option Nat))} (hf : oFl mt.1.cls idx ci kf false fty) (hw : wd[o]? = some (.inr (ci, fs))) (hk : fs[kf]? = some none) (hki : ((kf : Nat) : Int) = ki) (hnr : narrow fty (.int (Int32.ofInt v)) = .int (Int32.ofInt v)) (hft : fits fty (.int (Int32.ofInt v)) = true) (hd : decode mt.2.1 pc = .ok (.putfield idx, 3)) (h : oJ l mt E k n (pc + 3) lv st wd (oU M o ki v)) : oJ l mt E k n pc lv (vi v :: vr o :: st) wd M := by
  intro p e R s m args below meth c A D cI cB Z n0 ad0 ad H locs ls C hH hl hR hg hn
  obtain ⟨Cn, T, N, ty, name, desc, ⟨hc, hin, hty, hnm⟩, hkN, hT, hpd, hlk⟩ := hf
  have e1 : (T kf).2.1 = name := by rw [hT]
  have e2 : (T kf).2.2.1 = desc := by rw [hT]
  have e3 : (T kf).1 = Cn := by rw [hT]
  have e4 : (T kf).2.2.2 = false := by rw [hT]
  have hset : (oCells ad cI cB wd M).set o (ad o, .inr (ci, (fs.mapIdx (oFv ad (M o))).set kf (.int (Int32.ofInt v)))) = oCells ad cI cB wd (oU M o ki v) :=
    oCells_set (M' := oU M o ki v) hw (by rw [oCe_obj, oFs_set hki hk]) (fun o' ho => oU_ne ho)
  have hlen : kf < (fs.mapIdx (oFv ad (M o))).length := by rw [List.length_mapIdx]; exact (List.getElem?_eq_some_iff.mp hk).1
  have hkk : ∀ (H1 : Heap) (locs1 : List Loc), va_P D vwCl ((oCells ad cI cB wd M).set o (ad o, .inr (ci, (fs.mapIdx (oFv ad (M o))).set kf (.int (Int32.ofInt v))))) H1 → va_D A ((oCells ad cI cB wd M).set o (ad o, .inr (ci, (fs.mapIdx (oFv ad (M o))).set kf (.int (Int32.ofInt v))))) → va_S A s.heap H1 locs1 → W p l e R s m args below meth c H1 locs1 k n Z (F0 m (pc + 3) ls (st.map (rlv ad))) := by
    intro H1 locs1 h1 h2 h3
    rw [hset] at h1 h2
    exact h p e R s m args below meth c A D cI cB Z n0 ad0 ad H1 locs1 ls C ⟨h1, h2, h3⟩ hl ⟨hR.1, hR.2.1.2.2, oU_in hR.2.2.1 hR.2.1.1, hR.2.2.2⟩ hg hn
  rcases hlk with hlk | ⟨host, hlk⟩
  · exact va_put (D := D) (C := Cn) (T := T) (N := N) (ref := Cn) (index := idx) (ty := fty) C.1 C.2.1 C.2.2.2.2.1 hin ty hty hnm C.2.2.2.1 C.2.2.2.2.2.2.1 hH.1 hH.2.1 hH.2.2 o (oCells_get hw) hc kf hkN (by rw [e1, e2]; exact C.2.2.2.2.1 _ hlk) (fun _ hx => by rw [e3] at hx; exact hx) e4 (by rw [e2]; exact hpd) hnr hft hlen hd hkk
  · exact va_putN (D := D) (C := Cn) (T := T) (N := N) (ref := Cn) (index := idx) (host := host) (ty := fty) C.1 C.2.1 C.2.2.2.2.1 hin ty hty hnm C.2.2.2.1 C.2.2.2.2.2.2.1 hH.1 hH.2.1 hH.2.2 o (oCells_get hw) hc kf hkN (by rw [e1, e2]; exact va_Nw.use rfl (C.2.2.2.2.2.2.2.2.1.2.2.2 _ hlk)) (fun _ hx => by rw [e3] at hx; exact hx) e4 (by rw [e2]; exact hpd) hnr hft hlen hd hkk
theorem oj_putI {idx ci kf o : Nat} {ki v : Int} {fs : List (Option (Option Nat))} (hf : oFl mt.1.cls idx ci kf false .int) (hw : wd[o]? = some (.inr (ci, fs))) (hk : fs[kf]? = some none) (hki : ((kf : Nat) : Int) = ki) (hd : decode mt.2.1 pc = .ok (.putfield idx, 3)) (h : oJ l mt E k n (pc + 3) lv st wd (oU M o ki v)) : oJ l mt E k n pc lv (vi v :: vr o :: st) wd M := oj_put hf hw hk hki rfl rfl hd h
theorem oc_nz {v : Int} (h0 : 0 ≤ v) (h1 : v < 2) : narrow .boolean (.int (Int32.ofInt v)) = .int (Int32.ofInt v) := by
  rcases (show v = 0 ∨ v = 1 by omega) with rfl | rfl <;> rfl
theorem oc_fz {v : Int} (h0 : 0 ≤ v) (h1 : v < 2) : fits .boolean (.int (Int32.ofInt v)) = true := by
  rcases (show v = 0 ∨ v = 1 by omega) with rfl | rfl <;> rfl
theorem oj_putZ {α : Type} {K : α → Prop} {f : Int → Option α} {idx ci kf o : Nat} {ki v : Int} {fs : List (Option (Option Nat))} (hf : oFl mt.1.cls idx ci kf false .boolean) (hw : wd[o]? = some (.inr (ci, fs))) (hk : fs[kf]? = some none) (hki : ((kf : Nat) : Int) = ki) (hd : decode mt.2.1 pc = .ok (.putfield idx, 3)) (hK : okp (bnd 2 v f) K) (h : okp (f v) K → oJ l mt E k n (pc + 3) lv st wd (oU M o ki v)) : oJ l mt E k n pc lv (vi v :: vr o :: st) wd M := by
  obtain ⟨h0, h1, hK⟩ := okp_bnd hK
  exact oj_put hf hw hk hki (oc_nz h0 h1) (oc_fz h0 h1) hd (h hK)
theorem oj_iald {α : Type} {K : α → Prop} {f : Int → Option α} {o N : Nat} {NN a : Int} (hw : wd[o]? = some (.inl (false, N))) (hNN : ((N : Nat) : Int) = NN) (hd : decode mt.2.1 pc = .ok (.iaload, 1)) (hK : okp (bnd NN a f) K) (h : okp (f a) K → oJ l mt E k n (pc + 1) lv (vi (M o a) :: st) wd M) : oJ l mt E k n pc lv (vi a :: vr o :: st) wd M := by
  obtain ⟨h0, h1, hK⟩ := okp_bnd hK
  intro p e R s m args below meth c A D cI cB Z n0 ad0 ad H locs ls C hH hl hR hg hn
  have ha := hR.2.1.1
  have hkk := h hK p e R s m args below meth c A D cI cB Z n0 ad0 ad H locs ls C hH hl ⟨hR.1, ⟨hR.2.2.1 _ _, hR.2.1.2.2⟩, hR.2.2⟩ hg hn
  refine va_iald C.1 C.2.1 C.2.2.2.2.2.2.1 hH.1 o 0 (oCells_get hw) rfl (oc_in h0 (by omega) ha) hd ?_
  rw [oc_clamp h0 ha, Int.toNat_of_nonneg h0]
  exact hkk
theorem oj_bald {α : Type} {K : α → Prop} {f : Int → Option α} {o N : Nat} {NN a : Int} (hw : wd[o]? = some (.inl (true, N))) (hNN : ((N : Nat) : Int) = NN) (hd : decode mt.2.1 pc = .ok (.baload, 1)) (hK : okp (bnd NN a f) K) (h : okp (f a) K → oJ l mt E k n (pc + 1) lv (vi (M o a) :: st) wd M) : oJ l mt E k n pc lv (vi a :: vr o :: st) wd M := by
  obtain ⟨h0, h1, hK⟩ := okp_bnd hK
  intro p e R s m args below meth c A D cI cB Z n0 ad0 ad H locs ls C hH hl hR hg hn
  have ha := hR.2.1.1
  have hkk := h hK p e R s m args below meth c A D cI cB Z n0 ad0 ad H locs ls C hH hl ⟨hR.1, ⟨hR.2.2.1 _ _, hR.2.1.2.2⟩, hR.2.2⟩ hg hn
  refine va_bald C.1 C.2.1 C.2.2.2.2.2.2.1 hH.1 o 1 (oCells_get hw) rfl (oc_in h0 (by omega) ha) hd ?_
  rw [oc_clamp h0 ha, Int.toNat_of_nonneg h0]
  exact hkk
theorem oA_set {M : oM} {o : Nat} {a v : Int} (h0 : 0 ≤ a) : upd (fun q : Nat => Int32.ofInt (M o q)) a.toNat (Int32.ofInt v) = fun q : Nat => Int32.ofInt ((oU M o a v) o q) := by
  funext q
  unfold upd oU
  by_cases hq : q = a.toNat
  · rw [if_pos hq, if_pos ⟨rfl, by omega⟩]
  · rw [if_neg hq, if_neg (fun z => hq (by omega))]
theorem oj_iast {α : Type} {K : α → Prop} {f : Int → Option α} {o N : Nat} {NN a v : Int} (hw : wd[o]? = some (.inl (false, N))) (hNN : ((N : Nat) : Int) = NN) (hd : decode mt.2.1 pc = .ok (.iastore, 1)) (hK : okp (bnd NN a f) K) (h : okp (f a) K → oJ l mt E k n (pc + 1) lv st wd (oU M o a v)) : oJ l mt E k n pc lv (vi v :: vi a :: vr o :: st) wd M := by
  obtain ⟨h0, h1, hK⟩ := okp_bnd hK
  intro p e R s m args below meth c A D cI cB Z n0 ad0 ad H locs ls C hH hl hR hg hn
  have ha := hR.2.1.2.1
  refine va_iast C.1 C.2.1 C.2.2.2.2.2.2.1 hH.1 hH.2.1 hH.2.2 o 0 (oCells_get hw) rfl (oc_in h0 (by omega) ha) hd (fun H1 locs1 h1 h2 h3 => ?_)
  have hset : (oCells ad cI cB wd M).set o (ad o, .inl (if false = true then cB else cI, N, .inl (upd (fun q : Nat => Int32.ofInt (M o q)) (Int32.ofInt a).toNatClampNeg (Int32.ofInt v)))) = oCells ad cI cB wd (oU M o a v) :=
    oCells_set (M' := oU M o a v) hw (by rw [oc_clamp h0 ha, oA_set h0]; rfl) (fun o' ho => oU_ne ho)
  have h1 := hset ▸ h1
  have h2 := hset ▸ h2
  exact h hK p e R s m args below meth c A D cI cB Z n0 ad0 ad H1 locs1 ls C ⟨h1, h2, h3⟩ hl ⟨hR.1, hR.2.1.2.2.2, oU_in hR.2.2.1 hR.2.1.1, hR.2.2.2⟩ hg hn
theorem oj_bast {α : Type} {K : α → Prop} {f : Int → Option α} {o N : Nat} {NN a v : Int} (hw : wd[o]? = some (.inl (true, N))) (hNN : ((N : Nat) : Int) = NN) (hd : decode mt.2.1 pc = .ok (.bastore, 1)) (hK : okp (bnd NN a f) K) (h : okp (f a) K → oJ l mt E k n (pc + 1) lv st wd (oU M o a (i2b v))) : oJ l mt E k n pc lv (vi v :: vi a :: vr o :: st) wd M := by
  obtain ⟨h0, h1, hK⟩ := okp_bnd hK
  intro p e R s m args below meth c A D cI cB Z n0 ad0 ad H locs ls C hH hl hR hg hn
  have ha := hR.2.1.2.1
  refine va_bast C.1 C.2.1 C.2.2.2.2.2.2.1 hH.1 hH.2.1 hH.2.2 o 1 (oCells_get hw) rfl (oc_in h0 (by omega) ha) hd (fun H1 locs1 h1 h2 h3 => ?_)
  have hset : (oCells ad cI cB wd M).set o (ad o, .inl (if true = true then cB else cI, N, .inl (upd (fun q : Nat => Int32.ofInt (M o q)) (Int32.ofInt a).toNatClampNeg (vp_nar .byte (Int32.ofInt v))))) = oCells ad cI cB wd (oU M o a (i2b v)) :=
    oCells_set (M' := oU M o a (i2b v)) hw (by rw [oc_clamp h0 ha, vp_nar_byte, show (Int32.ofInt v).toInt8.toInt32 = Int32.ofInt (i2b v) from by unfold i2b; rw [Int32.ofInt_toInt], oA_set h0]; rfl) (fun o' ho => oU_ne ho)
  have h1 := hset ▸ h1
  have h2 := hset ▸ h2
  exact h hK p e R s m args below meth c A D cI cB Z n0 ad0 ad H1 locs1 ls C ⟨h1, h2, h3⟩ hl ⟨hR.1, hR.2.1.2.2.2, oU_in hR.2.2.1 (inR_toInt _), hR.2.2.2⟩ hg hn
theorem oj_alen {o N : Nat} {b : Bool} {NN : Int} (hw : wd[o]? = some (.inl (b, N))) (hNN : ((N : Nat) : Int) = NN) (hN : NN < 2147483648) (hd : decode mt.2.1 pc = .ok (.arraylength, 1)) (h : oJ l mt E k n (pc + 1) lv (vi NN :: st) wd M) : oJ l mt E k n pc lv (vr o :: st) wd M := by
  intro p e R s m args below meth c A D cI cB Z n0 ad0 ad H locs ls C hH hl hR hg hn
  have hkk := h p e R s m args below meth c A D cI cB Z n0 ad0 ad H locs ls C hH hl ⟨hR.1, ⟨⟨by omega, hN⟩, hR.2.1.2⟩, hR.2.2⟩ hg hn
  cases b with
  | false => exact va_alen C.1 C.2.1 C.2.2.2.2.2.2.1 hH.1 o 0 (oCells_get hw) rfl (by show Int32.ofNat N = Int32.ofInt NN; rw [← hNN, Int32.ofInt_eq_ofNat]) hd hkk
  | true => exact va_alen C.1 C.2.1 C.2.2.2.2.2.2.1 hH.1 o 1 (oCells_get hw) rfl (by show Int32.ofNat N = Int32.ofInt NN; rw [← hNN, Int32.ofInt_eq_ofNat]) hd hkk
theorem oj_iret {r : Int} {ty : FieldType} (hd : decode mt.2.1 pc = .ok (.ireturn, 1)) (hr : mt.2.2.2 = some ty) (hn : narrow ty (.int (Int32.ofInt r)) = .int (Int32.ofInt r)) (hk : k ≤ E.2.1) (hn' : n ≤ E.2.2.1) (hq : E.2.2.2.2 r wd M) : oJ l mt E k n pc lv [vi r] wd M := by
  intro p e R s m args below meth c A D cI cB Z n0 ad0 ad H locs ls C hH hl hR hg hnn
  refine W.widen hk hn' ?_
  exact ((C.2.2.2.2.2.2.2.2.2.2.2) r wd M ad H locs pc ls hq hH ⟨trivial, trivial, hR.2.2⟩ hg hnn).2 ty hr hR.2.1.1 hn hd
theorem oj_zret {α : Type} {K : α → Prop} {f : Int → Option α} {r : Int} (hd : decode mt.2.1 pc = .ok (.ireturn, 1)) (hr : mt.2.2.2 = some .boolean) (hk : k ≤ E.2.1) (hn' : n ≤ E.2.2.1) (hK : okp (bnd 2 r f) K) (hq : okp (f r) K → E.2.2.2.2 r wd M) : oJ l mt E k n pc lv [vi r] wd M := by
  obtain ⟨h0, h1, hK⟩ := okp_bnd hK
  exact oj_iret hd hr (oc_nz h0 h1) hk hn' (hq hK)
theorem oj_vret (hd : decode mt.2.1 pc = .ok (.return_, 1)) (hr : mt.2.2.2 = none) (hk : k ≤ E.2.1) (hn' : n ≤ E.2.2.1) (hq : E.2.2.2.2 0 wd M) : oJ l mt E k n pc lv [] wd M := by
  intro p e R s m args below meth c A D cI cB Z n0 ad0 ad H locs ls C hH hl hR hg hnn
  refine W.widen hk hn' ?_
  exact ((C.2.2.2.2.2.2.2.2.2.2.2) 0 wd M ad H locs pc ls hq hH ⟨trivial, trivial, hR.2.2⟩ hg hnn).1 hr rfl hd
end HEAP
end
section
/-! contracts over oJ, calls -/
def oWs (mt : oMI) : List Cond := Cond.code mt.1 mt.2.1 mt.2.2.1 mt.2.2.2 :: oT
def oRm (d mc ms : Nat) : Room := { frames := d, cells := mc, slots := ms, locals := 100 * d }
abbrev oS : Type := Int × oW × oM × (Nat → Nat)
def oBs (D : va_G) (cI cB : ClassId) (A1 : Nat → Prop) (u : oS) (t : State) : Prop := va_P D vwCl (oCells u.2.2.2 cI cB u.2.1 u.2.2.1) t.heap ∧ va_K D vwCl (oTy cI cB) t ∧ va_D A1 (oCells u.2.2.2 cI cB u.2.1 u.2.2.1)
def oPo (wd : oW) (ad : Nat → Nat) (Q : Int → oW → oM → Prop) (r : Int) (u : oS) : Prop := inR r ∧ Q r u.2.1 u.2.2.1 ∧ oRg u.2.1 [] [] u.2.2.1 ∧ oAg wd.length ad u.2.2.2 ∧ wd.length ≤ u.2.1.length
def oPre (D : va_G) (cI cB : ClassId) (wd : oW) (M : oM) (ad : Nat → Nat) (sz : Nat) (U : State) : Prop := U.heap.size = sz ∧ va_P D vwCl (oCells ad cI cB wd M) U.heap ∧ va_K D vwCl (oTy cI cB) U ∧ va_D (fun _ => True) (oCells ad cI cB wd M) ∧ oOut ad (va_A (oCells ad cI cB wd M) sz) U U.heap
/-- a method's contract: from these arguments and this memory it returns as Q says -/
def oK (l : Launch) (mt : oMI) (d mc ms : Nat) (as : List oV) (wd : oW) (M : oM) (Q : Int → oW → oM → Prop) : Prop :=
  ∀ (D : va_G) (cI cB : ClassId) (ad : Nat → Nat) (sz : Nat), oRg wd [] as M →
    (mt.2.2.2 = none → Met l mt.1 (oWs mt) (oRm d mc ms) (va_Pc (as.map (rlv ad)) (oPre D cI cB wd M ad sz)) (va_Qv (fun u : oS => oPo wd ad Q 0 u) (oBs D cI cB (va_A (oCells ad cI cB wd M) sz)) (va_A (oCells ad cI cB wd M) sz)) mc ms (va_A (oCells ad cI cB wd M) sz)) ∧
    (∀ ty, mt.2.2.2 = some ty → Met l mt.1 (oWs mt) (oRm d mc ms) (va_Pc (as.map (rlv ad)) (oPre D cI cB wd M ad sz)) (va_Qi (fun (r : Int32) (u : oS) => r = Int32.ofInt u.1 ∧ oPo wd ad Q u.1 u) (oBs D cI cB (va_A (oCells ad cI cB wd M) sz)) (va_A (oCells ad cI cB wd M) sz)) mc ms (va_A (oCells ad cI cB wd M) sz))
theorem oN_entry {as : List oV} {n k : Nat} (h : oN (as ++ List.replicate n vu) k ≠ vu) : ∃ v, as[k]? = some v ∧ oN (as ++ List.replicate n vu) k = v := by
  induction as generalizing k with
  | nil =>
    exfalso
    apply h
    induction n generalizing k with
    | zero => cases k <;> rfl
    | succ n ih =>
      cases k with
      | zero => rfl
      | succ k => exact Classical.byContradiction fun q => ih (k := k) (fun z => q z) |> fun z => q z
  | cons v l ih =>
    cases k with
    | zero => exact ⟨v, rfl, rfl⟩
    | succ k => exact ih h
theorem lg_sl_1 {vs : List Value} (h : ∀ v ∈ vs, v.category = 1) : lg_sl vs = vs.map Slot.val := by
  induction vs with
  | nil => rfl
  | cons v l ih =>
    have h1 := h v List.mem_cons_self
    unfold lg_sl at ih ⊢
    rw [List.flatMap_cons, ih (fun w hw => h w (List.mem_cons_of_mem _ hw)), if_neg (by omega)]
    rfl
theorem oLv_entry {ad : Nat → Nat} {as : List oV} {nL : Nat} (h : as.length ≤ nL) : oLv ad (as ++ List.replicate (nL - as.length) vu) ((lg_sl (as.map (rlv ad)) ++ List.replicate (nL - (lg_sl (as.map (rlv ad))).length) Slot.unset).toArray) nL := by
  have hs : lg_sl (as.map (rlv ad)) = (as.map (rlv ad)).map Slot.val := lg_sl_1 (fun v hv => by
    obtain ⟨w, -, rfl⟩ := List.mem_map.mp hv
    exact rlv_cat w)
  have hlen : (lg_sl (as.map (rlv ad))).length = as.length := by rw [hs]; simp
  obtain ⟨h1, h2, h3⟩ := lv_entry (as.map (rlv ad)) (n := nL) (by omega)
  refine ⟨h1, h2, fun k hk => ?_⟩
  obtain ⟨v, hv, he⟩ := oN_entry hk
  rw [he, hs, List.getElem?_toArray, List.getElem?_append_left (by simpa using (List.getElem?_eq_some_iff.mp hv).1), List.getElem?_map, List.getElem?_map, hv]
  rfl
theorem oOut_to {ad : Nat → Nat} {A A1 : Nat → Prop} {s U : State} {H : Heap} {locs : List Loc} (hW : s.WarmedH U.vm) (hU : U.heap = H) (h : oOut ad A s s.heap) (hS : va_S A s.heap H locs) (hAA : ∀ q, A1 q → A q) : oOut ad A1 U U.heap := by
  rw [hU]
  refine ⟨((h.1.kept hS.2.1).narrow hAA).moved hW.alike, vk_R.warm hW h.2.1, ((h.2.2.1.kept hS.2.1).narrow hAA).moved hW.alike, fun w hw => ?_⟩
  have h1 := h.2.2.2 w hw
  have h2 := (List.mem_filter.mp hw).2
  cases w <;> first | (exact absurd h2 (by decide)) | exact va_Nw.warmF hW h1 | exact va_Nw.warmM hW h1 | (simp [oIsN] at h2)
theorem oOut_calling {ad : Nat → Nat} {A : Nat → Prop} {U : State} {g : JFrame} {mk : MethodId} {a : Array Value} (h : oOut ad A U U.heap) : oOut ad A (U.calling g mk a) (U.calling g mk a).heap :=
  ⟨h.1.moved (u := U) (U := U.calling g mk a) (Vm.Alike.refl U.vm), vk_R.same (u := U) rfl h.2.1, h.2.2.1.moved (u := U) (U := U.calling g mk a) (Vm.Alike.refl U.vm), fun w hw => by
    have h1 := h.2.2.2 w hw
    have h2 := (List.mem_filter.mp hw).2
    refine va_Nw.same (u := U) ?_ rfl h1
    cases w <;> first | rfl | (simp [oIsN] at h2)⟩
theorem oPre_blind {D : va_G} {cI cB : ClassId} {wd : oW} {M : oM} {ad : Nat → Nat} {sz : Nat} {as : List Value} : FrameBlind (va_Pc as (oPre D cI cB wd M ad sz)) :=
  fun a U g mk q => ⟨q.1, q.2.1, q.2.2.1, va_K.moved (u := U) (U := U.calling g mk a) (Vm.Alike.refl U.vm) q.2.2.2.1, q.2.2.2.2.1, oOut_calling q.2.2.2.2.2⟩
theorem oK_intro {l : Launch} {mt : oMI} {d mc ms : Nat} {as lv : List oV} {wd : oW} {M : oM} {Q : Int → oW → oM → Prop} (hpl : plainName mt.1.cls = true) (hlen : as.length ≤ mt.2.2.1) (hlv : as ++ List.replicate (mt.2.2.1 - as.length) vu = lv) (h : oJ l mt (d, mc, ms, none, Q) 0 0 0 lv [] wd M) : oK l mt d mc ms as wd M Q := by
  subst hlv
  intro D cI cB ad sz hRg
  have hrg' : oRg wd (as ++ List.replicate (mt.2.2.1 - as.length) vu) [] M := ⟨oks_app hRg.2.1 oks_rep, trivial, hRg.2.2⟩
  have core : ∀ (Qc : Array Value → State → Outcome → State → Prop),
      (∀ (p : Program) (e : Env) (s : State) (m : MethodId) (below : List Frame) (meth : Method) (c : Code), p.tables.exec = Jvm.exec → c.code = mt.2.1 → meth.sig.returnType = mt.2.2.2 → meth.locks = false → s.heap.size = sz → va_K D vwCl (oTy cI cB) s →
        oRet mt (d, mc, ms, none, Q) p l e (oRm d mc ms) s m (as.map (rlv ad)).toArray below meth c (va_A (oCells ad cI cB wd M) sz) D cI cB (MQ below Qc (as.map (rlv ad)).toArray s mc ms (va_A (oCells ad cI cB wd M) sz)) wd.length ad) →
      Met l mt.1 (oWs mt) (oRm d mc ms) (va_Pc (as.map (rlv ad)) (oPre D cI cB wd M ad sz)) Qc mc ms (va_A (oCells ad cI cB wd M) sz) := by
    intro Qc hret
    refine Met.ofW (cc := mt.2.1) (maxL := mt.2.2.1) (ret := mt.2.2.2) hpl rfl ?_
    intro p e s m args below meth c s₁ B hml hv
    obtain ⟨rfl, hsz, hP, hK, hD0, hO⟩ := hv
    have hts0 := atoms_spec (ws := oWs mt) B.pre
    have hts : ∀ w ∈ oT, w.before (as.map (rlv ad)).toArray s = true := fun w hw => hts0 w (List.mem_cons_of_mem _ hw)
    have hown : s.vm.findClass mt.1.cls = some m.cls := findClass_of_methodNamed B.named
    have hnm : meth.name = mt.1.name := (name_of_methodNamed B.named B.method).1
    rw [lg_entry_eq]
    refine h p e (oRm d mc ms) s m _ below meth c (va_A (oCells ad cI cB wd M) sz) D cI cB _ wd.length ad ad s.heap [] _ ⟨B.exec, B.bytes, hml, hown, hts, ⟨Nat.le_refl _, Nat.le_refl _, Nat.le_refl _, Nat.le_refl _⟩, hK, fun q hq => Or.inr (by omega), hO, (fun L xs hx => by cases hx), hnm, hret p e s m below meth c B.exec B.bytes B.returns B.notSynchronized hsz hK⟩ ⟨hP, hD0.self (sz := sz), va_S.rf⟩ (oLv_entry hlen) hrg' (fun o _ => rfl) (Nat.le_refl _)
  refine ⟨fun hn => core _ ?_, fun ty hty => core _ ?_⟩
  · intro p e s m below meth c hx hb hr hlk hsz hKs r wd' M' ad' H locs pc ls hq hH hR hag hle
    refine ⟨fun _ hr0 hd => W.vret hx hb (hr.trans hn) (fun t ht hW => ⟨⟨(0, wd', M', ad'), rfl, ⟨inR_0, by rw [hr0] at hq; exact hq, hR, hag, hle⟩, by rw [ht]; exact hH.1, va_K.moved hW.alike hKs, hH.2.1⟩, hH.2.2.F ht⟩) hH.2.2.2.2 hd hlk, fun ty hty => ?_⟩
    rw [hn] at hty
    cases hty
  · intro p e s m below meth c hx hb hr hlk hsz hKs r wd' M' ad' H locs pc ls hq hH hR hag hle
    refine ⟨fun hn => ?_, fun ty' hty' hr0 hnr hd => W.zret hx hb (hr.trans hty') hnr (fun t ht hW => ⟨⟨Int32.ofInt r, (r, wd', M', ad'), rfl, ⟨rfl, hr0, hq, hR, hag, hle⟩, by rw [ht]; exact hH.1, va_K.moved hW.alike hKs, hH.2.1⟩, hH.2.2.F ht⟩) hH.2.2.2.2 hd hlk⟩
    rw [hn] at hty
    cases hty
/-- the callee's part lies in the caller's -/
theorem oA_in {A : Nat → Prop} {D : va_G} {ad : Nat → Nat} {cI cB : ClassId} {wd : oW} {M : oM} {s : State} {H : Heap} {locs : List Loc} (hH : oHp A D ad cI cB wd M s H locs) (hA : ∀ q, s.heap.size ≤ q → A q) : ∀ q, va_A (oCells ad cI cB wd M) H.size q → A q := by
  intro q hq
  rcases hq with ⟨k, e, hq⟩ | hq
  · exact hH.2.1.2 k (q, e) hq
  · exact hA q (Nat.le_trans hH.2.2.1 hq)
theorem oPre_of {U s : State} {A : Nat → Prop} {D : va_G} {ad : Nat → Nat} {cI cB : ClassId} {wd : oW} {M : oM} {H : Heap} {locs : List Loc} (hU : U.heap = H) (hW : s.WarmedH U.vm) (hH : oHp A D ad cI cB wd M s H locs) (hK : va_K D vwCl (oTy cI cB) s) (hA : ∀ q, s.heap.size ≤ q → A q) (hO : oOut ad A s s.heap) : oPre D cI cB wd M ad H.size U :=
  ⟨by rw [hU], by rw [hU]; exact hH.1, va_K.moved hW.alike hK, hH.2.1.weaken (fun _ _ _ _ => trivial), oOut_to hW hU hO hH.2.2 (oA_in hH hA)⟩
theorem oOut_ag {ad ad0 : Nat → Nat} {n0 : Nat} {A : Nat → Prop} {U : State} {H : Heap} (hg : oAg n0 ad0 ad) (h : oOut ad0 A U H) : oOut ad A U H := by
  unfold oOut at h ⊢
  rw [hg 1000 (Or.inr (Nat.le_refl _)), hg 1001 (Or.inr (by omega))]
  exact h
theorem oLv_ag {ad ad' : Nat → Nat} {len nL : Nat} {lv : List oV} {ls : Array Slot} (hag : ∀ o, o < len ∨ 1000 ≤ o → ad' o = ad o) (hv : oks len lv) (h : oLv ad lv ls nL) : oLv ad' lv ls nL :=
  ⟨h.1, h.2.1, fun k hk => by rw [rlv_agree hag (oks_N k hv)]; exact h.2.2 k hk⟩
theorem oSt_sum {ad : Nat → Nat} {st : List oV} : ((st.map (rlv ad)).map fun v => v.category).sum = st.length := by
  induction st with
  | nil => rfl
  | cons v l ih =>
    rw [List.map_cons, List.map_cons, List.sum_cons, ih, rlv_cat, List.length_cons]
    omega
section CALLS
variable {l : Launch} {mt : oMI} {E : oE} {k n pc : Nat} {lv st st0 : List oV} {wd : oW} {M : oM}
theorem oj_runi {mc' ms' : Nat} {Qc : Int → oW → oM → Prop} (hst : ∀ len, oks len st0 → oks len st)
    (hr : ∀ (p : Program) (e : Env) (R : Room) (s : State) (m : MethodId) (args : Array Value) (below : List Frame) (meth : Method) (c : Code) (A : Nat → Prop) (D : va_G) (cI cB : ClassId) (Z : State → Prop) (n0 : Nat) (ad0 ad : Nat → Nat) (H : Heap) (locs : List Loc) (ls : Array Slot),
      oCtx mt E p l e R s m args below meth c A D cI cB Z n0 ad0 → oHp A D ad cI cB wd M s H locs → oLv ad lv ls mt.2.2.1 → oRg wd lv st0 M → oAg n0 ad0 ad →
      ∃ a, va_Run p l e R s m args below meth c H locs k n mc' ms' (F0 m pc ls (st0.map (rlv ad))) (st.map (rlv ad)) (va_Qi (fun (r : Int32) (u : oS) => r = Int32.ofInt u.1 ∧ oPo wd ad Qc u.1 u) (oBs D cI cB (va_A (oCells ad cI cB wd M) H.size)) (va_A (oCells ad cI cB wd M) H.size) a) (va_A (oCells ad cI cB wd M) H.size))
    (h : ∀ r wd' M', Qc r wd' M' → oJ l mt E (k + mc') (n + ms') (pc + 3) lv (vi r :: st) wd' M') : oJ l mt E k n pc lv st0 wd M := by
  intro p e R s m args below meth c A D cI cB Z n0 ad0 ad H locs ls C hH hl hR hg hn
  obtain ⟨a, hrun⟩ := hr p e R s m args below meth c A D cI cB Z n0 ad0 ad H locs ls C hH hl hR hg
  have hAi := oA_in hH C.2.2.2.2.2.2.2.1
  refine va_calli hrun hH.2.2 (fun q _ hq => hAi q hq) hAi (fun r u t H1 locs1 ht hvm hw hB hz hk hS1 => ?_)
  obtain ⟨rfl, hr1, hq, hRg', hag', hle'⟩ := hw
  obtain ⟨hP1, hK1, hD1⟩ := hB
  rw [ht] at hP1
  have hs := hst _ hR.2.1
  have key := h u.1 u.2.1 u.2.2.1 hq p e R s m args below meth c A D cI cB Z n0 ad0 u.2.2.2 H1 locs1 ls C ⟨hP1, hD1.weaken (fun _ q _ hq => hAi q.1 hq), hS1⟩ (oLv_ag hag' hR.1 hl) ⟨oks_mono hle' hR.1, ⟨hr1, oks_mono hle' hs⟩, hRg'.2.2⟩ (fun o ho => by rw [hag' o (ho.elim (fun z => Or.inl (Nat.lt_of_lt_of_le z hn)) Or.inr), hg o ho]) (Nat.le_trans hn hle')
  rw [List.map_cons, rlv_agrees hag' hs] at key
  exact key
theorem oj_runv {mc' ms' : Nat} {Qc : Int → oW → oM → Prop} (hst : ∀ len, oks len st0 → oks len st)
    (hr : ∀ (p : Program) (e : Env) (R : Room) (s : State) (m : MethodId) (args : Array Value) (below : List Frame) (meth : Method) (c : Code) (A : Nat → Prop) (D : va_G) (cI cB : ClassId) (Z : State → Prop) (n0 : Nat) (ad0 ad : Nat → Nat) (H : Heap) (locs : List Loc) (ls : Array Slot),
      oCtx mt E p l e R s m args below meth c A D cI cB Z n0 ad0 → oHp A D ad cI cB wd M s H locs → oLv ad lv ls mt.2.2.1 → oRg wd lv st0 M → oAg n0 ad0 ad →
      ∃ a, va_Run p l e R s m args below meth c H locs k n mc' ms' (F0 m pc ls (st0.map (rlv ad))) (st.map (rlv ad)) (va_Qv (fun (u : oS) => oPo wd ad Qc 0 u) (oBs D cI cB (va_A (oCells ad cI cB wd M) H.size)) (va_A (oCells ad cI cB wd M) H.size) a) (va_A (oCells ad cI cB wd M) H.size))
    (h : ∀ wd' M', Qc 0 wd' M' → oJ l mt E (k + mc') (n + ms') (pc + 3) lv st wd' M') : oJ l mt E k n pc lv st0 wd M := by
  intro p e R s m args below meth c A D cI cB Z n0 ad0 ad H locs ls C hH hl hR hg hn
  obtain ⟨a, hrun⟩ := hr p e R s m args below meth c A D cI cB Z n0 ad0 ad H locs ls C hH hl hR hg
  have hAi := oA_in hH C.2.2.2.2.2.2.2.1
  refine va_callv hrun hH.2.2 (fun q _ hq => hAi q hq) hAi (fun u t H1 locs1 ht hvm hw hB hz hk hS1 => ?_)
  obtain ⟨hr1, hq, hRg', hag', hle'⟩ := hw
  obtain ⟨hP1, hK1, hD1⟩ := hB
  rw [ht] at hP1
  have hs := hst _ hR.2.1
  have key := h u.2.1 u.2.2.1 hq p e R s m args below meth c A D cI cB Z n0 ad0 u.2.2.2 H1 locs1 ls C ⟨hP1, hD1.weaken (fun _ q _ hq => hAi q.1 hq), hS1⟩ (oLv_ag hag' hR.1 hl) ⟨oks_mono hle' hR.1, oks_mono hle' hs, hRg'.2.2⟩ (fun o ho => by rw [hag' o (ho.elim (fun z => Or.inl (Nat.lt_of_lt_of_le z hn)) Or.inr), hg o ho]) (Nat.le_trans hn hle')
  rw [rlv_agrees hag' hs] at key
  exact key
end CALLS
end
section
/-! the kinds of calls -/
theorem oks_rev {len : Nat} {l : List oV} (h : oks len l.reverse) : oks len l := by
  induction l with
  | nil => trivial
  | cons v l ih =>
    rw [List.reverse_cons] at h
    exact ⟨(oks_app2 h).1, ih (oks_app1 h)⟩
def oCo (y : oMI) (np : Nat) : Prop := Cond.code y.1 y.2.1 y.2.2.1 y.2.2.2 ∈ oT ∧ Cond.initialized y.1.cls ∈ oT ∧ (y.1.cls ≠ "java/lang/invoke/MethodHandle" ∧ y.1.cls ≠ "java/lang/invoke/VarHandle" ∧ (parseMethodDescriptor y.1.desc).map (fun d => d.parameters.length) = some np) ∧ y.2.2.1 ≤ 80
def oLk (own : String) (idx : Nat) (y : oMI) : Prop := Cond.methodLink own idx y.1 ∈ oT ∨ ∃ host, Cond.methodLinkNest own idx y.1 host ∈ oTN
def oClV (own : String) (idx : Nat) (y : oMI) (np ci : Nat) : Prop := oLk own idx y ∧ Cond.instanceMethod y.1 ∈ oT ∧ Cond.selects y.1.cls y.1 y.1 ∈ oT ∧ oCo y np ∧ ∃ q : vw_C, vwCl[ci]? = some q ∧ q.1 = y.1.cls
def oClS (own : String) (idx : Nat) (y : oMI) (np : Nat) : Prop := oLk own idx y ∧ Cond.static y.1 ∈ oT ∧ oCo y np
def oClI (own : String) (idx : Nat) (y : oMI) (np : Nat) : Prop := oLk own idx y ∧ Cond.instanceMethod y.1 ∈ oT ∧ oCo y np ∧ y.1.name = "<init>" ∧ y.2.2.2 = none
section KINDS
variable {l : Launch} {mt : oMI} {E : oE} {k n pc : Nat} {lv st st0 : List oV} {wd : oW} {M : oM}
theorem oWs_good {y : oMI} {np : Nat} (hc : oCo y np) : GoodIn oT (oWs y) := oT_good (fun w hw => by
  rcases List.mem_cons.mp hw with h | h
  · rw [h]; exact hc.1
  · exact h)
theorem oRm_fits {d' dE mc' ms' L : Nat} {R : Room} (hR : dE ≤ R.frames ∧ 100 * dE ≤ R.locals) (hd : d' + 1 ≤ dE) (hL : L ≤ 80) : (oRm d' mc' ms').frames + 1 ≤ R.frames ∧ 8 + (L + 11) + (oRm d' mc' ms').locals ≤ R.locals := by
  show d' + 1 ≤ R.frames ∧ 8 + (L + 11) + 100 * d' ≤ R.locals
  omega
theorem oCellsRoom {k n mc' ms' : Nat} {R : Room} {d mc ms : Nat} (hR : d ≤ R.frames ∧ 100 * d ≤ R.locals ∧ mc ≤ R.cells ∧ ms ≤ R.slots) (h1 : k + mc' ≤ mc) (h2 : n + ms' ≤ ms) : k + mc' ≤ R.cells ∧ n + ms' ≤ R.slots := by omega
theorem oj_V {y : oMI} {d' mc' ms' np idx ci o : Nat} {as : List oV} {fs : List (Option (Option Nat))} {Qc : Int → oW → oM → Prop} (hv : oClV mt.1.cls idx y np ci) (hw : wd[o]? = some (.inr (ci, fs))) (hst : st0 = as.reverse ++ vr o :: st) (has : as.length = np) (hsl : st.length ≤ 8) (hd : decode mt.2.1 pc = .ok (.invokevirtual idx, 3)) (hdep : d' + 1 ≤ E.1) (hk1 : k + mc' ≤ E.2.1) (hk2 : n + ms' ≤ E.2.2.1) (hK : oK l y d' mc' ms' (vr o :: as) wd M Qc) :
    (∀ ty, y.2.2.2 = some ty → (∀ r wd' M', Qc r wd' M' → oJ l mt E (k + mc') (n + ms') (pc + 3) lv (vi r :: st) wd' M') → oJ l mt E k n pc lv st0 wd M) ∧ (y.2.2.2 = none → (∀ wd' M', Qc 0 wd' M' → oJ l mt E (k + mc') (n + ms') (pc + 3) lv st wd' M') → oJ l mt E k n pc lv st0 wd M) := by
  obtain ⟨hlk, hin, hse, hc, q, hq, hqn⟩ := hv
  subst hst
  have hos : ∀ len, oks len (as.reverse ++ vr o :: st) → oks len st := fun len h => (oks_app2 h).2
  have hoa : ∀ len, oks len (as.reverse ++ vr o :: st) → oks len (vr o :: as) := fun len h => ⟨(oks_app2 h).1, oks_rev (oks_app1 h)⟩
  have run : ∀ (p : Program) (e : Env) (R : Room) (s : State) (m : MethodId) (args : Array Value) (below : List Frame) (meth : Method) (c : Code) (A : Nat → Prop) (D : va_G) (cI cB : ClassId) (Z : State → Prop) (n0 : Nat) (ad0 ad : Nat → Nat) (H : Heap) (locs : List Loc) (ls : Array Slot) (Qx : Array Value → State → Outcome → State → Prop),
      oCtx mt E p l e R s m args below meth c A D cI cB Z n0 ad0 → oHp A D ad cI cB wd M s H locs → oLv ad lv ls mt.2.2.1 → oAg n0 ad0 ad →
      Met l y.1 (oWs y) (oRm d' mc' ms') (va_Pc ((vr o :: as).map (rlv ad)) (oPre D cI cB wd M ad H.size)) Qx mc' ms' (va_A (oCells ad cI cB wd M) H.size) →
      va_Run p l e R s m args below meth c H locs k n mc' ms' (F0 m pc ls ((as.reverse ++ vr o :: st).map (rlv ad))) (st.map (rlv ad)) (Qx (Value.ref (ad o) :: as.map (rlv ad)).toArray) (va_A (oCells ad cI cB wd M) H.size) := by
    intro p e R s m args below meth c A D cI cB Z n0 ad0 ad H locs ls Qx C hH hl hg hM
    have hts := C.2.2.2.2.1
    have hpv : PreV s H y.1.cls (ad o) (va_Pc ((vr o :: as).map (rlv ad)) (oPre D cI cB wd M ad H.size)) (as.map (rlv ad)) :=
      ⟨oPre_blind, by have h9 := va_recv C.2.2.2.2.2.2.1 hH.1 hq (oCells_get hw); rw [hqn] at h9; exact h9, fun U hU hW => ⟨rfl, oPre_of hU hW hH C.2.2.2.2.2.2.1 C.2.2.2.2.2.2.2.1 (oOut_ag hg C.2.2.2.2.2.2.2.2.1)⟩⟩
    have hsk : (F0 m pc ls ((as.reverse ++ vr o :: st).map (rlv ad))).stack = (as.map (rlv ad)).reverse ++ .ref (ad o) :: st.map (rlv ad) := by
      show (as.reverse ++ vr o :: st).map (rlv ad) = _
      rw [List.map_append, List.map_reverse]; rfl
    have hW8 : 2 * (F0 m pc ls ((as.reverse ++ vr o :: st).map (rlv ad))).monitorRoom + ((st.map (rlv ad)).map fun v => v.category).sum ≤ 8 := by
      rw [oSt_sum]; show 2 * 0 + _ ≤ 8; omega
    rcases hlk with hlk | ⟨host, hlk⟩
    · exact va_runV (As := as.map (rlv ad)) ⟨C.1, C.2.1, C.2.2.1, C.2.2.2.1, hts⟩ hM ⟨callB_of np hts (oWs_good hc) rfl rfl rfl (hts _ hc.2.1) (hts _ hlk) hc.2.2.1 (oRm_fits ⟨C.2.2.2.2.2.1.1, C.2.2.2.2.2.1.2.1⟩ hdep hc.2.2.2), hts _ hin, hts _ hse⟩ hpv rfl (by rw [List.length_map, has]) hl.1 hsk hW8 hd (oCellsRoom C.2.2.2.2.2.1 hk1 hk2)
    · exact va_runVN (As := as.map (rlv ad)) ⟨C.1, C.2.1, C.2.2.1, C.2.2.2.1, hts⟩ hM ⟨va_cnB np hts (oWs_good hc) rfl rfl rfl (C.2.2.2.2.2.2.2.2.1.2.2.2 _ hlk) (hts _ hc.2.1) hc.2.2.1 (oRm_fits ⟨C.2.2.2.2.2.1.1, C.2.2.2.2.2.1.2.1⟩ hdep hc.2.2.2), hts _ hin, hts _ hse⟩ hpv rfl (by rw [List.length_map, has]) hl.1 hsk hW8 hd (oCellsRoom C.2.2.2.2.2.1 hk1 hk2)
  refine ⟨fun ty hty h => oj_runi hos (fun p e R s m args below meth c A D cI cB Z n0 ad0 ad H locs ls C hH hl hR hg => ?_) h, fun hty h => oj_runv hos (fun p e R s m args below meth c A D cI cB Z n0 ad0 ad H locs ls C hH hl hR hg => ?_) h⟩
  · exact ⟨_, run p e R s m args below meth c A D cI cB Z n0 ad0 ad H locs ls _ C hH hl hg ((hK D cI cB ad H.size ⟨trivial, hoa _ hR.2.1, hR.2.2⟩).2 ty hty)⟩
  · exact ⟨_, run p e R s m args below meth c A D cI cB Z n0 ad0 ad H locs ls _ C hH hl hg ((hK D cI cB ad H.size ⟨trivial, hoa _ hR.2.1, hR.2.2⟩).1 hty)⟩
theorem oj_S {y : oMI} {d' mc' ms' np idx : Nat} {as : List oV} {Qc : Int → oW → oM → Prop} (hv : oClS mt.1.cls idx y np) (hst : st0 = as.reverse ++ st) (has : as.length = np) (hsl : st.length ≤ 8) (hd : decode mt.2.1 pc = .ok (.invokestatic idx, 3)) (hdep : d' + 1 ≤ E.1) (hk1 : k + mc' ≤ E.2.1) (hk2 : n + ms' ≤ E.2.2.1) (hK : oK l y d' mc' ms' as wd M Qc) :
    (∀ ty, y.2.2.2 = some ty → (∀ r wd' M', Qc r wd' M' → oJ l mt E (k + mc') (n + ms') (pc + 3) lv (vi r :: st) wd' M') → oJ l mt E k n pc lv st0 wd M) ∧ (y.2.2.2 = none → (∀ wd' M', Qc 0 wd' M' → oJ l mt E (k + mc') (n + ms') (pc + 3) lv st wd' M') → oJ l mt E k n pc lv st0 wd M) := by
  obtain ⟨hlk, hstt, hc⟩ := hv
  subst hst
  have hos : ∀ len, oks len (as.reverse ++ st) → oks len st := fun len h => oks_app2 h
  have hoa : ∀ len, oks len (as.reverse ++ st) → oks len as := fun len h => oks_rev (oks_app1 h)
  have run : ∀ (p : Program) (e : Env) (R : Room) (s : State) (m : MethodId) (args : Array Value) (below : List Frame) (meth : Method) (c : Code) (A : Nat → Prop) (D : va_G) (cI cB : ClassId) (Z : State → Prop) (n0 : Nat) (ad0 ad : Nat → Nat) (H : Heap) (locs : List Loc) (ls : Array Slot) (Qx : Array Value → State → Outcome → State → Prop),
      oCtx mt E p l e R s m args below meth c A D cI cB Z n0 ad0 → oHp A D ad cI cB wd M s H locs → oLv ad lv ls mt.2.2.1 → oAg n0 ad0 ad →
      Met l y.1 (oWs y) (oRm d' mc' ms') (va_Pc (as.map (rlv ad)) (oPre D cI cB wd M ad H.size)) Qx mc' ms' (va_A (oCells ad cI cB wd M) H.size) →
      va_Run p l e R s m args below meth c H locs k n mc' ms' (F0 m pc ls ((as.reverse ++ st).map (rlv ad))) (st.map (rlv ad)) (Qx (as.map (rlv ad)).toArray) (va_A (oCells ad cI cB wd M) H.size) := by
    intro p e R s m args below meth c A D cI cB Z n0 ad0 ad H locs ls Qx C hH hl hg hM
    have hts := C.2.2.2.2.1
    have hpv : PreS s H (va_Pc (as.map (rlv ad)) (oPre D cI cB wd M ad H.size)) (as.map (rlv ad)) :=
      ⟨oPre_blind, fun U hU hW => ⟨rfl, oPre_of hU hW hH C.2.2.2.2.2.2.1 C.2.2.2.2.2.2.2.1 (oOut_ag hg C.2.2.2.2.2.2.2.2.1)⟩⟩
    have hsk : (F0 m pc ls ((as.reverse ++ st).map (rlv ad))).stack = (as.map (rlv ad)).reverse ++ st.map (rlv ad) := by
      show (as.reverse ++ st).map (rlv ad) = _
      rw [List.map_append, List.map_reverse]
    have hW8 : 2 * (F0 m pc ls ((as.reverse ++ st).map (rlv ad))).monitorRoom + ((st.map (rlv ad)).map fun v => v.category).sum ≤ 8 := by
      rw [oSt_sum]; show 2 * 0 + _ ≤ 8; omega
    rcases hlk with hlk | ⟨host, hlk⟩
    · exact va_runS (As := as.map (rlv ad)) ⟨C.1, C.2.1, C.2.2.1, C.2.2.2.1, hts⟩ hM ⟨callB_of np hts (oWs_good hc) rfl rfl rfl (hts _ hc.2.1) (hts _ hlk) hc.2.2.1 (oRm_fits ⟨C.2.2.2.2.2.1.1, C.2.2.2.2.2.1.2.1⟩ hdep hc.2.2.2), hts _ hstt⟩ hpv rfl (by rw [List.length_map, has]) hl.1 hsk hW8 hd (oCellsRoom C.2.2.2.2.2.1 hk1 hk2)
    · exact va_runSN (As := as.map (rlv ad)) ⟨C.1, C.2.1, C.2.2.1, C.2.2.2.1, hts⟩ hM ⟨va_cnB np hts (oWs_good hc) rfl rfl rfl (C.2.2.2.2.2.2.2.2.1.2.2.2 _ hlk) (hts _ hc.2.1) hc.2.2.1 (oRm_fits ⟨C.2.2.2.2.2.1.1, C.2.2.2.2.2.1.2.1⟩ hdep hc.2.2.2), hts _ hstt, trivial⟩ hpv rfl (by rw [List.length_map, has]) hl.1 hsk hW8 hd (oCellsRoom C.2.2.2.2.2.1 hk1 hk2)
  refine ⟨fun ty hty h => oj_runi hos (fun p e R s m args below meth c A D cI cB Z n0 ad0 ad H locs ls C hH hl hR hg => ?_) h, fun hty h => oj_runv hos (fun p e R s m args below meth c A D cI cB Z n0 ad0 ad H locs ls C hH hl hR hg => ?_) h⟩
  · exact ⟨_, run p e R s m args below meth c A D cI cB Z n0 ad0 ad H locs ls _ C hH hl hg ((hK D cI cB ad H.size ⟨trivial, hoa _ hR.2.1, hR.2.2⟩).2 ty hty)⟩
  · exact ⟨_, run p e R s m args below meth c A D cI cB Z n0 ad0 ad H locs ls _ C hH hl hg ((hK D cI cB ad H.size ⟨trivial, hoa _ hR.2.1, hR.2.2⟩).1 hty)⟩
theorem oj_I {y : oMI} {d' mc' ms' np idx o : Nat} {as : List oV} {Qc : Int → oW → oM → Prop} (hv : oClI mt.1.cls idx y np) (hst : st0 = as.reverse ++ vr o :: st) (has : as.length = np) (hsl : st.length ≤ 8) (hd : decode mt.2.1 pc = .ok (.invokespecial idx, 3)) (hdep : d' + 1 ≤ E.1) (hk1 : k + mc' ≤ E.2.1) (hk2 : n + ms' ≤ E.2.2.1) (hK : oK l y d' mc' ms' (vr o :: as) wd M Qc)
    (h : ∀ wd' M', Qc 0 wd' M' → oJ l mt E (k + mc') (n + ms') (pc + 3) lv st wd' M') : oJ l mt E k n pc lv st0 wd M := by
  obtain ⟨hlk, hin, hc, hini, hret⟩ := hv
  subst hst
  have hos : ∀ len, oks len (as.reverse ++ vr o :: st) → oks len st := fun len h => (oks_app2 h).2
  have hoa : ∀ len, oks len (as.reverse ++ vr o :: st) → oks len (vr o :: as) := fun len h => ⟨(oks_app2 h).1, oks_rev (oks_app1 h)⟩
  refine oj_runv hos (fun p e R s m args below meth c A D cI cB Z n0 ad0 ad H locs ls C hH hl hR hg => ⟨(Value.ref (ad o) :: as.map (rlv ad)).toArray, ?_⟩) h
  have hM := (hK D cI cB ad H.size ⟨trivial, hoa _ hR.2.1, hR.2.2⟩).1 hret
  have hts := C.2.2.2.2.1
  have hpv : PreS s H (va_Pc ((vr o :: as).map (rlv ad)) (oPre D cI cB wd M ad H.size)) (.ref (ad o) :: as.map (rlv ad)) :=
    ⟨oPre_blind, fun U hU hW => ⟨rfl, oPre_of hU hW hH C.2.2.2.2.2.2.1 C.2.2.2.2.2.2.2.1 (oOut_ag hg C.2.2.2.2.2.2.2.2.1)⟩⟩
  have hsk : (F0 m pc ls ((as.reverse ++ vr o :: st).map (rlv ad))).stack = (as.map (rlv ad)).reverse ++ .ref (ad o) :: st.map (rlv ad) := by
    show (as.reverse ++ vr o :: st).map (rlv ad) = _
    rw [List.map_append, List.map_reverse]; rfl
  have hW8 : 2 * (F0 m pc ls ((as.reverse ++ vr o :: st).map (rlv ad))).monitorRoom + ((st.map (rlv ad)).map fun v => v.category).sum ≤ 8 := by
    rw [oSt_sum]; show 2 * 0 + _ ≤ 8; omega
  rcases hlk with hlk | ⟨host, hlk⟩
  · exact va_runI (As := as.map (rlv ad)) ⟨C.1, C.2.1, C.2.2.1, C.2.2.2.1, hts⟩ hM ⟨callB_of np hts (oWs_good hc) (by rw [← hret]; rfl) rfl rfl (hts _ hc.2.1) (hts _ hlk) hc.2.2.1 (oRm_fits ⟨C.2.2.2.2.2.1.1, C.2.2.2.2.2.1.2.1⟩ hdep hc.2.2.2), hini, hts _ hin⟩ hpv rfl (by rw [List.length_map, has]) hl.1 hsk hW8 hd (oCellsRoom C.2.2.2.2.2.1 hk1 hk2)
  · exact va_runIN (As := as.map (rlv ad)) ⟨C.1, C.2.1, C.2.2.1, C.2.2.2.1, hts⟩ hM ⟨va_cnB np hts (oWs_good hc) (by rw [← hret]; rfl) rfl rfl (C.2.2.2.2.2.2.2.2.1.2.2.2 _ hlk) (hts _ hc.2.1) hc.2.2.1 (oRm_fits ⟨C.2.2.2.2.2.1.1, C.2.2.2.2.2.1.2.1⟩ hdep hc.2.2.2), hini, hts _ hin⟩ hpv rfl (by rw [List.length_map, has]) hl.1 hsk hW8 hd (oCellsRoom C.2.2.2.2.2.1 hk1 hk2)
end KINDS
end
section
/-! rows: new cells, constructors, copies, constants, switches, the script, the text constant -/
def oZ (M : oM) (n : Nat) : oM := fun o i => if o = n then 0 else M o i
def acopy (M : oM) (src : Nat) (sp : Int) (dst : Nat) (dp n : Int) : oM := fun o i => if o = dst ∧ dp ≤ i ∧ i < dp + n then M src (sp + (i - dp)) else M o i
def cpg {α : Type} (n0 n1 sp dp n : Int) (k : Int → Option α) : Option α := if 0 ≤ sp ∧ 0 ≤ dp ∧ 0 ≤ n ∧ sp + n ≤ n0 ∧ dp + n ≤ n1 then k 0 else none
theorem okp_cpg {α : Type} {n0 n1 sp dp n : Int} {k : Int → Option α} {K : α → Prop} (h : okp (cpg n0 n1 sp dp n k) K) : (0 ≤ sp ∧ 0 ≤ dp ∧ 0 ≤ n ∧ sp + n ≤ n0 ∧ dp + n ≤ n1) ∧ okp (k 0) K := by
  unfold cpg at h
  split at h
  · rename_i c; exact ⟨c, h⟩
  · exact h.elim
def oAd (ad : Nat → Nat) (n q : Nat) : Nat → Nat := fun o => if o = n then q else ad o
theorem oAd_ag {ad : Nat → Nat} {n q : Nat} (hn : n < 1000) : ∀ o, o < n ∨ 1000 ≤ o → oAd ad n q o = ad o := by
  intro o ho
  unfold oAd
  rw [if_neg (by omega)]
theorem oFv_ag {ad ad' : Nat → Nat} {len : Nat} {f : Int → Int} {k : Nat} (hag : ∀ o, o < len ∨ 1000 ≤ o → ad' o = ad o) {x : Option (Option Nat)} (hx : ∀ r, x = some (some r) → r < len ∨ 1000 ≤ r) : oFv ad' f k x = oFv ad f k x := by
  rcases x with _ | x
  · rfl
  · rcases x with _ | r
    · rfl
    · show Value.ref _ = Value.ref _
      rw [hag r (hx r rfl)]
theorem oCe_ag {ad ad' : Nat → Nat} {cI cB : ClassId} {len : Nat} {f : Int → Int} (hag : ∀ o, o < len ∨ 1000 ≤ o → ad' o = ad o) {sh : oSh} (hs : okSh len sh) : oCe ad' cI cB f sh = oCe ad cI cB f sh := by
  rcases sh with ⟨b, n⟩ | ⟨ci, fs⟩
  · rfl
  · show Sum.inr _ = Sum.inr _
    congr 2
    apply List.ext_getElem?
    intro i
    rw [List.getElem?_mapIdx, List.getElem?_mapIdx]
    cases hx : fs[i]? with
    | none => rfl
    | some x => exact congrArg some (oFv_ag hag (fun r hr => hs i r (by rw [hx, hr])))
theorem oCells_app {ad : Nat → Nat} {cI cB : ClassId} {wd : oW} {M : oM} {sh : oSh} {q : Nat} (hlen : wd.length < 1000) (hwd : ∀ (k : Nat) (sh : oSh), wd[k]? = some sh → okSh wd.length sh) : oCells (oAd ad wd.length q) cI cB (wd ++ [sh]) (oZ M wd.length) = oCells ad cI cB wd M ++ [(q, oCe (oAd ad wd.length q) cI cB (fun _ => 0) sh)] := by
  apply List.ext_getElem?
  intro i
  unfold oCells
  rcases Nat.lt_or_ge i wd.length with hi | hi
  · rw [List.getElem?_mapIdx, List.getElem?_append_left hi, List.getElem?_append_left (by rw [List.length_mapIdx]; exact hi), List.getElem?_mapIdx]
    cases hx : wd[i]? with
    | none => rfl
    | some x =>
      simp only [Option.map_some]
      rw [oCe_ag (oAd_ag hlen) (hwd i x hx), oAd_ag hlen i (Or.inl hi)]
      congr 3
      funext j
      unfold oZ
      rw [if_neg (by omega)]
  · rw [List.getElem?_mapIdx, List.getElem?_append_right hi, List.getElem?_append_right (by rw [List.length_mapIdx]; exact hi), List.length_mapIdx]
    cases hj : i - wd.length with
    | zero =>
      have he : i = wd.length := by omega
      subst he
      simp only [List.getElem?_cons_zero, Option.map_some, oAd, if_true]
      congr 3
      funext j
      simp [oZ]
    | succ j => simp
def oDf : Option (Option (Option Nat)) → Value
  | some none => .int 0
  | _ => .null
def oFp (own : String) (idx ci kf : Nat) (fty : FieldType) : Prop := ∃ (C : String) (T : u_T) (N : Nat) (ty : Nat → FieldType) (name desc : String), oCls ci C T N ty ∧ kf < N ∧ T kf = (C, name, desc, true) ∧ parseFieldDescriptor desc = some fty ∧ Cond.fieldLink own idx C name desc ∈ oT
section MORE
variable {l : Launch} {mt : oMI} {E : oE} {k n pc : Nat} {lv st : List oV} {wd : oW} {M : oM}
theorem oj_new {idx ci N : Nat} {C : String} {T : u_T} {ty : Nat → FieldType} {fs : List (Option (Option Nat))} (hc : oCls ci C T N ty) (hcl : Cond.classLink mt.1.cls idx C ∈ oT) (hins : Cond.instantiable C N ∈ oT) (hini : Cond.initialized C ∈ oT) (hfs : ∀ j, j < N → defaultValue (ty j) = oDf fs[j]?) (hnr : ∀ x ∈ fs, x = none ∨ x = some none) (hlen : wd.length + 1 < 1000) (h1 : k + 1 ≤ E.2.1) (h2 : n + N ≤ E.2.2.1) (hd : decode mt.2.1 pc = .ok (.new idx, 3))
    (h : oJ l mt E (k + 1) (n + N) (pc + 3) lv (vr wd.length :: st) (wd ++ [.inr (ci, fs)]) (oZ M wd.length)) : oJ l mt E k n pc lv st wd M := by
  obtain ⟨hcc, hin, hty, hnm⟩ := hc
  intro p e R s m args below meth c A D cI cB Z n0 ad0 ad H locs ls Cx hH hl hR hg hn
  have hts := Cx.2.2.2.2.1
  have hag : ∀ q o, o < wd.length ∨ 1000 ≤ o → oAd ad wd.length q o = ad o := fun q => oAd_ag (by omega)
  have hfv : ∀ (ad' : Nat → Nat) (j : Nat), j < N → defaultValue (ty j) = vp_V (fs.mapIdx (oFv ad' (fun _ => 0))) j := by
    intro ad' j hj
    rw [hfs j hj]
    unfold vp_V
    rw [List.getD_eq_getElem?_getD, List.getElem?_mapIdx]
    cases hx : fs[j]? with
    | none => rfl
    | some x =>
      rcases hnr x (List.mem_of_getElem? hx) with rfl | rfl <;> rfl
  refine va_new (D := D) (ci := ci) (fs := fs.mapIdx (oFv ad (fun _ => 0))) (C := C) (T := T) (N := N) (index := idx) Cx.1 Cx.2.1 hts hin ty hty Cx.2.2.2.1 (hts _ hcl) (hts _ hins) (hts _ hini) Cx.2.2.2.2.2.2.1 hH.1 hH.2.1 hH.2.2 Cx.2.2.2.2.2.2.2.1 hcc (hfv ad) (by have := Cx.2.2.2.2.2.1; omega) (by have := Cx.2.2.2.2.2.1; omega) hd (fun q H1 hP1 hD1 hS1 => ?_)
  have e1 : fs.mapIdx (oFv ad (fun _ => 0)) = fs.mapIdx (oFv (oAd ad wd.length q) (fun _ => 0)) := by
    apply List.ext_getElem?
    intro i
    rw [List.getElem?_mapIdx, List.getElem?_mapIdx]
    cases hx : fs[i]? with
    | none => rfl
    | some x => rcases hnr x (List.mem_of_getElem? hx) with rfl | rfl <;> rfl
  have e2 := oCells_app (ad := ad) (cI := cI) (cB := cB) (M := M) (sh := .inr (ci, fs)) (q := q) hR.2.2.2.1 hR.2.2.2.2
  rw [oCe_obj, ← e1] at e2
  rw [← e2] at hP1 hD1
  have hwl : (wd ++ [(.inr (ci, fs) : oSh)]).length = wd.length + 1 := by simp
  have key := h p e R s m args below meth c A D cI cB Z n0 ad0 (oAd ad wd.length q) H1 locs ls Cx ⟨hP1, hD1, hS1⟩ (oLv_ag (hag q) hR.1 hl) ⟨by rw [hwl]; exact oks_mono (Nat.le_succ _) hR.1, ⟨by show wd.length < _ ∨ _; rw [hwl]; exact Or.inl (Nat.lt_succ_self _), by rw [hwl]; exact oks_mono (Nat.le_succ _) hR.2.1⟩, fun o i => by unfold oZ; split; exact inR_0; exact hR.2.2.1 o i, by rw [hwl]; exact hlen, fun i sh hi => by
    rw [hwl]
    rcases Nat.lt_or_ge i wd.length with q1 | q1
    · rw [List.getElem?_append_left q1] at hi
      have q2 := hR.2.2.2.2 i sh hi
      rcases sh with sh | ⟨ci', fs'⟩
      · trivial
      · exact fun k r hk => (q2 k r hk).elim (fun z => Or.inl (by omega)) Or.inr
    · rw [List.getElem?_append_right q1] at hi
      cases hz : i - wd.length with
      | zero =>
        rw [hz] at hi
        cases hi
        intro k r hk
        rcases hnr _ (List.mem_of_getElem? hk) with q3 | q3 <;> cases q3
      | succ z => rw [hz] at hi; simp at hi⟩ (fun o ho => by rw [hag q o (ho.elim (fun z => Or.inl (by omega)) Or.inr), hg o ho]) (by rw [hwl]; omega)
  rw [List.map_cons, rlv_agrees (hag q) hR.2.1] at key
  have e3 : rlv (oAd ad wd.length q) (vr wd.length) = .ref q := by
    show Value.ref _ = _
    unfold oAd
    rw [if_pos rfl]
  rw [e3] at key
  exact key
theorem oj_newa {b : Bool} {aty : ArrayType} {N : Nat} {NN : Int} (hb : (aty = .int ∧ b = false) ∨ (aty = .byte ∧ b = true)) (harr : Cond.arrayClass (newarray.typeOf aty) ∈ oT) (hNN : ((N : Nat) : Int) = NN) (hlen : wd.length + 1 < 1000) (hN : N ≤ 100000) (h1 : k + 1 ≤ E.2.1) (h2 : n + N ≤ E.2.2.1) (hd : decode mt.2.1 pc = .ok (.newarray aty, 2))
    (h : oJ l mt E (k + 1) (n + N) (pc + 2) lv (vr wd.length :: st) (wd ++ [.inl (b, N)]) (oZ M wd.length)) : oJ l mt E k n pc lv (vi NN :: st) wd M := by
  intro p e R s m args below meth c A D cI cB Z n0 ad0 ad H locs ls Cx hH hl hR hg hn
  have hts := Cx.2.2.2.2.1
  have hag : ∀ q o, o < wd.length ∨ 1000 ≤ o → oAd ad wd.length q o = ad o := fun q => oAd_ag (by omega)
  have hcl : (Int32.ofInt NN).toNatClampNeg = N := by rw [oc_clamp (by omega) hR.2.1.1]; omega
  have hneg : ¬ Int32.ofInt NN < 0 := fun z => by have := (oc_lt hR.2.1.1 inR_0).mp z; omega
  have hdef : ∀ cA : ClassId, vp_cell cA (N, .inl (fun _ => Int32.ofInt 0)) = arrV cA N (fun _ => defaultValue (newarray.typeOf aty)) := by
    intro cA
    rcases hb with ⟨rfl, rfl⟩ | ⟨rfl, rfl⟩ <;> rfl
  have hby : N * componentBytes (newarray.typeOf aty) ≤ 536870912 := by
    rcases hb with ⟨rfl, rfl⟩ | ⟨rfl, rfl⟩
    · show N * 4 ≤ _; omega
    · show N * 1 ≤ _; omega
  refine va_newa (D := D) (ty := newarray.typeOf aty) (N' := N) (a0 := (N, .inl (fun _ => Int32.ofInt 0))) Cx.1 Cx.2.1 (hts _ harr) rfl Cx.2.2.2.2.2.2.1 hH.1 hH.2.1 hH.2.2 Cx.2.2.2.2.2.2.2.1 hdef hneg hcl hby (by have := Cx.2.2.2.2.2.1; omega) (by have := Cx.2.2.2.2.2.1; omega) hd (fun q cA H1 hK1 hP1 hD1 hS1 => ?_)
  have hcA : cA = if b then cB else cI := by
    have q2 := (hK1.2 2 (cA, newarray.typeOf aty) rfl).2
    rcases hb with ⟨rfl, rfl⟩ | ⟨rfl, rfl⟩
    · have q1 := (Cx.2.2.2.2.2.2.1.2 0 (cI, .int) rfl).2
      exact Option.some.inj (q2.symm.trans q1)
    · have q1 := (Cx.2.2.2.2.2.2.1.2 1 (cB, .byte) rfl).2
      exact Option.some.inj (q2.symm.trans q1)
  have e2 := oCells_app (ad := ad) (cI := cI) (cB := cB) (M := M) (sh := .inl (b, N)) (q := q) hR.2.2.2.1 hR.2.2.2.2
  have e4 : oCe (oAd ad wd.length q) cI cB (fun _ => 0) (.inl (b, N)) = .inl (cA, N, .inl (fun _ => Int32.ofInt 0)) := by rw [hcA]; rfl
  rw [e4] at e2
  rw [← e2] at hP1 hD1
  have hwl : (wd ++ [(.inl (b, N) : oSh)]).length = wd.length + 1 := by simp
  have key := h p e R s m args below meth c A D cI cB Z n0 ad0 (oAd ad wd.length q) H1 locs ls Cx ⟨hP1, hD1, hS1⟩ (oLv_ag (hag q) hR.1 hl) ⟨by rw [hwl]; exact oks_mono (Nat.le_succ _) hR.1, ⟨by show wd.length < _ ∨ _; rw [hwl]; exact Or.inl (Nat.lt_succ_self _), by rw [hwl]; exact oks_mono (Nat.le_succ _) hR.2.1.2⟩, fun o i => by unfold oZ; split; exact inR_0; exact hR.2.2.1 o i, by rw [hwl]; exact hlen, fun i sh hi => by
    rw [hwl]
    rcases Nat.lt_or_ge i wd.length with q1 | q1
    · rw [List.getElem?_append_left q1] at hi
      have q2 := hR.2.2.2.2 i sh hi
      rcases sh with sh | ⟨ci', fs'⟩
      · trivial
      · exact fun k r hk => (q2 k r hk).elim (fun z => Or.inl (by omega)) Or.inr
    · rw [List.getElem?_append_right q1] at hi
      cases hz : i - wd.length with
      | zero =>
        rw [hz] at hi
        cases hi
        trivial
      | succ z => rw [hz] at hi; simp at hi⟩ (fun o ho => by rw [hag q o (ho.elim (fun z => Or.inl (by omega)) Or.inr), hg o ho]) (by rw [hwl]; omega)
  rw [List.map_cons, rlv_agrees (hag q) hR.2.1.2] at key
  have e3 : rlv (oAd ad wd.length q) (vr wd.length) = .ref q := by
    show Value.ref _ = _
    unfold oAd
    rw [if_pos rfl]
  rw [e3] at key
  exact key
theorem oj_objInit {idx o : Nat} (hl1 : Cond.methodLink mt.1.cls idx Lib.objectInit ∈ oT) (hin : Cond.instanceMethod Lib.objectInit ∈ oT) (hco : Cond.code Lib.objectInit ⟨#[0xb1]⟩ 1 none ∈ oT) (hsl : st.length ≤ 8) (hdep : 1 ≤ E.1) (hd : decode mt.2.1 pc = .ok (.invokespecial idx, 3)) (h : oJ l mt E k n (pc + 3) lv st wd M) : oJ l mt E k n pc lv (vr o :: st) wd M := by
  intro p e R s m args below meth c A D cI cB Z n0 ad0 ad H locs ls Cx hH hl hR hg hn
  have hts := Cx.2.2.2.2.1
  refine W.objInit (a := ad o) (rest := st.map (rlv ad)) Cx.1 Cx.2.1 Cx.2.2.2.1 (hts _ hl1) (hts _ hin) (hts _ hco) rfl (by rw [Cx.2.2.1]; exact hl.1) rfl hd (by have := Cx.2.2.2.2.2.1; omega) (by rw [oSt_sum]; show 2 * 0 + _ + 12 ≤ _; have := Cx.2.2.2.2.2.1; omega) ?_
  exact h p e R s m args below meth c A D cI cB Z n0 ad0 ad H locs ls Cx hH hl ⟨hR.1, hR.2.1.2, hR.2.2⟩ hg hn
theorem oj_putF {idx ci kf o r : Nat} {fty : FieldType} {fs : List (Option (Option Nat))} (hf : oFp mt.1.cls idx ci kf fty) (hdecl : ∃ q : vw_C, vwCl[ci]? = some q ∧ q.1 = mt.1.cls) (hinit : mt.1.name = "<init>") (hw : wd[o]? = some (.inr (ci, fs))) (hk : kf < fs.length) (hft : narrow fty (.ref 0) = .ref 0 ∧ ∀ a, narrow fty (.ref a) = .ref a ∧ fits fty (.ref a) = true) (hd : decode mt.2.1 pc = .ok (.putfield idx, 3)) (h : oJ l mt E k n (pc + 3) lv st (wd.set o (.inr (ci, fs.set kf (some (some r))))) M) : oJ l mt E k n pc lv (vr r :: vr o :: st) wd M := by
  intro p e R s m args below meth c A D cI cB Z n0 ad0 ad H locs ls C hH hl hR hg hn
  obtain ⟨Cn, T, N, ty, name, desc, ⟨hc, hin, hty, hnm⟩, hkN, hT, hpd, hlk⟩ := hf
  have e1 : (T kf).2.1 = name := by rw [hT]
  have e2 : (T kf).2.2.1 = desc := by rw [hT]
  have e3 : (T kf).1 = Cn := by rw [hT]
  have e4 : (T kf).2.2.2 = true := by rw [hT]
  obtain ⟨q, hq1, hq2⟩ := hdecl
  have e5 : Cn = mt.1.cls := by rw [hc] at hq1; cases hq1; exact hq2
  have hol : o < wd.length := (List.getElem?_eq_some_iff.mp hw).1
  have hx : (fs.mapIdx (oFv ad (M o))).set kf (.ref (ad r)) = (fs.set kf (some (some r))).mapIdx (oFv ad (M o)) := by
    apply List.ext_getElem?
    intro i
    by_cases hi : i = kf
    · subst hi
      rw [List.getElem?_set_self (by rw [List.length_mapIdx]; exact hk), List.getElem?_mapIdx, List.getElem?_set_self hk]; rfl
    · rw [List.getElem?_set_ne (Ne.symm hi), List.getElem?_mapIdx, List.getElem?_mapIdx, List.getElem?_set_ne (Ne.symm hi)]
  have hset : (oCells ad cI cB wd M).set o (ad o, .inr (ci, (fs.mapIdx (oFv ad (M o))).set kf (.ref (ad r)))) = oCells ad cI cB (wd.set o (.inr (ci, fs.set kf (some (some r))))) M :=
    oCells_sh hol (by rw [hx]; rfl)
  have hlen : kf < (fs.mapIdx (oFv ad (M o))).length := by rw [List.length_mapIdx]; exact hk
  have hrok := hR.2.1.1
  have hkk : ∀ (H1 : Heap) (locs1 : List Loc), va_P D vwCl ((oCells ad cI cB wd M).set o (ad o, .inr (ci, (fs.mapIdx (oFv ad (M o))).set kf (.ref (ad r))))) H1 → va_D A ((oCells ad cI cB wd M).set o (ad o, .inr (ci, (fs.mapIdx (oFv ad (M o))).set kf (.ref (ad r))))) → va_S A s.heap H1 locs1 → W p l e R s m args below meth c H1 locs1 k n Z (F0 m (pc + 3) ls (st.map (rlv ad))) := by
    intro H1 locs1 h1 h2 h3
    rw [hset] at h1 h2
    refine h p e R s m args below meth c A D cI cB Z n0 ad0 ad H1 locs1 ls C ⟨h1, h2, h3⟩ hl ⟨by rw [List.length_set]; exact hR.1, by rw [List.length_set]; exact hR.2.1.2.2, hR.2.2.1, by rw [List.length_set]; exact hR.2.2.2.1, fun i sh hi => ?_⟩ hg (by rw [List.length_set]; exact hn)
    rw [List.length_set]
    by_cases hio : i = o
    · subst hio
      rw [List.getElem?_set_self hol] at hi
      cases hi
      intro j r' hj
      by_cases hjk : j = kf
      · subst hjk
        rw [List.getElem?_set_self hk] at hj
        cases hj
        exact hrok
      · rw [List.getElem?_set_ne (Ne.symm hjk)] at hj
        exact hR.2.2.2.2 i _ hw j r' hj
    · rw [List.getElem?_set_ne (Ne.symm hio)] at hi
      exact hR.2.2.2.2 i sh hi
  exact va_putF (D := D) (C := Cn) (T := T) (N := N) (ref := Cn) (index := idx) (ty := fty) C.1 C.2.1 C.2.2.2.2.1 hin ty hty hnm C.2.2.2.1 C.2.2.2.2.2.2.1 hH.1 hH.2.1 hH.2.2 o (oCells_get hw) hc kf hkN (by rw [e1, e2]; exact C.2.2.2.2.1 _ hlk) (fun _ hx => by rw [e3] at hx; exact hx) e4 (C.2.2.2.2.2.2.2.2.2.2.1.trans hinit) (by rw [e3]; exact e5) (by rw [e2]; exact hpd) (hft.2 _).1 (hft.2 _).2 hlen hd hkk
theorem oj_copy {α : Type} {K : α → Prop} {f : Int → Option α} {idx src dst Ns Nd : Nat} {n0 n1 sp dp nn : Int} (hlk : Cond.methodLink mt.1.cls idx arraycopyName ∈ oT) (hnat : Cond.native arraycopyName ∈ oT) (hstt : Cond.static arraycopyName ∈ oT) (hini : Cond.initialized "java/lang/System" ∈ oT) (hs : wd[src]? = some (.inl (false, Ns))) (hdst : wd[dst]? = some (.inl (false, Nd))) (h0 : ((Ns : Nat) : Int) = n0) (h1 : ((Nd : Nat) : Int) = n1) (hsl : st.length ≤ 8) (hdep : 1 ≤ E.1) (hd : decode mt.2.1 pc = .ok (.invokestatic idx, 3)) (hK : okp (cpg n0 n1 sp dp nn f) K)
    (h : okp (f 0) K → oJ l mt E k n (pc + 3) lv st wd (acopy M src sp dst dp nn)) : oJ l mt E k n pc lv (vi nn :: vi dp :: vr dst :: vi sp :: vr src :: st) wd M := by
  obtain ⟨⟨g1, g2, g3, g4, g5⟩, hK⟩ := okp_cpg hK
  intro p e R s m args below meth c A D cI cB Z n0' ad0 ad H locs ls Cx hH hl hR hg hn
  have hts := Cx.2.2.2.2.1
  have rn := hR.2.1.1
  have rd := hR.2.1.2.1
  have rs := hR.2.1.2.2.2.1
  have cn := oc_clamp g3 rn
  have cd := oc_clamp g2 rd
  have cs := oc_clamp g1 rs
  have hw100 : 8 + (nativeFrameWords "java/lang/System" "arraycopy" 5 + 11) ≤ 100 := by decide +kernel
  refine va_copyi (D := D) (ty := .int) (rest := st.map (rlv ad)) (locs := locs) Cx.1 Cx.2.1 (by rw [Cx.2.2.1, hl.1]) Cx.2.2.2.1 (hts _ hlk) (hts _ hnat) (hts _ hstt) (hts _ hini) Cx.2.2.2.2.2.2.1 hH.1 hH.2.1 hH.2.2 src dst 0 0 (oCells_get hs) (oCells_get hdst) rfl rfl rfl (fun z => by have := (oc_lt rs inR_0).mp z; omega) (fun z => by have := (oc_lt rd inR_0).mp z; omega) (fun z => by have := (oc_lt rn inR_0).mp z; omega) (by rw [cs, cn]; omega) (by rw [cd, cn]; omega) (fun _ _ => rfl) (by have := Cx.2.2.2.2.2.1; omega) (by rw [oSt_sum]; have := Cx.2.2.2.2.2.1; omega) hd (fun H1 locs1 p1 p2 p3 => ?_)
  have hset : (oCells ad cI cB wd M).set dst (ad dst, .inl (if false = true then cB else cI, Nd, .inl (va_cpy (fun q : Nat => Int32.ofInt (M src q)) (fun q : Nat => Int32.ofInt (M dst q)) (Int32.ofInt sp).toNatClampNeg (Int32.ofInt dp).toNatClampNeg (Int32.ofInt nn).toNatClampNeg))) = oCells ad cI cB wd (acopy M src sp dst dp nn) := by
    refine oCells_set (M' := acopy M src sp dst dp nn) hdst ?_ (fun o' ho => by funext i; unfold acopy; rw [if_neg (fun z => ho z.1)])
    rw [cs, cd, cn]
    show Sum.inl _ = Sum.inl _
    congr 3
    congr 1
    funext q
    unfold va_cpy acopy
    by_cases hq : dp.toNat ≤ q ∧ q < dp.toNat + nn.toNat
    · rw [if_pos hq, if_pos ⟨rfl, by omega, by omega⟩]
      show Int32.ofInt (M src ((sp.toNat + (q - dp.toNat) : Nat) : Int)) = _
      rw [show ((sp.toNat + (q - dp.toNat) : Nat) : Int) = sp + ((q : Int) - dp) from by omega]
    · rw [if_neg hq, if_neg (fun z => hq (by omega))]
  have p1 := hset ▸ p1
  have p2 := hset ▸ p2
  exact h hK p e R s m args below meth c A D cI cB Z n0' ad0 ad H1 locs1 ls Cx ⟨p1, p2, p3⟩ hl ⟨hR.1, hR.2.1.2.2.2.2.2, fun o i => by unfold acopy; split; exact hR.2.2.1 _ _; exact hR.2.2.1 _ _, hR.2.2.2⟩ hg hn
theorem oj_ldc {idx : Nat} {v : Int} (hc : Cond.constant mt.1.cls idx (Int32.ofInt v) ∈ oT) (hv : inR v) (hd : decode mt.2.1 pc = .ok (.ldc idx, 2)) (h : oJ l mt E k n (pc + 2) lv (vi v :: st) wd M) : oJ l mt E k n pc lv st wd M := by
  intro p e R s m args below meth c A D cI cB Z n0 ad0 ad H locs ls Cx hH hl hR hg hn
  exact lv_ldc Cx.1 Cx.2.1 Cx.2.2.2.1 (Cx.2.2.2.2.1 _ hc) hd (h p e R s m args below meth c A D cI cB Z n0 ad0 ad H locs ls Cx hH hl ⟨hR.1, ⟨hv, hR.2.1⟩, hR.2.2⟩ hg hn)
theorem oj_ldcw {idx : Nat} {v : Int} (hc : Cond.constant mt.1.cls idx (Int32.ofInt v) ∈ oT) (hv : inR v) (hd : decode mt.2.1 pc = .ok (.ldc_w idx, 3)) (h : oJ l mt E k n (pc + 3) lv (vi v :: st) wd M) : oJ l mt E k n pc lv st wd M := by
  intro p e R s m args below meth c A D cI cB Z n0 ad0 ad H locs ls Cx hH hl hR hg hn
  exact lv_ldcw Cx.1 Cx.2.1 Cx.2.2.2.1 (Cx.2.2.2.2.1 _ hc) hd (h p e R s m args below meth c A D cI cB Z n0 ad0 ad H locs ls Cx hH hl ⟨hR.1, ⟨hv, hR.2.1⟩, hR.2.2⟩ hg hn)
theorem oj_tin {a dflt lo hi off : Int} {offs : Array Int} {len tgt : Nat} (x : Int) (ha : a = x) (hd : decode mt.2.1 pc = .ok (.tableswitch dflt lo hi offs, len)) (h1 : lo ≤ x ∧ x ≤ hi) (ho : offs[(x - lo).toNat]? = some off) (ht : (pc : Int) + off = (tgt : Int)) (h : oJ l mt E k n tgt lv st wd M) : oJ l mt E k n pc lv (vi a :: st) wd M := by
  subst ha
  intro p e R s m args below meth c A D cI cB Z n0 ad0 ad H locs ls Cx hH hl hR hg hn
  have e1 := oc_toInt hR.2.1.1
  exact lv_tableIn Cx.1 Cx.2.1 hd (by rw [e1]; omega) (by rw [e1]; omega) (by rw [e1]; exact ho) ht (h p e R s m args below meth c A D cI cB Z n0 ad0 ad H locs ls Cx hH hl ⟨hR.1, hR.2.1.2, hR.2.2⟩ hg hn)
theorem oj_tout {a dflt lo hi : Int} {offs : Array Int} {len tgt : Nat} (hd : decode mt.2.1 pc = .ok (.tableswitch dflt lo hi offs, len)) (h1 : a < lo ∨ hi < a) (ht : (pc : Int) + dflt = (tgt : Int)) (h : oJ l mt E k n tgt lv st wd M) : oJ l mt E k n pc lv (vi a :: st) wd M := by
  intro p e R s m args below meth c A D cI cB Z n0 ad0 ad H locs ls Cx hH hl hR hg hn
  have e1 := oc_toInt hR.2.1.1
  exact lv_tableOut Cx.1 Cx.2.1 hd (by rw [e1]; exact h1) ht (h p e R s m args below meth c A D cI cB Z n0 ad0 ad H locs ls Cx hH hl ⟨hR.1, hR.2.1.2, hR.2.2⟩ hg hn)
theorem oj_look {a dflt off : Int} {ps : Array (Int × Int)} {len tgt : Nat} (hd : decode mt.2.1 pc = .ok (.lookupswitch dflt ps, len)) (hp : (ps.toList.zip (ps.toList.drop 1)).all (fun (a, next) => a.1 < next.1) = true) (ho : Op.lookupswitch.offset ps.toList dflt a = off) (ht : (pc : Int) + off = (tgt : Int)) (h : oJ l mt E k n tgt lv st wd M) : oJ l mt E k n pc lv (vi a :: st) wd M := by
  intro p e R s m args below meth c A D cI cB Z n0 ad0 ad H locs ls Cx hH hl hR hg hn
  have e1 := oc_toInt hR.2.1.1
  exact lv_lookup Cx.1 Cx.2.1 hd hp (by rw [e1]; exact ho) ht (h p e R s m args below meth c A D cI cB Z n0 ad0 ad H locs ls Cx hH hl ⟨hR.1, hR.2.1.2, hR.2.2⟩ hg hn)
/-- less may be known of the locals -/
def oLe : List oV → List oV → Prop
  | [], _ => True
  | v :: l, [] => v = vu ∧ oLe l []
  | v :: l, w :: r => (v = vu ∨ v = w) ∧ oLe l r
theorem oN_nil {k : Nat} : oN [] k = vu := by cases k <;> rfl
theorem oLe_N : ∀ {a b : List oV} {k : Nat}, oLe a b → oN a k ≠ vu → oN b k = oN a k
  | [], _, k, _, h => absurd (oN_nil (k := k)) h
  | v :: l, [], 0, h, hk => absurd h.1 hk
  | v :: l, [], k + 1, h, hk => by
    have := oLe_N (k := k) h.2 hk
    rw [oN_nil] at this
    rw [oN_nil]; exact this
  | v :: l, w :: r, 0, h, hk => h.1.elim (fun z => absurd z hk) (fun z => z.symm)
  | v :: l, w :: r, k + 1, h, hk => oLe_N (k := k) (a := l) (b := r) h.2 hk
theorem oks_le {len : Nat} : ∀ {a b : List oV}, oLe a b → oks len b → oks len a
  | [], _, _, _ => trivial
  | v :: l, [], h, hb => ⟨by rw [h.1]; trivial, oks_le h.2 hb⟩
  | v :: l, w :: r, h, hb => ⟨h.1.elim (fun z => by rw [z]; trivial) (fun z => by rw [z]; exact hb.1), oks_le h.2 hb.2⟩
theorem oj_le {lv' : List oV} (hle : oLe lv' lv) (h : oJ l mt E k n pc lv' st wd M) : oJ l mt E k n pc lv st wd M := by
  intro p e R s m args below meth c A D cI cB Z n0 ad0 ad H locs ls Cx hH hl hR hg hn
  exact h p e R s m args below meth c A D cI cB Z n0 ad0 ad H locs ls Cx hH ⟨hl.1, hl.2.1, fun i hi => by rw [← oLe_N hle hi]; exact hl.2.2 i (by rw [oLe_N hle hi]; exact hi)⟩ ⟨oks_le hle hR.1, hR.2⟩ hg hn
/-- the law's script -/
theorem oj_slen {L : Nat} {xs : Nat → Int} (hsc : E.2.2.2.1 = some (L, xs)) (hd : decode mt.2.1 pc = .ok (.arraylength, 1)) (h : oJ l mt E k n (pc + 1) lv (vi (L : Int) :: st) wd M) : oJ l mt E k n pc lv (vr 1002 :: st) wd M := by
  intro p e R s m args below meth c A D cI cB Z n0 ad0 ad H locs ls Cx hH hl hR hg hn
  obtain ⟨hX, hb, hA, hL, hxs⟩ := Cx.2.2.2.2.2.2.2.2.2.1 L xs hsc
  have e1 : ad 1002 = ad0 1002 := hg 1002 (Or.inr (by omega))
  have key := h p e R s m args below meth c A D cI cB Z n0 ad0 ad H locs ls Cx hH hl ⟨hR.1, ⟨⟨by omega, by omega⟩, hR.2.1.2⟩, hR.2.2⟩ hg hn
  show W p l e R s m args below meth c H locs k n Z (F0 m pc ls (.ref (ad 1002) :: st.map (rlv ad)))
  rw [e1]
  refine va_slen Cx.1 Cx.2.1 hX hb hA hH.2.2 hd ?_
  rw [← Int32.ofInt_eq_ofNat]
  exact key
theorem oj_sld {α : Type} {K : α → Prop} {f : Int → Option α} {L : Nat} {xs : Nat → Int} {a : Int} (hsc : E.2.2.2.1 = some (L, xs)) (hd : decode mt.2.1 pc = .ok (.iaload, 1)) (h0 : 0 ≤ a) (h1 : a < L) (h : oJ l mt E k n (pc + 1) lv (vi (xs a.toNat) :: st) wd M) : oJ l mt E k n pc lv (vi a :: vr 1002 :: st) wd M := by
  intro p e R s m args below meth c A D cI cB Z n0 ad0 ad H locs ls Cx hH hl hR hg hn
  obtain ⟨hX, hb, hA, hL, hxs⟩ := Cx.2.2.2.2.2.2.2.2.2.1 L xs hsc
  have e1 : ad 1002 = ad0 1002 := hg 1002 (Or.inr (by omega))
  have ha := hR.2.1.1
  have key := h p e R s m args below meth c A D cI cB Z n0 ad0 ad H locs ls Cx hH hl ⟨hR.1, ⟨hxs _, hR.2.1.2.2⟩, hR.2.2⟩ hg hn
  show W p l e R s m args below meth c H locs k n Z (F0 m pc ls (.int (Int32.ofInt a) :: .ref (ad 1002) :: st.map (rlv ad)))
  rw [e1]
  refine va_sld Cx.1 Cx.2.1 hX hb hA hH.2.2 (oc_in h0 h1 ha) hd ?_
  rw [oc_clamp h0 ha]
  exact key
end MORE
end
section
/-! the world: all objects, in the order in which they are made (0 to 56 the class, 57 on the reference) -/
def WD : oW := [
  .inr (10, [some (some 1), some (some 3), some (some 6), some (some 10), some (some 14), some (some 18), some (some 27), some (some 36), some (some 37), some (some 39), some (some 41), some (some 42), some (some 49), none]),
  .inr (9, [some (some 2), none, none, none, none]),
  .inl (false, 260),
  .inr (6, [some (some 4), some (some 5), none]),
  .inl (false, 10),
  .inl (false, 10),
  .inr (3, [some (some 7), some (some 8), some (some 9), none, none, none, none, none, none, none, none, none]),
  .inl (false, 100),
  .inl (false, 10),
  .inl (false, 40),
  .inr (3, [some (some 11), some (some 12), some (some 13), none, none, none, none, none, none, none, none, none]),
  .inl (false, 100),
  .inl (false, 10),
  .inl (false, 40),
  .inr (3, [some (some 15), some (some 16), some (some 17), none, none, none, none, none, none, none, none, none]),
  .inl (false, 100),
  .inl (false, 10),
  .inl (false, 40),
  .inr (4, [some (some 3), some (some 19), some (some 20), some (some 21), some (some 22), some (some 23), some (some 24), some (some 25), some (some 26), none, none]),
  .inl (false, 240),
  .inl (false, 240),
  .inl (false, 16),
  .inl (false, 16),
  .inl (false, 16),
  .inl (false, 16),
  .inl (false, 8),
  .inl (false, 64),
  .inr (4, [some (some 3), some (some 28), some (some 29), some (some 30), some (some 31), some (some 32), some (some 33), some (some 34), some (some 35), none, none]),
  .inl (false, 240),
  .inl (false, 240),
  .inl (false, 16),
  .inl (false, 16),
  .inl (false, 16),
  .inl (false, 16),
  .inl (false, 8),
  .inl (false, 64),
  .inr (5, [some (some 1), some (some 27)]),
  .inr (2, [some (some 1), some (some 3), some (some 38)]),
  .inl (false, 100),
  .inr (7, [some (some 1), some (some 40), none]),
  .inl (false, 60),
  .inr (1, [some (some 3), some (some 18), none, none, none, none]),
  .inr (8, [some (some 3), some (some 43), some (some 44), some (some 45), some (some 46), some (some 47), some (some 48), none]),
  .inl (false, 100),
  .inl (false, 100),
  .inl (false, 8),
  .inl (false, 10),
  .inl (false, 60),
  .inl (false, 12),
  .inr (0, [some (some 3), some (some 50), some (some 51), some (some 52), some (some 53), some (some 54), some (some 55), some (some 56), none]),
  .inl (false, 10),
  .inl (false, 10),
  .inl (false, 6),
  .inl (false, 6),
  .inl (false, 6),
  .inl (false, 12),
  .inl (false, 1024),
  .inr (11, [some (some 58), some (some 59), some (some 60), some (some 61), some (some 62), none, some (some 63), none, none, none, none, none, none, none, none, none, none, some (some 64), some (some 65), some (some 66), some (some 67), some (some 68), some (some 69), some (some 70), some (some 71), some (some 72), some (some 73), some (some 74), some (some 75), some (some 76), some (some 77), none, none, none, none, none, some (some 78), some (some 79), some (some 80), some (some 81), none, none, none, none, none, none, some (some 82), some (some 83), some (some 84), some (some 85), none, some (some 86), some (some 87), some (some 88), some (some 89), some (some 90), some (some 91), some (some 92), none, some (some 93), some (some 94), none]),
  .inl (false, 159),
  .inl (false, 159),
  .inl (false, 159),
  .inl (false, 10),
  .inl (false, 10),
  .inl (true, 260),
  .inl (false, 260),
  .inl (false, 260),
  .inl (false, 16),
  .inl (false, 16),
  .inl (false, 16),
  .inl (false, 16),
  .inl (false, 260),
  .inl (false, 16),
  .inl (false, 16),
  .inl (false, 16),
  .inl (false, 16),
  .inl (false, 260),
  .inl (false, 8),
  .inl (false, 100),
  .inl (false, 60),
  .inl (false, 2),
  .inl (false, 2),
  .inl (false, 2),
  .inl (false, 100),
  .inl (false, 60),
  .inl (false, 12),
  .inl (false, 12),
  .inl (true, 40960),
  .inl (false, 100),
  .inl (false, 100),
  .inl (false, 6),
  .inl (false, 6),
  .inl (false, 6),
  .inl (false, 6),
  .inl (false, 1024),
  .inl (false, 1024)]
def oSl (wd : oW) (o ci kf : Nat) (x : Option (Option Nat)) : Prop := ∃ fs, wd[o]? = some (.inr (ci, fs)) ∧ fs[kf]? = some x
abbrev oQ (K : Int × oM → Prop) : Int → oW → oM → Prop := fun r wd M => wd = WD ∧ K (r, M)
abbrev oEf (d : Nat) (K : Int × oM → Prop) : oE := (d, 0, 0, none, oQ K)
abbrev oKf (l : Launch) (mt : oMI) (d : Nat) (as : List oV) (M : oM) (K : Int × oM → Prop) : Prop := oK l mt d 0 0 as WD M (oQ K)
theorem iter_J' {S R : Type} {step : S → Option (S ⊕ R)} {Jh : S → Prop} {G : R → Prop} (hstep : ∀ (KK : S ⊕ R → Prop) (s : S), (∀ s', KK (.inl s') → Jh s') → (∀ r, KK (.inr r) → G r) → okp (step s) KK → Jh s) (f : Nat) (s : S) (h : okp (iter step f s) G) : Jh s :=
  iter_J (fun s hs => hstep _ s (fun _ h => h) (fun _ h => h) hs) f s h
theorem oc_nolook {ps : List (Int × Int)} {dflt a : Int} (h : Op.lookupswitch.offset ps dflt a = dflt) : Op.lookupswitch.offset ps dflt a = dflt := h
section FIX
variable {l : Launch} {mt : oMI} {E : oE} {k n pc : Nat} {lv st st0 : List oV} {wd : oW} {M : oM} {d : Nat} {K : Int × oM → Prop}
theorem oj_getI' {idx ci kf o : Nat} {ki : Int} {fin : Bool} {fty : FieldType} (hf : oFl mt.1.cls idx ci kf fin fty) (hs : oSl wd o ci kf none) (hki : ((kf : Nat) : Int) = ki) (hd : decode mt.2.1 pc = .ok (.getfield idx, 3)) (h : oJ l mt E k n (pc + 3) lv (vi (M o ki) :: st) wd M) : oJ l mt E k n pc lv (vr o :: st) wd M := by
  obtain ⟨fs, h1, h2⟩ := hs
  exact oj_getI hf h1 h2 hki hd h
theorem oj_getR' {idx ci kf o r : Nat} {fin : Bool} {fty : FieldType} (hf : oFl mt.1.cls idx ci kf fin fty) (hs : oSl wd o ci kf (some (some r))) (hd : decode mt.2.1 pc = .ok (.getfield idx, 3)) (h : oJ l mt E k n (pc + 3) lv (vr r :: st) wd M) : oJ l mt E k n pc lv (vr o :: st) wd M := by
  obtain ⟨fs, h1, h2⟩ := hs
  exact oj_getR hf h1 h2 hd h
theorem oj_putI' {idx ci kf o : Nat} {ki v : Int} (hf : oFl mt.1.cls idx ci kf false .int) (hs : oSl wd o ci kf none) (hki : ((kf : Nat) : Int) = ki) (hd : decode mt.2.1 pc = .ok (.putfield idx, 3)) (h : oJ l mt E k n (pc + 3) lv st wd (oU M o ki v)) : oJ l mt E k n pc lv (vi v :: vr o :: st) wd M := by
  obtain ⟨fs, h1, h2⟩ := hs
  exact oj_putI hf h1 h2 hki hd h
theorem oj_putC' {idx ci kf o : Nat} {ki v : Int} {fty : FieldType} (hf : oFl mt.1.cls idx ci kf false fty) (hs : oSl wd o ci kf none) (hki : ((kf : Nat) : Int) = ki) (hnr : narrow fty (.int (Int32.ofInt v)) = .int (Int32.ofInt v)) (hft : fits fty (.int (Int32.ofInt v)) = true) (hd : decode mt.2.1 pc = .ok (.putfield idx, 3)) (h : oJ l mt E k n (pc + 3) lv st wd (oU M o ki v)) : oJ l mt E k n pc lv (vi v :: vr o :: st) wd M := by
  obtain ⟨fs, h1, h2⟩ := hs
  exact oj_put hf h1 h2 hki hnr hft hd h
theorem oj_putZ' {α : Type} {K' : α → Prop} {f : Int → Option α} {idx ci kf o : Nat} {ki v : Int} (hf : oFl mt.1.cls idx ci kf false .boolean) (hs : oSl wd o ci kf none) (hki : ((kf : Nat) : Int) = ki) (hd : decode mt.2.1 pc = .ok (.putfield idx, 3)) (hK : okp (bnd 2 v f) K') (h : okp (f v) K' → oJ l mt E k n (pc + 3) lv st wd (oU M o ki v)) : oJ l mt E k n pc lv (vi v :: vr o :: st) wd M := by
  obtain ⟨fs, h1, h2⟩ := hs
  exact oj_putZ hf h1 h2 hki hd hK h
theorem of_Vi {y : oMI} {d' np idx ci o : Nat} {as : List oV} {K' : Int × oM → Prop} {ty : FieldType} (hv : oClV mt.1.cls idx y np ci) (hw : ∃ fs, WD[o]? = some (.inr (ci, fs))) (hst : st0 = as.reverse ++ vr o :: st) (has : as.length = np) (hsl : st.length ≤ 8) (hd : decode mt.2.1 pc = .ok (.invokevirtual idx, 3)) (hdep : d' + 1 ≤ d) (hty : y.2.2.2 = some ty) (hK : oKf l y d' (vr o :: as) M K') (h : ∀ r M', K' (r, M') → oJ l mt (oEf d K) 0 0 (pc + 3) lv (vi r :: st) WD M') : oJ l mt (oEf d K) 0 0 pc lv st0 WD M := by
  obtain ⟨fs, hw⟩ := hw
  exact (oj_V (E := oEf d K) (k := 0) (n := 0) (pc := pc) (lv := lv) hv hw hst has hsl hd hdep (Nat.le_refl _) (Nat.le_refl _) hK).1 ty hty (fun r wd' M' q => by obtain ⟨rfl, q⟩ := q; exact h r M' q)
theorem of_Vv {y : oMI} {d' np idx ci o : Nat} {as : List oV} {K' : Int × oM → Prop} (hv : oClV mt.1.cls idx y np ci) (hw : ∃ fs, WD[o]? = some (.inr (ci, fs))) (hst : st0 = as.reverse ++ vr o :: st) (has : as.length = np) (hsl : st.length ≤ 8) (hd : decode mt.2.1 pc = .ok (.invokevirtual idx, 3)) (hdep : d' + 1 ≤ d) (hty : y.2.2.2 = none) (hK : oKf l y d' (vr o :: as) M K') (h : ∀ M', K' (0, M') → oJ l mt (oEf d K) 0 0 (pc + 3) lv st WD M') : oJ l mt (oEf d K) 0 0 pc lv st0 WD M := by
  obtain ⟨fs, hw⟩ := hw
  exact (oj_V (E := oEf d K) (k := 0) (n := 0) (pc := pc) (lv := lv) hv hw hst has hsl hd hdep (Nat.le_refl _) (Nat.le_refl _) hK).2 hty (fun wd' M' q => by obtain ⟨rfl, q⟩ := q; exact h M' q)
theorem of_Si {y : oMI} {d' np idx : Nat} {as : List oV} {K' : Int × oM → Prop} {ty : FieldType} (hv : oClS mt.1.cls idx y np) (hst : st0 = as.reverse ++ st) (has : as.length = np) (hsl : st.length ≤ 8) (hd : decode mt.2.1 pc = .ok (.invokestatic idx, 3)) (hdep : d' + 1 ≤ d) (hty : y.2.2.2 = some ty) (hK : oKf l y d' as M K') (h : ∀ r M', K' (r, M') → oJ l mt (oEf d K) 0 0 (pc + 3) lv (vi r :: st) WD M') : oJ l mt (oEf d K) 0 0 pc lv st0 WD M :=
  (oj_S (E := oEf d K) (k := 0) (n := 0) (pc := pc) (lv := lv) hv hst has hsl hd hdep (Nat.le_refl _) (Nat.le_refl _) hK).1 ty hty (fun r wd' M' q => by obtain ⟨rfl, q⟩ := q; exact h r M' q)
theorem of_Sv {y : oMI} {d' np idx : Nat} {as : List oV} {K' : Int × oM → Prop} (hv : oClS mt.1.cls idx y np) (hst : st0 = as.reverse ++ st) (has : as.length = np) (hsl : st.length ≤ 8) (hd : decode mt.2.1 pc = .ok (.invokestatic idx, 3)) (hdep : d' + 1 ≤ d) (hty : y.2.2.2 = none) (hK : oKf l y d' as M K') (h : ∀ M', K' (0, M') → oJ l mt (oEf d K) 0 0 (pc + 3) lv st WD M') : oJ l mt (oEf d K) 0 0 pc lv st0 WD M :=
  (oj_S (E := oEf d K) (k := 0) (n := 0) (pc := pc) (lv := lv) hv hst has hsl hd hdep (Nat.le_refl _) (Nat.le_refl _) hK).2 hty (fun wd' M' q => by obtain ⟨rfl, q⟩ := q; exact h M' q)
theorem oj_ld0 {a : Int} {l' : List oV} (hd : decode mt.2.1 pc = .ok (.iload_n 0, 1)) (h : oJ l mt E k n (pc + 1) (vi a :: l') (vi a :: st) wd M) : oJ l mt E k n pc (vi a :: l') st wd M := oj_iloadn (i := 0) hd rfl h
theorem oj_ald0 {a : Nat} {l' : List oV} (hd : decode mt.2.1 pc = .ok (.aload_n 0, 1)) (h : oJ l mt E k n (pc + 1) (vr a :: l') (vr a :: st) wd M) : oJ l mt E k n pc (vr a :: l') st wd M := oj_aloadn (i := 0) hd rfl h
theorem oj_st0 {x : oV} {a : Int} {l' : List oV} (hd : decode mt.2.1 pc = .ok (.istore_n 0, 1)) (hn : 0 < mt.2.2.1) (h : oJ l mt E k n (pc + 1) (vi a :: l') st wd M) : oJ l mt E k n pc (x :: l') (vi a :: st) wd M := oj_istoren (i := 0) hd hn rfl h
theorem oj_ast0 {x : oV} {a : Nat} {l' : List oV} (hd : decode mt.2.1 pc = .ok (.astore_n 0, 1)) (hn : 0 < mt.2.2.1) (h : oJ l mt E k n (pc + 1) (vr a :: l') st wd M) : oJ l mt E k n pc (x :: l') (vr a :: st) wd M := oj_astoren (i := 0) hd hn rfl h
theorem oj_inc0 {d a : Int} {l' : List oV} (hd : decode mt.2.1 pc = .ok (.iinc 0 d, 3)) (hn : 0 < mt.2.2.1) (h : oJ l mt E k n (pc + 3) (vi (w32 (a + d)) :: l') st wd M) : oJ l mt E k n pc (vi a :: l') st wd M := oj_iinc hd hn rfl rfl h
theorem oj_ld1 {a0 : oV} {a : Int} {l' : List oV} (hd : decode mt.2.1 pc = .ok (.iload_n 1, 1)) (h : oJ l mt E k n (pc + 1) (a0 :: vi a :: l') (vi a :: st) wd M) : oJ l mt E k n pc (a0 :: vi a :: l') st wd M := oj_iloadn (i := 1) hd rfl h
theorem oj_ald1 {a0 : oV} {a : Nat} {l' : List oV} (hd : decode mt.2.1 pc = .ok (.aload_n 1, 1)) (h : oJ l mt E k n (pc + 1) (a0 :: vr a :: l') (vr a :: st) wd M) : oJ l mt E k n pc (a0 :: vr a :: l') st wd M := oj_aloadn (i := 1) hd rfl h
theorem oj_st1 {a0 : oV} {x : oV} {a : Int} {l' : List oV} (hd : decode mt.2.1 pc = .ok (.istore_n 1, 1)) (hn : 1 < mt.2.2.1) (h : oJ l mt E k n (pc + 1) (a0 :: vi a :: l') st wd M) : oJ l mt E k n pc (a0 :: x :: l') (vi a :: st) wd M := oj_istoren (i := 1) hd hn rfl h
theorem oj_ast1 {a0 : oV} {x : oV} {a : Nat} {l' : List oV} (hd : decode mt.2.1 pc = .ok (.astore_n 1, 1)) (hn : 1 < mt.2.2.1) (h : oJ l mt E k n (pc + 1) (a0 :: vr a :: l') st wd M) : oJ l mt E k n pc (a0 :: x :: l') (vr a :: st) wd M := oj_astoren (i := 1) hd hn rfl h
theorem oj_inc1 {a0 : oV} {d a : Int} {l' : List oV} (hd : decode mt.2.1 pc = .ok (.iinc 1 d, 3)) (hn : 1 < mt.2.2.1) (h : oJ l mt E k n (pc + 3) (a0 :: vi (w32 (a + d)) :: l') st wd M) : oJ l mt E k n pc (a0 :: vi a :: l') st wd M := oj_iinc hd hn rfl rfl h
theorem oj_ld2 {a0 a1 : oV} {a : Int} {l' : List oV} (hd : decode mt.2.1 pc = .ok (.iload_n 2, 1)) (h : oJ l mt E k n (pc + 1) (a0 :: a1 :: vi a :: l') (vi a :: st) wd M) : oJ l mt E k n pc (a0 :: a1 :: vi a :: l') st wd M := oj_iloadn (i := 2) hd rfl h
theorem oj_ald2 {a0 a1 : oV} {a : Nat} {l' : List oV} (hd : decode mt.2.1 pc = .ok (.aload_n 2, 1)) (h : oJ l mt E k n (pc + 1) (a0 :: a1 :: vr a :: l') (vr a :: st) wd M) : oJ l mt E k n pc (a0 :: a1 :: vr a :: l') st wd M := oj_aloadn (i := 2) hd rfl h
theorem oj_st2 {a0 a1 : oV} {x : oV} {a : Int} {l' : List oV} (hd : decode mt.2.1 pc = .ok (.istore_n 2, 1)) (hn : 2 < mt.2.2.1) (h : oJ l mt E k n (pc + 1) (a0 :: a1 :: vi a :: l') st wd M) : oJ l mt E k n pc (a0 :: a1 :: x :: l') (vi a :: st) wd M := oj_istoren (i := 2) hd hn rfl h
theorem oj_ast2 {a0 a1 : oV} {x : oV} {a : Nat} {l' : List oV} (hd : decode mt.2.1 pc = .ok (.astore_n 2, 1)) (hn : 2 < mt.2.2.1) (h : oJ l mt E k n (pc + 1) (a0 :: a1 :: vr a :: l') st wd M) : oJ l mt E k n pc (a0 :: a1 :: x :: l') (vr a :: st) wd M := oj_astoren (i := 2) hd hn rfl h
theorem oj_inc2 {a0 a1 : oV} {d a : Int} {l' : List oV} (hd : decode mt.2.1 pc = .ok (.iinc 2 d, 3)) (hn : 2 < mt.2.2.1) (h : oJ l mt E k n (pc + 3) (a0 :: a1 :: vi (w32 (a + d)) :: l') st wd M) : oJ l mt E k n pc (a0 :: a1 :: vi a :: l') st wd M := oj_iinc hd hn rfl rfl h
theorem oj_ld3 {a0 a1 a2 : oV} {a : Int} {l' : List oV} (hd : decode mt.2.1 pc = .ok (.iload_n 3, 1)) (h : oJ l mt E k n (pc + 1) (a0 :: a1 :: a2 :: vi a :: l') (vi a :: st) wd M) : oJ l mt E k n pc (a0 :: a1 :: a2 :: vi a :: l') st wd M := oj_iloadn (i := 3) hd rfl h
theorem oj_ald3 {a0 a1 a2 : oV} {a : Nat} {l' : List oV} (hd : decode mt.2.1 pc = .ok (.aload_n 3, 1)) (h : oJ l mt E k n (pc + 1) (a0 :: a1 :: a2 :: vr a :: l') (vr a :: st) wd M) : oJ l mt E k n pc (a0 :: a1 :: a2 :: vr a :: l') st wd M := oj_aloadn (i := 3) hd rfl h
theorem oj_st3 {a0 a1 a2 : oV} {x : oV} {a : Int} {l' : List oV} (hd : decode mt.2.1 pc = .ok (.istore_n 3, 1)) (hn : 3 < mt.2.2.1) (h : oJ l mt E k n (pc + 1) (a0 :: a1 :: a2 :: vi a :: l') st wd M) : oJ l mt E k n pc (a0 :: a1 :: a2 :: x :: l') (vi a :: st) wd M := oj_istoren (i := 3) hd hn rfl h
theorem oj_ast3 {a0 a1 a2 : oV} {x : oV} {a : Nat} {l' : List oV} (hd : decode mt.2.1 pc = .ok (.astore_n 3, 1)) (hn : 3 < mt.2.2.1) (h : oJ l mt E k n (pc + 1) (a0 :: a1 :: a2 :: vr a :: l') st wd M) : oJ l mt E k n pc (a0 :: a1 :: a2 :: x :: l') (vr a :: st) wd M := oj_astoren (i := 3) hd hn rfl h
theorem oj_inc3 {a0 a1 a2 : oV} {d a : Int} {l' : List oV} (hd : decode mt.2.1 pc = .ok (.iinc 3 d, 3)) (hn : 3 < mt.2.2.1) (h : oJ l mt E k n (pc + 3) (a0 :: a1 :: a2 :: vi (w32 (a + d)) :: l') st wd M) : oJ l mt E k n pc (a0 :: a1 :: a2 :: vi a :: l') st wd M := oj_iinc hd hn rfl rfl h
theorem oj_ld4 {a0 a1 a2 a3 : oV} {a : Int} {l' : List oV} (hd : decode mt.2.1 pc = .ok (.iload 4, 2)) (h : oJ l mt E k n (pc + 2) (a0 :: a1 :: a2 :: a3 :: vi a :: l') (vi a :: st) wd M) : oJ l mt E k n pc (a0 :: a1 :: a2 :: a3 :: vi a :: l') st wd M := oj_iload (i := 4) hd rfl h
theorem oj_st4 {a0 a1 a2 a3 : oV} {x : oV} {a : Int} {l' : List oV} (hd : decode mt.2.1 pc = .ok (.istore 4, 2)) (hn : 4 < mt.2.2.1) (h : oJ l mt E k n (pc + 2) (a0 :: a1 :: a2 :: a3 :: vi a :: l') st wd M) : oJ l mt E k n pc (a0 :: a1 :: a2 :: a3 :: x :: l') (vi a :: st) wd M := oj_istore (i := 4) hd hn rfl h
theorem oj_inc4 {a0 a1 a2 a3 : oV} {d a : Int} {l' : List oV} (hd : decode mt.2.1 pc = .ok (.iinc 4 d, 3)) (hn : 4 < mt.2.2.1) (h : oJ l mt E k n (pc + 3) (a0 :: a1 :: a2 :: a3 :: vi (w32 (a + d)) :: l') st wd M) : oJ l mt E k n pc (a0 :: a1 :: a2 :: a3 :: vi a :: l') st wd M := oj_iinc hd hn rfl rfl h
theorem oj_ld5 {a0 a1 a2 a3 a4 : oV} {a : Int} {l' : List oV} (hd : decode mt.2.1 pc = .ok (.iload 5, 2)) (h : oJ l mt E k n (pc + 2) (a0 :: a1 :: a2 :: a3 :: a4 :: vi a :: l') (vi a :: st) wd M) : oJ l mt E k n pc (a0 :: a1 :: a2 :: a3 :: a4 :: vi a :: l') st wd M := oj_iload (i := 5) hd rfl h
theorem oj_st5 {a0 a1 a2 a3 a4 : oV} {x : oV} {a : Int} {l' : List oV} (hd : decode mt.2.1 pc = .ok (.istore 5, 2)) (hn : 5 < mt.2.2.1) (h : oJ l mt E k n (pc + 2) (a0 :: a1 :: a2 :: a3 :: a4 :: vi a :: l') st wd M) : oJ l mt E k n pc (a0 :: a1 :: a2 :: a3 :: a4 :: x :: l') (vi a :: st) wd M := oj_istore (i := 5) hd hn rfl h
theorem oj_inc5 {a0 a1 a2 a3 a4 : oV} {d a : Int} {l' : List oV} (hd : decode mt.2.1 pc = .ok (.iinc 5 d, 3)) (hn : 5 < mt.2.2.1) (h : oJ l mt E k n (pc + 3) (a0 :: a1 :: a2 :: a3 :: a4 :: vi (w32 (a + d)) :: l') st wd M) : oJ l mt E k n pc (a0 :: a1 :: a2 :: a3 :: a4 :: vi a :: l') st wd M := oj_iinc hd hn rfl rfl h
theorem oj_ld6 {a0 a1 a2 a3 a4 a5 : oV} {a : Int} {l' : List oV} (hd : decode mt.2.1 pc = .ok (.iload 6, 2)) (h : oJ l mt E k n (pc + 2) (a0 :: a1 :: a2 :: a3 :: a4 :: a5 :: vi a :: l') (vi a :: st) wd M) : oJ l mt E k n pc (a0 :: a1 :: a2 :: a3 :: a4 :: a5 :: vi a :: l') st wd M := oj_iload (i := 6) hd rfl h
theorem oj_st6 {a0 a1 a2 a3 a4 a5 : oV} {x : oV} {a : Int} {l' : List oV} (hd : decode mt.2.1 pc = .ok (.istore 6, 2)) (hn : 6 < mt.2.2.1) (h : oJ l mt E k n (pc + 2) (a0 :: a1 :: a2 :: a3 :: a4 :: a5 :: vi a :: l') st wd M) : oJ l mt E k n pc (a0 :: a1 :: a2 :: a3 :: a4 :: a5 :: x :: l') (vi a :: st) wd M := oj_istore (i := 6) hd hn rfl h
theorem oj_inc6 {a0 a1 a2 a3 a4 a5 : oV} {d a : Int} {l' : List oV} (hd : decode mt.2.1 pc = .ok (.iinc 6 d, 3)) (hn : 6 < mt.2.2.1) (h : oJ l mt E k n (pc + 3) (a0 :: a1 :: a2 :: a3 :: a4 :: a5 :: vi (w32 (a + d)) :: l') st wd M) : oJ l mt E k n pc (a0 :: a1 :: a2 :: a3 :: a4 :: a5 :: vi a :: l') st wd M := oj_iinc hd hn rfl rfl h
theorem oj_ld7 {a0 a1 a2 a3 a4 a5 a6 : oV} {a : Int} {l' : List oV} (hd : decode mt.2.1 pc = .ok (.iload 7, 2)) (h : oJ l mt E k n (pc + 2) (a0 :: a1 :: a2 :: a3 :: a4 :: a5 :: a6 :: vi a :: l') (vi a :: st) wd M) : oJ l mt E k n pc (a0 :: a1 :: a2 :: a3 :: a4 :: a5 :: a6 :: vi a :: l') st wd M := oj_iload (i := 7) hd rfl h
theorem oj_st7 {a0 a1 a2 a3 a4 a5 a6 : oV} {x : oV} {a : Int} {l' : List oV} (hd : decode mt.2.1 pc = .ok (.istore 7, 2)) (hn : 7 < mt.2.2.1) (h : oJ l mt E k n (pc + 2) (a0 :: a1 :: a2 :: a3 :: a4 :: a5 :: a6 :: vi a :: l') st wd M) : oJ l mt E k n pc (a0 :: a1 :: a2 :: a3 :: a4 :: a5 :: a6 :: x :: l') (vi a :: st) wd M := oj_istore (i := 7) hd hn rfl h
theorem oj_inc7 {a0 a1 a2 a3 a4 a5 a6 : oV} {d a : Int} {l' : List oV} (hd : decode mt.2.1 pc = .ok (.iinc 7 d, 3)) (hn : 7 < mt.2.2.1) (h : oJ l mt E k n (pc + 3) (a0 :: a1 :: a2 :: a3 :: a4 :: a5 :: a6 :: vi (w32 (a + d)) :: l') st wd M) : oJ l mt E k n pc (a0 :: a1 :: a2 :: a3 :: a4 :: a5 :: a6 :: vi a :: l') st wd M := oj_iinc hd hn rfl rfl h
theorem oj_ld8 {a0 a1 a2 a3 a4 a5 a6 a7 : oV} {a : Int} {l' : List oV} (hd : decode mt.2.1 pc = .ok (.iload 8, 2)) (h : oJ l mt E k n (pc + 2) (a0 :: a1 :: a2 :: a3 :: a4 :: a5 :: a6 :: a7 :: vi a :: l') (vi a :: st) wd M) : oJ l mt E k n pc (a0 :: a1 :: a2 :: a3 :: a4 :: a5 :: a6 :: a7 :: vi a :: l') st wd M := oj_iload (i := 8) hd rfl h
theorem oj_st8 {a0 a1 a2 a3 a4 a5 a6 a7 : oV} {x : oV} {a : Int} {l' : List oV} (hd : decode mt.2.1 pc = .ok (.istore 8, 2)) (hn : 8 < mt.2.2.1) (h : oJ l mt E k n (pc + 2) (a0 :: a1 :: a2 :: a3 :: a4 :: a5 :: a6 :: a7 :: vi a :: l') st wd M) : oJ l mt E k n pc (a0 :: a1 :: a2 :: a3 :: a4 :: a5 :: a6 :: a7 :: x :: l') (vi a :: st) wd M := oj_istore (i := 8) hd hn rfl h
theorem oj_inc8 {a0 a1 a2 a3 a4 a5 a6 a7 : oV} {d a : Int} {l' : List oV} (hd : decode mt.2.1 pc = .ok (.iinc 8 d, 3)) (hn : 8 < mt.2.2.1) (h : oJ l mt E k n (pc + 3) (a0 :: a1 :: a2 :: a3 :: a4 :: a5 :: a6 :: a7 :: vi (w32 (a + d)) :: l') st wd M) : oJ l mt E k n pc (a0 :: a1 :: a2 :: a3 :: a4 :: a5 :: a6 :: a7 :: vi a :: l') st wd M := oj_iinc hd hn rfl rfl h
end FIX

theorem o_0 : ∃ fs, WD[0]? = some (.inr (10, fs)) := ⟨_, rfl⟩
theorem s_0_0 : oSl WD 0 10 0 (some (some 1)) := ⟨_, rfl, rfl⟩
theorem s_0_1 : oSl WD 0 10 1 (some (some 3)) := ⟨_, rfl, rfl⟩
theorem s_0_2 : oSl WD 0 10 2 (some (some 6)) := ⟨_, rfl, rfl⟩
theorem s_0_3 : oSl WD 0 10 3 (some (some 10)) := ⟨_, rfl, rfl⟩
theorem s_0_4 : oSl WD 0 10 4 (some (some 14)) := ⟨_, rfl, rfl⟩
theorem s_0_5 : oSl WD 0 10 5 (some (some 18)) := ⟨_, rfl, rfl⟩
theorem s_0_6 : oSl WD 0 10 6 (some (some 27)) := ⟨_, rfl, rfl⟩
theorem s_0_7 : oSl WD 0 10 7 (some (some 36)) := ⟨_, rfl, rfl⟩
theorem s_0_8 : oSl WD 0 10 8 (some (some 37)) := ⟨_, rfl, rfl⟩
theorem s_0_9 : oSl WD 0 10 9 (some (some 39)) := ⟨_, rfl, rfl⟩
theorem s_0_10 : oSl WD 0 10 10 (some (some 41)) := ⟨_, rfl, rfl⟩
theorem s_0_11 : oSl WD 0 10 11 (some (some 42)) := ⟨_, rfl, rfl⟩
theorem s_0_12 : oSl WD 0 10 12 (some (some 49)) := ⟨_, rfl, rfl⟩
theorem s_0_13 : oSl WD 0 10 13 (none) := ⟨_, rfl, rfl⟩
theorem o_1 : ∃ fs, WD[1]? = some (.inr (9, fs)) := ⟨_, rfl⟩
theorem s_1_0 : oSl WD 1 9 0 (some (some 2)) := ⟨_, rfl, rfl⟩
theorem s_1_1 : oSl WD 1 9 1 (none) := ⟨_, rfl, rfl⟩
theorem s_1_2 : oSl WD 1 9 2 (none) := ⟨_, rfl, rfl⟩
theorem s_1_3 : oSl WD 1 9 3 (none) := ⟨_, rfl, rfl⟩
theorem s_1_4 : oSl WD 1 9 4 (none) := ⟨_, rfl, rfl⟩
theorem o_3 : ∃ fs, WD[3]? = some (.inr (6, fs)) := ⟨_, rfl⟩
theorem s_3_0 : oSl WD 3 6 0 (some (some 4)) := ⟨_, rfl, rfl⟩
theorem s_3_1 : oSl WD 3 6 1 (some (some 5)) := ⟨_, rfl, rfl⟩
theorem s_3_2 : oSl WD 3 6 2 (none) := ⟨_, rfl, rfl⟩
theorem o_6 : ∃ fs, WD[6]? = some (.inr (3, fs)) := ⟨_, rfl⟩
theorem s_6_0 : oSl WD 6 3 0 (some (some 7)) := ⟨_, rfl, rfl⟩
theorem s_6_1 : oSl WD 6 3 1 (some (some 8)) := ⟨_, rfl, rfl⟩
theorem s_6_2 : oSl WD 6 3 2 (some (some 9)) := ⟨_, rfl, rfl⟩
theorem s_6_3 : oSl WD 6 3 3 (none) := ⟨_, rfl, rfl⟩
theorem s_6_4 : oSl WD 6 3 4 (none) := ⟨_, rfl, rfl⟩
theorem s_6_5 : oSl WD 6 3 5 (none) := ⟨_, rfl, rfl⟩
theorem s_6_6 : oSl WD 6 3 6 (none) := ⟨_, rfl, rfl⟩
theorem s_6_7 : oSl WD 6 3 7 (none) := ⟨_, rfl, rfl⟩
theorem s_6_8 : oSl WD 6 3 8 (none) := ⟨_, rfl, rfl⟩
theorem s_6_9 : oSl WD 6 3 9 (none) := ⟨_, rfl, rfl⟩
theorem s_6_10 : oSl WD 6 3 10 (none) := ⟨_, rfl, rfl⟩
theorem s_6_11 : oSl WD 6 3 11 (none) := ⟨_, rfl, rfl⟩
theorem o_10 : ∃ fs, WD[10]? = some (.inr (3, fs)) := ⟨_, rfl⟩
theorem s_10_0 : oSl WD 10 3 0 (some (some 11)) := ⟨_, rfl, rfl⟩
theorem s_10_1 : oSl WD 10 3 1 (some (some 12)) := ⟨_, rfl, rfl⟩
theorem s_10_2 : oSl WD 10 3 2 (some (some 13)) := ⟨_, rfl, rfl⟩
theorem s_10_3 : oSl WD 10 3 3 (none) := ⟨_, rfl, rfl⟩
theorem s_10_4 : oSl WD 10 3 4 (none) := ⟨_, rfl, rfl⟩
theorem s_10_5 : oSl WD 10 3 5 (none) := ⟨_, rfl, rfl⟩
theorem s_10_6 : oSl WD 10 3 6 (none) := ⟨_, rfl, rfl⟩
theorem s_10_7 : oSl WD 10 3 7 (none) := ⟨_, rfl, rfl⟩
theorem s_10_8 : oSl WD 10 3 8 (none) := ⟨_, rfl, rfl⟩
theorem s_10_9 : oSl WD 10 3 9 (none) := ⟨_, rfl, rfl⟩
theorem s_10_10 : oSl WD 10 3 10 (none) := ⟨_, rfl, rfl⟩
theorem s_10_11 : oSl WD 10 3 11 (none) := ⟨_, rfl, rfl⟩
theorem o_14 : ∃ fs, WD[14]? = some (.inr (3, fs)) := ⟨_, rfl⟩
theorem s_14_0 : oSl WD 14 3 0 (some (some 15)) := ⟨_, rfl, rfl⟩
theorem s_14_1 : oSl WD 14 3 1 (some (some 16)) := ⟨_, rfl, rfl⟩
theorem s_14_2 : oSl WD 14 3 2 (some (some 17)) := ⟨_, rfl, rfl⟩
theorem s_14_3 : oSl WD 14 3 3 (none) := ⟨_, rfl, rfl⟩
theorem s_14_4 : oSl WD 14 3 4 (none) := ⟨_, rfl, rfl⟩
theorem s_14_5 : oSl WD 14 3 5 (none) := ⟨_, rfl, rfl⟩
theorem s_14_6 : oSl WD 14 3 6 (none) := ⟨_, rfl, rfl⟩
theorem s_14_7 : oSl WD 14 3 7 (none) := ⟨_, rfl, rfl⟩
theorem s_14_8 : oSl WD 14 3 8 (none) := ⟨_, rfl, rfl⟩
theorem s_14_9 : oSl WD 14 3 9 (none) := ⟨_, rfl, rfl⟩
theorem s_14_10 : oSl WD 14 3 10 (none) := ⟨_, rfl, rfl⟩
theorem s_14_11 : oSl WD 14 3 11 (none) := ⟨_, rfl, rfl⟩
theorem o_18 : ∃ fs, WD[18]? = some (.inr (4, fs)) := ⟨_, rfl⟩
theorem s_18_0 : oSl WD 18 4 0 (some (some 3)) := ⟨_, rfl, rfl⟩
theorem s_18_1 : oSl WD 18 4 1 (some (some 19)) := ⟨_, rfl, rfl⟩
theorem s_18_2 : oSl WD 18 4 2 (some (some 20)) := ⟨_, rfl, rfl⟩
theorem s_18_3 : oSl WD 18 4 3 (some (some 21)) := ⟨_, rfl, rfl⟩
theorem s_18_4 : oSl WD 18 4 4 (some (some 22)) := ⟨_, rfl, rfl⟩
theorem s_18_5 : oSl WD 18 4 5 (some (some 23)) := ⟨_, rfl, rfl⟩
theorem s_18_6 : oSl WD 18 4 6 (some (some 24)) := ⟨_, rfl, rfl⟩
theorem s_18_7 : oSl WD 18 4 7 (some (some 25)) := ⟨_, rfl, rfl⟩
theorem s_18_8 : oSl WD 18 4 8 (some (some 26)) := ⟨_, rfl, rfl⟩
theorem s_18_9 : oSl WD 18 4 9 (none) := ⟨_, rfl, rfl⟩
theorem s_18_10 : oSl WD 18 4 10 (none) := ⟨_, rfl, rfl⟩
theorem o_27 : ∃ fs, WD[27]? = some (.inr (4, fs)) := ⟨_, rfl⟩
theorem s_27_1 : oSl WD 27 4 1 (some (some 28)) := ⟨_, rfl, rfl⟩
theorem s_27_2 : oSl WD 27 4 2 (some (some 29)) := ⟨_, rfl, rfl⟩
theorem s_27_3 : oSl WD 27 4 3 (some (some 30)) := ⟨_, rfl, rfl⟩
theorem s_27_4 : oSl WD 27 4 4 (some (some 31)) := ⟨_, rfl, rfl⟩
theorem s_27_5 : oSl WD 27 4 5 (some (some 32)) := ⟨_, rfl, rfl⟩
theorem s_27_6 : oSl WD 27 4 6 (some (some 33)) := ⟨_, rfl, rfl⟩
theorem s_27_9 : oSl WD 27 4 9 (none) := ⟨_, rfl, rfl⟩
theorem s_27_10 : oSl WD 27 4 10 (none) := ⟨_, rfl, rfl⟩
theorem o_36 : ∃ fs, WD[36]? = some (.inr (5, fs)) := ⟨_, rfl⟩
theorem s_36_0 : oSl WD 36 5 0 (some (some 1)) := ⟨_, rfl, rfl⟩
theorem s_36_1 : oSl WD 36 5 1 (some (some 27)) := ⟨_, rfl, rfl⟩
theorem o_37 : ∃ fs, WD[37]? = some (.inr (2, fs)) := ⟨_, rfl⟩
theorem s_37_0 : oSl WD 37 2 0 (some (some 1)) := ⟨_, rfl, rfl⟩
theorem s_37_1 : oSl WD 37 2 1 (some (some 3)) := ⟨_, rfl, rfl⟩
theorem s_37_2 : oSl WD 37 2 2 (some (some 38)) := ⟨_, rfl, rfl⟩
theorem o_39 : ∃ fs, WD[39]? = some (.inr (7, fs)) := ⟨_, rfl⟩
theorem s_39_0 : oSl WD 39 7 0 (some (some 1)) := ⟨_, rfl, rfl⟩
theorem s_39_1 : oSl WD 39 7 1 (some (some 40)) := ⟨_, rfl, rfl⟩
theorem s_39_2 : oSl WD 39 7 2 (none) := ⟨_, rfl, rfl⟩
theorem o_41 : ∃ fs, WD[41]? = some (.inr (1, fs)) := ⟨_, rfl⟩
theorem s_41_0 : oSl WD 41 1 0 (some (some 3)) := ⟨_, rfl, rfl⟩
theorem s_41_1 : oSl WD 41 1 1 (some (some 18)) := ⟨_, rfl, rfl⟩
theorem s_41_2 : oSl WD 41 1 2 (none) := ⟨_, rfl, rfl⟩
theorem s_41_3 : oSl WD 41 1 3 (none) := ⟨_, rfl, rfl⟩
theorem s_41_4 : oSl WD 41 1 4 (none) := ⟨_, rfl, rfl⟩
theorem s_41_5 : oSl WD 41 1 5 (none) := ⟨_, rfl, rfl⟩
theorem o_42 : ∃ fs, WD[42]? = some (.inr (8, fs)) := ⟨_, rfl⟩
theorem s_42_0 : oSl WD 42 8 0 (some (some 3)) := ⟨_, rfl, rfl⟩
theorem s_42_1 : oSl WD 42 8 1 (some (some 43)) := ⟨_, rfl, rfl⟩
theorem s_42_2 : oSl WD 42 8 2 (some (some 44)) := ⟨_, rfl, rfl⟩
theorem s_42_3 : oSl WD 42 8 3 (some (some 45)) := ⟨_, rfl, rfl⟩
theorem s_42_4 : oSl WD 42 8 4 (some (some 46)) := ⟨_, rfl, rfl⟩
theorem s_42_5 : oSl WD 42 8 5 (some (some 47)) := ⟨_, rfl, rfl⟩
theorem s_42_6 : oSl WD 42 8 6 (some (some 48)) := ⟨_, rfl, rfl⟩
theorem s_42_7 : oSl WD 42 8 7 (none) := ⟨_, rfl, rfl⟩
theorem o_49 : ∃ fs, WD[49]? = some (.inr (0, fs)) := ⟨_, rfl⟩
theorem s_49_0 : oSl WD 49 0 0 (some (some 3)) := ⟨_, rfl, rfl⟩
theorem s_49_1 : oSl WD 49 0 1 (some (some 50)) := ⟨_, rfl, rfl⟩
theorem s_49_2 : oSl WD 49 0 2 (some (some 51)) := ⟨_, rfl, rfl⟩
theorem s_49_3 : oSl WD 49 0 3 (some (some 52)) := ⟨_, rfl, rfl⟩
theorem s_49_4 : oSl WD 49 0 4 (some (some 53)) := ⟨_, rfl, rfl⟩
theorem s_49_5 : oSl WD 49 0 5 (some (some 54)) := ⟨_, rfl, rfl⟩
theorem s_49_6 : oSl WD 49 0 6 (some (some 55)) := ⟨_, rfl, rfl⟩
theorem s_49_7 : oSl WD 49 0 7 (some (some 56)) := ⟨_, rfl, rfl⟩
theorem s_49_8 : oSl WD 49 0 8 (none) := ⟨_, rfl, rfl⟩
theorem o_57 : ∃ fs, WD[57]? = some (.inr (11, fs)) := ⟨_, rfl⟩
theorem s_57_0 : oSl WD 57 11 0 (some (some 58)) := ⟨_, rfl, rfl⟩
theorem s_57_1 : oSl WD 57 11 1 (some (some 59)) := ⟨_, rfl, rfl⟩
theorem s_57_2 : oSl WD 57 11 2 (some (some 60)) := ⟨_, rfl, rfl⟩
theorem s_57_3 : oSl WD 57 11 3 (some (some 61)) := ⟨_, rfl, rfl⟩
theorem s_57_4 : oSl WD 57 11 4 (some (some 62)) := ⟨_, rfl, rfl⟩
theorem s_57_5 : oSl WD 57 11 5 (none) := ⟨_, rfl, rfl⟩
theorem s_57_6 : oSl WD 57 11 6 (some (some 63)) := ⟨_, rfl, rfl⟩
theorem s_57_7 : oSl WD 57 11 7 (none) := ⟨_, rfl, rfl⟩
theorem s_57_8 : oSl WD 57 11 8 (none) := ⟨_, rfl, rfl⟩
theorem s_57_9 : oSl WD 57 11 9 (none) := ⟨_, rfl, rfl⟩
theorem s_57_10 : oSl WD 57 11 10 (none) := ⟨_, rfl, rfl⟩
theorem s_57_11 : oSl WD 57 11 11 (none) := ⟨_, rfl, rfl⟩
theorem s_57_12 : oSl WD 57 11 12 (none) := ⟨_, rfl, rfl⟩
theorem s_57_13 : oSl WD 57 11 13 (none) := ⟨_, rfl, rfl⟩
theorem s_57_14 : oSl WD 57 11 14 (none) := ⟨_, rfl, rfl⟩
theorem s_57_15 : oSl WD 57 11 15 (none) := ⟨_, rfl, rfl⟩
theorem s_57_16 : oSl WD 57 11 16 (none) := ⟨_, rfl, rfl⟩
theorem s_57_17 : oSl WD 57 11 17 (some (some 64)) := ⟨_, rfl, rfl⟩
theorem s_57_18 : oSl WD 57 11 18 (some (some 65)) := ⟨_, rfl, rfl⟩
theorem s_57_19 : oSl WD 57 11 19 (some (some 66)) := ⟨_, rfl, rfl⟩
theorem s_57_20 : oSl WD 57 11 20 (some (some 67)) := ⟨_, rfl, rfl⟩
theorem s_57_21 : oSl WD 57 11 21 (some (some 68)) := ⟨_, rfl, rfl⟩
theorem s_57_22 : oSl WD 57 11 22 (some (some 69)) := ⟨_, rfl, rfl⟩
theorem s_57_23 : oSl WD 57 11 23 (some (some 70)) := ⟨_, rfl, rfl⟩
theorem s_57_24 : oSl WD 57 11 24 (some (some 71)) := ⟨_, rfl, rfl⟩
theorem s_57_25 : oSl WD 57 11 25 (some (some 72)) := ⟨_, rfl, rfl⟩
theorem s_57_26 : oSl WD 57 11 26 (some (some 73)) := ⟨_, rfl, rfl⟩
theorem s_57_27 : oSl WD 57 11 27 (some (some 74)) := ⟨_, rfl, rfl⟩
theorem s_57_28 : oSl WD 57 11 28 (some (some 75)) := ⟨_, rfl, rfl⟩
theorem s_57_29 : oSl WD 57 11 29 (some (some 76)) := ⟨_, rfl, rfl⟩
theorem s_57_30 : oSl WD 57 11 30 (some (some 77)) := ⟨_, rfl, rfl⟩
theorem s_57_31 : oSl WD 57 11 31 (none) := ⟨_, rfl, rfl⟩
theorem s_57_32 : oSl WD 57 11 32 (none) := ⟨_, rfl, rfl⟩
theorem s_57_33 : oSl WD 57 11 33 (none) := ⟨_, rfl, rfl⟩
theorem s_57_34 : oSl WD 57 11 34 (none) := ⟨_, rfl, rfl⟩
theorem s_57_35 : oSl WD 57 11 35 (none) := ⟨_, rfl, rfl⟩
theorem s_57_36 : oSl WD 57 11 36 (some (some 78)) := ⟨_, rfl, rfl⟩
theorem s_57_37 : oSl WD 57 11 37 (some (some 79)) := ⟨_, rfl, rfl⟩
theorem s_57_38 : oSl WD 57 11 38 (some (some 80)) := ⟨_, rfl, rfl⟩
theorem s_57_39 : oSl WD 57 11 39 (some (some 81)) := ⟨_, rfl, rfl⟩
theorem s_57_40 : oSl WD 57 11 40 (none) := ⟨_, rfl, rfl⟩
theorem s_57_41 : oSl WD 57 11 41 (none) := ⟨_, rfl, rfl⟩
theorem s_57_42 : oSl WD 57 11 42 (none) := ⟨_, rfl, rfl⟩
theorem s_57_43 : oSl WD 57 11 43 (none) := ⟨_, rfl, rfl⟩
theorem s_57_44 : oSl WD 57 11 44 (none) := ⟨_, rfl, rfl⟩
theorem s_57_45 : oSl WD 57 11 45 (none) := ⟨_, rfl, rfl⟩
theorem s_57_46 : oSl WD 57 11 46 (some (some 82)) := ⟨_, rfl, rfl⟩
theorem s_57_47 : oSl WD 57 11 47 (some (some 83)) := ⟨_, rfl, rfl⟩
theorem s_57_48 : oSl WD 57 11 48 (some (some 84)) := ⟨_, rfl, rfl⟩
theorem s_57_49 : oSl WD 57 11 49 (some (some 85)) := ⟨_, rfl, rfl⟩
theorem s_57_50 : oSl WD 57 11 50 (none) := ⟨_, rfl, rfl⟩
theorem s_57_51 : oSl WD 57 11 51 (some (some 86)) := ⟨_, rfl, rfl⟩
theorem s_57_52 : oSl WD 57 11 52 (some (some 87)) := ⟨_, rfl, rfl⟩
theorem s_57_53 : oSl WD 57 11 53 (some (some 88)) := ⟨_, rfl, rfl⟩
theorem s_57_54 : oSl WD 57 11 54 (some (some 89)) := ⟨_, rfl, rfl⟩
theorem s_57_55 : oSl WD 57 11 55 (some (some 90)) := ⟨_, rfl, rfl⟩
theorem s_57_56 : oSl WD 57 11 56 (some (some 91)) := ⟨_, rfl, rfl⟩
theorem s_57_57 : oSl WD 57 11 57 (some (some 92)) := ⟨_, rfl, rfl⟩
theorem s_57_58 : oSl WD 57 11 58 (none) := ⟨_, rfl, rfl⟩
theorem s_57_59 : oSl WD 57 11 59 (some (some 93)) := ⟨_, rfl, rfl⟩
theorem s_57_60 : oSl WD 57 11 60 (some (some 94)) := ⟨_, rfl, rfl⟩
theorem s_57_61 : oSl WD 57 11 61 (none) := ⟨_, rfl, rfl⟩
theorem a_2 : WD[2]? = some (.inl (false, 260)) := rfl
theorem a_4 : WD[4]? = some (.inl (false, 10)) := rfl
theorem a_5 : WD[5]? = some (.inl (false, 10)) := rfl
theorem a_7 : WD[7]? = some (.inl (false, 100)) := rfl
theorem a_8 : WD[8]? = some (.inl (false, 10)) := rfl
theorem a_9 : WD[9]? = some (.inl (false, 40)) := rfl
theorem a_11 : WD[11]? = some (.inl (false, 100)) := rfl
theorem a_12 : WD[12]? = some (.inl (false, 10)) := rfl
theorem a_13 : WD[13]? = some (.inl (false, 40)) := rfl
theorem a_15 : WD[15]? = some (.inl (false, 100)) := rfl
theorem a_16 : WD[16]? = some (.inl (false, 10)) := rfl
theorem a_17 : WD[17]? = some (.inl (false, 40)) := rfl
theorem a_19 : WD[19]? = some (.inl (false, 240)) := rfl
theorem a_20 : WD[20]? = some (.inl (false, 240)) := rfl
theorem a_21 : WD[21]? = some (.inl (false, 16)) := rfl
theorem a_22 : WD[22]? = some (.inl (false, 16)) := rfl
theorem a_23 : WD[23]? = some (.inl (false, 16)) := rfl
theorem a_24 : WD[24]? = some (.inl (false, 16)) := rfl
theorem a_25 : WD[25]? = some (.inl (false, 8)) := rfl
theorem a_26 : WD[26]? = some (.inl (false, 64)) := rfl
theorem a_28 : WD[28]? = some (.inl (false, 240)) := rfl
theorem a_29 : WD[29]? = some (.inl (false, 240)) := rfl
theorem a_30 : WD[30]? = some (.inl (false, 16)) := rfl
theorem a_31 : WD[31]? = some (.inl (false, 16)) := rfl
theorem a_32 : WD[32]? = some (.inl (false, 16)) := rfl
theorem a_33 : WD[33]? = some (.inl (false, 16)) := rfl
theorem a_38 : WD[38]? = some (.inl (false, 100)) := rfl
theorem a_40 : WD[40]? = some (.inl (false, 60)) := rfl
theorem a_43 : WD[43]? = some (.inl (false, 100)) := rfl
theorem a_44 : WD[44]? = some (.inl (false, 100)) := rfl
theorem a_45 : WD[45]? = some (.inl (false, 8)) := rfl
theorem a_46 : WD[46]? = some (.inl (false, 10)) := rfl
theorem a_47 : WD[47]? = some (.inl (false, 60)) := rfl
theorem a_48 : WD[48]? = some (.inl (false, 12)) := rfl
theorem a_50 : WD[50]? = some (.inl (false, 10)) := rfl
theorem a_51 : WD[51]? = some (.inl (false, 10)) := rfl
theorem a_52 : WD[52]? = some (.inl (false, 6)) := rfl
theorem a_53 : WD[53]? = some (.inl (false, 6)) := rfl
theorem a_54 : WD[54]? = some (.inl (false, 6)) := rfl
theorem a_55 : WD[55]? = some (.inl (false, 12)) := rfl
theorem a_56 : WD[56]? = some (.inl (false, 1024)) := rfl
theorem a_58 : WD[58]? = some (.inl (false, 159)) := rfl
theorem a_59 : WD[59]? = some (.inl (false, 159)) := rfl
theorem a_60 : WD[60]? = some (.inl (false, 159)) := rfl
theorem a_61 : WD[61]? = some (.inl (false, 10)) := rfl
theorem a_62 : WD[62]? = some (.inl (false, 10)) := rfl
theorem a_63 : WD[63]? = some (.inl (true, 260)) := rfl
theorem a_64 : WD[64]? = some (.inl (false, 260)) := rfl
theorem a_65 : WD[65]? = some (.inl (false, 260)) := rfl
theorem a_66 : WD[66]? = some (.inl (false, 16)) := rfl
theorem a_67 : WD[67]? = some (.inl (false, 16)) := rfl
theorem a_68 : WD[68]? = some (.inl (false, 16)) := rfl
theorem a_69 : WD[69]? = some (.inl (false, 16)) := rfl
theorem a_70 : WD[70]? = some (.inl (false, 260)) := rfl
theorem a_71 : WD[71]? = some (.inl (false, 16)) := rfl
theorem a_72 : WD[72]? = some (.inl (false, 16)) := rfl
theorem a_73 : WD[73]? = some (.inl (false, 16)) := rfl
theorem a_74 : WD[74]? = some (.inl (false, 16)) := rfl
theorem a_75 : WD[75]? = some (.inl (false, 260)) := rfl
theorem a_76 : WD[76]? = some (.inl (false, 8)) := rfl
theorem a_77 : WD[77]? = some (.inl (false, 100)) := rfl
theorem a_78 : WD[78]? = some (.inl (false, 60)) := rfl
theorem a_79 : WD[79]? = some (.inl (false, 2)) := rfl
theorem a_80 : WD[80]? = some (.inl (false, 2)) := rfl
theorem a_81 : WD[81]? = some (.inl (false, 2)) := rfl
theorem a_82 : WD[82]? = some (.inl (false, 100)) := rfl
theorem a_83 : WD[83]? = some (.inl (false, 60)) := rfl
theorem a_84 : WD[84]? = some (.inl (false, 12)) := rfl
theorem a_85 : WD[85]? = some (.inl (false, 12)) := rfl
theorem a_86 : WD[86]? = some (.inl (true, 40960)) := rfl
theorem a_87 : WD[87]? = some (.inl (false, 100)) := rfl
theorem a_88 : WD[88]? = some (.inl (false, 100)) := rfl
theorem a_89 : WD[89]? = some (.inl (false, 6)) := rfl
theorem a_90 : WD[90]? = some (.inl (false, 6)) := rfl
theorem a_91 : WD[91]? = some (.inl (false, 6)) := rfl
theorem a_92 : WD[92]? = some (.inl (false, 6)) := rfl
theorem a_93 : WD[93]? = some (.inl (false, 1024)) := rfl
theorem a_94 : WD[94]? = some (.inl (false, 1024)) := rfl
end
section
/-! named values, Math, the text constant as functions -/
/-- a value is named -/
def lt {α β : Type} (v : α) (k : α → Option β) : Option β := k v
theorem okp_lt {α β : Type} {v : α} {k : α → Option β} {K : β → Prop} (h : okp (lt v k) K) : okp (k v) K := h
def imax (a b : Int) : Int := if a < b then b else a
def imin (a b : Int) : Int := if b < a then b else a
def iabs (a : Int) : Int := if 0 ≤ a then a else w32 (0 - a)
def tx8 (i : Int) : Int := if i = 0 then 104 else if i = 1 then 99 else if i = 2 then 110 else if i = 3 then 111 else if i = 4 then 119 else if i = 5 then 103 else if i = 6 then 116 else 121
/-- a receiver of class String outside -/
def oClO (own : String) (idx : Nat) (y : oMI) (np : Nat) : Prop := oLk own idx y ∧ Cond.instanceMethod y.1 ∈ oT ∧ Cond.selects y.1.cls y.1 y.1 ∈ oT ∧ oCo y np ∧ y.1.cls = "java/lang/String"
end
section
/-! the methods (by program out of the claim's papers) -/
abbrev m_O_isOne : oMI := (⟨"OneCoin", "isOne", "(I)Z"⟩, prog_1_method_35_code, 1, some .boolean)
abbrev m_P_settle : oMI := (⟨"OneCoin$People", "settle", "(III)V"⟩, prog_8_method_2_code, 4, none)
abbrev m_O_person : oMI := (⟨"OneCoin", "person", "(III)Z"⟩, prog_1_method_2_code, 4, some .boolean)
abbrev m_M_in : oMI := (⟨"OneCoinModel", "in", "(III)Z"⟩, prog_13_method_2_code, 3, some .boolean)
abbrev m_M_person : oMI := (⟨"OneCoinModel", "person", "(III)Z"⟩, prog_13_method_16_code, 4, some .boolean)
abbrev m_P_has : oMI := (⟨"OneCoin$People", "has", "(I)Z"⟩, prog_8_method_3_code, 2, some .boolean)
abbrev m_P_hasBoth : oMI := (⟨"OneCoin$People", "hasBoth", "(II)Z"⟩, prog_8_method_4_code, 3, some .boolean)
abbrev m_O_debt : oMI := (⟨"OneCoin", "debt", "(III)Z"⟩, prog_1_method_3_code, 4, some .boolean)
abbrev m_M_has : oMI := (⟨"OneCoinModel", "has", "(II)Z"⟩, prog_13_method_6_code, 2, some .boolean)
abbrev m_M_isPerson : oMI := (⟨"OneCoinModel", "isPerson", "(I)Z"⟩, prog_13_method_9_code, 2, some .boolean)
abbrev m_M_areTwo : oMI := (⟨"OneCoinModel", "areTwo", "(II)Z"⟩, prog_13_method_10_code, 3, some .boolean)
abbrev m_M_debt : oMI := (⟨"OneCoinModel", "debt", "(III)Z"⟩, prog_13_method_17_code, 4, some .boolean)
abbrev m_D_giveTo : oMI := (⟨"OneCoin$Duchy", "giveTo", "(I)V"⟩, prog_5_method_3_code, 2, none)
abbrev m_O_coin : oMI := (⟨"OneCoin", "coin", "(I)Z"⟩, prog_1_method_4_code, 2, some .boolean)
abbrev m_M_rests : oMI := (⟨"OneCoinModel", "rests", "(I)V"⟩, prog_13_method_18_code, 2, none)
abbrev m_M_coin : oMI := (⟨"OneCoinModel", "coin", "(I)Z"⟩, prog_13_method_19_code, 2, some .boolean)
abbrev m_T_add : oMI := (⟨"OneCoin$Tape", "add", "(I)V"⟩, prog_11_method_3_code, 3, none)
abbrev m_T_size : oMI := (⟨"OneCoin$Tape", "size", "()I"⟩, prog_11_method_2_code, 1, some .int)
abbrev m_O_feed : oMI := (⟨"OneCoin", "feed", "(IIIII)I"⟩, prog_1_method_5_code, 6, some .int)
abbrev m_M_types : oMI := (⟨"OneCoinModel", "types", "(I)V"⟩, prog_13_method_20_code, 3, none)
abbrev m_M_feed : oMI := (⟨"OneCoinModel", "feed", "(IIIII)I"⟩, prog_13_method_21_code, 6, some .int)
abbrev m_L_takeFrom : oMI := (⟨"OneCoin$Law", "takeFrom", "(LOneCoin$Law;)V"⟩, prog_6_method_2_code, 2, none)
abbrev m_L_landHere : oMI := (⟨"OneCoin$Law", "landHere", "(I)V"⟩, prog_6_method_4_code, 2, none)
abbrev m_L_put : oMI := (⟨"OneCoin$Law", "put", "(II)I"⟩, prog_6_method_3_code, 3, some .int)
abbrev m_T_faultAt : oMI := (⟨"OneCoin$Tape", "faultAt", "(II)I"⟩, prog_11_method_13_code, 3, some .int)
abbrev m_T_fault : oMI := (⟨"OneCoin$Tape", "fault", "(I)I"⟩, prog_11_method_12_code, 2, some .int)
abbrev m_T_next : oMI := (⟨"OneCoin$Tape", "next", "()I"⟩, prog_11_method_6_code, 1, some .int)
abbrev m_T_nextIsDigit : oMI := (⟨"OneCoin$Tape", "nextIsDigit", "()Z"⟩, prog_11_method_11_code, 1, some .boolean)
abbrev m_T_step : oMI := (⟨"OneCoin$Tape", "step", "()V"⟩, prog_11_method_7_code, 1, none)
abbrev m_LR_readDigits : oMI := (⟨"OneCoin$LawReader", "readDigits", "()I"⟩, prog_7_method_9_code, 3, some .int)
abbrev m_JS_isLatin1 : oMI := (⟨"java/lang/String", "isLatin1", "()Z"⟩, prog_17_method_154_code, 1, some .boolean)
abbrev m_JS_coder : oMI := (⟨"java/lang/String", "coder", "()B"⟩, prog_17_method_152_code, 1, some .byte)
abbrev m_JS_length : oMI := (⟨"java/lang/String", "length", "()I"⟩, prog_17_method_54_code, 1, some .int)
abbrev m_JL_canEncode : oMI := (⟨"java/lang/StringLatin1", "canEncode", "(I)Z"⟩, prog_18_method_4_code, 1, some .boolean)
abbrev m_JL_indexOfChar : oMI := (⟨"java/lang/StringLatin1", "indexOfChar", "([BIII)I"⟩, prog_18_method_23_code, 6, some .int)
abbrev m_JL_indexOf : oMI := (⟨"java/lang/StringLatin1", "indexOf", "([BIII)I"⟩, prog_18_method_22_code, 4, some .int)
abbrev m_JS_indexOf2 : oMI := (⟨"java/lang/String", "indexOf", "(II)I"⟩, prog_17_method_80_code, 3, some .int)
abbrev m_JS_indexOf : oMI := (⟨"java/lang/String", "indexOf", "(I)I"⟩, prog_17_method_79_code, 2, some .int)
abbrev m_LR_readFactor : oMI := (⟨"OneCoin$LawReader", "readFactor", "(I)I"⟩, prog_7_method_8_code, 4, some .int)
abbrev m_LR_readNumber : oMI := (⟨"OneCoin$LawReader", "readNumber", "(I)I"⟩, prog_7_method_7_code, 7, some .int)
abbrev m_LR_readPlainTest : oMI := (⟨"OneCoin$LawReader", "readPlainTest", "(I)I"⟩, prog_7_method_6_code, 4, some .int)
abbrev m_LR_readTest : oMI := (⟨"OneCoin$LawReader", "readTest", "(I)I"⟩, prog_7_method_5_code, 5, some .int)
abbrev m_LR_readCondition : oMI := (⟨"OneCoin$LawReader", "readCondition", "(I)I"⟩, prog_7_method_4_code, 7, some .int)
abbrev m_LR_readRule : oMI := (⟨"OneCoin$LawReader", "readRule", "(I)I"⟩, prog_7_method_3_code, 4, some .int)
abbrev m_T_ended : oMI := (⟨"OneCoin$Tape", "ended", "()Z"⟩, prog_11_method_8_code, 1, some .boolean)
abbrev m_LR_read : oMI := (⟨"OneCoin$LawReader", "read", "()I"⟩, prog_7_method_2_code, 3, some .int)
abbrev m_T_clear : oMI := (⟨"OneCoin$Tape", "clear", "()V"⟩, prog_11_method_4_code, 1, none)
abbrev m_T_opens : oMI := (⟨"OneCoin$Tape", "opens", "(III)Z"⟩, prog_11_method_5_code, 4, some .boolean)
abbrev m_O_law : oMI := (⟨"OneCoin", "law", "(I)I"⟩, prog_1_method_6_code, 3, some .int)
abbrev m_M_here : oMI := (⟨"OneCoinModel", "here", "()I"⟩, prog_13_method_22_code, 1, some .int)
abbrev m_M_notes : oMI := (⟨"OneCoinModel", "notes", "(II)V"⟩, prog_13_method_27_code, 3, none)
abbrev m_M_waitTop : oMI := (⟨"OneCoinModel", "waitTop", "()I"⟩, prog_13_method_29_code, 1, some .int)
abbrev m_M_endsPiece : oMI := (⟨"OneCoinModel", "endsPiece", "()V"⟩, prog_13_method_36_code, 1, none)
abbrev m_M_jumps : oMI := (⟨"OneCoinModel", "jumps", "(I)V"⟩, prog_13_method_38_code, 2, none)
abbrev m_M_lands : oMI := (⟨"OneCoinModel", "lands", "(Z)V"⟩, prog_13_method_37_code, 3, none)
abbrev m_M_wrongAt : oMI := (⟨"OneCoinModel", "wrongAt", "(II)Z"⟩, prog_13_method_24_code, 3, some .boolean)
abbrev m_M_opens : oMI := (⟨"OneCoinModel", "opens", "(I)Z"⟩, prog_13_method_28_code, 2, some .boolean)
abbrev m_M_closesSums : oMI := (⟨"OneCoinModel", "closesSums", "(Z)V"⟩, prog_13_method_32_code, 2, none)
abbrev m_M_hasOpenSum : oMI := (⟨"OneCoinModel", "hasOpenSum", "(I)Z"⟩, prog_13_method_34_code, 3, some .boolean)
abbrev m_M_factOf : oMI := (⟨"OneCoinModel", "factOf", "(I)I"⟩, prog_13_method_30_code, 1, some .int)
abbrev m_M_isDigit : oMI := (⟨"OneCoinModel", "isDigit", "()Z"⟩, prog_13_method_23_code, 1, some .boolean)
abbrev m_M_readsNumber : oMI := (⟨"OneCoinModel", "readsNumber", "()Z"⟩, prog_13_method_26_code, 2, some .boolean)
abbrev m_M_readsFactor : oMI := (⟨"OneCoinModel", "readsFactor", "()Z"⟩, prog_13_method_33_code, 2, some .boolean)
abbrev m_M_sumSign : oMI := (⟨"OneCoinModel", "sumSign", "(I)I"⟩, prog_13_method_31_code, 1, some .int)
abbrev m_M_readsSum : oMI := (⟨"OneCoinModel", "readsSum", "()Z"⟩, prog_13_method_35_code, 3, some .boolean)
abbrev m_M_readsCompared : oMI := (⟨"OneCoinModel", "readsCompared", "()Z"⟩, prog_13_method_39_code, 2, some .boolean)
abbrev m_M_readsCondition : oMI := (⟨"OneCoinModel", "readsCondition", "()Z"⟩, prog_13_method_40_code, 1, some .boolean)
abbrev m_M_readsRule : oMI := (⟨"OneCoinModel", "readsRule", "()Z"⟩, prog_13_method_41_code, 2, some .boolean)
abbrev m_M_takes : oMI := (⟨"OneCoinModel", "takes", "(I)Z"⟩, prog_13_method_25_code, 2, some .boolean)
abbrev m_M_law : oMI := (⟨"OneCoinModel", "law", "(I)I"⟩, prog_13_method_42_code, 4, some .int)
abbrev m_T_place : oMI := (⟨"OneCoin$Tape", "place", "()I"⟩, prog_11_method_9_code, 1, some .int)
abbrev m_DR_readMany : oMI := (⟨"OneCoin$DebtsReader", "readMany", "(I)I"⟩, prog_4_method_4_code, 5, some .int)
abbrev m_T_nextOne : oMI := (⟨"OneCoin$Tape", "nextOne", "()I"⟩, prog_11_method_10_code, 2, some .int)
abbrev m_DR_readLine : oMI := (⟨"OneCoin$DebtsReader", "readLine", "(I)I"⟩, prog_4_method_3_code, 4, some .int)
abbrev m_JA_fill : oMI := (⟨"java/util/Arrays", "fill", "([II)V"⟩, prog_21_method_103_code, 4, none)
abbrev m_DR_read : oMI := (⟨"OneCoin$DebtsReader", "read", "()I"⟩, prog_4_method_2_code, 3, some .int)
abbrev m_D_owedInAll : oMI := (⟨"OneCoin$Duchy", "owedInAll", "()I"⟩, prog_5_method_12_code, 3, some .int)
abbrev m_O_debts : oMI := (⟨"OneCoin", "debts", "(I)I"⟩, prog_1_method_7_code, 3, some .int)
abbrev m_M_debtOf : oMI := (⟨"OneCoinModel", "debtOf", "(II)I"⟩, prog_13_method_12_code, 3, some .int)
abbrev m_M_owesAll : oMI := (⟨"OneCoinModel", "owesAll", "(I)I"⟩, prog_13_method_13_code, 4, some .int)
abbrev m_M_owedInAll : oMI := (⟨"OneCoinModel", "owedInAll", "()I"⟩, prog_13_method_15_code, 3, some .int)
abbrev m_M_min : oMI := (⟨"OneCoinModel", "min", "(II)I"⟩, prog_13_method_3_code, 2, some .int)
abbrev m_M_readsPerson : oMI := (⟨"OneCoinModel", "readsPerson", "(Z)Z"⟩, prog_13_method_52_code, 2, some .boolean)
abbrev m_M_readsLine : oMI := (⟨"OneCoinModel", "readsLine", "()Z"⟩, prog_13_method_53_code, 5, some .boolean)
abbrev m_M_debts : oMI := (⟨"OneCoinModel", "debts", "(I)I"⟩, prog_13_method_54_code, 4, some .int)
abbrev m_O_areHours : oMI := (⟨"OneCoin", "areHours", "(I)Z"⟩, prog_1_method_36_code, 1, some .boolean)
abbrev m_D_draw : oMI := (⟨"OneCoin$Duchy", "draw", "()I"⟩, prog_5_method_13_code, 1, some .int)
abbrev m_L_joined : oMI := (⟨"OneCoin$Law", "joined", "(III)I"⟩, prog_6_method_11_code, 3, some .int)
abbrev m_L_reckoned : oMI := (⟨"OneCoin$Law", "reckoned", "(II)I"⟩, prog_6_method_10_code, 9, some .int)
abbrev m_L_firstOf : oMI := (⟨"OneCoin$Law", "firstOf", "(II)I"⟩, prog_6_method_9_code, 5, some .int)
abbrev m_D_debtOf : oMI := (⟨"OneCoin$Duchy", "debtOf", "(II)I"⟩, prog_5_method_7_code, 3, some .int)
abbrev m_D_owedBy : oMI := (⟨"OneCoin$Duchy", "owedBy", "(I)I"⟩, prog_5_method_9_code, 4, some .int)
abbrev m_D_timesChalked : oMI := (⟨"OneCoin$Duchy", "timesChalked", "(I)I"⟩, prog_5_method_8_code, 4, some .int)
abbrev m_P_way : oMI := (⟨"OneCoin$People", "way", "(II)I"⟩, prog_8_method_5_code, 3, some .int)
abbrev m_L_look : oMI := (⟨"OneCoin$Law", "look", "(LOneCoin$Duchy;II)V"⟩, prog_6_method_8_code, 4, none)
abbrev m_L_growth : oMI := (⟨"OneCoin$Law", "growth", "(LOneCoin$Duchy;II)I"⟩, prog_6_method_6_code, 4, some .int)
abbrev m_L_rain : oMI := (⟨"OneCoin$Law", "rain", "(I)I"⟩, prog_6_method_7_code, 2, some .int)
abbrev m_C_beginDay : oMI := (⟨"OneCoin$Clock", "beginDay", "(LOneCoin$Duchy;)V"⟩, prog_3_method_4_code, 5, none)
abbrev m_D_sendTo : oMI := (⟨"OneCoin$Duchy", "sendTo", "(II)V"⟩, prog_5_method_4_code, 3, none)
abbrev m_L_liking : oMI := (⟨"OneCoin$Law", "liking", "(LOneCoin$Duchy;II)I"⟩, prog_6_method_5_code, 5, some .int)
abbrev m_C_setOut : oMI := (⟨"OneCoin$Clock", "setOut", "(LOneCoin$Duchy;)V"⟩, prog_3_method_6_code, 7, none)
abbrev m_D_write : oMI := (⟨"OneCoin$Duchy", "write", "(I)V"⟩, prog_5_method_6_code, 2, none)
abbrev m_D_pay : oMI := (⟨"OneCoin$Duchy", "pay", "(II)V"⟩, prog_5_method_5_code, 3, none)
abbrev m_C_travel : oMI := (⟨"OneCoin$Clock", "travel", "(LOneCoin$Duchy;)V"⟩, prog_3_method_5_code, 2, none)
abbrev m_C_tick : oMI := (⟨"OneCoin$Clock", "tick", "(LOneCoin$Duchy;)V"⟩, prog_3_method_3_code, 2, none)
abbrev m_C_pass : oMI := (⟨"OneCoin$Clock", "pass", "(LOneCoin$Duchy;I)V"⟩, prog_3_method_2_code, 4, none)
abbrev m_O_hours : oMI := (⟨"OneCoin", "hours", "(I)I"⟩, prog_1_method_8_code, 2, some .int)
abbrev m_M_begins : oMI := (⟨"OneCoinModel", "begins", "()V"⟩, prog_13_method_62_code, 1, none)
abbrev m_M_reckon : oMI := (⟨"OneCoinModel", "reckon", "(III)I"⟩, prog_13_method_43_code, 3, some .int)
abbrev m_M_comesTo : oMI := (⟨"OneCoinModel", "comesTo", "(II)I"⟩, prog_13_method_44_code, 8, some .int)
abbrev m_M_byLaw : oMI := (⟨"OneCoinModel", "byLaw", "(II)I"⟩, prog_13_method_45_code, 5, some .int)
abbrev m_M_chalksOf : oMI := (⟨"OneCoinModel", "chalksOf", "(I)I"⟩, prog_13_method_47_code, 4, some .int)
abbrev m_M_feels : oMI := (⟨"OneCoinModel", "feels", "(I)V"⟩, prog_13_method_48_code, 3, none)
abbrev m_M_max : oMI := (⟨"OneCoinModel", "max", "(II)I"⟩, prog_13_method_4_code, 2, some .int)
abbrev m_M_size : oMI := (⟨"OneCoinModel", "size", "(I)I"⟩, prog_13_method_5_code, 1, some .int)
abbrev m_M_wayOf : oMI := (⟨"OneCoinModel", "wayOf", "(II)I"⟩, prog_13_method_11_code, 3, some .int)
abbrev m_M_feelsTwo : oMI := (⟨"OneCoinModel", "feelsTwo", "(II)V"⟩, prog_13_method_49_code, 3, none)
abbrev m_M_rainBy : oMI := (⟨"OneCoinModel", "rainBy", "()I"⟩, prog_13_method_51_code, 1, some .int)
abbrev m_M_dayBegins : oMI := (⟨"OneCoinModel", "dayBegins", "()V"⟩, prog_13_method_57_code, 4, none)
abbrev m_M_holdsAny : oMI := (⟨"OneCoinModel", "holdsAny", "(I)Z"⟩, prog_13_method_46_code, 3, some .boolean)
abbrev m_M_likesBy : oMI := (⟨"OneCoinModel", "likesBy", "(II)I"⟩, prog_13_method_50_code, 3, some .int)
abbrev m_M_nextPaid : oMI := (⟨"OneCoinModel", "nextPaid", "(I)I"⟩, prog_13_method_58_code, 6, some .int)
abbrev m_M_setsOut : oMI := (⟨"OneCoinModel", "setsOut", "(II)V"⟩, prog_13_method_59_code, 3, none)
abbrev m_M_holds : oMI := (⟨"OneCoinModel", "holds", "(I)V"⟩, prog_13_method_60_code, 3, none)
abbrev m_M_chalks : oMI := (⟨"OneCoinModel", "chalks", "(I)V"⟩, prog_13_method_55_code, 3, none)
abbrev m_M_pays : oMI := (⟨"OneCoinModel", "pays", "(II)V"⟩, prog_13_method_56_code, 3, none)
abbrev m_M_hourGoes : oMI := (⟨"OneCoinModel", "hourGoes", "()V"⟩, prog_13_method_61_code, 1, none)
abbrev m_M_hoursGo : oMI := (⟨"OneCoinModel", "hoursGo", "(I)V"⟩, prog_13_method_63_code, 3, none)
abbrev m_M_hours : oMI := (⟨"OneCoinModel", "hours", "(I)I"⟩, prog_13_method_64_code, 2, some .int)
abbrev m_D_takeFrom : oMI := (⟨"OneCoin$Duchy", "takeFrom", "(LOneCoin$Duchy;)V"⟩, prog_5_method_2_code, 2, none)
abbrev m_O_tried : oMI := (⟨"OneCoin", "tried", "(II)I"⟩, prog_1_method_9_code, 4, some .int)
abbrev m_M_copies : oMI := (⟨"OneCoinModel", "copies", "([I[I)V"⟩, prog_13_method_8_code, 3, none)
abbrev m_M_tried : oMI := (⟨"OneCoinModel", "tried", "(II)I"⟩, prog_13_method_65_code, 4, some .int)
abbrev m_D_owedTo : oMI := (⟨"OneCoin$Duchy", "owedTo", "(I)I"⟩, prog_5_method_10_code, 4, some .int)
abbrev m_O_personIs : oMI := (⟨"OneCoin", "personIs", "(II)I"⟩, prog_1_method_10_code, 3, some .int)
abbrev m_M_getsAll : oMI := (⟨"OneCoinModel", "getsAll", "(I)I"⟩, prog_13_method_14_code, 4, some .int)
abbrev m_M_personIs : oMI := (⟨"OneCoinModel", "personIs", "(II)I"⟩, prog_13_method_66_code, 3, some .int)
abbrev m_O_owes : oMI := (⟨"OneCoin", "owes", "(II)I"⟩, prog_1_method_11_code, 3, some .int)
abbrev m_M_owes : oMI := (⟨"OneCoinModel", "owes", "(II)I"⟩, prog_13_method_67_code, 3, some .int)
abbrev m_O_likes : oMI := (⟨"OneCoin", "likes", "(II)I"⟩, prog_1_method_12_code, 3, some .int)
abbrev m_M_likes : oMI := (⟨"OneCoinModel", "likes", "(II)I"⟩, prog_13_method_68_code, 3, some .int)
abbrev m_RR_repeat : oMI := (⟨"OneCoin$RouteReader", "repeat", "(II)Z"⟩, prog_9_method_5_code, 6, some .boolean)
abbrev m_RR_readPaying : oMI := (⟨"OneCoin$RouteReader", "readPaying", "(I)I"⟩, prog_9_method_4_code, 6, some .int)
abbrev m_RR_readPayings : oMI := (⟨"OneCoin$RouteReader", "readPayings", "(I)I"⟩, prog_9_method_3_code, 4, some .int)
abbrev m_RR_read : oMI := (⟨"OneCoin$RouteReader", "read", "()I"⟩, prog_9_method_2_code, 1, some .int)
abbrev m_O_readRoute : oMI := (⟨"OneCoin", "readRoute", "()I"⟩, prog_1_method_37_code, 2, some .int)
abbrev m_P_hoursOf : oMI := (⟨"OneCoin$People", "hoursOf", "([III)I"⟩, prog_8_method_6_code, 7, some .int)
abbrev m_RR_walkedBy : oMI := (⟨"OneCoin$RouteReader", "walkedBy", "(LOneCoin$Duchy;)I"⟩, prog_9_method_6_code, 3, some .int)
abbrev m_O_route : oMI := (⟨"OneCoin", "route", "(II)I"⟩, prog_1_method_13_code, 5, some .int)
abbrev m_M_readsTimes : oMI := (⟨"OneCoinModel", "readsTimes", "()V"⟩, prog_13_method_70_code, 1, none)
abbrev m_M_repeats : oMI := (⟨"OneCoinModel", "repeats", "(III)Z"⟩, prog_13_method_69_code, 6, some .boolean)
abbrev m_M_readsItem : oMI := (⟨"OneCoinModel", "readsItem", "()Z"⟩, prog_13_method_71_code, 3, some .boolean)
abbrev m_M_readsRoute : oMI := (⟨"OneCoinModel", "readsRoute", "(I)I"⟩, prog_13_method_72_code, 3, some .int)
abbrev m_M_walksRoute : oMI := (⟨"OneCoinModel", "walksRoute", "()V"⟩, prog_13_method_73_code, 3, none)
abbrev m_M_route : oMI := (⟨"OneCoinModel", "route", "(II)I"⟩, prog_13_method_74_code, 5, some .int)
abbrev m_O_walk : oMI := (⟨"OneCoin", "walk", "(I)I"⟩, prog_1_method_14_code, 3, some .int)
abbrev m_M_walk : oMI := (⟨"OneCoinModel", "walk", "(I)I"⟩, prog_13_method_75_code, 3, some .int)
abbrev m_R_paidBy : oMI := (⟨"OneCoin$Rows", "paidBy", "([II)I"⟩, prog_10_method_3_code, 4, some .int)
abbrev m_R_reachedFrom : oMI := (⟨"OneCoin$Rows", "reachedFrom", "([II)I"⟩, prog_10_method_2_code, 7, some .int)
abbrev m_R_isOneRow : oMI := (⟨"OneCoin$Rows", "isOneRow", "([II)Z"⟩, prog_10_method_5_code, 8, some .boolean)
abbrev m_R_leastNext : oMI := (⟨"OneCoin$Rows", "leastNext", "(I)I"⟩, prog_10_method_7_code, 4, some .int)
abbrev m_R_planTour : oMI := (⟨"OneCoin$Rows", "planTour", "([III)V"⟩, prog_10_method_6_code, 7, none)
abbrev m_O_tour : oMI := (⟨"OneCoin", "tour", "(I)I"⟩, prog_1_method_15_code, 5, some .int)
abbrev m_M_leftOf : oMI := (⟨"OneCoinModel", "leftOf", "(II)I"⟩, prog_13_method_76_code, 3, some .int)
abbrev m_M_reachLeft : oMI := (⟨"OneCoinModel", "reachLeft", "(I)I"⟩, prog_13_method_77_code, 6, some .int)
abbrev m_M_isRow : oMI := (⟨"OneCoinModel", "isRow", "(I)Z"⟩, prog_13_method_78_code, 9, some .boolean)
abbrev m_M_canGo : oMI := (⟨"OneCoinModel", "canGo", "(II)Z"⟩, prog_13_method_80_code, 4, some .boolean)
abbrev m_M_laysTour : oMI := (⟨"OneCoinModel", "laysTour", "(II)Z"⟩, prog_13_method_79_code, 6, some .boolean)
abbrev m_M_tour : oMI := (⟨"OneCoinModel", "tour", "(I)I"⟩, prog_13_method_81_code, 4, some .int)
abbrev m_R_lengthen : oMI := (⟨"OneCoin$Rows", "lengthen", "(LOneCoin$Rows;II)V"⟩, prog_10_method_9_code, 5, none)
abbrev m_R_planMost : oMI := (⟨"OneCoin$Rows", "planMost", "([II)I"⟩, prog_10_method_8_code, 3, some .int)
abbrev m_O_most : oMI := (⟨"OneCoin", "most", "(I)I"⟩, prog_1_method_16_code, 4, some .int)
abbrev m_M_bestCoin : oMI := (⟨"OneCoinModel", "bestCoin", "(II)I"⟩, prog_13_method_84_code, 5, some .int)
abbrev m_M_laysCoins : oMI := (⟨"OneCoinModel", "laysCoins", "(I)Z"⟩, prog_13_method_82_code, 5, some .boolean)
abbrev m_M_laysMore : oMI := (⟨"OneCoinModel", "laysMore", "()V"⟩, prog_13_method_83_code, 6, none)
abbrev m_M_most : oMI := (⟨"OneCoinModel", "most", "(I)I"⟩, prog_13_method_85_code, 6, some .int)
abbrev m_R_wayBack : oMI := (⟨"OneCoin$Rows", "wayBack", "([IIZ)I"⟩, prog_10_method_10_code, 9, some .int)
abbrev m_O_back : oMI := (⟨"OneCoin", "back", "(II)I"⟩, prog_1_method_17_code, 4, some .int)
abbrev m_M_laysBack : oMI := (⟨"OneCoinModel", "laysBack", "()V"⟩, prog_13_method_86_code, 4, none)
abbrev m_M_back : oMI := (⟨"OneCoinModel", "back", "(II)I"⟩, prog_13_method_87_code, 4, some .int)
abbrev m_B_weigh : oMI := (⟨"OneCoin$Balance", "weigh", "(LOneCoin$Duchy;)V"⟩, prog_2_method_2_code, 3, none)
abbrev m_B_newDebts : oMI := (⟨"OneCoin$Balance", "newDebts", "(LOneCoin$Duchy;)I"⟩, prog_2_method_3_code, 4, some .int)
abbrev m_B_assign : oMI := (⟨"OneCoin$Balance", "assign", "(LOneCoin$Balance;III)V"⟩, prog_2_method_5_code, 5, none)
abbrev m_B_planNewDebts : oMI := (⟨"OneCoin$Balance", "planNewDebts", "(I)V"⟩, prog_2_method_4_code, 5, none)
abbrev m_O_even : oMI := (⟨"OneCoin", "even", "(I)I"⟩, prog_1_method_18_code, 4, some .int)
abbrev m_M_hoursOfRow : oMI := (⟨"OneCoinModel", "hoursOfRow", "(I)I"⟩, prog_13_method_91_code, 4, some .int)
abbrev m_M_setOffOf : oMI := (⟨"OneCoinModel", "setOffOf", "(I)I"⟩, prog_13_method_88_code, 2, some .int)
abbrev m_M_laysLacks : oMI := (⟨"OneCoinModel", "laysLacks", "()V"⟩, prog_13_method_89_code, 5, none)
abbrev m_M_readsRow : oMI := (⟨"OneCoinModel", "readsRow", "(II)Z"⟩, prog_13_method_90_code, 6, some .boolean)
abbrev m_M_even : oMI := (⟨"OneCoinModel", "even", "(I)I"⟩, prog_13_method_92_code, 6, some .int)
abbrev m_B_isEvenTurned : oMI := (⟨"OneCoin$Balance", "isEvenTurned", "(II)Z"⟩, prog_2_method_7_code, 4, some .boolean)
abbrev m_D_listCoins : oMI := (⟨"OneCoin$Duchy", "listCoins", "([I)I"⟩, prog_5_method_11_code, 5, some .int)
abbrev m_JI_bitCount : oMI := (⟨"java/lang/Integer", "bitCount", "(I)I"⟩, prog_15_method_49_code, 1, some .int)
abbrev m_B_leastTurned : oMI := (⟨"OneCoin$Balance", "leastTurned", "(LOneCoin$Duchy;)I"⟩, prog_2_method_6_code, 6, some .int)
abbrev m_O_turned : oMI := (⟨"OneCoin", "turned", "(I)I"⟩, prog_1_method_19_code, 3, some .int)
abbrev m_M_bits : oMI := (⟨"OneCoinModel", "bits", "(I)I"⟩, prog_13_method_7_code, 3, some .int)
abbrev m_M_isEven : oMI := (⟨"OneCoinModel", "isEven", "(I)Z"⟩, prog_13_method_93_code, 6, some .boolean)
abbrev m_M_turned : oMI := (⟨"OneCoinModel", "turned", "(I)I"⟩, prog_13_method_94_code, 4, some .int)
abbrev m_O_setOff : oMI := (⟨"OneCoin", "setOff", "(I)I"⟩, prog_1_method_20_code, 2, some .int)
abbrev m_M_setOff : oMI := (⟨"OneCoinModel", "setOff", "(I)I"⟩, prog_13_method_95_code, 2, some .int)
abbrev m_B_fewestPayings : oMI := (⟨"OneCoin$Balance", "fewestPayings", "(LOneCoin$Duchy;)I"⟩, prog_2_method_8_code, 6, some .int)
abbrev m_O_fewest : oMI := (⟨"OneCoin", "fewest", "()I"⟩, prog_1_method_21_code, 1, some .int)
abbrev m_M_laysGroups : oMI := (⟨"OneCoinModel", "laysGroups", "()V"⟩, prog_13_method_96_code, 3, none)
abbrev m_M_fewest : oMI := (⟨"OneCoinModel", "fewest", "()I"⟩, prog_13_method_97_code, 3, some .int)
abbrev m_R_ringOf : oMI := (⟨"OneCoin$Rows", "ringOf", "([II)I"⟩, prog_10_method_4_code, 5, some .int)
abbrev m_O_rings : oMI := (⟨"OneCoin", "rings", "(I)I"⟩, prog_1_method_22_code, 4, some .int)
abbrev m_M_reachOf : oMI := (⟨"OneCoinModel", "reachOf", "(I)I"⟩, prog_13_method_98_code, 3, some .int)
abbrev m_M_ringOf : oMI := (⟨"OneCoinModel", "ringOf", "(I)I"⟩, prog_13_method_99_code, 5, some .int)
abbrev m_M_rings : oMI := (⟨"OneCoinModel", "rings", "(I)I"⟩, prog_13_method_100_code, 5, some .int)
abbrev m_O_off : oMI := (⟨"OneCoin", "off", "()I"⟩, prog_1_method_23_code, 1, some .int)
abbrev m_M_off : oMI := (⟨"OneCoinModel", "off", "()I"⟩, prog_13_method_101_code, 1, some .int)
abbrev m_O_when : oMI := (⟨"OneCoin", "when", "(II)I"⟩, prog_1_method_24_code, 4, some .int)
abbrev m_M_when : oMI := (⟨"OneCoinModel", "when", "(II)I"⟩, prog_13_method_102_code, 5, some .int)
abbrev m_O_wedding : oMI := (⟨"OneCoin", "wedding", "(III)I"⟩, prog_1_method_25_code, 8, some .int)
abbrev m_M_wedding : oMI := (⟨"OneCoinModel", "wedding", "(III)I"⟩, prog_13_method_103_code, 8, some .int)
abbrev m_O_longest : oMI := (⟨"OneCoin", "longest", "()I"⟩, prog_1_method_26_code, 3, some .int)
abbrev m_M_longest : oMI := (⟨"OneCoinModel", "longest", "()I"⟩, prog_13_method_104_code, 4, some .int)
abbrev m_O_chalk : oMI := (⟨"OneCoin", "chalk", "(I)I"⟩, prog_1_method_27_code, 2, some .int)
abbrev m_M_chalk : oMI := (⟨"OneCoinModel", "chalk", "(I)I"⟩, prog_13_method_105_code, 2, some .int)
abbrev m_R_hoursOf : oMI := (⟨"OneCoin$Rows", "hoursOf", "(II)I"⟩, prog_10_method_12_code, 5, some .int)
abbrev m_R_setShare : oMI := (⟨"OneCoin$Rows", "setShare", "([III)V"⟩, prog_10_method_13_code, 5, none)
abbrev m_R_sharedHours : oMI := (⟨"OneCoin$Rows", "sharedHours", "(LOneCoin$Duchy;I)I"⟩, prog_10_method_11_code, 7, some .int)
abbrev m_O_two : oMI := (⟨"OneCoin", "two", "(I)I"⟩, prog_1_method_28_code, 3, some .int)
abbrev m_M_hoursOf : oMI := (⟨"OneCoinModel", "hoursOf", "(I)I"⟩, prog_13_method_107_code, 4, some .int)
abbrev m_M_isRowOf : oMI := (⟨"OneCoinModel", "isRowOf", "(II)Z"⟩, prog_13_method_106_code, 4, some .boolean)
abbrev m_M_two : oMI := (⟨"OneCoinModel", "two", "(I)I"⟩, prog_13_method_108_code, 6, some .int)
abbrev m_O_commonDivisor : oMI := (⟨"OneCoin", "commonDivisor", "(II)I"⟩, prog_1_method_38_code, 6, some .int)
abbrev m_O_dry : oMI := (⟨"OneCoin", "dry", "(II)I"⟩, prog_1_method_29_code, 7, some .int)
abbrev m_M_gcd : oMI := (⟨"OneCoinModel", "gcd", "(II)I"⟩, prog_13_method_109_code, 5, some .int)
abbrev m_M_dry : oMI := (⟨"OneCoinModel", "dry", "(II)I"⟩, prog_13_method_110_code, 7, some .int)
abbrev m_O_seed : oMI := (⟨"OneCoin", "seed", "(I)Z"⟩, prog_1_method_30_code, 2, some .boolean)
abbrev m_M_seed : oMI := (⟨"OneCoinModel", "seed", "(I)Z"⟩, prog_13_method_111_code, 2, some .boolean)
abbrev m_O_keep : oMI := (⟨"OneCoin", "keep", "()I"⟩, prog_1_method_31_code, 1, some .int)
abbrev m_M_keep : oMI := (⟨"OneCoinModel", "keep", "()I"⟩, prog_13_method_112_code, 1, some .int)
abbrev m_O_undo : oMI := (⟨"OneCoin", "undo", "()Z"⟩, prog_1_method_32_code, 1, some .boolean)
abbrev m_M_undo : oMI := (⟨"OneCoinModel", "undo", "()Z"⟩, prog_13_method_113_code, 1, some .boolean)
abbrev m_O_check : oMI := (⟨"OneCoin", "check", "(I)I"⟩, prog_1_method_33_code, 4, some .int)
abbrev m_M_check : oMI := (⟨"OneCoinModel", "check", "(I)I"⟩, prog_13_method_114_code, 3, some .int)
abbrev m_O_count : oMI := (⟨"OneCoin", "count", "(I)I"⟩, prog_1_method_34_code, 2, some .int)
abbrev m_M_count : oMI := (⟨"OneCoinModel", "count", "(I)I"⟩, prog_13_method_115_code, 2, some .int)
theorem f_O_12 : oFl "OneCoin" 12 10 0 true (.object "OneCoin$Tape") := ⟨RX10, TX10, 14, tyX10, "tape", "LOneCoin$Tape;", oC10, by decide, rfl, by decide +kernel, Or.inl (oT_mem 426 (by decide +kernel) rfl)⟩
theorem f_O_19 : oFl "OneCoin" 19 10 1 true (.object "OneCoin$People") := ⟨RX10, TX10, 14, tyX10, "people", "LOneCoin$People;", oC10, by decide, rfl, by decide +kernel, Or.inl (oT_mem 427 (by decide +kernel) rfl)⟩
theorem f_O_26 : oFl "OneCoin" 26 10 2 true (.object "OneCoin$Duchy") := ⟨RX10, TX10, 14, tyX10, "now", "LOneCoin$Duchy;", oC10, by decide, rfl, by decide +kernel, Or.inl (oT_mem 428 (by decide +kernel) rfl)⟩
theorem f_O_30 : oFl "OneCoin" 30 10 3 true (.object "OneCoin$Duchy") := ⟨RX10, TX10, 14, tyX10, "kept", "LOneCoin$Duchy;", oC10, by decide, rfl, by decide +kernel, Or.inl (oT_mem 429 (by decide +kernel) rfl)⟩
theorem f_O_33 : oFl "OneCoin" 33 10 4 true (.object "OneCoin$Duchy") := ⟨RX10, TX10, 14, tyX10, "trial", "LOneCoin$Duchy;", oC10, by decide, rfl, by decide +kernel, Or.inl (oT_mem 430 (by decide +kernel) rfl)⟩
theorem f_O_41 : oFl "OneCoin" 41 10 5 true (.object "OneCoin$Law") := ⟨RX10, TX10, 14, tyX10, "law", "LOneCoin$Law;", oC10, by decide, rfl, by decide +kernel, Or.inl (oT_mem 431 (by decide +kernel) rfl)⟩
theorem f_O_45 : oFl "OneCoin" 45 10 6 true (.object "OneCoin$Law") := ⟨RX10, TX10, 14, tyX10, "draft", "LOneCoin$Law;", oC10, by decide, rfl, by decide +kernel, Or.inl (oT_mem 432 (by decide +kernel) rfl)⟩
theorem f_O_53 : oFl "OneCoin" 53 10 7 true (.object "OneCoin$LawReader") := ⟨RX10, TX10, 14, tyX10, "lawReader", "LOneCoin$LawReader;", oC10, by decide, rfl, by decide +kernel, Or.inl (oT_mem 433 (by decide +kernel) rfl)⟩
theorem f_O_62 : oFl "OneCoin" 62 10 8 true (.object "OneCoin$DebtsReader") := ⟨RX10, TX10, 14, tyX10, "debtsReader", "LOneCoin$DebtsReader;", oC10, by decide, rfl, by decide +kernel, Or.inl (oT_mem 434 (by decide +kernel) rfl)⟩
theorem f_O_71 : oFl "OneCoin" 71 10 9 true (.object "OneCoin$RouteReader") := ⟨RX10, TX10, 14, tyX10, "routeReader", "LOneCoin$RouteReader;", oC10, by decide, rfl, by decide +kernel, Or.inl (oT_mem 435 (by decide +kernel) rfl)⟩
theorem f_O_80 : oFl "OneCoin" 80 10 10 true (.object "OneCoin$Clock") := ⟨RX10, TX10, 14, tyX10, "clock", "LOneCoin$Clock;", oC10, by decide, rfl, by decide +kernel, Or.inl (oT_mem 436 (by decide +kernel) rfl)⟩
theorem f_O_87 : oFl "OneCoin" 87 10 11 true (.object "OneCoin$Rows") := ⟨RX10, TX10, 14, tyX10, "rows", "LOneCoin$Rows;", oC10, by decide, rfl, by decide +kernel, Or.inl (oT_mem 437 (by decide +kernel) rfl)⟩
theorem f_O_94 : oFl "OneCoin" 94 10 12 true (.object "OneCoin$Balance") := ⟨RX10, TX10, 14, tyX10, "balance", "LOneCoin$Balance;", oC10, by decide, rfl, by decide +kernel, Or.inl (oT_mem 438 (by decide +kernel) rfl)⟩
theorem f_O_110 : oFl "OneCoin" 110 3 0 true (.array .int) := ⟨RX3, TX3, 12, tyX3, "debts", "[I", oC3, by decide, rfl, by decide +kernel, Or.inr ⟨"OneCoin", oTN_mem 174 (by decide +kernel) rfl⟩⟩
theorem f_O_143 : oFl "OneCoin" 143 2 2 true (.array .int) := ⟨RX2, TX2, 3, tyX2, "draft", "[I", oC2, by decide, rfl, by decide +kernel, Or.inr ⟨"OneCoin", oTN_mem 303 (by decide +kernel) rfl⟩⟩
theorem f_O_161 : oFl "OneCoin" 161 1 2 false (.int) := ⟨RX1, TX1, 6, tyX1, "payings", "I", oC1, by decide, rfl, by decide +kernel, Or.inr ⟨"OneCoin", oTN_mem 337 (by decide +kernel) rfl⟩⟩
theorem f_O_168 : oFl "OneCoin" 168 3 4 false (.int) := ⟨RX3, TX3, 12, tyX3, "holder", "I", oC3, by decide, rfl, by decide +kernel, Or.inr ⟨"OneCoin", oTN_mem 186 (by decide +kernel) rfl⟩⟩
theorem f_O_171 : oFl "OneCoin" 171 1 3 false (.int) := ⟨RX1, TX1, 6, tyX1, "rainyDays", "I", oC1, by decide, rfl, by decide +kernel, Or.inr ⟨"OneCoin", oTN_mem 339 (by decide +kernel) rfl⟩⟩
theorem f_O_174 : oFl "OneCoin" 174 1 4 false (.int) := ⟨RX1, TX1, 6, tyX1, "interest", "I", oC1, by decide, rfl, by decide +kernel, Or.inr ⟨"OneCoin", oTN_mem 341 (by decide +kernel) rfl⟩⟩
theorem f_O_177 : oFl "OneCoin" 177 3 8 false (.int) := ⟨RX3, TX3, 12, tyX3, "hour", "I", oC3, by decide, rfl, by decide +kernel, Or.inr ⟨"OneCoin", oTN_mem 199 (by decide +kernel) rfl⟩⟩
theorem f_O_180 : oFl "OneCoin" 180 3 1 true (.array .int) := ⟨RX3, TX3, 12, tyX3, "held", "[I", oC3, by decide, rfl, by decide +kernel, Or.inr ⟨"OneCoin", oTN_mem 178 (by decide +kernel) rfl⟩⟩
theorem f_O_183 : oFl "OneCoin" 183 6 0 true (.array .int) := ⟨RX6, TX6, 3, tyX6, "spotX", "[I", oC6, by decide, rfl, by decide +kernel, Or.inr ⟨"OneCoin", oTN_mem 155 (by decide +kernel) rfl⟩⟩
theorem f_O_186 : oFl "OneCoin" 186 6 1 true (.array .int) := ⟨RX6, TX6, 3, tyX6, "spotY", "[I", oC6, by decide, rfl, by decide +kernel, Or.inr ⟨"OneCoin", oTN_mem 157 (by decide +kernel) rfl⟩⟩
theorem f_O_214 : oFl "OneCoin" 214 7 1 true (.array .int) := ⟨RX7, TX7, 3, tyX7, "row", "[I", oC7, by decide, rfl, by decide +kernel, Or.inr ⟨"OneCoin", oTN_mem 319 (by decide +kernel) rfl⟩⟩
theorem f_O_229 : oFl "OneCoin" 229 8 5 true (.array .int) := ⟨RX8, TX8, 8, tyX8, "row", "[I", oC8, by decide, rfl, by decide +kernel, Or.inr ⟨"OneCoin", oTN_mem 369 (by decide +kernel) rfl⟩⟩
theorem f_O_234 : oFl "OneCoin" 234 8 6 true (.array .int) := ⟨RX8, TX8, 8, tyX8, "best", "[I", oC8, by decide, rfl, by decide +kernel, Or.inr ⟨"OneCoin", oTN_mem 371 (by decide +kernel) rfl⟩⟩
theorem f_O_248 : oFl "OneCoin" 248 0 5 true (.array .int) := ⟨RX0, TX0, 9, tyX0, "best", "[I", oC0, by decide, rfl, by decide +kernel, Or.inr ⟨"OneCoin", oTN_mem 402 (by decide +kernel) rfl⟩⟩
theorem f_O_249 : oFl "OneCoin" 249 0 8 false (.int) := ⟨RX0, TX0, 9, tyX0, "bestHours", "I", oC0, by decide, rfl, by decide +kernel, Or.inr ⟨"OneCoin", oTN_mem 406 (by decide +kernel) rfl⟩⟩
theorem f_O_267 : oFl "OneCoin" 267 6 2 false (.int) := ⟨RX6, TX6, 3, tyX6, "told", "I", oC6, by decide, rfl, by decide +kernel, Or.inr ⟨"OneCoin", oTN_mem 159 (by decide +kernel) rfl⟩⟩
theorem f_O_276 : oFl "OneCoin" 276 1 5 false (.int) := ⟨RX1, TX1, 6, tyX1, "arrivedAt", "I", oC1, by decide, rfl, by decide +kernel, Or.inr ⟨"OneCoin", oTN_mem 343 (by decide +kernel) rfl⟩⟩
theorem f_O_279 : oFl "OneCoin" 279 3 9 false (.int) := ⟨RX3, TX3, 12, tyX3, "day", "I", oC3, by decide, rfl, by decide +kernel, Or.inr ⟨"OneCoin", oTN_mem 203 (by decide +kernel) rfl⟩⟩
theorem f_O_282 : oFl "OneCoin" 282 3 3 false (.int) := ⟨RX3, TX3, 12, tyX3, "chalked", "I", oC3, by decide, rfl, by decide +kernel, Or.inr ⟨"OneCoin", oTN_mem 182 (by decide +kernel) rfl⟩⟩
theorem f_O_285 : oFl "OneCoin" 285 3 2 true (.array .int) := ⟨RX3, TX3, 12, tyX3, "chalks", "[I", oC3, by decide, rfl, by decide +kernel, Or.inr ⟨"OneCoin", oTN_mem 180 (by decide +kernel) rfl⟩⟩
theorem f_O_299 : oFl "OneCoin" 299 3 11 false (.int) := ⟨RX3, TX3, 12, tyX3, "x", "I", oC3, by decide, rfl, by decide +kernel, Or.inr ⟨"OneCoin", oTN_mem 208 (by decide +kernel) rfl⟩⟩
theorem f_O_302 : oFl "OneCoin" 302 10 13 false (.boolean) := ⟨RX10, TX10, 14, tyX10, "wasKept", "Z", oC10, by decide, rfl, by decide +kernel, Or.inl (oT_mem 439 (by decide +kernel) rfl)⟩
theorem f_O_317 : oFl "OneCoin" 317 3 7 false (.int) := ⟨RX3, TX3, 12, tyX3, "left", "I", oC3, by decide, rfl, by decide +kernel, Or.inr ⟨"OneCoin", oTN_mem 195 (by decide +kernel) rfl⟩⟩
theorem f_O_320 : oFl "OneCoin" 320 3 6 false (.int) := ⟨RX3, TX3, 12, tyX3, "payee", "I", oC3, by decide, rfl, by decide +kernel, Or.inr ⟨"OneCoin", oTN_mem 192 (by decide +kernel) rfl⟩⟩
theorem f_O_323 : oFl "OneCoin" 323 3 10 false (.boolean) := ⟨RX3, TX3, 12, tyX3, "rainy", "Z", oC3, by decide, rfl, by decide +kernel, Or.inr ⟨"OneCoin", oTN_mem 206 (by decide +kernel) rfl⟩⟩
theorem f_O_326 : oFl "OneCoin" 326 4 10 false (.int) := ⟨RX4, TX4, 11, tyX4, "rules", "I", oC4, by decide, rfl, by decide +kernel, Or.inr ⟨"OneCoin", oTN_mem 257 (by decide +kernel) rfl⟩⟩
theorem f_B_9 : oFl "OneCoin$Balance" 9 0 1 true (.array .int) := ⟨RX0, TX0, 9, tyX0, "more", "[I", oC0, by decide, rfl, by decide +kernel, Or.inl (oT_mem 397 (by decide +kernel) rfl)⟩
theorem f_B_15 : oFl "OneCoin$Balance" 15 0 2 true (.array .int) := ⟨RX0, TX0, 9, tyX0, "rest", "[I", oC0, by decide, rfl, by decide +kernel, Or.inl (oT_mem 398 (by decide +kernel) rfl)⟩
theorem f_B_18 : oFl "OneCoin$Balance" 18 0 3 true (.array .int) := ⟨RX0, TX0, 9, tyX0, "debtors", "[I", oC0, by decide, rfl, by decide +kernel, Or.inl (oT_mem 399 (by decide +kernel) rfl)⟩
theorem f_B_21 : oFl "OneCoin$Balance" 21 0 4 true (.array .int) := ⟨RX0, TX0, 9, tyX0, "row", "[I", oC0, by decide, rfl, by decide +kernel, Or.inl (oT_mem 400 (by decide +kernel) rfl)⟩
theorem f_B_24 : oFl "OneCoin$Balance" 24 0 5 true (.array .int) := ⟨RX0, TX0, 9, tyX0, "best", "[I", oC0, by decide, rfl, by decide +kernel, Or.inl (oT_mem 401 (by decide +kernel) rfl)⟩
theorem f_B_27 : oFl "OneCoin$Balance" 27 0 6 true (.array .int) := ⟨RX0, TX0, 9, tyX0, "pairs", "[I", oC0, by decide, rfl, by decide +kernel, Or.inl (oT_mem 403 (by decide +kernel) rfl)⟩
theorem f_B_30 : oFl "OneCoin$Balance" 30 0 7 true (.array .int) := ⟨RX0, TX0, 9, tyX0, "groups", "[I", oC0, by decide, rfl, by decide +kernel, Or.inl (oT_mem 404 (by decide +kernel) rfl)⟩
theorem f_B_33 : oFl "OneCoin$Balance" 33 0 0 true (.object "OneCoin$People") := ⟨RX0, TX0, 9, tyX0, "people", "LOneCoin$People;", oC0, by decide, rfl, by decide +kernel, Or.inl (oT_mem 396 (by decide +kernel) rfl)⟩
theorem f_B_57 : oFl "OneCoin$Balance" 57 0 8 false (.int) := ⟨RX0, TX0, 9, tyX0, "bestHours", "I", oC0, by decide, rfl, by decide +kernel, Or.inl (oT_mem 405 (by decide +kernel) rfl)⟩
theorem f_C_9 : oFl "OneCoin$Clock" 9 1 5 false (.int) := ⟨RX1, TX1, 6, tyX1, "arrivedAt", "I", oC1, by decide, rfl, by decide +kernel, Or.inl (oT_mem 342 (by decide +kernel) rfl)⟩
theorem f_C_15 : oFl "OneCoin$Clock" 15 1 0 true (.object "OneCoin$People") := ⟨RX1, TX1, 6, tyX1, "people", "LOneCoin$People;", oC1, by decide, rfl, by decide +kernel, Or.inl (oT_mem 334 (by decide +kernel) rfl)⟩
theorem f_C_19 : oFl "OneCoin$Clock" 19 1 1 true (.object "OneCoin$Law") := ⟨RX1, TX1, 6, tyX1, "law", "LOneCoin$Law;", oC1, by decide, rfl, by decide +kernel, Or.inl (oT_mem 335 (by decide +kernel) rfl)⟩
theorem f_C_23 : oFl "OneCoin$Clock" 23 1 2 false (.int) := ⟨RX1, TX1, 6, tyX1, "payings", "I", oC1, by decide, rfl, by decide +kernel, Or.inl (oT_mem 336 (by decide +kernel) rfl)⟩
theorem f_C_26 : oFl "OneCoin$Clock" 26 1 3 false (.int) := ⟨RX1, TX1, 6, tyX1, "rainyDays", "I", oC1, by decide, rfl, by decide +kernel, Or.inl (oT_mem 338 (by decide +kernel) rfl)⟩
theorem f_C_29 : oFl "OneCoin$Clock" 29 1 4 false (.int) := ⟨RX1, TX1, 6, tyX1, "interest", "I", oC1, by decide, rfl, by decide +kernel, Or.inl (oT_mem 340 (by decide +kernel) rfl)⟩
theorem f_C_36 : oFl "OneCoin$Clock" 36 3 9 false (.int) := ⟨RX3, TX3, 12, tyX3, "day", "I", oC3, by decide, rfl, by decide +kernel, Or.inr ⟨"OneCoin", oTN_mem 201 (by decide +kernel) rfl⟩⟩
theorem f_C_41 : oFl "OneCoin$Clock" 41 3 8 false (.int) := ⟨RX3, TX3, 12, tyX3, "hour", "I", oC3, by decide, rfl, by decide +kernel, Or.inr ⟨"OneCoin", oTN_mem 197 (by decide +kernel) rfl⟩⟩
theorem f_C_47 : oFl "OneCoin$Clock" 47 3 7 false (.int) := ⟨RX3, TX3, 12, tyX3, "left", "I", oC3, by decide, rfl, by decide +kernel, Or.inr ⟨"OneCoin", oTN_mem 194 (by decide +kernel) rfl⟩⟩
theorem f_C_53 : oFl "OneCoin$Clock" 53 3 4 false (.int) := ⟨RX3, TX3, 12, tyX3, "holder", "I", oC3, by decide, rfl, by decide +kernel, Or.inr ⟨"OneCoin", oTN_mem 184 (by decide +kernel) rfl⟩⟩
theorem f_C_60 : oFl "OneCoin$Clock" 60 3 1 true (.array .int) := ⟨RX3, TX3, 12, tyX3, "held", "[I", oC3, by decide, rfl, by decide +kernel, Or.inr ⟨"OneCoin", oTN_mem 177 (by decide +kernel) rfl⟩⟩
theorem f_C_77 : oFl "OneCoin$Clock" 77 3 10 false (.boolean) := ⟨RX3, TX3, 12, tyX3, "rainy", "Z", oC3, by decide, rfl, by decide +kernel, Or.inr ⟨"OneCoin", oTN_mem 205 (by decide +kernel) rfl⟩⟩
theorem f_C_81 : oFl "OneCoin$Clock" 81 3 0 true (.array .int) := ⟨RX3, TX3, 12, tyX3, "debts", "[I", oC3, by decide, rfl, by decide +kernel, Or.inr ⟨"OneCoin", oTN_mem 175 (by decide +kernel) rfl⟩⟩
theorem f_C_94 : oFl "OneCoin$Clock" 94 3 6 false (.int) := ⟨RX3, TX3, 12, tyX3, "payee", "I", oC3, by decide, rfl, by decide +kernel, Or.inr ⟨"OneCoin", oTN_mem 191 (by decide +kernel) rfl⟩⟩
theorem f_C_97 : oFl "OneCoin$Clock" 97 3 5 false (.int) := ⟨RX3, TX3, 12, tyX3, "payer", "I", oC3, by decide, rfl, by decide +kernel, Or.inr ⟨"OneCoin", oTN_mem 189 (by decide +kernel) rfl⟩⟩
theorem f_DR_9 : oFl "OneCoin$DebtsReader" 9 2 2 true (.array .int) := ⟨RX2, TX2, 3, tyX2, "draft", "[I", oC2, by decide, rfl, by decide +kernel, Or.inl (oT_mem 302 (by decide +kernel) rfl)⟩
theorem f_DR_15 : oFl "OneCoin$DebtsReader" 15 2 0 true (.object "OneCoin$Tape") := ⟨RX2, TX2, 3, tyX2, "text", "LOneCoin$Tape;", oC2, by decide, rfl, by decide +kernel, Or.inl (oT_mem 300 (by decide +kernel) rfl)⟩
theorem f_DR_19 : oFl "OneCoin$DebtsReader" 19 2 1 true (.object "OneCoin$People") := ⟨RX2, TX2, 3, tyX2, "people", "LOneCoin$People;", oC2, by decide, rfl, by decide +kernel, Or.inl (oT_mem 301 (by decide +kernel) rfl)⟩
theorem f_D_9 : oFl "OneCoin$Duchy" 9 3 0 true (.array .int) := ⟨RX3, TX3, 12, tyX3, "debts", "[I", oC3, by decide, rfl, by decide +kernel, Or.inl (oT_mem 173 (by decide +kernel) rfl)⟩
theorem f_D_15 : oFl "OneCoin$Duchy" 15 3 1 true (.array .int) := ⟨RX3, TX3, 12, tyX3, "held", "[I", oC3, by decide, rfl, by decide +kernel, Or.inl (oT_mem 176 (by decide +kernel) rfl)⟩
theorem f_D_18 : oFl "OneCoin$Duchy" 18 3 2 true (.array .int) := ⟨RX3, TX3, 12, tyX3, "chalks", "[I", oC3, by decide, rfl, by decide +kernel, Or.inl (oT_mem 179 (by decide +kernel) rfl)⟩
theorem f_D_21 : oFl "OneCoin$Duchy" 21 3 4 false (.int) := ⟨RX3, TX3, 12, tyX3, "holder", "I", oC3, by decide, rfl, by decide +kernel, Or.inl (oT_mem 183 (by decide +kernel) rfl)⟩
theorem f_D_25 : oFl "OneCoin$Duchy" 25 3 5 false (.int) := ⟨RX3, TX3, 12, tyX3, "payer", "I", oC3, by decide, rfl, by decide +kernel, Or.inl (oT_mem 188 (by decide +kernel) rfl)⟩
theorem f_D_28 : oFl "OneCoin$Duchy" 28 3 6 false (.int) := ⟨RX3, TX3, 12, tyX3, "payee", "I", oC3, by decide, rfl, by decide +kernel, Or.inl (oT_mem 190 (by decide +kernel) rfl)⟩
theorem f_D_31 : oFl "OneCoin$Duchy" 31 3 11 false (.int) := ⟨RX3, TX3, 12, tyX3, "x", "I", oC3, by decide, rfl, by decide +kernel, Or.inl (oT_mem 207 (by decide +kernel) rfl)⟩
theorem f_D_40 : oFl "OneCoin$Duchy" 40 3 3 false (.int) := ⟨RX3, TX3, 12, tyX3, "chalked", "I", oC3, by decide, rfl, by decide +kernel, Or.inl (oT_mem 181 (by decide +kernel) rfl)⟩
theorem f_D_43 : oFl "OneCoin$Duchy" 43 3 7 false (.int) := ⟨RX3, TX3, 12, tyX3, "left", "I", oC3, by decide, rfl, by decide +kernel, Or.inl (oT_mem 193 (by decide +kernel) rfl)⟩
theorem f_D_46 : oFl "OneCoin$Duchy" 46 3 8 false (.int) := ⟨RX3, TX3, 12, tyX3, "hour", "I", oC3, by decide, rfl, by decide +kernel, Or.inl (oT_mem 196 (by decide +kernel) rfl)⟩
theorem f_D_49 : oFl "OneCoin$Duchy" 49 3 9 false (.int) := ⟨RX3, TX3, 12, tyX3, "day", "I", oC3, by decide, rfl, by decide +kernel, Or.inl (oT_mem 200 (by decide +kernel) rfl)⟩
theorem f_D_52 : oFl "OneCoin$Duchy" 52 3 10 false (.boolean) := ⟨RX3, TX3, 12, tyX3, "rainy", "Z", oC3, by decide, rfl, by decide +kernel, Or.inl (oT_mem 204 (by decide +kernel) rfl)⟩
theorem f_L_9 : oFl "OneCoin$Law" 9 4 1 true (.array .int) := ⟨RX4, TX4, 11, tyX4, "steps", "[I", oC4, by decide, rfl, by decide +kernel, Or.inl (oT_mem 241 (by decide +kernel) rfl)⟩
theorem f_L_15 : oFl "OneCoin$Law" 15 4 2 true (.array .int) := ⟨RX4, TX4, 11, tyX4, "details", "[I", oC4, by decide, rfl, by decide +kernel, Or.inl (oT_mem 242 (by decide +kernel) rfl)⟩
theorem f_L_18 : oFl "OneCoin$Law" 18 4 3 true (.array .int) := ⟨RX4, TX4, 11, tyX4, "kinds", "[I", oC4, by decide, rfl, by decide +kernel, Or.inl (oT_mem 243 (by decide +kernel) rfl)⟩
theorem f_L_21 : oFl "OneCoin$Law" 21 4 4 true (.array .int) := ⟨RX4, TX4, 11, tyX4, "starts", "[I", oC4, by decide, rfl, by decide +kernel, Or.inl (oT_mem 245 (by decide +kernel) rfl)⟩
theorem f_L_24 : oFl "OneCoin$Law" 24 4 5 true (.array .int) := ⟨RX4, TX4, 11, tyX4, "middles", "[I", oC4, by decide, rfl, by decide +kernel, Or.inl (oT_mem 247 (by decide +kernel) rfl)⟩
theorem f_L_27 : oFl "OneCoin$Law" 27 4 6 true (.array .int) := ⟨RX4, TX4, 11, tyX4, "ends", "[I", oC4, by decide, rfl, by decide +kernel, Or.inl (oT_mem 249 (by decide +kernel) rfl)⟩
theorem f_L_30 : oFl "OneCoin$Law" 30 4 7 true (.array .int) := ⟨RX4, TX4, 11, tyX4, "letters", "[I", oC4, by decide, rfl, by decide +kernel, Or.inl (oT_mem 251 (by decide +kernel) rfl)⟩
theorem f_L_33 : oFl "OneCoin$Law" 33 4 8 true (.array .int) := ⟨RX4, TX4, 11, tyX4, "stack", "[I", oC4, by decide, rfl, by decide +kernel, Or.inl (oT_mem 252 (by decide +kernel) rfl)⟩
theorem f_L_36 : oFl "OneCoin$Law" 36 4 0 true (.object "OneCoin$People") := ⟨RX4, TX4, 11, tyX4, "people", "LOneCoin$People;", oC4, by decide, rfl, by decide +kernel, Or.inl (oT_mem 240 (by decide +kernel) rfl)⟩
theorem f_L_46 : oFl "OneCoin$Law" 46 4 9 false (.int) := ⟨RX4, TX4, 11, tyX4, "size", "I", oC4, by decide, rfl, by decide +kernel, Or.inl (oT_mem 254 (by decide +kernel) rfl)⟩
theorem f_L_50 : oFl "OneCoin$Law" 50 4 10 false (.int) := ⟨RX4, TX4, 11, tyX4, "rules", "I", oC4, by decide, rfl, by decide +kernel, Or.inl (oT_mem 256 (by decide +kernel) rfl)⟩
theorem f_L_87 : oFl "OneCoin$Law" 87 3 8 false (.int) := ⟨RX3, TX3, 12, tyX3, "hour", "I", oC3, by decide, rfl, by decide +kernel, Or.inr ⟨"OneCoin", oTN_mem 198 (by decide +kernel) rfl⟩⟩
theorem f_L_90 : oFl "OneCoin$Law" 90 3 9 false (.int) := ⟨RX3, TX3, 12, tyX3, "day", "I", oC3, by decide, rfl, by decide +kernel, Or.inr ⟨"OneCoin", oTN_mem 202 (by decide +kernel) rfl⟩⟩
theorem f_LR_9 : oFl "OneCoin$LawReader" 9 5 0 true (.object "OneCoin$Tape") := ⟨RX5, TX5, 2, tyX5, "text", "LOneCoin$Tape;", oC5, by decide, rfl, by decide +kernel, Or.inl (oT_mem 287 (by decide +kernel) rfl)⟩
theorem f_LR_15 : oFl "OneCoin$LawReader" 15 5 1 true (.object "OneCoin$Law") := ⟨RX5, TX5, 2, tyX5, "draft", "LOneCoin$Law;", oC5, by decide, rfl, by decide +kernel, Or.inl (oT_mem 288 (by decide +kernel) rfl)⟩
theorem f_LR_19 : oFl "OneCoin$LawReader" 19 4 9 false (.int) := ⟨RX4, TX4, 11, tyX4, "size", "I", oC4, by decide, rfl, by decide +kernel, Or.inr ⟨"OneCoin", oTN_mem 253 (by decide +kernel) rfl⟩⟩
theorem f_LR_25 : oFl "OneCoin$LawReader" 25 4 10 false (.int) := ⟨RX4, TX4, 11, tyX4, "rules", "I", oC4, by decide, rfl, by decide +kernel, Or.inr ⟨"OneCoin", oTN_mem 255 (by decide +kernel) rfl⟩⟩
theorem f_LR_48 : oFl "OneCoin$LawReader" 48 4 3 true (.array .int) := ⟨RX4, TX4, 11, tyX4, "kinds", "[I", oC4, by decide, rfl, by decide +kernel, Or.inr ⟨"OneCoin", oTN_mem 244 (by decide +kernel) rfl⟩⟩
theorem f_LR_52 : oFl "OneCoin$LawReader" 52 4 4 true (.array .int) := ⟨RX4, TX4, 11, tyX4, "starts", "[I", oC4, by decide, rfl, by decide +kernel, Or.inr ⟨"OneCoin", oTN_mem 246 (by decide +kernel) rfl⟩⟩
theorem f_LR_58 : oFl "OneCoin$LawReader" 58 4 5 true (.array .int) := ⟨RX4, TX4, 11, tyX4, "middles", "[I", oC4, by decide, rfl, by decide +kernel, Or.inr ⟨"OneCoin", oTN_mem 248 (by decide +kernel) rfl⟩⟩
theorem f_LR_64 : oFl "OneCoin$LawReader" 64 4 6 true (.array .int) := ⟨RX4, TX4, 11, tyX4, "ends", "[I", oC4, by decide, rfl, by decide +kernel, Or.inr ⟨"OneCoin", oTN_mem 250 (by decide +kernel) rfl⟩⟩
theorem f_P_9 : oFl "OneCoin$People" 9 6 0 true (.array .int) := ⟨RX6, TX6, 3, tyX6, "spotX", "[I", oC6, by decide, rfl, by decide +kernel, Or.inl (oT_mem 154 (by decide +kernel) rfl)⟩
theorem f_P_15 : oFl "OneCoin$People" 15 6 1 true (.array .int) := ⟨RX6, TX6, 3, tyX6, "spotY", "[I", oC6, by decide, rfl, by decide +kernel, Or.inl (oT_mem 156 (by decide +kernel) rfl)⟩
theorem f_P_18 : oFl "OneCoin$People" 18 6 2 false (.int) := ⟨RX6, TX6, 3, tyX6, "told", "I", oC6, by decide, rfl, by decide +kernel, Or.inl (oT_mem 158 (by decide +kernel) rfl)⟩
theorem f_RR_9 : oFl "OneCoin$RouteReader" 9 7 1 true (.array .int) := ⟨RX7, TX7, 3, tyX7, "row", "[I", oC7, by decide, rfl, by decide +kernel, Or.inl (oT_mem 318 (by decide +kernel) rfl)⟩
theorem f_RR_15 : oFl "OneCoin$RouteReader" 15 7 0 true (.object "OneCoin$Tape") := ⟨RX7, TX7, 3, tyX7, "text", "LOneCoin$Tape;", oC7, by decide, rfl, by decide +kernel, Or.inl (oT_mem 317 (by decide +kernel) rfl)⟩
theorem f_RR_19 : oFl "OneCoin$RouteReader" 19 7 2 false (.int) := ⟨RX7, TX7, 3, tyX7, "length", "I", oC7, by decide, rfl, by decide +kernel, Or.inl (oT_mem 320 (by decide +kernel) rfl)⟩
theorem f_RR_60 : oFl "OneCoin$RouteReader" 60 3 4 false (.int) := ⟨RX3, TX3, 12, tyX3, "holder", "I", oC3, by decide, rfl, by decide +kernel, Or.inr ⟨"OneCoin", oTN_mem 185 (by decide +kernel) rfl⟩⟩
theorem f_R_9 : oFl "OneCoin$Rows" 9 8 1 true (.array .int) := ⟨RX8, TX8, 8, tyX8, "left", "[I", oC8, by decide, rfl, by decide +kernel, Or.inl (oT_mem 364 (by decide +kernel) rfl)⟩
theorem f_R_15 : oFl "OneCoin$Rows" 15 8 2 true (.array .int) := ⟨RX8, TX8, 8, tyX8, "right", "[I", oC8, by decide, rfl, by decide +kernel, Or.inl (oT_mem 365 (by decide +kernel) rfl)⟩
theorem f_R_18 : oFl "OneCoin$Rows" 18 8 3 true (.array .int) := ⟨RX8, TX8, 8, tyX8, "pairs", "[I", oC8, by decide, rfl, by decide +kernel, Or.inl (oT_mem 366 (by decide +kernel) rfl)⟩
theorem f_R_21 : oFl "OneCoin$Rows" 21 8 4 true (.array .int) := ⟨RX8, TX8, 8, tyX8, "far", "[I", oC8, by decide, rfl, by decide +kernel, Or.inl (oT_mem 367 (by decide +kernel) rfl)⟩
theorem f_R_24 : oFl "OneCoin$Rows" 24 8 5 true (.array .int) := ⟨RX8, TX8, 8, tyX8, "row", "[I", oC8, by decide, rfl, by decide +kernel, Or.inl (oT_mem 368 (by decide +kernel) rfl)⟩
theorem f_R_27 : oFl "OneCoin$Rows" 27 8 6 true (.array .int) := ⟨RX8, TX8, 8, tyX8, "best", "[I", oC8, by decide, rfl, by decide +kernel, Or.inl (oT_mem 370 (by decide +kernel) rfl)⟩
theorem f_R_30 : oFl "OneCoin$Rows" 30 8 0 true (.object "OneCoin$People") := ⟨RX8, TX8, 8, tyX8, "people", "LOneCoin$People;", oC8, by decide, rfl, by decide +kernel, Or.inl (oT_mem 363 (by decide +kernel) rfl)⟩
theorem f_R_55 : oFl "OneCoin$Rows" 55 8 7 false (.int) := ⟨RX8, TX8, 8, tyX8, "bestLength", "I", oC8, by decide, rfl, by decide +kernel, Or.inl (oT_mem 372 (by decide +kernel) rfl)⟩
theorem f_R_97 : oFl "OneCoin$Rows" 97 3 4 false (.int) := ⟨RX3, TX3, 12, tyX3, "holder", "I", oC3, by decide, rfl, by decide +kernel, Or.inr ⟨"OneCoin", oTN_mem 187 (by decide +kernel) rfl⟩⟩
theorem f_T_9 : oFl "OneCoin$Tape" 9 9 0 true (.array .int) := ⟨RX9, TX9, 5, tyX9, "bytes", "[I", oC9, by decide, rfl, by decide +kernel, Or.inl (oT_mem 131 (by decide +kernel) rfl)⟩
theorem f_T_15 : oFl "OneCoin$Tape" 15 9 4 false (.int) := ⟨RX9, TX9, 5, tyX9, "next", "I", oC9, by decide, rfl, by decide +kernel, Or.inl (oT_mem 135 (by decide +kernel) rfl)⟩
theorem f_T_19 : oFl "OneCoin$Tape" 19 9 1 false (.int) := ⟨RX9, TX9, 5, tyX9, "size", "I", oC9, by decide, rfl, by decide +kernel, Or.inl (oT_mem 132 (by decide +kernel) rfl)⟩
theorem f_T_22 : oFl "OneCoin$Tape" 22 9 2 false (.int) := ⟨RX9, TX9, 5, tyX9, "limit", "I", oC9, by decide, rfl, by decide +kernel, Or.inl (oT_mem 133 (by decide +kernel) rfl)⟩
theorem f_T_25 : oFl "OneCoin$Tape" 25 9 3 false (.int) := ⟨RX9, TX9, 5, tyX9, "place", "I", oC9, by decide, rfl, by decide +kernel, Or.inl (oT_mem 134 (by decide +kernel) rfl)⟩
theorem f_M_7 : oFl "OneCoinModel" 7 11 0 true (.array .int) := ⟨RX11, TX11, 62, tyX11, "now", "[I", oC11, by decide, rfl, by decide +kernel, Or.inl (oT_mem 1098 (by decide +kernel) rfl)⟩
theorem f_M_13 : oFl "OneCoinModel" 13 11 1 true (.array .int) := ⟨RX11, TX11, 62, tyX11, "aside", "[I", oC11, by decide, rfl, by decide +kernel, Or.inl (oT_mem 1099 (by decide +kernel) rfl)⟩
theorem f_M_16 : oFl "OneCoinModel" 16 11 2 true (.array .int) := ⟨RX11, TX11, 62, tyX11, "kept", "[I", oC11, by decide, rfl, by decide +kernel, Or.inl (oT_mem 1100 (by decide +kernel) rfl)⟩
theorem f_M_19 : oFl "OneCoinModel" 19 11 3 true (.array .int) := ⟨RX11, TX11, 62, tyX11, "spotX", "[I", oC11, by decide, rfl, by decide +kernel, Or.inl (oT_mem 1101 (by decide +kernel) rfl)⟩
theorem f_M_22 : oFl "OneCoinModel" 22 11 4 true (.array .int) := ⟨RX11, TX11, 62, tyX11, "spotY", "[I", oC11, by decide, rfl, by decide +kernel, Or.inl (oT_mem 1102 (by decide +kernel) rfl)⟩
theorem f_M_25 : oFl "OneCoinModel" 25 11 6 true (.array .byte) := ⟨RX11, TX11, 62, tyX11, "tape", "[B", oC11, by decide, rfl, by decide +kernel, Or.inl (oT_mem 1104 (by decide +kernel) rfl)⟩
theorem f_M_29 : oFl "OneCoinModel" 29 11 17 true (.array .int) := ⟨RX11, TX11, 62, tyX11, "said", "[I", oC11, by decide, rfl, by decide +kernel, Or.inl (oT_mem 1115 (by decide +kernel) rfl)⟩
theorem f_M_32 : oFl "OneCoinModel" 32 11 18 true (.array .int) := ⟨RX11, TX11, 62, tyX11, "waitsAt", "[I", oC11, by decide, rfl, by decide +kernel, Or.inl (oT_mem 1116 (by decide +kernel) rfl)⟩
theorem f_M_35 : oFl "OneCoinModel" 35 11 19 true (.array .int) := ⟨RX11, TX11, 62, tyX11, "saidLetter", "[I", oC11, by decide, rfl, by decide +kernel, Or.inl (oT_mem 1117 (by decide +kernel) rfl)⟩
theorem f_M_38 : oFl "OneCoinModel" 38 11 20 true (.array .int) := ⟨RX11, TX11, 62, tyX11, "saidFrom", "[I", oC11, by decide, rfl, by decide +kernel, Or.inl (oT_mem 1118 (by decide +kernel) rfl)⟩
theorem f_M_41 : oFl "OneCoinModel" 41 11 21 true (.array .int) := ⟨RX11, TX11, 62, tyX11, "saidHalf", "[I", oC11, by decide, rfl, by decide +kernel, Or.inl (oT_mem 1119 (by decide +kernel) rfl)⟩
theorem f_M_44 : oFl "OneCoinModel" 44 11 22 true (.array .int) := ⟨RX11, TX11, 62, tyX11, "saidTo", "[I", oC11, by decide, rfl, by decide +kernel, Or.inl (oT_mem 1120 (by decide +kernel) rfl)⟩
theorem f_M_47 : oFl "OneCoinModel" 47 11 23 true (.array .int) := ⟨RX11, TX11, 62, tyX11, "codes", "[I", oC11, by decide, rfl, by decide +kernel, Or.inl (oT_mem 1121 (by decide +kernel) rfl)⟩
theorem f_M_50 : oFl "OneCoinModel" 50 11 24 true (.array .int) := ⟨RX11, TX11, 62, tyX11, "clauseOf", "[I", oC11, by decide, rfl, by decide +kernel, Or.inl (oT_mem 1122 (by decide +kernel) rfl)⟩
theorem f_M_53 : oFl "OneCoinModel" 53 11 25 true (.array .int) := ⟨RX11, TX11, 62, tyX11, "codeFrom", "[I", oC11, by decide, rfl, by decide +kernel, Or.inl (oT_mem 1123 (by decide +kernel) rfl)⟩
theorem f_M_56 : oFl "OneCoinModel" 56 11 26 true (.array .int) := ⟨RX11, TX11, 62, tyX11, "codeHalf", "[I", oC11, by decide, rfl, by decide +kernel, Or.inl (oT_mem 1124 (by decide +kernel) rfl)⟩
theorem f_M_59 : oFl "OneCoinModel" 59 11 27 true (.array .int) := ⟨RX11, TX11, 62, tyX11, "codeTo", "[I", oC11, by decide, rfl, by decide +kernel, Or.inl (oT_mem 1125 (by decide +kernel) rfl)⟩
theorem f_M_62 : oFl "OneCoinModel" 62 11 28 true (.array .int) := ⟨RX11, TX11, 62, tyX11, "stack", "[I", oC11, by decide, rfl, by decide +kernel, Or.inl (oT_mem 1126 (by decide +kernel) rfl)⟩
theorem f_M_65 : oFl "OneCoinModel" 65 11 29 true (.array .int) := ⟨RX11, TX11, 62, tyX11, "facts", "[I", oC11, by decide, rfl, by decide +kernel, Or.inl (oT_mem 1127 (by decide +kernel) rfl)⟩
theorem f_M_68 : oFl "OneCoinModel" 68 11 30 true (.array .int) := ⟨RX11, TX11, 62, tyX11, "newDebt", "[I", oC11, by decide, rfl, by decide +kernel, Or.inl (oT_mem 1128 (by decide +kernel) rfl)⟩
theorem f_M_71 : oFl "OneCoinModel" 71 11 36 true (.array .int) := ⟨RX11, TX11, 62, tyX11, "newStep", "[I", oC11, by decide, rfl, by decide +kernel, Or.inl (oT_mem 1134 (by decide +kernel) rfl)⟩
theorem f_M_74 : oFl "OneCoinModel" 74 11 37 true (.array .int) := ⟨RX11, TX11, 62, tyX11, "roundFrom", "[I", oC11, by decide, rfl, by decide +kernel, Or.inl (oT_mem 1135 (by decide +kernel) rfl)⟩
theorem f_M_77 : oFl "OneCoinModel" 77 11 38 true (.array .int) := ⟨RX11, TX11, 62, tyX11, "roundAt", "[I", oC11, by decide, rfl, by decide +kernel, Or.inl (oT_mem 1136 (by decide +kernel) rfl)⟩
theorem f_M_80 : oFl "OneCoinModel" 80 11 39 true (.array .int) := ⟨RX11, TX11, 62, tyX11, "roundTimes", "[I", oC11, by decide, rfl, by decide +kernel, Or.inl (oT_mem 1137 (by decide +kernel) rfl)⟩
theorem f_M_83 : oFl "OneCoinModel" 83 11 46 true (.array .int) := ⟨RX11, TX11, 62, tyX11, "leftDebt", "[I", oC11, by decide, rfl, by decide +kernel, Or.inl (oT_mem 1144 (by decide +kernel) rfl)⟩
theorem f_M_86 : oFl "OneCoinModel" 86 11 47 true (.array .int) := ⟨RX11, TX11, 62, tyX11, "tourStep", "[I", oC11, by decide, rfl, by decide +kernel, Or.inl (oT_mem 1145 (by decide +kernel) rfl)⟩
theorem f_M_89 : oFl "OneCoinModel" 89 11 48 true (.array .int) := ⟨RX11, TX11, 62, tyX11, "coinFrom", "[I", oC11, by decide, rfl, by decide +kernel, Or.inl (oT_mem 1146 (by decide +kernel) rfl)⟩
theorem f_M_92 : oFl "OneCoinModel" 92 11 49 true (.array .int) := ⟨RX11, TX11, 62, tyX11, "coinTo", "[I", oC11, by decide, rfl, by decide +kernel, Or.inl (oT_mem 1147 (by decide +kernel) rfl)⟩
theorem f_M_96 : oFl "OneCoinModel" 96 11 51 true (.array .byte) := ⟨RX11, TX11, 62, tyX11, "moreBy", "[B", oC11, by decide, rfl, by decide +kernel, Or.inl (oT_mem 1149 (by decide +kernel) rfl)⟩
theorem f_M_99 : oFl "OneCoinModel" 99 11 52 true (.array .int) := ⟨RX11, TX11, 62, tyX11, "stepsTo", "[I", oC11, by decide, rfl, by decide +kernel, Or.inl (oT_mem 1150 (by decide +kernel) rfl)⟩
theorem f_M_102 : oFl "OneCoinModel" 102 11 53 true (.array .int) := ⟨RX11, TX11, 62, tyX11, "hoursTo", "[I", oC11, by decide, rfl, by decide +kernel, Or.inl (oT_mem 1151 (by decide +kernel) rfl)⟩
theorem f_M_105 : oFl "OneCoinModel" 105 11 54 true (.array .int) := ⟨RX11, TX11, 62, tyX11, "lackOf", "[I", oC11, by decide, rfl, by decide +kernel, Or.inl (oT_mem 1152 (by decide +kernel) rfl)⟩
theorem f_M_108 : oFl "OneCoinModel" 108 11 55 true (.array .int) := ⟨RX11, TX11, 62, tyX11, "wantOf", "[I", oC11, by decide, rfl, by decide +kernel, Or.inl (oT_mem 1153 (by decide +kernel) rfl)⟩
theorem f_M_111 : oFl "OneCoinModel" 111 11 56 true (.array .int) := ⟨RX11, TX11, 62, tyX11, "rowNow", "[I", oC11, by decide, rfl, by decide +kernel, Or.inl (oT_mem 1154 (by decide +kernel) rfl)⟩
theorem f_M_114 : oFl "OneCoinModel" 114 11 57 true (.array .int) := ⟨RX11, TX11, 62, tyX11, "rowBest", "[I", oC11, by decide, rfl, by decide +kernel, Or.inl (oT_mem 1155 (by decide +kernel) rfl)⟩
theorem f_M_117 : oFl "OneCoinModel" 117 11 59 true (.array .int) := ⟨RX11, TX11, 62, tyX11, "sumOf", "[I", oC11, by decide, rfl, by decide +kernel, Or.inl (oT_mem 1157 (by decide +kernel) rfl)⟩
theorem f_M_120 : oFl "OneCoinModel" 120 11 60 true (.array .int) := ⟨RX11, TX11, 62, tyX11, "groupsOf", "[I", oC11, by decide, rfl, by decide +kernel, Or.inl (oT_mem 1158 (by decide +kernel) rfl)⟩
theorem f_M_127 : oFl "OneCoinModel" 127 11 5 false (.int) := ⟨RX11, TX11, 62, tyX11, "people", "I", oC11, by decide, rfl, by decide +kernel, Or.inl (oT_mem 1103 (by decide +kernel) rfl)⟩
theorem f_M_160 : oFl "OneCoinModel" 160 11 7 false (.int) := ⟨RX11, TX11, 62, tyX11, "taped", "I", oC11, by decide, rfl, by decide +kernel, Or.inl (oT_mem 1105 (by decide +kernel) rfl)⟩
theorem f_M_166 : oFl "OneCoinModel" 166 11 8 false (.int) := ⟨RX11, TX11, 62, tyX11, "place0", "I", oC11, by decide, rfl, by decide +kernel, Or.inl (oT_mem 1106 (by decide +kernel) rfl)⟩
theorem f_M_169 : oFl "OneCoinModel" 169 11 9 false (.int) := ⟨RX11, TX11, 62, tyX11, "length0", "I", oC11, by decide, rfl, by decide +kernel, Or.inl (oT_mem 1107 (by decide +kernel) rfl)⟩
theorem f_M_176 : oFl "OneCoinModel" 176 11 10 false (.int) := ⟨RX11, TX11, 62, tyX11, "fault", "I", oC11, by decide, rfl, by decide +kernel, Or.inl (oT_mem 1108 (by decide +kernel) rfl)⟩
theorem f_M_182 : oFl "OneCoinModel" 182 11 11 false (.int) := ⟨RX11, TX11, 62, tyX11, "number0", "I", oC11, by decide, rfl, by decide +kernel, Or.inl (oT_mem 1109 (by decide +kernel) rfl)⟩
theorem f_M_189 : oFl "OneCoinModel" 189 11 13 false (.int) := ⟨RX11, TX11, 62, tyX11, "codeMany", "I", oC11, by decide, rfl, by decide +kernel, Or.inl (oT_mem 1111 (by decide +kernel) rfl)⟩
theorem f_M_193 : oFl "OneCoinModel" 193 11 12 false (.int) := ⟨RX11, TX11, 62, tyX11, "open", "I", oC11, by decide, rfl, by decide +kernel, Or.inl (oT_mem 1110 (by decide +kernel) rfl)⟩
theorem f_M_196 : oFl "OneCoinModel" 196 11 14 false (.int) := ⟨RX11, TX11, 62, tyX11, "waiting", "I", oC11, by decide, rfl, by decide +kernel, Or.inl (oT_mem 1112 (by decide +kernel) rfl)⟩
theorem f_M_243 : oFl "OneCoinModel" 243 11 15 false (.int) := ⟨RX11, TX11, 62, tyX11, "saidMany", "I", oC11, by decide, rfl, by decide +kernel, Or.inl (oT_mem 1113 (by decide +kernel) rfl)⟩
theorem f_M_255 : oFl "OneCoinModel" 255 11 16 false (.int) := ⟨RX11, TX11, 62, tyX11, "clauses", "I", oC11, by decide, rfl, by decide +kernel, Or.inl (oT_mem 1114 (by decide +kernel) rfl)⟩
theorem f_M_283 : oFl "OneCoinModel" 283 11 31 false (.int) := ⟨RX11, TX11, 62, tyX11, "lines", "I", oC11, by decide, rfl, by decide +kernel, Or.inl (oT_mem 1129 (by decide +kernel) rfl)⟩
theorem f_M_306 : oFl "OneCoinModel" 306 11 33 false (.int) := ⟨RX11, TX11, 62, tyX11, "rained", "I", oC11, by decide, rfl, by decide +kernel, Or.inl (oT_mem 1131 (by decide +kernel) rfl)⟩
theorem f_M_309 : oFl "OneCoinModel" 309 11 34 false (.int) := ⟨RX11, TX11, 62, tyX11, "grown", "I", oC11, by decide, rfl, by decide +kernel, Or.inl (oT_mem 1132 (by decide +kernel) rfl)⟩
theorem f_M_321 : oFl "OneCoinModel" 321 11 35 false (.int) := ⟨RX11, TX11, 62, tyX11, "arrived", "I", oC11, by decide, rfl, by decide +kernel, Or.inl (oT_mem 1133 (by decide +kernel) rfl)⟩
theorem f_M_330 : oFl "OneCoinModel" 330 11 32 false (.int) := ⟨RX11, TX11, 62, tyX11, "paid", "I", oC11, by decide, rfl, by decide +kernel, Or.inl (oT_mem 1130 (by decide +kernel) rfl)⟩
theorem f_M_352 : oFl "OneCoinModel" 352 11 40 false (.int) := ⟨RX11, TX11, 62, tyX11, "newMany", "I", oC11, by decide, rfl, by decide +kernel, Or.inl (oT_mem 1138 (by decide +kernel) rfl)⟩
theorem f_M_355 : oFl "OneCoinModel" 355 11 42 false (.int) := ⟨RX11, TX11, 62, tyX11, "itemFrom", "I", oC11, by decide, rfl, by decide +kernel, Or.inl (oT_mem 1140 (by decide +kernel) rfl)⟩
theorem f_M_358 : oFl "OneCoinModel" 358 11 43 false (.int) := ⟨RX11, TX11, 62, tyX11, "itemTimes", "I", oC11, by decide, rfl, by decide +kernel, Or.inl (oT_mem 1141 (by decide +kernel) rfl)⟩
theorem f_M_364 : oFl "OneCoinModel" 364 11 41 false (.int) := ⟨RX11, TX11, 62, tyX11, "rounds", "I", oC11, by decide, rfl, by decide +kernel, Or.inl (oT_mem 1139 (by decide +kernel) rfl)⟩
theorem f_M_373 : oFl "OneCoinModel" 373 11 44 false (.int) := ⟨RX11, TX11, 62, tyX11, "walkedMany", "I", oC11, by decide, rfl, by decide +kernel, Or.inl (oT_mem 1142 (by decide +kernel) rfl)⟩
theorem f_M_376 : oFl "OneCoinModel" 376 11 45 false (.int) := ⟨RX11, TX11, 62, tyX11, "walkedHours", "I", oC11, by decide, rfl, by decide +kernel, Or.inl (oT_mem 1143 (by decide +kernel) rfl)⟩
theorem f_M_400 : oFl "OneCoinModel" 400 11 50 false (.int) := ⟨RX11, TX11, 62, tyX11, "coinMany", "I", oC11, by decide, rfl, by decide +kernel, Or.inl (oT_mem 1148 (by decide +kernel) rfl)⟩
theorem f_M_416 : oFl "OneCoinModel" 416 11 58 false (.int) := ⟨RX11, TX11, 62, tyX11, "lacks", "I", oC11, by decide, rfl, by decide +kernel, Or.inl (oT_mem 1156 (by decide +kernel) rfl)⟩
theorem f_M_457 : oFl "OneCoinModel" 457 11 61 false (.boolean) := ⟨RX11, TX11, 62, tyX11, "isKept", "Z", oC11, by decide, rfl, by decide +kernel, Or.inl (oT_mem 1159 (by decide +kernel) rfl)⟩
theorem g_JS_9 : Cond.fieldLink "java/lang/String" 9 "java/lang/String" "value" "[B" ∈ oT := oT_mem 1736 (by decide +kernel) rfl
theorem g_JS_15 : Cond.fieldLink "java/lang/String" 15 "java/lang/String" "coder" "B" ∈ oT := oT_mem 1735 (by decide +kernel) rfl
theorem g_JS_38 : Cond.fieldLink "java/lang/String" 38 "java/lang/String" "COMPACT_STRINGS" "Z" ∈ oT := oT_mem 580 (by decide +kernel) rfl
theorem co_O_isOne : oCo m_O_isOne 1 := ⟨oT_mem 475 (by decide +kernel) rfl, oT_mem 96 (by decide +kernel) rfl, ⟨by decide +kernel, by decide +kernel, by decide +kernel⟩, by decide⟩
theorem v_O_98 : oClS "OneCoin" 98 m_O_isOne 1 := ⟨Or.inl (oT_mem 473 (by decide +kernel) rfl), oT_mem 474 (by decide +kernel) rfl, co_O_isOne⟩
theorem co_P_settle : oCo m_P_settle 3 := ⟨oT_mem 479 (by decide +kernel) rfl, oT_mem 98 (by decide +kernel) rfl, ⟨by decide +kernel, by decide +kernel, by decide +kernel⟩, by decide⟩
theorem v_O_102 : oClV "OneCoin" 102 m_P_settle 3 6 := ⟨Or.inl (oT_mem 476 (by decide +kernel) rfl), oT_mem 477 (by decide +kernel) rfl, oT_mem 478 (by decide +kernel) rfl, co_P_settle, ⟨_, rfl, rfl⟩⟩
theorem co_P_hasBoth : oCo m_P_hasBoth 2 := ⟨oT_mem 487 (by decide +kernel) rfl, oT_mem 98 (by decide +kernel) rfl, ⟨by decide +kernel, by decide +kernel, by decide +kernel⟩, by decide⟩
theorem v_O_106 : oClV "OneCoin" 106 m_P_hasBoth 2 6 := ⟨Or.inl (oT_mem 484 (by decide +kernel) rfl), oT_mem 485 (by decide +kernel) rfl, oT_mem 486 (by decide +kernel) rfl, co_P_hasBoth, ⟨_, rfl, rfl⟩⟩
theorem co_P_has : oCo m_P_has 1 := ⟨oT_mem 491 (by decide +kernel) rfl, oT_mem 98 (by decide +kernel) rfl, ⟨by decide +kernel, by decide +kernel, by decide +kernel⟩, by decide⟩
theorem v_O_114 : oClV "OneCoin" 114 m_P_has 1 6 := ⟨Or.inl (oT_mem 497 (by decide +kernel) rfl), oT_mem 489 (by decide +kernel) rfl, oT_mem 490 (by decide +kernel) rfl, co_P_has, ⟨_, rfl, rfl⟩⟩
theorem co_D_giveTo : oCo m_D_giveTo 1 := ⟨oT_mem 501 (by decide +kernel) rfl, oT_mem 99 (by decide +kernel) rfl, ⟨by decide +kernel, by decide +kernel, by decide +kernel⟩, by decide⟩
theorem v_O_117 : oClV "OneCoin" 117 m_D_giveTo 1 3 := ⟨Or.inl (oT_mem 498 (by decide +kernel) rfl), oT_mem 499 (by decide +kernel) rfl, oT_mem 500 (by decide +kernel) rfl, co_D_giveTo, ⟨_, rfl, rfl⟩⟩
theorem co_T_size : oCo m_T_size 0 := ⟨oT_mem 509 (by decide +kernel) rfl, oT_mem 97 (by decide +kernel) rfl, ⟨by decide +kernel, by decide +kernel, by decide +kernel⟩, by decide⟩
theorem v_O_121 : oClV "OneCoin" 121 m_T_size 0 9 := ⟨Or.inl (oT_mem 506 (by decide +kernel) rfl), oT_mem 507 (by decide +kernel) rfl, oT_mem 508 (by decide +kernel) rfl, co_T_size, ⟨_, rfl, rfl⟩⟩
theorem co_T_add : oCo m_T_add 1 := ⟨oT_mem 513 (by decide +kernel) rfl, oT_mem 97 (by decide +kernel) rfl, ⟨by decide +kernel, by decide +kernel, by decide +kernel⟩, by decide⟩
theorem v_O_125 : oClV "OneCoin" 125 m_T_add 1 9 := ⟨Or.inl (oT_mem 510 (by decide +kernel) rfl), oT_mem 511 (by decide +kernel) rfl, oT_mem 512 (by decide +kernel) rfl, co_T_add, ⟨_, rfl, rfl⟩⟩
theorem co_T_opens : oCo m_T_opens 3 := ⟨oT_mem 521 (by decide +kernel) rfl, oT_mem 97 (by decide +kernel) rfl, ⟨by decide +kernel, by decide +kernel, by decide +kernel⟩, by decide⟩
theorem v_O_128 : oClV "OneCoin" 128 m_T_opens 3 9 := ⟨Or.inl (oT_mem 518 (by decide +kernel) rfl), oT_mem 519 (by decide +kernel) rfl, oT_mem 520 (by decide +kernel) rfl, co_T_opens, ⟨_, rfl, rfl⟩⟩
theorem co_LR_read : oCo m_LR_read 0 := ⟨oT_mem 529 (by decide +kernel) rfl, oT_mem 101 (by decide +kernel) rfl, ⟨by decide +kernel, by decide +kernel, by decide +kernel⟩, by decide⟩
theorem v_O_132 : oClV "OneCoin" 132 m_LR_read 0 5 := ⟨Or.inl (oT_mem 526 (by decide +kernel) rfl), oT_mem 527 (by decide +kernel) rfl, oT_mem 528 (by decide +kernel) rfl, co_LR_read, ⟨_, rfl, rfl⟩⟩
theorem co_T_clear : oCo m_T_clear 0 := ⟨oT_mem 677 (by decide +kernel) rfl, oT_mem 97 (by decide +kernel) rfl, ⟨by decide +kernel, by decide +kernel, by decide +kernel⟩, by decide⟩
theorem v_O_135 : oClV "OneCoin" 135 m_T_clear 0 9 := ⟨Or.inl (oT_mem 674 (by decide +kernel) rfl), oT_mem 675 (by decide +kernel) rfl, oT_mem 676 (by decide +kernel) rfl, co_T_clear, ⟨_, rfl, rfl⟩⟩
theorem co_L_takeFrom : oCo m_L_takeFrom 1 := ⟨oT_mem 681 (by decide +kernel) rfl, oT_mem 100 (by decide +kernel) rfl, ⟨by decide +kernel, by decide +kernel, by decide +kernel⟩, by decide⟩
theorem v_O_138 : oClV "OneCoin" 138 m_L_takeFrom 1 4 := ⟨Or.inl (oT_mem 678 (by decide +kernel) rfl), oT_mem 679 (by decide +kernel) rfl, oT_mem 680 (by decide +kernel) rfl, co_L_takeFrom, ⟨_, rfl, rfl⟩⟩
theorem co_DR_read : oCo m_DR_read 0 := ⟨oT_mem 693 (by decide +kernel) rfl, oT_mem 102 (by decide +kernel) rfl, ⟨by decide +kernel, by decide +kernel, by decide +kernel⟩, by decide⟩
theorem v_O_142 : oClV "OneCoin" 142 m_DR_read 0 2 := ⟨Or.inl (oT_mem 690 (by decide +kernel) rfl), oT_mem 691 (by decide +kernel) rfl, oT_mem 692 (by decide +kernel) rfl, co_DR_read, ⟨_, rfl, rfl⟩⟩
theorem l_O_145 : Cond.methodLink "OneCoin" 145 arraycopyName ∈ oT := oT_mem 722 (by decide +kernel) rfl
theorem co_D_owedInAll : oCo m_D_owedInAll 0 := ⟨oT_mem 726 (by decide +kernel) rfl, oT_mem 99 (by decide +kernel) rfl, ⟨by decide +kernel, by decide +kernel, by decide +kernel⟩, by decide⟩
theorem v_O_151 : oClV "OneCoin" 151 m_D_owedInAll 0 3 := ⟨Or.inl (oT_mem 723 (by decide +kernel) rfl), oT_mem 724 (by decide +kernel) rfl, oT_mem 725 (by decide +kernel) rfl, co_D_owedInAll, ⟨_, rfl, rfl⟩⟩
theorem co_O_areHours : oCo m_O_areHours 1 := ⟨oT_mem 733 (by decide +kernel) rfl, oT_mem 96 (by decide +kernel) rfl, ⟨by decide +kernel, by decide +kernel, by decide +kernel⟩, by decide⟩
theorem v_O_154 : oClS "OneCoin" 154 m_O_areHours 1 := ⟨Or.inl (oT_mem 731 (by decide +kernel) rfl), oT_mem 732 (by decide +kernel) rfl, co_O_areHours⟩
theorem co_C_pass : oCo m_C_pass 2 := ⟨oT_mem 737 (by decide +kernel) rfl, oT_mem 104 (by decide +kernel) rfl, ⟨by decide +kernel, by decide +kernel, by decide +kernel⟩, by decide⟩
theorem v_O_157 : oClV "OneCoin" 157 m_C_pass 2 1 := ⟨Or.inl (oT_mem 734 (by decide +kernel) rfl), oT_mem 735 (by decide +kernel) rfl, oT_mem 736 (by decide +kernel) rfl, co_C_pass, ⟨_, rfl, rfl⟩⟩
theorem co_D_takeFrom : oCo m_D_takeFrom 1 := ⟨oT_mem 836 (by decide +kernel) rfl, oT_mem 99 (by decide +kernel) rfl, ⟨by decide +kernel, by decide +kernel, by decide +kernel⟩, by decide⟩
theorem v_O_165 : oClV "OneCoin" 165 m_D_takeFrom 1 3 := ⟨Or.inl (oT_mem 833 (by decide +kernel) rfl), oT_mem 834 (by decide +kernel) rfl, oT_mem 835 (by decide +kernel) rfl, co_D_takeFrom, ⟨_, rfl, rfl⟩⟩
theorem co_D_owedBy : oCo m_D_owedBy 1 := ⟨oT_mem 785 (by decide +kernel) rfl, oT_mem 99 (by decide +kernel) rfl, ⟨by decide +kernel, by decide +kernel, by decide +kernel⟩, by decide⟩
theorem v_O_189 : oClV "OneCoin" 189 m_D_owedBy 1 3 := ⟨Or.inl (oT_mem 841 (by decide +kernel) rfl), oT_mem 783 (by decide +kernel) rfl, oT_mem 784 (by decide +kernel) rfl, co_D_owedBy, ⟨_, rfl, rfl⟩⟩
theorem co_D_owedTo : oCo m_D_owedTo 1 := ⟨oT_mem 845 (by decide +kernel) rfl, oT_mem 99 (by decide +kernel) rfl, ⟨by decide +kernel, by decide +kernel, by decide +kernel⟩, by decide⟩
theorem v_O_193 : oClV "OneCoin" 193 m_D_owedTo 1 3 := ⟨Or.inl (oT_mem 842 (by decide +kernel) rfl), oT_mem 843 (by decide +kernel) rfl, oT_mem 844 (by decide +kernel) rfl, co_D_owedTo, ⟨_, rfl, rfl⟩⟩
theorem co_D_timesChalked : oCo m_D_timesChalked 1 := ⟨oT_mem 797 (by decide +kernel) rfl, oT_mem 99 (by decide +kernel) rfl, ⟨by decide +kernel, by decide +kernel, by decide +kernel⟩, by decide⟩
theorem v_O_196 : oClV "OneCoin" 196 m_D_timesChalked 1 3 := ⟨Or.inl (oT_mem 846 (by decide +kernel) rfl), oT_mem 795 (by decide +kernel) rfl, oT_mem 796 (by decide +kernel) rfl, co_D_timesChalked, ⟨_, rfl, rfl⟩⟩
theorem co_D_debtOf : oCo m_D_debtOf 2 := ⟨oT_mem 780 (by decide +kernel) rfl, oT_mem 99 (by decide +kernel) rfl, ⟨by decide +kernel, by decide +kernel, by decide +kernel⟩, by decide⟩
theorem v_O_199 : oClV "OneCoin" 199 m_D_debtOf 2 3 := ⟨Or.inl (oT_mem 851 (by decide +kernel) rfl), oT_mem 778 (by decide +kernel) rfl, oT_mem 779 (by decide +kernel) rfl, co_D_debtOf, ⟨_, rfl, rfl⟩⟩
theorem co_L_liking : oCo m_L_liking 3 := ⟨oT_mem 823 (by decide +kernel) rfl, oT_mem 100 (by decide +kernel) rfl, ⟨by decide +kernel, by decide +kernel, by decide +kernel⟩, by decide⟩
theorem v_O_203 : oClV "OneCoin" 203 m_L_liking 3 4 := ⟨Or.inl (oT_mem 856 (by decide +kernel) rfl), oT_mem 821 (by decide +kernel) rfl, oT_mem 822 (by decide +kernel) rfl, co_L_liking, ⟨_, rfl, rfl⟩⟩
theorem co_O_readRoute : oCo m_O_readRoute 0 := ⟨oT_mem 864 (by decide +kernel) rfl, oT_mem 96 (by decide +kernel) rfl, ⟨by decide +kernel, by decide +kernel, by decide +kernel⟩, by decide⟩
theorem v_O_207 : oClV "OneCoin" 207 m_O_readRoute 0 10 := ⟨Or.inl (oT_mem 861 (by decide +kernel) rfl), oT_mem 863 (by decide +kernel) rfl, oT_mem 16 (by decide +kernel) rfl, co_O_readRoute, ⟨_, rfl, rfl⟩⟩
theorem co_RR_walkedBy : oCo m_RR_walkedBy 1 := ⟨oT_mem 891 (by decide +kernel) rfl, oT_mem 103 (by decide +kernel) rfl, ⟨by decide +kernel, by decide +kernel, by decide +kernel⟩, by decide⟩
theorem v_O_210 : oClV "OneCoin" 210 m_RR_walkedBy 1 7 := ⟨Or.inl (oT_mem 888 (by decide +kernel) rfl), oT_mem 889 (by decide +kernel) rfl, oT_mem 890 (by decide +kernel) rfl, co_RR_walkedBy, ⟨_, rfl, rfl⟩⟩
theorem co_P_hoursOf : oCo m_P_hoursOf 3 := ⟨oT_mem 897 (by decide +kernel) rfl, oT_mem 98 (by decide +kernel) rfl, ⟨by decide +kernel, by decide +kernel, by decide +kernel⟩, by decide⟩
theorem v_O_217 : oClV "OneCoin" 217 m_P_hoursOf 3 6 := ⟨Or.inl (oT_mem 894 (by decide +kernel) rfl), oT_mem 895 (by decide +kernel) rfl, oT_mem 896 (by decide +kernel) rfl, co_P_hoursOf, ⟨_, rfl, rfl⟩⟩
theorem co_R_isOneRow : oCo m_R_isOneRow 2 := ⟨oT_mem 909 (by decide +kernel) rfl, oT_mem 105 (by decide +kernel) rfl, ⟨by decide +kernel, by decide +kernel, by decide +kernel⟩, by decide⟩
theorem v_O_221 : oClS "OneCoin" 221 m_R_isOneRow 2 := ⟨Or.inl (oT_mem 907 (by decide +kernel) rfl), oT_mem 908 (by decide +kernel) rfl, co_R_isOneRow⟩
theorem co_R_planTour : oCo m_R_planTour 3 := ⟨oT_mem 919 (by decide +kernel) rfl, oT_mem 105 (by decide +kernel) rfl, ⟨by decide +kernel, by decide +kernel, by decide +kernel⟩, by decide⟩
theorem v_O_225 : oClV "OneCoin" 225 m_R_planTour 3 8 := ⟨Or.inl (oT_mem 916 (by decide +kernel) rfl), oT_mem 917 (by decide +kernel) rfl, oT_mem 918 (by decide +kernel) rfl, co_R_planTour, ⟨_, rfl, rfl⟩⟩
theorem co_R_planMost : oCo m_R_planMost 2 := ⟨oT_mem 933 (by decide +kernel) rfl, oT_mem 105 (by decide +kernel) rfl, ⟨by decide +kernel, by decide +kernel, by decide +kernel⟩, by decide⟩
theorem v_O_230 : oClV "OneCoin" 230 m_R_planMost 2 8 := ⟨Or.inl (oT_mem 930 (by decide +kernel) rfl), oT_mem 931 (by decide +kernel) rfl, oT_mem 932 (by decide +kernel) rfl, co_R_planMost, ⟨_, rfl, rfl⟩⟩
theorem co_R_wayBack : oCo m_R_wayBack 3 := ⟨oT_mem 944 (by decide +kernel) rfl, oT_mem 105 (by decide +kernel) rfl, ⟨by decide +kernel, by decide +kernel, by decide +kernel⟩, by decide⟩
theorem v_O_237 : oClV "OneCoin" 237 m_R_wayBack 3 8 := ⟨Or.inl (oT_mem 941 (by decide +kernel) rfl), oT_mem 942 (by decide +kernel) rfl, oT_mem 943 (by decide +kernel) rfl, co_R_wayBack, ⟨_, rfl, rfl⟩⟩
theorem co_B_newDebts : oCo m_B_newDebts 1 := ⟨oT_mem 957 (by decide +kernel) rfl, oT_mem 106 (by decide +kernel) rfl, ⟨by decide +kernel, by decide +kernel, by decide +kernel⟩, by decide⟩
theorem v_O_242 : oClV "OneCoin" 242 m_B_newDebts 1 0 := ⟨Or.inl (oT_mem 954 (by decide +kernel) rfl), oT_mem 955 (by decide +kernel) rfl, oT_mem 956 (by decide +kernel) rfl, co_B_newDebts, ⟨_, rfl, rfl⟩⟩
theorem co_B_planNewDebts : oCo m_B_planNewDebts 1 := ⟨oT_mem 968 (by decide +kernel) rfl, oT_mem 106 (by decide +kernel) rfl, ⟨by decide +kernel, by decide +kernel, by decide +kernel⟩, by decide⟩
theorem v_O_245 : oClV "OneCoin" 245 m_B_planNewDebts 1 0 := ⟨Or.inl (oT_mem 965 (by decide +kernel) rfl), oT_mem 966 (by decide +kernel) rfl, oT_mem 967 (by decide +kernel) rfl, co_B_planNewDebts, ⟨_, rfl, rfl⟩⟩
theorem co_B_leastTurned : oCo m_B_leastTurned 1 := ⟨oT_mem 983 (by decide +kernel) rfl, oT_mem 106 (by decide +kernel) rfl, ⟨by decide +kernel, by decide +kernel, by decide +kernel⟩, by decide⟩
theorem v_O_252 : oClV "OneCoin" 252 m_B_leastTurned 1 0 := ⟨Or.inl (oT_mem 980 (by decide +kernel) rfl), oT_mem 981 (by decide +kernel) rfl, oT_mem 982 (by decide +kernel) rfl, co_B_leastTurned, ⟨_, rfl, rfl⟩⟩
theorem co_JI_bitCount : oCo m_JI_bitCount 1 := ⟨oT_mem 990 (by decide +kernel) rfl, oT_mem 116 (by decide +kernel) rfl, ⟨by decide +kernel, by decide +kernel, by decide +kernel⟩, by decide⟩
theorem v_O_255 : oClS "OneCoin" 255 m_JI_bitCount 1 := ⟨Or.inl (oT_mem 998 (by decide +kernel) rfl), oT_mem 989 (by decide +kernel) rfl, co_JI_bitCount⟩
theorem co_B_fewestPayings : oCo m_B_fewestPayings 1 := ⟨oT_mem 1011 (by decide +kernel) rfl, oT_mem 106 (by decide +kernel) rfl, ⟨by decide +kernel, by decide +kernel, by decide +kernel⟩, by decide⟩
theorem v_O_261 : oClV "OneCoin" 261 m_B_fewestPayings 1 0 := ⟨Or.inl (oT_mem 1008 (by decide +kernel) rfl), oT_mem 1009 (by decide +kernel) rfl, oT_mem 1010 (by decide +kernel) rfl, co_B_fewestPayings, ⟨_, rfl, rfl⟩⟩
theorem co_R_ringOf : oCo m_R_ringOf 2 := ⟨oT_mem 1018 (by decide +kernel) rfl, oT_mem 105 (by decide +kernel) rfl, ⟨by decide +kernel, by decide +kernel, by decide +kernel⟩, by decide⟩
theorem v_O_264 : oClS "OneCoin" 264 m_R_ringOf 2 := ⟨Or.inl (oT_mem 1016 (by decide +kernel) rfl), oT_mem 1017 (by decide +kernel) rfl, co_R_ringOf⟩
theorem co_R_reachedFrom : oCo m_R_reachedFrom 2 := ⟨oT_mem 912 (by decide +kernel) rfl, oT_mem 105 (by decide +kernel) rfl, ⟨by decide +kernel, by decide +kernel, by decide +kernel⟩, by decide⟩
theorem v_O_270 : oClS "OneCoin" 270 m_R_reachedFrom 2 := ⟨Or.inl (oT_mem 1023 (by decide +kernel) rfl), oT_mem 911 (by decide +kernel) rfl, co_R_reachedFrom⟩
theorem co_C_tick : oCo m_C_tick 1 := ⟨oT_mem 741 (by decide +kernel) rfl, oT_mem 104 (by decide +kernel) rfl, ⟨by decide +kernel, by decide +kernel, by decide +kernel⟩, by decide⟩
theorem v_O_273 : oClV "OneCoin" 273 m_C_tick 1 1 := ⟨Or.inl (oT_mem 1028 (by decide +kernel) rfl), oT_mem 739 (by decide +kernel) rfl, oT_mem 740 (by decide +kernel) rfl, co_C_tick, ⟨_, rfl, rfl⟩⟩
theorem co_R_sharedHours : oCo m_R_sharedHours 2 := ⟨oT_mem 1048 (by decide +kernel) rfl, oT_mem 105 (by decide +kernel) rfl, ⟨by decide +kernel, by decide +kernel, by decide +kernel⟩, by decide⟩
theorem v_O_288 : oClV "OneCoin" 288 m_R_sharedHours 2 8 := ⟨Or.inl (oT_mem 1045 (by decide +kernel) rfl), oT_mem 1046 (by decide +kernel) rfl, oT_mem 1047 (by decide +kernel) rfl, co_R_sharedHours, ⟨_, rfl, rfl⟩⟩
theorem co_L_rain : oCo m_L_rain 1 := ⟨oT_mem 754 (by decide +kernel) rfl, oT_mem 100 (by decide +kernel) rfl, ⟨by decide +kernel, by decide +kernel, by decide +kernel⟩, by decide⟩
theorem v_O_292 : oClV "OneCoin" 292 m_L_rain 1 4 := ⟨Or.inl (oT_mem 1063 (by decide +kernel) rfl), oT_mem 752 (by decide +kernel) rfl, oT_mem 753 (by decide +kernel) rfl, co_L_rain, ⟨_, rfl, rfl⟩⟩
theorem co_O_commonDivisor : oCo m_O_commonDivisor 2 := ⟨oT_mem 1066 (by decide +kernel) rfl, oT_mem 96 (by decide +kernel) rfl, ⟨by decide +kernel, by decide +kernel, by decide +kernel⟩, by decide⟩
theorem v_O_295 : oClS "OneCoin" 295 m_O_commonDivisor 2 := ⟨Or.inl (oT_mem 1064 (by decide +kernel) rfl), oT_mem 1065 (by decide +kernel) rfl, co_O_commonDivisor⟩
theorem co_T_next : oCo m_T_next 0 := ⟨oT_mem 537 (by decide +kernel) rfl, oT_mem 97 (by decide +kernel) rfl, ⟨by decide +kernel, by decide +kernel, by decide +kernel⟩, by decide⟩
theorem v_O_306 : oClV "OneCoin" 306 m_T_next 0 9 := ⟨Or.inl (oT_mem 1084 (by decide +kernel) rfl), oT_mem 535 (by decide +kernel) rfl, oT_mem 536 (by decide +kernel) rfl, co_T_next, ⟨_, rfl, rfl⟩⟩
theorem q_O_309 : Cond.methodLink "OneCoin" 309 Lib.Math.min.name ∈ oT := oT_mem 1085 (by decide +kernel) rfl
theorem co_T_step : oCo m_T_step 0 := ⟨oT_mem 525 (by decide +kernel) rfl, oT_mem 97 (by decide +kernel) rfl, ⟨by decide +kernel, by decide +kernel, by decide +kernel⟩, by decide⟩
theorem v_O_314 : oClV "OneCoin" 314 m_T_step 0 9 := ⟨Or.inl (oT_mem 1086 (by decide +kernel) rfl), oT_mem 523 (by decide +kernel) rfl, oT_mem 524 (by decide +kernel) rfl, co_T_step, ⟨_, rfl, rfl⟩⟩
theorem co_RR_read : oCo m_RR_read 0 := ⟨oT_mem 868 (by decide +kernel) rfl, oT_mem 103 (by decide +kernel) rfl, ⟨by decide +kernel, by decide +kernel, by decide +kernel⟩, by decide⟩
theorem v_O_329 : oClV "OneCoin" 329 m_RR_read 0 7 := ⟨Or.inl (oT_mem 865 (by decide +kernel) rfl), oT_mem 866 (by decide +kernel) rfl, oT_mem 867 (by decide +kernel) rfl, co_RR_read, ⟨_, rfl, rfl⟩⟩
theorem v_B_37 : oClV "OneCoin$Balance" 37 m_D_owedTo 1 3 := ⟨Or.inl (oT_mem 962 (by decide +kernel) rfl), oT_mem 843 (by decide +kernel) rfl, oT_mem 844 (by decide +kernel) rfl, co_D_owedTo, ⟨_, rfl, rfl⟩⟩
theorem v_B_43 : oClV "OneCoin$Balance" 43 m_D_owedBy 1 3 := ⟨Or.inl (oT_mem 963 (by decide +kernel) rfl), oT_mem 783 (by decide +kernel) rfl, oT_mem 784 (by decide +kernel) rfl, co_D_owedBy, ⟨_, rfl, rfl⟩⟩
theorem co_B_weigh : oCo m_B_weigh 1 := ⟨oT_mem 961 (by decide +kernel) rfl, oT_mem 106 (by decide +kernel) rfl, ⟨by decide +kernel, by decide +kernel, by decide +kernel⟩, by decide⟩
theorem v_B_46 : oClV "OneCoin$Balance" 46 m_B_weigh 1 0 := ⟨Or.inl (oT_mem 958 (by decide +kernel) rfl), oT_mem 960 (by decide +kernel) rfl, oT_mem 21 (by decide +kernel) rfl, co_B_weigh, ⟨_, rfl, rfl⟩⟩
theorem q_B_50 : Cond.methodLink "OneCoin$Balance" 50 Lib.Math.max.name ∈ oT := oT_mem 964 (by decide +kernel) rfl
theorem q_B_61 : Cond.methodLink "OneCoin$Balance" 61 Lib.Math.min.name ∈ oT := oT_mem 970 (by decide +kernel) rfl
theorem co_B_assign : oCo m_B_assign 4 := ⟨oT_mem 973 (by decide +kernel) rfl, oT_mem 106 (by decide +kernel) rfl, ⟨by decide +kernel, by decide +kernel, by decide +kernel⟩, by decide⟩
theorem v_B_64 : oClS "OneCoin$Balance" 64 m_B_assign 4 := ⟨Or.inl (oT_mem 971 (by decide +kernel) rfl), oT_mem 972 (by decide +kernel) rfl, co_B_assign⟩
theorem l_B_68 : Cond.methodLink "OneCoin$Balance" 68 arraycopyName ∈ oT := oT_mem 974 (by decide +kernel) rfl
theorem co_P_way : oCo m_P_way 2 := ⟨oT_mem 789 (by decide +kernel) rfl, oT_mem 98 (by decide +kernel) rfl, ⟨by decide +kernel, by decide +kernel, by decide +kernel⟩, by decide⟩
theorem v_B_74 : oClV "OneCoin$Balance" 74 m_P_way 2 6 := ⟨Or.inl (oT_mem 975 (by decide +kernel) rfl), oT_mem 787 (by decide +kernel) rfl, oT_mem 788 (by decide +kernel) rfl, co_P_way, ⟨_, rfl, rfl⟩⟩
theorem co_D_listCoins : oCo m_D_listCoins 1 := ⟨oT_mem 987 (by decide +kernel) rfl, oT_mem 99 (by decide +kernel) rfl, ⟨by decide +kernel, by decide +kernel, by decide +kernel⟩, by decide⟩
theorem v_B_79 : oClV "OneCoin$Balance" 79 m_D_listCoins 1 3 := ⟨Or.inl (oT_mem 984 (by decide +kernel) rfl), oT_mem 985 (by decide +kernel) rfl, oT_mem 986 (by decide +kernel) rfl, co_D_listCoins, ⟨_, rfl, rfl⟩⟩
theorem v_B_83 : oClS "OneCoin$Balance" 83 m_JI_bitCount 1 := ⟨Or.inl (oT_mem 988 (by decide +kernel) rfl), oT_mem 989 (by decide +kernel) rfl, co_JI_bitCount⟩
theorem co_B_isEvenTurned : oCo m_B_isEvenTurned 2 := ⟨oT_mem 997 (by decide +kernel) rfl, oT_mem 106 (by decide +kernel) rfl, ⟨by decide +kernel, by decide +kernel, by decide +kernel⟩, by decide⟩
theorem v_B_88 : oClV "OneCoin$Balance" 88 m_B_isEvenTurned 2 0 := ⟨Or.inl (oT_mem 994 (by decide +kernel) rfl), oT_mem 996 (by decide +kernel) rfl, oT_mem 22 (by decide +kernel) rfl, co_B_isEvenTurned, ⟨_, rfl, rfl⟩⟩
theorem v_C_32 : oClV "OneCoin$Clock" 32 m_C_tick 1 1 := ⟨Or.inl (oT_mem 738 (by decide +kernel) rfl), oT_mem 739 (by decide +kernel) rfl, oT_mem 740 (by decide +kernel) rfl, co_C_tick, ⟨_, rfl, rfl⟩⟩
theorem co_C_beginDay : oCo m_C_beginDay 1 := ⟨oT_mem 745 (by decide +kernel) rfl, oT_mem 104 (by decide +kernel) rfl, ⟨by decide +kernel, by decide +kernel, by decide +kernel⟩, by decide⟩
theorem v_C_44 : oClV "OneCoin$Clock" 44 m_C_beginDay 1 1 := ⟨Or.inl (oT_mem 742 (by decide +kernel) rfl), oT_mem 744 (by decide +kernel) rfl, oT_mem 9 (by decide +kernel) rfl, co_C_beginDay, ⟨_, rfl, rfl⟩⟩
theorem co_C_travel : oCo m_C_travel 1 := ⟨oT_mem 802 (by decide +kernel) rfl, oT_mem 104 (by decide +kernel) rfl, ⟨by decide +kernel, by decide +kernel, by decide +kernel⟩, by decide⟩
theorem v_C_50 : oClV "OneCoin$Clock" 50 m_C_travel 1 1 := ⟨Or.inl (oT_mem 799 (by decide +kernel) rfl), oT_mem 801 (by decide +kernel) rfl, oT_mem 13 (by decide +kernel) rfl, co_C_travel, ⟨_, rfl, rfl⟩⟩
theorem v_C_56 : oClS "OneCoin$Clock" 56 m_O_isOne 1 := ⟨Or.inr ⟨"OneCoin", oTN_mem 814 (by decide +kernel) rfl⟩, oT_mem 474 (by decide +kernel) rfl, co_O_isOne⟩
theorem co_C_setOut : oCo m_C_setOut 1 := ⟨oT_mem 818 (by decide +kernel) rfl, oT_mem 104 (by decide +kernel) rfl, ⟨by decide +kernel, by decide +kernel, by decide +kernel⟩, by decide⟩
theorem v_C_64 : oClV "OneCoin$Clock" 64 m_C_setOut 1 1 := ⟨Or.inl (oT_mem 815 (by decide +kernel) rfl), oT_mem 817 (by decide +kernel) rfl, oT_mem 15 (by decide +kernel) rfl, co_C_setOut, ⟨_, rfl, rfl⟩⟩
theorem co_D_draw : oCo m_D_draw 0 := ⟨oT_mem 749 (by decide +kernel) rfl, oT_mem 99 (by decide +kernel) rfl, ⟨by decide +kernel, by decide +kernel, by decide +kernel⟩, by decide⟩
theorem v_C_67 : oClV "OneCoin$Clock" 67 m_D_draw 0 3 := ⟨Or.inl (oT_mem 746 (by decide +kernel) rfl), oT_mem 747 (by decide +kernel) rfl, oT_mem 748 (by decide +kernel) rfl, co_D_draw, ⟨_, rfl, rfl⟩⟩
theorem v_C_71 : oClV "OneCoin$Clock" 71 m_L_rain 1 4 := ⟨Or.inl (oT_mem 751 (by decide +kernel) rfl), oT_mem 752 (by decide +kernel) rfl, oT_mem 753 (by decide +kernel) rfl, co_L_rain, ⟨_, rfl, rfl⟩⟩
theorem co_L_growth : oCo m_L_growth 3 := ⟨oT_mem 772 (by decide +kernel) rfl, oT_mem 100 (by decide +kernel) rfl, ⟨by decide +kernel, by decide +kernel, by decide +kernel⟩, by decide⟩
theorem v_C_84 : oClV "OneCoin$Clock" 84 m_L_growth 3 4 := ⟨Or.inl (oT_mem 769 (by decide +kernel) rfl), oT_mem 770 (by decide +kernel) rfl, oT_mem 771 (by decide +kernel) rfl, co_L_growth, ⟨_, rfl, rfl⟩⟩
theorem q_C_88 : Cond.methodLink "OneCoin$Clock" 88 Lib.Math.min.name ∈ oT := oT_mem 798 (by decide +kernel) rfl
theorem co_D_pay : oCo m_D_pay 2 := ⟨oT_mem 806 (by decide +kernel) rfl, oT_mem 99 (by decide +kernel) rfl, ⟨by decide +kernel, by decide +kernel, by decide +kernel⟩, by decide⟩
theorem v_C_100 : oClV "OneCoin$Clock" 100 m_D_pay 2 3 := ⟨Or.inl (oT_mem 803 (by decide +kernel) rfl), oT_mem 804 (by decide +kernel) rfl, oT_mem 805 (by decide +kernel) rfl, co_D_pay, ⟨_, rfl, rfl⟩⟩
theorem v_C_104 : oClV "OneCoin$Clock" 104 m_D_debtOf 2 3 := ⟨Or.inl (oT_mem 819 (by decide +kernel) rfl), oT_mem 778 (by decide +kernel) rfl, oT_mem 779 (by decide +kernel) rfl, co_D_debtOf, ⟨_, rfl, rfl⟩⟩
theorem v_C_107 : oClV "OneCoin$Clock" 107 m_L_liking 3 4 := ⟨Or.inl (oT_mem 820 (by decide +kernel) rfl), oT_mem 821 (by decide +kernel) rfl, oT_mem 822 (by decide +kernel) rfl, co_L_liking, ⟨_, rfl, rfl⟩⟩
theorem v_C_110 : oClV "OneCoin$Clock" 110 m_P_way 2 6 := ⟨Or.inl (oT_mem 824 (by decide +kernel) rfl), oT_mem 787 (by decide +kernel) rfl, oT_mem 788 (by decide +kernel) rfl, co_P_way, ⟨_, rfl, rfl⟩⟩
theorem co_D_sendTo : oCo m_D_sendTo 2 := ⟨oT_mem 828 (by decide +kernel) rfl, oT_mem 99 (by decide +kernel) rfl, ⟨by decide +kernel, by decide +kernel, by decide +kernel⟩, by decide⟩
theorem v_C_115 : oClV "OneCoin$Clock" 115 m_D_sendTo 2 3 := ⟨Or.inl (oT_mem 825 (by decide +kernel) rfl), oT_mem 826 (by decide +kernel) rfl, oT_mem 827 (by decide +kernel) rfl, co_D_sendTo, ⟨_, rfl, rfl⟩⟩
theorem co_JA_fill : oCo m_JA_fill 2 := ⟨oT_mem 696 (by decide +kernel) rfl, oT_mem 115 (by decide +kernel) rfl, ⟨by decide +kernel, by decide +kernel, by decide +kernel⟩, by decide⟩
theorem v_DR_23 : oClS "OneCoin$DebtsReader" 23 m_JA_fill 2 := ⟨Or.inl (oT_mem 694 (by decide +kernel) rfl), oT_mem 695 (by decide +kernel) rfl, co_JA_fill⟩
theorem co_DR_readLine : oCo m_DR_readLine 1 := ⟨oT_mem 700 (by decide +kernel) rfl, oT_mem 102 (by decide +kernel) rfl, ⟨by decide +kernel, by decide +kernel, by decide +kernel⟩, by decide⟩
theorem v_DR_29 : oClV "OneCoin$DebtsReader" 29 m_DR_readLine 1 2 := ⟨Or.inl (oT_mem 697 (by decide +kernel) rfl), oT_mem 699 (by decide +kernel) rfl, oT_mem 7 (by decide +kernel) rfl, co_DR_readLine, ⟨_, rfl, rfl⟩⟩
theorem co_T_ended : oCo m_T_ended 0 := ⟨oT_mem 673 (by decide +kernel) rfl, oT_mem 97 (by decide +kernel) rfl, ⟨by decide +kernel, by decide +kernel, by decide +kernel⟩, by decide⟩
theorem v_DR_33 : oClV "OneCoin$DebtsReader" 33 m_T_ended 0 9 := ⟨Or.inl (oT_mem 721 (by decide +kernel) rfl), oT_mem 671 (by decide +kernel) rfl, oT_mem 672 (by decide +kernel) rfl, co_T_ended, ⟨_, rfl, rfl⟩⟩
theorem v_DR_39 : oClV "OneCoin$DebtsReader" 39 m_T_next 0 9 := ⟨Or.inl (oT_mem 709 (by decide +kernel) rfl), oT_mem 535 (by decide +kernel) rfl, oT_mem 536 (by decide +kernel) rfl, co_T_next, ⟨_, rfl, rfl⟩⟩
theorem co_T_fault : oCo m_T_fault 1 := ⟨oT_mem 541 (by decide +kernel) rfl, oT_mem 97 (by decide +kernel) rfl, ⟨by decide +kernel, by decide +kernel, by decide +kernel⟩, by decide⟩
theorem v_DR_43 : oClV "OneCoin$DebtsReader" 43 m_T_fault 1 9 := ⟨Or.inl (oT_mem 706 (by decide +kernel) rfl), oT_mem 539 (by decide +kernel) rfl, oT_mem 540 (by decide +kernel) rfl, co_T_fault, ⟨_, rfl, rfl⟩⟩
theorem v_DR_46 : oClV "OneCoin$DebtsReader" 46 m_T_step 0 9 := ⟨Or.inl (oT_mem 708 (by decide +kernel) rfl), oT_mem 523 (by decide +kernel) rfl, oT_mem 524 (by decide +kernel) rfl, co_T_step, ⟨_, rfl, rfl⟩⟩
theorem co_T_nextOne : oCo m_T_nextOne 0 := ⟨oT_mem 704 (by decide +kernel) rfl, oT_mem 97 (by decide +kernel) rfl, ⟨by decide +kernel, by decide +kernel, by decide +kernel⟩, by decide⟩
theorem v_DR_49 : oClV "OneCoin$DebtsReader" 49 m_T_nextOne 0 9 := ⟨Or.inl (oT_mem 701 (by decide +kernel) rfl), oT_mem 702 (by decide +kernel) rfl, oT_mem 703 (by decide +kernel) rfl, co_T_nextOne, ⟨_, rfl, rfl⟩⟩
theorem v_DR_52 : oClV "OneCoin$DebtsReader" 52 m_P_has 1 6 := ⟨Or.inl (oT_mem 707 (by decide +kernel) rfl), oT_mem 489 (by decide +kernel) rfl, oT_mem 490 (by decide +kernel) rfl, co_P_has, ⟨_, rfl, rfl⟩⟩
theorem co_DR_readMany : oCo m_DR_readMany 1 := ⟨oT_mem 713 (by decide +kernel) rfl, oT_mem 102 (by decide +kernel) rfl, ⟨by decide +kernel, by decide +kernel, by decide +kernel⟩, by decide⟩
theorem v_DR_58 : oClV "OneCoin$DebtsReader" 58 m_DR_readMany 1 2 := ⟨Or.inl (oT_mem 710 (by decide +kernel) rfl), oT_mem 712 (by decide +kernel) rfl, oT_mem 8 (by decide +kernel) rfl, co_DR_readMany, ⟨_, rfl, rfl⟩⟩
theorem co_T_place : oCo m_T_place 0 := ⟨oT_mem 717 (by decide +kernel) rfl, oT_mem 97 (by decide +kernel) rfl, ⟨by decide +kernel, by decide +kernel, by decide +kernel⟩, by decide⟩
theorem v_DR_61 : oClV "OneCoin$DebtsReader" 61 m_T_place 0 9 := ⟨Or.inl (oT_mem 714 (by decide +kernel) rfl), oT_mem 715 (by decide +kernel) rfl, oT_mem 716 (by decide +kernel) rfl, co_T_place, ⟨_, rfl, rfl⟩⟩
theorem co_T_nextIsDigit : oCo m_T_nextIsDigit 0 := ⟨oT_mem 558 (by decide +kernel) rfl, oT_mem 97 (by decide +kernel) rfl, ⟨by decide +kernel, by decide +kernel, by decide +kernel⟩, by decide⟩
theorem v_DR_64 : oClV "OneCoin$DebtsReader" 64 m_T_nextIsDigit 0 9 := ⟨Or.inl (oT_mem 718 (by decide +kernel) rfl), oT_mem 556 (by decide +kernel) rfl, oT_mem 557 (by decide +kernel) rfl, co_T_nextIsDigit, ⟨_, rfl, rfl⟩⟩
theorem co_T_faultAt : oCo m_T_faultAt 2 := ⟨oT_mem 545 (by decide +kernel) rfl, oT_mem 97 (by decide +kernel) rfl, ⟨by decide +kernel, by decide +kernel, by decide +kernel⟩, by decide⟩
theorem v_DR_67 : oClV "OneCoin$DebtsReader" 67 m_T_faultAt 2 9 := ⟨Or.inl (oT_mem 719 (by decide +kernel) rfl), oT_mem 543 (by decide +kernel) rfl, oT_mem 544 (by decide +kernel) rfl, co_T_faultAt, ⟨_, rfl, rfl⟩⟩
theorem q_DR_71 : Cond.methodLink "OneCoin$DebtsReader" 71 Lib.Math.min.name ∈ oT := oT_mem 720 (by decide +kernel) rfl
theorem l_D_34 : Cond.methodLink "OneCoin$Duchy" 34 arraycopyName ∈ oT := oT_mem 813 (by decide +kernel) rfl
theorem v_D_56 : oClV "OneCoin$Duchy" 56 m_D_debtOf 2 3 := ⟨Or.inl (oT_mem 807 (by decide +kernel) rfl), oT_mem 778 (by decide +kernel) rfl, oT_mem 779 (by decide +kernel) rfl, co_D_debtOf, ⟨_, rfl, rfl⟩⟩
theorem v_D_60 : oClV "OneCoin$Duchy" 60 m_D_giveTo 1 3 := ⟨Or.inl (oT_mem 808 (by decide +kernel) rfl), oT_mem 499 (by decide +kernel) rfl, oT_mem 500 (by decide +kernel) rfl, co_D_giveTo, ⟨_, rfl, rfl⟩⟩
theorem co_D_write : oCo m_D_write 1 := ⟨oT_mem 812 (by decide +kernel) rfl, oT_mem 99 (by decide +kernel) rfl, ⟨by decide +kernel, by decide +kernel, by decide +kernel⟩, by decide⟩
theorem v_D_64 : oClV "OneCoin$Duchy" 64 m_D_write 1 3 := ⟨Or.inl (oT_mem 809 (by decide +kernel) rfl), oT_mem 811 (by decide +kernel) rfl, oT_mem 14 (by decide +kernel) rfl, co_D_write, ⟨_, rfl, rfl⟩⟩
theorem v_D_67 : oClS "OneCoin$Duchy" 67 m_O_isOne 1 := ⟨Or.inr ⟨"OneCoin", oTN_mem 781 (by decide +kernel) rfl⟩, oT_mem 474 (by decide +kernel) rfl, co_O_isOne⟩
theorem l_L_40 : Cond.methodLink "OneCoin$Law" 40 arraycopyName ∈ oT := oT_mem 682 (by decide +kernel) rfl
theorem co_L_look : oCo m_L_look 3 := ⟨oT_mem 776 (by decide +kernel) rfl, oT_mem 100 (by decide +kernel) rfl, ⟨by decide +kernel, by decide +kernel, by decide +kernel⟩, by decide⟩
theorem v_L_53 : oClV "OneCoin$Law" 53 m_L_look 3 4 := ⟨Or.inl (oT_mem 773 (by decide +kernel) rfl), oT_mem 775 (by decide +kernel) rfl, oT_mem 12 (by decide +kernel) rfl, co_L_look, ⟨_, rfl, rfl⟩⟩
theorem co_L_reckoned : oCo m_L_reckoned 2 := ⟨oT_mem 763 (by decide +kernel) rfl, oT_mem 100 (by decide +kernel) rfl, ⟨by decide +kernel, by decide +kernel, by decide +kernel⟩, by decide⟩
theorem v_L_57 : oClV "OneCoin$Law" 57 m_L_reckoned 2 4 := ⟨Or.inl (oT_mem 760 (by decide +kernel) rfl), oT_mem 762 (by decide +kernel) rfl, oT_mem 11 (by decide +kernel) rfl, co_L_reckoned, ⟨_, rfl, rfl⟩⟩
theorem co_L_firstOf : oCo m_L_firstOf 2 := ⟨oT_mem 759 (by decide +kernel) rfl, oT_mem 100 (by decide +kernel) rfl, ⟨by decide +kernel, by decide +kernel, by decide +kernel⟩, by decide⟩
theorem v_L_61 : oClV "OneCoin$Law" 61 m_L_firstOf 2 4 := ⟨Or.inl (oT_mem 756 (by decide +kernel) rfl), oT_mem 758 (by decide +kernel) rfl, oT_mem 10 (by decide +kernel) rfl, co_L_firstOf, ⟨_, rfl, rfl⟩⟩
theorem v_L_64 : oClS "OneCoin$Law" 64 m_JA_fill 2 := ⟨Or.inl (oT_mem 755 (by decide +kernel) rfl), oT_mem 695 (by decide +kernel) rfl, co_JA_fill⟩
theorem v_L_70 : oClV "OneCoin$Law" 70 m_D_debtOf 2 3 := ⟨Or.inl (oT_mem 777 (by decide +kernel) rfl), oT_mem 778 (by decide +kernel) rfl, oT_mem 779 (by decide +kernel) rfl, co_D_debtOf, ⟨_, rfl, rfl⟩⟩
theorem v_L_75 : oClV "OneCoin$Law" 75 m_D_owedBy 1 3 := ⟨Or.inl (oT_mem 782 (by decide +kernel) rfl), oT_mem 783 (by decide +kernel) rfl, oT_mem 784 (by decide +kernel) rfl, co_D_owedBy, ⟨_, rfl, rfl⟩⟩
theorem v_L_79 : oClV "OneCoin$Law" 79 m_P_way 2 6 := ⟨Or.inl (oT_mem 786 (by decide +kernel) rfl), oT_mem 787 (by decide +kernel) rfl, oT_mem 788 (by decide +kernel) rfl, co_P_way, ⟨_, rfl, rfl⟩⟩
theorem v_L_84 : oClV "OneCoin$Law" 84 m_D_timesChalked 1 3 := ⟨Or.inl (oT_mem 794 (by decide +kernel) rfl), oT_mem 795 (by decide +kernel) rfl, oT_mem 796 (by decide +kernel) rfl, co_D_timesChalked, ⟨_, rfl, rfl⟩⟩
theorem q_L_93 : Cond.methodLink "OneCoin$Law" 93 Lib.Math.min.name ∈ oT := oT_mem 767 (by decide +kernel) rfl
theorem q_L_98 : Cond.methodLink "OneCoin$Law" 98 Lib.Math.max.name ∈ oT := oT_mem 768 (by decide +kernel) rfl
theorem co_L_joined : oCo m_L_joined 3 := ⟨oT_mem 766 (by decide +kernel) rfl, oT_mem 100 (by decide +kernel) rfl, ⟨by decide +kernel, by decide +kernel, by decide +kernel⟩, by decide⟩
theorem v_L_101 : oClS "OneCoin$Law" 101 m_L_joined 3 := ⟨Or.inl (oT_mem 764 (by decide +kernel) rfl), oT_mem 765 (by decide +kernel) rfl, co_L_joined⟩
theorem co_LR_readRule : oCo m_LR_readRule 1 := ⟨oT_mem 533 (by decide +kernel) rfl, oT_mem 101 (by decide +kernel) rfl, ⟨by decide +kernel, by decide +kernel, by decide +kernel⟩, by decide⟩
theorem v_LR_28 : oClV "OneCoin$LawReader" 28 m_LR_readRule 1 5 := ⟨Or.inl (oT_mem 530 (by decide +kernel) rfl), oT_mem 532 (by decide +kernel) rfl, oT_mem 0 (by decide +kernel) rfl, co_LR_readRule, ⟨_, rfl, rfl⟩⟩
theorem v_LR_32 : oClV "OneCoin$LawReader" 32 m_T_ended 0 9 := ⟨Or.inl (oT_mem 670 (by decide +kernel) rfl), oT_mem 671 (by decide +kernel) rfl, oT_mem 672 (by decide +kernel) rfl, co_T_ended, ⟨_, rfl, rfl⟩⟩
theorem v_LR_38 : oClV "OneCoin$LawReader" 38 m_T_next 0 9 := ⟨Or.inl (oT_mem 534 (by decide +kernel) rfl), oT_mem 535 (by decide +kernel) rfl, oT_mem 536 (by decide +kernel) rfl, co_T_next, ⟨_, rfl, rfl⟩⟩
theorem v_LR_42 : oClV "OneCoin$LawReader" 42 m_T_fault 1 9 := ⟨Or.inl (oT_mem 538 (by decide +kernel) rfl), oT_mem 539 (by decide +kernel) rfl, oT_mem 540 (by decide +kernel) rfl, co_T_fault, ⟨_, rfl, rfl⟩⟩
theorem v_LR_45 : oClV "OneCoin$LawReader" 45 m_T_step 0 9 := ⟨Or.inl (oT_mem 546 (by decide +kernel) rfl), oT_mem 523 (by decide +kernel) rfl, oT_mem 524 (by decide +kernel) rfl, co_T_step, ⟨_, rfl, rfl⟩⟩
theorem co_LR_readNumber : oCo m_LR_readNumber 1 := ⟨oT_mem 550 (by decide +kernel) rfl, oT_mem 101 (by decide +kernel) rfl, ⟨by decide +kernel, by decide +kernel, by decide +kernel⟩, by decide⟩
theorem v_LR_55 : oClV "OneCoin$LawReader" 55 m_LR_readNumber 1 5 := ⟨Or.inl (oT_mem 547 (by decide +kernel) rfl), oT_mem 549 (by decide +kernel) rfl, oT_mem 1 (by decide +kernel) rfl, co_LR_readNumber, ⟨_, rfl, rfl⟩⟩
theorem co_LR_readCondition : oCo m_LR_readCondition 1 := ⟨oT_mem 657 (by decide +kernel) rfl, oT_mem 101 (by decide +kernel) rfl, ⟨by decide +kernel, by decide +kernel, by decide +kernel⟩, by decide⟩
theorem v_LR_61 : oClV "OneCoin$LawReader" 61 m_LR_readCondition 1 5 := ⟨Or.inl (oT_mem 654 (by decide +kernel) rfl), oT_mem 656 (by decide +kernel) rfl, oT_mem 4 (by decide +kernel) rfl, co_LR_readCondition, ⟨_, rfl, rfl⟩⟩
theorem co_LR_readTest : oCo m_LR_readTest 1 := ⟨oT_mem 661 (by decide +kernel) rfl, oT_mem 101 (by decide +kernel) rfl, ⟨by decide +kernel, by decide +kernel, by decide +kernel⟩, by decide⟩
theorem v_LR_67 : oClV "OneCoin$LawReader" 67 m_LR_readTest 1 5 := ⟨Or.inl (oT_mem 658 (by decide +kernel) rfl), oT_mem 660 (by decide +kernel) rfl, oT_mem 5 (by decide +kernel) rfl, co_LR_readTest, ⟨_, rfl, rfl⟩⟩
theorem co_L_landHere : oCo m_L_landHere 1 := ⟨oT_mem 669 (by decide +kernel) rfl, oT_mem 100 (by decide +kernel) rfl, ⟨by decide +kernel, by decide +kernel, by decide +kernel⟩, by decide⟩
theorem v_LR_70 : oClV "OneCoin$LawReader" 70 m_L_landHere 1 4 := ⟨Or.inl (oT_mem 666 (by decide +kernel) rfl), oT_mem 667 (by decide +kernel) rfl, oT_mem 668 (by decide +kernel) rfl, co_L_landHere, ⟨_, rfl, rfl⟩⟩
theorem co_L_put : oCo m_L_put 2 := ⟨oT_mem 566 (by decide +kernel) rfl, oT_mem 100 (by decide +kernel) rfl, ⟨by decide +kernel, by decide +kernel, by decide +kernel⟩, by decide⟩
theorem v_LR_74 : oClV "OneCoin$LawReader" 74 m_L_put 2 4 := ⟨Or.inl (oT_mem 563 (by decide +kernel) rfl), oT_mem 564 (by decide +kernel) rfl, oT_mem 565 (by decide +kernel) rfl, co_L_put, ⟨_, rfl, rfl⟩⟩
theorem co_LR_readPlainTest : oCo m_LR_readPlainTest 1 := ⟨oT_mem 665 (by decide +kernel) rfl, oT_mem 101 (by decide +kernel) rfl, ⟨by decide +kernel, by decide +kernel, by decide +kernel⟩, by decide⟩
theorem v_LR_78 : oClV "OneCoin$LawReader" 78 m_LR_readPlainTest 1 5 := ⟨Or.inl (oT_mem 662 (by decide +kernel) rfl), oT_mem 664 (by decide +kernel) rfl, oT_mem 6 (by decide +kernel) rfl, co_LR_readPlainTest, ⟨_, rfl, rfl⟩⟩
theorem co_LR_readFactor : oCo m_LR_readFactor 1 := ⟨oT_mem 554 (by decide +kernel) rfl, oT_mem 101 (by decide +kernel) rfl, ⟨by decide +kernel, by decide +kernel, by decide +kernel⟩, by decide⟩
theorem v_LR_81 : oClV "OneCoin$LawReader" 81 m_LR_readFactor 1 5 := ⟨Or.inl (oT_mem 551 (by decide +kernel) rfl), oT_mem 553 (by decide +kernel) rfl, oT_mem 2 (by decide +kernel) rfl, co_LR_readFactor, ⟨_, rfl, rfl⟩⟩
theorem v_LR_84 : oClV "OneCoin$LawReader" 84 m_T_nextIsDigit 0 9 := ⟨Or.inl (oT_mem 555 (by decide +kernel) rfl), oT_mem 556 (by decide +kernel) rfl, oT_mem 557 (by decide +kernel) rfl, co_T_nextIsDigit, ⟨_, rfl, rfl⟩⟩
theorem co_LR_readDigits : oCo m_LR_readDigits 0 := ⟨oT_mem 562 (by decide +kernel) rfl, oT_mem 101 (by decide +kernel) rfl, ⟨by decide +kernel, by decide +kernel, by decide +kernel⟩, by decide⟩
theorem v_LR_87 : oClV "OneCoin$LawReader" 87 m_LR_readDigits 0 5 := ⟨Or.inl (oT_mem 559 (by decide +kernel) rfl), oT_mem 561 (by decide +kernel) rfl, oT_mem 3 (by decide +kernel) rfl, co_LR_readDigits, ⟨_, rfl, rfl⟩⟩
theorem co_JS_indexOf : oCo m_JS_indexOf 1 := ⟨oT_mem 571 (by decide +kernel) rfl, oT_mem 108 (by decide +kernel) rfl, ⟨by decide +kernel, by decide +kernel, by decide +kernel⟩, by decide⟩
theorem v_LR_92 : oClO "OneCoin$LawReader" 92 m_JS_indexOf 1 := ⟨Or.inl (oT_mem 568 (by decide +kernel) rfl), oT_mem 569 (by decide +kernel) rfl, oT_mem 570 (by decide +kernel) rfl, co_JS_indexOf, rfl⟩
theorem v_P_22 : oClS "OneCoin$People" 22 m_O_isOne 1 := ⟨Or.inr ⟨"OneCoin", oTN_mem 492 (by decide +kernel) rfl⟩, oT_mem 474 (by decide +kernel) rfl, co_O_isOne⟩
theorem v_P_26 : oClV "OneCoin$People" 26 m_P_has 1 6 := ⟨Or.inl (oT_mem 488 (by decide +kernel) rfl), oT_mem 489 (by decide +kernel) rfl, oT_mem 490 (by decide +kernel) rfl, co_P_has, ⟨_, rfl, rfl⟩⟩
theorem q_P_29 : Cond.methodLink "OneCoin$People" 29 Lib.Math.abs.name ∈ oT := oT_mem 790 (by decide +kernel) rfl
theorem q_P_35 : Cond.methodLink "OneCoin$People" 35 Lib.Math.max.name ∈ oT := oT_mem 793 (by decide +kernel) rfl
theorem v_P_39 : oClV "OneCoin$People" 39 m_P_way 2 6 := ⟨Or.inl (oT_mem 898 (by decide +kernel) rfl), oT_mem 787 (by decide +kernel) rfl, oT_mem 788 (by decide +kernel) rfl, co_P_way, ⟨_, rfl, rfl⟩⟩
theorem co_RR_readPayings : oCo m_RR_readPayings 1 := ⟨oT_mem 872 (by decide +kernel) rfl, oT_mem 103 (by decide +kernel) rfl, ⟨by decide +kernel, by decide +kernel, by decide +kernel⟩, by decide⟩
theorem v_RR_23 : oClV "OneCoin$RouteReader" 23 m_RR_readPayings 1 7 := ⟨Or.inl (oT_mem 869 (by decide +kernel) rfl), oT_mem 871 (by decide +kernel) rfl, oT_mem 17 (by decide +kernel) rfl, co_RR_readPayings, ⟨_, rfl, rfl⟩⟩
theorem co_RR_readPaying : oCo m_RR_readPaying 1 := ⟨oT_mem 876 (by decide +kernel) rfl, oT_mem 103 (by decide +kernel) rfl, ⟨by decide +kernel, by decide +kernel, by decide +kernel⟩, by decide⟩
theorem v_RR_27 : oClV "OneCoin$RouteReader" 27 m_RR_readPaying 1 7 := ⟨Or.inl (oT_mem 873 (by decide +kernel) rfl), oT_mem 875 (by decide +kernel) rfl, oT_mem 18 (by decide +kernel) rfl, co_RR_readPaying, ⟨_, rfl, rfl⟩⟩
theorem v_RR_30 : oClV "OneCoin$RouteReader" 30 m_T_ended 0 9 := ⟨Or.inl (oT_mem 887 (by decide +kernel) rfl), oT_mem 671 (by decide +kernel) rfl, oT_mem 672 (by decide +kernel) rfl, co_T_ended, ⟨_, rfl, rfl⟩⟩
theorem v_RR_36 : oClV "OneCoin$RouteReader" 36 m_T_next 0 9 := ⟨Or.inl (oT_mem 878 (by decide +kernel) rfl), oT_mem 535 (by decide +kernel) rfl, oT_mem 536 (by decide +kernel) rfl, co_T_next, ⟨_, rfl, rfl⟩⟩
theorem v_RR_40 : oClV "OneCoin$RouteReader" 40 m_T_fault 1 9 := ⟨Or.inl (oT_mem 880 (by decide +kernel) rfl), oT_mem 539 (by decide +kernel) rfl, oT_mem 540 (by decide +kernel) rfl, co_T_fault, ⟨_, rfl, rfl⟩⟩
theorem v_RR_43 : oClV "OneCoin$RouteReader" 43 m_T_place 0 9 := ⟨Or.inl (oT_mem 877 (by decide +kernel) rfl), oT_mem 715 (by decide +kernel) rfl, oT_mem 716 (by decide +kernel) rfl, co_T_place, ⟨_, rfl, rfl⟩⟩
theorem v_RR_46 : oClV "OneCoin$RouteReader" 46 m_T_step 0 9 := ⟨Or.inl (oT_mem 879 (by decide +kernel) rfl), oT_mem 523 (by decide +kernel) rfl, oT_mem 524 (by decide +kernel) rfl, co_T_step, ⟨_, rfl, rfl⟩⟩
theorem v_RR_49 : oClV "OneCoin$RouteReader" 49 m_T_nextOne 0 9 := ⟨Or.inl (oT_mem 881 (by decide +kernel) rfl), oT_mem 702 (by decide +kernel) rfl, oT_mem 703 (by decide +kernel) rfl, co_T_nextOne, ⟨_, rfl, rfl⟩⟩
theorem v_RR_52 : oClV "OneCoin$RouteReader" 52 m_T_faultAt 2 9 := ⟨Or.inl (oT_mem 882 (by decide +kernel) rfl), oT_mem 543 (by decide +kernel) rfl, oT_mem 544 (by decide +kernel) rfl, co_T_faultAt, ⟨_, rfl, rfl⟩⟩
theorem co_RR_repeat : oCo m_RR_repeat 2 := ⟨oT_mem 886 (by decide +kernel) rfl, oT_mem 103 (by decide +kernel) rfl, ⟨by decide +kernel, by decide +kernel, by decide +kernel⟩, by decide⟩
theorem v_RR_56 : oClV "OneCoin$RouteReader" 56 m_RR_repeat 2 7 := ⟨Or.inl (oT_mem 883 (by decide +kernel) rfl), oT_mem 885 (by decide +kernel) rfl, oT_mem 19 (by decide +kernel) rfl, co_RR_repeat, ⟨_, rfl, rfl⟩⟩
theorem v_RR_65 : oClV "OneCoin$RouteReader" 65 m_D_debtOf 2 3 := ⟨Or.inl (oT_mem 892 (by decide +kernel) rfl), oT_mem 778 (by decide +kernel) rfl, oT_mem 779 (by decide +kernel) rfl, co_D_debtOf, ⟨_, rfl, rfl⟩⟩
theorem v_RR_68 : oClV "OneCoin$RouteReader" 68 m_D_pay 2 3 := ⟨Or.inl (oT_mem 893 (by decide +kernel) rfl), oT_mem 804 (by decide +kernel) rfl, oT_mem 805 (by decide +kernel) rfl, co_D_pay, ⟨_, rfl, rfl⟩⟩
theorem co_R_paidBy : oCo m_R_paidBy 2 := ⟨oT_mem 915 (by decide +kernel) rfl, oT_mem 105 (by decide +kernel) rfl, ⟨by decide +kernel, by decide +kernel, by decide +kernel⟩, by decide⟩
theorem v_R_34 : oClS "OneCoin$Rows" 34 m_R_paidBy 2 := ⟨Or.inl (oT_mem 913 (by decide +kernel) rfl), oT_mem 914 (by decide +kernel) rfl, co_R_paidBy⟩
theorem v_R_38 : oClS "OneCoin$Rows" 38 m_R_reachedFrom 2 := ⟨Or.inl (oT_mem 910 (by decide +kernel) rfl), oT_mem 911 (by decide +kernel) rfl, co_R_reachedFrom⟩
theorem l_R_41 : Cond.methodLink "OneCoin$Rows" 41 arraycopyName ∈ oT := oT_mem 920 (by decide +kernel) rfl
theorem co_R_leastNext : oCo m_R_leastNext 1 := ⟨oT_mem 924 (by decide +kernel) rfl, oT_mem 105 (by decide +kernel) rfl, ⟨by decide +kernel, by decide +kernel, by decide +kernel⟩, by decide⟩
theorem v_R_47 : oClV "OneCoin$Rows" 47 m_R_leastNext 1 8 := ⟨Or.inl (oT_mem 921 (by decide +kernel) rfl), oT_mem 923 (by decide +kernel) rfl, oT_mem 20 (by decide +kernel) rfl, co_R_leastNext, ⟨_, rfl, rfl⟩⟩
theorem v_R_51 : oClS "OneCoin$Rows" 51 m_R_isOneRow 2 := ⟨Or.inl (oT_mem 925 (by decide +kernel) rfl), oT_mem 908 (by decide +kernel) rfl, co_R_isOneRow⟩
theorem co_R_lengthen : oCo m_R_lengthen 3 := ⟨oT_mem 936 (by decide +kernel) rfl, oT_mem 105 (by decide +kernel) rfl, ⟨by decide +kernel, by decide +kernel, by decide +kernel⟩, by decide⟩
theorem v_R_59 : oClS "OneCoin$Rows" 59 m_R_lengthen 3 := ⟨Or.inl (oT_mem 934 (by decide +kernel) rfl), oT_mem 935 (by decide +kernel) rfl, co_R_lengthen⟩
theorem v_R_64 : oClS "OneCoin$Rows" 64 m_JA_fill 2 := ⟨Or.inl (oT_mem 946 (by decide +kernel) rfl), oT_mem 695 (by decide +kernel) rfl, co_JA_fill⟩
theorem v_R_70 : oClV "OneCoin$Rows" 70 m_P_way 2 6 := ⟨Or.inl (oT_mem 947 (by decide +kernel) rfl), oT_mem 787 (by decide +kernel) rfl, oT_mem 788 (by decide +kernel) rfl, co_P_way, ⟨_, rfl, rfl⟩⟩
theorem q_R_76 : Cond.methodLink "OneCoin$Rows" 76 Lib.Math.min.name ∈ oT := oT_mem 948 (by decide +kernel) rfl
theorem v_R_81 : oClV "OneCoin$Rows" 81 m_D_listCoins 1 3 := ⟨Or.inl (oT_mem 1049 (by decide +kernel) rfl), oT_mem 985 (by decide +kernel) rfl, oT_mem 986 (by decide +kernel) rfl, co_D_listCoins, ⟨_, rfl, rfl⟩⟩
theorem co_R_hoursOf : oCo m_R_hoursOf 2 := ⟨oT_mem 1053 (by decide +kernel) rfl, oT_mem 105 (by decide +kernel) rfl, ⟨by decide +kernel, by decide +kernel, by decide +kernel⟩, by decide⟩
theorem v_R_87 : oClV "OneCoin$Rows" 87 m_R_hoursOf 2 8 := ⟨Or.inl (oT_mem 1050 (by decide +kernel) rfl), oT_mem 1052 (by decide +kernel) rfl, oT_mem 23 (by decide +kernel) rfl, co_R_hoursOf, ⟨_, rfl, rfl⟩⟩
theorem q_R_90 : Cond.methodLink "OneCoin$Rows" 90 Lib.Math.max.name ∈ oT := oT_mem 1054 (by decide +kernel) rfl
theorem co_R_setShare : oCo m_R_setShare 3 := ⟨oT_mem 1058 (by decide +kernel) rfl, oT_mem 105 (by decide +kernel) rfl, ⟨by decide +kernel, by decide +kernel, by decide +kernel⟩, by decide⟩
theorem v_R_93 : oClV "OneCoin$Rows" 93 m_R_setShare 3 8 := ⟨Or.inl (oT_mem 1055 (by decide +kernel) rfl), oT_mem 1057 (by decide +kernel) rfl, oT_mem 24 (by decide +kernel) rfl, co_R_setShare, ⟨_, rfl, rfl⟩⟩
theorem v_T_28 : oClV "OneCoin$Tape" 28 m_T_step 0 9 := ⟨Or.inl (oT_mem 522 (by decide +kernel) rfl), oT_mem 523 (by decide +kernel) rfl, oT_mem 524 (by decide +kernel) rfl, co_T_step, ⟨_, rfl, rfl⟩⟩
theorem v_T_31 : oClS "OneCoin$Tape" 31 m_O_isOne 1 := ⟨Or.inr ⟨"OneCoin", oTN_mem 705 (by decide +kernel) rfl⟩, oT_mem 474 (by decide +kernel) rfl, co_O_isOne⟩
theorem v_T_35 : oClV "OneCoin$Tape" 35 m_T_faultAt 2 9 := ⟨Or.inl (oT_mem 542 (by decide +kernel) rfl), oT_mem 543 (by decide +kernel) rfl, oT_mem 544 (by decide +kernel) rfl, co_T_faultAt, ⟨_, rfl, rfl⟩⟩
theorem co_M_in : oCo m_M_in 3 := ⟨oT_mem 1291 (by decide +kernel) rfl, oT_mem 107 (by decide +kernel) rfl, ⟨by decide +kernel, by decide +kernel, by decide +kernel⟩, by decide⟩
theorem v_M_123 : oClS "OneCoinModel" 123 m_M_in 3 := ⟨Or.inl (oT_mem 1289 (by decide +kernel) rfl), oT_mem 1290 (by decide +kernel) rfl, co_M_in⟩
theorem co_M_has : oCo m_M_has 2 := ⟨oT_mem 1306 (by decide +kernel) rfl, oT_mem 107 (by decide +kernel) rfl, ⟨by decide +kernel, by decide +kernel, by decide +kernel⟩, by decide⟩
theorem v_M_131 : oClS "OneCoinModel" 131 m_M_has 2 := ⟨Or.inl (oT_mem 1304 (by decide +kernel) rfl), oT_mem 1305 (by decide +kernel) rfl, co_M_has⟩
theorem co_M_isPerson : oCo m_M_isPerson 1 := ⟨oT_mem 1303 (by decide +kernel) rfl, oT_mem 107 (by decide +kernel) rfl, ⟨by decide +kernel, by decide +kernel, by decide +kernel⟩, by decide⟩
theorem v_M_135 : oClV "OneCoinModel" 135 m_M_isPerson 1 11 := ⟨Or.inl (oT_mem 1300 (by decide +kernel) rfl), oT_mem 1302 (by decide +kernel) rfl, oT_mem 26 (by decide +kernel) rfl, co_M_isPerson, ⟨_, rfl, rfl⟩⟩
theorem co_M_size : oCo m_M_size 1 := ⟨oT_mem 1483 (by decide +kernel) rfl, oT_mem 107 (by decide +kernel) rfl, ⟨by decide +kernel, by decide +kernel, by decide +kernel⟩, by decide⟩
theorem v_M_139 : oClS "OneCoinModel" 139 m_M_size 1 := ⟨Or.inl (oT_mem 1481 (by decide +kernel) rfl), oT_mem 1482 (by decide +kernel) rfl, co_M_size⟩
theorem co_M_max : oCo m_M_max 2 := ⟨oT_mem 1486 (by decide +kernel) rfl, oT_mem 107 (by decide +kernel) rfl, ⟨by decide +kernel, by decide +kernel, by decide +kernel⟩, by decide⟩
theorem v_M_143 : oClS "OneCoinModel" 143 m_M_max 2 := ⟨Or.inl (oT_mem 1484 (by decide +kernel) rfl), oT_mem 1485 (by decide +kernel) rfl, co_M_max⟩
theorem co_M_debtOf : oCo m_M_debtOf 2 := ⟨oT_mem 1432 (by decide +kernel) rfl, oT_mem 107 (by decide +kernel) rfl, ⟨by decide +kernel, by decide +kernel, by decide +kernel⟩, by decide⟩
theorem v_M_147 : oClV "OneCoinModel" 147 m_M_debtOf 2 11 := ⟨Or.inl (oT_mem 1429 (by decide +kernel) rfl), oT_mem 1431 (by decide +kernel) rfl, oT_mem 51 (by decide +kernel) rfl, co_M_debtOf, ⟨_, rfl, rfl⟩⟩
theorem co_M_owesAll : oCo m_M_owesAll 1 := ⟨oT_mem 1428 (by decide +kernel) rfl, oT_mem 107 (by decide +kernel) rfl, ⟨by decide +kernel, by decide +kernel, by decide +kernel⟩, by decide⟩
theorem v_M_150 : oClV "OneCoinModel" 150 m_M_owesAll 1 11 := ⟨Or.inl (oT_mem 1425 (by decide +kernel) rfl), oT_mem 1427 (by decide +kernel) rfl, oT_mem 50 (by decide +kernel) rfl, co_M_owesAll, ⟨_, rfl, rfl⟩⟩
theorem co_M_areTwo : oCo m_M_areTwo 2 := ⟨oT_mem 1299 (by decide +kernel) rfl, oT_mem 107 (by decide +kernel) rfl, ⟨by decide +kernel, by decide +kernel, by decide +kernel⟩, by decide⟩
theorem v_M_153 : oClV "OneCoinModel" 153 m_M_areTwo 2 11 := ⟨Or.inl (oT_mem 1296 (by decide +kernel) rfl), oT_mem 1298 (by decide +kernel) rfl, oT_mem 25 (by decide +kernel) rfl, co_M_areTwo, ⟨_, rfl, rfl⟩⟩
theorem co_M_rests : oCo m_M_rests 1 := ⟨oT_mem 1314 (by decide +kernel) rfl, oT_mem 107 (by decide +kernel) rfl, ⟨by decide +kernel, by decide +kernel, by decide +kernel⟩, by decide⟩
theorem v_M_156 : oClV "OneCoinModel" 156 m_M_rests 1 11 := ⟨Or.inl (oT_mem 1311 (by decide +kernel) rfl), oT_mem 1313 (by decide +kernel) rfl, oT_mem 27 (by decide +kernel) rfl, co_M_rests, ⟨_, rfl, rfl⟩⟩
theorem co_M_types : oCo m_M_types 1 := ⟨oT_mem 1322 (by decide +kernel) rfl, oT_mem 107 (by decide +kernel) rfl, ⟨by decide +kernel, by decide +kernel, by decide +kernel⟩, by decide⟩
theorem v_M_163 : oClV "OneCoinModel" 163 m_M_types 1 11 := ⟨Or.inl (oT_mem 1319 (by decide +kernel) rfl), oT_mem 1321 (by decide +kernel) rfl, oT_mem 28 (by decide +kernel) rfl, co_M_types, ⟨_, rfl, rfl⟩⟩
theorem co_M_here : oCo m_M_here 0 := ⟨oT_mem 1334 (by decide +kernel) rfl, oT_mem 107 (by decide +kernel) rfl, ⟨by decide +kernel, by decide +kernel, by decide +kernel⟩, by decide⟩
theorem v_M_172 : oClV "OneCoinModel" 172 m_M_here 0 11 := ⟨Or.inl (oT_mem 1331 (by decide +kernel) rfl), oT_mem 1333 (by decide +kernel) rfl, oT_mem 30 (by decide +kernel) rfl, co_M_here, ⟨_, rfl, rfl⟩⟩
theorem co_M_wrongAt : oCo m_M_wrongAt 2 := ⟨oT_mem 1338 (by decide +kernel) rfl, oT_mem 107 (by decide +kernel) rfl, ⟨by decide +kernel, by decide +kernel, by decide +kernel⟩, by decide⟩
theorem v_M_179 : oClV "OneCoinModel" 179 m_M_wrongAt 2 11 := ⟨Or.inl (oT_mem 1335 (by decide +kernel) rfl), oT_mem 1337 (by decide +kernel) rfl, oT_mem 31 (by decide +kernel) rfl, co_M_wrongAt, ⟨_, rfl, rfl⟩⟩
theorem co_M_isDigit : oCo m_M_isDigit 0 := ⟨oT_mem 1355 (by decide +kernel) rfl, oT_mem 107 (by decide +kernel) rfl, ⟨by decide +kernel, by decide +kernel, by decide +kernel⟩, by decide⟩
theorem v_M_185 : oClV "OneCoinModel" 185 m_M_isDigit 0 11 := ⟨Or.inl (oT_mem 1352 (by decide +kernel) rfl), oT_mem 1354 (by decide +kernel) rfl, oT_mem 35 (by decide +kernel) rfl, co_M_isDigit, ⟨_, rfl, rfl⟩⟩
theorem co_M_waitTop : oCo m_M_waitTop 0 := ⟨oT_mem 1377 (by decide +kernel) rfl, oT_mem 107 (by decide +kernel) rfl, ⟨by decide +kernel, by decide +kernel, by decide +kernel⟩, by decide⟩
theorem v_M_199 : oClV "OneCoinModel" 199 m_M_waitTop 0 11 := ⟨Or.inl (oT_mem 1374 (by decide +kernel) rfl), oT_mem 1376 (by decide +kernel) rfl, oT_mem 39 (by decide +kernel) rfl, co_M_waitTop, ⟨_, rfl, rfl⟩⟩
theorem co_M_notes : oCo m_M_notes 2 := ⟨oT_mem 1363 (by decide +kernel) rfl, oT_mem 107 (by decide +kernel) rfl, ⟨by decide +kernel, by decide +kernel, by decide +kernel⟩, by decide⟩
theorem v_M_202 : oClV "OneCoinModel" 202 m_M_notes 2 11 := ⟨Or.inl (oT_mem 1360 (by decide +kernel) rfl), oT_mem 1362 (by decide +kernel) rfl, oT_mem 37 (by decide +kernel) rfl, co_M_notes, ⟨_, rfl, rfl⟩⟩
theorem co_M_opens : oCo m_M_opens 1 := ⟨oT_mem 1350 (by decide +kernel) rfl, oT_mem 107 (by decide +kernel) rfl, ⟨by decide +kernel, by decide +kernel, by decide +kernel⟩, by decide⟩
theorem v_M_206 : oClV "OneCoinModel" 206 m_M_opens 1 11 := ⟨Or.inl (oT_mem 1347 (by decide +kernel) rfl), oT_mem 1349 (by decide +kernel) rfl, oT_mem 34 (by decide +kernel) rfl, co_M_opens, ⟨_, rfl, rfl⟩⟩
theorem co_M_readsNumber : oCo m_M_readsNumber 0 := ⟨oT_mem 1359 (by decide +kernel) rfl, oT_mem 107 (by decide +kernel) rfl, ⟨by decide +kernel, by decide +kernel, by decide +kernel⟩, by decide⟩
theorem v_M_209 : oClV "OneCoinModel" 209 m_M_readsNumber 0 11 := ⟨Or.inl (oT_mem 1356 (by decide +kernel) rfl), oT_mem 1358 (by decide +kernel) rfl, oT_mem 36 (by decide +kernel) rfl, co_M_readsNumber, ⟨_, rfl, rfl⟩⟩
theorem co_M_factOf : oCo m_M_factOf 1 := ⟨oT_mem 1366 (by decide +kernel) rfl, oT_mem 107 (by decide +kernel) rfl, ⟨by decide +kernel, by decide +kernel, by decide +kernel⟩, by decide⟩
theorem v_M_212 : oClS "OneCoinModel" 212 m_M_factOf 1 := ⟨Or.inl (oT_mem 1364 (by decide +kernel) rfl), oT_mem 1365 (by decide +kernel) rfl, co_M_factOf⟩
theorem co_M_readsFactor : oCo m_M_readsFactor 0 := ⟨oT_mem 1346 (by decide +kernel) rfl, oT_mem 107 (by decide +kernel) rfl, ⟨by decide +kernel, by decide +kernel, by decide +kernel⟩, by decide⟩
theorem v_M_215 : oClV "OneCoinModel" 215 m_M_readsFactor 0 11 := ⟨Or.inl (oT_mem 1343 (by decide +kernel) rfl), oT_mem 1345 (by decide +kernel) rfl, oT_mem 33 (by decide +kernel) rfl, co_M_readsFactor, ⟨_, rfl, rfl⟩⟩
theorem co_M_sumSign : oCo m_M_sumSign 1 := ⟨oT_mem 1369 (by decide +kernel) rfl, oT_mem 107 (by decide +kernel) rfl, ⟨by decide +kernel, by decide +kernel, by decide +kernel⟩, by decide⟩
theorem v_M_218 : oClS "OneCoinModel" 218 m_M_sumSign 1 := ⟨Or.inl (oT_mem 1367 (by decide +kernel) rfl), oT_mem 1368 (by decide +kernel) rfl, co_M_sumSign⟩
theorem co_M_closesSums : oCo m_M_closesSums 1 := ⟨oT_mem 1373 (by decide +kernel) rfl, oT_mem 107 (by decide +kernel) rfl, ⟨by decide +kernel, by decide +kernel, by decide +kernel⟩, by decide⟩
theorem v_M_221 : oClV "OneCoinModel" 221 m_M_closesSums 1 11 := ⟨Or.inl (oT_mem 1370 (by decide +kernel) rfl), oT_mem 1372 (by decide +kernel) rfl, oT_mem 38 (by decide +kernel) rfl, co_M_closesSums, ⟨_, rfl, rfl⟩⟩
theorem co_M_hasOpenSum : oCo m_M_hasOpenSum 1 := ⟨oT_mem 1381 (by decide +kernel) rfl, oT_mem 107 (by decide +kernel) rfl, ⟨by decide +kernel, by decide +kernel, by decide +kernel⟩, by decide⟩
theorem v_M_225 : oClV "OneCoinModel" 225 m_M_hasOpenSum 1 11 := ⟨Or.inl (oT_mem 1378 (by decide +kernel) rfl), oT_mem 1380 (by decide +kernel) rfl, oT_mem 40 (by decide +kernel) rfl, co_M_hasOpenSum, ⟨_, rfl, rfl⟩⟩
theorem co_M_readsSum : oCo m_M_readsSum 0 := ⟨oT_mem 1342 (by decide +kernel) rfl, oT_mem 107 (by decide +kernel) rfl, ⟨by decide +kernel, by decide +kernel, by decide +kernel⟩, by decide⟩
theorem v_M_228 : oClV "OneCoinModel" 228 m_M_readsSum 0 11 := ⟨Or.inl (oT_mem 1339 (by decide +kernel) rfl), oT_mem 1341 (by decide +kernel) rfl, oT_mem 32 (by decide +kernel) rfl, co_M_readsSum, ⟨_, rfl, rfl⟩⟩
theorem co_M_endsPiece : oCo m_M_endsPiece 0 := ⟨oT_mem 1393 (by decide +kernel) rfl, oT_mem 107 (by decide +kernel) rfl, ⟨by decide +kernel, by decide +kernel, by decide +kernel⟩, by decide⟩
theorem v_M_231 : oClV "OneCoinModel" 231 m_M_endsPiece 0 11 := ⟨Or.inl (oT_mem 1390 (by decide +kernel) rfl), oT_mem 1392 (by decide +kernel) rfl, oT_mem 43 (by decide +kernel) rfl, co_M_endsPiece, ⟨_, rfl, rfl⟩⟩
theorem co_M_readsCompared : oCo m_M_readsCompared 0 := ⟨oT_mem 1389 (by decide +kernel) rfl, oT_mem 107 (by decide +kernel) rfl, ⟨by decide +kernel, by decide +kernel, by decide +kernel⟩, by decide⟩
theorem v_M_234 : oClV "OneCoinModel" 234 m_M_readsCompared 0 11 := ⟨Or.inl (oT_mem 1386 (by decide +kernel) rfl), oT_mem 1388 (by decide +kernel) rfl, oT_mem 42 (by decide +kernel) rfl, co_M_readsCompared, ⟨_, rfl, rfl⟩⟩
theorem co_M_lands : oCo m_M_lands 1 := ⟨oT_mem 1397 (by decide +kernel) rfl, oT_mem 107 (by decide +kernel) rfl, ⟨by decide +kernel, by decide +kernel, by decide +kernel⟩, by decide⟩
theorem v_M_237 : oClV "OneCoinModel" 237 m_M_lands 1 11 := ⟨Or.inl (oT_mem 1394 (by decide +kernel) rfl), oT_mem 1396 (by decide +kernel) rfl, oT_mem 44 (by decide +kernel) rfl, co_M_lands, ⟨_, rfl, rfl⟩⟩
theorem co_M_jumps : oCo m_M_jumps 1 := ⟨oT_mem 1401 (by decide +kernel) rfl, oT_mem 107 (by decide +kernel) rfl, ⟨by decide +kernel, by decide +kernel, by decide +kernel⟩, by decide⟩
theorem v_M_240 : oClV "OneCoinModel" 240 m_M_jumps 1 11 := ⟨Or.inl (oT_mem 1398 (by decide +kernel) rfl), oT_mem 1400 (by decide +kernel) rfl, oT_mem 45 (by decide +kernel) rfl, co_M_jumps, ⟨_, rfl, rfl⟩⟩
theorem co_M_readsCondition : oCo m_M_readsCondition 0 := ⟨oT_mem 1385 (by decide +kernel) rfl, oT_mem 107 (by decide +kernel) rfl, ⟨by decide +kernel, by decide +kernel, by decide +kernel⟩, by decide⟩
theorem v_M_246 : oClV "OneCoinModel" 246 m_M_readsCondition 0 11 := ⟨Or.inl (oT_mem 1382 (by decide +kernel) rfl), oT_mem 1384 (by decide +kernel) rfl, oT_mem 41 (by decide +kernel) rfl, co_M_readsCondition, ⟨_, rfl, rfl⟩⟩
theorem co_M_readsRule : oCo m_M_readsRule 0 := ⟨oT_mem 1330 (by decide +kernel) rfl, oT_mem 107 (by decide +kernel) rfl, ⟨by decide +kernel, by decide +kernel, by decide +kernel⟩, by decide⟩
theorem v_M_249 : oClV "OneCoinModel" 249 m_M_readsRule 0 11 := ⟨Or.inl (oT_mem 1327 (by decide +kernel) rfl), oT_mem 1329 (by decide +kernel) rfl, oT_mem 29 (by decide +kernel) rfl, co_M_readsRule, ⟨_, rfl, rfl⟩⟩
theorem co_M_takes : oCo m_M_takes 1 := ⟨oT_mem 1405 (by decide +kernel) rfl, oT_mem 107 (by decide +kernel) rfl, ⟨by decide +kernel, by decide +kernel, by decide +kernel⟩, by decide⟩
theorem v_M_252 : oClV "OneCoinModel" 252 m_M_takes 1 11 := ⟨Or.inl (oT_mem 1402 (by decide +kernel) rfl), oT_mem 1404 (by decide +kernel) rfl, oT_mem 46 (by decide +kernel) rfl, co_M_takes, ⟨_, rfl, rfl⟩⟩
theorem co_M_reckon : oCo m_M_reckon 3 := ⟨oT_mem 1472 (by decide +kernel) rfl, oT_mem 107 (by decide +kernel) rfl, ⟨by decide +kernel, by decide +kernel, by decide +kernel⟩, by decide⟩
theorem v_M_258 : oClS "OneCoinModel" 258 m_M_reckon 3 := ⟨Or.inl (oT_mem 1470 (by decide +kernel) rfl), oT_mem 1471 (by decide +kernel) rfl, co_M_reckon⟩
theorem co_M_comesTo : oCo m_M_comesTo 2 := ⟨oT_mem 1469 (by decide +kernel) rfl, oT_mem 107 (by decide +kernel) rfl, ⟨by decide +kernel, by decide +kernel, by decide +kernel⟩, by decide⟩
theorem v_M_262 : oClV "OneCoinModel" 262 m_M_comesTo 2 11 := ⟨Or.inl (oT_mem 1466 (by decide +kernel) rfl), oT_mem 1468 (by decide +kernel) rfl, oT_mem 59 (by decide +kernel) rfl, co_M_comesTo, ⟨_, rfl, rfl⟩⟩
theorem co_M_feels : oCo m_M_feels 1 := ⟨oT_mem 1461 (by decide +kernel) rfl, oT_mem 107 (by decide +kernel) rfl, ⟨by decide +kernel, by decide +kernel, by decide +kernel⟩, by decide⟩
theorem v_M_265 : oClV "OneCoinModel" 265 m_M_feels 1 11 := ⟨Or.inl (oT_mem 1458 (by decide +kernel) rfl), oT_mem 1460 (by decide +kernel) rfl, oT_mem 57 (by decide +kernel) rfl, co_M_feels, ⟨_, rfl, rfl⟩⟩
theorem co_M_wayOf : oCo m_M_wayOf 2 := ⟨oT_mem 1480 (by decide +kernel) rfl, oT_mem 107 (by decide +kernel) rfl, ⟨by decide +kernel, by decide +kernel, by decide +kernel⟩, by decide⟩
theorem v_M_268 : oClV "OneCoinModel" 268 m_M_wayOf 2 11 := ⟨Or.inl (oT_mem 1477 (by decide +kernel) rfl), oT_mem 1479 (by decide +kernel) rfl, oT_mem 61 (by decide +kernel) rfl, co_M_wayOf, ⟨_, rfl, rfl⟩⟩
theorem co_M_chalksOf : oCo m_M_chalksOf 1 := ⟨oT_mem 1490 (by decide +kernel) rfl, oT_mem 107 (by decide +kernel) rfl, ⟨by decide +kernel, by decide +kernel, by decide +kernel⟩, by decide⟩
theorem v_M_271 : oClV "OneCoinModel" 271 m_M_chalksOf 1 11 := ⟨Or.inl (oT_mem 1487 (by decide +kernel) rfl), oT_mem 1489 (by decide +kernel) rfl, oT_mem 62 (by decide +kernel) rfl, co_M_chalksOf, ⟨_, rfl, rfl⟩⟩
theorem co_M_feelsTwo : oCo m_M_feelsTwo 2 := ⟨oT_mem 1476 (by decide +kernel) rfl, oT_mem 107 (by decide +kernel) rfl, ⟨by decide +kernel, by decide +kernel, by decide +kernel⟩, by decide⟩
theorem v_M_274 : oClV "OneCoinModel" 274 m_M_feelsTwo 2 11 := ⟨Or.inl (oT_mem 1473 (by decide +kernel) rfl), oT_mem 1475 (by decide +kernel) rfl, oT_mem 60 (by decide +kernel) rfl, co_M_feelsTwo, ⟨_, rfl, rfl⟩⟩
theorem co_M_holdsAny : oCo m_M_holdsAny 1 := ⟨oT_mem 1514 (by decide +kernel) rfl, oT_mem 107 (by decide +kernel) rfl, ⟨by decide +kernel, by decide +kernel, by decide +kernel⟩, by decide⟩
theorem v_M_277 : oClV "OneCoinModel" 277 m_M_holdsAny 1 11 := ⟨Or.inl (oT_mem 1511 (by decide +kernel) rfl), oT_mem 1513 (by decide +kernel) rfl, oT_mem 68 (by decide +kernel) rfl, co_M_holdsAny, ⟨_, rfl, rfl⟩⟩
theorem co_M_byLaw : oCo m_M_byLaw 2 := ⟨oT_mem 1465 (by decide +kernel) rfl, oT_mem 107 (by decide +kernel) rfl, ⟨by decide +kernel, by decide +kernel, by decide +kernel⟩, by decide⟩
theorem v_M_280 : oClV "OneCoinModel" 280 m_M_byLaw 2 11 := ⟨Or.inl (oT_mem 1462 (by decide +kernel) rfl), oT_mem 1464 (by decide +kernel) rfl, oT_mem 58 (by decide +kernel) rfl, co_M_byLaw, ⟨_, rfl, rfl⟩⟩
theorem co_M_readsPerson : oCo m_M_readsPerson 1 := ⟨oT_mem 1417 (by decide +kernel) rfl, oT_mem 107 (by decide +kernel) rfl, ⟨by decide +kernel, by decide +kernel, by decide +kernel⟩, by decide⟩
theorem v_M_286 : oClV "OneCoinModel" 286 m_M_readsPerson 1 11 := ⟨Or.inl (oT_mem 1414 (by decide +kernel) rfl), oT_mem 1416 (by decide +kernel) rfl, oT_mem 48 (by decide +kernel) rfl, co_M_readsPerson, ⟨_, rfl, rfl⟩⟩
theorem co_M_min : oCo m_M_min 2 := ⟨oT_mem 1420 (by decide +kernel) rfl, oT_mem 107 (by decide +kernel) rfl, ⟨by decide +kernel, by decide +kernel, by decide +kernel⟩, by decide⟩
theorem v_M_290 : oClS "OneCoinModel" 290 m_M_min 2 := ⟨Or.inl (oT_mem 1418 (by decide +kernel) rfl), oT_mem 1419 (by decide +kernel) rfl, co_M_min⟩
theorem co_M_readsLine : oCo m_M_readsLine 0 := ⟨oT_mem 1413 (by decide +kernel) rfl, oT_mem 107 (by decide +kernel) rfl, ⟨by decide +kernel, by decide +kernel, by decide +kernel⟩, by decide⟩
theorem v_M_293 : oClV "OneCoinModel" 293 m_M_readsLine 0 11 := ⟨Or.inl (oT_mem 1410 (by decide +kernel) rfl), oT_mem 1412 (by decide +kernel) rfl, oT_mem 47 (by decide +kernel) rfl, co_M_readsLine, ⟨_, rfl, rfl⟩⟩
theorem co_M_owedInAll : oCo m_M_owedInAll 0 := ⟨oT_mem 1424 (by decide +kernel) rfl, oT_mem 107 (by decide +kernel) rfl, ⟨by decide +kernel, by decide +kernel, by decide +kernel⟩, by decide⟩
theorem v_M_296 : oClV "OneCoinModel" 296 m_M_owedInAll 0 11 := ⟨Or.inl (oT_mem 1421 (by decide +kernel) rfl), oT_mem 1423 (by decide +kernel) rfl, oT_mem 49 (by decide +kernel) rfl, co_M_owedInAll, ⟨_, rfl, rfl⟩⟩
theorem co_M_chalks : oCo m_M_chalks 1 := ⟨oT_mem 1498 (by decide +kernel) rfl, oT_mem 107 (by decide +kernel) rfl, ⟨by decide +kernel, by decide +kernel, by decide +kernel⟩, by decide⟩
theorem v_M_299 : oClV "OneCoinModel" 299 m_M_chalks 1 11 := ⟨Or.inl (oT_mem 1495 (by decide +kernel) rfl), oT_mem 1497 (by decide +kernel) rfl, oT_mem 64 (by decide +kernel) rfl, co_M_chalks, ⟨_, rfl, rfl⟩⟩
theorem co_M_rainBy : oCo m_M_rainBy 0 := ⟨oT_mem 1457 (by decide +kernel) rfl, oT_mem 107 (by decide +kernel) rfl, ⟨by decide +kernel, by decide +kernel, by decide +kernel⟩, by decide⟩
theorem v_M_303 : oClV "OneCoinModel" 303 m_M_rainBy 0 11 := ⟨Or.inl (oT_mem 1454 (by decide +kernel) rfl), oT_mem 1456 (by decide +kernel) rfl, oT_mem 56 (by decide +kernel) rfl, co_M_rainBy, ⟨_, rfl, rfl⟩⟩
theorem co_M_likesBy : oCo m_M_likesBy 2 := ⟨oT_mem 1510 (by decide +kernel) rfl, oT_mem 107 (by decide +kernel) rfl, ⟨by decide +kernel, by decide +kernel, by decide +kernel⟩, by decide⟩
theorem v_M_312 : oClV "OneCoinModel" 312 m_M_likesBy 2 11 := ⟨Or.inl (oT_mem 1507 (by decide +kernel) rfl), oT_mem 1509 (by decide +kernel) rfl, oT_mem 67 (by decide +kernel) rfl, co_M_likesBy, ⟨_, rfl, rfl⟩⟩
theorem co_M_nextPaid : oCo m_M_nextPaid 1 := ⟨oT_mem 1506 (by decide +kernel) rfl, oT_mem 107 (by decide +kernel) rfl, ⟨by decide +kernel, by decide +kernel, by decide +kernel⟩, by decide⟩
theorem v_M_315 : oClV "OneCoinModel" 315 m_M_nextPaid 1 11 := ⟨Or.inl (oT_mem 1503 (by decide +kernel) rfl), oT_mem 1505 (by decide +kernel) rfl, oT_mem 66 (by decide +kernel) rfl, co_M_nextPaid, ⟨_, rfl, rfl⟩⟩
theorem co_M_setsOut : oCo m_M_setsOut 2 := ⟨oT_mem 1518 (by decide +kernel) rfl, oT_mem 107 (by decide +kernel) rfl, ⟨by decide +kernel, by decide +kernel, by decide +kernel⟩, by decide⟩
theorem v_M_318 : oClV "OneCoinModel" 318 m_M_setsOut 2 11 := ⟨Or.inl (oT_mem 1515 (by decide +kernel) rfl), oT_mem 1517 (by decide +kernel) rfl, oT_mem 69 (by decide +kernel) rfl, co_M_setsOut, ⟨_, rfl, rfl⟩⟩
theorem co_M_dayBegins : oCo m_M_dayBegins 0 := ⟨oT_mem 1452 (by decide +kernel) rfl, oT_mem 107 (by decide +kernel) rfl, ⟨by decide +kernel, by decide +kernel, by decide +kernel⟩, by decide⟩
theorem v_M_324 : oClV "OneCoinModel" 324 m_M_dayBegins 0 11 := ⟨Or.inl (oT_mem 1449 (by decide +kernel) rfl), oT_mem 1451 (by decide +kernel) rfl, oT_mem 55 (by decide +kernel) rfl, co_M_dayBegins, ⟨_, rfl, rfl⟩⟩
theorem co_M_pays : oCo m_M_pays 2 := ⟨oT_mem 1494 (by decide +kernel) rfl, oT_mem 107 (by decide +kernel) rfl, ⟨by decide +kernel, by decide +kernel, by decide +kernel⟩, by decide⟩
theorem v_M_327 : oClV "OneCoinModel" 327 m_M_pays 2 11 := ⟨Or.inl (oT_mem 1491 (by decide +kernel) rfl), oT_mem 1493 (by decide +kernel) rfl, oT_mem 63 (by decide +kernel) rfl, co_M_pays, ⟨_, rfl, rfl⟩⟩
theorem co_M_holds : oCo m_M_holds 1 := ⟨oT_mem 1502 (by decide +kernel) rfl, oT_mem 107 (by decide +kernel) rfl, ⟨by decide +kernel, by decide +kernel, by decide +kernel⟩, by decide⟩
theorem v_M_333 : oClV "OneCoinModel" 333 m_M_holds 1 11 := ⟨Or.inl (oT_mem 1499 (by decide +kernel) rfl), oT_mem 1501 (by decide +kernel) rfl, oT_mem 65 (by decide +kernel) rfl, co_M_holds, ⟨_, rfl, rfl⟩⟩
theorem co_M_begins : oCo m_M_begins 0 := ⟨oT_mem 1444 (by decide +kernel) rfl, oT_mem 107 (by decide +kernel) rfl, ⟨by decide +kernel, by decide +kernel, by decide +kernel⟩, by decide⟩
theorem v_M_336 : oClV "OneCoinModel" 336 m_M_begins 0 11 := ⟨Or.inl (oT_mem 1441 (by decide +kernel) rfl), oT_mem 1443 (by decide +kernel) rfl, oT_mem 53 (by decide +kernel) rfl, co_M_begins, ⟨_, rfl, rfl⟩⟩
theorem co_M_hourGoes : oCo m_M_hourGoes 0 := ⟨oT_mem 1448 (by decide +kernel) rfl, oT_mem 107 (by decide +kernel) rfl, ⟨by decide +kernel, by decide +kernel, by decide +kernel⟩, by decide⟩
theorem v_M_339 : oClV "OneCoinModel" 339 m_M_hourGoes 0 11 := ⟨Or.inl (oT_mem 1445 (by decide +kernel) rfl), oT_mem 1447 (by decide +kernel) rfl, oT_mem 54 (by decide +kernel) rfl, co_M_hourGoes, ⟨_, rfl, rfl⟩⟩
theorem co_M_hoursGo : oCo m_M_hoursGo 1 := ⟨oT_mem 1440 (by decide +kernel) rfl, oT_mem 107 (by decide +kernel) rfl, ⟨by decide +kernel, by decide +kernel, by decide +kernel⟩, by decide⟩
theorem v_M_342 : oClV "OneCoinModel" 342 m_M_hoursGo 1 11 := ⟨Or.inl (oT_mem 1437 (by decide +kernel) rfl), oT_mem 1439 (by decide +kernel) rfl, oT_mem 52 (by decide +kernel) rfl, co_M_hoursGo, ⟨_, rfl, rfl⟩⟩
theorem co_M_copies : oCo m_M_copies 2 := ⟨oT_mem 1525 (by decide +kernel) rfl, oT_mem 107 (by decide +kernel) rfl, ⟨by decide +kernel, by decide +kernel, by decide +kernel⟩, by decide⟩
theorem v_M_345 : oClS "OneCoinModel" 345 m_M_copies 2 := ⟨Or.inl (oT_mem 1523 (by decide +kernel) rfl), oT_mem 1524 (by decide +kernel) rfl, co_M_copies⟩
theorem co_M_getsAll : oCo m_M_getsAll 1 := ⟨oT_mem 1533 (by decide +kernel) rfl, oT_mem 107 (by decide +kernel) rfl, ⟨by decide +kernel, by decide +kernel, by decide +kernel⟩, by decide⟩
theorem v_M_349 : oClV "OneCoinModel" 349 m_M_getsAll 1 11 := ⟨Or.inl (oT_mem 1530 (by decide +kernel) rfl), oT_mem 1532 (by decide +kernel) rfl, oT_mem 70 (by decide +kernel) rfl, co_M_getsAll, ⟨_, rfl, rfl⟩⟩
theorem co_M_readsTimes : oCo m_M_readsTimes 0 := ⟨oT_mem 1557 (by decide +kernel) rfl, oT_mem 107 (by decide +kernel) rfl, ⟨by decide +kernel, by decide +kernel, by decide +kernel⟩, by decide⟩
theorem v_M_361 : oClV "OneCoinModel" 361 m_M_readsTimes 0 11 := ⟨Or.inl (oT_mem 1554 (by decide +kernel) rfl), oT_mem 1556 (by decide +kernel) rfl, oT_mem 73 (by decide +kernel) rfl, co_M_readsTimes, ⟨_, rfl, rfl⟩⟩
theorem co_M_repeats : oCo m_M_repeats 3 := ⟨oT_mem 1561 (by decide +kernel) rfl, oT_mem 107 (by decide +kernel) rfl, ⟨by decide +kernel, by decide +kernel, by decide +kernel⟩, by decide⟩
theorem v_M_367 : oClV "OneCoinModel" 367 m_M_repeats 3 11 := ⟨Or.inl (oT_mem 1558 (by decide +kernel) rfl), oT_mem 1560 (by decide +kernel) rfl, oT_mem 74 (by decide +kernel) rfl, co_M_repeats, ⟨_, rfl, rfl⟩⟩
theorem co_M_readsItem : oCo m_M_readsItem 0 := ⟨oT_mem 1553 (by decide +kernel) rfl, oT_mem 107 (by decide +kernel) rfl, ⟨by decide +kernel, by decide +kernel, by decide +kernel⟩, by decide⟩
theorem v_M_370 : oClV "OneCoinModel" 370 m_M_readsItem 0 11 := ⟨Or.inl (oT_mem 1550 (by decide +kernel) rfl), oT_mem 1552 (by decide +kernel) rfl, oT_mem 72 (by decide +kernel) rfl, co_M_readsItem, ⟨_, rfl, rfl⟩⟩
theorem co_M_readsRoute : oCo m_M_readsRoute 1 := ⟨oT_mem 1549 (by decide +kernel) rfl, oT_mem 107 (by decide +kernel) rfl, ⟨by decide +kernel, by decide +kernel, by decide +kernel⟩, by decide⟩
theorem v_M_379 : oClV "OneCoinModel" 379 m_M_readsRoute 1 11 := ⟨Or.inl (oT_mem 1546 (by decide +kernel) rfl), oT_mem 1548 (by decide +kernel) rfl, oT_mem 71 (by decide +kernel) rfl, co_M_readsRoute, ⟨_, rfl, rfl⟩⟩
theorem co_M_walksRoute : oCo m_M_walksRoute 0 := ⟨oT_mem 1565 (by decide +kernel) rfl, oT_mem 107 (by decide +kernel) rfl, ⟨by decide +kernel, by decide +kernel, by decide +kernel⟩, by decide⟩
theorem v_M_382 : oClV "OneCoinModel" 382 m_M_walksRoute 0 11 := ⟨Or.inl (oT_mem 1562 (by decide +kernel) rfl), oT_mem 1564 (by decide +kernel) rfl, oT_mem 75 (by decide +kernel) rfl, co_M_walksRoute, ⟨_, rfl, rfl⟩⟩
theorem co_M_leftOf : oCo m_M_leftOf 2 := ⟨oT_mem 1589 (by decide +kernel) rfl, oT_mem 107 (by decide +kernel) rfl, ⟨by decide +kernel, by decide +kernel, by decide +kernel⟩, by decide⟩
theorem v_M_385 : oClV "OneCoinModel" 385 m_M_leftOf 2 11 := ⟨Or.inl (oT_mem 1586 (by decide +kernel) rfl), oT_mem 1588 (by decide +kernel) rfl, oT_mem 79 (by decide +kernel) rfl, co_M_leftOf, ⟨_, rfl, rfl⟩⟩
theorem co_M_reachLeft : oCo m_M_reachLeft 1 := ⟨oT_mem 1585 (by decide +kernel) rfl, oT_mem 107 (by decide +kernel) rfl, ⟨by decide +kernel, by decide +kernel, by decide +kernel⟩, by decide⟩
theorem v_M_388 : oClV "OneCoinModel" 388 m_M_reachLeft 1 11 := ⟨Or.inl (oT_mem 1582 (by decide +kernel) rfl), oT_mem 1584 (by decide +kernel) rfl, oT_mem 78 (by decide +kernel) rfl, co_M_reachLeft, ⟨_, rfl, rfl⟩⟩
theorem co_M_isRow : oCo m_M_isRow 1 := ⟨oT_mem 1581 (by decide +kernel) rfl, oT_mem 107 (by decide +kernel) rfl, ⟨by decide +kernel, by decide +kernel, by decide +kernel⟩, by decide⟩
theorem v_M_391 : oClV "OneCoinModel" 391 m_M_isRow 1 11 := ⟨Or.inl (oT_mem 1578 (by decide +kernel) rfl), oT_mem 1580 (by decide +kernel) rfl, oT_mem 77 (by decide +kernel) rfl, co_M_isRow, ⟨_, rfl, rfl⟩⟩
theorem co_M_canGo : oCo m_M_canGo 2 := ⟨oT_mem 1593 (by decide +kernel) rfl, oT_mem 107 (by decide +kernel) rfl, ⟨by decide +kernel, by decide +kernel, by decide +kernel⟩, by decide⟩
theorem v_M_394 : oClV "OneCoinModel" 394 m_M_canGo 2 11 := ⟨Or.inl (oT_mem 1590 (by decide +kernel) rfl), oT_mem 1592 (by decide +kernel) rfl, oT_mem 80 (by decide +kernel) rfl, co_M_canGo, ⟨_, rfl, rfl⟩⟩
theorem co_M_laysTour : oCo m_M_laysTour 2 := ⟨oT_mem 1577 (by decide +kernel) rfl, oT_mem 107 (by decide +kernel) rfl, ⟨by decide +kernel, by decide +kernel, by decide +kernel⟩, by decide⟩
theorem v_M_397 : oClV "OneCoinModel" 397 m_M_laysTour 2 11 := ⟨Or.inl (oT_mem 1574 (by decide +kernel) rfl), oT_mem 1576 (by decide +kernel) rfl, oT_mem 76 (by decide +kernel) rfl, co_M_laysTour, ⟨_, rfl, rfl⟩⟩
theorem co_M_laysCoins : oCo m_M_laysCoins 1 := ⟨oT_mem 1601 (by decide +kernel) rfl, oT_mem 107 (by decide +kernel) rfl, ⟨by decide +kernel, by decide +kernel, by decide +kernel⟩, by decide⟩
theorem v_M_403 : oClV "OneCoinModel" 403 m_M_laysCoins 1 11 := ⟨Or.inl (oT_mem 1598 (by decide +kernel) rfl), oT_mem 1600 (by decide +kernel) rfl, oT_mem 81 (by decide +kernel) rfl, co_M_laysCoins, ⟨_, rfl, rfl⟩⟩
theorem co_M_laysMore : oCo m_M_laysMore 0 := ⟨oT_mem 1605 (by decide +kernel) rfl, oT_mem 107 (by decide +kernel) rfl, ⟨by decide +kernel, by decide +kernel, by decide +kernel⟩, by decide⟩
theorem v_M_406 : oClV "OneCoinModel" 406 m_M_laysMore 0 11 := ⟨Or.inl (oT_mem 1602 (by decide +kernel) rfl), oT_mem 1604 (by decide +kernel) rfl, oT_mem 82 (by decide +kernel) rfl, co_M_laysMore, ⟨_, rfl, rfl⟩⟩
theorem co_M_bestCoin : oCo m_M_bestCoin 2 := ⟨oT_mem 1609 (by decide +kernel) rfl, oT_mem 107 (by decide +kernel) rfl, ⟨by decide +kernel, by decide +kernel, by decide +kernel⟩, by decide⟩
theorem v_M_409 : oClV "OneCoinModel" 409 m_M_bestCoin 2 11 := ⟨Or.inl (oT_mem 1606 (by decide +kernel) rfl), oT_mem 1608 (by decide +kernel) rfl, oT_mem 83 (by decide +kernel) rfl, co_M_bestCoin, ⟨_, rfl, rfl⟩⟩
theorem co_M_laysBack : oCo m_M_laysBack 0 := ⟨oT_mem 1617 (by decide +kernel) rfl, oT_mem 107 (by decide +kernel) rfl, ⟨by decide +kernel, by decide +kernel, by decide +kernel⟩, by decide⟩
theorem v_M_413 : oClV "OneCoinModel" 413 m_M_laysBack 0 11 := ⟨Or.inl (oT_mem 1614 (by decide +kernel) rfl), oT_mem 1616 (by decide +kernel) rfl, oT_mem 84 (by decide +kernel) rfl, co_M_laysBack, ⟨_, rfl, rfl⟩⟩
theorem co_M_setOffOf : oCo m_M_setOffOf 1 := ⟨oT_mem 1630 (by decide +kernel) rfl, oT_mem 107 (by decide +kernel) rfl, ⟨by decide +kernel, by decide +kernel, by decide +kernel⟩, by decide⟩
theorem v_M_419 : oClV "OneCoinModel" 419 m_M_setOffOf 1 11 := ⟨Or.inl (oT_mem 1627 (by decide +kernel) rfl), oT_mem 1629 (by decide +kernel) rfl, oT_mem 86 (by decide +kernel) rfl, co_M_setOffOf, ⟨_, rfl, rfl⟩⟩
theorem co_M_laysLacks : oCo m_M_laysLacks 0 := ⟨oT_mem 1626 (by decide +kernel) rfl, oT_mem 107 (by decide +kernel) rfl, ⟨by decide +kernel, by decide +kernel, by decide +kernel⟩, by decide⟩
theorem v_M_422 : oClV "OneCoinModel" 422 m_M_laysLacks 0 11 := ⟨Or.inl (oT_mem 1623 (by decide +kernel) rfl), oT_mem 1625 (by decide +kernel) rfl, oT_mem 85 (by decide +kernel) rfl, co_M_laysLacks, ⟨_, rfl, rfl⟩⟩
theorem co_M_readsRow : oCo m_M_readsRow 2 := ⟨oT_mem 1634 (by decide +kernel) rfl, oT_mem 107 (by decide +kernel) rfl, ⟨by decide +kernel, by decide +kernel, by decide +kernel⟩, by decide⟩
theorem v_M_425 : oClV "OneCoinModel" 425 m_M_readsRow 2 11 := ⟨Or.inl (oT_mem 1631 (by decide +kernel) rfl), oT_mem 1633 (by decide +kernel) rfl, oT_mem 87 (by decide +kernel) rfl, co_M_readsRow, ⟨_, rfl, rfl⟩⟩
theorem co_M_hoursOfRow : oCo m_M_hoursOfRow 1 := ⟨oT_mem 1638 (by decide +kernel) rfl, oT_mem 107 (by decide +kernel) rfl, ⟨by decide +kernel, by decide +kernel, by decide +kernel⟩, by decide⟩
theorem v_M_428 : oClV "OneCoinModel" 428 m_M_hoursOfRow 1 11 := ⟨Or.inl (oT_mem 1635 (by decide +kernel) rfl), oT_mem 1637 (by decide +kernel) rfl, oT_mem 88 (by decide +kernel) rfl, co_M_hoursOfRow, ⟨_, rfl, rfl⟩⟩
theorem co_M_bits : oCo m_M_bits 1 := ⟨oT_mem 1645 (by decide +kernel) rfl, oT_mem 107 (by decide +kernel) rfl, ⟨by decide +kernel, by decide +kernel, by decide +kernel⟩, by decide⟩
theorem v_M_431 : oClS "OneCoinModel" 431 m_M_bits 1 := ⟨Or.inl (oT_mem 1643 (by decide +kernel) rfl), oT_mem 1644 (by decide +kernel) rfl, co_M_bits⟩
theorem co_M_isEven : oCo m_M_isEven 1 := ⟨oT_mem 1649 (by decide +kernel) rfl, oT_mem 107 (by decide +kernel) rfl, ⟨by decide +kernel, by decide +kernel, by decide +kernel⟩, by decide⟩
theorem v_M_434 : oClV "OneCoinModel" 434 m_M_isEven 1 11 := ⟨Or.inl (oT_mem 1646 (by decide +kernel) rfl), oT_mem 1648 (by decide +kernel) rfl, oT_mem 89 (by decide +kernel) rfl, co_M_isEven, ⟨_, rfl, rfl⟩⟩
theorem co_M_laysGroups : oCo m_M_laysGroups 0 := ⟨oT_mem 1662 (by decide +kernel) rfl, oT_mem 107 (by decide +kernel) rfl, ⟨by decide +kernel, by decide +kernel, by decide +kernel⟩, by decide⟩
theorem v_M_438 : oClV "OneCoinModel" 438 m_M_laysGroups 0 11 := ⟨Or.inl (oT_mem 1659 (by decide +kernel) rfl), oT_mem 1661 (by decide +kernel) rfl, oT_mem 90 (by decide +kernel) rfl, co_M_laysGroups, ⟨_, rfl, rfl⟩⟩
theorem co_M_reachOf : oCo m_M_reachOf 1 := ⟨oT_mem 1674 (by decide +kernel) rfl, oT_mem 107 (by decide +kernel) rfl, ⟨by decide +kernel, by decide +kernel, by decide +kernel⟩, by decide⟩
theorem v_M_441 : oClV "OneCoinModel" 441 m_M_reachOf 1 11 := ⟨Or.inl (oT_mem 1671 (by decide +kernel) rfl), oT_mem 1673 (by decide +kernel) rfl, oT_mem 92 (by decide +kernel) rfl, co_M_reachOf, ⟨_, rfl, rfl⟩⟩
theorem co_M_ringOf : oCo m_M_ringOf 1 := ⟨oT_mem 1670 (by decide +kernel) rfl, oT_mem 107 (by decide +kernel) rfl, ⟨by decide +kernel, by decide +kernel, by decide +kernel⟩, by decide⟩
theorem v_M_444 : oClV "OneCoinModel" 444 m_M_ringOf 1 11 := ⟨Or.inl (oT_mem 1667 (by decide +kernel) rfl), oT_mem 1669 (by decide +kernel) rfl, oT_mem 91 (by decide +kernel) rfl, co_M_ringOf, ⟨_, rfl, rfl⟩⟩
theorem co_M_hoursOf : oCo m_M_hoursOf 1 := ⟨oT_mem 1702 (by decide +kernel) rfl, oT_mem 107 (by decide +kernel) rfl, ⟨by decide +kernel, by decide +kernel, by decide +kernel⟩, by decide⟩
theorem v_M_447 : oClV "OneCoinModel" 447 m_M_hoursOf 1 11 := ⟨Or.inl (oT_mem 1699 (by decide +kernel) rfl), oT_mem 1701 (by decide +kernel) rfl, oT_mem 93 (by decide +kernel) rfl, co_M_hoursOf, ⟨_, rfl, rfl⟩⟩
theorem co_M_isRowOf : oCo m_M_isRowOf 2 := ⟨oT_mem 1706 (by decide +kernel) rfl, oT_mem 107 (by decide +kernel) rfl, ⟨by decide +kernel, by decide +kernel, by decide +kernel⟩, by decide⟩
theorem v_M_450 : oClV "OneCoinModel" 450 m_M_isRowOf 2 11 := ⟨Or.inl (oT_mem 1703 (by decide +kernel) rfl), oT_mem 1705 (by decide +kernel) rfl, oT_mem 94 (by decide +kernel) rfl, co_M_isRowOf, ⟨_, rfl, rfl⟩⟩
theorem co_M_gcd : oCo m_M_gcd 2 := ⟨oT_mem 1713 (by decide +kernel) rfl, oT_mem 107 (by decide +kernel) rfl, ⟨by decide +kernel, by decide +kernel, by decide +kernel⟩, by decide⟩
theorem v_M_453 : oClS "OneCoinModel" 453 m_M_gcd 2 := ⟨Or.inl (oT_mem 1711 (by decide +kernel) rfl), oT_mem 1712 (by decide +kernel) rfl, co_M_gcd⟩
theorem co_JS_coder : oCo m_JS_coder 0 := ⟨oT_mem 589 (by decide +kernel) rfl, oT_mem 108 (by decide +kernel) rfl, ⟨by decide +kernel, by decide +kernel, by decide +kernel⟩, by decide⟩
theorem v_JS_335 : oClO "java/lang/String" 335 m_JS_coder 0 := ⟨Or.inl (oT_mem 586 (by decide +kernel) rfl), oT_mem 587 (by decide +kernel) rfl, oT_mem 588 (by decide +kernel) rfl, co_JS_coder, rfl⟩
theorem co_JS_isLatin1 : oCo m_JS_isLatin1 0 := ⟨oT_mem 579 (by decide +kernel) rfl, oT_mem 108 (by decide +kernel) rfl, ⟨by decide +kernel, by decide +kernel, by decide +kernel⟩, by decide⟩
theorem v_JS_492 : oClO "java/lang/String" 492 m_JS_isLatin1 0 := ⟨Or.inl (oT_mem 576 (by decide +kernel) rfl), oT_mem 577 (by decide +kernel) rfl, oT_mem 578 (by decide +kernel) rfl, co_JS_isLatin1, rfl⟩
theorem co_JS_length : oCo m_JS_length 0 := ⟨oT_mem 585 (by decide +kernel) rfl, oT_mem 108 (by decide +kernel) rfl, ⟨by decide +kernel, by decide +kernel, by decide +kernel⟩, by decide⟩
theorem v_JS_505 : oClO "java/lang/String" 505 m_JS_length 0 := ⟨Or.inl (oT_mem 582 (by decide +kernel) rfl), oT_mem 583 (by decide +kernel) rfl, oT_mem 584 (by decide +kernel) rfl, co_JS_length, rfl⟩
theorem co_JS_indexOf2 : oCo m_JS_indexOf2 2 := ⟨oT_mem 575 (by decide +kernel) rfl, oT_mem 108 (by decide +kernel) rfl, ⟨by decide +kernel, by decide +kernel, by decide +kernel⟩, by decide⟩
theorem v_JS_633 : oClO "java/lang/String" 633 m_JS_indexOf2 2 := ⟨Or.inl (oT_mem 572 (by decide +kernel) rfl), oT_mem 573 (by decide +kernel) rfl, oT_mem 574 (by decide +kernel) rfl, co_JS_indexOf2, rfl⟩
theorem co_JL_indexOf : oCo m_JL_indexOf 4 := ⟨oT_mem 592 (by decide +kernel) rfl, oT_mem 109 (by decide +kernel) rfl, ⟨by decide +kernel, by decide +kernel, by decide +kernel⟩, by decide⟩
theorem v_JS_637 : oClS "java/lang/String" 637 m_JL_indexOf 4 := ⟨Or.inl (oT_mem 590 (by decide +kernel) rfl), oT_mem 591 (by decide +kernel) rfl, co_JL_indexOf⟩
theorem q_JL_38 : Cond.methodLink "java/lang/StringLatin1" 38 Lib.Math.min.name ∈ oT := oT_mem 599 (by decide +kernel) rfl
theorem co_JL_canEncode : oCo m_JL_canEncode 1 := ⟨oT_mem 595 (by decide +kernel) rfl, oT_mem 109 (by decide +kernel) rfl, ⟨by decide +kernel, by decide +kernel, by decide +kernel⟩, by decide⟩
theorem v_JL_88 : oClS "java/lang/StringLatin1" 88 m_JL_canEncode 1 := ⟨Or.inl (oT_mem 593 (by decide +kernel) rfl), oT_mem 594 (by decide +kernel) rfl, co_JL_canEncode⟩
theorem q_JL_92 : Cond.methodLink "java/lang/StringLatin1" 92 Lib.Math.max.name ∈ oT := oT_mem 596 (by decide +kernel) rfl
theorem co_JL_indexOfChar : oCo m_JL_indexOfChar 4 := ⟨oT_mem 604 (by decide +kernel) rfl, oT_mem 109 (by decide +kernel) rfl, ⟨by decide +kernel, by decide +kernel, by decide +kernel⟩, by decide⟩
theorem v_JL_95 : oClS "java/lang/StringLatin1" 95 m_JL_indexOfChar 4 := ⟨Or.inl (oT_mem 602 (by decide +kernel) rfl), oT_mem 603 (by decide +kernel) rfl, co_JL_indexOfChar⟩
theorem k_O_241 : Cond.constant "OneCoin" 241 (Int32.ofInt 1000000) ∈ oT := oT_mem 949 (by decide +kernel) rfl
theorem k_O_260 : Cond.constant "OneCoin" 260 (Int32.ofInt (-1000000)) ∈ oT := oT_mem 1003 (by decide +kernel) rfl
theorem k_O_298 : Cond.constant "OneCoin" 298 (Int32.ofInt 65535) ∈ oT := oT_mem 1071 (by decide +kernel) rfl
theorem k_B_56 : Cond.constant "OneCoin$Balance" 56 (Int32.ofInt 1000000) ∈ oT := oT_mem 969 (by decide +kernel) rfl
theorem k_D_71 : Cond.constant "OneCoin$Duchy" 71 (Int32.ofInt 65535) ∈ oT := oT_mem 750 (by decide +kernel) rfl
theorem k_R_63 : Cond.constant "OneCoin$Rows" 63 (Int32.ofInt 1000000) ∈ oT := oT_mem 945 (by decide +kernel) rfl
theorem k_M_192 : Cond.constant "OneCoinModel" 192 (Int32.ofInt 1048576) ∈ oT := oT_mem 1351 (by decide +kernel) rfl
theorem k_M_302 : Cond.constant "OneCoinModel" 302 (Int32.ofInt 65536) ∈ oT := oT_mem 1453 (by decide +kernel) rfl
theorem k_M_412 : Cond.constant "OneCoinModel" 412 (Int32.ofInt 1000000) ∈ oT := oT_mem 1618 (by decide +kernel) rfl
theorem k_M_437 : Cond.constant "OneCoinModel" 437 (Int32.ofInt (-1000000)) ∈ oT := oT_mem 1654 (by decide +kernel) rfl
theorem k_M_456 : Cond.constant "OneCoinModel" 456 (Int32.ofInt 65535) ∈ oT := oT_mem 1718 (by decide +kernel) rfl
theorem k_JI_265 : Cond.constant "java/lang/Integer" 265 (Int32.ofInt 1431655765) ∈ oT := oT_mem 991 (by decide +kernel) rfl
theorem k_JI_266 : Cond.constant "java/lang/Integer" 266 (Int32.ofInt 858993459) ∈ oT := oT_mem 992 (by decide +kernel) rfl
theorem k_JI_267 : Cond.constant "java/lang/Integer" 267 (Int32.ofInt 252645135) ∈ oT := oT_mem 993 (by decide +kernel) rfl
theorem acn : Cond.native arraycopyName ∈ oT ∧ Cond.static arraycopyName ∈ oT ∧ Cond.initialized "java/lang/System" ∈ oT := ⟨oT_mem 684 (by decide +kernel) rfl, oT_mem 683 (by decide +kernel) rfl, oT_mem 114 (by decide +kernel) rfl⟩
theorem mm_max : Cond.static Lib.Math.max.name ∈ oT ∧ Cond.initialized "java/lang/Math" ∈ oT ∧ Cond.code Lib.Math.max.name Lib.Math.max.code 2 (some .int) ∈ oT := ⟨oT_mem 597 (by decide +kernel) rfl, oT_mem 110 (by decide +kernel) rfl, oT_mem 598 (by decide +kernel) rfl⟩
theorem mm_min : Cond.static Lib.Math.min.name ∈ oT ∧ Cond.initialized "java/lang/Math" ∈ oT ∧ Cond.code Lib.Math.min.name Lib.Math.min.code 2 (some .int) ∈ oT := ⟨oT_mem 600 (by decide +kernel) rfl, oT_mem 110 (by decide +kernel) rfl, oT_mem 601 (by decide +kernel) rfl⟩
theorem mm_abs : Cond.static Lib.Math.abs.name ∈ oT ∧ Cond.initialized "java/lang/Math" ∈ oT ∧ Cond.code Lib.Math.abs.name Lib.Math.abs.code 1 (some .int) ∈ oT := ⟨oT_mem 791 (by decide +kernel) rfl, oT_mem 110 (by decide +kernel) rfl, oT_mem 792 (by decide +kernel) rfl⟩
end
section
/-! the JDK's members: Math, the text constant -/
section JDK
variable {l : Launch} {mt : oMI} {E : oE} {k n pc : Nat} {lv st st0 : List oV} {wd : oW} {M : oM} {d : Nat} {K : Int × oM → Prop}
theorem oj_mmax {idx : Nat} {a b : Int} (hlk : Cond.methodLink mt.1.cls idx Lib.Math.max.name ∈ oT) (hm : Cond.static Lib.Math.max.name ∈ oT ∧ Cond.initialized "java/lang/Math" ∈ oT ∧ Cond.code Lib.Math.max.name Lib.Math.max.code 2 (some .int) ∈ oT) (hsl : st.length ≤ 8) (hdep : 1 ≤ E.1) (hk : k ≤ E.2.1) (hn' : n ≤ E.2.2.1) (hd : decode mt.2.1 pc = .ok (.invokestatic idx, 3)) (h : oJ l mt E k n (pc + 3) lv (vi (imax a b) :: st) wd M) : oJ l mt E k n pc lv (vi b :: vi a :: st) wd M := by
  intro p e R s m args below meth c A D cI cB Z n0 ad0 ad H locs ls C hH hl hR hg hn
  have hts := C.2.2.2.2.1
  have ha := hR.2.1.2.1
  have hb := hR.2.1.1
  have hRm := C.2.2.2.2.2.1
  refine va_mmax (rest := st.map (rlv ad)) C.1 C.2.1 (by rw [C.2.2.1, hl.1]) C.2.2.2.1 (hts _ hlk) (hts _ hm.1) (hts _ hm.2.1) (hts _ hm.2.2) (by omega) (by rw [oSt_sum]; omega) (by omega) (by omega) hd ?_
  have e1 : (if Int32.ofInt a < Int32.ofInt b then Int32.ofInt b else Int32.ofInt a) = Int32.ofInt (imax a b) := by
    unfold imax
    by_cases q : a < b
    · rw [if_pos q, if_pos ((oc_lt ha hb).mpr q)]
    · rw [if_neg q, if_neg (fun z => q ((oc_lt ha hb).mp z))]
  have hok : inR (imax a b) := by unfold imax; split; exact hb; exact ha
  rw [e1]
  exact h p e R s m args below meth c A D cI cB Z n0 ad0 ad H locs ls C hH hl ⟨hR.1, ⟨hok, hR.2.1.2.2⟩, hR.2.2⟩ hg hn
theorem oj_mmin {idx : Nat} {a b : Int} (hlk : Cond.methodLink mt.1.cls idx Lib.Math.min.name ∈ oT) (hm : Cond.static Lib.Math.min.name ∈ oT ∧ Cond.initialized "java/lang/Math" ∈ oT ∧ Cond.code Lib.Math.min.name Lib.Math.min.code 2 (some .int) ∈ oT) (hsl : st.length ≤ 8) (hdep : 1 ≤ E.1) (hk : k ≤ E.2.1) (hn' : n ≤ E.2.2.1) (hd : decode mt.2.1 pc = .ok (.invokestatic idx, 3)) (h : oJ l mt E k n (pc + 3) lv (vi (imin a b) :: st) wd M) : oJ l mt E k n pc lv (vi b :: vi a :: st) wd M := by
  intro p e R s m args below meth c A D cI cB Z n0 ad0 ad H locs ls C hH hl hR hg hn
  have hts := C.2.2.2.2.1
  have ha := hR.2.1.2.1
  have hb := hR.2.1.1
  have hRm := C.2.2.2.2.2.1
  refine va_mmin (rest := st.map (rlv ad)) C.1 C.2.1 (by rw [C.2.2.1, hl.1]) C.2.2.2.1 (hts _ hlk) (hts _ hm.1) (hts _ hm.2.1) (hts _ hm.2.2) (by omega) (by rw [oSt_sum]; omega) (by omega) (by omega) hd ?_
  have e1 : (if Int32.ofInt b < Int32.ofInt a then Int32.ofInt b else Int32.ofInt a) = Int32.ofInt (imin a b) := by
    unfold imin
    by_cases q : b < a
    · rw [if_pos q, if_pos ((oc_lt hb ha).mpr q)]
    · rw [if_neg q, if_neg (fun z => q ((oc_lt hb ha).mp z))]
  have hok : inR (imin a b) := by unfold imin; split; exact hb; exact ha
  rw [e1]
  exact h p e R s m args below meth c A D cI cB Z n0 ad0 ad H locs ls C hH hl ⟨hR.1, ⟨hok, hR.2.1.2.2⟩, hR.2.2⟩ hg hn
theorem oj_mabs {idx : Nat} {a : Int} (hlk : Cond.methodLink mt.1.cls idx Lib.Math.abs.name ∈ oT) (hm : Cond.static Lib.Math.abs.name ∈ oT ∧ Cond.initialized "java/lang/Math" ∈ oT ∧ Cond.code Lib.Math.abs.name Lib.Math.abs.code 1 (some .int) ∈ oT) (hsl : st.length ≤ 8) (hdep : 1 ≤ E.1) (hk : k ≤ E.2.1) (hn' : n ≤ E.2.2.1) (hd : decode mt.2.1 pc = .ok (.invokestatic idx, 3)) (h : oJ l mt E k n (pc + 3) lv (vi (iabs a) :: st) wd M) : oJ l mt E k n pc lv (vi a :: st) wd M := by
  intro p e R s m args below meth c A D cI cB Z n0 ad0 ad H locs ls C hH hl hR hg hn
  have hts := C.2.2.2.2.1
  have ha := hR.2.1.1
  have hRm := C.2.2.2.2.2.1
  refine va_mabs (rest := st.map (rlv ad)) C.1 C.2.1 (by rw [C.2.2.1, hl.1]) C.2.2.2.1 (hts _ hlk) (hts _ hm.1) (hts _ hm.2.1) (hts _ hm.2.2) (by omega) (by rw [oSt_sum]; omega) (by omega) (by omega) hd ?_
  have e1 : (if 0 ≤ Int32.ofInt a then Int32.ofInt a else 0 - Int32.ofInt a) = Int32.ofInt (iabs a) := by
    unfold iabs
    rw [oc_zero]
    by_cases q : 0 ≤ a
    · rw [if_pos q, if_pos ((oc_le inR_0 ha).mpr q)]
    · rw [if_neg q, if_neg (fun z => q ((oc_le inR_0 ha).mp z)), oc_sub]
  have hok : inR (iabs a) := by unfold iabs; split; exact ha; exact inR_w32 _
  rw [e1]
  exact h p e R s m args below meth c A D cI cB Z n0 ad0 ad H locs ls C hH hl ⟨hR.1, ⟨hok, hR.2.1.2⟩, hR.2.2⟩ hg hn
theorem of_VOi {y : oMI} {d' np idx : Nat} {as : List oV} {K' : Int × oM → Prop} {ty : FieldType} (hv : oClO mt.1.cls idx y np) (hst : st0 = as.reverse ++ vr 1000 :: st) (has : as.length = np) (hsl : st.length ≤ 8) (hd : decode mt.2.1 pc = .ok (.invokevirtual idx, 3)) (hdep : d' + 1 ≤ d) (hty : y.2.2.2 = some ty) (hK : oKf l y d' (vr 1000 :: as) M K') (h : ∀ r M', K' (r, M') → oJ l mt (oEf d K) 0 0 (pc + 3) lv (vi r :: st) WD M') : oJ l mt (oEf d K) 0 0 pc lv st0 WD M := by
  obtain ⟨hlk, hin, hse, hc, hcls⟩ := hv
  subst hst
  have hos : ∀ len, oks len (as.reverse ++ vr 1000 :: st) → oks len st := fun len h => (oks_app2 h).2
  have hoa : ∀ len, oks len (as.reverse ++ vr 1000 :: st) → oks len (vr 1000 :: as) := fun len h => ⟨(oks_app2 h).1, oks_rev (oks_app1 h)⟩
  refine oj_runi (mc' := 0) (ms' := 0) (Qc := oQ K') hos (fun p e R s m args below meth c A D cI cB Z n0 ad0 ad H locs ls C hH hl hR hg => ⟨(Value.ref (ad 1000) :: as.map (rlv ad)).toArray, ?_⟩) (fun r wd' M' q => by obtain ⟨rfl, q⟩ := q; exact h r M' q)
  have hM := (hK D cI cB ad H.size ⟨trivial, hoa _ hR.2.1, hR.2.2⟩).2 ty hty
  have hts := C.2.2.2.2.1
  have hO := oOut_ag hg C.2.2.2.2.2.2.2.2.1
  have hpv : PreV s H y.1.cls (ad 1000) (va_Pc ((vr 1000 :: as).map (rlv ad)) (oPre D cI cB WD M ad H.size)) (as.map (rlv ad)) :=
    ⟨oPre_blind, by have h9 := vk_recv hO.1 (i := 0) (by decide) hH.2.2; rw [hcls]; exact h9, fun U hU hW => ⟨rfl, oPre_of hU hW hH C.2.2.2.2.2.2.1 C.2.2.2.2.2.2.2.1 hO⟩⟩
  have hsk : (F0 m pc ls ((as.reverse ++ vr 1000 :: st).map (rlv ad))).stack = (as.map (rlv ad)).reverse ++ .ref (ad 1000) :: st.map (rlv ad) := by
    show (as.reverse ++ vr 1000 :: st).map (rlv ad) = _
    rw [List.map_append, List.map_reverse]; rfl
  have hW8 : 2 * (F0 m pc ls ((as.reverse ++ vr 1000 :: st).map (rlv ad))).monitorRoom + ((st.map (rlv ad)).map fun v => v.category).sum ≤ 8 := by
    rw [oSt_sum]; show 2 * 0 + _ ≤ 8; omega
  have hRm := C.2.2.2.2.2.1
  rcases hlk with hlk | ⟨host, hlk⟩
  · exact va_runV (As := as.map (rlv ad)) ⟨C.1, C.2.1, C.2.2.1, C.2.2.2.1, hts⟩ hM ⟨callB_of np hts (oWs_good hc) rfl rfl rfl (hts _ hc.2.1) (hts _ hlk) hc.2.2.1 (oRm_fits ⟨hRm.1, hRm.2.1⟩ hdep hc.2.2.2), hts _ hin, hts _ hse⟩ hpv rfl (by rw [List.length_map, has]) hl.1 hsk hW8 hd ⟨Nat.zero_le _, Nat.zero_le _⟩
  · exact va_runVN (As := as.map (rlv ad)) ⟨C.1, C.2.1, C.2.2.1, C.2.2.2.1, hts⟩ hM ⟨va_cnB np hts (oWs_good hc) rfl rfl rfl (C.2.2.2.2.2.2.2.2.1.2.2.2 _ hlk) (hts _ hc.2.1) hc.2.2.1 (oRm_fits ⟨hRm.1, hRm.2.1⟩ hdep hc.2.2.2), hts _ hin, hts _ hse⟩ hpv rfl (by rw [List.length_map, has]) hl.1 hsk hW8 hd ⟨Nat.zero_le _, Nat.zero_le _⟩
theorem oj_ldcS (hmt : mt.1.cls = "OneCoin$LawReader") (hd : decode mt.2.1 pc = .ok (.ldc 90, 2)) (h : oJ l mt E k n (pc + 2) lv (vr 1000 :: st) wd M) : oJ l mt E k n pc lv st wd M := by
  intro p e R s m args below meth c A D cI cB Z n0 ad0 ad H locs ls C hH hl hR hg hn
  have hO := oOut_ag hg C.2.2.2.2.2.2.2.2.1
  exact va_ldcS C.1 C.2.1 (by have := C.2.2.2.1; rw [hmt] at this; exact this) hO.2.1 hd (h p e R s m args below meth c A D cI cB Z n0 ad0 ad H locs ls C hH hl ⟨hR.1, ⟨Or.inr (Nat.le_refl _), hR.2.1⟩, hR.2.2⟩ hg hn)
theorem oj_getOi {idx : Nat} (hlk : Cond.fieldLink mt.1.cls idx "java/lang/String" "coder" "B" ∈ oT) (hd : decode mt.2.1 pc = .ok (.getfield idx, 3)) (h : oJ l mt E k n (pc + 3) lv (vi 0 :: st) wd M) : oJ l mt E k n pc lv (vr 1000 :: st) wd M := by
  intro p e R s m args below meth c A D cI cB Z n0 ad0 ad H locs ls C hH hl hR hg hn
  have hO := oOut_ag hg C.2.2.2.2.2.2.2.2.1
  exact vk_getf C.1 C.2.1 (hO.1.1 0 (by decide)).2.1 hH.2.2 C.2.2.2.1 (C.2.2.2.2.1 _ hlk) (fun _ hx => hx) hd (h p e R s m args below meth c A D cI cB Z n0 ad0 ad H locs ls C hH hl ⟨hR.1, ⟨inR_0, hR.2.1.2⟩, hR.2.2⟩ hg hn)
theorem oj_getOr {idx : Nat} (hlk : Cond.fieldLink mt.1.cls idx "java/lang/String" "value" "[B" ∈ oT) (hd : decode mt.2.1 pc = .ok (.getfield idx, 3)) (h : oJ l mt E k n (pc + 3) lv (vr 1001 :: st) wd M) : oJ l mt E k n pc lv (vr 1000 :: st) wd M := by
  intro p e R s m args below meth c A D cI cB Z n0 ad0 ad H locs ls C hH hl hR hg hn
  have hO := oOut_ag hg C.2.2.2.2.2.2.2.2.1
  exact vk_getf C.1 C.2.1 (hO.1.1 0 (by decide)).2.2.1 hH.2.2 C.2.2.2.1 (C.2.2.2.2.1 _ hlk) (fun _ hx => hx) hd (h p e R s m args below meth c A D cI cB Z n0 ad0 ad H locs ls C hH hl ⟨hR.1, ⟨Or.inr (by decide), hR.2.1.2⟩, hR.2.2⟩ hg hn)
theorem oj_getS {idx : Nat} (hlk : Cond.fieldLink mt.1.cls idx "java/lang/String" "COMPACT_STRINGS" "Z" ∈ oT) (hd : decode mt.2.1 pc = .ok (.getstatic idx, 3)) (h : oJ l mt E k n (pc + 3) lv (vi 1 :: st) wd M) : oJ l mt E k n pc lv st wd M := by
  intro p e R s m args below meth c A D cI cB Z n0 ad0 ad H locs ls C hH hl hR hg hn
  have hO := oOut_ag hg C.2.2.2.2.2.2.2.2.1
  exact va_gets C.1 C.2.1 hO.2.2.1 hH.2.2 C.2.2.2.1 (C.2.2.2.2.1 _ hlk) (fun _ hx => hx) hd (h p e R s m args below meth c A D cI cB Z n0 ad0 ad H locs ls C hH hl ⟨hR.1, ⟨⟨by decide, by decide⟩, hR.2.1⟩, hR.2.2⟩ hg hn)
theorem oj_baldO {a : Int} (h0 : 0 ≤ a) (h1 : a < 8) (hd : decode mt.2.1 pc = .ok (.baload, 1)) (h : oJ l mt E k n (pc + 1) lv (vi (tx8 a) :: st) wd M) : oJ l mt E k n pc lv (vi a :: vr 1001 :: st) wd M := by
  intro p e R s m args below meth c A D cI cB Z n0 ad0 ad H locs ls C hH hl hR hg hn
  have hO := oOut_ag hg C.2.2.2.2.2.2.2.2.1
  have ha := hR.2.1.1
  have hT := (hO.1.1 0 (by decide)).2.2.2
  refine va_tb C.1 C.2.1 hT hH.2.2 (oc_in h0 h1 ha) (v := .int (Int32.ofInt (tx8 a))) ?_ hd (h p e R s m args below meth c A D cI cB Z n0 ad0 ad H locs ls C hH hl ⟨hR.1, ⟨?_, hR.2.1.2.2⟩, hR.2.2⟩ hg hn)
  · rw [oc_clamp h0 ha]
    rcases (show a = 0 ∨ a = 1 ∨ a = 2 ∨ a = 3 ∨ a = 4 ∨ a = 5 ∨ a = 6 ∨ a = 7 by omega) with rfl | rfl | rfl | rfl | rfl | rfl | rfl | rfl <;> rfl
  · rcases (show a = 0 ∨ a = 1 ∨ a = 2 ∨ a = 3 ∨ a = 4 ∨ a = 5 ∨ a = 6 ∨ a = 7 by omega) with rfl | rfl | rfl | rfl | rfl | rfl | rfl | rfl <;> exact ⟨by decide, by decide⟩
theorem oj_baldO' {α : Type} {K' : α → Prop} {f : Int → Option α} {a : Int} (hd : decode mt.2.1 pc = .ok (.baload, 1)) (hK : okp (bnd 8 a f) K') (h : okp (f a) K' → oJ l mt E k n (pc + 1) lv (vi (tx8 a) :: st) wd M) : oJ l mt E k n pc lv (vi a :: vr 1001 :: st) wd M := by
  obtain ⟨h0, h1, hK⟩ := okp_bnd hK
  exact oj_baldO h0 h1 hd (h hK)
theorem oj_alenO (hd : decode mt.2.1 pc = .ok (.arraylength, 1)) (h : oJ l mt E k n (pc + 1) lv (vi 8 :: st) wd M) : oJ l mt E k n pc lv (vr 1001 :: st) wd M := by
  intro p e R s m args below meth c A D cI cB Z n0 ad0 ad H locs ls C hH hl hR hg hn
  have hO := oOut_ag hg C.2.2.2.2.2.2.2.2.1
  have hT := (hO.1.1 0 (by decide)).2.2.2
  exact va_tlen C.1 C.2.1 hT hH.2.2 (v := Int32.ofInt 8) rfl hd (h p e R s m args below meth c A D cI cB Z n0 ad0 ad H locs ls C hH hl ⟨hR.1, ⟨⟨by decide, by decide⟩, hR.2.1.2⟩, hR.2.2⟩ hg hn)
end JDK
end
section
/-! the class's methods as functions (by program out of the bytecode) -/
noncomputable section
def p_O_isOne (f : Nat) (l0 : Int) (M : oM) : Option (Int × oM) :=
  if l0 < 0 then (some (0, M))
  else (if l0 < 10 then (some (1, M))
  else (some (0, M)))
def p_P_settle (f : Nat) (l1 : Int) (l2 : Int) (l3 : Int) (M : oM) : Option (Int × oM) :=
  bnd 10 l1 fun i1 =>
  lt (oU M 4 i1 l2) fun M2 =>
  bnd 10 l1 fun i3 =>
  lt (oU M2 5 i3 l3) fun M4 =>
  lt (oU M4 3 2 (ior (M4 3 2) (ishl 1 l1))) fun M5 =>
  some (0, M5)
def p_O_person (f : Nat) (l1 : Int) (l2 : Int) (l3 : Int) (M : oM) : Option (Int × oM) :=
  (p_O_isOne f l1 M).bind fun q1 =>
  if q1.1 = 0 then (some (0, q1.2))
  else (if l2 < 0 then (some (0, q1.2))
  else (if l2 < 10 then (if l3 < 0 then (some (0, q1.2))
  else (if l3 < 10 then ((p_P_settle f l1 l2 l3 q1.2).bind fun q2 =>
  some (1, q2.2))
  else (some (0, q1.2))))
  else (some (0, q1.2))))
def p_P_has (f : Nat) (l1 : Int) (M : oM) : Option (Int × oM) :=
  (p_O_isOne f l1 M).bind fun q1 =>
  if q1.1 = 0 then (some (0, q1.2))
  else (if iand (ishr (q1.2 3 2) l1) 1 = 1 then (some (1, q1.2))
  else (some (0, q1.2)))
def p_P_hasBoth (f : Nat) (l1 : Int) (l2 : Int) (M : oM) : Option (Int × oM) :=
  if l1 = l2 then (some (0, M))
  else ((p_P_has f l1 M).bind fun q1 =>
  if q1.1 = 0 then (some (0, q1.2))
  else ((p_P_has f l2 q1.2).bind fun q2 =>
  if q2.1 = 0 then (some (0, q2.2))
  else (some (1, q2.2))))
def p_O_debt (f : Nat) (l1 : Int) (l2 : Int) (l3 : Int) (M : oM) : Option (Int × oM) :=
  (p_P_hasBoth f l1 l2 M).bind fun q1 =>
  if q1.1 = 0 then (some (0, q1.2))
  else (if l3 < 0 then (some (0, q1.2))
  else (if 99 < l3 then (some (0, q1.2))
  else (bnd 100 (w32 ((w32 (l1 * 10)) + l2)) fun i2 =>
  lt (oU q1.2 7 i2 l3) fun M3 =>
  some (1, M3))))
def p_D_giveTo (f : Nat) (o0 : Nat) (l1 : Int) (M : oM) : Option (Int × oM) :=
  lt (oU M o0 4 l1) fun M1 =>
  lt (oU M1 o0 5 (-1)) fun M2 =>
  lt (oU M2 o0 6 (-1)) fun M3 =>
  lt (oU M3 o0 7 0) fun M4 =>
  some (0, M4)
def p_O_coin (f : Nat) (l1 : Int) (M : oM) : Option (Int × oM) :=
  (p_P_has f l1 M).bind fun q1 =>
  if q1.1 = 0 then (some (0, q1.2))
  else ((p_D_giveTo f 6 l1 q1.2).bind fun q2 =>
  some (1, q2.2))
def p_T_add_L3 (f : Nat) (l1 : Int) : Int × oM → Option ((Int × oM) ⊕ (Int × oM))
  | (l2, M) =>
  if l2 < 0 then (some (.inr (0, M)))
  else (if M 1 1 < 260 then (bnd 260 (M 1 1) fun i1 =>
  lt (oU M 2 i1 (iand (iushr l1 l2) 255)) fun M2 =>
  lt (oU M2 1 1 (w32 ((M2 1 1) + 1))) fun M3 =>
  lt (w32 (l2 + (-8))) fun x4 =>
  some (.inl (x4, M3)))
  else (some (.inr (0, M))))
def p_T_add (f : Nat) (l1 : Int) (M : oM) : Option (Int × oM) :=
  iter (p_T_add_L3 f l1) f (24, M)
def p_T_size (f : Nat) (M : oM) : Option (Int × oM) :=
  some (M 1 1, M)
def p_O_feed (f : Nat) (l1 : Int) (l2 : Int) (l3 : Int) (l4 : Int) (l5 : Int) (M : oM) : Option (Int × oM) :=
  (p_T_size f  M).bind fun q1 =>
  if 260 < w32 (q1.1 + 20) then (some ((-1), q1.2))
  else ((p_T_add f l1 q1.2).bind fun q2 =>
  (p_T_add f l2 q2.2).bind fun q3 =>
  (p_T_add f l3 q3.2).bind fun q4 =>
  (p_T_add f l4 q4.2).bind fun q5 =>
  (p_T_add f l5 q5.2).bind fun q6 =>
  (p_T_size f  q6.2).bind fun q7 =>
  some (q7.1, q7.2))
def p_L_takeFrom (f : Nat) (M : oM) : Option (Int × oM) :=
  cpg 240 240 0 0 240 fun _ =>
  lt (acopy M 28 0 19 0 240) fun M1 =>
  cpg 240 240 0 0 240 fun _ =>
  lt (acopy M1 29 0 20 0 240) fun M2 =>
  cpg 16 16 0 0 16 fun _ =>
  lt (acopy M2 30 0 21 0 16) fun M3 =>
  cpg 16 16 0 0 16 fun _ =>
  lt (acopy M3 31 0 22 0 16) fun M4 =>
  cpg 16 16 0 0 16 fun _ =>
  lt (acopy M4 32 0 23 0 16) fun M5 =>
  cpg 16 16 0 0 16 fun _ =>
  lt (acopy M5 33 0 24 0 16) fun M6 =>
  lt (oU M6 18 9 (M6 27 9)) fun M7 =>
  lt (oU M7 18 10 (M7 27 10)) fun M8 =>
  some (0, M8)
def p_L_landHere (f : Nat) (l1 : Int) (M : oM) : Option (Int × oM) :=
  if l1 < 0 then (some (0, M))
  else (if l1 < M 27 9 then (bnd 240 l1 fun i1 =>
  lt (oU M 29 i1 (M 27 9)) fun M2 =>
  some (0, M2))
  else (some (0, M)))
def p_L_put (f : Nat) (l1 : Int) (l2 : Int) (M : oM) : Option (Int × oM) :=
  if M 27 9 < 240 then (bnd 240 (M 27 9) fun i1 =>
  lt (oU M 28 i1 l1) fun M2 =>
  bnd 240 (M2 27 9) fun i3 =>
  lt (oU M2 29 i3 l2) fun M4 =>
  lt (oU M4 27 9 (w32 ((M4 27 9) + 1))) fun M5 =>
  some (w32 ((M5 27 9) - 1), M5))
  else (some ((-1), M))
def p_T_faultAt (f : Nat) (l1 : Int) (l2 : Int) (M : oM) : Option (Int × oM) :=
  some (w32 ((w32 ((-1000) * l1)) - l2), M)
def p_T_fault (f : Nat) (l1 : Int) (M : oM) : Option (Int × oM) :=
  (p_T_faultAt f l1 (M 1 3) M).bind fun q1 =>
  some (q1.1, q1.2)
def p_T_next (f : Nat) (M : oM) : Option (Int × oM) :=
  some (M 1 4, M)
def p_T_nextIsDigit (f : Nat) (M : oM) : Option (Int × oM) :=
  if M 1 4 < 48 then (some (0, M))
  else (if 57 < M 1 4 then (some (0, M))
  else (some (1, M)))
def p_T_step (f : Nat) (M : oM) : Option (Int × oM) :=
  lt (oU M 1 3 (w32 ((M 1 3) + 1))) fun M1 =>
  if M1 1 3 < 0 then (lt (oU M1 1 4 (-1)) fun M2 =>
  some (0, M2))
  else (if M1 1 3 < M1 1 2 then (if M1 1 3 < 260 then (bnd 260 (M1 1 3) fun i5 =>
  lt (oU M1 1 4 (M1 2 i5)) fun M6 =>
  some (0, M6))
  else (lt (oU M1 1 4 (-1)) fun M4 =>
  some (0, M4)))
  else (lt (oU M1 1 4 (-1)) fun M3 =>
  some (0, M3)))
def p_LR_readDigits_B48_4 (f : Nat) (l1 : Int) (M : oM) : Option ((Int × Int × oM) ⊕ (Int × oM)) :=
  (p_T_nextIsDigit f  M).bind fun q1 =>
  if q1.1 = 0 then ((p_L_put f 48 l1 q1.2).bind fun q2 =>
  some (.inr (0, q2.2)))
  else ((p_T_fault f 2 q1.2).bind fun q3 =>
  some (.inr (q3.1, q3.2)))
def p_LR_readDigits_L4 (f : Nat) : Int × Int × oM → Option ((Int × Int × oM) ⊕ (Int × oM))
  | (l1, l2, M) =>
  if l2 < 5 then ((p_T_nextIsDigit f  M).bind fun q4 =>
  if q4.1 = 0 then (p_LR_readDigits_B48_4 f l1 q4.2)
  else ((p_T_next f  q4.2).bind fun q5 =>
  lt (w32 ((w32 ((w32 (l1 * 10)) + q5.1)) - 48)) fun x6 =>
  (p_T_step f  q5.2).bind fun q7 =>
  lt (w32 (l2 + 1)) fun x8 =>
  some (.inl (x6, x8, q7.2))))
  else (p_LR_readDigits_B48_4 f l1 M)
def p_LR_readDigits (f : Nat) (M : oM) : Option (Int × oM) :=
  iter (p_LR_readDigits_L4 f) f (0, 0, M)
def p_JS_isLatin1 (f : Nat) (M : oM) : Option (Int × oM) :=
  if (1 : Int) = 0 then (some (0, M))
  else (if (0 : Int) = 0 then (some (1, M))
  else (some (0, M)))
def p_JS_coder (f : Nat) (M : oM) : Option (Int × oM) :=
  if (1 : Int) = 0 then (some (1, M))
  else (some (0, M))
def p_JS_length (f : Nat) (M : oM) : Option (Int × oM) :=
  (p_JS_coder f  M).bind fun q1 =>
  some (ishr 8 q1.1, q1.2)
def p_JL_canEncode (f : Nat) (l0 : Int) (M : oM) : Option (Int × oM) :=
  if l0 < 0 then (some (0, M))
  else (if 255 < l0 then (some (0, M))
  else (some (1, M)))
def p_JL_indexOfChar_L7 (f : Nat) (l3 : Int) (l4 : Int) : Int × oM → Option ((Int × oM) ⊕ (Int × oM))
  | (l5, M) =>
  if l5 < l3 then (bnd 8 l5 fun i1 =>
  if tx8 i1 = l4 then (some (.inr (l5, M)))
  else (lt (w32 (l5 + 1)) fun x2 =>
  some (.inl (x2, M))))
  else (some (.inr ((-1), M)))
def p_JL_indexOfChar (f : Nat) (l1 : Int) (l2 : Int) (l3 : Int) (M : oM) : Option (Int × oM) :=
  lt (i2b l1) fun x3 =>
  iter (p_JL_indexOfChar_L7 f l3 x3) f (l2, M)
def p_JL_indexOf (f : Nat) (l1 : Int) (l2 : Int) (l3 : Int) (M : oM) : Option (Int × oM) :=
  (p_JL_canEncode f l1 M).bind fun q1 =>
  if q1.1 = 0 then (some ((-1), q1.2))
  else (lt (imax l2 0) fun x2 =>
  lt (imin l3 8) fun x3 =>
  if x2 < x3 then ((p_JL_indexOfChar f l1 x2 x3 q1.2).bind fun q4 =>
  some (q4.1, q4.2))
  else (some ((-1), q1.2)))
def p_JS_indexOf2 (f : Nat) (l1 : Int) (l2 : Int) (M : oM) : Option (Int × oM) :=
  (p_JS_isLatin1 f  M).bind fun q1 =>
  if q1.1 = 0 then (none)
  else ((p_JS_length f  q1.2).bind fun q2 =>
  (p_JL_indexOf f l1 l2 q2.1 q2.2).bind fun q3 =>
  some (q3.1, q3.2))
def p_JS_indexOf (f : Nat) (l1 : Int) (M : oM) : Option (Int × oM) :=
  (p_JS_indexOf2 f l1 0 M).bind fun q1 =>
  some (q1.1, q1.2)
def p_LR_readFactor_B111 (f : Nat) (rec : Int → oM → Option (Int × oM)) (s0 : Int) (M : oM) : Option (Int × oM) :=
  if s0 < 0 then ((p_T_fault f 1 M).bind fun q3 =>
  some (q3.1, q3.2))
  else ((p_L_put f 97 s0 M).bind fun q1 =>
  (p_T_step f  q1.2).bind fun q2 =>
  some (0, q2.2))
def p_LR_readFactor_F (f : Nat) (rec : Int → oM → Option (Int × oM)) (l1 : Int) (M : oM) : Option (Int × oM) :=
  (p_T_next f  M).bind fun q4 =>
  if q4.1 = 91 then (if l1 < 6 then ((p_T_step f  q4.2).bind fun q8 =>
  (rec (w32 (l1 + 1)) q8.2).bind fun q9 =>
  if q9.1 = 0 then ((p_T_next f  q9.2).bind fun q10 =>
  if q10.1 = 93 then ((p_T_step f  q10.2).bind fun q11 =>
  some (0, q11.2))
  else ((p_T_fault f 1 q10.2).bind fun q12 =>
  some (q12.1, q12.2)))
  else (some (q9.1, q9.2)))
  else ((p_T_fault f 5 q4.2).bind fun q13 =>
  some (q13.1, q13.2)))
  else ((p_T_nextIsDigit f  q4.2).bind fun q5 =>
  if q5.1 = 0 then (if q4.1 = (-1) then (p_LR_readFactor_B111 f rec (-1) q5.2)
  else ((p_JS_indexOf f (i2c q4.1) q5.2).bind fun q6 =>
  p_LR_readFactor_B111 f rec q6.1 q6.2))
  else ((p_LR_readDigits f  q5.2).bind fun q7 =>
  some (q7.1, q7.2)))
def p_LR_readNumber_B117_7 (f : Nat) (rec : Int → oM → Option (Int × oM)) (l1 : Int) (l2 : Int) (l3 : Int) (l4 : Int) (M : oM) : Option ((Int × Int × Int × oM) ⊕ (Int × oM)) :=
  (p_T_step f  M).bind fun q1 =>
  lt (w32 (l4 + 1)) fun x2 =>
  some (.inl (l2, l3, x2, q1.2))
def p_LR_readNumber_B77_7 (f : Nat) (rec : Int → oM → Option (Int × oM)) (l1 : Int) (l3 : Int) (l4 : Int) (l6 : Int) (M : oM) : Option ((Int × Int × Int × oM) ⊕ (Int × oM)) :=
  p_LR_readNumber_B117_7 f rec l1 l6 l3 l4 M
def p_LR_readNumber_B114_7 (f : Nat) (rec : Int → oM → Option (Int × oM)) (l1 : Int) (l2 : Int) (l4 : Int) (l6 : Int) (M : oM) : Option ((Int × Int × Int × oM) ⊕ (Int × oM)) :=
  p_LR_readNumber_B117_7 f rec l1 l2 l6 l4 M
def p_LR_readNumber_B98_7 (f : Nat) (rec : Int → oM → Option (Int × oM)) (l1 : Int) (l2 : Int) (l4 : Int) (l6 : Int) (M : oM) : Option ((Int × Int × Int × oM) ⊕ (Int × oM)) :=
  if l6 = 43 then (p_LR_readNumber_B114_7 f rec l1 l2 l4 l6 M)
  else (if l6 = 45 then (p_LR_readNumber_B114_7 f rec l1 l2 l4 l6 M)
  else (some (.inr (0, M))))
def p_LR_readNumber_B47_7 (f : Nat) (rec : Int → oM → Option (Int × oM)) (l1 : Int) (l2 : Int) (l3 : Int) (l4 : Int) (M : oM) : Option ((Int × Int × Int × oM) ⊕ (Int × oM)) :=
  (p_T_next f  M).bind fun q3 =>
  if q3.1 = 42 then (p_LR_readNumber_B77_7 f rec l1 l3 l4 q3.1 q3.2)
  else (if q3.1 = 47 then (p_LR_readNumber_B77_7 f rec l1 l3 l4 q3.1 q3.2)
  else (if q3.1 = 37 then (p_LR_readNumber_B77_7 f rec l1 l3 l4 q3.1 q3.2)
  else (if l3 = (-1) then (p_LR_readNumber_B98_7 f rec l1 l2 l4 q3.1 q3.2)
  else ((p_L_put f l3 0 q3.2).bind fun q4 =>
  p_LR_readNumber_B98_7 f rec l1 l2 l4 q3.1 q4.2))))
def p_LR_readNumber_L7 (f : Nat) (rec : Int → oM → Option (Int × oM)) (l1 : Int) : Int × Int × Int × oM → Option ((Int × Int × Int × oM) ⊕ (Int × oM))
  | (l2, l3, l4, M) =>
  if l4 < 240 then ((p_LR_readFactor_F f rec l1 M).bind fun q6 =>
  if q6.1 = 0 then (if l2 = (-1) then (p_LR_readNumber_B47_7 f rec l1 l2 l3 l4 q6.2)
  else ((p_L_put f l2 0 q6.2).bind fun q7 =>
  p_LR_readNumber_B47_7 f rec l1 (-1) l3 l4 q7.2))
  else (some (.inr (q6.1, q6.2))))
  else ((p_T_fault f 1 M).bind fun q5 =>
  some (.inr (q5.1, q5.2)))
def p_LR_readNumber_F (f : Nat) (rec : Int → oM → Option (Int × oM)) (l1 : Int) (M : oM) : Option (Int × oM) :=
  iter (p_LR_readNumber_L7 f rec l1) f ((-1), (-1), 0, M)
def p_LR_readNumber (f : Nat) : Nat → Int → oM → Option (Int × oM)
  | 0, _, _ => none
  | n + 1, l1, M => p_LR_readNumber_F f (p_LR_readNumber f n) l1 M
def p_LR_readPlainTest_B89 (f : Nat) (rec : Int → oM → Option (Int × oM)) (l1 : Int) (l3 : Int) (M : oM) : Option (Int × oM) :=
  (p_T_step f  M).bind fun q1 =>
  (p_LR_readNumber f 9 l1 q1.2).bind fun q2 =>
  (p_L_put f l3 0 q2.2).bind fun q3 =>
  some (q2.1, q3.2)
def p_LR_readPlainTest_F (f : Nat) (rec : Int → oM → Option (Int × oM)) (l1 : Int) (M : oM) : Option (Int × oM) :=
  (p_T_next f  M).bind fun q4 =>
  if q4.1 = 40 then (if l1 < 6 then ((p_T_step f  q4.2).bind fun q8 =>
  (rec (w32 (l1 + 1)) q8.2).bind fun q9 =>
  some (q9.1, q9.2))
  else ((p_T_fault f 5 q4.2).bind fun q10 =>
  some (q10.1, q10.2)))
  else ((p_LR_readNumber f 9 l1 q4.2).bind fun q5 =>
  if q5.1 = 0 then ((p_T_next f  q5.2).bind fun q6 =>
  if q6.1 = 60 then (p_LR_readPlainTest_B89 f rec l1 q6.1 q6.2)
  else (if q6.1 = 62 then (p_LR_readPlainTest_B89 f rec l1 q6.1 q6.2)
  else (if q6.1 = 61 then (p_LR_readPlainTest_B89 f rec l1 q6.1 q6.2)
  else ((p_T_fault f 1 q6.2).bind fun q7 =>
  some (q7.1, q7.2)))))
  else (some (q5.1, q5.2)))
def p_LR_readTest_L67 (f : Nat) (rec : Int → oM → Option (Int × oM)) (l2 : Int) (l3 : Int) : Int × oM → Option ((Int × oM) ⊕ (Int × oM))
  | (l4, M) =>
  if l4 < l2 then ((p_L_put f 33 0 M).bind fun q1 =>
  lt (w32 (l4 + 1)) fun x2 =>
  some (.inl (x2, q1.2)))
  else (some (.inr (l3, M)))
def p_LR_readTest_X4 (f : Nat) (rec : Int → oM → Option (Int × oM)) (l1 : Int) : (Int × oM) ⊕ (Int × oM) → Option (Int × oM)
  | .inl q => some q
  | .inr (l2, M) =>
  (p_LR_readPlainTest_F f rec (w32 (l1 + l2)) M).bind fun q3 =>
  iter (p_LR_readTest_L67 f rec l2 q3.1) f (0, q3.2)
def p_LR_readTest_L4 (f : Nat) (rec : Int → oM → Option (Int × oM)) (l1 : Int) : Int × Int × oM → Option ((Int × Int × oM) ⊕ ((Int × oM) ⊕ (Int × oM)))
  | (l2, l3, M) =>
  if l3 < 240 then ((p_T_next f  M).bind fun q4 =>
  if q4.1 = 33 then (if w32 (l1 + l2) < 6 then (lt (w32 (l2 + 1)) fun x5 =>
  (p_T_step f  q4.2).bind fun q6 =>
  lt (w32 (l3 + 1)) fun x7 =>
  some (.inl (x5, x7, q6.2)))
  else ((p_T_fault f 5 q4.2).bind fun q8 =>
  some (.inr (.inl (q8.1, q8.2)))))
  else (some (.inr (.inr (l2, q4.2)))))
  else (some (.inr (.inr (l2, M))))
def p_LR_readTest_F (f : Nat) (rec : Int → oM → Option (Int × oM)) (l1 : Int) (M : oM) : Option (Int × oM) :=
  (iter (p_LR_readTest_L4 f rec l1) f (0, 0, M)).bind (p_LR_readTest_X4 f rec l1)
def p_LR_readCondition_B147_7 (f : Nat) (rec : Int → oM → Option (Int × oM)) (l1 : Int) (l2 : Int) (l3 : Int) (l4 : Int) (M : oM) : Option ((Int × Int × Int × oM) ⊕ (Int × oM)) :=
  lt (w32 (l4 + 1)) fun x1 =>
  some (.inl (l2, l3, x1, M))
def p_LR_readCondition_B69_7 (f : Nat) (rec : Int → oM → Option (Int × oM)) (l1 : Int) (l2 : Int) (l3 : Int) (l4 : Int) (l6 : Int) (M : oM) : Option ((Int × Int × Int × oM) ⊕ (Int × oM)) :=
  (p_T_step f  M).bind fun q2 =>
  (p_L_landHere f l2 q2.2).bind fun q3 =>
  if l6 = 38 then ((p_L_put f 38 (q3.2 27 9) q3.2).bind fun q6 =>
  p_LR_readCondition_B147_7 f rec l1 q6.1 l3 l4 q6.2)
  else ((p_L_landHere f l3 q3.2).bind fun q4 =>
  if l6 = 41 then (some (.inr (0, q4.2)))
  else ((p_L_put f 124 (q4.2 27 9) q4.2).bind fun q5 =>
  p_LR_readCondition_B147_7 f rec l1 (-1) q5.1 l4 q5.2))
def p_LR_readCondition_L7 (f : Nat) (rec : Int → oM → Option (Int × oM)) (l1 : Int) : Int × Int × Int × oM → Option ((Int × Int × Int × oM) ⊕ (Int × oM))
  | (l2, l3, l4, M) =>
  if l4 < 240 then ((p_LR_readTest_F f rec l1 M).bind fun q8 =>
  if q8.1 = 0 then ((p_T_next f  q8.2).bind fun q9 =>
  if q9.1 = 38 then (p_LR_readCondition_B69_7 f rec l1 l2 l3 l4 q9.1 q9.2)
  else (if q9.1 = 124 then (p_LR_readCondition_B69_7 f rec l1 l2 l3 l4 q9.1 q9.2)
  else (if q9.1 = 41 then (p_LR_readCondition_B69_7 f rec l1 l2 l3 l4 q9.1 q9.2)
  else ((p_T_fault f 1 q9.2).bind fun q10 =>
  some (.inr (q10.1, q10.2))))))
  else (some (.inr (q8.1, q8.2))))
  else ((p_T_fault f 1 M).bind fun q7 =>
  some (.inr (q7.1, q7.2)))
def p_LR_readCondition_F (f : Nat) (rec : Int → oM → Option (Int × oM)) (l1 : Int) (M : oM) : Option (Int × oM) :=
  iter (p_LR_readCondition_L7 f rec l1) f ((-1), (-1), 0, M)
def p_LR_readCondition (f : Nat) : Nat → Int → oM → Option (Int × oM)
  | 0, _, _ => none
  | n + 1, l1, M => p_LR_readCondition_F f (p_LR_readCondition f n) l1 M
def p_LR_readRule_B104 (f : Nat) (l1 : Int) (s0 : Int) (M : oM) : Option (Int × oM) :=
  if s0 = 0 then ((p_T_next f  M).bind fun q1 =>
  if q1.1 = 40 then ((p_T_step f  q1.2).bind fun q2 =>
  bnd 16 l1 fun i3 =>
  lt (oU q2.2 32 i3 (q2.2 27 9)) fun M4 =>
  (p_LR_readCondition f 9 1 M4).bind fun q5 =>
  if q5.1 = 0 then (bnd 16 l1 fun i6 =>
  lt (oU q5.2 33 i6 (q5.2 27 9)) fun M7 =>
  lt (oU M7 27 10 (w32 (l1 + 1))) fun M8 =>
  some (q5.1, M8))
  else (some (q5.1, q5.2)))
  else ((p_T_fault f 1 q1.2).bind fun q9 =>
  some (q9.1, q9.2)))
  else (some (s0, M))
def p_LR_readRule_B41 (f : Nat) (l1 : Int) (l2 : Int) (M : oM) : Option (Int × oM) :=
  if l1 < 16 then ((p_T_step f  M).bind fun q10 =>
  bnd 16 l1 fun i11 =>
  lt (oU q10.2 30 i11 l2) fun M12 =>
  bnd 16 l1 fun i13 =>
  lt (oU M12 31 i13 (M12 27 9)) fun M14 =>
  if l2 = 115 then (p_LR_readRule_B104 f l1 0 M14)
  else ((p_LR_readNumber f 9 0 M14).bind fun q15 =>
  p_LR_readRule_B104 f l1 q15.1 q15.2))
  else ((p_T_fault f 4 M).bind fun q16 =>
  some (q16.1, q16.2))
def p_LR_readRule (f : Nat) (l1 : Int) (M : oM) : Option (Int × oM) :=
  (p_T_next f  M).bind fun q17 =>
  if q17.1 = 101 then (p_LR_readRule_B41 f l1 q17.1 q17.2)
  else (if q17.1 = 105 then (p_LR_readRule_B41 f l1 q17.1 q17.2)
  else (if q17.1 = 114 then (p_LR_readRule_B41 f l1 q17.1 q17.2)
  else (if q17.1 = 115 then (p_LR_readRule_B41 f l1 q17.1 q17.2)
  else ((p_T_fault f 1 q17.2).bind fun q18 =>
  some (q18.1, q18.2)))))
def p_T_ended (f : Nat) (M : oM) : Option (Int × oM) :=
  if M 1 3 < M 1 2 then (some (0, M))
  else (some (1, M))
def p_LR_read_L18 (f : Nat) : Int × oM → Option ((Int × oM) ⊕ (Int × oM))
  | (l1, M) =>
  if 16 < l1 then ((p_T_fault f 4 M).bind fun q1 =>
  some (.inr (q1.1, q1.2)))
  else ((p_LR_readRule f l1 M).bind fun q2 =>
  if q2.1 = 0 then ((p_T_ended f  q2.2).bind fun q3 =>
  if q3.1 = 0 then ((p_T_next f  q3.2).bind fun q4 =>
  if q4.1 = 59 then ((p_T_step f  q4.2).bind fun q5 =>
  lt (w32 (l1 + 1)) fun x6 =>
  some (.inl (x6, q5.2)))
  else ((p_T_fault f 1 q4.2).bind fun q7 =>
  some (.inr (q7.1, q7.2))))
  else (some (.inr (q3.2 27 10, q3.2))))
  else (some (.inr (q2.1, q2.2))))
def p_LR_read (f : Nat) (M : oM) : Option (Int × oM) :=
  lt (oU M 27 9 0) fun M8 =>
  lt (oU M8 27 10 0) fun M9 =>
  iter (p_LR_read_L18 f) f (0, M9)
def p_T_clear (f : Nat) (M : oM) : Option (Int × oM) :=
  lt (oU M 1 1 0) fun M1 =>
  some (0, M1)
def p_T_opens (f : Nat) (l1 : Int) (l2 : Int) (l3 : Int) (M : oM) : Option (Int × oM) :=
  if l1 < l2 then (some (0, M))
  else (if l3 < l1 then (some (0, M))
  else (if M 1 1 < l1 then (some (0, M))
  else (lt (oU M 1 2 l1) fun M1 =>
  lt (oU M1 1 3 (-1)) fun M2 =>
  (p_T_step f  M2).bind fun q3 =>
  some (1, q3.2))))
def p_O_law (f : Nat) (l1 : Int) (M : oM) : Option (Int × oM) :=
  (p_T_opens f l1 1 240 M).bind fun q1 =>
  if q1.1 = 0 then (some ((-1), q1.2))
  else ((p_LR_read f  q1.2).bind fun q2 =>
  (p_T_clear f  q2.2).bind fun q3 =>
  if 0 < q2.1 then ((p_L_takeFrom f  q3.2).bind fun q4 =>
  some (q2.1, q4.2))
  else (some (q2.1, q3.2)))
def p_T_place (f : Nat) (M : oM) : Option (Int × oM) :=
  some (M 1 3, M)
def p_DR_readMany_B72_27 (f : Nat) (l1 : Int) (l2 : Int) (l3 : Int) (M : oM) : Option ((Int × Int × oM) ⊕ (Int × oM)) :=
  if l3 = 0 then ((p_T_faultAt f 3 l2 M).bind fun q4 =>
  some (.inr (q4.1, q4.2)))
  else (bnd 100 l1 fun i1 =>
  bnd 100 l1 fun i2 =>
  lt (oU M 38 i2 (imin 99 (w32 ((M 38 i1) + l3)))) fun M3 =>
  some (.inr (0, M3)))
def p_DR_readMany_L27 (f : Nat) (l1 : Int) (l2 : Int) : Int × Int × oM → Option ((Int × Int × oM) ⊕ (Int × oM))
  | (l3, l4, M) =>
  if l4 < 2 then ((p_T_nextIsDigit f  M).bind fun q5 =>
  if q5.1 = 0 then (p_DR_readMany_B72_27 f l1 l2 l3 q5.2)
  else ((p_T_next f  q5.2).bind fun q6 =>
  lt (w32 ((w32 ((w32 (l3 * 10)) + q6.1)) - 48)) fun x7 =>
  (p_T_step f  q6.2).bind fun q8 =>
  lt (w32 (l4 + 1)) fun x9 =>
  some (.inl (x7, x9, q8.2))))
  else (p_DR_readMany_B72_27 f l1 l2 l3 M)
def p_DR_readMany_B23 (f : Nat) (l1 : Int) (l2 : Int) (s0 : Int) (M : oM) : Option (Int × oM) :=
  iter (p_DR_readMany_L27 f l1 l2) f (s0, 0, M)
def p_DR_readMany (f : Nat) (l1 : Int) (M : oM) : Option (Int × oM) :=
  (p_T_place f  M).bind fun q10 =>
  (p_T_nextIsDigit f  q10.2).bind fun q11 =>
  if q11.1 = 0 then (p_DR_readMany_B23 f l1 q10.1 1 q11.2)
  else (p_DR_readMany_B23 f l1 q10.1 0 q11.2)
def p_T_nextOne (f : Nat) (M : oM) : Option (Int × oM) :=
  lt (w32 ((M 1 4) - 97)) fun x1 =>
  (p_O_isOne f x1 M).bind fun q2 =>
  if q2.1 = 0 then (some ((-1), q2.2))
  else (some (x1, q2.2))
def p_DR_readLine (f : Nat) (l1 : Int) (M : oM) : Option (Int × oM) :=
  (p_T_nextOne f  M).bind fun q1 =>
  if q1.1 < 0 then ((p_T_fault f 1 q1.2).bind fun q16 =>
  some (q16.1, q16.2))
  else (if l1 < 30 then ((p_P_has f q1.1 q1.2).bind fun q2 =>
  if q2.1 = 0 then ((p_T_fault f 7 q2.2).bind fun q14 =>
  some (q14.1, q14.2))
  else ((p_T_step f  q2.2).bind fun q3 =>
  (p_T_next f  q3.2).bind fun q4 =>
  if q4.1 = 62 then ((p_T_step f  q4.2).bind fun q5 =>
  (p_T_nextOne f  q5.2).bind fun q6 =>
  if q6.1 < 0 then ((p_T_fault f 1 q6.2).bind fun q12 =>
  some (q12.1, q12.2))
  else ((p_P_has f q6.1 q6.2).bind fun q7 =>
  if q7.1 = 0 then ((p_T_fault f 7 q7.2).bind fun q11 =>
  some (q11.1, q11.2))
  else (if q6.1 = q1.1 then ((p_T_fault f 6 q7.2).bind fun q10 =>
  some (q10.1, q10.2))
  else ((p_T_step f  q7.2).bind fun q8 =>
  (p_DR_readMany f (w32 ((w32 (q1.1 * 10)) + q6.1)) q8.2).bind fun q9 =>
  some (q9.1, q9.2)))))
  else ((p_T_fault f 1 q4.2).bind fun q13 =>
  some (q13.1, q13.2))))
  else ((p_T_fault f 4 q1.2).bind fun q15 =>
  some (q15.1, q15.2)))
def p_JA_fill_L5 (f : Nat) (o0 : Nat) (n0 : Int) (l1 : Int) (l3 : Int) : Int × oM → Option ((Int × oM) ⊕ (Int × oM))
  | (l2, M) =>
  if l2 < l3 then (bnd n0 l2 fun i1 =>
  lt (oU M o0 i1 l1) fun M2 =>
  lt (w32 (l2 + 1)) fun x3 =>
  some (.inl (x3, M2)))
  else (some (.inr (0, M)))
def p_JA_fill (f : Nat) (o0 : Nat) (n0 : Int) (l1 : Int) (M : oM) : Option (Int × oM) :=
  iter (p_JA_fill_L5 f o0 n0 l1 n0) f (0, M)
def p_DR_read_L10 (f : Nat) : Int × oM → Option ((Int × oM) ⊕ (Int × oM))
  | (l1, M) =>
  if 30 < l1 then ((p_T_fault f 4 M).bind fun q1 =>
  some (.inr (q1.1, q1.2)))
  else ((p_DR_readLine f l1 M).bind fun q2 =>
  if q2.1 = 0 then ((p_T_ended f  q2.2).bind fun q3 =>
  if q3.1 = 0 then ((p_T_next f  q3.2).bind fun q4 =>
  if q4.1 = 59 then ((p_T_step f  q4.2).bind fun q5 =>
  lt (w32 (l1 + 1)) fun x6 =>
  some (.inl (x6, q5.2)))
  else ((p_T_fault f 1 q4.2).bind fun q7 =>
  some (.inr (q7.1, q7.2))))
  else (some (.inr (q2.1, q3.2))))
  else (some (.inr (q2.1, q2.2))))
def p_DR_read (f : Nat) (M : oM) : Option (Int × oM) :=
  (p_JA_fill f 38 100 0 M).bind fun q8 =>
  iter (p_DR_read_L10 f) f (0, q8.2)
def p_D_owedInAll_L4 (f : Nat) (o0 : Nat) : Int × Int × oM → Option ((Int × Int × oM) ⊕ (Int × oM))
  | (l1, l2, M) =>
  if l2 < 100 then (bnd 100 l2 fun i1 =>
  lt (w32 (l1 + (M (o0 + 1) i1))) fun x2 =>
  lt (w32 (l2 + 1)) fun x3 =>
  some (.inl (x2, x3, M)))
  else (some (.inr (l1, M)))
def p_D_owedInAll (f : Nat) (o0 : Nat) (M : oM) : Option (Int × oM) :=
  iter (p_D_owedInAll_L4 f o0) f (0, 0, M)
def p_O_debts (f : Nat) (l1 : Int) (M : oM) : Option (Int × oM) :=
  (p_T_opens f l1 1 160 M).bind fun q1 =>
  if q1.1 = 0 then (some ((-1), q1.2))
  else ((p_DR_read f  q1.2).bind fun q2 =>
  (p_T_clear f  q2.2).bind fun q3 =>
  if q2.1 = 0 then (cpg 100 100 0 0 100 fun _ =>
  lt (acopy q3.2 38 0 7 0 100) fun M4 =>
  (p_D_owedInAll f 6  M4).bind fun q5 =>
  some (q5.1, q5.2))
  else (some (q2.1, q3.2)))
def p_O_areHours (f : Nat) (l0 : Int) (M : oM) : Option (Int × oM) :=
  if l0 < 1 then (some (0, M))
  else (if 240 < l0 then (some (0, M))
  else (some (1, M)))
def p_D_draw (f : Nat) (o0 : Nat) (M : oM) : Option (Int × oM) :=
  lt (oU M o0 11 (iand (w32 ((w32 (25173 * (M o0 11))) + 13849)) 65535)) fun M1 =>
  nz 10 fun z2 =>
  some (Int.tmod (M1 o0 11) z2, M1)
def p_L_joined (f : Nat) (l0 : Int) (l1 : Int) (l2 : Int) (M : oM) : Option (Int × oM) :=
  if l0 = 37 then (if l2 = 0 then (some (0, M))
  else (nz l2 fun z1 =>
  some (Int.tmod l1 z1, M)))
  else (if l0 = 42 then (some (w32 (l1 * l2), M))
  else (if l0 = 43 then (some (w32 (l1 + l2), M))
  else (if l0 = 45 then (some (w32 (l1 - l2), M))
  else (if l0 = 47 then (if l2 = 0 then (some (0, M))
  else (nz l2 fun z2 =>
  some (w32 (Int.tdiv l1 z2), M)))
  else (if l0 = 60 then (if l1 < l2 then (some (1, M))
  else (some (0, M)))
  else (if l0 = 62 then (if l2 < l1 then (some (1, M))
  else (some (0, M)))
  else (if l1 = l2 then (some (1, M))
  else (some (0, M)))))))))
def p_L_reckoned_B292_8 (f : Nat) (l3 : Int) (M : oM) : Option ((Int × Int × Int × oM) ⊕ (Int × oM)) :=
  if l3 = 1 then (bnd 64 0 fun i1 =>
  some (.inr (M 26 i1, M)))
  else (some (.inr (0, M)))
def p_L_reckoned_B286_8 (f : Nat) (l2 : Int) (l3 : Int) (l4 : Int) (l5 : Int) (M : oM) : Option ((Int × Int × Int × oM) ⊕ (Int × oM)) :=
  lt (w32 (l5 + 1)) fun x2 =>
  some (.inl (l3, l4, x2, M))
def p_L_reckoned_B105_8 (f : Nat) (l2 : Int) (l3 : Int) (l4 : Int) (l5 : Int) (s1 : Int) (s2 : Int) (M : oM) : Option ((Int × Int × Int × oM) ⊕ (Int × oM)) :=
  bnd 64 s1 fun i3 =>
  lt (oU M 26 i3 s2) fun M4 =>
  lt (w32 (l3 + 1)) fun x5 =>
  p_L_reckoned_B286_8 f l2 x5 l4 l5 M4
def p_L_reckoned_B70_8 (f : Nat) (l2 : Int) (l3 : Int) (l4 : Int) (l5 : Int) (l6 : Int) (l7 : Int) (M : oM) : Option ((Int × Int × Int × oM) ⊕ (Int × oM)) :=
  if l3 < 64 then (if l6 = 48 then (p_L_reckoned_B105_8 f l2 l3 l4 l5 l3 l7 M)
  else (bnd 8 (iand l7 7) fun i6 =>
  p_L_reckoned_B105_8 f l2 l3 l4 l5 l3 (M 25 i6) M))
  else (some (.inr (0, M)))
def p_L_reckoned_B196_8 (f : Nat) (l2 : Int) (l3 : Int) (l4 : Int) (l5 : Int) (l7 : Int) (s0 : Int) (s1 : Int) (M : oM) : Option ((Int × Int × Int × oM) ⊕ (Int × oM)) :=
  if s0 = s1 then (p_L_reckoned_B286_8 f l2 l3 l7 l5 M)
  else (lt (w32 (l3 + (-1))) fun x7 =>
  p_L_reckoned_B286_8 f l2 x7 l4 l5 M)
def p_L_reckoned_B184_8 (f : Nat) (l2 : Int) (l3 : Int) (l4 : Int) (l5 : Int) (l6 : Int) (l7 : Int) (s0 : Int) (M : oM) : Option ((Int × Int × Int × oM) ⊕ (Int × oM)) :=
  if l6 = 124 then (p_L_reckoned_B196_8 f l2 l3 l4 l5 l7 s0 1 M)
  else (p_L_reckoned_B196_8 f l2 l3 l4 l5 l7 s0 0 M)
def p_L_reckoned_B133_8 (f : Nat) (l2 : Int) (l3 : Int) (l4 : Int) (l5 : Int) (l6 : Int) (l7 : Int) (M : oM) : Option ((Int × Int × Int × oM) ⊕ (Int × oM)) :=
  if l3 < 1 then (some (.inr (0, M)))
  else (if l6 = 33 then (bnd 64 (w32 (l3 - 1)) fun i9 =>
  bnd 64 (w32 (l3 - 1)) fun i10 =>
  lt (oU M 26 i10 (w32 (1 - (M 26 i9)))) fun M11 =>
  p_L_reckoned_B286_8 f l2 l3 l4 l5 M11)
  else (bnd 64 (w32 (l3 - 1)) fun i8 =>
  if M 26 i8 = 0 then (p_L_reckoned_B184_8 f l2 l3 l4 l5 l6 l7 0 M)
  else (p_L_reckoned_B184_8 f l2 l3 l4 l5 l6 l7 1 M)))
def p_L_reckoned_B256_8 (f : Nat) (l2 : Int) (l3 : Int) (l4 : Int) (l5 : Int) (l6 : Int) (M : oM) : Option ((Int × Int × Int × oM) ⊕ (Int × oM)) :=
  lt (w32 (l3 + (-1))) fun x12 =>
  bnd 64 (w32 (x12 - 1)) fun i13 =>
  bnd 64 x12 fun i14 =>
  (p_L_joined f l6 (M 26 i13) (M 26 i14) M).bind fun q15 =>
  bnd 64 (w32 (x12 - 1)) fun i16 =>
  lt (oU q15.2 26 i16 q15.1) fun M17 =>
  p_L_reckoned_B286_8 f l2 x12 l4 l5 M17
def p_L_reckoned_B231_8 (f : Nat) (l2 : Int) (l3 : Int) (l4 : Int) (l5 : Int) (l6 : Int) (s0 : Int) (M : oM) : Option ((Int × Int × Int × oM) ⊕ (Int × oM)) :=
  if l3 < 2 then (some (.inr (0, M)))
  else (if s0 = 0 then (p_L_reckoned_B256_8 f l2 l3 l4 l5 l6 M)
  else (bnd 64 (w32 (l3 - 1)) fun i18 =>
  if M 26 i18 = 0 then (some (.inr (0, M)))
  else (p_L_reckoned_B256_8 f l2 l3 l4 l5 l6 M)))
def p_L_reckoned_B226_8 (f : Nat) (l2 : Int) (l3 : Int) (l4 : Int) (l5 : Int) (l6 : Int) (M : oM) : Option ((Int × Int × Int × oM) ⊕ (Int × oM)) :=
  p_L_reckoned_B231_8 f l2 l3 l4 l5 l6 1 M
def p_L_reckoned_L8 (f : Nat) (l2 : Int) : Int × Int × Int × oM → Option ((Int × Int × Int × oM) ⊕ (Int × oM))
  | (l3, l4, l5, M) =>
  if l5 < 240 then (if l4 < 0 then (p_L_reckoned_B292_8 f l3 M)
  else (if l4 < l2 then (if l4 < 240 then (bnd 240 l4 fun i19 =>
  lt (M 19 i19) fun x20 =>
  bnd 240 l4 fun i21 =>
  lt (M 20 i21) fun x22 =>
  lt (w32 (l4 + 1)) fun x23 =>
  if x20 = 48 then (p_L_reckoned_B70_8 f l2 l3 x23 l5 x20 x22 M)
  else (if x20 = 97 then (p_L_reckoned_B70_8 f l2 l3 x23 l5 x20 x22 M)
  else (if x20 = 33 then (p_L_reckoned_B133_8 f l2 l3 x23 l5 x20 x22 M)
  else (if x20 = 38 then (p_L_reckoned_B133_8 f l2 l3 x23 l5 x20 x22 M)
  else (if x20 = 124 then (p_L_reckoned_B133_8 f l2 l3 x23 l5 x20 x22 M)
  else (if x20 = 47 then (p_L_reckoned_B226_8 f l2 l3 x23 l5 x20 M)
  else (if x20 = 37 then (p_L_reckoned_B226_8 f l2 l3 x23 l5 x20 M)
  else (p_L_reckoned_B231_8 f l2 l3 x23 l5 x20 0 M))))))))
  else (p_L_reckoned_B292_8 f l3 M))
  else (p_L_reckoned_B292_8 f l3 M)))
  else (p_L_reckoned_B292_8 f l3 M)
def p_L_reckoned (f : Nat) (l1 : Int) (l2 : Int) (M : oM) : Option (Int × oM) :=
  iter (p_L_reckoned_L8 f l2) f (0, l1, 0, M)
def p_L_firstOf_B74_2 (f : Nat) (l1 : Int) (l2 : Int) (l3 : Int) (M : oM) : Option ((Int × oM) ⊕ (Int × oM)) :=
  lt (w32 (l3 + 1)) fun x1 =>
  some (.inl (x1, M))
def p_L_firstOf_L2 (f : Nat) (l1 : Int) (l2 : Int) : Int × oM → Option ((Int × oM) ⊕ (Int × oM))
  | (l3, M) =>
  if l3 < M 18 10 then (if l3 < 16 then (bnd 16 l3 fun i2 =>
  if M 21 i2 = l1 then (bnd 16 l3 fun i3 =>
  bnd 16 l3 fun i4 =>
  (p_L_reckoned f (M 23 i3) (M 24 i4) M).bind fun q5 =>
  if q5.1 = 0 then (p_L_firstOf_B74_2 f l1 l2 l3 q5.2)
  else (bnd 16 l3 fun i6 =>
  bnd 16 l3 fun i7 =>
  (p_L_reckoned f (q5.2 22 i6) (q5.2 23 i7) q5.2).bind fun q8 =>
  some (.inr (imax 0 (imin l2 q8.1), q8.2))))
  else (p_L_firstOf_B74_2 f l1 l2 l3 M))
  else (some (.inr (0, M))))
  else (some (.inr (0, M)))
def p_L_firstOf (f : Nat) (l1 : Int) (l2 : Int) (M : oM) : Option (Int × oM) :=
  iter (p_L_firstOf_L2 f l1 l2) f (0, M)
def p_D_debtOf (f : Nat) (o0 : Nat) (l1 : Int) (l2 : Int) (M : oM) : Option (Int × oM) :=
  (p_O_isOne f l1 M).bind fun q1 =>
  if q1.1 = 0 then (some (0, q1.2))
  else ((p_O_isOne f l2 q1.2).bind fun q2 =>
  if q2.1 = 0 then (some (0, q2.2))
  else (bnd 100 (w32 ((w32 (l1 * 10)) + l2)) fun i3 =>
  some (q2.2 (o0 + 1) i3, q2.2)))
def p_D_owedBy_L4 (f : Nat) (o0 : Nat) (l1 : Int) : Int × Int × oM → Option ((Int × Int × oM) ⊕ (Int × oM))
  | (l2, l3, M) =>
  if l3 < 10 then (bnd 100 (w32 ((w32 (l1 * 10)) + l3)) fun i1 =>
  lt (w32 (l2 + (M (o0 + 1) i1))) fun x2 =>
  lt (w32 (l3 + 1)) fun x3 =>
  some (.inl (x2, x3, M)))
  else (some (.inr (l2, M)))
def p_D_owedBy (f : Nat) (o0 : Nat) (l1 : Int) (M : oM) : Option (Int × oM) :=
  iter (p_D_owedBy_L4 f o0 l1) f (0, 0, M)
def p_D_timesChalked_B31_4 (f : Nat) (o0 : Nat) (l1 : Int) (l2 : Int) (l3 : Int) (M : oM) : Option ((Int × Int × oM) ⊕ (Int × oM)) :=
  lt (w32 (l3 + 1)) fun x1 =>
  some (.inl (l2, x1, M))
def p_D_timesChalked_L4 (f : Nat) (o0 : Nat) (l1 : Int) : Int × Int × oM → Option ((Int × Int × oM) ⊕ (Int × oM))
  | (l2, l3, M) =>
  if l3 < M o0 3 then (if l3 < 40 then (bnd 40 l3 fun i2 =>
  if M (o0 + 3) i2 = l1 then (lt (w32 (l2 + 1)) fun x3 =>
  p_D_timesChalked_B31_4 f o0 l1 x3 l3 M)
  else (p_D_timesChalked_B31_4 f o0 l1 l2 l3 M))
  else (some (.inr (l2, M))))
  else (some (.inr (l2, M)))
def p_D_timesChalked (f : Nat) (o0 : Nat) (l1 : Int) (M : oM) : Option (Int × oM) :=
  iter (p_D_timesChalked_L4 f o0 l1) f (0, 0, M)
def p_P_way (f : Nat) (l1 : Int) (l2 : Int) (M : oM) : Option (Int × oM) :=
  (p_O_isOne f l1 M).bind fun q1 =>
  if q1.1 = 0 then (some (1, q1.2))
  else ((p_O_isOne f l2 q1.2).bind fun q2 =>
  if q2.1 = 0 then (some (1, q2.2))
  else (bnd 10 l1 fun i3 =>
  bnd 10 l2 fun i4 =>
  bnd 10 l1 fun i5 =>
  bnd 10 l2 fun i6 =>
  some (imax 1 (w32 ((iabs (w32 ((q2.2 4 i3) - (q2.2 4 i4)))) + (iabs (w32 ((q2.2 5 i5) - (q2.2 5 i6)))))), q2.2)))
def p_L_look (f : Nat) (o1 : Nat) (l2 : Int) (l3 : Int) (M : oM) : Option (Int × oM) :=
  bnd 8 0 fun i1 =>
  lt (oU M 25 i1 l2) fun M2 =>
  bnd 8 1 fun i3 =>
  lt (oU M2 25 i3 l3) fun M4 =>
  (p_D_debtOf f o1 l2 l3 M4).bind fun q5 =>
  bnd 8 2 fun i6 =>
  lt (oU q5.2 25 i6 q5.1) fun M7 =>
  (p_D_owedBy f o1 l2 M7).bind fun q8 =>
  bnd 8 3 fun i9 =>
  lt (oU q8.2 25 i9 q8.1) fun M10 =>
  (p_P_way f l2 l3 M10).bind fun q11 =>
  bnd 8 4 fun i12 =>
  lt (oU q11.2 25 i12 q11.1) fun M13 =>
  (p_D_timesChalked f o1 l3 M13).bind fun q14 =>
  bnd 8 5 fun i15 =>
  lt (oU q14.2 25 i15 q14.1) fun M16 =>
  bnd 8 6 fun i17 =>
  lt (oU M16 25 i17 (M16 o1 8)) fun M18 =>
  bnd 8 7 fun i19 =>
  lt (oU M18 25 i19 (M18 o1 9)) fun M20 =>
  some (0, M20)
def p_L_growth (f : Nat) (o1 : Nat) (l2 : Int) (l3 : Int) (M : oM) : Option (Int × oM) :=
  (p_L_look f o1 l2 l3 M).bind fun q1 =>
  (p_L_firstOf f 105 9 q1.2).bind fun q2 =>
  some (q2.1, q2.2)
def p_L_rain (f : Nat) (l1 : Int) (M : oM) : Option (Int × oM) :=
  (p_JA_fill f 25 8 0 M).bind fun q1 =>
  bnd 8 7 fun i2 =>
  lt (oU q1.2 25 i2 l1) fun M3 =>
  (p_L_firstOf f 114 10 M3).bind fun q4 =>
  some (q4.1, q4.2)
def p_C_beginDay_B113_46 (f : Nat) (o1 : Nat) (l2 : Int) (M : oM) : Option ((Int × oM) ⊕ (Int × oM)) :=
  lt (w32 (l2 + 1)) fun x1 =>
  some (.inl (x1, M))
def p_C_beginDay_L46 (f : Nat) (o1 : Nat) : Int × oM → Option ((Int × oM) ⊕ (Int × oM))
  | (l2, M) =>
  if l2 < 100 then (bnd 100 l2 fun i2 =>
  lt (M (o1 + 1) i2) fun x3 =>
  if 0 < x3 then (nz 10 fun z4 =>
  nz 10 fun z5 =>
  (p_L_growth f o1 (w32 (Int.tdiv l2 z4)) (Int.tmod l2 z5) M).bind fun q6 =>
  lt (w32 (x3 + q6.1)) fun x7 =>
  bnd 100 l2 fun i8 =>
  lt (oU q6.2 (o1 + 1) i8 (imin 99 x7)) fun M9 =>
  bnd 100 l2 fun i10 =>
  lt (oU M9 41 4 (w32 ((M9 41 4) + (w32 ((M9 (o1 + 1) i10) - x3))))) fun M11 =>
  p_C_beginDay_B113_46 f o1 l2 M11)
  else (p_C_beginDay_B113_46 f o1 l2 M))
  else (some (.inr (0, M)))
def p_C_beginDay_B44 (f : Nat) (o1 : Nat) (M : oM) : Option (Int × oM) :=
  iter (p_C_beginDay_L46 f o1) f (0, M)
def p_C_beginDay_B24 (f : Nat) (o1 : Nat) (s1 : Int) (M : oM) : Option (Int × oM) :=
  bnd 2 s1 fun b12 =>
  lt (oU M o1 10 b12) fun M13 =>
  if M13 o1 10 = 0 then (p_C_beginDay_B44 f o1 M13)
  else (lt (oU M13 41 3 (w32 ((M13 41 3) + 1))) fun M14 =>
  p_C_beginDay_B44 f o1 M14)
def p_C_beginDay (f : Nat) (o1 : Nat) (M : oM) : Option (Int × oM) :=
  (p_D_draw f o1  M).bind fun q15 =>
  (p_L_rain f (q15.2 o1 9) q15.2).bind fun q16 =>
  if q15.1 < q16.1 then (p_C_beginDay_B24 f o1 1 q16.2)
  else (p_C_beginDay_B24 f o1 0 q16.2)
def p_D_sendTo (f : Nat) (o0 : Nat) (l1 : Int) (l2 : Int) (M : oM) : Option (Int × oM) :=
  lt (oU M o0 5 (M o0 4)) fun M1 =>
  lt (oU M1 o0 6 l1) fun M2 =>
  lt (oU M2 o0 7 l2) fun M3 =>
  lt (oU M3 o0 4 (-1)) fun M4 =>
  some (0, M4)
def p_L_liking_B67_10 (f : Nat) (o1 : Nat) (M : oM) : Option ((Int × oM) ⊕ (Int × oM)) :=
  (p_L_firstOf f 101 9999 M).bind fun q1 =>
  some (.inr (q1.1, q1.2))
def p_L_liking_B61_10 (f : Nat) (o1 : Nat) (l4 : Int) (M : oM) : Option ((Int × oM) ⊕ (Int × oM)) :=
  lt (w32 (l4 + 1)) fun x2 =>
  some (.inl (x2, M))
def p_L_liking_L10 (f : Nat) (o1 : Nat) : Int × oM → Option ((Int × oM) ⊕ (Int × oM))
  | (l4, M) =>
  if l4 < M 18 10 then (if l4 < 16 then (bnd 16 l4 fun i3 =>
  if M 21 i3 = 115 then (bnd 16 l4 fun i4 =>
  bnd 16 l4 fun i5 =>
  (p_L_reckoned f (M 23 i4) (M 24 i5) M).bind fun q6 =>
  if q6.1 = 0 then (p_L_liking_B61_10 f o1 l4 q6.2)
  else (some (.inr (0, q6.2))))
  else (p_L_liking_B61_10 f o1 l4 M))
  else (p_L_liking_B67_10 f o1 M))
  else (p_L_liking_B67_10 f o1 M)
def p_L_liking (f : Nat) (o1 : Nat) (l2 : Int) (l3 : Int) (M : oM) : Option (Int × oM) :=
  (p_L_look f o1 l2 l3 M).bind fun q7 =>
  iter (p_L_liking_L10 f o1) f (0, q7.2)
def p_C_setOut_B87_39 (f : Nat) (o1 : Nat) (l2 : Int) (l3 : Int) (l4 : Int) (l5 : Int) (M : oM) : Option ((Int × Int × Int × oM) ⊕ (Int × oM)) :=
  lt (w32 (l5 + 1)) fun x1 =>
  some (.inl (l3, l4, x1, M))
def p_C_setOut_B71_39 (f : Nat) (o1 : Nat) (l2 : Int) (l3 : Int) (l4 : Int) (l5 : Int) (s0 : Int) (M : oM) : Option ((Int × Int × Int × oM) ⊕ (Int × oM)) :=
  if l4 < s0 then (p_C_setOut_B87_39 f o1 l2 l5 s0 l5 M)
  else (p_C_setOut_B87_39 f o1 l2 l3 l4 l5 M)
def p_C_setOut_L39 (f : Nat) (o1 : Nat) (l2 : Int) : Int × Int × Int × oM → Option ((Int × Int × Int × oM) ⊕ (Int × oM))
  | (l3, l4, l5, M) =>
  if l5 < 10 then ((p_D_debtOf f o1 l2 l5 M).bind fun q4 =>
  if 0 < q4.1 then ((p_L_liking f o1 l2 l5 q4.2).bind fun q5 =>
  p_C_setOut_B71_39 f o1 l2 l3 l4 l5 q5.1 q5.2)
  else (p_C_setOut_B71_39 f o1 l2 l3 l4 l5 0 q4.2))
  else (if l3 < 0 then (some (.inr (0, M)))
  else ((p_P_way f l2 l3 M).bind fun q2 =>
  (p_D_sendTo f o1 l3 q2.1 q2.2).bind fun q3 =>
  some (.inr (0, q3.2))))
def p_C_setOut (f : Nat) (o1 : Nat) (M : oM) : Option (Int × oM) :=
  if M o1 10 = 0 then (if M o1 8 < 6 then (some (0, M))
  else (if 19 < M o1 8 then (some (0, M))
  else (lt (M o1 4) fun x6 =>
  iter (p_C_setOut_L39 f o1 x6) f ((-1), 0, 0, M))))
  else (some (0, M))
def p_D_write_B30 (f : Nat) (o0 : Nat) (l1 : Int) (M : oM) : Option (Int × oM) :=
  bnd 40 (M o0 3) fun i1 =>
  lt (oU M (o0 + 3) i1 l1) fun M2 =>
  lt (oU M2 o0 3 (w32 ((M2 o0 3) + 1))) fun M3 =>
  some (0, M3)
def p_D_write (f : Nat) (o0 : Nat) (l1 : Int) (M : oM) : Option (Int × oM) :=
  if M o0 3 < 40 then (p_D_write_B30 f o0 l1 M)
  else (cpg 40 40 1 0 39 fun _ =>
  lt (acopy M (o0 + 3) 1 (o0 + 3) 0 39) fun M4 =>
  lt (oU M4 o0 3 39) fun M5 =>
  p_D_write_B30 f o0 l1 M5)
def p_D_pay_B24 (f : Nat) (o0 : Nat) (l2 : Int) (M : oM) : Option (Int × oM) :=
  (p_D_giveTo f o0 l2 M).bind fun q1 =>
  (p_D_write f o0 l2 q1.2).bind fun q2 =>
  some (0, q2.2)
def p_D_pay (f : Nat) (o0 : Nat) (l1 : Int) (l2 : Int) (M : oM) : Option (Int × oM) :=
  (p_D_debtOf f o0 l1 l2 M).bind fun q3 =>
  if 0 < q3.1 then (bnd 100 (w32 ((w32 (l1 * 10)) + l2)) fun i4 =>
  bnd 100 (w32 ((w32 (l1 * 10)) + l2)) fun i5 =>
  lt (oU q3.2 (o0 + 1) i5 (w32 ((q3.2 (o0 + 1) i4) - 1))) fun M6 =>
  p_D_pay_B24 f o0 l2 M6)
  else (p_D_pay_B24 f o0 l2 q3.2)
def p_C_travel (f : Nat) (o1 : Nat) (M : oM) : Option (Int × oM) :=
  lt (oU M o1 7 (w32 ((M o1 7) - 1))) fun M1 =>
  if M1 o1 7 = 0 then (lt (oU M1 41 5 (M1 o1 6)) fun M2 =>
  (p_D_pay f o1 (M2 o1 5) (M2 o1 6) M2).bind fun q3 =>
  lt (oU q3.2 41 2 (w32 ((q3.2 41 2) + 1))) fun M4 =>
  some (0, M4))
  else (some (0, M1))
def p_C_tick_B80 (f : Nat) (o1 : Nat) (M : oM) : Option (Int × oM) :=
  lt (oU M o1 8 (w32 ((M o1 8) + 1))) fun M1 =>
  if 23 < M1 o1 8 then (lt (oU M1 o1 8 0) fun M2 =>
  lt (oU M2 o1 9 (w32 ((M2 o1 9) + 1))) fun M3 =>
  some (0, M3))
  else (some (0, M1))
def p_C_tick_B37 (f : Nat) (o1 : Nat) (M : oM) : Option (Int × oM) :=
  if 0 < M o1 7 then ((p_C_travel f o1  M).bind fun q9 =>
  p_C_tick_B80 f o1 q9.2)
  else ((p_O_isOne f (M o1 4) M).bind fun q4 =>
  if q4.1 = 0 then (p_C_tick_B80 f o1 q4.2)
  else (bnd 10 (q4.2 o1 4) fun i5 =>
  bnd 10 (q4.2 o1 4) fun i6 =>
  lt (oU q4.2 (o1 + 2) i6 (w32 ((q4.2 (o1 + 2) i5) + 1))) fun M7 =>
  (p_C_setOut f o1  M7).bind fun q8 =>
  p_C_tick_B80 f o1 q8.2))
def p_C_tick_B25 (f : Nat) (o1 : Nat) (M : oM) : Option (Int × oM) :=
  if M o1 8 = 0 then ((p_C_beginDay f o1  M).bind fun q10 =>
  p_C_tick_B37 f o1 q10.2)
  else (p_C_tick_B37 f o1 M)
def p_C_tick (f : Nat) (o1 : Nat) (M : oM) : Option (Int × oM) :=
  lt (oU M 41 5 (-1)) fun M11 =>
  if M11 o1 9 < 9999 then (p_C_tick_B25 f o1 M11)
  else (if M11 o1 8 < 23 then (p_C_tick_B25 f o1 M11)
  else (some (0, M11)))
def p_C_pass_L17 (f : Nat) (o1 : Nat) (l2 : Int) : Int × oM → Option ((Int × oM) ⊕ (Int × oM))
  | (l3, M) =>
  if l3 < l2 then ((p_C_tick f o1  M).bind fun q1 =>
  lt (w32 (l3 + 1)) fun x2 =>
  some (.inl (x2, q1.2)))
  else (some (.inr (0, M)))
def p_C_pass (f : Nat) (o1 : Nat) (l2 : Int) (M : oM) : Option (Int × oM) :=
  lt (oU M 41 2 0) fun M3 =>
  lt (oU M3 41 3 0) fun M4 =>
  lt (oU M4 41 4 0) fun M5 =>
  iter (p_C_pass_L17 f o1 l2) f (0, M5)
def p_O_hours (f : Nat) (l1 : Int) (M : oM) : Option (Int × oM) :=
  (p_O_areHours f l1 M).bind fun q1 =>
  if q1.1 = 0 then (some ((-1), q1.2))
  else ((p_C_pass f 6 l1 q1.2).bind fun q2 =>
  some (q2.2 41 2, q2.2))
def p_D_takeFrom (f : Nat) (o0 : Nat) (o1 : Nat) (M : oM) : Option (Int × oM) :=
  cpg 100 100 0 0 100 fun _ =>
  lt (acopy M (o1 + 1) 0 (o0 + 1) 0 100) fun M1 =>
  cpg 10 10 0 0 10 fun _ =>
  lt (acopy M1 (o1 + 2) 0 (o0 + 2) 0 10) fun M2 =>
  cpg 40 40 0 0 40 fun _ =>
  lt (acopy M2 (o1 + 3) 0 (o0 + 3) 0 40) fun M3 =>
  lt (oU M3 o0 3 (M3 o1 3)) fun M4 =>
  lt (oU M4 o0 4 (M4 o1 4)) fun M5 =>
  lt (oU M5 o0 5 (M5 o1 5)) fun M6 =>
  lt (oU M6 o0 6 (M6 o1 6)) fun M7 =>
  lt (oU M7 o0 7 (M7 o1 7)) fun M8 =>
  lt (oU M8 o0 8 (M8 o1 8)) fun M9 =>
  lt (oU M9 o0 9 (M9 o1 9)) fun M10 =>
  bnd 2 (M10 o1 10) fun b11 =>
  lt (oU M10 o0 10 b11) fun M12 =>
  lt (oU M12 o0 11 (M12 o1 11)) fun M13 =>
  some (0, M13)
def p_O_tried_B34 (f : Nat) (l1 : Int) (l2 : Int) (M : oM) : Option (Int × oM) :=
  (p_D_takeFrom f 14 6  M).bind fun q1 =>
  (p_C_pass f 14 l1 q1.2).bind fun q2 =>
  if l2 = 0 then (some (q2.2 41 2, q2.2))
  else (if l2 = 1 then ((p_D_owedInAll f 14  q2.2).bind fun q3 =>
  some (q3.1, q3.2))
  else (if l2 = 2 then (if q2.2 14 4 < 0 then (some ((-2), q2.2))
  else (some (q2.2 14 4, q2.2)))
  else (if l2 = 3 then (some (q2.2 41 3, q2.2))
  else (if l2 = 4 then (some (q2.2 41 4, q2.2))
  else (if l2 = 5 then (some (q2.2 14 8, q2.2))
  else (bnd 10 (w32 (l2 - 10)) fun i4 =>
  bnd 10 (w32 (l2 - 10)) fun i5 =>
  some (w32 ((q2.2 16 i4) - (q2.2 8 i5)), q2.2)))))))
def p_O_tried_B28 (f : Nat) (l1 : Int) (l2 : Int) (l3 : Int) (M : oM) : Option (Int × oM) :=
  if l3 = 0 then (some ((-1), M))
  else (p_O_tried_B34 f l1 l2 M)
def p_O_tried (f : Nat) (l1 : Int) (l2 : Int) (M : oM) : Option (Int × oM) :=
  (p_P_has f (w32 (l2 - 10)) M).bind fun q6 =>
  (p_O_areHours f l1 q6.2).bind fun q7 =>
  if q7.1 = 0 then (some ((-1), q7.2))
  else (if l2 < 0 then (p_O_tried_B28 f l1 l2 q6.1 q7.2)
  else (if 5 < l2 then (p_O_tried_B28 f l1 l2 q6.1 q7.2)
  else (p_O_tried_B34 f l1 l2 q7.2)))
def p_D_owedTo_L4 (f : Nat) (l1 : Int) : Int × Int × oM → Option ((Int × Int × oM) ⊕ (Int × oM))
  | (l2, l3, M) =>
  if l3 < 10 then (bnd 100 (w32 ((w32 (l3 * 10)) + l1)) fun i1 =>
  lt (w32 (l2 + (M 7 i1))) fun x2 =>
  lt (w32 (l3 + 1)) fun x3 =>
  some (.inl (x2, x3, M)))
  else (some (.inr (l2, M)))
def p_D_owedTo (f : Nat) (l1 : Int) (M : oM) : Option (Int × oM) :=
  iter (p_D_owedTo_L4 f l1) f (0, 0, M)
def p_O_personIs (f : Nat) (l1 : Int) (l2 : Int) (M : oM) : Option (Int × oM) :=
  (p_P_has f l1 M).bind fun q1 =>
  if q1.1 = 0 then (some ((-1), q1.2))
  else (if l2 = 0 then (bnd 10 l1 fun i2 =>
  some (q1.2 4 i2, q1.2))
  else (if l2 = 1 then (bnd 10 l1 fun i3 =>
  some (q1.2 5 i3, q1.2))
  else (if l2 = 2 then ((p_D_owedBy f 6 l1 q1.2).bind fun q4 =>
  some (q4.1, q4.2))
  else (if l2 = 3 then ((p_D_owedTo f l1 q1.2).bind fun q5 =>
  some (q5.1, q5.2))
  else (if l2 = 4 then (bnd 10 l1 fun i6 =>
  some (q1.2 8 i6, q1.2))
  else (if l2 = 5 then ((p_D_timesChalked f 6 l1 q1.2).bind fun q7 =>
  some (q7.1, q7.2))
  else (some ((-1), q1.2))))))))
def p_O_owes (f : Nat) (l1 : Int) (l2 : Int) (M : oM) : Option (Int × oM) :=
  (p_P_hasBoth f l1 l2 M).bind fun q1 =>
  if q1.1 = 0 then (some ((-1), q1.2))
  else ((p_D_debtOf f 6 l1 l2 q1.2).bind fun q2 =>
  some (q2.1, q2.2))
def p_O_likes (f : Nat) (l1 : Int) (l2 : Int) (M : oM) : Option (Int × oM) :=
  (p_P_hasBoth f l1 l2 M).bind fun q1 =>
  if q1.1 = 0 then (some ((-1), q1.2))
  else ((p_L_liking f 6 l1 l2 q1.2).bind fun q2 =>
  some (q2.1, q2.2))
def p_RR_repeat_L33 (f : Nat) (l3 : Int) (l4 : Int) : Int × oM → Option ((Int × oM) ⊕ (Int × oM))
  | (l5, M) =>
  if l5 < l4 then (bnd 60 (w32 (l5 - l3)) fun i2 =>
  bnd 60 l5 fun i3 =>
  lt (oU M 40 i3 (M 40 i2)) fun M4 =>
  lt (w32 (l5 + 1)) fun x5 =>
  some (.inl (x5, M4)))
  else (lt (oU M 39 2 l4) fun M1 =>
  some (.inr (1, M1)))
def p_RR_repeat (f : Nat) (l1 : Int) (l2 : Int) (M : oM) : Option (Int × oM) :=
  lt (w32 ((M 39 2) - l1)) fun x6 =>
  lt (w32 (l1 + (w32 (x6 * l2)))) fun x7 =>
  if 60 < x7 then (some (0, M))
  else (if x6 < 0 then (some (0, M))
  else (lt (M 39 2) fun x8 =>
  iter (p_RR_repeat_L33 f x6 x7) f (x8, M)))
def p_RR_readPaying_B177 (f : Nat) (rec : Int → oM → Option (Int × oM)) (l2 : Int) (l3 : Int) (l4 : Int) (M : oM) : Option (Int × oM) :=
  (p_T_step f  M).bind fun q1 =>
  (p_RR_repeat f l3 l4 q1.2).bind fun q2 =>
  if q2.1 = 0 then ((p_T_faultAt f 6 l2 q2.2).bind fun q3 =>
  some (q3.1, q3.2))
  else (some (0, q2.2))
def p_RR_readPaying_B59 (f : Nat) (rec : Int → oM → Option (Int × oM)) (l1 : Int) (l2 : Int) (l3 : Int) (l4 : Int) (M : oM) : Option (Int × oM) :=
  (p_T_next f  M).bind fun q4 =>
  if q4.1 = 40 then (if l1 < 2 then ((p_T_step f  q4.2).bind fun q12 =>
  (rec (w32 (l1 + 1)) q12.2).bind fun q13 =>
  if q13.1 = 0 then (p_RR_readPaying_B177 f rec l2 l3 l4 q13.2)
  else (some (q13.1, q13.2)))
  else ((p_T_fault f 5 q4.2).bind fun q14 =>
  some (q14.1, q14.2)))
  else ((p_T_nextOne f  q4.2).bind fun q5 =>
  if q5.1 < 0 then ((p_T_fault f 1 q5.2).bind fun q11 =>
  some (q11.1, q11.2))
  else (if q5.2 39 2 < 60 then ((p_T_nextOne f  q5.2).bind fun q6 =>
  bnd 60 (q5.2 39 2) fun i7 =>
  lt (oU q6.2 40 i7 q6.1) fun M8 =>
  lt (oU M8 39 2 (w32 ((M8 39 2) + 1))) fun M9 =>
  p_RR_readPaying_B177 f rec l2 l3 l4 M9)
  else ((p_T_faultAt f 6 l2 q5.2).bind fun q10 =>
  some (q10.1, q10.2))))
def p_RR_readPaying_F (f : Nat) (rec : Int → oM → Option (Int × oM)) (l1 : Int) (M : oM) : Option (Int × oM) :=
  (p_T_place f  M).bind fun q15 =>
  lt (q15.2 39 2) fun x16 =>
  (p_T_next f  q15.2).bind fun q17 =>
  if q17.1 < 50 then (p_RR_readPaying_B59 f rec l1 q15.1 x16 1 q17.2)
  else ((p_T_next f  q17.2).bind fun q18 =>
  if 57 < q18.1 then (p_RR_readPaying_B59 f rec l1 q15.1 x16 1 q18.2)
  else ((p_T_next f  q18.2).bind fun q19 =>
  lt (w32 (q19.1 - 48)) fun x20 =>
  (p_T_step f  q19.2).bind fun q21 =>
  p_RR_readPaying_B59 f rec l1 q15.1 x16 x20 q21.2))
def p_RR_readPayings_B51_2 (f : Nat) (rec : Int → oM → Option (Int × oM)) (l1 : Int) (l2 : Int) (M : oM) : Option ((Int × oM) ⊕ (Int × oM)) :=
  lt (w32 (l2 + 1)) fun x1 =>
  some (.inl (x1, M))
def p_RR_readPayings_L2 (f : Nat) (rec : Int → oM → Option (Int × oM)) (l1 : Int) : Int × oM → Option ((Int × oM) ⊕ (Int × oM))
  | (l2, M) =>
  if l2 < 60 then ((p_RR_readPaying_F f rec l1 M).bind fun q3 =>
  if q3.1 = 0 then (if l1 = 0 then ((p_T_ended f  q3.2).bind fun q5 =>
  if q5.1 = 0 then (p_RR_readPayings_B51_2 f rec l1 l2 q5.2)
  else (some (.inr (0, q5.2))))
  else ((p_T_next f  q3.2).bind fun q4 =>
  if q4.1 = 41 then (some (.inr (0, q4.2)))
  else (p_RR_readPayings_B51_2 f rec l1 l2 q4.2)))
  else (some (.inr (q3.1, q3.2))))
  else ((p_T_fault f 1 M).bind fun q2 =>
  some (.inr (q2.1, q2.2)))
def p_RR_readPayings_F (f : Nat) (rec : Int → oM → Option (Int × oM)) (l1 : Int) (M : oM) : Option (Int × oM) :=
  iter (p_RR_readPayings_L2 f rec l1) f (0, M)
def p_RR_readPayings (f : Nat) : Nat → Int → oM → Option (Int × oM)
  | 0, _, _ => none
  | n + 1, l1, M => p_RR_readPayings_F f (p_RR_readPayings f n) l1 M
def p_RR_read (f : Nat) (M : oM) : Option (Int × oM) :=
  lt (oU M 39 2 0) fun M1 =>
  (p_RR_readPayings f 5 0 M1).bind fun q2 =>
  some (q2.1, q2.2)
def p_O_readRoute (f : Nat) (M : oM) : Option (Int × oM) :=
  (p_RR_read f  M).bind fun q1 =>
  (p_T_clear f  q1.2).bind fun q2 =>
  if q1.1 = 0 then (if q2.2 6 4 < 0 then (some ((-2), q2.2))
  else (some (0, q2.2)))
  else (some (q1.1, q2.2))
def p_P_hoursOf_L9 (f : Nat) (l2 : Int) : Int × Int × Int × oM → Option ((Int × Int × Int × oM) ⊕ (Int × oM))
  | (l4, l5, l6, M) =>
  if l6 < l2 then (if l6 < 60 then (bnd 60 l6 fun i1 =>
  (p_P_way f l5 (M 40 i1) M).bind fun q2 =>
  lt (w32 (l4 + q2.1)) fun x3 =>
  bnd 60 l6 fun i4 =>
  lt (q2.2 40 i4) fun x5 =>
  lt (w32 (l6 + 1)) fun x6 =>
  some (.inl (x3, x5, x6, q2.2)))
  else (some (.inr (l4, M))))
  else (some (.inr (l4, M)))
def p_P_hoursOf (f : Nat) (l2 : Int) (l3 : Int) (M : oM) : Option (Int × oM) :=
  iter (p_P_hoursOf_L9 f l2) f (0, l3, 0, M)
def p_RR_walkedBy_L2 (f : Nat) (o1 : Nat) : Int × oM → Option ((Int × oM) ⊕ (Int × oM))
  | (l2, M) =>
  if l2 < M 39 2 then (if l2 < 60 then (bnd 60 l2 fun i1 =>
  (p_D_debtOf f o1 (M o1 4) (M 40 i1) M).bind fun q2 =>
  if q2.1 = 0 then (some (.inr (l2, q2.2)))
  else (bnd 60 l2 fun i3 =>
  (p_D_pay f o1 (q2.2 o1 4) (q2.2 40 i3) q2.2).bind fun q4 =>
  lt (w32 (l2 + 1)) fun x5 =>
  some (.inl (x5, q4.2))))
  else (some (.inr (M 39 2, M))))
  else (some (.inr (M 39 2, M)))
def p_RR_walkedBy (f : Nat) (o1 : Nat) (M : oM) : Option (Int × oM) :=
  iter (p_RR_walkedBy_L2 f o1) f (0, M)
def p_O_route (f : Nat) (l1 : Int) (l2 : Int) (M : oM) : Option (Int × oM) :=
  if l2 < 0 then (some ((-1), M))
  else (if 2 < l2 then (some ((-1), M))
  else ((p_T_opens f l1 1 60 M).bind fun q1 =>
  if q1.1 = 0 then (some ((-1), q1.2))
  else ((p_O_readRoute f  q1.2).bind fun q2 =>
  if q2.1 = 0 then ((p_D_takeFrom f 14 6  q2.2).bind fun q3 =>
  (p_RR_walkedBy f 14  q3.2).bind fun q4 =>
  if l2 = 0 then (some (q4.1, q4.2))
  else (if l2 = 1 then ((p_P_hoursOf f q4.1 (q4.2 6 4) q4.2).bind fun q5 =>
  some (q5.1, q5.2))
  else (some (q4.2 14 4, q4.2))))
  else (some (q2.1, q2.2)))))
def p_O_walk (f : Nat) (l1 : Int) (M : oM) : Option (Int × oM) :=
  (p_T_opens f l1 1 60 M).bind fun q1 =>
  if q1.1 = 0 then (some ((-1), q1.2))
  else ((p_O_readRoute f  q1.2).bind fun q2 =>
  if q2.1 = 0 then ((p_RR_walkedBy f 6  q2.2).bind fun q3 =>
  some (q3.1, q3.2))
  else (some (q2.1, q2.2)))
def p_R_paidBy_B27_4 (f : Nat) (o0 : Nat) (l1 : Int) (l2 : Int) (l3 : Int) (M : oM) : Option ((Int × Int × oM) ⊕ (Int × oM)) :=
  lt (w32 (l3 + 1)) fun x1 =>
  some (.inl (l2, x1, M))
def p_R_paidBy_L4 (f : Nat) (o0 : Nat) (l1 : Int) : Int × Int × oM → Option ((Int × Int × oM) ⊕ (Int × oM))
  | (l2, l3, M) =>
  if l3 < 10 then (bnd 100 (w32 ((w32 (l1 * 10)) + l3)) fun i2 =>
  if 0 < M o0 i2 then (lt (ior l2 (ishl 1 l3)) fun x3 =>
  p_R_paidBy_B27_4 f o0 l1 x3 l3 M)
  else (p_R_paidBy_B27_4 f o0 l1 l2 l3 M))
  else (some (.inr (l2, M)))
def p_R_paidBy (f : Nat) (o0 : Nat) (l1 : Int) (M : oM) : Option (Int × oM) :=
  iter (p_R_paidBy_L4 f o0 l1) f (0, 0, M)
def p_R_reachedFrom_X33 (f : Nat) (o0 : Nat) (l3 : Int) (l4 : Int) (l5 : Int) : Int × oM → Option ((Int × Int × Int × oM) ⊕ (Int × oM))
  | (l2, M) =>
  lt (w32 (l4 + 1)) fun x1 =>
  some (.inl (l2, l3, x1, M))
def p_R_reachedFrom_B60_33 (f : Nat) (o0 : Nat) (l2 : Int) (l3 : Int) (l4 : Int) (l5 : Int) (l6 : Int) (M : oM) : Option ((Int × Int × oM) ⊕ (Int × oM)) :=
  lt (w32 (l6 + 1)) fun x2 =>
  some (.inl (l2, x2, M))
def p_R_reachedFrom_L33 (f : Nat) (o0 : Nat) (l3 : Int) (l4 : Int) (l5 : Int) : Int × Int × oM → Option ((Int × Int × oM) ⊕ (Int × oM))
  | (l2, l6, M) =>
  if l6 < 10 then (if iand (ishr l5 l6) 1 = 1 then ((p_R_paidBy f o0 l6 M).bind fun q3 =>
  lt (ior l2 q3.1) fun x4 =>
  p_R_reachedFrom_B60_33 f o0 x4 l3 l4 l5 l6 q3.2)
  else (p_R_reachedFrom_B60_33 f o0 l2 l3 l4 l5 l6 M))
  else (some (.inr (l2, M)))
def p_R_reachedFrom_L9 (f : Nat) (o0 : Nat) : Int × Int × Int × oM → Option ((Int × Int × Int × oM) ⊕ (Int × oM))
  | (l2, l3, l4, M) =>
  if l4 < 10 then (if l3 = l2 then (some (.inr (l2, M)))
  else (lt (iand l2 (ixor l3 (-1))) fun x5 =>
  (iter (p_R_reachedFrom_L33 f o0 l2 l4 x5) f (l2, 0, M)).bind (p_R_reachedFrom_X33 f o0 l2 l4 x5)))
  else (some (.inr (l2, M)))
def p_R_reachedFrom (f : Nat) (o0 : Nat) (l1 : Int) (M : oM) : Option (Int × oM) :=
  lt (ishl 1 l1) fun x6 =>
  iter (p_R_reachedFrom_L9 f o0) f (x6, 0, 0, M)
def p_R_isOneRow_B130_7 (f : Nat) (o0 : Nat) (l1 : Int) (l3 : Int) (l4 : Int) (s0 : Int) (s1 : Int) (M : oM) : Option ((Int × Int × Int × oM) ⊕ (Int × oM)) :=
  lt (ior s0 s1) fun x1 =>
  lt (w32 (l4 + 1)) fun x2 =>
  some (.inl (x1, l3, x2, M))
def p_R_isOneRow_B114_7 (f : Nat) (o0 : Nat) (l1 : Int) (l2 : Int) (l4 : Int) (l5 : Int) (s0 : Int) (s1 : Int) (M : oM) : Option ((Int × Int × Int × oM) ⊕ (Int × oM)) :=
  lt (w32 (s0 + s1)) fun x3 =>
  if 0 < l5 then (p_R_isOneRow_B130_7 f o0 l1 x3 l4 l2 (ishl 1 l4) M)
  else (p_R_isOneRow_B130_7 f o0 l1 x3 l4 l2 0 M)
def p_R_isOneRow_B90_7 (f : Nat) (o0 : Nat) (l1 : Int) (l2 : Int) (l3 : Int) (l4 : Int) (l5 : Int) (l6 : Int) (M : oM) : Option ((Int × Int × Int × oM) ⊕ (Int × oM)) :=
  if w32 (l5 + 1) < l6 then (some (.inr (0, M)))
  else (if l5 < l6 then (p_R_isOneRow_B114_7 f o0 l1 l2 l4 l5 l3 1 M)
  else (p_R_isOneRow_B114_7 f o0 l1 l2 l4 l5 l3 0 M))
def p_R_isOneRow_X23 (f : Nat) (o0 : Nat) (l1 : Int) (l2 : Int) (l3 : Int) (l4 : Int) : Int × Int × oM → Option ((Int × Int × Int × oM) ⊕ (Int × oM))
  | (l5, l6, M) =>
  if w32 (l6 + 1) < l5 then (some (.inr (0, M)))
  else (if l5 = w32 (l6 + 1) then (if l4 = l1 then (p_R_isOneRow_B90_7 f o0 l1 l2 l3 l4 l5 l6 M)
  else (some (.inr (0, M))))
  else (p_R_isOneRow_B90_7 f o0 l1 l2 l3 l4 l5 l6 M))
def p_R_isOneRow_L23 (f : Nat) (o0 : Nat) (l1 : Int) (l2 : Int) (l3 : Int) (l4 : Int) : Int × Int × Int × oM → Option ((Int × Int × Int × oM) ⊕ (Int × Int × oM))
  | (l5, l6, l7, M) =>
  if l7 < 10 then (bnd 100 (w32 ((w32 (l4 * 10)) + l7)) fun i4 =>
  lt (w32 (l5 + (M o0 i4))) fun x5 =>
  bnd 100 (w32 ((w32 (l7 * 10)) + l4)) fun i6 =>
  lt (w32 (l6 + (M o0 i6))) fun x7 =>
  lt (w32 (l7 + 1)) fun x8 =>
  some (.inl (x5, x7, x8, M)))
  else (some (.inr (l5, l6, M)))
def p_R_isOneRow_L7 (f : Nat) (o0 : Nat) (l1 : Int) : Int × Int × Int × oM → Option ((Int × Int × Int × oM) ⊕ (Int × oM))
  | (l2, l3, l4, M) =>
  if l4 < 10 then ((iter (p_R_isOneRow_L23 f o0 l1 l2 l3 l4) f (0, 0, 0, M)).bind (p_R_isOneRow_X23 f o0 l1 l2 l3 l4))
  else (if 1 < l3 then (some (.inr (0, M)))
  else ((p_R_reachedFrom f o0 l1 M).bind fun q9 =>
  if iand l2 (ixor q9.1 (-1)) = 0 then (some (.inr (1, q9.2)))
  else (some (.inr (0, q9.2)))))
def p_R_isOneRow (f : Nat) (o0 : Nat) (l1 : Int) (M : oM) : Option (Int × oM) :=
  iter (p_R_isOneRow_L7 f o0 l1) f (0, 0, 0, M)
def p_R_leastNext_B57_2 (f : Nat) (l1 : Int) (l2 : Int) (M : oM) : Option ((Int × oM) ⊕ (Int × oM)) :=
  lt (w32 (l2 + 1)) fun x1 =>
  some (.inl (x1, M))
def p_R_leastNext_L2 (f : Nat) (l1 : Int) : Int × oM → Option ((Int × oM) ⊕ (Int × oM))
  | (l2, M) =>
  if l2 < 10 then (lt (w32 ((w32 (l1 * 10)) + l2)) fun x2 =>
  bnd 100 x2 fun i3 =>
  if 0 < M 43 i3 then (bnd 100 x2 fun i4 =>
  bnd 100 x2 fun i5 =>
  lt (oU M 43 i5 (w32 ((M 43 i4) - 1))) fun M6 =>
  (p_R_isOneRow f 43 l2 M6).bind fun q7 =>
  if q7.1 = 0 then (bnd 100 x2 fun i8 =>
  bnd 100 x2 fun i9 =>
  lt (oU q7.2 43 i9 (w32 ((q7.2 43 i8) + 1))) fun M10 =>
  p_R_leastNext_B57_2 f l1 l2 M10)
  else (some (.inr (l2, q7.2))))
  else (p_R_leastNext_B57_2 f l1 l2 M))
  else (some (.inr ((-1), M)))
def p_R_leastNext (f : Nat) (l1 : Int) (M : oM) : Option (Int × oM) :=
  iter (p_R_leastNext_L2 f l1) f (0, M)
def p_R_planTour_L18 (f : Nat) (l3 : Int) : Int × Int × oM → Option ((Int × Int × oM) ⊕ (Int × oM))
  | (l4, l5, M) =>
  if l5 < l3 then (if l5 < 60 then ((p_R_leastNext f l4 M).bind fun q1 =>
  if q1.1 < 0 then (some (.inr (0, q1.2)))
  else (bnd 60 l5 fun i2 =>
  lt (oU q1.2 47 i2 q1.1) fun M3 =>
  lt (w32 (l5 + 1)) fun x4 =>
  some (.inl (q1.1, x4, M3))))
  else (some (.inr (0, M))))
  else (some (.inr (0, M)))
def p_R_planTour (f : Nat) (l2 : Int) (l3 : Int) (M : oM) : Option (Int × oM) :=
  cpg 100 100 0 0 100 fun _ =>
  lt (acopy M 7 0 43 0 100) fun M5 =>
  iter (p_R_planTour_L18 f l3) f (l2, 0, M5)
def p_O_tour_B184 (f : Nat) (M : oM) : Option (Int × oM) :=
  some (1, M)
def p_O_tour_B131 (f : Nat) (l1 : Int) (l3 : Int) (M : oM) : Option (Int × oM) :=
  (p_R_planTour f (M 6 4) l3 M).bind fun q1 =>
  if l1 = 102 then (if l3 = 0 then (p_O_tour_B184 f q1.2)
  else (bnd 60 (w32 (l3 - 1)) fun i3 =>
  if q1.2 47 i3 = q1.2 6 4 then (p_O_tour_B184 f q1.2)
  else (some (0, q1.2))))
  else (bnd 60 l1 fun i2 =>
  some (q1.2 47 i2, q1.2))
def p_O_tour_B40 (f : Nat) (l1 : Int) (l2 : Int) (M : oM) : Option (Int × oM) :=
  if M 6 4 < 0 then (some ((-2), M))
  else ((p_D_owedInAll f 6  M).bind fun q4 =>
  if 60 < q4.1 then (some ((-3), q4.2))
  else (if l1 = 101 then (some (q4.1, q4.2))
  else ((p_R_isOneRow f 7 (q4.2 6 4) q4.2).bind fun q5 =>
  if l1 = 100 then (if q5.1 = 0 then (some (0, q5.2))
  else (some (1, q5.2)))
  else (if q5.1 = 0 then (some ((-4), q5.2))
  else (if l2 = 0 then (p_O_tour_B131 f l1 q4.1 q5.2)
  else (if l1 < q4.1 then (p_O_tour_B131 f l1 q4.1 q5.2)
  else (some ((-4), q5.2))))))))
def p_O_tour_B15 (f : Nat) (l1 : Int) (s0 : Int) (M : oM) : Option (Int × oM) :=
  if s0 = 0 then (if l1 = 100 then (p_O_tour_B40 f l1 s0 M)
  else (if l1 = 101 then (p_O_tour_B40 f l1 s0 M)
  else (if l1 = 102 then (p_O_tour_B40 f l1 s0 M)
  else (some ((-1), M)))))
  else (p_O_tour_B40 f l1 s0 M)
def p_O_tour_B14 (f : Nat) (l1 : Int) (M : oM) : Option (Int × oM) :=
  p_O_tour_B15 f l1 0 M
def p_O_tour (f : Nat) (l1 : Int) (M : oM) : Option (Int × oM) :=
  if l1 < 0 then (p_O_tour_B14 f l1 M)
  else (if l1 < 60 then (p_O_tour_B15 f l1 1 M)
  else (p_O_tour_B14 f l1 M))
def p_R_lengthen_B97_36 (f : Nat) (rec : Int → Int → oM → Option (Int × oM)) (l1 : Int) (l2 : Int) (l3 : Int) (M : oM) : Option ((Int × oM) ⊕ (Int × oM)) :=
  lt (w32 (l3 + 1)) fun x1 =>
  some (.inl (x1, M))
def p_R_lengthen_L36 (f : Nat) (rec : Int → Int → oM → Option (Int × oM)) (l1 : Int) (l2 : Int) : Int × oM → Option ((Int × oM) ⊕ (Int × oM))
  | (l3, M) =>
  if l3 < 10 then (lt (w32 ((w32 (l1 * 10)) + l3)) fun x2 =>
  bnd 100 x2 fun i3 =>
  if 0 < M 43 i3 then (bnd 100 x2 fun i4 =>
  bnd 100 x2 fun i5 =>
  lt (oU M 43 i5 (w32 ((M 43 i4) - 1))) fun M6 =>
  bnd 60 l2 fun i7 =>
  lt (oU M6 47 i7 l3) fun M8 =>
  (rec l3 (w32 (l2 + 1)) M8).bind fun q9 =>
  bnd 100 x2 fun i10 =>
  bnd 100 x2 fun i11 =>
  lt (oU q9.2 43 i11 (w32 ((q9.2 43 i10) + 1))) fun M12 =>
  p_R_lengthen_B97_36 f rec l1 l2 l3 M12)
  else (p_R_lengthen_B97_36 f rec l1 l2 l3 M))
  else (some (.inr (0, M)))
def p_R_lengthen_B27 (f : Nat) (rec : Int → Int → oM → Option (Int × oM)) (l1 : Int) (l2 : Int) (M : oM) : Option (Int × oM) :=
  if l2 < 12 then (iter (p_R_lengthen_L36 f rec l1 l2) f (0, M))
  else (some (0, M))
def p_R_lengthen_F (f : Nat) (rec : Int → Int → oM → Option (Int × oM)) (l1 : Int) (l2 : Int) (M : oM) : Option (Int × oM) :=
  if M 42 7 < l2 then (lt (oU M 42 7 l2) fun M13 =>
  cpg 60 12 0 0 l2 fun _ =>
  lt (acopy M13 47 0 48 0 l2) fun M14 =>
  p_R_lengthen_B27 f rec l1 l2 M14)
  else (p_R_lengthen_B27 f rec l1 l2 M)
def p_R_lengthen (f : Nat) : Nat → Int → Int → oM → Option (Int × oM)
  | 0, _, _, _ => none
  | n + 1, l1, l2, M => p_R_lengthen_F f (p_R_lengthen f n) l1 l2 M
def p_R_planMost (f : Nat) (l2 : Int) (M : oM) : Option (Int × oM) :=
  cpg 100 100 0 0 100 fun _ =>
  lt (acopy M 7 0 43 0 100) fun M1 =>
  lt (oU M1 42 7 0) fun M2 =>
  (p_R_lengthen f 14 l2 0 M2).bind fun q3 =>
  some (q3.2 42 7, q3.2)
def p_O_most_B28 (f : Nat) (l1 : Int) (l2 : Int) (M : oM) : Option (Int × oM) :=
  if M 6 4 < 0 then (some ((-2), M))
  else ((p_D_owedInAll f 6  M).bind fun q1 =>
  if 12 < q1.1 then (some ((-3), q1.2))
  else ((p_R_planMost f (q1.2 6 4) q1.2).bind fun q2 =>
  if l1 = 100 then (some (q2.1, q2.2))
  else (if l2 = 0 then (some ((-4), q2.2))
  else (if l1 < q2.1 then (bnd 12 l1 fun i3 =>
  some (q2.2 48 i3, q2.2))
  else (some ((-4), q2.2))))))
def p_O_most_B15 (f : Nat) (l1 : Int) (s0 : Int) (M : oM) : Option (Int × oM) :=
  if s0 = 0 then (if l1 = 100 then (p_O_most_B28 f l1 s0 M)
  else (some ((-1), M)))
  else (p_O_most_B28 f l1 s0 M)
def p_O_most_B14 (f : Nat) (l1 : Int) (M : oM) : Option (Int × oM) :=
  p_O_most_B15 f l1 0 M
def p_O_most (f : Nat) (l1 : Int) (M : oM) : Option (Int × oM) :=
  if l1 < 0 then (p_O_most_B14 f l1 M)
  else (if l1 < 12 then (p_O_most_B15 f l1 1 M)
  else (p_O_most_B14 f l1 M))
def p_R_wayBack_X22 (f : Nat) (l2 : Int) (l3 : Int) (l4 : Int) : oM → Option ((Int × oM) ⊕ (Int × oM))
  | M =>
  lt (w32 (l4 + 1)) fun x1 =>
  some (.inl (x1, M))
def p_R_wayBack_B108_22 (f : Nat) (l2 : Int) (l3 : Int) (l4 : Int) (l5 : Int) (M : oM) : Option ((Int × oM) ⊕ (oM)) :=
  lt (w32 (l5 + 1)) fun x2 =>
  some (.inl (x2, M))
def p_R_wayBack_B103_22 (f : Nat) (l2 : Int) (l3 : Int) (l4 : Int) (l5 : Int) (s1 : Int) (s2 : Int) (s3 : Int) (s4 : Int) (M : oM) : Option ((Int × oM) ⊕ (oM)) :=
  bnd 10 s1 fun i3 =>
  lt (oU M 46 i3 (imin s2 (w32 (s3 + s4)))) fun M4 =>
  p_R_wayBack_B108_22 f l2 l3 l4 l5 M4
def p_R_wayBack_B67_22 (f : Nat) (l2 : Int) (l3 : Int) (l4 : Int) (l5 : Int) (l6 : Int) (l7 : Int) (s0 : Int) (M : oM) : Option ((Int × oM) ⊕ (oM)) :=
  bnd 10 l7 fun i5 =>
  if l3 = 0 then (p_R_wayBack_B103_22 f l2 l3 l4 l5 l7 (M 46 i5) s0 1 M)
  else ((p_P_way f l6 l7 M).bind fun q6 =>
  p_R_wayBack_B103_22 f l2 l3 l4 l5 l7 (M 46 i5) s0 q6.1 q6.2)
def p_R_wayBack_L22 (f : Nat) (l2 : Int) (l3 : Int) (l4 : Int) : Int × oM → Option ((Int × oM) ⊕ (oM))
  | (l5, M) =>
  if l5 < 100 then (nz 10 fun z7 =>
  lt (w32 (Int.tdiv l5 z7)) fun x8 =>
  nz 10 fun z9 =>
  lt (Int.tmod l5 z9) fun x10 =>
  bnd 100 l5 fun i11 =>
  if 0 < M 7 i11 then (if x8 = l2 then (p_R_wayBack_B67_22 f l2 l3 l4 l5 x8 x10 0 M)
  else (bnd 10 x8 fun i12 =>
  p_R_wayBack_B67_22 f l2 l3 l4 l5 x8 x10 (M 46 i12) M))
  else (p_R_wayBack_B108_22 f l2 l3 l4 l5 M))
  else (some (.inr M))
def p_R_wayBack_L12 (f : Nat) (l2 : Int) (l3 : Int) : Int × oM → Option ((Int × oM) ⊕ (Int × oM))
  | (l4, M) =>
  if l4 < 10 then ((iter (p_R_wayBack_L22 f l2 l3 l4) f (0, M)).bind (p_R_wayBack_X22 f l2 l3 l4))
  else (bnd 10 l2 fun i13 =>
  some (.inr (M 46 i13, M)))
def p_R_wayBack (f : Nat) (l2 : Int) (l3 : Int) (M : oM) : Option (Int × oM) :=
  (p_JA_fill f 46 10 1000000 M).bind fun q14 =>
  iter (p_R_wayBack_L12 f l2 l3) f (0, q14.2)
def p_O_back_B44 (f : Nat) (s2 : Int) (s3 : Int) (M : oM) : Option (Int × oM) :=
  (p_R_wayBack f s2 s3 M).bind fun q1 =>
  if q1.1 < 1000000 then (some (q1.1, q1.2))
  else (some ((-2), q1.2))
def p_O_back_B22 (f : Nat) (l1 : Int) (l2 : Int) (M : oM) : Option (Int × oM) :=
  if l2 = 1 then (p_O_back_B44 f l1 1 M)
  else (p_O_back_B44 f l1 0 M)
def p_O_back (f : Nat) (l1 : Int) (l2 : Int) (M : oM) : Option (Int × oM) :=
  (p_P_has f l1 M).bind fun q2 =>
  if q2.1 = 0 then (some ((-1), q2.2))
  else (if l2 = 0 then (p_O_back_B22 f l1 l2 q2.2)
  else (if l2 = 1 then (p_O_back_B22 f l1 l2 q2.2)
  else (some ((-1), q2.2))))
def p_B_weigh_L2 (f : Nat) : Int × oM → Option ((Int × oM) ⊕ (Int × oM))
  | (l2, M) =>
  if l2 < 10 then ((p_D_owedTo f l2 M).bind fun q1 =>
  (p_D_owedBy f 6 l2 q1.2).bind fun q2 =>
  bnd 10 l2 fun i3 =>
  lt (oU q2.2 50 i3 (w32 (q1.1 - q2.1))) fun M4 =>
  lt (w32 (l2 + 1)) fun x5 =>
  some (.inl (x5, M4)))
  else (some (.inr (0, M)))
def p_B_weigh (f : Nat) (M : oM) : Option (Int × oM) :=
  iter (p_B_weigh_L2 f) f (0, M)
def p_B_newDebts_L9 (f : Nat) : Int × Int × oM → Option ((Int × Int × oM) ⊕ (Int × oM))
  | (l2, l3, M) =>
  if l3 < 10 then (bnd 10 l3 fun i1 =>
  lt (w32 (l2 + (imax 0 (M 50 i1)))) fun x2 =>
  lt (w32 (l3 + 1)) fun x3 =>
  some (.inl (x2, x3, M)))
  else (some (.inr (l2, M)))
def p_B_newDebts (f : Nat) (M : oM) : Option (Int × oM) :=
  (p_B_weigh f  M).bind fun q4 =>
  iter (p_B_newDebts_L9 f) f (0, 0, q4.2)
def p_B_assign_B20 (f : Nat) (rec : Int → Int → Int → oM → Option (Int × oM)) (l3 : Int) (M : oM) : Option (Int × oM) :=
  lt (oU M 49 8 l3) fun M1 =>
  cpg 6 6 0 0 6 fun _ =>
  lt (acopy M1 53 0 54 0 6) fun M2 =>
  some (0, M2)
def p_B_assign_B116_44 (f : Nat) (rec : Int → Int → Int → oM → Option (Int × oM)) (l1 : Int) (l2 : Int) (l3 : Int) (l4 : Int) (M : oM) : Option ((Int × oM) ⊕ (Int × oM)) :=
  lt (w32 (l4 + 1)) fun x3 =>
  some (.inl (x3, M))
def p_B_assign_L44 (f : Nat) (rec : Int → Int → Int → oM → Option (Int × oM)) (l1 : Int) (l2 : Int) (l3 : Int) : Int × oM → Option ((Int × oM) ⊕ (Int × oM))
  | (l4, M) =>
  if l4 < 10 then (bnd 10 l4 fun i4 =>
  if M 50 i4 < 0 then (bnd 10 l4 fun i5 =>
  bnd 10 l4 fun i6 =>
  lt (oU M 50 i6 (w32 ((M 50 i5) + 1))) fun M7 =>
  bnd 6 l1 fun i8 =>
  lt (oU M7 53 i8 l4) fun M9 =>
  bnd 6 l1 fun i10 =>
  (p_P_way f (M9 52 i10) l4 M9).bind fun q11 =>
  (rec (w32 (l1 + 1)) l2 (w32 (l3 + q11.1)) q11.2).bind fun q12 =>
  bnd 10 l4 fun i13 =>
  bnd 10 l4 fun i14 =>
  lt (oU q12.2 50 i14 (w32 ((q12.2 50 i13) - 1))) fun M15 =>
  p_B_assign_B116_44 f rec l1 l2 l3 l4 M15)
  else (p_B_assign_B116_44 f rec l1 l2 l3 l4 M))
  else (some (.inr (0, M)))
def p_B_assign_F (f : Nat) (rec : Int → Int → Int → oM → Option (Int × oM)) (l1 : Int) (l2 : Int) (l3 : Int) (M : oM) : Option (Int × oM) :=
  if l3 < M 49 8 then (if l1 < l2 then (if l1 < 6 then (iter (p_B_assign_L44 f rec l1 l2 l3) f (0, M))
  else (p_B_assign_B20 f rec l3 M))
  else (p_B_assign_B20 f rec l3 M))
  else (some (0, M))
def p_B_assign (f : Nat) : Nat → Int → Int → Int → oM → Option (Int × oM)
  | 0, _, _, _, _ => none
  | n + 1, l1, l2, l3, M => p_B_assign_F f (p_B_assign f n) l1 l2 l3 M
def p_B_planNewDebts_X13 (f : Nat) (l1 : Int) (l3 : Int) : Int × oM → Option ((Int × Int × oM) ⊕ (Int × oM))
  | (l2, M) =>
  lt (w32 (l3 + 1)) fun x1 =>
  some (.inl (l2, x1, M))
def p_B_planNewDebts_L13 (f : Nat) (l1 : Int) (l3 : Int) : Int × Int × oM → Option ((Int × Int × oM) ⊕ (Int × oM))
  | (l2, l4, M) =>
  bnd 10 l3 fun i2 =>
  if l4 < M 50 i2 then (if l2 < 6 then (bnd 6 l2 fun i3 =>
  lt (oU M 52 i3 l3) fun M4 =>
  lt (w32 (l2 + 1)) fun x5 =>
  lt (w32 (l4 + 1)) fun x6 =>
  some (.inl (x5, x6, M4)))
  else (some (.inr (l2, M))))
  else (some (.inr (l2, M)))
def p_B_planNewDebts_L4 (f : Nat) (l1 : Int) : Int × Int × oM → Option ((Int × Int × oM) ⊕ (Int × oM))
  | (l2, l3, M) =>
  if l3 < 10 then ((iter (p_B_planNewDebts_L13 f l1 l3) f (l2, 0, M)).bind (p_B_planNewDebts_X13 f l1 l3))
  else (lt (oU M 49 8 1000000) fun M7 =>
  (p_B_assign f 9 0 (imin l1 l2) 0 M7).bind fun q8 =>
  some (.inr (0, q8.2)))
def p_B_planNewDebts (f : Nat) (l1 : Int) (M : oM) : Option (Int × oM) :=
  iter (p_B_planNewDebts_L4 f l1) f (0, 0, M)
def p_O_even_B75 (f : Nat) (l1 : Int) (l2 : Int) (l3 : Int) (M : oM) : Option (Int × oM) :=
  (p_B_planNewDebts f l3 M).bind fun q1 =>
  if l2 = 0 then (some (q1.2 49 8, q1.2))
  else (bnd 6 l1 fun i2 =>
  some (q1.2 54 i2, q1.2))
def p_O_even_B34 (f : Nat) (l1 : Int) (l2 : Int) (M : oM) : Option (Int × oM) :=
  (p_B_newDebts f  M).bind fun q3 =>
  if l1 = 100 then (some (q3.1, q3.2))
  else (if 6 < q3.1 then (some ((-3), q3.2))
  else (if l2 = 0 then (p_O_even_B75 f l1 l2 q3.1 q3.2)
  else (if l1 < q3.1 then (p_O_even_B75 f l1 l2 q3.1 q3.2)
  else (some ((-4), q3.2)))))
def p_O_even_B15 (f : Nat) (l1 : Int) (s0 : Int) (M : oM) : Option (Int × oM) :=
  if s0 = 0 then (if l1 = 100 then (p_O_even_B34 f l1 s0 M)
  else (if l1 = 101 then (p_O_even_B34 f l1 s0 M)
  else (some ((-1), M))))
  else (p_O_even_B34 f l1 s0 M)
def p_O_even_B14 (f : Nat) (l1 : Int) (M : oM) : Option (Int × oM) :=
  p_O_even_B15 f l1 0 M
def p_O_even (f : Nat) (l1 : Int) (M : oM) : Option (Int × oM) :=
  if l1 < 0 then (p_O_even_B14 f l1 M)
  else (if l1 < 6 then (p_O_even_B15 f l1 1 M)
  else (p_O_even_B14 f l1 M))
def p_B_isEvenTurned_L81 (f : Nat) : Int × oM → Option ((Int × oM) ⊕ (Int × oM))
  | (l3, M) =>
  if l3 < 10 then (bnd 10 l3 fun i1 =>
  if M 51 i1 = 0 then (lt (w32 (l3 + 1)) fun x2 =>
  some (.inl (x2, M)))
  else (some (.inr (0, M))))
  else (some (.inr (1, M)))
def p_B_isEvenTurned_X17 (f : Nat) (l1 : Int) (l2 : Int) : oM → Option (Int × oM)
  | M =>
  iter (p_B_isEvenTurned_L81 f) f (0, M)
def p_B_isEvenTurned_B73_17 (f : Nat) (l1 : Int) (l2 : Int) (l3 : Int) (M : oM) : Option ((Int × oM) ⊕ (oM)) :=
  lt (w32 (l3 + 1)) fun x3 =>
  some (.inl (x3, M))
def p_B_isEvenTurned_L17 (f : Nat) (l1 : Int) (l2 : Int) : Int × oM → Option ((Int × oM) ⊕ (oM))
  | (l3, M) =>
  if l3 < l2 then (if l3 < 12 then (if iand (ishr l1 l3) 1 = 1 then (bnd 12 l3 fun i4 =>
  nz 10 fun z5 =>
  bnd 10 (w32 (Int.tdiv (M 55 i4) z5)) fun i6 =>
  bnd 10 (w32 (Int.tdiv (M 55 i4) z5)) fun i7 =>
  lt (oU M 51 i7 (w32 ((M 51 i6) + 2))) fun M8 =>
  bnd 12 l3 fun i9 =>
  nz 10 fun z10 =>
  bnd 10 (Int.tmod (M8 55 i9) z10) fun i11 =>
  bnd 10 (Int.tmod (M8 55 i9) z10) fun i12 =>
  lt (oU M8 51 i12 (w32 ((M8 51 i11) - 2))) fun M13 =>
  p_B_isEvenTurned_B73_17 f l1 l2 l3 M13)
  else (p_B_isEvenTurned_B73_17 f l1 l2 l3 M))
  else (some (.inr M)))
  else (some (.inr M))
def p_B_isEvenTurned (f : Nat) (l1 : Int) (l2 : Int) (M : oM) : Option (Int × oM) :=
  cpg 10 10 0 0 10 fun _ =>
  lt (acopy M 50 0 51 0 10) fun M14 =>
  (iter (p_B_isEvenTurned_L17 f l1 l2) f (0, M14)).bind (p_B_isEvenTurned_X17 f l1 l2)
def p_D_listCoins_X13 (f : Nat) (o1 : Nat) (n1 : Int) (l3 : Int) : Int × oM → Option ((Int × Int × oM) ⊕ (Int × oM))
  | (l2, M) =>
  lt (w32 (l3 + 1)) fun x1 =>
  some (.inl (l2, x1, M))
def p_D_listCoins_L13 (f : Nat) (o1 : Nat) (n1 : Int) (l3 : Int) : Int × Int × oM → Option ((Int × Int × oM) ⊕ (Int × oM))
  | (l2, l4, M) =>
  bnd 100 l3 fun i2 =>
  if l4 < M 7 i2 then (if l2 < n1 then (bnd n1 l2 fun i3 =>
  lt (oU M o1 i3 l3) fun M4 =>
  lt (w32 (l2 + 1)) fun x5 =>
  lt (w32 (l4 + 1)) fun x6 =>
  some (.inl (x5, x6, M4)))
  else (some (.inr (l2, M))))
  else (some (.inr (l2, M)))
def p_D_listCoins_L4 (f : Nat) (o1 : Nat) (n1 : Int) : Int × Int × oM → Option ((Int × Int × oM) ⊕ (Int × oM))
  | (l2, l3, M) =>
  if l3 < 100 then ((iter (p_D_listCoins_L13 f o1 n1 l3) f (l2, 0, M)).bind (p_D_listCoins_X13 f o1 n1 l3))
  else (some (.inr (l2, M)))
def p_D_listCoins (f : Nat) (o1 : Nat) (n1 : Int) (M : oM) : Option (Int × oM) :=
  iter (p_D_listCoins_L4 f o1 n1) f (0, 0, M)
def p_JI_bitCount (f : Nat) (l0 : Int) (M : oM) : Option (Int × oM) :=
  lt (w32 (l0 - (iand (iushr l0 1) 1431655765))) fun x1 =>
  lt (w32 ((iand x1 858993459) + (iand (iushr x1 2) 858993459))) fun x2 =>
  lt (iand (w32 (x2 + (iushr x2 4))) 252645135) fun x3 =>
  lt (w32 (x3 + (iushr x3 8))) fun x4 =>
  lt (w32 (x4 + (iushr x4 16))) fun x5 =>
  some (iand x5 63, M)
def p_B_leastTurned_B61_23 (f : Nat) (l2 : Int) (l3 : Int) (l4 : Int) (l5 : Int) (M : oM) : Option ((Int × Int × Int × oM) ⊕ (Int × oM)) :=
  lt (w32 (l5 + 1)) fun x1 =>
  some (.inl (l3, l4, x1, M))
def p_B_leastTurned_L23 (f : Nat) (l2 : Int) : Int × Int × Int × oM → Option ((Int × Int × Int × oM) ⊕ (Int × oM))
  | (l3, l4, l5, M) =>
  if l5 < ishl 1 l2 then ((p_JI_bitCount f l5 M).bind fun q2 =>
  if q2.1 < l4 then ((p_B_isEvenTurned f l5 l2 q2.2).bind fun q3 =>
  if q3.1 = 0 then (p_B_leastTurned_B61_23 f l2 l3 l4 l5 q3.2)
  else ((p_JI_bitCount f l5 q3.2).bind fun q4 =>
  p_B_leastTurned_B61_23 f l2 l5 q4.1 l5 q4.2))
  else (p_B_leastTurned_B61_23 f l2 l3 l4 l5 q2.2))
  else (some (.inr (l3, M)))
def p_B_leastTurned (f : Nat) (M : oM) : Option (Int × oM) :=
  (p_B_weigh f  M).bind fun q5 =>
  (p_D_listCoins f 55 12  q5.2).bind fun q6 =>
  iter (p_B_leastTurned_L23 f q6.1) f ((-1), 13, 0, q6.2)
def p_O_turned_B11 (f : Nat) (l1 : Int) (M : oM) : Option (Int × oM) :=
  (p_D_owedInAll f 6  M).bind fun q1 =>
  if 12 < q1.1 then (some ((-3), q1.2))
  else ((p_B_leastTurned f  q1.2).bind fun q2 =>
  if q2.1 < 0 then (some ((-2), q2.2))
  else (if l1 = 1 then (some (q2.1, q2.2))
  else ((p_JI_bitCount f q2.1 q2.2).bind fun q3 =>
  some (q3.1, q3.2))))
def p_O_turned (f : Nat) (l1 : Int) (M : oM) : Option (Int × oM) :=
  if l1 = 0 then (p_O_turned_B11 f l1 M)
  else (if l1 = 1 then (p_O_turned_B11 f l1 M)
  else (some ((-1), M)))
def p_O_setOff (f : Nat) (l1 : Int) (M : oM) : Option (Int × oM) :=
  (p_P_has f l1 M).bind fun q1 =>
  if q1.1 = 0 then (some ((-1000000), q1.2))
  else ((p_D_owedTo f l1 q1.2).bind fun q2 =>
  (p_D_owedBy f 6 l1 q2.2).bind fun q3 =>
  some (w32 (q2.1 - q3.1), q3.2))
def p_B_fewestPayings_B93_7 (f : Nat) (l2 : Int) (s1 : Int) (s2 : Int) (M : oM) : Option ((Int × oM) ⊕ (Int × oM)) :=
  bnd 1024 s1 fun i1 =>
  lt (oU M 56 i1 s2) fun M2 =>
  lt (w32 (l2 + 1)) fun x3 =>
  some (.inl (x3, M2))
def p_B_fewestPayings_X22 (f : Nat) (l2 : Int) : Int × Int × oM → Option ((Int × oM) ⊕ (Int × oM))
  | (l3, l4, M) =>
  if l3 = 0 then (p_B_fewestPayings_B93_7 f l2 l2 (w32 (l4 + 1)) M)
  else (p_B_fewestPayings_B93_7 f l2 l2 l4 M)
def p_B_fewestPayings_B69_22 (f : Nat) (l2 : Int) (l3 : Int) (l4 : Int) (l5 : Int) (M : oM) : Option ((Int × Int × Int × oM) ⊕ (Int × Int × oM)) :=
  lt (w32 (l5 + 1)) fun x4 =>
  some (.inl (l3, l4, x4, M))
def p_B_fewestPayings_L22 (f : Nat) (l2 : Int) : Int × Int × Int × oM → Option ((Int × Int × Int × oM) ⊕ (Int × Int × oM))
  | (l3, l4, l5, M) =>
  if l5 < 10 then (if iand (ishr l2 l5) 1 = 1 then (bnd 10 l5 fun i5 =>
  lt (w32 (l3 + (M 50 i5))) fun x6 =>
  bnd 1024 (iand l2 (ixor (ishl 1 l5) (-1))) fun i7 =>
  lt (imax l4 (M 56 i7)) fun x8 =>
  p_B_fewestPayings_B69_22 f l2 x6 x8 l5 M)
  else (p_B_fewestPayings_B69_22 f l2 l3 l4 l5 M))
  else (some (.inr (l3, l4, M)))
def p_B_fewestPayings_L7 (f : Nat) : Int × oM → Option ((Int × oM) ⊕ (Int × oM))
  | (l2, M) =>
  if l2 < 1024 then ((iter (p_B_fewestPayings_L22 f l2) f (0, 0, 0, M)).bind (p_B_fewestPayings_X22 f l2))
  else (bnd 1024 1023 fun i9 =>
  some (.inr (w32 (10 - (M 56 i9)), M)))
def p_B_fewestPayings (f : Nat) (M : oM) : Option (Int × oM) :=
  (p_B_weigh f  M).bind fun q10 =>
  iter (p_B_fewestPayings_L7 f) f (1, q10.2)
def p_O_fewest (f : Nat) (M : oM) : Option (Int × oM) :=
  (p_B_fewestPayings f  M).bind fun q1 =>
  some (q1.1, q1.2)
def p_R_ringOf_B49_11 (f : Nat) (l1 : Int) (l2 : Int) (l3 : Int) (l4 : Int) (M : oM) : Option ((Int × Int × oM) ⊕ (Int × oM)) :=
  lt (w32 (l4 + 1)) fun x1 =>
  some (.inl (l2, x1, M))
def p_R_ringOf_L11 (f : Nat) (l1 : Int) (l3 : Int) : Int × Int × oM → Option ((Int × Int × oM) ⊕ (Int × oM))
  | (l2, l4, M) =>
  if l4 < 10 then (if iand (ishr l3 l4) 1 = 1 then ((p_R_reachedFrom f 7 l4 M).bind fun q2 =>
  if iand (ishr q2.1 l1) 1 = 1 then (lt (ior l2 (ishl 1 l4)) fun x3 =>
  p_R_ringOf_B49_11 f l1 x3 l3 l4 q2.2)
  else (p_R_ringOf_B49_11 f l1 l2 l3 l4 q2.2))
  else (p_R_ringOf_B49_11 f l1 l2 l3 l4 M))
  else (some (.inr (l2, M)))
def p_R_ringOf (f : Nat) (l1 : Int) (M : oM) : Option (Int × oM) :=
  (p_R_reachedFrom f 7 l1 M).bind fun q4 =>
  iter (p_R_ringOf_L11 f l1 q4.1) f (0, 0, q4.2)
def p_O_rings_B77_37 (f : Nat) (l2 : Int) (l3 : Int) (M : oM) : Option ((Int × Int × oM) ⊕ (Int × oM)) :=
  lt (w32 (l3 + 1)) fun x1 =>
  some (.inl (l2, x1, M))
def p_O_rings_L37 (f : Nat) : Int × Int × oM → Option ((Int × Int × oM) ⊕ (Int × oM))
  | (l2, l3, M) =>
  if l3 < 10 then ((p_P_has f l3 M).bind fun q2 =>
  if q2.1 = 0 then (p_O_rings_B77_37 f l2 l3 q2.2)
  else ((p_R_ringOf f l3 q2.2).bind fun q3 =>
  if iand q3.1 (w32 ((ishl 1 l3) - 1)) = 0 then (lt (w32 (l2 + 1)) fun x4 =>
  p_O_rings_B77_37 f x4 l3 q3.2)
  else (p_O_rings_B77_37 f l2 l3 q3.2)))
  else (some (.inr (l2, M)))
def p_O_rings (f : Nat) (l1 : Int) (M : oM) : Option (Int × oM) :=
  if l1 = 100 then (iter (p_O_rings_L37 f) f (0, 0, M))
  else ((p_P_has f l1 M).bind fun q5 =>
  if q5.1 = 0 then (some ((-1), q5.2))
  else ((p_R_ringOf f l1 q5.2).bind fun q6 =>
  some (q6.1, q6.2)))
def p_O_off (f : Nat) (M : oM) : Option (Int × oM) :=
  if M 6 4 < 0 then (some ((-2), M))
  else ((p_R_reachedFrom f 7 (M 6 4) M).bind fun q1 =>
  some (iand (M 3 2) (ixor q1.1 (-1)), q1.2))
def p_O_when_L46 (f : Nat) (l1 : Int) (l2 : Int) : Int × oM → Option ((Int × oM) ⊕ (Int × oM))
  | (l3, M) =>
  if l2 < l3 then (some (.inr ((-2), M)))
  else ((p_C_tick f 14  M).bind fun q1 =>
  if q1.2 41 5 = l1 then (some (.inr (l3, q1.2)))
  else (lt (w32 (l3 + 1)) fun x2 =>
  some (.inl (x2, q1.2))))
def p_O_when (f : Nat) (l1 : Int) (l2 : Int) (M : oM) : Option (Int × oM) :=
  (p_P_has f l1 M).bind fun q3 =>
  if q3.1 = 0 then (some ((-1), q3.2))
  else ((p_O_areHours f l2 q3.2).bind fun q4 =>
  if q4.1 = 0 then (some ((-1), q4.2))
  else (if q4.2 6 4 = l1 then (some (0, q4.2))
  else ((p_D_takeFrom f 14 6  q4.2).bind fun q5 =>
  iter (p_O_when_L46 f l1 l2) f (1, q5.2))))
def p_O_wedding_B117_41 (f : Nat) (l1 : Int) (l2 : Int) (l3 : Int) (l4 : Int) (l5 : Int) (l6 : Int) (M : oM) : Option ((Int × Int × Int × oM) ⊕ (Int × oM)) :=
  lt (w32 (l6 + 1)) fun x1 =>
  some (.inl (l4, l5, x1, M))
def p_O_wedding_B100_41 (f : Nat) (l1 : Int) (l2 : Int) (l3 : Int) (l4 : Int) (l5 : Int) (l6 : Int) (l7 : Int) (M : oM) : Option ((Int × Int × Int × oM) ⊕ (Int × oM)) :=
  if l4 = l7 then (if l5 = l7 then (some (.inr (l7, M)))
  else (p_O_wedding_B117_41 f l1 l2 l3 l4 l5 l6 M))
  else (p_O_wedding_B117_41 f l1 l2 l3 l4 l5 l6 M)
def p_O_wedding_L41 (f : Nat) (l1 : Int) (l2 : Int) (l3 : Int) : Int × Int × Int × oM → Option ((Int × Int × Int × oM) ⊕ (Int × oM))
  | (l4, l5, l6, M) =>
  if l6 < l3 then (lt (M 14 9) fun x2 =>
  (p_C_tick f 14  M).bind fun q3 =>
  if q3.2 41 5 = l1 then (p_O_wedding_B100_41 f l1 l2 l3 x2 l5 l6 x2 q3.2)
  else (if q3.2 41 5 = l2 then (p_O_wedding_B100_41 f l1 l2 l3 l4 x2 l6 x2 q3.2)
  else (p_O_wedding_B100_41 f l1 l2 l3 l4 l5 l6 x2 q3.2)))
  else (some (.inr ((-2), M)))
def p_O_wedding (f : Nat) (l1 : Int) (l2 : Int) (l3 : Int) (M : oM) : Option (Int × oM) :=
  (p_P_hasBoth f l1 l2 M).bind fun q4 =>
  if q4.1 = 0 then (some ((-1), q4.2))
  else ((p_O_areHours f l3 q4.2).bind fun q5 =>
  if q5.1 = 0 then (some ((-1), q5.2))
  else ((p_D_takeFrom f 14 6  q5.2).bind fun q6 =>
  iter (p_O_wedding_L41 f l1 l2 l3) f ((-1), (-1), 0, q6.2)))
def p_O_longest_B33_4 (f : Nat) (l1 : Int) (l2 : Int) (M : oM) : Option ((Int × Int × oM) ⊕ (Int × oM)) :=
  lt (w32 (l2 + 1)) fun x1 =>
  some (.inl (l1, x1, M))
def p_O_longest_L4 (f : Nat) : Int × Int × oM → Option ((Int × Int × oM) ⊕ (Int × oM))
  | (l1, l2, M) =>
  if l2 < 10 then (bnd 10 l2 fun i3 =>
  bnd 10 l1 fun i4 =>
  if M 8 i4 < M 8 i3 then (p_O_longest_B33_4 f l2 l2 M)
  else (p_O_longest_B33_4 f l1 l2 M))
  else (bnd 10 l1 fun i2 =>
  if 0 < M 8 i2 then (some (.inr (l1, M)))
  else (some (.inr ((-2), M))))
def p_O_longest (f : Nat) (M : oM) : Option (Int × oM) :=
  iter (p_O_longest_L4 f) f (0, 1, M)
def p_O_chalk (f : Nat) (l1 : Int) (M : oM) : Option (Int × oM) :=
  if l1 < 0 then (some ((-1), M))
  else (if l1 < M 6 3 then (if l1 < 40 then (bnd 40 l1 fun i1 =>
  some (M 9 i1, M))
  else (some ((-1), M)))
  else (some ((-1), M)))
def p_R_hoursOf_B58_5 (f : Nat) (l1 : Int) (l2 : Int) (l3 : Int) (l4 : Int) (M : oM) : Option ((Int × Int × oM) ⊕ (Int × oM)) :=
  lt (w32 (l4 + 1)) fun x1 =>
  some (.inl (l3, x1, M))
def p_R_hoursOf_L5 (f : Nat) (l1 : Int) (l2 : Int) : Int × Int × oM → Option ((Int × Int × oM) ⊕ (Int × oM))
  | (l3, l4, M) =>
  if l4 < l2 then (if l4 < 8 then (if iand (ishr l1 l4) 1 = 1 then (bnd 8 l4 fun i2 =>
  nz 10 fun z3 =>
  bnd 8 l4 fun i4 =>
  nz 10 fun z5 =>
  (p_P_way f (w32 (Int.tdiv (M 45 i2) z3)) (Int.tmod (M 45 i4) z5) M).bind fun q6 =>
  lt (w32 (l3 + q6.1)) fun x7 =>
  p_R_hoursOf_B58_5 f l1 l2 x7 l4 q6.2)
  else (p_R_hoursOf_B58_5 f l1 l2 l3 l4 M))
  else (some (.inr (l3, M))))
  else (some (.inr (l3, M)))
def p_R_hoursOf (f : Nat) (l1 : Int) (l2 : Int) (M : oM) : Option (Int × oM) :=
  iter (p_R_hoursOf_L5 f l1 l2) f (0, 0, M)
def p_R_setShare_B44_8 (f : Nat) (o1 : Nat) (l2 : Int) (l3 : Int) (l4 : Int) (M : oM) : Option ((Int × oM) ⊕ (Int × oM)) :=
  lt (w32 (l4 + 1)) fun x1 =>
  some (.inl (x1, M))
def p_R_setShare_L8 (f : Nat) (o1 : Nat) (l2 : Int) (l3 : Int) : Int × oM → Option ((Int × oM) ⊕ (Int × oM))
  | (l4, M) =>
  if l4 < l3 then (if l4 < 8 then (if iand (ishr l2 l4) 1 = 1 then (bnd 8 l4 fun i2 =>
  bnd 100 (M 45 i2) fun i3 =>
  bnd 100 (M 45 i2) fun i4 =>
  lt (oU M o1 i4 (w32 ((M o1 i3) + 1))) fun M5 =>
  p_R_setShare_B44_8 f o1 l2 l3 l4 M5)
  else (p_R_setShare_B44_8 f o1 l2 l3 l4 M))
  else (some (.inr (0, M))))
  else (some (.inr (0, M)))
def p_R_setShare (f : Nat) (o1 : Nat) (l2 : Int) (l3 : Int) (M : oM) : Option (Int × oM) :=
  (p_JA_fill f o1 100 0 M).bind fun q6 =>
  iter (p_R_setShare_L8 f o1 l2 l3) f (0, q6.2)
def p_R_sharedHours_B105_16 (f : Nat) (l2 : Int) (l3 : Int) (l4 : Int) (l5 : Int) (M : oM) : Option ((Int × Int × oM) ⊕ (Int × oM)) :=
  lt (w32 (l5 + 1)) fun x1 =>
  some (.inl (l4, x1, M))
def p_R_sharedHours_L16 (f : Nat) (l2 : Int) (l3 : Int) : Int × Int × oM → Option ((Int × Int × oM) ⊕ (Int × oM))
  | (l4, l5, M) =>
  if l5 < ishl 1 l3 then ((p_R_hoursOf f l5 l3 M).bind fun q2 =>
  (p_R_hoursOf f (ixor l5 (-1)) l3 q2.2).bind fun q3 =>
  lt (imax q2.1 q3.1) fun x4 =>
  if x4 < l4 then ((p_R_setShare f 43 l5 l3 q3.2).bind fun q5 =>
  (p_R_setShare f 44 (ixor l5 (-1)) l3 q5.2).bind fun q6 =>
  (p_R_isOneRow f 43 (q6.2 6 4) q6.2).bind fun q7 =>
  if q7.1 = 0 then (p_R_sharedHours_B105_16 f l2 l3 l4 l5 q7.2)
  else ((p_R_isOneRow f 44 l2 q7.2).bind fun q8 =>
  if q8.1 = 0 then (p_R_sharedHours_B105_16 f l2 l3 l4 l5 q8.2)
  else (p_R_sharedHours_B105_16 f l2 l3 x4 l5 q8.2)))
  else (p_R_sharedHours_B105_16 f l2 l3 l4 l5 q3.2))
  else (some (.inr (l4, M)))
def p_R_sharedHours (f : Nat) (l2 : Int) (M : oM) : Option (Int × oM) :=
  (p_D_listCoins f 45 8  M).bind fun q9 =>
  iter (p_R_sharedHours_L16 f l2 q9.1) f (1000000, 0, q9.2)
def p_O_two (f : Nat) (l1 : Int) (M : oM) : Option (Int × oM) :=
  (p_P_has f l1 M).bind fun q1 =>
  if q1.1 = 0 then (some ((-1), q1.2))
  else (if q1.2 6 4 < 0 then (some ((-2), q1.2))
  else ((p_D_owedInAll f 6  q1.2).bind fun q2 =>
  if 8 < q2.1 then (some ((-3), q2.2))
  else ((p_R_sharedHours f l1 q2.2).bind fun q3 =>
  if q3.1 < 1000000 then (some (q3.1, q3.2))
  else (some ((-4), q3.2)))))
def p_O_commonDivisor_L7 (f : Nat) : Int × Int × Int × oM → Option ((Int × Int × Int × oM) ⊕ (Int × oM))
  | (l2, l3, l4, M) =>
  if l4 < 64 then (if l3 = 0 then (some (.inr (l2, M)))
  else (nz l3 fun z1 =>
  lt (Int.tmod l2 z1) fun x2 =>
  lt (w32 (l4 + 1)) fun x3 =>
  some (.inl (l3, x2, x3, M))))
  else (some (.inr (l2, M)))
def p_O_commonDivisor (f : Nat) (l0 : Int) (l1 : Int) (M : oM) : Option (Int × oM) :=
  iter (p_O_commonDivisor_L7 f) f (l0, l1, 0, M)
def p_O_dry_L46 (f : Nat) (l1 : Int) (l2 : Int) (l3 : Int) : Int × Int × Int × oM → Option ((Int × Int × Int × oM) ⊕ (Int × oM))
  | (l4, l5, l6, M) =>
  if l6 < l1 then (lt (w32 (l4 * (w32 (10 - l3)))) fun x4 =>
  lt (w32 (l5 * 10)) fun x5 =>
  lt (w32 (l6 + 1)) fun x6 =>
  some (.inl (x4, x5, x6, M)))
  else ((p_O_commonDivisor f l4 l5 M).bind fun q1 =>
  if 0 < q1.1 then (if l2 = 0 then (nz q1.1 fun z3 =>
  some (.inr (w32 (Int.tdiv l4 z3), q1.2)))
  else (nz q1.1 fun z2 =>
  some (.inr (w32 (Int.tdiv l5 z2), q1.2))))
  else (some (.inr ((-1), q1.2))))
def p_O_dry_B22 (f : Nat) (l1 : Int) (l2 : Int) (M : oM) : Option (Int × oM) :=
  (p_L_rain f (M 6 9) M).bind fun q7 =>
  iter (p_O_dry_L46 f l1 l2 q7.1) f (1, 1, 0, q7.2)
def p_O_dry (f : Nat) (l1 : Int) (l2 : Int) (M : oM) : Option (Int × oM) :=
  if l1 < 1 then (some ((-1), M))
  else (if 9 < l1 then (some ((-1), M))
  else (if l2 = 0 then (p_O_dry_B22 f l1 l2 M)
  else (if l2 = 1 then (p_O_dry_B22 f l1 l2 M)
  else (some ((-1), M)))))
def p_O_seed (f : Nat) (l1 : Int) (M : oM) : Option (Int × oM) :=
  if l1 < 0 then (some (0, M))
  else (if 65535 < l1 then (some (0, M))
  else (lt (oU M 6 11 l1) fun M1 =>
  some (1, M1)))
def p_O_keep (f : Nat) (M : oM) : Option (Int × oM) :=
  (p_D_takeFrom f 10 6  M).bind fun q1 =>
  lt (oU q1.2 0 13 1) fun M2 =>
  (p_D_owedInAll f 6  M2).bind fun q3 =>
  some (q3.1, q3.2)
def p_O_undo (f : Nat) (M : oM) : Option (Int × oM) :=
  if M 0 13 = 0 then (bnd 2 (M 0 13) fun b1 => some (b1, M))
  else ((p_D_takeFrom f 6 10  M).bind fun q2 =>
  bnd 2 (q2.2 0 13) fun b3 => some (b3, q2.2))
def p_O_check_B70_21 (f : Nat) (l2 : Int) (M : oM) : Option ((Int × Int × oM) ⊕ (Int × oM)) :=
  (p_T_clear f  M).bind fun q1 =>
  some (.inr (l2, q1.2))
def p_O_check_B57_21 (f : Nat) (l1 : Int) (l2 : Int) (l3 : Int) (M : oM) : Option ((Int × Int × oM) ⊕ (Int × oM)) :=
  (p_T_step f  M).bind fun q2 =>
  lt (w32 (l3 + 1)) fun x3 =>
  some (.inl (l2, x3, q2.2))
def p_O_check_L21 (f : Nat) (l1 : Int) : Int × Int × oM → Option ((Int × Int × oM) ⊕ (Int × oM))
  | (l2, l3, M) =>
  if l3 < l1 then (if l2 = (-1) then ((p_T_next f  M).bind fun q4 =>
  (p_D_owedBy f 6 l3 q4.2).bind fun q5 =>
  if q4.1 = imin q5.1 255 then (p_O_check_B57_21 f l1 l2 l3 q5.2)
  else (p_O_check_B57_21 f l1 l3 l3 q5.2))
  else (p_O_check_B70_21 f l2 M))
  else (p_O_check_B70_21 f l2 M)
def p_O_check (f : Nat) (l1 : Int) (M : oM) : Option (Int × oM) :=
  (p_T_opens f l1 0 10 M).bind fun q6 =>
  if q6.1 = 0 then (some ((-2), q6.2))
  else (iter (p_O_check_L21 f l1) f ((-1), 0, q6.2))
def p_O_count (f : Nat) (l1 : Int) (M : oM) : Option (Int × oM) :=
  if l1 = 0 then (some (M 3 2, M))
  else (if l1 = 1 then ((p_D_owedInAll f 6  M).bind fun q1 =>
  some (q1.1, q1.2))
  else (if l1 = 2 then (if M 6 4 < 0 then (some ((-2), M))
  else (some (M 6 4, M)))
  else (if l1 = 3 then (if 0 < M 6 7 then (some (M 6 6, M))
  else (some ((-2), M)))
  else (if l1 = 4 then (some (M 6 7, M))
  else (if l1 = 5 then (some (M 6 8, M))
  else (if l1 = 6 then (some (M 6 9, M))
  else (if l1 = 7 then (if M 6 10 = 0 then (some (0, M))
  else (some (1, M)))
  else (if l1 = 8 then (some (M 6 3, M))
  else (if l1 = 9 then (some (M 18 10, M))
  else (if l1 = 10 then ((p_T_size f  M).bind fun q2 =>
  some (q2.1, q2.2))
  else (if l1 = 11 then (some (M 6 11, M))
  else (some ((-1), M)))))))))))))
end
end
section
/-! the reference's methods as functions (by program out of the bytecode) -/
noncomputable section
def p_M_in (f : Nat) (l0 : Int) (l1 : Int) (l2 : Int) (M : oM) : Option (Int × oM) :=
  if l0 < l1 then (some (0, M))
  else (if l2 < l0 then (some (0, M))
  else (some (1, M)))
def p_M_person (f : Nat) (l1 : Int) (l2 : Int) (l3 : Int) (M : oM) : Option (Int × oM) :=
  (p_M_in f l1 0 9 M).bind fun q1 =>
  if q1.1 = 0 then (some (0, q1.2))
  else ((p_M_in f l2 0 9 q1.2).bind fun q2 =>
  if q2.1 = 0 then (some (0, q2.2))
  else ((p_M_in f l3 0 9 q2.2).bind fun q3 =>
  if q3.1 = 0 then (some (0, q3.2))
  else (lt (oU q3.2 57 5 (ior (q3.2 57 5) (ishl 1 l1))) fun M4 =>
  bnd 10 l1 fun i5 =>
  lt (oU M4 61 i5 l2) fun M6 =>
  bnd 10 l1 fun i7 =>
  lt (oU M6 62 i7 l3) fun M8 =>
  some (1, M8))))
def p_M_has (f : Nat) (l0 : Int) (l1 : Int) (M : oM) : Option (Int × oM) :=
  if iand (ishr l0 l1) 1 = 1 then (some (1, M))
  else (some (0, M))
def p_M_isPerson (f : Nat) (l1 : Int) (M : oM) : Option (Int × oM) :=
  (p_M_in f l1 0 9 M).bind fun q1 =>
  if q1.1 = 0 then (some (0, q1.2))
  else ((p_M_has f (q1.2 57 5) l1 q1.2).bind fun q2 =>
  if q2.1 = 0 then (some (0, q2.2))
  else (some (1, q2.2)))
def p_M_areTwo (f : Nat) (l1 : Int) (l2 : Int) (M : oM) : Option (Int × oM) :=
  (p_M_isPerson f l1 M).bind fun q1 =>
  if q1.1 = 0 then (some (0, q1.2))
  else ((p_M_isPerson f l2 q1.2).bind fun q2 =>
  if q2.1 = 0 then (some (0, q2.2))
  else (if l1 = l2 then (some (0, q2.2))
  else (some (1, q2.2))))
def p_M_debt (f : Nat) (l1 : Int) (l2 : Int) (l3 : Int) (M : oM) : Option (Int × oM) :=
  (p_M_areTwo f l1 l2 M).bind fun q1 =>
  if q1.1 = 0 then (some (0, q1.2))
  else ((p_M_in f l3 0 99 q1.2).bind fun q2 =>
  if q2.1 = 0 then (some (0, q2.2))
  else (bnd 159 (w32 ((w32 (0 + (w32 (10 * l1)))) + l2)) fun i3 =>
  lt (oU q2.2 58 i3 l3) fun M4 =>
  some (1, M4)))
def p_M_rests (f : Nat) (l1 : Int) (M : oM) : Option (Int × oM) :=
  bnd 159 151 fun i1 =>
  lt (oU M 58 i1 l1) fun M2 =>
  bnd 159 153 fun i3 =>
  lt (oU M2 58 i3 (-2)) fun M4 =>
  bnd 159 154 fun i5 =>
  lt (oU M4 58 i5 0) fun M6 =>
  some (0, M6)
def p_M_coin (f : Nat) (l1 : Int) (M : oM) : Option (Int × oM) :=
  (p_M_isPerson f l1 M).bind fun q1 =>
  if q1.1 = 0 then (some (0, q1.2))
  else ((p_M_rests f l1 q1.2).bind fun q2 =>
  some (1, q2.2))
def p_M_types_L2 (f : Nat) (l1 : Int) : Int × oM → Option ((Int × oM) ⊕ (Int × oM))
  | (l2, M) =>
  if l2 < 0 then (some (.inr (0, M)))
  else (bnd 260 (M 57 7) fun i1 =>
  lt (oU M 63 i1 (i2b (i2b (ishr l1 (w32 (8 * l2)))))) fun M2 =>
  lt (oU M2 57 7 (w32 ((M2 57 7) + 1))) fun M3 =>
  lt (w32 (l2 + (-1))) fun x4 =>
  some (.inl (x4, M3)))
def p_M_types (f : Nat) (l1 : Int) (M : oM) : Option (Int × oM) :=
  iter (p_M_types_L2 f l1) f (3, M)
def p_M_feed (f : Nat) (l1 : Int) (l2 : Int) (l3 : Int) (l4 : Int) (l5 : Int) (M : oM) : Option (Int × oM) :=
  if 260 < w32 ((M 57 7) + 20) then (some ((-1), M))
  else ((p_M_types f l1 M).bind fun q1 =>
  (p_M_types f l2 q1.2).bind fun q2 =>
  (p_M_types f l3 q2.2).bind fun q3 =>
  (p_M_types f l4 q3.2).bind fun q4 =>
  (p_M_types f l5 q4.2).bind fun q5 =>
  some (q5.2 57 7, q5.2))
def p_M_here (f : Nat) (M : oM) : Option (Int × oM) :=
  if M 57 8 < M 57 9 then (bnd 260 (M 57 8) fun i1 =>
  some (iand (M 63 i1) 255, M))
  else (some ((-1), M))
def p_M_notes (f : Nat) (l1 : Int) (l2 : Int) (M : oM) : Option (Int × oM) :=
  bnd 260 (M 57 13) fun i1 =>
  lt (oU M 64 i1 (w32 ((w32 (1048576 * l1)) + l2))) fun M2 =>
  lt (oU M2 57 13 (w32 ((M2 57 13) + 1))) fun M3 =>
  some (0, M3)
def p_M_waitTop (f : Nat) (M : oM) : Option (Int × oM) :=
  if M 57 14 = 0 then (some ((-1), M))
  else (bnd 260 (w32 ((M 57 14) - 1)) fun i1 =>
  nz 1048576 fun z2 =>
  some (w32 (Int.tdiv (M 65 i1) z2), M))
def p_M_endsPiece_L0 (f : Nat) : oM → Option ((oM) ⊕ (Int × oM))
  | M =>
  (p_M_waitTop f  M).bind fun q1 =>
  if q1.1 = 10 then ((p_M_notes f 10 0 q1.2).bind fun q2 =>
  lt (oU q2.2 57 14 (w32 ((q2.2 57 14) - 1))) fun M3 =>
  lt (oU M3 57 12 (w32 ((M3 57 12) - 1))) fun M4 =>
  some (.inl M4))
  else (some (.inr (0, q1.2)))
def p_M_endsPiece (f : Nat) (M : oM) : Option (Int × oM) :=
  iter (p_M_endsPiece_L0 f) f M
def p_M_jumps (f : Nat) (l1 : Int) (M : oM) : Option (Int × oM) :=
  bnd 260 (M 57 14) fun i1 =>
  lt (oU M 65 i1 (w32 ((w32 (1048576 * l1)) + (M 57 13)))) fun M2 =>
  lt (oU M2 57 14 (w32 ((M2 57 14) + 1))) fun M3 =>
  (p_M_notes f l1 0 M3).bind fun q4 =>
  lt (oU q4.2 57 8 (w32 ((q4.2 57 8) + 1))) fun M5 =>
  some (0, M5)
def p_M_lands_B22_0 (f : Nat) (l1 : Int) (M : oM) : Option ((oM) ⊕ (Int × oM)) :=
  bnd 260 (w32 ((M 57 14) - 1)) fun i1 =>
  nz 1048576 fun z2 =>
  lt (Int.tmod (M 65 i1) z2) fun x3 =>
  bnd 260 x3 fun i4 =>
  nz 1048576 fun z5 =>
  bnd 260 x3 fun i6 =>
  lt (oU M 64 i6 (w32 ((w32 (1048576 * (w32 (Int.tdiv (M 64 i4) z5)))) + (M 57 13)))) fun M7 =>
  lt (oU M7 57 14 (w32 ((M7 57 14) - 1))) fun M8 =>
  some (.inl M8)
def p_M_lands_L0 (f : Nat) (l1 : Int) : oM → Option ((oM) ⊕ (Int × oM))
  | M =>
  (p_M_waitTop f  M).bind fun q9 =>
  if q9.1 = 11 then (p_M_lands_B22_0 f l1 q9.2)
  else (if l1 = 0 then (some (.inr (0, q9.2)))
  else ((p_M_waitTop f  q9.2).bind fun q10 =>
  if q10.1 = 12 then (p_M_lands_B22_0 f l1 q10.2)
  else (some (.inr (0, q10.2)))))
def p_M_lands (f : Nat) (l1 : Int) (M : oM) : Option (Int × oM) :=
  iter (p_M_lands_L0 f l1) f M
def p_M_wrongAt (f : Nat) (l1 : Int) (l2 : Int) (M : oM) : Option (Int × oM) :=
  lt (oU M 57 10 (w32 ((w32 ((-1000) * l1)) - l2))) fun M1 =>
  some (0, M1)
def p_M_opens (f : Nat) (l1 : Int) (M : oM) : Option (Int × oM) :=
  if M 57 12 = 6 then ((p_M_wrongAt f 5 (M 57 8) M).bind fun q6 =>
  bnd 2 q6.1 fun b7 => some (b7, q6.2))
  else (lt (oU M 57 12 (w32 ((M 57 12) + 1))) fun M1 =>
  bnd 260 (M1 57 14) fun i2 =>
  lt (oU M1 65 i2 (w32 (1048576 * l1))) fun M3 =>
  lt (oU M3 57 14 (w32 ((M3 57 14) + 1))) fun M4 =>
  lt (oU M4 57 8 (w32 ((M4 57 8) + 1))) fun M5 =>
  some (1, M5))
def p_M_closesSums_B37_0 (f : Nat) (l1 : Int) (M : oM) : Option ((oM) ⊕ (Int × oM)) :=
  (p_M_waitTop f  M).bind fun q1 =>
  (p_M_notes f q1.1 0 q1.2).bind fun q2 =>
  lt (oU q2.2 57 14 (w32 ((q2.2 57 14) - 1))) fun M3 =>
  some (.inl M3)
def p_M_closesSums_B17_0 (f : Nat) (l1 : Int) (M : oM) : Option ((oM) ⊕ (Int × oM)) :=
  if l1 = 0 then (some (.inr (0, M)))
  else ((p_M_waitTop f  M).bind fun q4 =>
  if q4.1 = 2 then (p_M_closesSums_B37_0 f l1 q4.2)
  else ((p_M_waitTop f  q4.2).bind fun q5 =>
  if q5.1 = 3 then (p_M_closesSums_B37_0 f l1 q5.2)
  else (some (.inr (0, q5.2)))))
def p_M_closesSums_L0 (f : Nat) (l1 : Int) : oM → Option ((oM) ⊕ (Int × oM))
  | M =>
  (p_M_waitTop f  M).bind fun q6 =>
  if q6.1 < 4 then (p_M_closesSums_B17_0 f l1 q6.2)
  else ((p_M_waitTop f  q6.2).bind fun q7 =>
  if 6 < q7.1 then (p_M_closesSums_B17_0 f l1 q7.2)
  else (p_M_closesSums_B37_0 f l1 q7.2))
def p_M_closesSums (f : Nat) (l1 : Int) (M : oM) : Option (Int × oM) :=
  iter (p_M_closesSums_L0 f l1) f M
def p_M_hasOpenSum_L2 (f : Nat) : Int × oM → Option ((Int × oM) ⊕ (Int × oM))
  | (l2, M) =>
  if l2 < M 57 14 then (bnd 260 l2 fun i1 =>
  nz 1048576 fun z2 =>
  if w32 (Int.tdiv (M 65 i1) z2) = 14 then (some (.inr (1, M)))
  else (lt (w32 (l2 + 1)) fun x3 =>
  some (.inl (x3, M))))
  else (some (.inr (0, M)))
def p_M_hasOpenSum (f : Nat) (l1 : Int) (M : oM) : Option (Int × oM) :=
  iter (p_M_hasOpenSum_L2 f) f (l1, M)
def p_M_factOf (f : Nat) (l0 : Int) (M : oM) : Option (Int × oM) :=
  if l0 = 99 then (some (1, M))
  else (if l0 = 100 then (some ((-1), M))
  else (if l0 = 101 then (some ((-1), M))
  else (if l0 = 102 then (some ((-1), M))
  else (if l0 = 103 then (some (5, M))
  else (if l0 = 104 then (some (0, M))
  else (if l0 = 105 then (some ((-1), M))
  else (if l0 = 106 then (some ((-1), M))
  else (if l0 = 107 then (some ((-1), M))
  else (if l0 = 108 then (some ((-1), M))
  else (if l0 = 109 then (some ((-1), M))
  else (if l0 = 110 then (some (2, M))
  else (if l0 = 111 then (some (3, M))
  else (if l0 = 112 then (some ((-1), M))
  else (if l0 = 113 then (some ((-1), M))
  else (if l0 = 114 then (some ((-1), M))
  else (if l0 = 115 then (some ((-1), M))
  else (if l0 = 116 then (some (6, M))
  else (if l0 = 117 then (some ((-1), M))
  else (if l0 = 118 then (some ((-1), M))
  else (if l0 = 119 then (some (4, M))
  else (if l0 = 120 then (some ((-1), M))
  else (if l0 = 121 then (some (7, M))
  else (some ((-1), M))))))))))))))))))))))))
def p_M_isDigit (f : Nat) (M : oM) : Option (Int × oM) :=
  (p_M_here f  M).bind fun q1 =>
  if q1.1 < 48 then (some (0, q1.2))
  else ((p_M_here f  q1.2).bind fun q2 =>
  if 57 < q2.1 then (some (0, q2.2))
  else (some (1, q2.2)))
def p_M_readsNumber_L10 (f : Nat) (l1 : Int) : oM → Option ((oM) ⊕ (Int × oM))
  | M =>
  (p_M_isDigit f  M).bind fun q1 =>
  if q1.1 = 0 then (some (.inr (1, q1.2)))
  else (if q1.2 57 8 = w32 (l1 + 5) then ((p_M_wrongAt f 2 (q1.2 57 8) q1.2).bind fun q5 =>
  bnd 2 q5.1 fun b6 => some (.inr (b6, q5.2)))
  else ((p_M_here f  q1.2).bind fun q2 =>
  lt (oU q2.2 57 11 (w32 ((w32 ((w32 (10 * (q1.2 57 11))) + q2.1)) - 48))) fun M3 =>
  lt (oU M3 57 8 (w32 ((M3 57 8) + 1))) fun M4 =>
  some (.inl M4)))
def p_M_readsNumber (f : Nat) (M : oM) : Option (Int × oM) :=
  lt (M 57 8) fun x7 =>
  lt (oU M 57 11 0) fun M8 =>
  iter (p_M_readsNumber_L10 f x7) f M8
def p_M_readsFactor_L0 (f : Nat) : oM → Option ((oM) ⊕ (Int × oM))
  | M =>
  (p_M_here f  M).bind fun q1 =>
  if q1.1 = 91 then ((p_M_opens f 14 q1.2).bind fun q11 =>
  if q11.1 = 0 then (some (.inr (0, q11.2)))
  else (some (.inl q11.2)))
  else ((p_M_isDigit f  q1.2).bind fun q2 =>
  if q2.1 = 0 then ((p_M_here f  q2.2).bind fun q3 =>
  (p_M_factOf f q3.1 q3.2).bind fun q4 =>
  if q4.1 = (-1) then ((p_M_wrongAt f 1 (q4.2 57 8) q4.2).bind fun q7 =>
  bnd 2 q7.1 fun b8 => some (.inr (b8, q7.2)))
  else ((p_M_notes f 1 q4.1 q4.2).bind fun q5 =>
  lt (oU q5.2 57 8 (w32 ((q5.2 57 8) + 1))) fun M6 =>
  some (.inr (1, M6))))
  else ((p_M_readsNumber f  q2.2).bind fun q9 =>
  if q9.1 = 0 then (some (.inr (0, q9.2)))
  else ((p_M_notes f 0 (q9.2 57 11) q9.2).bind fun q10 =>
  some (.inr (1, q10.2)))))
def p_M_readsFactor (f : Nat) (M : oM) : Option (Int × oM) :=
  iter (p_M_readsFactor_L0 f) f M
def p_M_sumSign (f : Nat) (l0 : Int) (M : oM) : Option (Int × oM) :=
  if l0 = 43 then (some (2, M))
  else (if l0 = 45 then (some (3, M))
  else (if l0 = 42 then (some (4, M))
  else (if l0 = 47 then (some (5, M))
  else (if l0 = 37 then (some (6, M))
  else (some ((-1), M))))))
def p_M_readsSum_B138_14 (f : Nat) (l1 : Int) (M : oM) : Option ((oM) ⊕ (Int × oM)) :=
  (p_M_hasOpenSum f l1 M).bind fun q1 =>
  if q1.1 = 0 then ((p_M_closesSums f 1 q1.2).bind fun q2 =>
  some (.inr (1, q2.2)))
  else ((p_M_wrongAt f 1 (q1.2 57 8) q1.2).bind fun q3 =>
  bnd 2 q3.1 fun b4 => some (.inr (b4, q3.2)))
def p_M_readsSum_B163_14 (f : Nat) (l1 : Int) (M : oM) : Option ((oM) ⊕ (Int × oM)) :=
  some (.inl M)
def p_M_readsSum_B38_14 (f : Nat) (l1 : Int) (l2 : Int) (s1 : Int) (M : oM) : Option ((oM) ⊕ (Int × oM)) :=
  (p_M_closesSums f s1 M).bind fun q5 =>
  bnd 260 (q5.2 57 14) fun i6 =>
  lt (oU q5.2 65 i6 (w32 (1048576 * l2))) fun M7 =>
  lt (oU M7 57 14 (w32 ((M7 57 14) + 1))) fun M8 =>
  lt (oU M8 57 8 (w32 ((M8 57 8) + 1))) fun M9 =>
  (p_M_readsFactor f  M9).bind fun q10 =>
  if q10.1 = 0 then (some (.inr (0, q10.2)))
  else (p_M_readsSum_B163_14 f l1 q10.2)
def p_M_readsSum_L14 (f : Nat) (l1 : Int) : oM → Option ((oM) ⊕ (Int × oM))
  | M =>
  (p_M_here f  M).bind fun q11 =>
  (p_M_sumSign f q11.1 q11.2).bind fun q12 =>
  if q12.1 = (-1) then ((p_M_here f  q12.2).bind fun q13 =>
  if q13.1 = 93 then ((p_M_hasOpenSum f l1 q13.2).bind fun q14 =>
  if q14.1 = 0 then (p_M_readsSum_B138_14 f l1 q14.2)
  else ((p_M_closesSums f 1 q14.2).bind fun q15 =>
  lt (oU q15.2 57 14 (w32 ((q15.2 57 14) - 1))) fun M16 =>
  lt (oU M16 57 12 (w32 ((M16 57 12) - 1))) fun M17 =>
  lt (oU M17 57 8 (w32 ((M17 57 8) + 1))) fun M18 =>
  p_M_readsSum_B163_14 f l1 M18))
  else (p_M_readsSum_B138_14 f l1 q13.2))
  else (if q12.1 < 4 then (p_M_readsSum_B38_14 f l1 q12.1 1 q12.2)
  else (p_M_readsSum_B38_14 f l1 q12.1 0 q12.2))
def p_M_readsSum (f : Nat) (M : oM) : Option (Int × oM) :=
  lt (M 57 14) fun x19 =>
  (p_M_readsFactor f  M).bind fun q20 =>
  if q20.1 = 0 then (some (0, q20.2))
  else (iter (p_M_readsSum_L14 f x19) f q20.2)
def p_M_readsCompared_B52 (f : Nat) (s0 : Int) (M : oM) : Option (Int × oM) :=
  if s0 = (-1) then ((p_M_wrongAt f 1 (M 57 8) M).bind fun q5 =>
  bnd 2 q5.1 fun b6 => some (b6, q5.2))
  else (lt (oU M 57 8 (w32 ((M 57 8) + 1))) fun M1 =>
  (p_M_readsSum f  M1).bind fun q2 =>
  if q2.1 = 0 then (some (0, q2.2))
  else ((p_M_notes f s0 0 q2.2).bind fun q3 =>
  (p_M_endsPiece f  q3.2).bind fun q4 =>
  some (1, q4.2)))
def p_M_readsCompared (f : Nat) (M : oM) : Option (Int × oM) :=
  (p_M_readsSum f  M).bind fun q7 =>
  if q7.1 = 0 then (some (0, q7.2))
  else ((p_M_here f  q7.2).bind fun q8 =>
  if q8.1 = 60 then (p_M_readsCompared_B52 f 7 q8.2)
  else ((p_M_here f  q8.2).bind fun q9 =>
  if q9.1 = 62 then (p_M_readsCompared_B52 f 8 q9.2)
  else ((p_M_here f  q9.2).bind fun q10 =>
  if q10.1 = 61 then (p_M_readsCompared_B52 f 9 q10.2)
  else (p_M_readsCompared_B52 f (-1) q10.2))))
def p_M_readsCondition_B75_40 (f : Nat) (s1 : Int) (M : oM) : Option ((oM) ⊕ (Int × oM)) :=
  (p_M_opens f s1 M).bind fun q1 =>
  if q1.1 = 0 then (some (.inr (0, q1.2)))
  else (some (.inl q1.2))
def p_M_readsCondition_B58_40 (f : Nat) (M : oM) : Option ((oM) ⊕ (Int × oM)) :=
  (p_M_here f  M).bind fun q2 =>
  if q2.1 = 33 then (p_M_readsCondition_B75_40 f 10 q2.2)
  else (p_M_readsCondition_B75_40 f 13 q2.2)
def p_M_readsCondition_B215_40 (f : Nat) (s1 : Int) (M : oM) : Option ((oM) ⊕ (Int × oM)) :=
  (p_M_jumps f s1 M).bind fun q3 =>
  some (.inl q3.2)
def p_M_readsCondition_B195_40 (f : Nat) (s1 : Int) (M : oM) : Option ((oM) ⊕ (Int × oM)) :=
  (p_M_lands f s1 M).bind fun q4 =>
  (p_M_here f  q4.2).bind fun q5 =>
  if q5.1 = 38 then (p_M_readsCondition_B215_40 f 11 q5.2)
  else (p_M_readsCondition_B215_40 f 12 q5.2)
def p_M_readsCondition_B180_40 (f : Nat) (M : oM) : Option ((oM) ⊕ (Int × oM)) :=
  (p_M_here f  M).bind fun q6 =>
  if q6.1 = 124 then (p_M_readsCondition_B195_40 f 1 q6.2)
  else (p_M_readsCondition_B195_40 f 0 q6.2)
def p_M_readsCondition_X92 (f : Nat) : (Int × oM) ⊕ (oM) → Option ((oM) ⊕ (Int × oM))
  | .inl q => some (.inr q)
  | .inr M =>
  (p_M_here f  M).bind fun q7 =>
  if q7.1 = 38 then (p_M_readsCondition_B180_40 f q7.2)
  else ((p_M_here f  q7.2).bind fun q8 =>
  if q8.1 = 124 then (p_M_readsCondition_B180_40 f q8.2)
  else ((p_M_wrongAt f 1 (q8.2 57 8) q8.2).bind fun q9 =>
  bnd 2 q9.1 fun b10 => some (.inr (b10, q9.2))))
def p_M_readsCondition_L92 (f : Nat) : oM → Option ((oM) ⊕ ((Int × oM) ⊕ (oM)))
  | M =>
  (p_M_here f  M).bind fun q11 =>
  if q11.1 = 41 then ((p_M_lands f 1 q11.2).bind fun q12 =>
  lt (oU q12.2 57 14 (w32 ((q12.2 57 14) - 1))) fun M13 =>
  lt (oU M13 57 12 (w32 ((M13 57 12) - 1))) fun M14 =>
  lt (oU M14 57 8 (w32 ((M14 57 8) + 1))) fun M15 =>
  if M15 57 14 = 0 then (some (.inr (.inl (1, M15))))
  else ((p_M_endsPiece f  M15).bind fun q16 =>
  some (.inl q16.2)))
  else (some (.inr (.inr q11.2)))
def p_M_readsCondition_L40 (f : Nat) : oM → Option ((oM) ⊕ (Int × oM))
  | M =>
  (p_M_here f  M).bind fun q17 =>
  if q17.1 = 33 then (p_M_readsCondition_B58_40 f q17.2)
  else ((p_M_here f  q17.2).bind fun q18 =>
  if q18.1 = 40 then (p_M_readsCondition_B58_40 f q18.2)
  else ((p_M_readsCompared f  q18.2).bind fun q19 =>
  if q19.1 = 0 then (some (.inr (0, q19.2)))
  else ((iter (p_M_readsCondition_L92 f) f q19.2).bind (p_M_readsCondition_X92 f))))
def p_M_readsCondition (f : Nat) (M : oM) : Option (Int × oM) :=
  (p_M_here f  M).bind fun q20 =>
  if q20.1 = 40 then (lt (oU q20.2 57 12 0) fun M21 =>
  lt (oU M21 57 14 0) fun M22 =>
  (p_M_opens f 13 M22).bind fun q23 =>
  if q23.1 = 0 then (some (0, q23.2))
  else (iter (p_M_readsCondition_L40 f) f q23.2))
  else ((p_M_wrongAt f 1 (q20.2 57 8) q20.2).bind fun q24 =>
  bnd 2 q24.1 fun b25 => some (b25, q24.2))
def p_M_readsRule_B116 (f : Nat) (M : oM) : Option (Int × oM) :=
  bnd 16 (M 57 15) fun i1 =>
  lt (oU M 68 i1 (M 57 13)) fun M2 =>
  (p_M_readsCondition f  M2).bind fun q3 =>
  if q3.1 = 0 then (some (0, q3.2))
  else (bnd 16 (q3.2 57 15) fun i4 =>
  lt (oU q3.2 69 i4 (q3.2 57 13)) fun M5 =>
  lt (oU M5 57 15 (w32 ((M5 57 15) + 1))) fun M6 =>
  some (1, M6))
def p_M_readsRule_B39 (f : Nat) (l1 : Int) (M : oM) : Option (Int × oM) :=
  if M 57 15 = 16 then ((p_M_wrongAt f 4 (M 57 8) M).bind fun q15 =>
  bnd 2 q15.1 fun b16 => some (b16, q15.2))
  else (bnd 16 (M 57 15) fun i7 =>
  lt (oU M 66 i7 l1) fun M8 =>
  lt (oU M8 57 8 (w32 ((M8 57 8) + 1))) fun M9 =>
  bnd 16 (M9 57 15) fun i10 =>
  lt (oU M9 67 i10 (M9 57 13)) fun M11 =>
  lt (oU M11 57 12 0) fun M12 =>
  lt (oU M12 57 14 0) fun M13 =>
  if l1 = 115 then (p_M_readsRule_B116 f M13)
  else ((p_M_readsSum f  M13).bind fun q14 =>
  if q14.1 = 0 then (some (0, q14.2))
  else (p_M_readsRule_B116 f q14.2)))
def p_M_readsRule (f : Nat) (M : oM) : Option (Int × oM) :=
  (p_M_here f  M).bind fun q17 =>
  if q17.1 = 101 then (p_M_readsRule_B39 f q17.1 q17.2)
  else (if q17.1 = 105 then (p_M_readsRule_B39 f q17.1 q17.2)
  else (if q17.1 = 114 then (p_M_readsRule_B39 f q17.1 q17.2)
  else (if q17.1 = 115 then (p_M_readsRule_B39 f q17.1 q17.2)
  else ((p_M_wrongAt f 1 (q17.2 57 8) q17.2).bind fun q18 =>
  bnd 2 q18.1 fun b19 => some (b19, q18.2)))))
def p_M_takes (f : Nat) (l1 : Int) (M : oM) : Option (Int × oM) :=
  (p_M_here f  M).bind fun q1 =>
  if q1.1 = l1 then (lt (oU q1.2 57 8 (w32 ((q1.2 57 8) + 1))) fun M2 =>
  some (1, M2))
  else ((p_M_wrongAt f 1 (q1.2 57 8) q1.2).bind fun q3 =>
  bnd 2 q3.1 fun b4 => some (b4, q3.2))
def p_M_law_L138 (f : Nat) : Int × oM → Option ((Int × oM) ⊕ (Int × oM))
  | (l3, M) =>
  if l3 < M 57 15 then (bnd 16 l3 fun i1 =>
  bnd 16 l3 fun i2 =>
  lt (oU M 71 i2 (M 66 i1)) fun M3 =>
  bnd 16 l3 fun i4 =>
  bnd 16 l3 fun i5 =>
  lt (oU M3 72 i5 (M3 67 i4)) fun M6 =>
  bnd 16 l3 fun i7 =>
  bnd 16 l3 fun i8 =>
  lt (oU M6 73 i8 (M6 68 i7)) fun M9 =>
  bnd 16 l3 fun i10 =>
  bnd 16 l3 fun i11 =>
  lt (oU M9 74 i11 (M9 69 i10)) fun M12 =>
  lt (w32 (l3 + 1)) fun x13 =>
  some (.inl (x13, M12)))
  else (some (.inr (M 57 15, M)))
def p_M_law_X110 (f : Nat) : oM → Option (Int × oM)
  | M =>
  iter (p_M_law_L138 f) f (0, M)
def p_M_law_L110 (f : Nat) : Int × oM → Option ((Int × oM) ⊕ (oM))
  | (l3, M) =>
  if l3 < M 57 13 then (bnd 260 l3 fun i14 =>
  bnd 260 l3 fun i15 =>
  lt (oU M 70 i15 (M 64 i14)) fun M16 =>
  lt (w32 (l3 + 1)) fun x17 =>
  some (.inl (x17, M16)))
  else (some (.inr M))
def p_M_law_X46 (f : Nat) : Int × oM → Option (Int × oM)
  | (l2, M) =>
  lt (oU M 57 7 0) fun M18 =>
  if l2 = 0 then (some (M18 57 10, M18))
  else (lt (oU M18 57 16 (M18 57 15)) fun M19 =>
  (iter (p_M_law_L110 f) f (0, M19)).bind (p_M_law_X110 f))
def p_M_law_B82_46 (f : Nat) (s0 : Int) (M : oM) : Option ((Int × oM) ⊕ (Int × oM)) :=
  some (.inl (s0, M))
def p_M_law_B81_46 (f : Nat) (M : oM) : Option ((Int × oM) ⊕ (Int × oM)) :=
  p_M_law_B82_46 f 0 M
def p_M_law_L46 (f : Nat) : Int × oM → Option ((Int × oM) ⊕ (Int × oM))
  | (l2, M) =>
  if l2 = 0 then (some (.inr (l2, M)))
  else (if M 57 8 < M 57 9 then ((p_M_takes f 59 M).bind fun q20 =>
  if q20.1 = 0 then (p_M_law_B81_46 f q20.2)
  else ((p_M_readsRule f  q20.2).bind fun q21 =>
  if q21.1 = 0 then (p_M_law_B81_46 f q21.2)
  else (p_M_law_B82_46 f 1 q21.2)))
  else (some (.inr (l2, M))))
def p_M_law (f : Nat) (l1 : Int) (M : oM) : Option (Int × oM) :=
  (p_M_in f l1 1 240 M).bind fun q22 =>
  if q22.1 = 0 then (some ((-1), q22.2))
  else (if q22.2 57 7 < l1 then (some ((-1), q22.2))
  else (lt (oU q22.2 57 8 0) fun M23 =>
  lt (oU M23 57 9 l1) fun M24 =>
  lt (oU M24 57 13 0) fun M25 =>
  lt (oU M25 57 15 0) fun M26 =>
  (p_M_readsRule f  M26).bind fun q27 =>
  (iter (p_M_law_L46 f) f (q27.1, q27.2)).bind (p_M_law_X46 f)))
def p_M_debtOf (f : Nat) (l1 : Int) (l2 : Int) (M : oM) : Option (Int × oM) :=
  bnd 159 (w32 ((w32 (0 + (w32 (10 * l1)))) + l2)) fun i1 =>
  some (M 58 i1, M)
def p_M_owesAll_L4 (f : Nat) (l1 : Int) : Int × Int × oM → Option ((Int × Int × oM) ⊕ (Int × oM))
  | (l2, l3, M) =>
  if l3 < 10 then ((p_M_debtOf f l1 l3 M).bind fun q1 =>
  lt (w32 (l2 + q1.1)) fun x2 =>
  lt (w32 (l3 + 1)) fun x3 =>
  some (.inl (x2, x3, q1.2)))
  else (some (.inr (l2, M)))
def p_M_owesAll (f : Nat) (l1 : Int) (M : oM) : Option (Int × oM) :=
  iter (p_M_owesAll_L4 f l1) f (0, 0, M)
def p_M_owedInAll_L4 (f : Nat) : Int × Int × oM → Option ((Int × Int × oM) ⊕ (Int × oM))
  | (l1, l2, M) =>
  if l2 < 10 then ((p_M_owesAll f l2 M).bind fun q1 =>
  lt (w32 (l1 + q1.1)) fun x2 =>
  lt (w32 (l2 + 1)) fun x3 =>
  some (.inl (x2, x3, q1.2)))
  else (some (.inr (l1, M)))
def p_M_owedInAll (f : Nat) (M : oM) : Option (Int × oM) :=
  iter (p_M_owedInAll_L4 f) f (0, 0, M)
def p_M_min (f : Nat) (l0 : Int) (l1 : Int) (M : oM) : Option (Int × oM) :=
  if l0 < l1 then (some (l0, M))
  else (some (l1, M))
def p_M_readsPerson_B47 (f : Nat) (M : oM) : Option (Int × oM) :=
  (p_M_here f  M).bind fun q1 =>
  lt (oU q1.2 57 11 (w32 (q1.1 - 97))) fun M2 =>
  (p_M_isPerson f (M2 57 11) M2).bind fun q3 =>
  if q3.1 = 0 then ((p_M_wrongAt f 7 (q3.2 57 8) q3.2).bind fun q5 =>
  bnd 2 q5.1 fun b6 => some (b6, q5.2))
  else (lt (oU q3.2 57 8 (w32 ((q3.2 57 8) + 1))) fun M4 =>
  some (1, M4))
def p_M_readsPerson (f : Nat) (l1 : Int) (M : oM) : Option (Int × oM) :=
  (p_M_here f  M).bind fun q7 =>
  (p_M_in f q7.1 97 106 q7.2).bind fun q8 =>
  if q8.1 = 0 then ((p_M_wrongAt f 1 (q8.2 57 8) q8.2).bind fun q11 =>
  bnd 2 q11.1 fun b12 => some (b12, q11.2))
  else (if l1 = 0 then (p_M_readsPerson_B47 f q8.2)
  else (if q8.2 57 31 = 30 then ((p_M_wrongAt f 4 (q8.2 57 8) q8.2).bind fun q9 =>
  bnd 2 q9.1 fun b10 => some (b10, q9.2))
  else (p_M_readsPerson_B47 f q8.2)))
def p_M_readsLine_B121_76 (f : Nat) (l1 : Int) (l2 : Int) (l3 : Int) (l4 : Int) (M : oM) : Option ((Int × oM) ⊕ (Int × oM)) :=
  if l4 = 0 then ((p_M_wrongAt f 3 l3 M).bind fun q6 =>
  bnd 2 q6.1 fun b7 => some (.inr (b7, q6.2)))
  else (bnd 100 (w32 ((w32 (10 * l1)) + l2)) fun i1 =>
  (p_M_min f 99 (w32 ((M 77 i1) + l4)) M).bind fun q2 =>
  bnd 100 (w32 ((w32 (10 * l1)) + l2)) fun i3 =>
  lt (oU q2.2 77 i3 q2.1) fun M4 =>
  lt (oU M4 57 31 (w32 ((M4 57 31) + 1))) fun M5 =>
  some (.inr (1, M5)))
def p_M_readsLine_L76 (f : Nat) (l1 : Int) (l2 : Int) (l3 : Int) : Int × oM → Option ((Int × oM) ⊕ (Int × oM))
  | (l4, M) =>
  (p_M_isDigit f  M).bind fun q8 =>
  if q8.1 = 0 then (p_M_readsLine_B121_76 f l1 l2 l3 l4 q8.2)
  else (if q8.2 57 8 < w32 (l3 + 2) then ((p_M_here f  q8.2).bind fun q9 =>
  lt (w32 ((w32 ((w32 (10 * l4)) + q9.1)) - 48)) fun x10 =>
  lt (oU q9.2 57 8 (w32 ((q9.2 57 8) + 1))) fun M11 =>
  some (.inl (x10, M11)))
  else (p_M_readsLine_B121_76 f l1 l2 l3 l4 q8.2))
def p_M_readsLine_B74 (f : Nat) (l1 : Int) (l2 : Int) (l3 : Int) (s0 : Int) (M : oM) : Option (Int × oM) :=
  iter (p_M_readsLine_L76 f l1 l2 l3) f (s0, M)
def p_M_readsLine (f : Nat) (M : oM) : Option (Int × oM) :=
  (p_M_readsPerson f 1 M).bind fun q12 =>
  if q12.1 = 0 then (some (0, q12.2))
  else (lt (q12.2 57 11) fun x13 =>
  (p_M_takes f 62 q12.2).bind fun q14 =>
  if q14.1 = 0 then (some (0, q14.2))
  else ((p_M_readsPerson f 0 q14.2).bind fun q15 =>
  if q15.1 = 0 then (some (0, q15.2))
  else (lt (q15.2 57 11) fun x16 =>
  if x13 = x16 then ((p_M_wrongAt f 6 (w32 ((q15.2 57 8) - 1)) q15.2).bind fun q19 =>
  bnd 2 q19.1 fun b20 => some (b20, q19.2))
  else (lt (q15.2 57 8) fun x17 =>
  (p_M_isDigit f  q15.2).bind fun q18 =>
  if q18.1 = 0 then (p_M_readsLine_B74 f x13 x16 x17 1 q18.2)
  else (p_M_readsLine_B74 f x13 x16 x17 0 q18.2)))))
def p_M_debts_L118 (f : Nat) : Int × oM → Option ((Int × oM) ⊕ (Int × oM))
  | (l3, M) =>
  if l3 < 100 then (bnd 100 l3 fun i2 =>
  bnd 159 (w32 (0 + l3)) fun i3 =>
  lt (oU M 58 i3 (M 77 i2)) fun M4 =>
  lt (w32 (l3 + 1)) fun x5 =>
  some (.inl (x5, M4)))
  else ((p_M_owedInAll f  M).bind fun q1 =>
  some (.inr (q1.1, q1.2)))
def p_M_debts_X62 (f : Nat) : Int × oM → Option (Int × oM)
  | (l2, M) =>
  lt (oU M 57 7 0) fun M6 =>
  if l2 = 0 then (some (M6 57 10, M6))
  else (iter (p_M_debts_L118 f) f (0, M6))
def p_M_debts_B98_62 (f : Nat) (s0 : Int) (M : oM) : Option ((Int × oM) ⊕ (Int × oM)) :=
  some (.inl (s0, M))
def p_M_debts_B97_62 (f : Nat) (M : oM) : Option ((Int × oM) ⊕ (Int × oM)) :=
  p_M_debts_B98_62 f 0 M
def p_M_debts_L62 (f : Nat) : Int × oM → Option ((Int × oM) ⊕ (Int × oM))
  | (l2, M) =>
  if l2 = 0 then (some (.inr (l2, M)))
  else (if M 57 8 < M 57 9 then ((p_M_takes f 59 M).bind fun q7 =>
  if q7.1 = 0 then (p_M_debts_B97_62 f q7.2)
  else ((p_M_readsLine f  q7.2).bind fun q8 =>
  if q8.1 = 0 then (p_M_debts_B97_62 f q8.2)
  else (p_M_debts_B98_62 f 1 q8.2)))
  else (some (.inr (l2, M))))
def p_M_debts_X38 (f : Nat) : oM → Option (Int × oM)
  | M =>
  (p_M_readsLine f  M).bind fun q9 =>
  (iter (p_M_debts_L62 f) f (q9.1, q9.2)).bind (p_M_debts_X62 f)
def p_M_debts_L38 (f : Nat) : Int × oM → Option ((Int × oM) ⊕ (oM))
  | (l2, M) =>
  if l2 < 100 then (bnd 100 l2 fun i10 =>
  lt (oU M 77 i10 0) fun M11 =>
  lt (w32 (l2 + 1)) fun x12 =>
  some (.inl (x12, M11)))
  else (some (.inr M))
def p_M_debts (f : Nat) (l1 : Int) (M : oM) : Option (Int × oM) :=
  (p_M_in f l1 1 160 M).bind fun q13 =>
  if q13.1 = 0 then (some ((-1), q13.2))
  else (if q13.2 57 7 < l1 then (some ((-1), q13.2))
  else (lt (oU q13.2 57 8 0) fun M14 =>
  lt (oU M14 57 9 l1) fun M15 =>
  lt (oU M15 57 31 0) fun M16 =>
  (iter (p_M_debts_L38 f) f (0, M16)).bind (p_M_debts_X38 f)))
def p_M_begins (f : Nat) (M : oM) : Option (Int × oM) :=
  lt (oU M 57 32 0) fun M1 =>
  lt (oU M1 57 33 0) fun M2 =>
  lt (oU M2 57 34 0) fun M3 =>
  some (0, M3)
def p_M_reckon (f : Nat) (l0 : Int) (l1 : Int) (l2 : Int) (M : oM) : Option (Int × oM) :=
  if l0 = 2 then (some (w32 (l1 + l2), M))
  else (if l0 = 3 then (some (w32 (l1 - l2), M))
  else (if l0 = 4 then (some (w32 (l1 * l2), M))
  else (if l0 = 5 then (nz l2 fun z1 =>
  some (w32 (Int.tdiv l1 z1), M))
  else (if l0 = 6 then (nz l2 fun z2 =>
  some (Int.tmod l1 z2, M))
  else (if l0 = 7 then (if l1 < l2 then (some (1, M))
  else (some (0, M)))
  else (if l0 = 8 then (if l2 < l1 then (some (1, M))
  else (some (0, M)))
  else (if l1 = l2 then (some (1, M))
  else (some (0, M)))))))))
def p_M_comesTo_B230_16 (f : Nat) (l2 : Int) (l3 : Int) (l4 : Int) (l5 : Int) (M : oM) : Option ((Int × Int × oM) ⊕ (Int × oM)) :=
  some (.inl (l3, l5, M))
def p_M_comesTo_B85_16 (f : Nat) (l2 : Int) (l3 : Int) (l4 : Int) (l5 : Int) (s1 : Int) (s2 : Int) (M : oM) : Option ((Int × Int × oM) ⊕ (Int × oM)) :=
  bnd 260 s1 fun i1 =>
  lt (oU M 75 i1 s2) fun M2 =>
  lt (w32 (l3 + 1)) fun x3 =>
  p_M_comesTo_B230_16 f l2 x3 l4 l5 M2
def p_M_comesTo_B63_16 (f : Nat) (l2 : Int) (l3 : Int) (l4 : Int) (l5 : Int) (l6 : Int) (l7 : Int) (M : oM) : Option ((Int × Int × oM) ⊕ (Int × oM)) :=
  if l6 = 0 then (p_M_comesTo_B85_16 f l2 l3 l4 l5 l3 l7 M)
  else (bnd 8 l7 fun i4 =>
  p_M_comesTo_B85_16 f l2 l3 l4 l5 l3 (M 76 i4) M)
def p_M_comesTo_B155_16 (f : Nat) (l2 : Int) (l3 : Int) (l4 : Int) (l5 : Int) (l7 : Int) (s0 : Int) (s1 : Int) (M : oM) : Option ((Int × Int × oM) ⊕ (Int × oM)) :=
  if s0 = s1 then (lt (w32 (l4 + l7)) fun x6 =>
  p_M_comesTo_B230_16 f l2 l3 l4 x6 M)
  else (lt (w32 (l3 - 1)) fun x5 =>
  p_M_comesTo_B230_16 f l2 x5 l4 l5 M)
def p_M_comesTo_B135_16 (f : Nat) (l2 : Int) (l3 : Int) (l4 : Int) (l5 : Int) (l6 : Int) (l7 : Int) (M : oM) : Option ((Int × Int × oM) ⊕ (Int × oM)) :=
  bnd 260 (w32 (l3 - 1)) fun i7 =>
  if l6 = 12 then (p_M_comesTo_B155_16 f l2 l3 l4 l5 l7 (M 75 i7) 1 M)
  else (p_M_comesTo_B155_16 f l2 l3 l4 l5 l7 (M 75 i7) 0 M)
def p_M_comesTo_B203_16 (f : Nat) (l2 : Int) (l3 : Int) (l4 : Int) (l5 : Int) (l6 : Int) (M : oM) : Option ((Int × Int × oM) ⊕ (Int × oM)) :=
  bnd 260 (w32 (l3 - 1)) fun i8 =>
  bnd 260 l3 fun i9 =>
  (p_M_reckon f l6 (M 75 i8) (M 75 i9) M).bind fun q10 =>
  bnd 260 (w32 (l3 - 1)) fun i11 =>
  lt (oU q10.2 75 i11 q10.1) fun M12 =>
  p_M_comesTo_B230_16 f l2 l3 l4 l5 M12
def p_M_comesTo_B192_16 (f : Nat) (l2 : Int) (l3 : Int) (l4 : Int) (l5 : Int) (l6 : Int) (M : oM) : Option ((Int × Int × oM) ⊕ (Int × oM)) :=
  bnd 260 l3 fun i13 =>
  if M 75 i13 = 0 then (some (.inr (0, M)))
  else (p_M_comesTo_B203_16 f l2 l3 l4 l5 l6 M)
def p_M_comesTo_L16 (f : Nat) (l2 : Int) (l4 : Int) : Int × Int × oM → Option ((Int × Int × oM) ⊕ (Int × oM))
  | (l3, l5, M) =>
  if l5 < l2 then (bnd 260 l5 fun i15 =>
  nz 1048576 fun z16 =>
  lt (w32 (Int.tdiv (M 70 i15) z16)) fun x17 =>
  bnd 260 l5 fun i18 =>
  nz 1048576 fun z19 =>
  lt (Int.tmod (M 70 i18) z19) fun x20 =>
  lt (w32 (l5 + 1)) fun x21 =>
  if x17 = 0 then (p_M_comesTo_B63_16 f l2 l3 l4 x21 x17 x20 M)
  else (if x17 = 1 then (p_M_comesTo_B63_16 f l2 l3 l4 x21 x17 x20 M)
  else (if x17 = 10 then (bnd 260 (w32 (l3 - 1)) fun i23 =>
  bnd 260 (w32 (l3 - 1)) fun i24 =>
  lt (oU M 75 i24 (w32 (1 - (M 75 i23)))) fun M25 =>
  p_M_comesTo_B230_16 f l2 l3 l4 x21 M25)
  else (if x17 = 11 then (p_M_comesTo_B135_16 f l2 l3 l4 x21 x17 x20 M)
  else (if x17 = 12 then (p_M_comesTo_B135_16 f l2 l3 l4 x21 x17 x20 M)
  else (lt (w32 (l3 - 1)) fun x22 =>
  if x17 = 5 then (p_M_comesTo_B192_16 f l2 x22 l4 x21 x17 M)
  else (if x17 = 6 then (p_M_comesTo_B192_16 f l2 x22 l4 x21 x17 M)
  else (p_M_comesTo_B203_16 f l2 x22 l4 x21 x17 M))))))))
  else (bnd 260 0 fun i14 =>
  some (.inr (M 75 i14, M)))
def p_M_comesTo (f : Nat) (l1 : Int) (l2 : Int) (M : oM) : Option (Int × oM) :=
  nz 260 fun z26 =>
  lt (w32 (260 * (w32 (Int.tdiv l1 z26)))) fun x27 =>
  iter (p_M_comesTo_L16 f l2 x27) f (0, l1, M)
def p_M_byLaw_B83_2 (f : Nat) (l1 : Int) (l2 : Int) (l3 : Int) (M : oM) : Option ((Int × oM) ⊕ (Int × oM)) :=
  lt (w32 (l3 + 1)) fun x1 =>
  some (.inl (x1, M))
def p_M_byLaw_L2 (f : Nat) (l1 : Int) (l2 : Int) : Int × oM → Option ((Int × oM) ⊕ (Int × oM))
  | (l3, M) =>
  if l3 < M 57 16 then (bnd 16 l3 fun i2 =>
  if M 71 i2 = l1 then (bnd 16 l3 fun i3 =>
  bnd 16 l3 fun i4 =>
  (p_M_comesTo f (M 73 i3) (M 74 i4) M).bind fun q5 =>
  if q5.1 = 1 then (bnd 16 l3 fun i6 =>
  bnd 16 l3 fun i7 =>
  (p_M_comesTo f (q5.2 72 i6) (q5.2 73 i7) q5.2).bind fun q8 =>
  if q8.1 < 0 then (some (.inr (0, q8.2)))
  else (if l2 < q8.1 then (some (.inr (l2, q8.2)))
  else (some (.inr (q8.1, q8.2)))))
  else (p_M_byLaw_B83_2 f l1 l2 l3 q5.2))
  else (p_M_byLaw_B83_2 f l1 l2 l3 M))
  else (some (.inr (0, M)))
def p_M_byLaw (f : Nat) (l1 : Int) (l2 : Int) (M : oM) : Option (Int × oM) :=
  iter (p_M_byLaw_L2 f l1 l2) f (0, M)
def p_M_chalksOf_B35_4 (f : Nat) (l1 : Int) (l3 : Int) (s0 : Int) (s1 : Int) (M : oM) : Option ((Int × Int × oM) ⊕ (Int × oM)) :=
  lt (w32 (s0 + s1)) fun x1 =>
  lt (w32 (l3 + 1)) fun x2 =>
  some (.inl (x1, x2, M))
def p_M_chalksOf_L4 (f : Nat) (l1 : Int) : Int × Int × oM → Option ((Int × Int × oM) ⊕ (Int × oM))
  | (l2, l3, M) =>
  bnd 159 150 fun i3 =>
  if l3 < M 58 i3 then (bnd 159 (w32 (110 + l3)) fun i4 =>
  if M 58 i4 = l1 then (p_M_chalksOf_B35_4 f l1 l3 l2 1 M)
  else (p_M_chalksOf_B35_4 f l1 l3 l2 0 M))
  else (some (.inr (l2, M)))
def p_M_chalksOf (f : Nat) (l1 : Int) (M : oM) : Option (Int × oM) :=
  iter (p_M_chalksOf_L4 f l1) f (0, 0, M)
def p_M_feels_L2 (f : Nat) (l1 : Int) : Int × oM → Option ((Int × oM) ⊕ (Int × oM))
  | (l2, M) =>
  if l2 < 8 then (bnd 8 l2 fun i6 =>
  lt (oU M 76 i6 0) fun M7 =>
  lt (w32 (l2 + 1)) fun x8 =>
  some (.inl (x8, M7)))
  else (bnd 8 6 fun i1 =>
  lt (oU M 76 i1 l1) fun M2 =>
  bnd 159 156 fun i3 =>
  bnd 8 7 fun i4 =>
  lt (oU M2 76 i4 (M2 58 i3)) fun M5 =>
  some (.inr (0, M5)))
def p_M_feels (f : Nat) (l1 : Int) (M : oM) : Option (Int × oM) :=
  iter (p_M_feels_L2 f l1) f (0, M)
def p_M_max (f : Nat) (l0 : Int) (l1 : Int) (M : oM) : Option (Int × oM) :=
  if l1 < l0 then (some (l0, M))
  else (some (l1, M))
def p_M_size (f : Nat) (l0 : Int) (M : oM) : Option (Int × oM) :=
  if l0 < 0 then (some (w32 (-l0), M))
  else (some (l0, M))
def p_M_wayOf (f : Nat) (l1 : Int) (l2 : Int) (M : oM) : Option (Int × oM) :=
  bnd 10 l1 fun i1 =>
  bnd 10 l2 fun i2 =>
  (p_M_size f (w32 ((M 61 i1) - (M 61 i2))) M).bind fun q3 =>
  bnd 10 l1 fun i4 =>
  bnd 10 l2 fun i5 =>
  (p_M_size f (w32 ((q3.2 62 i4) - (q3.2 62 i5))) q3.2).bind fun q6 =>
  (p_M_max f 1 (w32 (q3.1 + q6.1)) q6.2).bind fun q7 =>
  some (q7.1, q7.2)
def p_M_feelsTwo (f : Nat) (l1 : Int) (l2 : Int) (M : oM) : Option (Int × oM) :=
  bnd 159 155 fun i1 =>
  (p_M_feels f (M 58 i1) M).bind fun q2 =>
  bnd 8 0 fun i3 =>
  lt (oU q2.2 76 i3 l1) fun M4 =>
  bnd 8 1 fun i5 =>
  lt (oU M4 76 i5 l2) fun M6 =>
  (p_M_debtOf f l1 l2 M6).bind fun q7 =>
  bnd 8 2 fun i8 =>
  lt (oU q7.2 76 i8 q7.1) fun M9 =>
  (p_M_owesAll f l1 M9).bind fun q10 =>
  bnd 8 3 fun i11 =>
  lt (oU q10.2 76 i11 q10.1) fun M12 =>
  (p_M_wayOf f l1 l2 M12).bind fun q13 =>
  bnd 8 4 fun i14 =>
  lt (oU q13.2 76 i14 q13.1) fun M15 =>
  (p_M_chalksOf f l2 M15).bind fun q16 =>
  bnd 8 5 fun i17 =>
  lt (oU q16.2 76 i17 q16.1) fun M18 =>
  some (0, M18)
def p_M_rainBy (f : Nat) (M : oM) : Option (Int × oM) :=
  (p_M_feels f 0 M).bind fun q1 =>
  (p_M_byLaw f 114 10 q1.2).bind fun q2 =>
  some (q2.1, q2.2)
def p_M_dayBegins_X86 (f : Nat) (l1 : Int) : oM → Option ((Int × oM) ⊕ (Int × oM))
  | M =>
  lt (w32 (l1 + 1)) fun x1 =>
  some (.inl (x1, M))
def p_M_dayBegins_B162_86 (f : Nat) (l1 : Int) (l2 : Int) (M : oM) : Option ((Int × oM) ⊕ (oM)) :=
  lt (w32 (l2 + 1)) fun x2 =>
  some (.inl (x2, M))
def p_M_dayBegins_L86 (f : Nat) (l1 : Int) : Int × oM → Option ((Int × oM) ⊕ (oM))
  | (l2, M) =>
  if l2 < 10 then ((p_M_debtOf f l1 l2 M).bind fun q3 =>
  if q3.1 = 0 then (p_M_dayBegins_B162_86 f l1 l2 q3.2)
  else ((p_M_feelsTwo f l1 l2 q3.2).bind fun q4 =>
  (p_M_debtOf f l1 l2 q4.2).bind fun q5 =>
  (p_M_byLaw f 105 9 q5.2).bind fun q6 =>
  (p_M_min f 99 (w32 (q5.1 + q6.1)) q6.2).bind fun q7 =>
  (p_M_debtOf f l1 l2 q7.2).bind fun q8 =>
  lt (oU q8.2 57 34 (w32 ((w32 ((q7.2 57 34) + q7.1)) - q8.1))) fun M9 =>
  bnd 159 (w32 ((w32 (0 + (w32 (10 * l1)))) + l2)) fun i10 =>
  lt (oU M9 58 i10 q7.1) fun M11 =>
  p_M_dayBegins_B162_86 f l1 l2 M11))
  else (some (.inr M))
def p_M_dayBegins_L78 (f : Nat) : Int × oM → Option ((Int × oM) ⊕ (Int × oM))
  | (l1, M) =>
  if l1 < 10 then ((iter (p_M_dayBegins_L86 f l1) f (0, M)).bind (p_M_dayBegins_X86 f l1))
  else (some (.inr (0, M)))
def p_M_dayBegins_B58 (f : Nat) (s1 : Int) (s2 : Int) (M : oM) : Option (Int × oM) :=
  bnd 159 s1 fun i12 =>
  lt (oU M 58 i12 s2) fun M13 =>
  bnd 159 157 fun i14 =>
  lt (oU M13 57 33 (w32 ((M13 57 33) + (M13 58 i14)))) fun M15 =>
  iter (p_M_dayBegins_L78 f) f (0, M15)
def p_M_dayBegins (f : Nat) (M : oM) : Option (Int × oM) :=
  bnd 159 158 fun i16 =>
  nz 65536 fun z17 =>
  bnd 159 158 fun i18 =>
  lt (oU M 58 i18 (Int.tmod (w32 ((w32 (25173 * (M 58 i16))) + 13849)) z17)) fun M19 =>
  bnd 159 158 fun i20 =>
  nz 10 fun z21 =>
  (p_M_rainBy f  M19).bind fun q22 =>
  if Int.tmod (M19 58 i20) z21 < q22.1 then (p_M_dayBegins_B58 f 157 1 q22.2)
  else (p_M_dayBegins_B58 f 157 0 q22.2)
def p_M_holdsAny_B42_2 (f : Nat) (l1 : Int) (l2 : Int) (M : oM) : Option ((Int × oM) ⊕ (Int × oM)) :=
  lt (w32 (l2 + 1)) fun x1 =>
  some (.inl (x1, M))
def p_M_holdsAny_L2 (f : Nat) (l1 : Int) : Int × oM → Option ((Int × oM) ⊕ (Int × oM))
  | (l2, M) =>
  if l2 < M 57 16 then (bnd 16 l2 fun i2 =>
  if M 71 i2 = l1 then (bnd 16 l2 fun i3 =>
  bnd 16 l2 fun i4 =>
  (p_M_comesTo f (M 73 i3) (M 74 i4) M).bind fun q5 =>
  if q5.1 = 1 then (some (.inr (1, q5.2)))
  else (p_M_holdsAny_B42_2 f l1 l2 q5.2))
  else (p_M_holdsAny_B42_2 f l1 l2 M))
  else (some (.inr (0, M)))
def p_M_holdsAny (f : Nat) (l1 : Int) (M : oM) : Option (Int × oM) :=
  iter (p_M_holdsAny_L2 f l1) f (0, M)
def p_M_likesBy (f : Nat) (l1 : Int) (l2 : Int) (M : oM) : Option (Int × oM) :=
  (p_M_feelsTwo f l1 l2 M).bind fun q1 =>
  (p_M_holdsAny f 115 q1.2).bind fun q2 =>
  if q2.1 = 0 then ((p_M_byLaw f 101 9999 q2.2).bind fun q3 =>
  some (q3.1, q3.2))
  else (some (0, q2.2))
def p_M_nextPaid_B61_8 (f : Nat) (l1 : Int) (l2 : Int) (l3 : Int) (l4 : Int) (M : oM) : Option ((Int × Int × Int × oM) ⊕ (Int × oM)) :=
  lt (w32 (l4 + 1)) fun x1 =>
  some (.inl (l2, l3, x1, M))
def p_M_nextPaid_L8 (f : Nat) (l1 : Int) : Int × Int × Int × oM → Option ((Int × Int × Int × oM) ⊕ (Int × oM))
  | (l2, l3, l4, M) =>
  if l4 < 10 then ((p_M_isPerson f l4 M).bind fun q2 =>
  if q2.1 = 0 then (p_M_nextPaid_B61_8 f l1 l2 l3 l4 q2.2)
  else ((p_M_debtOf f l1 l4 q2.2).bind fun q3 =>
  if q3.1 = 0 then (p_M_nextPaid_B61_8 f l1 l2 l3 l4 q3.2)
  else ((p_M_likesBy f l1 l4 q3.2).bind fun q4 =>
  if l3 < q4.1 then (p_M_nextPaid_B61_8 f l1 l4 q4.1 l4 q4.2)
  else (p_M_nextPaid_B61_8 f l1 l2 l3 l4 q4.2))))
  else (some (.inr (l2, M)))
def p_M_nextPaid (f : Nat) (l1 : Int) (M : oM) : Option (Int × oM) :=
  iter (p_M_nextPaid_L8 f l1) f ((-2), 0, 0, M)
def p_M_setsOut (f : Nat) (l1 : Int) (l2 : Int) (M : oM) : Option (Int × oM) :=
  bnd 159 151 fun i1 =>
  lt (oU M 58 i1 (-2)) fun M2 =>
  bnd 159 152 fun i3 =>
  lt (oU M2 58 i3 l1) fun M4 =>
  bnd 159 153 fun i5 =>
  lt (oU M4 58 i5 l2) fun M6 =>
  (p_M_wayOf f l1 l2 M6).bind fun q7 =>
  bnd 159 154 fun i8 =>
  lt (oU q7.2 58 i8 q7.1) fun M9 =>
  some (0, M9)
def p_M_holds (f : Nat) (l1 : Int) (M : oM) : Option (Int × oM) :=
  bnd 159 (w32 (100 + l1)) fun i1 =>
  bnd 159 (w32 (100 + l1)) fun i2 =>
  lt (oU M 58 i2 (w32 ((M 58 i1) + 1))) fun M3 =>
  bnd 159 155 fun i4 =>
  (p_M_in f (M3 58 i4) 6 19 M3).bind fun q5 =>
  if q5.1 = 0 then (some (0, q5.2))
  else (bnd 159 157 fun i6 =>
  if q5.2 58 i6 = 1 then (some (0, q5.2))
  else ((p_M_nextPaid f l1 q5.2).bind fun q7 =>
  if q7.1 < 0 then (some (0, q7.2))
  else ((p_M_setsOut f l1 q7.1 q7.2).bind fun q8 =>
  some (0, q8.2))))
def p_M_chalks_L15 (f : Nat) (l1 : Int) : Int × oM → Option ((Int × oM) ⊕ (Int × oM))
  | (l2, M) =>
  if l2 < 40 then (bnd 159 (w32 (110 + l2)) fun i9 =>
  bnd 159 (w32 ((w32 (110 + l2)) - 1)) fun i10 =>
  lt (oU M 58 i10 (M 58 i9)) fun M11 =>
  lt (w32 (l2 + 1)) fun x12 =>
  some (.inl (x12, M11)))
  else (bnd 159 150 fun i1 =>
  lt (oU M 58 i1 39) fun M2 =>
  bnd 159 150 fun i3 =>
  bnd 159 (w32 (110 + (M2 58 i3))) fun i4 =>
  lt (oU M2 58 i4 l1) fun M5 =>
  bnd 159 150 fun i6 =>
  bnd 159 150 fun i7 =>
  lt (oU M5 58 i7 (w32 ((M5 58 i6) + 1))) fun M8 =>
  some (.inr (0, M8)))
def p_M_chalks (f : Nat) (l1 : Int) (M : oM) : Option (Int × oM) :=
  bnd 159 150 fun i13 =>
  if M 58 i13 = 40 then (iter (p_M_chalks_L15 f l1) f (1, M))
  else (bnd 159 150 fun i14 =>
  bnd 159 (w32 (110 + (M 58 i14))) fun i15 =>
  lt (oU M 58 i15 l1) fun M16 =>
  bnd 159 150 fun i17 =>
  bnd 159 150 fun i18 =>
  lt (oU M16 58 i18 (w32 ((M16 58 i17) + 1))) fun M19 =>
  some (0, M19))
def p_M_pays (f : Nat) (l1 : Int) (l2 : Int) (M : oM) : Option (Int × oM) :=
  (p_M_debtOf f l1 l2 M).bind fun q1 =>
  (p_M_max f 0 (w32 (q1.1 - 1)) q1.2).bind fun q2 =>
  bnd 159 (w32 ((w32 (0 + (w32 (10 * l1)))) + l2)) fun i3 =>
  lt (oU q2.2 58 i3 q2.1) fun M4 =>
  (p_M_rests f l2 M4).bind fun q5 =>
  (p_M_chalks f l2 q5.2).bind fun q6 =>
  some (0, q6.2)
def p_M_hourGoes_B125 (f : Nat) (M : oM) : Option (Int × oM) :=
  bnd 159 155 fun i1 =>
  bnd 159 155 fun i2 =>
  lt (oU M 58 i2 (w32 ((M 58 i1) + 1))) fun M3 =>
  bnd 159 155 fun i4 =>
  if M3 58 i4 < 24 then (some (0, M3))
  else (bnd 159 155 fun i5 =>
  lt (oU M3 58 i5 0) fun M6 =>
  bnd 159 156 fun i7 =>
  bnd 159 156 fun i8 =>
  lt (oU M6 58 i8 (w32 ((M6 58 i7) + 1))) fun M9 =>
  some (0, M9))
def p_M_hourGoes_B21 (f : Nat) (M : oM) : Option (Int × oM) :=
  bnd 159 154 fun i10 =>
  if 0 < M 58 i10 then (bnd 159 154 fun i14 =>
  bnd 159 154 fun i15 =>
  lt (oU M 58 i15 (w32 ((M 58 i14) - 1))) fun M16 =>
  bnd 159 154 fun i17 =>
  if M16 58 i17 = 0 then (bnd 159 153 fun i18 =>
  lt (oU M16 57 35 (M16 58 i18)) fun M19 =>
  bnd 159 152 fun i20 =>
  (p_M_pays f (M19 58 i20) (M19 57 35) M19).bind fun q21 =>
  lt (oU q21.2 57 32 (w32 ((q21.2 57 32) + 1))) fun M22 =>
  p_M_hourGoes_B125 f M22)
  else (p_M_hourGoes_B125 f M16))
  else (bnd 159 151 fun i11 =>
  if M 58 i11 < 0 then (p_M_hourGoes_B125 f M)
  else (bnd 159 151 fun i12 =>
  (p_M_holds f (M 58 i12) M).bind fun q13 =>
  p_M_hourGoes_B125 f q13.2))
def p_M_hourGoes (f : Nat) (M : oM) : Option (Int × oM) :=
  lt (oU M 57 35 (-2)) fun M23 =>
  bnd 159 155 fun i24 =>
  if M23 58 i24 = 0 then ((p_M_dayBegins f  M23).bind fun q25 =>
  p_M_hourGoes_B21 f q25.2)
  else (p_M_hourGoes_B21 f M23)
def p_M_hoursGo_L6 (f : Nat) (l1 : Int) : Int × oM → Option ((Int × oM) ⊕ (Int × oM))
  | (l2, M) =>
  if l2 < l1 then (bnd 159 156 fun i1 =>
  if M 58 i1 < 9999 then ((p_M_hourGoes f  M).bind fun q2 =>
  lt (w32 (l2 + 1)) fun x3 =>
  some (.inl (x3, q2.2)))
  else (some (.inr (0, M))))
  else (some (.inr (0, M)))
def p_M_hoursGo (f : Nat) (l1 : Int) (M : oM) : Option (Int × oM) :=
  (p_M_begins f  M).bind fun q4 =>
  iter (p_M_hoursGo_L6 f l1) f (0, q4.2)
def p_M_hours (f : Nat) (l1 : Int) (M : oM) : Option (Int × oM) :=
  (p_M_in f l1 1 240 M).bind fun q1 =>
  if q1.1 = 0 then (some ((-1), q1.2))
  else ((p_M_hoursGo f l1 q1.2).bind fun q2 =>
  some (q2.2 57 32, q2.2))
def p_M_copies_L2 (f : Nat) (o0 : Nat) (o1 : Nat) : Int × oM → Option ((Int × oM) ⊕ (Int × oM))
  | (l2, M) =>
  if l2 < 159 then (bnd 159 l2 fun i1 =>
  bnd 159 l2 fun i2 =>
  lt (oU M o1 i2 (M o0 i1)) fun M3 =>
  lt (w32 (l2 + 1)) fun x4 =>
  some (.inl (x4, M3)))
  else (some (.inr (0, M)))
def p_M_copies (f : Nat) (o0 : Nat) (o1 : Nat) (M : oM) : Option (Int × oM) :=
  iter (p_M_copies_L2 f o0 o1) f (0, M)
def p_M_tried_B182 (f : Nat) (l3 : Int) (M : oM) : Option (Int × oM) :=
  (p_M_copies f 59 58  M).bind fun q1 =>
  some (l3, q1.2)
def p_M_tried_B44 (f : Nat) (l1 : Int) (l2 : Int) (M : oM) : Option (Int × oM) :=
  (p_M_copies f 58 59  M).bind fun q2 =>
  (p_M_hoursGo f l1 q2.2).bind fun q3 =>
  if l2 = 0 then (lt (q3.2 57 32) fun x4 =>
  p_M_tried_B182 f x4 q3.2)
  else (if l2 = 1 then ((p_M_owedInAll f  q3.2).bind fun q5 =>
  p_M_tried_B182 f q5.1 q5.2)
  else (if l2 = 2 then (bnd 159 151 fun i6 =>
  lt (q3.2 58 i6) fun x7 =>
  p_M_tried_B182 f x7 q3.2)
  else (if l2 = 3 then (lt (q3.2 57 33) fun x8 =>
  p_M_tried_B182 f x8 q3.2)
  else (if l2 = 4 then (lt (q3.2 57 34) fun x9 =>
  p_M_tried_B182 f x9 q3.2)
  else (if l2 = 5 then (bnd 159 155 fun i10 =>
  lt (q3.2 58 i10) fun x11 =>
  p_M_tried_B182 f x11 q3.2)
  else (bnd 159 (w32 ((w32 (100 + l2)) - 10)) fun i12 =>
  bnd 159 (w32 ((w32 (100 + l2)) - 10)) fun i13 =>
  lt (w32 ((q3.2 58 i12) - (q3.2 59 i13))) fun x14 =>
  p_M_tried_B182 f x14 q3.2))))))
def p_M_tried (f : Nat) (l1 : Int) (l2 : Int) (M : oM) : Option (Int × oM) :=
  (p_M_in f l1 1 240 M).bind fun q15 =>
  if q15.1 = 0 then (some ((-1), q15.2))
  else ((p_M_in f l2 0 5 q15.2).bind fun q16 =>
  if q16.1 = 0 then ((p_M_in f l2 10 19 q16.2).bind fun q17 =>
  if q17.1 = 0 then (some ((-1), q17.2))
  else ((p_M_isPerson f (w32 (l2 - 10)) q17.2).bind fun q18 =>
  if q18.1 = 0 then (some ((-1), q18.2))
  else (p_M_tried_B44 f l1 l2 q18.2)))
  else (p_M_tried_B44 f l1 l2 q16.2))
def p_M_getsAll_L4 (f : Nat) (l1 : Int) : Int × Int × oM → Option ((Int × Int × oM) ⊕ (Int × oM))
  | (l2, l3, M) =>
  if l3 < 10 then ((p_M_debtOf f l3 l1 M).bind fun q1 =>
  lt (w32 (l2 + q1.1)) fun x2 =>
  lt (w32 (l3 + 1)) fun x3 =>
  some (.inl (x2, x3, q1.2)))
  else (some (.inr (l2, M)))
def p_M_getsAll (f : Nat) (l1 : Int) (M : oM) : Option (Int × oM) :=
  iter (p_M_getsAll_L4 f l1) f (0, 0, M)
def p_M_personIs (f : Nat) (l1 : Int) (l2 : Int) (M : oM) : Option (Int × oM) :=
  (p_M_isPerson f l1 M).bind fun q1 =>
  if q1.1 = 0 then (some ((-1), q1.2))
  else (if l2 = 0 then (bnd 10 l1 fun i2 =>
  some (q1.2 61 i2, q1.2))
  else (if l2 = 1 then (bnd 10 l1 fun i3 =>
  some (q1.2 62 i3, q1.2))
  else (if l2 = 2 then ((p_M_owesAll f l1 q1.2).bind fun q4 =>
  some (q4.1, q4.2))
  else (if l2 = 3 then ((p_M_getsAll f l1 q1.2).bind fun q5 =>
  some (q5.1, q5.2))
  else (if l2 = 4 then (bnd 159 (w32 (100 + l1)) fun i6 =>
  some (q1.2 58 i6, q1.2))
  else (if l2 = 5 then ((p_M_chalksOf f l1 q1.2).bind fun q7 =>
  some (q7.1, q7.2))
  else (some ((-1), q1.2))))))))
def p_M_owes (f : Nat) (l1 : Int) (l2 : Int) (M : oM) : Option (Int × oM) :=
  (p_M_areTwo f l1 l2 M).bind fun q1 =>
  if q1.1 = 0 then (some ((-1), q1.2))
  else ((p_M_debtOf f l1 l2 q1.2).bind fun q2 =>
  some (q2.1, q2.2))
def p_M_likes (f : Nat) (l1 : Int) (l2 : Int) (M : oM) : Option (Int × oM) :=
  (p_M_areTwo f l1 l2 M).bind fun q1 =>
  if q1.1 = 0 then (some ((-1), q1.2))
  else ((p_M_likesBy f l1 l2 q1.2).bind fun q2 =>
  some (q2.1, q2.2))
def p_M_readsTimes (f : Nat) (M : oM) : Option (Int × oM) :=
  lt (oU M 57 42 (M 57 8)) fun M1 =>
  lt (oU M1 57 43 1) fun M2 =>
  (p_M_here f  M2).bind fun q3 =>
  (p_M_in f q3.1 50 57 q3.2).bind fun q4 =>
  if q4.1 = 0 then (some (0, q4.2))
  else ((p_M_here f  q4.2).bind fun q5 =>
  lt (oU q5.2 57 43 (w32 (q5.1 - 48))) fun M6 =>
  lt (oU M6 57 8 (w32 ((M6 57 8) + 1))) fun M7 =>
  some (0, M7))
def p_M_repeats_L31 (f : Nat) (l1 : Int) (l2 : Int) (l4 : Int) : Int × oM → Option ((Int × oM) ⊕ (Int × oM))
  | (l5, M) =>
  if l5 < w32 (l4 * l2) then (bnd 60 (w32 ((w32 (l1 + l5)) - l4)) fun i2 =>
  bnd 60 (w32 (l1 + l5)) fun i3 =>
  lt (oU M 78 i3 (M 78 i2)) fun M4 =>
  lt (w32 (l5 + 1)) fun x5 =>
  some (.inl (x5, M4)))
  else (lt (oU M 57 40 (w32 (l1 + (w32 (l4 * l2))))) fun M1 =>
  some (.inr (1, M1)))
def p_M_repeats (f : Nat) (l1 : Int) (l2 : Int) (l3 : Int) (M : oM) : Option (Int × oM) :=
  lt (w32 ((M 57 40) - l1)) fun x6 =>
  if 60 < w32 (l1 + (w32 (x6 * l2))) then ((p_M_wrongAt f 6 l3 M).bind fun q7 =>
  bnd 2 q7.1 fun b8 => some (b8, q7.2))
  else (iter (p_M_repeats_L31 f l1 l2 x6) f (x6, M))
def p_M_readsItem_L203 (f : Nat) : oM → Option ((oM) ⊕ (Int × oM))
  | M =>
  (p_M_here f  M).bind fun q1 =>
  if q1.1 = 41 then (if 0 < q1.2 57 41 then (lt (oU q1.2 57 8 (w32 ((q1.2 57 8) + 1))) fun M2 =>
  lt (oU M2 57 41 (w32 ((M2 57 41) - 1))) fun M3 =>
  bnd 2 (M3 57 41) fun i4 =>
  bnd 2 (M3 57 41) fun i5 =>
  bnd 2 (M3 57 41) fun i6 =>
  (p_M_repeats f (M3 80 i4) (M3 81 i5) (M3 79 i6) M3).bind fun q7 =>
  if q7.1 = 0 then (some (.inr (0, q7.2)))
  else (some (.inl q7.2)))
  else (some (.inr (1, q1.2))))
  else (some (.inr (1, q1.2)))
def p_M_readsItem_X4 (f : Nat) : (Int × oM) ⊕ (oM) → Option (Int × oM)
  | .inl q => some q
  | .inr M =>
  lt (M 57 42) fun x8 =>
  lt (M 57 43) fun x9 =>
  (p_M_here f  M).bind fun q10 =>
  (p_M_in f q10.1 97 106 q10.2).bind fun q11 =>
  if q11.1 = 0 then ((p_M_wrongAt f 1 (q11.2 57 8) q11.2).bind fun q20 =>
  bnd 2 q20.1 fun b21 => some (b21, q20.2))
  else (if 60 < w32 ((q11.2 57 40) + x9) then ((p_M_wrongAt f 6 x8 q11.2).bind fun q18 =>
  bnd 2 q18.1 fun b19 => some (b19, q18.2))
  else ((p_M_here f  q11.2).bind fun q12 =>
  bnd 60 (q11.2 57 40) fun i13 =>
  lt (oU q12.2 78 i13 (w32 (q12.1 - 97))) fun M14 =>
  lt (oU M14 57 40 (w32 ((M14 57 40) + 1))) fun M15 =>
  lt (oU M15 57 8 (w32 ((M15 57 8) + 1))) fun M16 =>
  (p_M_repeats f (w32 ((M16 57 40) - 1)) x9 x8 M16).bind fun q17 =>
  if q17.1 = 0 then (some (0, q17.2))
  else (iter (p_M_readsItem_L203 f) f q17.2)))
def p_M_readsItem_L4 (f : Nat) : oM → Option ((oM) ⊕ ((Int × oM) ⊕ (oM)))
  | M =>
  (p_M_here f  M).bind fun q22 =>
  if q22.1 = 40 then (if q22.2 57 41 = 2 then ((p_M_wrongAt f 5 (q22.2 57 8) q22.2).bind fun q32 =>
  bnd 2 q32.1 fun b33 => some (.inr (.inl (b33, q32.2))))
  else (bnd 2 (q22.2 57 41) fun i23 =>
  lt (oU q22.2 79 i23 (q22.2 57 42)) fun M24 =>
  bnd 2 (M24 57 41) fun i25 =>
  lt (oU M24 80 i25 (M24 57 40)) fun M26 =>
  bnd 2 (M26 57 41) fun i27 =>
  lt (oU M26 81 i27 (M26 57 43)) fun M28 =>
  lt (oU M28 57 41 (w32 ((M28 57 41) + 1))) fun M29 =>
  lt (oU M29 57 8 (w32 ((M29 57 8) + 1))) fun M30 =>
  (p_M_readsTimes f  M30).bind fun q31 =>
  some (.inl q31.2)))
  else (some (.inr (.inr q22.2)))
def p_M_readsItem (f : Nat) (M : oM) : Option (Int × oM) :=
  (p_M_readsTimes f  M).bind fun q34 =>
  (iter (p_M_readsItem_L4 f) f q34.2).bind (p_M_readsItem_X4 f)
def p_M_readsRoute_B55_25 (f : Nat) (l2 : Int) (M : oM) : Option ((Int × oM) ⊕ (Int × oM)) :=
  lt (oU M 57 7 0) fun M1 =>
  if l2 = 0 then (some (.inr (M1 57 10, M1)))
  else (some (.inr (0, M1)))
def p_M_readsRoute_B47_25 (f : Nat) (M : oM) : Option ((Int × oM) ⊕ (Int × oM)) :=
  (p_M_readsItem f  M).bind fun q2 =>
  some (.inl (q2.1, q2.2))
def p_M_readsRoute_L25 (f : Nat) : Int × oM → Option ((Int × oM) ⊕ (Int × oM))
  | (l2, M) =>
  if l2 = 0 then (p_M_readsRoute_B55_25 f l2 M)
  else (if M 57 8 < M 57 9 then (p_M_readsRoute_B47_25 f M)
  else (if 0 < M 57 41 then (p_M_readsRoute_B47_25 f M)
  else (p_M_readsRoute_B55_25 f l2 M)))
def p_M_readsRoute (f : Nat) (l1 : Int) (M : oM) : Option (Int × oM) :=
  lt (oU M 57 8 0) fun M3 =>
  lt (oU M3 57 9 l1) fun M4 =>
  lt (oU M4 57 40 0) fun M5 =>
  lt (oU M5 57 41 0) fun M6 =>
  (p_M_readsItem f  M6).bind fun q7 =>
  iter (p_M_readsRoute_L25 f) f (q7.1, q7.2)
def p_M_walksRoute_L10 (f : Nat) : oM → Option ((oM) ⊕ (Int × oM))
  | M =>
  if M 57 44 < M 57 40 then (bnd 159 151 fun i1 =>
  lt (M 58 i1) fun x2 =>
  bnd 60 (M 57 44) fun i3 =>
  lt (M 78 i3) fun x4 =>
  (p_M_debtOf f x2 x4 M).bind fun q5 =>
  if q5.1 = 0 then (some (.inr (0, q5.2)))
  else ((p_M_wayOf f x2 x4 q5.2).bind fun q6 =>
  lt (oU q6.2 57 45 (w32 ((q5.2 57 45) + q6.1))) fun M7 =>
  (p_M_pays f x2 x4 M7).bind fun q8 =>
  lt (oU q8.2 57 44 (w32 ((q8.2 57 44) + 1))) fun M9 =>
  some (.inl M9)))
  else (some (.inr (0, M)))
def p_M_walksRoute (f : Nat) (M : oM) : Option (Int × oM) :=
  lt (oU M 57 44 0) fun M10 =>
  lt (oU M10 57 45 0) fun M11 =>
  iter (p_M_walksRoute_L10 f) f M11
def p_M_route (f : Nat) (l1 : Int) (l2 : Int) (M : oM) : Option (Int × oM) :=
  (p_M_in f l1 1 60 M).bind fun q1 =>
  if q1.1 = 0 then (some ((-1), q1.2))
  else ((p_M_in f l2 0 2 q1.2).bind fun q2 =>
  if q2.1 = 0 then (some ((-1), q2.2))
  else (if q2.2 57 7 < l1 then (some ((-1), q2.2))
  else ((p_M_readsRoute f l1 q2.2).bind fun q3 =>
  if q3.1 = 0 then (bnd 159 151 fun i4 =>
  if q3.2 58 i4 < 0 then (some ((-2), q3.2))
  else ((p_M_copies f 58 59  q3.2).bind fun q5 =>
  (p_M_walksRoute f  q5.2).bind fun q6 =>
  bnd 159 151 fun i7 =>
  lt (q6.2 58 i7) fun x8 =>
  (p_M_copies f 59 58  q6.2).bind fun q9 =>
  if l2 = 0 then (some (q9.2 57 44, q9.2))
  else (if l2 = 1 then (some (q9.2 57 45, q9.2))
  else (some (x8, q9.2)))))
  else (some (q3.1, q3.2)))))
def p_M_walk (f : Nat) (l1 : Int) (M : oM) : Option (Int × oM) :=
  (p_M_in f l1 1 60 M).bind fun q1 =>
  if q1.1 = 0 then (some ((-1), q1.2))
  else (if q1.2 57 7 < l1 then (some ((-1), q1.2))
  else ((p_M_readsRoute f l1 q1.2).bind fun q2 =>
  if q2.1 = 0 then (bnd 159 151 fun i3 =>
  if q2.2 58 i3 < 0 then (some ((-2), q2.2))
  else ((p_M_walksRoute f  q2.2).bind fun q4 =>
  some (q4.2 57 44, q4.2)))
  else (some (q2.1, q2.2))))
def p_M_leftOf (f : Nat) (l1 : Int) (l2 : Int) (M : oM) : Option (Int × oM) :=
  bnd 100 (w32 ((w32 (10 * l1)) + l2)) fun i1 =>
  some (M 82 i1, M)
def p_M_reachLeft_X16 (f : Nat) (l3 : Int) : Int × oM → Option ((Int × Int × oM) ⊕ (Int × oM))
  | (l2, M) =>
  some (.inl (l2, l3, M))
def p_M_reachLeft_X26 (f : Nat) (l3 : Int) (l4 : Int) : Int × oM → Option ((Int × Int × oM) ⊕ (Int × oM))
  | (l2, M) =>
  lt (w32 (l4 + 1)) fun x1 =>
  some (.inl (l2, x1, M))
def p_M_reachLeft_B60_26 (f : Nat) (l2 : Int) (l3 : Int) (l4 : Int) (l5 : Int) (M : oM) : Option ((Int × Int × oM) ⊕ (Int × oM)) :=
  lt (w32 (l5 + 1)) fun x2 =>
  some (.inl (l2, x2, M))
def p_M_reachLeft_L26 (f : Nat) (l3 : Int) (l4 : Int) : Int × Int × oM → Option ((Int × Int × oM) ⊕ (Int × oM))
  | (l2, l5, M) =>
  if l5 < 10 then ((p_M_has f l2 l4 M).bind fun q3 =>
  if q3.1 = 0 then (p_M_reachLeft_B60_26 f l2 l3 l4 l5 q3.2)
  else ((p_M_leftOf f l4 l5 q3.2).bind fun q4 =>
  if 0 < q4.1 then (lt (ior l2 (ishl 1 l5)) fun x5 =>
  p_M_reachLeft_B60_26 f x5 l3 l4 l5 q4.2)
  else (p_M_reachLeft_B60_26 f l2 l3 l4 l5 q4.2)))
  else (some (.inr (l2, M)))
def p_M_reachLeft_L16 (f : Nat) (l3 : Int) : Int × Int × oM → Option ((Int × Int × oM) ⊕ (Int × oM))
  | (l2, l4, M) =>
  if l4 < 10 then ((iter (p_M_reachLeft_L26 f l3 l4) f (l2, 0, M)).bind (p_M_reachLeft_X26 f l3 l4))
  else (some (.inr (l2, M)))
def p_M_reachLeft_L6 (f : Nat) : Int × Int × oM → Option ((Int × Int × oM) ⊕ (Int × oM))
  | (l2, l3, M) =>
  if l2 = l3 then (some (.inr (l2, M)))
  else ((iter (p_M_reachLeft_L16 f l2) f (l2, 0, M)).bind (p_M_reachLeft_X16 f l2))
def p_M_reachLeft (f : Nat) (l1 : Int) (M : oM) : Option (Int × oM) :=
  lt (ishl 1 l1) fun x6 =>
  iter (p_M_reachLeft_L6 f) f (x6, 0, M)
def p_M_isRow_B144_14 (f : Nat) (M : oM) : Option ((Int × Int × Int × oM) ⊕ (Int × oM)) :=
  some (.inr (1, M))
def p_M_isRow_B133_14 (f : Nat) (l3 : Int) (l4 : Int) (M : oM) : Option ((Int × Int × Int × oM) ⊕ (Int × oM)) :=
  if l3 = 1 then (if l4 = 1 then (p_M_isRow_B144_14 f M)
  else (some (.inr (0, M))))
  else (some (.inr (0, M)))
def p_M_isRow_B118_14 (f : Nat) (l1 : Int) (l2 : Int) (l3 : Int) (l4 : Int) (l5 : Int) (M : oM) : Option ((Int × Int × Int × oM) ⊕ (Int × oM)) :=
  lt (w32 (l5 + 1)) fun x1 =>
  some (.inl (l3, l4, x1, M))
def p_M_isRow_B105_14 (f : Nat) (l1 : Int) (l2 : Int) (l3 : Int) (l4 : Int) (l5 : Int) (l6 : Int) (l7 : Int) (M : oM) : Option ((Int × Int × Int × oM) ⊕ (Int × oM)) :=
  if l5 = l1 then (lt (w32 (l6 - l7)) fun x2 =>
  p_M_isRow_B118_14 f l1 l2 l3 x2 l5 M)
  else (p_M_isRow_B118_14 f l1 l2 l3 l4 l5 M)
def p_M_isRow_B83_14 (f : Nat) (l1 : Int) (l2 : Int) (l3 : Int) (l4 : Int) (l5 : Int) (l6 : Int) (l7 : Int) (M : oM) : Option ((Int × Int × Int × oM) ⊕ (Int × oM)) :=
  if w32 (l7 + 1) < l6 then (some (.inr (0, M)))
  else (if l7 < l6 then (lt (w32 (l3 + 1)) fun x3 =>
  p_M_isRow_B105_14 f l1 l2 x3 l4 l5 l6 l7 M)
  else (p_M_isRow_B105_14 f l1 l2 l3 l4 l5 l6 l7 M))
def p_M_isRow_X30 (f : Nat) (l1 : Int) (l2 : Int) (l3 : Int) (l4 : Int) (l5 : Int) : Int × Int × oM → Option ((Int × Int × Int × oM) ⊕ (Int × oM))
  | (l6, l7, M) =>
  if 0 < l6 then ((p_M_has f l2 l5 M).bind fun q4 =>
  if q4.1 = 0 then (some (.inr (0, q4.2)))
  else (p_M_isRow_B83_14 f l1 l2 l3 l4 l5 l6 l7 q4.2))
  else (p_M_isRow_B83_14 f l1 l2 l3 l4 l5 l6 l7 M)
def p_M_isRow_L30 (f : Nat) (l1 : Int) (l2 : Int) (l3 : Int) (l4 : Int) (l5 : Int) : Int × Int × Int × oM → Option ((Int × Int × Int × oM) ⊕ (Int × Int × oM))
  | (l6, l7, l8, M) =>
  if l8 < 10 then ((p_M_leftOf f l5 l8 M).bind fun q5 =>
  lt (w32 (l6 + q5.1)) fun x6 =>
  (p_M_leftOf f l8 l5 q5.2).bind fun q7 =>
  lt (w32 (l7 + q7.1)) fun x8 =>
  lt (w32 (l8 + 1)) fun x9 =>
  some (.inl (x6, x8, x9, q7.2)))
  else (some (.inr (l6, l7, M)))
def p_M_isRow_L14 (f : Nat) (l1 : Int) (l2 : Int) : Int × Int × Int × oM → Option ((Int × Int × Int × oM) ⊕ (Int × oM))
  | (l3, l4, l5, M) =>
  if l5 < 10 then ((iter (p_M_isRow_L30 f l1 l2 l3 l4 l5) f (0, 0, 0, M)).bind (p_M_isRow_X30 f l1 l2 l3 l4 l5))
  else (if l3 = 0 then (if l4 = 0 then (p_M_isRow_B144_14 f M)
  else (p_M_isRow_B133_14 f l3 l4 M))
  else (p_M_isRow_B133_14 f l3 l4 M))
def p_M_isRow (f : Nat) (l1 : Int) (M : oM) : Option (Int × oM) :=
  (p_M_reachLeft f l1 M).bind fun q10 =>
  iter (p_M_isRow_L14 f l1 q10.1) f (0, 0, 0, q10.2)
def p_M_canGo (f : Nat) (l1 : Int) (l2 : Int) (M : oM) : Option (Int × oM) :=
  (p_M_leftOf f l1 l2 M).bind fun q1 =>
  if q1.1 = 0 then (some (0, q1.2))
  else ((p_M_leftOf f l1 l2 q1.2).bind fun q2 =>
  bnd 100 (w32 ((w32 (10 * l1)) + l2)) fun i3 =>
  lt (oU q2.2 82 i3 (w32 (q2.1 - 1))) fun M4 =>
  (p_M_isRow f l2 M4).bind fun q5 =>
  (p_M_leftOf f l1 l2 q5.2).bind fun q6 =>
  bnd 100 (w32 ((w32 (10 * l1)) + l2)) fun i7 =>
  lt (oU q6.2 82 i7 (w32 (q6.1 + 1))) fun M8 =>
  bnd 2 q5.1 fun b9 => some (b9, M8))
def p_M_laysTour_X52 (f : Nat) (l2 : Int) (l3 : Int) (l4 : Int) : Int × oM → Option ((Int × Int × oM) ⊕ (Int × oM))
  | (l5, M) =>
  (p_M_leftOf f l3 l5 M).bind fun q1 =>
  bnd 100 (w32 ((w32 (10 * l3)) + l5)) fun i2 =>
  lt (oU q1.2 82 i2 (w32 (q1.1 - 1))) fun M3 =>
  bnd 60 l4 fun i4 =>
  lt (oU M3 83 i4 l5) fun M5 =>
  lt (w32 (l4 + 1)) fun x6 =>
  some (.inl (l5, x6, M5))
def p_M_laysTour_L52 (f : Nat) (l2 : Int) (l3 : Int) (l4 : Int) : Int × oM → Option ((Int × oM) ⊕ (Int × oM))
  | (l5, M) =>
  (p_M_canGo f l3 l5 M).bind fun q7 =>
  if q7.1 = 0 then (lt (w32 (l5 + 1)) fun x8 =>
  some (.inl (x8, q7.2)))
  else (some (.inr (l5, q7.2)))
def p_M_laysTour_L43 (f : Nat) (l2 : Int) : Int × Int × oM → Option ((Int × Int × oM) ⊕ (Int × oM))
  | (l3, l4, M) =>
  if l4 < l2 then ((iter (p_M_laysTour_L52 f l2 l3 l4) f (0, M)).bind (p_M_laysTour_X52 f l2 l3 l4))
  else (some (.inr (1, M)))
def p_M_laysTour_X2 (f : Nat) (l1 : Int) (l2 : Int) : oM → Option (Int × oM)
  | M =>
  (p_M_isRow f l1 M).bind fun q9 =>
  if q9.1 = 0 then (some (0, q9.2))
  else (iter (p_M_laysTour_L43 f l2) f (l1, 0, q9.2))
def p_M_laysTour_L2 (f : Nat) (l1 : Int) (l2 : Int) : Int × oM → Option ((Int × oM) ⊕ (oM))
  | (l3, M) =>
  if l3 < 100 then (bnd 159 (w32 (0 + l3)) fun i10 =>
  bnd 100 l3 fun i11 =>
  lt (oU M 82 i11 (M 58 i10)) fun M12 =>
  lt (w32 (l3 + 1)) fun x13 =>
  some (.inl (x13, M12)))
  else (some (.inr M))
def p_M_laysTour (f : Nat) (l1 : Int) (l2 : Int) (M : oM) : Option (Int × oM) :=
  (iter (p_M_laysTour_L2 f l1 l2) f (0, M)).bind (p_M_laysTour_X2 f l1 l2)
def p_M_tour_B143 (f : Nat) (M : oM) : Option (Int × oM) :=
  some (1, M)
def p_M_tour_B107 (f : Nat) (l1 : Int) (l2 : Int) (M : oM) : Option (Int × oM) :=
  if l1 < 100 then (bnd 60 l1 fun i3 =>
  some (M 83 i3, M))
  else (if l2 = 0 then (p_M_tour_B143 f M)
  else (bnd 60 (w32 (l2 - 1)) fun i1 =>
  bnd 159 151 fun i2 =>
  if M 83 i1 = M 58 i2 then (p_M_tour_B143 f M)
  else (some (0, M))))
def p_M_tour_B23 (f : Nat) (l1 : Int) (M : oM) : Option (Int × oM) :=
  bnd 159 151 fun i4 =>
  if M 58 i4 < 0 then (some ((-2), M))
  else ((p_M_owedInAll f  M).bind fun q5 =>
  if 60 < q5.1 then (some ((-3), q5.2))
  else (if l1 = 101 then (some (q5.1, q5.2))
  else (bnd 159 151 fun i6 =>
  (p_M_laysTour f (q5.2 58 i6) q5.1 q5.2).bind fun q7 =>
  if l1 = 100 then (if q7.1 = 0 then (some (0, q7.2))
  else (some (1, q7.2)))
  else (if q7.1 = 0 then (some ((-4), q7.2))
  else (if l1 < 100 then (if l1 < q5.1 then (p_M_tour_B107 f l1 q5.1 q7.2)
  else (some ((-4), q7.2)))
  else (p_M_tour_B107 f l1 q5.1 q7.2))))))
def p_M_tour (f : Nat) (l1 : Int) (M : oM) : Option (Int × oM) :=
  (p_M_in f l1 0 59 M).bind fun q8 =>
  if q8.1 = 0 then ((p_M_in f l1 100 102 q8.2).bind fun q9 =>
  if q9.1 = 0 then (some ((-1), q9.2))
  else (p_M_tour_B23 f l1 q9.2))
  else (p_M_tour_B23 f l1 q8.2)
def p_M_bestCoin_B99_5 (f : Nat) (l1 : Int) (l2 : Int) (l3 : Int) (l4 : Int) (M : oM) : Option ((Int × Int × oM) ⊕ (Int × oM)) :=
  lt (w32 (l4 + 1)) fun x1 =>
  some (.inl (l3, x1, M))
def p_M_bestCoin_B96_5 (f : Nat) (l1 : Int) (l2 : Int) (l4 : Int) (M : oM) : Option ((Int × Int × oM) ⊕ (Int × oM)) :=
  p_M_bestCoin_B99_5 f l1 l2 l4 l4 M
def p_M_bestCoin_L5 (f : Nat) (l1 : Int) (l2 : Int) : Int × Int × oM → Option ((Int × Int × oM) ⊕ (Int × oM))
  | (l3, l4, M) =>
  if l4 < M 57 50 then (bnd 12 l4 fun i2 =>
  if M 84 i2 = l2 then ((p_M_has f l1 l4 M).bind fun q3 =>
  if q3.1 = 0 then (bnd 12 l4 fun i4 =>
  bnd 40960 (w32 ((w32 (10 * (ior l1 (ishl 1 l4)))) + (q3.2 85 i4))) fun i5 =>
  bnd 40960 (w32 ((w32 (10 * l1)) + l2)) fun i6 =>
  if w32 (1 + (q3.2 86 i5)) = q3.2 86 i6 then (if l3 = (-1) then (p_M_bestCoin_B96_5 f l1 l2 l4 q3.2)
  else (bnd 12 l4 fun i7 =>
  bnd 12 l3 fun i8 =>
  if q3.2 85 i7 < q3.2 85 i8 then (p_M_bestCoin_B96_5 f l1 l2 l4 q3.2)
  else (p_M_bestCoin_B99_5 f l1 l2 l3 l4 q3.2)))
  else (p_M_bestCoin_B99_5 f l1 l2 l3 l4 q3.2))
  else (p_M_bestCoin_B99_5 f l1 l2 l3 l4 q3.2))
  else (p_M_bestCoin_B99_5 f l1 l2 l3 l4 M))
  else (some (.inr (l3, M)))
def p_M_bestCoin (f : Nat) (l1 : Int) (l2 : Int) (M : oM) : Option (Int × oM) :=
  iter (p_M_bestCoin_L5 f l1 l2) f ((-1), 0, M)
def p_M_laysCoins_X25 (f : Nat) (l2 : Int) : oM → Option ((Int × oM) ⊕ (Int × oM))
  | M =>
  lt (w32 (l2 + 1)) fun x1 =>
  some (.inl (x1, M))
def p_M_laysCoins_X34 (f : Nat) (l2 : Int) (l3 : Int) : oM → Option ((Int × oM) ⊕ (oM))
  | M =>
  lt (w32 (l3 + 1)) fun x2 =>
  some (.inl (x2, M))
def p_M_laysCoins_L34 (f : Nat) (l2 : Int) (l3 : Int) : Int × oM → Option ((Int × oM) ⊕ (oM))
  | (l4, M) =>
  (p_M_debtOf f l2 l3 M).bind fun q3 =>
  if l4 < q3.1 then (bnd 12 (q3.2 57 50) fun i4 =>
  lt (oU q3.2 84 i4 l2) fun M5 =>
  bnd 12 (M5 57 50) fun i6 =>
  lt (oU M5 85 i6 l3) fun M7 =>
  lt (oU M7 57 50 (w32 ((M7 57 50) + 1))) fun M8 =>
  lt (w32 (l4 + 1)) fun x9 =>
  some (.inl (x9, M8)))
  else (some (.inr q3.2))
def p_M_laysCoins_L25 (f : Nat) (l2 : Int) : Int × oM → Option ((Int × oM) ⊕ (oM))
  | (l3, M) =>
  if l3 < 10 then ((iter (p_M_laysCoins_L34 f l2 l3) f (0, M)).bind (p_M_laysCoins_X34 f l2 l3))
  else (some (.inr M))
def p_M_laysCoins_L17 (f : Nat) : Int × oM → Option ((Int × oM) ⊕ (Int × oM))
  | (l2, M) =>
  if l2 < 10 then ((iter (p_M_laysCoins_L25 f l2) f (0, M)).bind (p_M_laysCoins_X25 f l2))
  else (some (.inr (1, M)))
def p_M_laysCoins (f : Nat) (l1 : Int) (M : oM) : Option (Int × oM) :=
  lt (oU M 57 50 0) fun M10 =>
  (p_M_owedInAll f  M10).bind fun q11 =>
  if l1 < q11.1 then (some (0, q11.2))
  else (iter (p_M_laysCoins_L17 f) f (0, q11.2))
def p_M_laysMore_X17 (f : Nat) (l2 : Int) : oM → Option ((Int × oM) ⊕ (Int × oM))
  | M =>
  lt (w32 (l2 + (-1))) fun x1 =>
  some (.inl (x1, M))
def p_M_laysMore_X29 (f : Nat) (l2 : Int) (l3 : Int) : Int × oM → Option ((Int × oM) ⊕ (oM))
  | (l4, M) =>
  bnd 40960 (w32 ((w32 (10 * l2)) + l3)) fun i2 =>
  lt (oU M 86 i2 (i2b (i2b l4))) fun M3 =>
  lt (w32 (l3 + 1)) fun x4 =>
  some (.inl (x4, M3))
def p_M_laysMore_B89_29 (f : Nat) (l2 : Int) (l3 : Int) (l4 : Int) (l5 : Int) (M : oM) : Option ((Int × Int × oM) ⊕ (Int × oM)) :=
  lt (w32 (l5 + 1)) fun x5 =>
  some (.inl (l4, x5, M))
def p_M_laysMore_L29 (f : Nat) (l2 : Int) (l3 : Int) : Int × Int × oM → Option ((Int × Int × oM) ⊕ (Int × oM))
  | (l4, l5, M) =>
  if l5 < M 57 50 then (bnd 12 l5 fun i6 =>
  if M 84 i6 = l3 then ((p_M_has f l2 l5 M).bind fun q7 =>
  if q7.1 = 0 then (bnd 12 l5 fun i8 =>
  bnd 40960 (w32 ((w32 (10 * (ior l2 (ishl 1 l5)))) + (q7.2 85 i8))) fun i9 =>
  (p_M_max f l4 (w32 (1 + (q7.2 86 i9))) q7.2).bind fun q10 =>
  p_M_laysMore_B89_29 f l2 l3 q10.1 l5 q10.2)
  else (p_M_laysMore_B89_29 f l2 l3 l4 l5 q7.2))
  else (p_M_laysMore_B89_29 f l2 l3 l4 l5 M))
  else (some (.inr (l4, M)))
def p_M_laysMore_L17 (f : Nat) (l2 : Int) : Int × oM → Option ((Int × oM) ⊕ (oM))
  | (l3, M) =>
  if l3 < 10 then ((iter (p_M_laysMore_L29 f l2 l3) f (0, 0, M)).bind (p_M_laysMore_X29 f l2 l3))
  else (some (.inr M))
def p_M_laysMore_L11 (f : Nat) : Int × oM → Option ((Int × oM) ⊕ (Int × oM))
  | (l2, M) =>
  if l2 < 0 then (some (.inr (0, M)))
  else ((iter (p_M_laysMore_L17 f l2) f (0, M)).bind (p_M_laysMore_X17 f l2))
def p_M_laysMore (f : Nat) (M : oM) : Option (Int × oM) :=
  lt (w32 ((ishl 1 (M 57 50)) - 1)) fun x11 =>
  iter (p_M_laysMore_L11 f) f (x11, M)
def p_M_most_L102 (f : Nat) (l1 : Int) : Int × Int × Int × oM → Option ((Int × Int × Int × oM) ⊕ (Int × oM))
  | (l2, l3, l4, M) =>
  if l1 < l4 then (some (.inr (l3, M)))
  else ((p_M_bestCoin f l2 l3 M).bind fun q1 =>
  lt (ior l2 (ishl 1 q1.1)) fun x2 =>
  bnd 12 q1.1 fun i3 =>
  lt (q1.2 85 i3) fun x4 =>
  lt (w32 (l4 + 1)) fun x5 =>
  some (.inl (x2, x4, x5, q1.2)))
def p_M_most_B18 (f : Nat) (l1 : Int) (M : oM) : Option (Int × oM) :=
  bnd 159 151 fun i6 =>
  if M 58 i6 < 0 then (some ((-2), M))
  else ((p_M_laysCoins f 12 M).bind fun q7 =>
  if q7.1 = 0 then (some ((-3), q7.2))
  else ((p_M_laysMore f  q7.2).bind fun q8 =>
  if l1 = 100 then (bnd 159 151 fun i13 =>
  bnd 40960 (q8.2 58 i13) fun i14 =>
  some (q8.2 86 i14, q8.2))
  else (bnd 159 151 fun i9 =>
  bnd 40960 (q8.2 58 i9) fun i10 =>
  if l1 < q8.2 86 i10 then (bnd 159 151 fun i11 =>
  lt (q8.2 58 i11) fun x12 =>
  iter (p_M_most_L102 f l1) f (0, x12, 0, q8.2))
  else (some ((-4), q8.2)))))
def p_M_most (f : Nat) (l1 : Int) (M : oM) : Option (Int × oM) :=
  (p_M_in f l1 0 11 M).bind fun q15 =>
  if q15.1 = 0 then (if l1 = 100 then (p_M_most_B18 f l1 q15.2)
  else (some ((-1), q15.2)))
  else (p_M_most_B18 f l1 q15.2)
def p_M_laysBack_X102 (f : Nat) (l1 : Int) : oM → Option ((Int × oM) ⊕ (Int × oM))
  | M =>
  lt (w32 (l1 + 1)) fun x1 =>
  some (.inl (x1, M))
def p_M_laysBack_X110 (f : Nat) (l1 : Int) (l2 : Int) : oM → Option ((Int × oM) ⊕ (oM))
  | M =>
  lt (w32 (l2 + 1)) fun x2 =>
  some (.inl (x2, M))
def p_M_laysBack_L110 (f : Nat) (l1 : Int) (l2 : Int) : Int × oM → Option ((Int × oM) ⊕ (oM))
  | (l3, M) =>
  if l3 < 10 then (bnd 100 (w32 ((w32 (10 * l2)) + l3)) fun i3 =>
  bnd 100 (w32 ((w32 (10 * l2)) + l1)) fun i4 =>
  bnd 100 (w32 ((w32 (10 * l1)) + l3)) fun i5 =>
  (p_M_min f (M 87 i3) (w32 ((M 87 i4) + (M 87 i5))) M).bind fun q6 =>
  bnd 100 (w32 ((w32 (10 * l2)) + l3)) fun i7 =>
  lt (oU q6.2 87 i7 q6.1) fun M8 =>
  bnd 100 (w32 ((w32 (10 * l2)) + l3)) fun i9 =>
  bnd 100 (w32 ((w32 (10 * l2)) + l1)) fun i10 =>
  bnd 100 (w32 ((w32 (10 * l1)) + l3)) fun i11 =>
  (p_M_min f (M8 88 i9) (w32 ((M8 88 i10) + (M8 88 i11))) M8).bind fun q12 =>
  bnd 100 (w32 ((w32 (10 * l2)) + l3)) fun i13 =>
  lt (oU q12.2 88 i13 q12.1) fun M14 =>
  lt (w32 (l3 + 1)) fun x15 =>
  some (.inl (x15, M14)))
  else (some (.inr M))
def p_M_laysBack_L102 (f : Nat) (l1 : Int) : Int × oM → Option ((Int × oM) ⊕ (oM))
  | (l2, M) =>
  if l2 < 10 then ((iter (p_M_laysBack_L110 f l1 l2) f (0, M)).bind (p_M_laysBack_X110 f l1 l2))
  else (some (.inr M))
def p_M_laysBack_L94 (f : Nat) : Int × oM → Option ((Int × oM) ⊕ (Int × oM))
  | (l1, M) =>
  if l1 < 10 then ((iter (p_M_laysBack_L102 f l1) f (0, M)).bind (p_M_laysBack_X102 f l1))
  else (some (.inr (0, M)))
def p_M_laysBack_X2 (f : Nat) : oM → Option (Int × oM)
  | M =>
  iter (p_M_laysBack_L94 f) f (0, M)
def p_M_laysBack_X10 (f : Nat) (l1 : Int) : oM → Option ((Int × oM) ⊕ (oM))
  | M =>
  lt (w32 (l1 + 1)) fun x16 =>
  some (.inl (x16, M))
def p_M_laysBack_B79_10 (f : Nat) (l1 : Int) (l2 : Int) (s1 : Int) (s2 : Int) (M : oM) : Option ((Int × oM) ⊕ (oM)) :=
  bnd 100 s1 fun i17 =>
  lt (oU M 88 i17 s2) fun M18 =>
  lt (w32 (l2 + 1)) fun x19 =>
  some (.inl (x19, M18))
def p_M_laysBack_B52_10 (f : Nat) (l1 : Int) (l2 : Int) (l3 : Int) (s1 : Int) (s2 : Int) (M : oM) : Option ((Int × oM) ⊕ (oM)) :=
  bnd 100 s1 fun i20 =>
  lt (oU M 87 i20 s2) fun M21 =>
  if l3 = 0 then (p_M_laysBack_B79_10 f l1 l2 (w32 ((w32 (10 * l1)) + l2)) 1000000 M21)
  else ((p_M_wayOf f l1 l2 M21).bind fun q22 =>
  p_M_laysBack_B79_10 f l1 l2 (w32 ((w32 (10 * l1)) + l2)) q22.1 q22.2)
def p_M_laysBack_B30_10 (f : Nat) (l1 : Int) (l2 : Int) (s0 : Int) (M : oM) : Option ((Int × oM) ⊕ (oM)) :=
  if s0 = 0 then (p_M_laysBack_B52_10 f l1 l2 s0 (w32 ((w32 (10 * l1)) + l2)) 1000000 M)
  else (p_M_laysBack_B52_10 f l1 l2 s0 (w32 ((w32 (10 * l1)) + l2)) 1 M)
def p_M_laysBack_L10 (f : Nat) (l1 : Int) : Int × oM → Option ((Int × oM) ⊕ (oM))
  | (l2, M) =>
  if l2 < 10 then ((p_M_debtOf f l1 l2 M).bind fun q23 =>
  if 0 < q23.1 then (p_M_laysBack_B30_10 f l1 l2 1 q23.2)
  else (p_M_laysBack_B30_10 f l1 l2 0 q23.2))
  else (some (.inr M))
def p_M_laysBack_L2 (f : Nat) : Int × oM → Option ((Int × oM) ⊕ (oM))
  | (l1, M) =>
  if l1 < 10 then ((iter (p_M_laysBack_L10 f l1) f (0, M)).bind (p_M_laysBack_X10 f l1))
  else (some (.inr M))
def p_M_laysBack (f : Nat) (M : oM) : Option (Int × oM) :=
  (iter (p_M_laysBack_L2 f) f (0, M)).bind (p_M_laysBack_X2 f)
def p_M_back_B48 (f : Nat) (s0 : Int) (M : oM) : Option (Int × oM) :=
  if s0 < 1000000 then (some (s0, M))
  else (some ((-2), M))
def p_M_back (f : Nat) (l1 : Int) (l2 : Int) (M : oM) : Option (Int × oM) :=
  (p_M_isPerson f l1 M).bind fun q1 =>
  if q1.1 = 0 then (some ((-1), q1.2))
  else ((p_M_in f l2 0 1 q1.2).bind fun q2 =>
  if q2.1 = 0 then (some ((-1), q2.2))
  else ((p_M_laysBack f  q2.2).bind fun q3 =>
  if l2 = 0 then (bnd 100 (w32 (11 * l1)) fun i5 =>
  p_M_back_B48 f (q3.2 87 i5) q3.2)
  else (bnd 100 (w32 (11 * l1)) fun i4 =>
  p_M_back_B48 f (q3.2 88 i4) q3.2)))
def p_M_hoursOfRow_L4 (f : Nat) (l1 : Int) : Int × Int × oM → Option ((Int × Int × oM) ⊕ (Int × oM))
  | (l2, l3, M) =>
  if l3 < l1 then (bnd 6 l3 fun i1 =>
  bnd 6 l3 fun i2 =>
  bnd 6 (M 91 i2) fun i3 =>
  (p_M_wayOf f (M 89 i1) (M 90 i3) M).bind fun q4 =>
  lt (w32 (l2 + q4.1)) fun x5 =>
  lt (w32 (l3 + 1)) fun x6 =>
  some (.inl (x5, x6, q4.2)))
  else (some (.inr (l2, M)))
def p_M_hoursOfRow (f : Nat) (l1 : Int) (M : oM) : Option (Int × oM) :=
  iter (p_M_hoursOfRow_L4 f l1) f (0, 0, M)
def p_M_setOffOf (f : Nat) (l1 : Int) (M : oM) : Option (Int × oM) :=
  (p_M_getsAll f l1 M).bind fun q1 =>
  (p_M_owesAll f l1 q1.2).bind fun q2 =>
  some (w32 (q1.1 - q2.1), q2.2)
def p_M_laysLacks_X68 (f : Nat) (l2 : Int) (l3 : Int) : Int × oM → Option ((Int × Int × oM) ⊕ (Int × oM))
  | (l1, M) =>
  lt (w32 (l2 + 1)) fun x1 =>
  some (.inl (l1, x1, M))
def p_M_laysLacks_B88_68 (f : Nat) (l1 : Int) (l2 : Int) (l3 : Int) (l4 : Int) (M : oM) : Option ((Int × Int × oM) ⊕ (Int × oM)) :=
  lt (w32 (l1 + 1)) fun x2 =>
  lt (w32 (l4 + 1)) fun x3 =>
  some (.inl (x2, x3, M))
def p_M_laysLacks_L68 (f : Nat) (l2 : Int) (l3 : Int) : Int × Int × oM → Option ((Int × Int × oM) ⊕ (Int × oM))
  | (l1, l4, M) =>
  if l4 < w32 (-l3) then (if l1 < 6 then (bnd 6 l1 fun i4 =>
  lt (oU M 90 i4 l2) fun M5 =>
  p_M_laysLacks_B88_68 f l1 l2 l3 l4 M5)
  else (p_M_laysLacks_B88_68 f l1 l2 l3 l4 M))
  else (some (.inr (l1, M)))
def p_M_laysLacks_X24 (f : Nat) (l1 : Int) (l2 : Int) (l3 : Int) : oM → Option ((Int × Int × oM) ⊕ (Int × oM))
  | M =>
  (iter (p_M_laysLacks_L68 f l2 l3) f (l1, 0, M)).bind (p_M_laysLacks_X68 f l2 l3)
def p_M_laysLacks_B49_24 (f : Nat) (l1 : Int) (l2 : Int) (l3 : Int) (l4 : Int) (M : oM) : Option ((Int × oM) ⊕ (oM)) :=
  lt (oU M 57 58 (w32 ((M 57 58) + 1))) fun M6 =>
  lt (w32 (l4 + 1)) fun x7 =>
  some (.inl (x7, M6))
def p_M_laysLacks_L24 (f : Nat) (l1 : Int) (l2 : Int) (l3 : Int) : Int × oM → Option ((Int × oM) ⊕ (oM))
  | (l4, M) =>
  if l4 < l3 then (if M 57 58 < 6 then (bnd 6 (M 57 58) fun i8 =>
  lt (oU M 89 i8 l2) fun M9 =>
  p_M_laysLacks_B49_24 f l1 l2 l3 l4 M9)
  else (p_M_laysLacks_B49_24 f l1 l2 l3 l4 M))
  else (some (.inr M))
def p_M_laysLacks_L9 (f : Nat) : Int × Int × oM → Option ((Int × Int × oM) ⊕ (Int × oM))
  | (l1, l2, M) =>
  if l2 < 10 then ((p_M_setOffOf f l2 M).bind fun q10 =>
  (iter (p_M_laysLacks_L24 f l1 l2 q10.1) f (0, q10.2)).bind (p_M_laysLacks_X24 f l1 l2 q10.1))
  else (some (.inr (0, M)))
def p_M_laysLacks (f : Nat) (M : oM) : Option (Int × oM) :=
  lt (oU M 57 58 0) fun M11 =>
  iter (p_M_laysLacks_L9 f) f (0, 0, M11)
def p_M_readsRow_L10 (f : Nat) (l2 : Int) : Int × Int × Int × oM → Option ((Int × Int × Int × oM) ⊕ (Int × oM))
  | (l3, l4, l5, M) =>
  if l5 < 0 then (some (.inr (1, M)))
  else (nz l2 fun z1 =>
  bnd 6 l5 fun i2 =>
  lt (oU M 91 i2 (Int.tmod l3 z1)) fun M3 =>
  nz l2 fun z4 =>
  lt (w32 (Int.tdiv l3 z4)) fun x5 =>
  bnd 6 l5 fun i6 =>
  (p_M_has f l4 (M3 91 i6) M3).bind fun q7 =>
  if q7.1 = 0 then (bnd 6 l5 fun i8 =>
  lt (ior l4 (ishl 1 (q7.2 91 i8))) fun x9 =>
  lt (w32 (l5 + (-1))) fun x10 =>
  some (.inl (x5, x9, x10, q7.2)))
  else (some (.inr (0, q7.2))))
def p_M_readsRow (f : Nat) (l1 : Int) (l2 : Int) (M : oM) : Option (Int × oM) :=
  lt (w32 (l2 - 1)) fun x11 =>
  iter (p_M_readsRow_L10 f l2) f (l1, 0, x11, M)
def p_M_even_B178_98 (f : Nat) (l1 : Int) (l2 : Int) (l3 : Int) (l4 : Int) (M : oM) : Option ((Int × Int × oM) ⊕ (Int × oM)) :=
  lt (w32 (l4 + 1)) fun x1 =>
  some (.inl (l3, x1, M))
def p_M_even_X144 (f : Nat) (l1 : Int) (l2 : Int) (l3 : Int) (l4 : Int) : oM → Option ((Int × Int × oM) ⊕ (Int × oM))
  | M =>
  p_M_even_B178_98 f l1 l2 l3 l4 M
def p_M_even_L144 (f : Nat) (l1 : Int) (l2 : Int) (l3 : Int) (l4 : Int) : Int × oM → Option ((Int × oM) ⊕ (oM))
  | (l5, M) =>
  if l5 < M 57 58 then (bnd 6 l5 fun i2 =>
  bnd 6 (M 91 i2) fun i3 =>
  bnd 6 l5 fun i4 =>
  lt (oU M 92 i4 (M 90 i3)) fun M5 =>
  lt (w32 (l5 + 1)) fun x6 =>
  some (.inl (x6, M5)))
  else (some (.inr M))
def p_M_even_L98 (f : Nat) (l1 : Int) (l2 : Int) : Int × Int × oM → Option ((Int × Int × oM) ⊕ (Int × oM))
  | (l3, l4, M) =>
  if l4 < l2 then ((p_M_readsRow f l4 (M 57 58) M).bind fun q8 =>
  if q8.1 = 0 then (p_M_even_B178_98 f l1 l2 l3 l4 q8.2)
  else ((p_M_hoursOfRow f (q8.2 57 58) q8.2).bind fun q9 =>
  if q9.1 < l3 then ((p_M_hoursOfRow f (q9.2 57 58) q9.2).bind fun q10 =>
  (iter (p_M_even_L144 f l1 l2 q10.1 l4) f (0, q10.2)).bind (p_M_even_X144 f l1 l2 q10.1 l4))
  else (p_M_even_B178_98 f l1 l2 l3 l4 q9.2)))
  else (if l1 = 101 then (some (.inr (l3, M)))
  else (bnd 6 l1 fun i7 =>
  some (.inr (M 92 i7, M))))
def p_M_even_X70 (f : Nat) (l1 : Int) : Int × oM → Option (Int × oM)
  | (l2, M) =>
  iter (p_M_even_L98 f l1 l2) f (1000000, 0, M)
def p_M_even_L70 (f : Nat) (l1 : Int) : Int × Int × oM → Option ((Int × Int × oM) ⊕ (Int × oM))
  | (l2, l3, M) =>
  if l3 < M 57 58 then (lt (w32 (l2 * (M 57 58))) fun x11 =>
  lt (w32 (l3 + 1)) fun x12 =>
  some (.inl (x11, x12, M)))
  else (some (.inr (l2, M)))
def p_M_even_B66 (f : Nat) (l1 : Int) (M : oM) : Option (Int × oM) :=
  (iter (p_M_even_L70 f l1) f (1, 0, M)).bind (p_M_even_X70 f l1)
def p_M_even_B22 (f : Nat) (l1 : Int) (M : oM) : Option (Int × oM) :=
  (p_M_laysLacks f  M).bind fun q13 =>
  if l1 = 100 then (some (q13.2 57 58, q13.2))
  else (if 6 < q13.2 57 58 then (some ((-3), q13.2))
  else (if l1 < 100 then (if l1 < q13.2 57 58 then (p_M_even_B66 f l1 q13.2)
  else (some ((-4), q13.2)))
  else (p_M_even_B66 f l1 q13.2)))
def p_M_even (f : Nat) (l1 : Int) (M : oM) : Option (Int × oM) :=
  (p_M_in f l1 0 5 M).bind fun q14 =>
  if q14.1 = 0 then ((p_M_in f l1 100 101 q14.2).bind fun q15 =>
  if q15.1 = 0 then (some ((-1), q15.2))
  else (p_M_even_B22 f l1 q15.2))
  else (p_M_even_B22 f l1 q14.2)
def p_M_bits_L4 (f : Nat) (l0 : Int) : Int × Int × oM → Option ((Int × Int × oM) ⊕ (Int × oM))
  | (l1, l2, M) =>
  if l2 < 12 then (lt (w32 (l1 + (iand (ishr l0 l2) 1))) fun x1 =>
  lt (w32 (l2 + 1)) fun x2 =>
  some (.inl (x1, x2, M)))
  else (some (.inr (l1, M)))
def p_M_bits (f : Nat) (l0 : Int) (M : oM) : Option (Int × oM) :=
  iter (p_M_bits_L4 f l0) f (0, 0, M)
def p_M_isEven_X13 (f : Nat) (l1 : Int) (l2 : Int) : Int × oM → Option ((Int × oM) ⊕ (Int × oM))
  | (l3, M) =>
  if l3 = 0 then (lt (w32 (l2 + 1)) fun x1 =>
  some (.inl (x1, M)))
  else (some (.inr (0, M)))
def p_M_isEven_B70_13 (f : Nat) (l1 : Int) (l2 : Int) (l3 : Int) (l4 : Int) (M : oM) : Option ((Int × Int × oM) ⊕ (Int × oM)) :=
  lt (w32 (l4 + 1)) fun x2 =>
  some (.inl (l3, x2, M))
def p_M_isEven_B54_13 (f : Nat) (l1 : Int) (l2 : Int) (l3 : Int) (l4 : Int) (l5 : Int) (M : oM) : Option ((Int × Int × oM) ⊕ (Int × oM)) :=
  bnd 12 l4 fun i3 =>
  if M 84 i3 = l2 then (lt (w32 (l3 - l5)) fun x4 =>
  p_M_isEven_B70_13 f l1 l2 x4 l4 M)
  else (p_M_isEven_B70_13 f l1 l2 l3 l4 M)
def p_M_isEven_B36_13 (f : Nat) (l1 : Int) (l2 : Int) (l3 : Int) (l4 : Int) (s0 : Int) (M : oM) : Option ((Int × Int × oM) ⊕ (Int × oM)) :=
  bnd 12 l4 fun i5 =>
  if M 85 i5 = l2 then (lt (w32 (l3 + s0)) fun x6 =>
  p_M_isEven_B54_13 f l1 l2 x6 l4 s0 M)
  else (p_M_isEven_B54_13 f l1 l2 l3 l4 s0 M)
def p_M_isEven_L13 (f : Nat) (l1 : Int) (l2 : Int) : Int × Int × oM → Option ((Int × Int × oM) ⊕ (Int × oM))
  | (l3, l4, M) =>
  if l4 < M 57 50 then ((p_M_has f l1 l4 M).bind fun q7 =>
  if q7.1 = 0 then (p_M_isEven_B36_13 f l1 l2 l3 l4 1 q7.2)
  else (p_M_isEven_B36_13 f l1 l2 l3 l4 (-1) q7.2))
  else (some (.inr (l3, M)))
def p_M_isEven_L2 (f : Nat) (l1 : Int) : Int × oM → Option ((Int × oM) ⊕ (Int × oM))
  | (l2, M) =>
  if l2 < 10 then ((iter (p_M_isEven_L13 f l1 l2) f (0, 0, M)).bind (p_M_isEven_X13 f l1 l2))
  else (some (.inr (1, M)))
def p_M_isEven (f : Nat) (l1 : Int) (M : oM) : Option (Int × oM) :=
  iter (p_M_isEven_L2 f l1) f (0, M)
def p_M_turned_B85_28 (f : Nat) (l2 : Int) (M : oM) : Option ((Int × Int × oM) ⊕ (Int × oM)) :=
  some (.inr (l2, M))
def p_M_turned_B68_28 (f : Nat) (l1 : Int) (l2 : Int) (l3 : Int) (M : oM) : Option ((Int × Int × oM) ⊕ (Int × oM)) :=
  lt (w32 (l3 + 1)) fun x1 =>
  some (.inl (l2, x1, M))
def p_M_turned_B55_28 (f : Nat) (l1 : Int) (l2 : Int) (l3 : Int) (M : oM) : Option ((Int × Int × oM) ⊕ (Int × oM)) :=
  (p_M_isEven f l3 M).bind fun q2 =>
  if q2.1 = 0 then (p_M_turned_B68_28 f l1 l2 l3 q2.2)
  else (p_M_turned_B68_28 f l1 l3 l3 q2.2)
def p_M_turned_L28 (f : Nat) (l1 : Int) : Int × Int × oM → Option ((Int × Int × oM) ⊕ (Int × oM))
  | (l2, l3, M) =>
  if l3 < ishl 1 (M 57 50) then (if l2 = (-2) then (p_M_turned_B55_28 f l1 l2 l3 M)
  else ((p_M_bits f l3 M).bind fun q4 =>
  (p_M_bits f l2 q4.2).bind fun q5 =>
  if q4.1 < q5.1 then (p_M_turned_B55_28 f l1 l2 l3 q5.2)
  else (p_M_turned_B68_28 f l1 l2 l3 q5.2)))
  else (if l1 = 1 then (p_M_turned_B85_28 f l2 M)
  else (if l2 = (-2) then (p_M_turned_B85_28 f l2 M)
  else ((p_M_bits f l2 M).bind fun q3 =>
  some (.inr (q3.1, q3.2)))))
def p_M_turned (f : Nat) (l1 : Int) (M : oM) : Option (Int × oM) :=
  (p_M_in f l1 0 1 M).bind fun q6 =>
  if q6.1 = 0 then (some ((-1), q6.2))
  else ((p_M_laysCoins f 12 q6.2).bind fun q7 =>
  if q7.1 = 0 then (some ((-3), q7.2))
  else (iter (p_M_turned_L28 f l1) f ((-2), 0, q7.2)))
def p_M_setOff (f : Nat) (l1 : Int) (M : oM) : Option (Int × oM) :=
  (p_M_isPerson f l1 M).bind fun q1 =>
  if q1.1 = 0 then (some ((-1000000), q1.2))
  else ((p_M_setOffOf f l1 q1.2).bind fun q2 =>
  some (q2.1, q2.2))
def p_M_laysGroups_B120_2 (f : Nat) (l1 : Int) (M : oM) : Option ((Int × oM) ⊕ (Int × oM)) :=
  lt (w32 (l1 + 1)) fun x1 =>
  some (.inl (x1, M))
def p_M_laysGroups_X25 (f : Nat) (l1 : Int) : oM → Option ((Int × oM) ⊕ (Int × oM))
  | M =>
  if l1 = 0 then (p_M_laysGroups_B120_2 f l1 M)
  else (bnd 1024 l1 fun i2 =>
  if M 93 i2 = 0 then (bnd 1024 l1 fun i3 =>
  bnd 1024 l1 fun i4 =>
  lt (oU M 94 i4 (w32 ((M 94 i3) + 1))) fun M5 =>
  p_M_laysGroups_B120_2 f l1 M5)
  else (p_M_laysGroups_B120_2 f l1 M))
def p_M_laysGroups_B87_25 (f : Nat) (l1 : Int) (l2 : Int) (M : oM) : Option ((Int × oM) ⊕ (oM)) :=
  lt (w32 (l2 + 1)) fun x6 =>
  some (.inl (x6, M))
def p_M_laysGroups_L25 (f : Nat) (l1 : Int) : Int × oM → Option ((Int × oM) ⊕ (oM))
  | (l2, M) =>
  if l2 < 10 then ((p_M_has f l1 l2 M).bind fun q7 =>
  if q7.1 = 0 then (p_M_laysGroups_B87_25 f l1 l2 q7.2)
  else (bnd 1024 l1 fun i8 =>
  (p_M_setOffOf f l2 q7.2).bind fun q9 =>
  bnd 1024 l1 fun i10 =>
  lt (oU q9.2 93 i10 (w32 ((q7.2 93 i8) + q9.1))) fun M11 =>
  bnd 1024 l1 fun i12 =>
  bnd 1024 (iand l1 (ixor (ishl 1 l2) (-1))) fun i13 =>
  (p_M_max f (M11 94 i12) (M11 94 i13) M11).bind fun q14 =>
  bnd 1024 l1 fun i15 =>
  lt (oU q14.2 94 i15 q14.1) fun M16 =>
  p_M_laysGroups_B87_25 f l1 l2 M16))
  else (some (.inr M))
def p_M_laysGroups_L2 (f : Nat) : Int × oM → Option ((Int × oM) ⊕ (Int × oM))
  | (l1, M) =>
  if l1 < 1024 then (bnd 1024 l1 fun i17 =>
  lt (oU M 93 i17 0) fun M18 =>
  bnd 1024 l1 fun i19 =>
  lt (oU M18 94 i19 0) fun M20 =>
  (iter (p_M_laysGroups_L25 f l1) f (0, M20)).bind (p_M_laysGroups_X25 f l1))
  else (some (.inr (0, M)))
def p_M_laysGroups (f : Nat) (M : oM) : Option (Int × oM) :=
  iter (p_M_laysGroups_L2 f) f (0, M)
def p_M_fewest_B24_4 (f : Nat) (l1 : Int) (l2 : Int) (M : oM) : Option ((Int × Int × oM) ⊕ (Int × oM)) :=
  lt (w32 (l2 + 1)) fun x1 =>
  some (.inl (l1, x1, M))
def p_M_fewest_L4 (f : Nat) : Int × Int × oM → Option ((Int × Int × oM) ⊕ (Int × oM))
  | (l1, l2, M) =>
  if l2 < 10 then ((p_M_setOffOf f l2 M).bind fun q5 =>
  if q5.1 = 0 then (p_M_fewest_B24_4 f l1 l2 q5.2)
  else (lt (ior l1 (ishl 1 l2)) fun x6 =>
  p_M_fewest_B24_4 f x6 l2 q5.2))
  else ((p_M_laysGroups f  M).bind fun q2 =>
  (p_M_bits f l1 q2.2).bind fun q3 =>
  bnd 1024 l1 fun i4 =>
  some (.inr (w32 (q3.1 - (q3.2 94 i4)), q3.2)))
def p_M_fewest (f : Nat) (M : oM) : Option (Int × oM) :=
  iter (p_M_fewest_L4 f) f (0, 0, M)
def p_M_reachOf_L2 (f : Nat) (l1 : Int) : Int × oM → Option ((Int × oM) ⊕ (Int × oM))
  | (l2, M) =>
  if l2 < 100 then (bnd 159 (w32 (0 + l2)) fun i2 =>
  bnd 100 l2 fun i3 =>
  lt (oU M 82 i3 (M 58 i2)) fun M4 =>
  lt (w32 (l2 + 1)) fun x5 =>
  some (.inl (x5, M4)))
  else ((p_M_reachLeft f l1 M).bind fun q1 =>
  some (.inr (q1.1, q1.2)))
def p_M_reachOf (f : Nat) (l1 : Int) (M : oM) : Option (Int × oM) :=
  iter (p_M_reachOf_L2 f l1) f (0, M)
def p_M_ringOf_B56_11 (f : Nat) (l1 : Int) (l2 : Int) (l3 : Int) (l4 : Int) (M : oM) : Option ((Int × Int × oM) ⊕ (Int × oM)) :=
  lt (w32 (l4 + 1)) fun x1 =>
  some (.inl (l2, x1, M))
def p_M_ringOf_L11 (f : Nat) (l1 : Int) (l3 : Int) : Int × Int × oM → Option ((Int × Int × oM) ⊕ (Int × oM))
  | (l2, l4, M) =>
  if l4 < 10 then ((p_M_isPerson f l4 M).bind fun q2 =>
  if q2.1 = 0 then (p_M_ringOf_B56_11 f l1 l2 l3 l4 q2.2)
  else ((p_M_has f l3 l4 q2.2).bind fun q3 =>
  if q3.1 = 0 then (p_M_ringOf_B56_11 f l1 l2 l3 l4 q3.2)
  else ((p_M_reachOf f l4 q3.2).bind fun q4 =>
  (p_M_has f q4.1 l1 q4.2).bind fun q5 =>
  if q5.1 = 0 then (p_M_ringOf_B56_11 f l1 l2 l3 l4 q5.2)
  else (lt (ior l2 (ishl 1 l4)) fun x6 =>
  p_M_ringOf_B56_11 f l1 x6 l3 l4 q5.2))))
  else (some (.inr (l2, M)))
def p_M_ringOf (f : Nat) (l1 : Int) (M : oM) : Option (Int × oM) :=
  (p_M_reachOf f l1 M).bind fun q7 =>
  iter (p_M_ringOf_L11 f l1 q7.1) f (0, 0, q7.2)
def p_M_rings_B68_34 (f : Nat) (l2 : Int) (l3 : Int) (l4 : Int) (M : oM) : Option ((Int × Int × Int × oM) ⊕ (Int × oM)) :=
  lt (w32 (l4 + 1)) fun x1 =>
  some (.inl (l2, l3, x1, M))
def p_M_rings_L34 (f : Nat) : Int × Int × Int × oM → Option ((Int × Int × Int × oM) ⊕ (Int × oM))
  | (l2, l3, l4, M) =>
  if l4 < 10 then ((p_M_has f l2 l4 M).bind fun q2 =>
  if q2.1 = 0 then (p_M_rings_B68_34 f l2 l3 l4 q2.2)
  else ((p_M_ringOf f l4 q2.2).bind fun q3 =>
  lt (iand l2 (ixor q3.1 (-1))) fun x4 =>
  lt (w32 (l3 + 1)) fun x5 =>
  p_M_rings_B68_34 f x4 x5 l4 q3.2))
  else (some (.inr (l3, M)))
def p_M_rings (f : Nat) (l1 : Int) (M : oM) : Option (Int × oM) :=
  if l1 = 100 then (lt (M 57 5) fun x6 =>
  iter (p_M_rings_L34 f) f (x6, 0, 0, M))
  else ((p_M_isPerson f l1 M).bind fun q7 =>
  if q7.1 = 0 then (some ((-1), q7.2))
  else ((p_M_ringOf f l1 q7.2).bind fun q8 =>
  some (q8.1, q8.2)))
def p_M_off (f : Nat) (M : oM) : Option (Int × oM) :=
  bnd 159 151 fun i1 =>
  if M 58 i1 < 0 then (some ((-2), M))
  else (bnd 159 151 fun i2 =>
  (p_M_reachOf f (M 58 i2) M).bind fun q3 =>
  some (iand (M 57 5) (ixor q3.1 (-1)), q3.2))
def p_M_when_B103_56 (f : Nat) (l3 : Int) (M : oM) : Option ((Int × Int × oM) ⊕ (Int × oM)) :=
  (p_M_copies f 59 58  M).bind fun q1 =>
  some (.inr (l3, q1.2))
def p_M_when_B97_56 (f : Nat) (l1 : Int) (l2 : Int) (l3 : Int) (l4 : Int) (M : oM) : Option ((Int × Int × oM) ⊕ (Int × oM)) :=
  lt (w32 (l4 + 1)) fun x2 =>
  some (.inl (l3, x2, M))
def p_M_when_L56 (f : Nat) (l1 : Int) (l2 : Int) : Int × Int × oM → Option ((Int × Int × oM) ⊕ (Int × oM))
  | (l3, l4, M) =>
  if l2 < l4 then (p_M_when_B103_56 f l3 M)
  else (bnd 159 156 fun i3 =>
  if M 58 i3 < 9999 then (if l3 = (-2) then ((p_M_hourGoes f  M).bind fun q4 =>
  if q4.2 57 35 = l1 then (p_M_when_B97_56 f l1 l2 l4 l4 q4.2)
  else (p_M_when_B97_56 f l1 l2 l3 l4 q4.2))
  else (p_M_when_B103_56 f l3 M))
  else (p_M_when_B103_56 f l3 M))
def p_M_when (f : Nat) (l1 : Int) (l2 : Int) (M : oM) : Option (Int × oM) :=
  (p_M_isPerson f l1 M).bind fun q5 =>
  if q5.1 = 0 then (some ((-1), q5.2))
  else ((p_M_in f l2 1 240 q5.2).bind fun q6 =>
  if q6.1 = 0 then (some ((-1), q6.2))
  else (bnd 159 151 fun i7 =>
  if q6.2 58 i7 = l1 then (some (0, q6.2))
  else ((p_M_copies f 58 59  q6.2).bind fun q8 =>
  (p_M_begins f  q8.2).bind fun q9 =>
  iter (p_M_when_L56 f l1 l2) f ((-2), 1, q9.2))))
def p_M_wedding_B148_47 (f : Nat) (l4 : Int) (M : oM) : Option ((Int × Int × Int × oM) ⊕ (Int × oM)) :=
  (p_M_copies f 59 58  M).bind fun q1 =>
  some (.inr (l4, q1.2))
def p_M_wedding_B142_47 (f : Nat) (l1 : Int) (l2 : Int) (l3 : Int) (l4 : Int) (l5 : Int) (l6 : Int) (M : oM) : Option ((Int × Int × Int × oM) ⊕ (Int × oM)) :=
  lt (w32 (l6 + 1)) fun x2 =>
  some (.inl (l4, l5, x2, M))
def p_M_wedding_B120_47 (f : Nat) (l1 : Int) (l2 : Int) (l3 : Int) (l4 : Int) (l5 : Int) (l6 : Int) (l7 : Int) (M : oM) : Option ((Int × Int × Int × oM) ⊕ (Int × oM)) :=
  (p_M_has f l5 l1 M).bind fun q3 =>
  if q3.1 = 0 then (p_M_wedding_B142_47 f l1 l2 l3 l4 l5 l6 q3.2)
  else ((p_M_has f l5 l2 q3.2).bind fun q4 =>
  if q4.1 = 0 then (p_M_wedding_B142_47 f l1 l2 l3 l4 l5 l6 q4.2)
  else (p_M_wedding_B142_47 f l1 l2 l3 l7 l5 l6 q4.2))
def p_M_wedding_B98_47 (f : Nat) (l1 : Int) (l2 : Int) (l3 : Int) (l4 : Int) (l5 : Int) (l6 : Int) (l7 : Int) (M : oM) : Option ((Int × Int × Int × oM) ⊕ (Int × oM)) :=
  (p_M_hourGoes f  M).bind fun q5 =>
  if q5.2 57 35 < 0 then (p_M_wedding_B120_47 f l1 l2 l3 l4 l5 l6 l7 q5.2)
  else (lt (ior l5 (ishl 1 (q5.2 57 35))) fun x6 =>
  p_M_wedding_B120_47 f l1 l2 l3 l4 x6 l6 l7 q5.2)
def p_M_wedding_L47 (f : Nat) (l1 : Int) (l2 : Int) (l3 : Int) : Int × Int × Int × oM → Option ((Int × Int × Int × oM) ⊕ (Int × oM))
  | (l4, l5, l6, M) =>
  if l6 < l3 then (bnd 159 156 fun i7 =>
  if M 58 i7 < 9999 then (if l4 = (-2) then (bnd 159 156 fun i8 =>
  lt (M 58 i8) fun x9 =>
  bnd 159 155 fun i10 =>
  if M 58 i10 = 0 then (p_M_wedding_B98_47 f l1 l2 l3 l4 0 l6 x9 M)
  else (p_M_wedding_B98_47 f l1 l2 l3 l4 l5 l6 x9 M))
  else (p_M_wedding_B148_47 f l4 M))
  else (p_M_wedding_B148_47 f l4 M))
  else (p_M_wedding_B148_47 f l4 M)
def p_M_wedding (f : Nat) (l1 : Int) (l2 : Int) (l3 : Int) (M : oM) : Option (Int × oM) :=
  (p_M_areTwo f l1 l2 M).bind fun q11 =>
  if q11.1 = 0 then (some ((-1), q11.2))
  else ((p_M_in f l3 1 240 q11.2).bind fun q12 =>
  if q12.1 = 0 then (some ((-1), q12.2))
  else ((p_M_copies f 58 59  q12.2).bind fun q13 =>
  (p_M_begins f  q13.2).bind fun q14 =>
  iter (p_M_wedding_L47 f l1 l2 l3) f ((-2), 0, 0, q14.2)))
def p_M_longest_B49_7 (f : Nat) (l1 : Int) (l2 : Int) (l3 : Int) (M : oM) : Option ((Int × Int × Int × oM) ⊕ (Int × oM)) :=
  lt (w32 (l3 + 1)) fun x1 =>
  some (.inl (l1, l2, x1, M))
def p_M_longest_L7 (f : Nat) : Int × Int × Int × oM → Option ((Int × Int × Int × oM) ⊕ (Int × oM))
  | (l1, l2, l3, M) =>
  if l3 < 10 then ((p_M_isPerson f l3 M).bind fun q2 =>
  if q2.1 = 0 then (p_M_longest_B49_7 f l1 l2 l3 q2.2)
  else (bnd 159 (w32 (100 + l3)) fun i3 =>
  if l2 < q2.2 58 i3 then (bnd 159 (w32 (100 + l3)) fun i4 =>
  lt (q2.2 58 i4) fun x5 =>
  p_M_longest_B49_7 f l3 x5 l3 q2.2)
  else (p_M_longest_B49_7 f l1 l2 l3 q2.2)))
  else (some (.inr (l1, M)))
def p_M_longest (f : Nat) (M : oM) : Option (Int × oM) :=
  iter (p_M_longest_L7 f) f ((-2), 0, 0, M)
def p_M_chalk (f : Nat) (l1 : Int) (M : oM) : Option (Int × oM) :=
  bnd 159 150 fun i1 =>
  (p_M_in f l1 0 (w32 ((M 58 i1) - 1)) M).bind fun q2 =>
  if q2.1 = 0 then (some ((-1), q2.2))
  else (bnd 159 (w32 (110 + l1)) fun i3 =>
  some (q2.2 58 i3, q2.2))
def p_M_hoursOf_B41_4 (f : Nat) (l1 : Int) (l3 : Int) (s0 : Int) (s1 : Int) (M : oM) : Option ((Int × Int × oM) ⊕ (Int × oM)) :=
  lt (w32 (s0 + s1)) fun x1 =>
  lt (w32 (l3 + 1)) fun x2 =>
  some (.inl (x1, x2, M))
def p_M_hoursOf_L4 (f : Nat) (l1 : Int) : Int × Int × oM → Option ((Int × Int × oM) ⊕ (Int × oM))
  | (l2, l3, M) =>
  if l3 < M 57 50 then ((p_M_has f l1 l3 M).bind fun q3 =>
  if q3.1 = 0 then (p_M_hoursOf_B41_4 f l1 l3 l2 0 q3.2)
  else (bnd 12 l3 fun i4 =>
  bnd 12 l3 fun i5 =>
  (p_M_wayOf f (q3.2 84 i4) (q3.2 85 i5) q3.2).bind fun q6 =>
  p_M_hoursOf_B41_4 f l1 l3 l2 q6.1 q6.2))
  else (some (.inr (l2, M)))
def p_M_hoursOf (f : Nat) (l1 : Int) (M : oM) : Option (Int × oM) :=
  iter (p_M_hoursOf_L4 f l1) f (0, 0, M)
def p_M_isRowOf_B78_23 (f : Nat) (l1 : Int) (l2 : Int) (l3 : Int) (M : oM) : Option ((Int × oM) ⊕ (Int × oM)) :=
  lt (w32 (l3 + 1)) fun x1 =>
  some (.inl (x1, M))
def p_M_isRowOf_L23 (f : Nat) (l1 : Int) (l2 : Int) : Int × oM → Option ((Int × oM) ⊕ (Int × oM))
  | (l3, M) =>
  if l3 < M 57 50 then ((p_M_has f l1 l3 M).bind fun q4 =>
  if q4.1 = 0 then (p_M_isRowOf_B78_23 f l1 l2 l3 q4.2)
  else (bnd 12 l3 fun i5 =>
  bnd 12 l3 fun i6 =>
  bnd 12 l3 fun i7 =>
  bnd 12 l3 fun i8 =>
  (p_M_leftOf f (q4.2 84 i7) (q4.2 85 i8) q4.2).bind fun q9 =>
  bnd 100 (w32 ((w32 (10 * (q4.2 84 i5))) + (q4.2 85 i6))) fun i10 =>
  lt (oU q9.2 82 i10 (w32 (q9.1 + 1))) fun M11 =>
  p_M_isRowOf_B78_23 f l1 l2 l3 M11))
  else ((p_M_isRow f l2 M).bind fun q2 =>
  bnd 2 q2.1 fun b3 => some (.inr (b3, q2.2)))
def p_M_isRowOf_X2 (f : Nat) (l1 : Int) (l2 : Int) : oM → Option (Int × oM)
  | M =>
  iter (p_M_isRowOf_L23 f l1 l2) f (0, M)
def p_M_isRowOf_L2 (f : Nat) (l1 : Int) (l2 : Int) : Int × oM → Option ((Int × oM) ⊕ (oM))
  | (l3, M) =>
  if l3 < 100 then (bnd 100 l3 fun i12 =>
  lt (oU M 82 i12 0) fun M13 =>
  lt (w32 (l3 + 1)) fun x14 =>
  some (.inl (x14, M13)))
  else (some (.inr M))
def p_M_isRowOf (f : Nat) (l1 : Int) (l2 : Int) (M : oM) : Option (Int × oM) :=
  (iter (p_M_isRowOf_L2 f l1 l2) f (0, M)).bind (p_M_isRowOf_X2 f l1 l2)
def p_M_two_B119_52 (f : Nat) (l1 : Int) (l2 : Int) (l3 : Int) (l4 : Int) (M : oM) : Option ((Int × Int × oM) ⊕ (Int × oM)) :=
  lt (w32 (l4 + 1)) fun x1 =>
  some (.inl (l3, x1, M))
def p_M_two_L52 (f : Nat) (l1 : Int) (l2 : Int) : Int × Int × oM → Option ((Int × Int × oM) ⊕ (Int × oM))
  | (l3, l4, M) =>
  if l2 < l4 then (if l3 = 1000000 then (some (.inr ((-4), M)))
  else (some (.inr (l3, M))))
  else ((p_M_hoursOf f l4 M).bind fun q2 =>
  (p_M_hoursOf f (iand l2 (ixor l4 (-1))) q2.2).bind fun q3 =>
  (p_M_max f q2.1 q3.1 q3.2).bind fun q4 =>
  if q4.1 < l3 then (bnd 159 151 fun i5 =>
  (p_M_isRowOf f l4 (q4.2 58 i5) q4.2).bind fun q6 =>
  if q6.1 = 0 then (p_M_two_B119_52 f l1 l2 l3 l4 q6.2)
  else ((p_M_isRowOf f (iand l2 (ixor l4 (-1))) l1 q6.2).bind fun q7 =>
  if q7.1 = 0 then (p_M_two_B119_52 f l1 l2 l3 l4 q7.2)
  else (p_M_two_B119_52 f l1 l2 q4.1 l4 q7.2)))
  else (p_M_two_B119_52 f l1 l2 l3 l4 q4.2))
def p_M_two (f : Nat) (l1 : Int) (M : oM) : Option (Int × oM) :=
  (p_M_isPerson f l1 M).bind fun q8 =>
  if q8.1 = 0 then (some ((-1), q8.2))
  else (bnd 159 151 fun i9 =>
  if q8.2 58 i9 < 0 then (some ((-2), q8.2))
  else ((p_M_laysCoins f 8 q8.2).bind fun q10 =>
  if q10.1 = 0 then (some ((-3), q10.2))
  else (lt (w32 ((ishl 1 (q10.2 57 50)) - 1)) fun x11 =>
  iter (p_M_two_L52 f l1 x11) f (1000000, 0, q10.2))))
def p_M_gcd_L4 (f : Nat) : Int × Int × oM → Option ((Int × Int × oM) ⊕ (Int × oM))
  | (l2, l3, M) =>
  if l3 = 0 then (some (.inr (l2, M)))
  else (nz l3 fun z1 =>
  lt (Int.tmod l2 z1) fun x2 =>
  some (.inl (l3, x2, M)))
def p_M_gcd (f : Nat) (l0 : Int) (l1 : Int) (M : oM) : Option (Int × oM) :=
  iter (p_M_gcd_L4 f) f (l0, l1, M)
def p_M_dry_L38 (f : Nat) (l1 : Int) (l2 : Int) (l3 : Int) : Int × Int × Int × oM → Option ((Int × Int × Int × oM) ⊕ (Int × oM))
  | (l4, l5, l6, M) =>
  if l6 < l1 then (lt (w32 (l4 * l3)) fun x4 =>
  lt (w32 (l5 * 10)) fun x5 =>
  lt (w32 (l6 + 1)) fun x6 =>
  some (.inl (x4, x5, x6, M)))
  else ((p_M_gcd f l4 l5 M).bind fun q1 =>
  if l2 = 0 then (nz q1.1 fun z3 =>
  some (.inr (w32 (Int.tdiv l4 z3), q1.2)))
  else (nz q1.1 fun z2 =>
  some (.inr (w32 (Int.tdiv l5 z2), q1.2))))
def p_M_dry (f : Nat) (l1 : Int) (l2 : Int) (M : oM) : Option (Int × oM) :=
  (p_M_in f l1 1 9 M).bind fun q7 =>
  if q7.1 = 0 then (some ((-1), q7.2))
  else ((p_M_in f l2 0 1 q7.2).bind fun q8 =>
  if q8.1 = 0 then (some ((-1), q8.2))
  else ((p_M_rainBy f  q8.2).bind fun q9 =>
  lt (w32 (10 - q9.1)) fun x10 =>
  iter (p_M_dry_L38 f l1 l2 x10) f (1, 1, 0, q9.2)))
def p_M_seed (f : Nat) (l1 : Int) (M : oM) : Option (Int × oM) :=
  (p_M_in f l1 0 65535 M).bind fun q1 =>
  if q1.1 = 0 then (some (0, q1.2))
  else (bnd 159 158 fun i2 =>
  lt (oU q1.2 58 i2 l1) fun M3 =>
  some (1, M3))
def p_M_keep (f : Nat) (M : oM) : Option (Int × oM) :=
  lt (oU M 57 61 1) fun M1 =>
  (p_M_copies f 58 60  M1).bind fun q2 =>
  (p_M_owedInAll f  q2.2).bind fun q3 =>
  some (q3.1, q3.2)
def p_M_undo (f : Nat) (M : oM) : Option (Int × oM) :=
  if M 57 61 = 0 then (some (0, M))
  else ((p_M_copies f 60 58  M).bind fun q1 =>
  some (1, q1.2))
def p_M_check_B66_28 (f : Nat) (l1 : Int) (l2 : Int) (s0 : Int) (s1 : Int) (M : oM) : Option ((Int × oM) ⊕ (Int × oM)) :=
  if s0 = s1 then (lt (w32 (l2 + 1)) fun x1 =>
  some (.inl (x1, M)))
  else (some (.inr (l2, M)))
def p_M_check_L28 (f : Nat) (l1 : Int) : Int × oM → Option ((Int × oM) ⊕ (Int × oM))
  | (l2, M) =>
  if l2 < l1 then (bnd 260 l2 fun i2 =>
  (p_M_isPerson f l2 M).bind fun q3 =>
  if q3.1 = 0 then (p_M_check_B66_28 f l1 l2 (iand (M 63 i2) 255) 0 q3.2)
  else ((p_M_owesAll f l2 q3.2).bind fun q4 =>
  (p_M_min f 255 q4.1 q4.2).bind fun q5 =>
  p_M_check_B66_28 f l1 l2 (iand (M 63 i2) 255) q5.1 q5.2))
  else (some (.inr ((-1), M)))
def p_M_check (f : Nat) (l1 : Int) (M : oM) : Option (Int × oM) :=
  (p_M_in f l1 0 10 M).bind fun q6 =>
  if q6.1 = 0 then (some ((-2), q6.2))
  else (if q6.2 57 7 < l1 then (some ((-2), q6.2))
  else (lt (oU q6.2 57 7 0) fun M7 =>
  iter (p_M_check_L28 f l1) f (0, M7)))
def p_M_count (f : Nat) (l1 : Int) (M : oM) : Option (Int × oM) :=
  if l1 = 0 then (some (M 57 5, M))
  else (if l1 = 1 then ((p_M_owedInAll f  M).bind fun q1 =>
  some (q1.1, q1.2))
  else (if l1 = 2 then (bnd 159 151 fun i2 =>
  some (M 58 i2, M))
  else (if l1 = 3 then (bnd 159 153 fun i3 =>
  some (M 58 i3, M))
  else (if l1 = 4 then (bnd 159 154 fun i4 =>
  some (M 58 i4, M))
  else (if l1 = 5 then (bnd 159 155 fun i5 =>
  some (M 58 i5, M))
  else (if l1 = 6 then (bnd 159 156 fun i6 =>
  some (M 58 i6, M))
  else (if l1 = 7 then (bnd 159 157 fun i7 =>
  some (M 58 i7, M))
  else (if l1 = 8 then (bnd 159 150 fun i8 =>
  some (M 58 i8, M))
  else (if l1 = 9 then (some (M 57 16, M))
  else (if l1 = 10 then (some (M 57 7, M))
  else (if l1 = 11 then (bnd 159 158 fun i9 =>
  some (M 58 i9, M))
  else (some ((-1), M)))))))))))))
end
end
section
/-! constructors (by program) -/
theorem oj_wd {l : Launch} {mt : oMI} {E : oE} {k n pc : Nat} {lv st : List oV} {wd wd0 : oW} {M : oM} (h : wd0 = wd) (hj : oJ l mt E k n pc lv st wd M) : oJ l mt E k n pc lv st wd0 M := h ▸ hj
def WC1 : oW := [.inr (10, [some none, some none, some none, some none, some none, some none, some none, some none, some none, some none, some none, some none, some none, none])]
def WC2 : oW := [.inr (10, [some none, some none, some none, some none, some none, some none, some none, some none, some none, some none, some none, some none, some none, none]), .inr (9, [some none, none, none, none, none])]
def WC3 : oW := [.inr (10, [some none, some none, some none, some none, some none, some none, some none, some none, some none, some none, some none, some none, some none, none]), .inr (9, [some (some 2), none, none, none, none]), .inl (false, 260)]
def mi_T_1 (M : oM) : oM := (oU (oZ M 2) 1 4 (-1))
def WC4 : oW := [.inr (10, [some (some 1), some none, some none, some none, some none, some none, some none, some none, some none, some none, some none, some none, some none, none]), .inr (9, [some (some 2), none, none, none, none]), .inl (false, 260), .inr (6, [some none, some none, none])]
def WC5 : oW := [.inr (10, [some (some 1), some none, some none, some none, some none, some none, some none, some none, some none, some none, some none, some none, some none, none]), .inr (9, [some (some 2), none, none, none, none]), .inl (false, 260), .inr (6, [some (some 4), some (some 5), none]), .inl (false, 10), .inl (false, 10)]
def mi_P_3 (M : oM) : oM := (oZ (oZ M 4) 5)
def WC6 : oW := [.inr (10, [some (some 1), some (some 3), some none, some none, some none, some none, some none, some none, some none, some none, some none, some none, some none, none]), .inr (9, [some (some 2), none, none, none, none]), .inl (false, 260), .inr (6, [some (some 4), some (some 5), none]), .inl (false, 10), .inl (false, 10), .inr (3, [some none, some none, some none, none, none, none, none, none, none, none, none, none])]
def WC7 : oW := [.inr (10, [some (some 1), some (some 3), some none, some none, some none, some none, some none, some none, some none, some none, some none, some none, some none, none]), .inr (9, [some (some 2), none, none, none, none]), .inl (false, 260), .inr (6, [some (some 4), some (some 5), none]), .inl (false, 10), .inl (false, 10), .inr (3, [some (some 7), some (some 8), some none, none, none, none, none, none, none, none, none, none]), .inl (false, 100), .inl (false, 10)]
def WC8 : oW := [.inr (10, [some (some 1), some (some 3), some none, some none, some none, some none, some none, some none, some none, some none, some none, some none, some none, none]), .inr (9, [some (some 2), none, none, none, none]), .inl (false, 260), .inr (6, [some (some 4), some (some 5), none]), .inl (false, 10), .inl (false, 10), .inr (3, [some (some 7), some (some 8), some (some 9), none, none, none, none, none, none, none, none, none]), .inl (false, 100), .inl (false, 10), .inl (false, 40)]
def mi_D_6 (M : oM) : oM := (oU (oU (oU (oU (oZ (oZ (oZ M 7) 8) 9) 6 4 (-1)) 6 5 (-1)) 6 6 (-1)) 6 11 1)
def WC9 : oW := [.inr (10, [some (some 1), some (some 3), some (some 6), some none, some none, some none, some none, some none, some none, some none, some none, some none, some none, none]), .inr (9, [some (some 2), none, none, none, none]), .inl (false, 260), .inr (6, [some (some 4), some (some 5), none]), .inl (false, 10), .inl (false, 10), .inr (3, [some (some 7), some (some 8), some (some 9), none, none, none, none, none, none, none, none, none]), .inl (false, 100), .inl (false, 10), .inl (false, 40), .inr (3, [some none, some none, some none, none, none, none, none, none, none, none, none, none])]
def WC10 : oW := [.inr (10, [some (some 1), some (some 3), some (some 6), some none, some none, some none, some none, some none, some none, some none, some none, some none, some none, none]), .inr (9, [some (some 2), none, none, none, none]), .inl (false, 260), .inr (6, [some (some 4), some (some 5), none]), .inl (false, 10), .inl (false, 10), .inr (3, [some (some 7), some (some 8), some (some 9), none, none, none, none, none, none, none, none, none]), .inl (false, 100), .inl (false, 10), .inl (false, 40), .inr (3, [some (some 11), some (some 12), some none, none, none, none, none, none, none, none, none, none]), .inl (false, 100), .inl (false, 10)]
def WC11 : oW := [.inr (10, [some (some 1), some (some 3), some (some 6), some none, some none, some none, some none, some none, some none, some none, some none, some none, some none, none]), .inr (9, [some (some 2), none, none, none, none]), .inl (false, 260), .inr (6, [some (some 4), some (some 5), none]), .inl (false, 10), .inl (false, 10), .inr (3, [some (some 7), some (some 8), some (some 9), none, none, none, none, none, none, none, none, none]), .inl (false, 100), .inl (false, 10), .inl (false, 40), .inr (3, [some (some 11), some (some 12), some (some 13), none, none, none, none, none, none, none, none, none]), .inl (false, 100), .inl (false, 10), .inl (false, 40)]
def mi_D_10 (M : oM) : oM := (oU (oU (oU (oU (oZ (oZ (oZ M 11) 12) 13) 10 4 (-1)) 10 5 (-1)) 10 6 (-1)) 10 11 1)
def WC12 : oW := [.inr (10, [some (some 1), some (some 3), some (some 6), some (some 10), some none, some none, some none, some none, some none, some none, some none, some none, some none, none]), .inr (9, [some (some 2), none, none, none, none]), .inl (false, 260), .inr (6, [some (some 4), some (some 5), none]), .inl (false, 10), .inl (false, 10), .inr (3, [some (some 7), some (some 8), some (some 9), none, none, none, none, none, none, none, none, none]), .inl (false, 100), .inl (false, 10), .inl (false, 40), .inr (3, [some (some 11), some (some 12), some (some 13), none, none, none, none, none, none, none, none, none]), .inl (false, 100), .inl (false, 10), .inl (false, 40), .inr (3, [some none, some none, some none, none, none, none, none, none, none, none, none, none])]
def WC13 : oW := [.inr (10, [some (some 1), some (some 3), some (some 6), some (some 10), some none, some none, some none, some none, some none, some none, some none, some none, some none, none]), .inr (9, [some (some 2), none, none, none, none]), .inl (false, 260), .inr (6, [some (some 4), some (some 5), none]), .inl (false, 10), .inl (false, 10), .inr (3, [some (some 7), some (some 8), some (some 9), none, none, none, none, none, none, none, none, none]), .inl (false, 100), .inl (false, 10), .inl (false, 40), .inr (3, [some (some 11), some (some 12), some (some 13), none, none, none, none, none, none, none, none, none]), .inl (false, 100), .inl (false, 10), .inl (false, 40), .inr (3, [some (some 15), some (some 16), some none, none, none, none, none, none, none, none, none, none]), .inl (false, 100), .inl (false, 10)]
def WC14 : oW := [.inr (10, [some (some 1), some (some 3), some (some 6), some (some 10), some none, some none, some none, some none, some none, some none, some none, some none, some none, none]), .inr (9, [some (some 2), none, none, none, none]), .inl (false, 260), .inr (6, [some (some 4), some (some 5), none]), .inl (false, 10), .inl (false, 10), .inr (3, [some (some 7), some (some 8), some (some 9), none, none, none, none, none, none, none, none, none]), .inl (false, 100), .inl (false, 10), .inl (false, 40), .inr (3, [some (some 11), some (some 12), some (some 13), none, none, none, none, none, none, none, none, none]), .inl (false, 100), .inl (false, 10), .inl (false, 40), .inr (3, [some (some 15), some (some 16), some (some 17), none, none, none, none, none, none, none, none, none]), .inl (false, 100), .inl (false, 10), .inl (false, 40)]
def mi_D_14 (M : oM) : oM := (oU (oU (oU (oU (oZ (oZ (oZ M 15) 16) 17) 14 4 (-1)) 14 5 (-1)) 14 6 (-1)) 14 11 1)
def WC15 : oW := [.inr (10, [some (some 1), some (some 3), some (some 6), some (some 10), some (some 14), some none, some none, some none, some none, some none, some none, some none, some none, none]), .inr (9, [some (some 2), none, none, none, none]), .inl (false, 260), .inr (6, [some (some 4), some (some 5), none]), .inl (false, 10), .inl (false, 10), .inr (3, [some (some 7), some (some 8), some (some 9), none, none, none, none, none, none, none, none, none]), .inl (false, 100), .inl (false, 10), .inl (false, 40), .inr (3, [some (some 11), some (some 12), some (some 13), none, none, none, none, none, none, none, none, none]), .inl (false, 100), .inl (false, 10), .inl (false, 40), .inr (3, [some (some 15), some (some 16), some (some 17), none, none, none, none, none, none, none, none, none]), .inl (false, 100), .inl (false, 10), .inl (false, 40), .inr (4, [some none, some none, some none, some none, some none, some none, some none, some none, some none, none, none])]
def WC16 : oW := [.inr (10, [some (some 1), some (some 3), some (some 6), some (some 10), some (some 14), some none, some none, some none, some none, some none, some none, some none, some none, none]), .inr (9, [some (some 2), none, none, none, none]), .inl (false, 260), .inr (6, [some (some 4), some (some 5), none]), .inl (false, 10), .inl (false, 10), .inr (3, [some (some 7), some (some 8), some (some 9), none, none, none, none, none, none, none, none, none]), .inl (false, 100), .inl (false, 10), .inl (false, 40), .inr (3, [some (some 11), some (some 12), some (some 13), none, none, none, none, none, none, none, none, none]), .inl (false, 100), .inl (false, 10), .inl (false, 40), .inr (3, [some (some 15), some (some 16), some (some 17), none, none, none, none, none, none, none, none, none]), .inl (false, 100), .inl (false, 10), .inl (false, 40), .inr (4, [some none, some (some 19), some (some 20), some none, some none, some none, some none, some none, some none, none, none]), .inl (false, 240), .inl (false, 240)]
def WC17 : oW := [.inr (10, [some (some 1), some (some 3), some (some 6), some (some 10), some (some 14), some none, some none, some none, some none, some none, some none, some none, some none, none]), .inr (9, [some (some 2), none, none, none, none]), .inl (false, 260), .inr (6, [some (some 4), some (some 5), none]), .inl (false, 10), .inl (false, 10), .inr (3, [some (some 7), some (some 8), some (some 9), none, none, none, none, none, none, none, none, none]), .inl (false, 100), .inl (false, 10), .inl (false, 40), .inr (3, [some (some 11), some (some 12), some (some 13), none, none, none, none, none, none, none, none, none]), .inl (false, 100), .inl (false, 10), .inl (false, 40), .inr (3, [some (some 15), some (some 16), some (some 17), none, none, none, none, none, none, none, none, none]), .inl (false, 100), .inl (false, 10), .inl (false, 40), .inr (4, [some none, some (some 19), some (some 20), some (some 21), some (some 22), some none, some none, some none, some none, none, none]), .inl (false, 240), .inl (false, 240), .inl (false, 16), .inl (false, 16)]
def WC18 : oW := [.inr (10, [some (some 1), some (some 3), some (some 6), some (some 10), some (some 14), some none, some none, some none, some none, some none, some none, some none, some none, none]), .inr (9, [some (some 2), none, none, none, none]), .inl (false, 260), .inr (6, [some (some 4), some (some 5), none]), .inl (false, 10), .inl (false, 10), .inr (3, [some (some 7), some (some 8), some (some 9), none, none, none, none, none, none, none, none, none]), .inl (false, 100), .inl (false, 10), .inl (false, 40), .inr (3, [some (some 11), some (some 12), some (some 13), none, none, none, none, none, none, none, none, none]), .inl (false, 100), .inl (false, 10), .inl (false, 40), .inr (3, [some (some 15), some (some 16), some (some 17), none, none, none, none, none, none, none, none, none]), .inl (false, 100), .inl (false, 10), .inl (false, 40), .inr (4, [some none, some (some 19), some (some 20), some (some 21), some (some 22), some (some 23), some (some 24), some none, some none, none, none]), .inl (false, 240), .inl (false, 240), .inl (false, 16), .inl (false, 16), .inl (false, 16), .inl (false, 16)]
def WC19 : oW := [.inr (10, [some (some 1), some (some 3), some (some 6), some (some 10), some (some 14), some none, some none, some none, some none, some none, some none, some none, some none, none]), .inr (9, [some (some 2), none, none, none, none]), .inl (false, 260), .inr (6, [some (some 4), some (some 5), none]), .inl (false, 10), .inl (false, 10), .inr (3, [some (some 7), some (some 8), some (some 9), none, none, none, none, none, none, none, none, none]), .inl (false, 100), .inl (false, 10), .inl (false, 40), .inr (3, [some (some 11), some (some 12), some (some 13), none, none, none, none, none, none, none, none, none]), .inl (false, 100), .inl (false, 10), .inl (false, 40), .inr (3, [some (some 15), some (some 16), some (some 17), none, none, none, none, none, none, none, none, none]), .inl (false, 100), .inl (false, 10), .inl (false, 40), .inr (4, [some none, some (some 19), some (some 20), some (some 21), some (some 22), some (some 23), some (some 24), some (some 25), some (some 26), none, none]), .inl (false, 240), .inl (false, 240), .inl (false, 16), .inl (false, 16), .inl (false, 16), .inl (false, 16), .inl (false, 8), .inl (false, 64)]
def WC20 : oW := [.inr (10, [some (some 1), some (some 3), some (some 6), some (some 10), some (some 14), some none, some none, some none, some none, some none, some none, some none, some none, none]), .inr (9, [some (some 2), none, none, none, none]), .inl (false, 260), .inr (6, [some (some 4), some (some 5), none]), .inl (false, 10), .inl (false, 10), .inr (3, [some (some 7), some (some 8), some (some 9), none, none, none, none, none, none, none, none, none]), .inl (false, 100), .inl (false, 10), .inl (false, 40), .inr (3, [some (some 11), some (some 12), some (some 13), none, none, none, none, none, none, none, none, none]), .inl (false, 100), .inl (false, 10), .inl (false, 40), .inr (3, [some (some 15), some (some 16), some (some 17), none, none, none, none, none, none, none, none, none]), .inl (false, 100), .inl (false, 10), .inl (false, 40), .inr (4, [some (some 3), some (some 19), some (some 20), some (some 21), some (some 22), some (some 23), some (some 24), some (some 25), some (some 26), none, none]), .inl (false, 240), .inl (false, 240), .inl (false, 16), .inl (false, 16), .inl (false, 16), .inl (false, 16), .inl (false, 8), .inl (false, 64)]
def mi_L_18 (M : oM) : oM := (oZ (oZ (oZ (oZ (oZ (oZ (oZ (oZ M 19) 20) 21) 22) 23) 24) 25) 26)
def WC21 : oW := [.inr (10, [some (some 1), some (some 3), some (some 6), some (some 10), some (some 14), some (some 18), some none, some none, some none, some none, some none, some none, some none, none]), .inr (9, [some (some 2), none, none, none, none]), .inl (false, 260), .inr (6, [some (some 4), some (some 5), none]), .inl (false, 10), .inl (false, 10), .inr (3, [some (some 7), some (some 8), some (some 9), none, none, none, none, none, none, none, none, none]), .inl (false, 100), .inl (false, 10), .inl (false, 40), .inr (3, [some (some 11), some (some 12), some (some 13), none, none, none, none, none, none, none, none, none]), .inl (false, 100), .inl (false, 10), .inl (false, 40), .inr (3, [some (some 15), some (some 16), some (some 17), none, none, none, none, none, none, none, none, none]), .inl (false, 100), .inl (false, 10), .inl (false, 40), .inr (4, [some (some 3), some (some 19), some (some 20), some (some 21), some (some 22), some (some 23), some (some 24), some (some 25), some (some 26), none, none]), .inl (false, 240), .inl (false, 240), .inl (false, 16), .inl (false, 16), .inl (false, 16), .inl (false, 16), .inl (false, 8), .inl (false, 64), .inr (4, [some none, some none, some none, some none, some none, some none, some none, some none, some none, none, none])]
def WC22 : oW := [.inr (10, [some (some 1), some (some 3), some (some 6), some (some 10), some (some 14), some (some 18), some none, some none, some none, some none, some none, some none, some none, none]), .inr (9, [some (some 2), none, none, none, none]), .inl (false, 260), .inr (6, [some (some 4), some (some 5), none]), .inl (false, 10), .inl (false, 10), .inr (3, [some (some 7), some (some 8), some (some 9), none, none, none, none, none, none, none, none, none]), .inl (false, 100), .inl (false, 10), .inl (false, 40), .inr (3, [some (some 11), some (some 12), some (some 13), none, none, none, none, none, none, none, none, none]), .inl (false, 100), .inl (false, 10), .inl (false, 40), .inr (3, [some (some 15), some (some 16), some (some 17), none, none, none, none, none, none, none, none, none]), .inl (false, 100), .inl (false, 10), .inl (false, 40), .inr (4, [some (some 3), some (some 19), some (some 20), some (some 21), some (some 22), some (some 23), some (some 24), some (some 25), some (some 26), none, none]), .inl (false, 240), .inl (false, 240), .inl (false, 16), .inl (false, 16), .inl (false, 16), .inl (false, 16), .inl (false, 8), .inl (false, 64), .inr (4, [some none, some (some 28), some (some 29), some none, some none, some none, some none, some none, some none, none, none]), .inl (false, 240), .inl (false, 240)]
def WC23 : oW := [.inr (10, [some (some 1), some (some 3), some (some 6), some (some 10), some (some 14), some (some 18), some none, some none, some none, some none, some none, some none, some none, none]), .inr (9, [some (some 2), none, none, none, none]), .inl (false, 260), .inr (6, [some (some 4), some (some 5), none]), .inl (false, 10), .inl (false, 10), .inr (3, [some (some 7), some (some 8), some (some 9), none, none, none, none, none, none, none, none, none]), .inl (false, 100), .inl (false, 10), .inl (false, 40), .inr (3, [some (some 11), some (some 12), some (some 13), none, none, none, none, none, none, none, none, none]), .inl (false, 100), .inl (false, 10), .inl (false, 40), .inr (3, [some (some 15), some (some 16), some (some 17), none, none, none, none, none, none, none, none, none]), .inl (false, 100), .inl (false, 10), .inl (false, 40), .inr (4, [some (some 3), some (some 19), some (some 20), some (some 21), some (some 22), some (some 23), some (some 24), some (some 25), some (some 26), none, none]), .inl (false, 240), .inl (false, 240), .inl (false, 16), .inl (false, 16), .inl (false, 16), .inl (false, 16), .inl (false, 8), .inl (false, 64), .inr (4, [some none, some (some 28), some (some 29), some (some 30), some (some 31), some none, some none, some none, some none, none, none]), .inl (false, 240), .inl (false, 240), .inl (false, 16), .inl (false, 16)]
def WC24 : oW := [.inr (10, [some (some 1), some (some 3), some (some 6), some (some 10), some (some 14), some (some 18), some none, some none, some none, some none, some none, some none, some none, none]), .inr (9, [some (some 2), none, none, none, none]), .inl (false, 260), .inr (6, [some (some 4), some (some 5), none]), .inl (false, 10), .inl (false, 10), .inr (3, [some (some 7), some (some 8), some (some 9), none, none, none, none, none, none, none, none, none]), .inl (false, 100), .inl (false, 10), .inl (false, 40), .inr (3, [some (some 11), some (some 12), some (some 13), none, none, none, none, none, none, none, none, none]), .inl (false, 100), .inl (false, 10), .inl (false, 40), .inr (3, [some (some 15), some (some 16), some (some 17), none, none, none, none, none, none, none, none, none]), .inl (false, 100), .inl (false, 10), .inl (false, 40), .inr (4, [some (some 3), some (some 19), some (some 20), some (some 21), some (some 22), some (some 23), some (some 24), some (some 25), some (some 26), none, none]), .inl (false, 240), .inl (false, 240), .inl (false, 16), .inl (false, 16), .inl (false, 16), .inl (false, 16), .inl (false, 8), .inl (false, 64), .inr (4, [some none, some (some 28), some (some 29), some (some 30), some (some 31), some (some 32), some (some 33), some none, some none, none, none]), .inl (false, 240), .inl (false, 240), .inl (false, 16), .inl (false, 16), .inl (false, 16), .inl (false, 16)]
def WC25 : oW := [.inr (10, [some (some 1), some (some 3), some (some 6), some (some 10), some (some 14), some (some 18), some none, some none, some none, some none, some none, some none, some none, none]), .inr (9, [some (some 2), none, none, none, none]), .inl (false, 260), .inr (6, [some (some 4), some (some 5), none]), .inl (false, 10), .inl (false, 10), .inr (3, [some (some 7), some (some 8), some (some 9), none, none, none, none, none, none, none, none, none]), .inl (false, 100), .inl (false, 10), .inl (false, 40), .inr (3, [some (some 11), some (some 12), some (some 13), none, none, none, none, none, none, none, none, none]), .inl (false, 100), .inl (false, 10), .inl (false, 40), .inr (3, [some (some 15), some (some 16), some (some 17), none, none, none, none, none, none, none, none, none]), .inl (false, 100), .inl (false, 10), .inl (false, 40), .inr (4, [some (some 3), some (some 19), some (some 20), some (some 21), some (some 22), some (some 23), some (some 24), some (some 25), some (some 26), none, none]), .inl (false, 240), .inl (false, 240), .inl (false, 16), .inl (false, 16), .inl (false, 16), .inl (false, 16), .inl (false, 8), .inl (false, 64), .inr (4, [some none, some (some 28), some (some 29), some (some 30), some (some 31), some (some 32), some (some 33), some (some 34), some (some 35), none, none]), .inl (false, 240), .inl (false, 240), .inl (false, 16), .inl (false, 16), .inl (false, 16), .inl (false, 16), .inl (false, 8), .inl (false, 64)]
def WC26 : oW := [.inr (10, [some (some 1), some (some 3), some (some 6), some (some 10), some (some 14), some (some 18), some none, some none, some none, some none, some none, some none, some none, none]), .inr (9, [some (some 2), none, none, none, none]), .inl (false, 260), .inr (6, [some (some 4), some (some 5), none]), .inl (false, 10), .inl (false, 10), .inr (3, [some (some 7), some (some 8), some (some 9), none, none, none, none, none, none, none, none, none]), .inl (false, 100), .inl (false, 10), .inl (false, 40), .inr (3, [some (some 11), some (some 12), some (some 13), none, none, none, none, none, none, none, none, none]), .inl (false, 100), .inl (false, 10), .inl (false, 40), .inr (3, [some (some 15), some (some 16), some (some 17), none, none, none, none, none, none, none, none, none]), .inl (false, 100), .inl (false, 10), .inl (false, 40), .inr (4, [some (some 3), some (some 19), some (some 20), some (some 21), some (some 22), some (some 23), some (some 24), some (some 25), some (some 26), none, none]), .inl (false, 240), .inl (false, 240), .inl (false, 16), .inl (false, 16), .inl (false, 16), .inl (false, 16), .inl (false, 8), .inl (false, 64), .inr (4, [some (some 3), some (some 28), some (some 29), some (some 30), some (some 31), some (some 32), some (some 33), some (some 34), some (some 35), none, none]), .inl (false, 240), .inl (false, 240), .inl (false, 16), .inl (false, 16), .inl (false, 16), .inl (false, 16), .inl (false, 8), .inl (false, 64)]
def mi_L_27 (M : oM) : oM := (oZ (oZ (oZ (oZ (oZ (oZ (oZ (oZ M 28) 29) 30) 31) 32) 33) 34) 35)
def WC27 : oW := [.inr (10, [some (some 1), some (some 3), some (some 6), some (some 10), some (some 14), some (some 18), some (some 27), some none, some none, some none, some none, some none, some none, none]), .inr (9, [some (some 2), none, none, none, none]), .inl (false, 260), .inr (6, [some (some 4), some (some 5), none]), .inl (false, 10), .inl (false, 10), .inr (3, [some (some 7), some (some 8), some (some 9), none, none, none, none, none, none, none, none, none]), .inl (false, 100), .inl (false, 10), .inl (false, 40), .inr (3, [some (some 11), some (some 12), some (some 13), none, none, none, none, none, none, none, none, none]), .inl (false, 100), .inl (false, 10), .inl (false, 40), .inr (3, [some (some 15), some (some 16), some (some 17), none, none, none, none, none, none, none, none, none]), .inl (false, 100), .inl (false, 10), .inl (false, 40), .inr (4, [some (some 3), some (some 19), some (some 20), some (some 21), some (some 22), some (some 23), some (some 24), some (some 25), some (some 26), none, none]), .inl (false, 240), .inl (false, 240), .inl (false, 16), .inl (false, 16), .inl (false, 16), .inl (false, 16), .inl (false, 8), .inl (false, 64), .inr (4, [some (some 3), some (some 28), some (some 29), some (some 30), some (some 31), some (some 32), some (some 33), some (some 34), some (some 35), none, none]), .inl (false, 240), .inl (false, 240), .inl (false, 16), .inl (false, 16), .inl (false, 16), .inl (false, 16), .inl (false, 8), .inl (false, 64), .inr (5, [some none, some none])]
def WC28 : oW := [.inr (10, [some (some 1), some (some 3), some (some 6), some (some 10), some (some 14), some (some 18), some (some 27), some none, some none, some none, some none, some none, some none, none]), .inr (9, [some (some 2), none, none, none, none]), .inl (false, 260), .inr (6, [some (some 4), some (some 5), none]), .inl (false, 10), .inl (false, 10), .inr (3, [some (some 7), some (some 8), some (some 9), none, none, none, none, none, none, none, none, none]), .inl (false, 100), .inl (false, 10), .inl (false, 40), .inr (3, [some (some 11), some (some 12), some (some 13), none, none, none, none, none, none, none, none, none]), .inl (false, 100), .inl (false, 10), .inl (false, 40), .inr (3, [some (some 15), some (some 16), some (some 17), none, none, none, none, none, none, none, none, none]), .inl (false, 100), .inl (false, 10), .inl (false, 40), .inr (4, [some (some 3), some (some 19), some (some 20), some (some 21), some (some 22), some (some 23), some (some 24), some (some 25), some (some 26), none, none]), .inl (false, 240), .inl (false, 240), .inl (false, 16), .inl (false, 16), .inl (false, 16), .inl (false, 16), .inl (false, 8), .inl (false, 64), .inr (4, [some (some 3), some (some 28), some (some 29), some (some 30), some (some 31), some (some 32), some (some 33), some (some 34), some (some 35), none, none]), .inl (false, 240), .inl (false, 240), .inl (false, 16), .inl (false, 16), .inl (false, 16), .inl (false, 16), .inl (false, 8), .inl (false, 64), .inr (5, [some (some 1), some (some 27)])]
def mi_LR_36 (M : oM) : oM := M
def WC29 : oW := [.inr (10, [some (some 1), some (some 3), some (some 6), some (some 10), some (some 14), some (some 18), some (some 27), some (some 36), some none, some none, some none, some none, some none, none]), .inr (9, [some (some 2), none, none, none, none]), .inl (false, 260), .inr (6, [some (some 4), some (some 5), none]), .inl (false, 10), .inl (false, 10), .inr (3, [some (some 7), some (some 8), some (some 9), none, none, none, none, none, none, none, none, none]), .inl (false, 100), .inl (false, 10), .inl (false, 40), .inr (3, [some (some 11), some (some 12), some (some 13), none, none, none, none, none, none, none, none, none]), .inl (false, 100), .inl (false, 10), .inl (false, 40), .inr (3, [some (some 15), some (some 16), some (some 17), none, none, none, none, none, none, none, none, none]), .inl (false, 100), .inl (false, 10), .inl (false, 40), .inr (4, [some (some 3), some (some 19), some (some 20), some (some 21), some (some 22), some (some 23), some (some 24), some (some 25), some (some 26), none, none]), .inl (false, 240), .inl (false, 240), .inl (false, 16), .inl (false, 16), .inl (false, 16), .inl (false, 16), .inl (false, 8), .inl (false, 64), .inr (4, [some (some 3), some (some 28), some (some 29), some (some 30), some (some 31), some (some 32), some (some 33), some (some 34), some (some 35), none, none]), .inl (false, 240), .inl (false, 240), .inl (false, 16), .inl (false, 16), .inl (false, 16), .inl (false, 16), .inl (false, 8), .inl (false, 64), .inr (5, [some (some 1), some (some 27)]), .inr (2, [some none, some none, some none])]
def WC30 : oW := [.inr (10, [some (some 1), some (some 3), some (some 6), some (some 10), some (some 14), some (some 18), some (some 27), some (some 36), some none, some none, some none, some none, some none, none]), .inr (9, [some (some 2), none, none, none, none]), .inl (false, 260), .inr (6, [some (some 4), some (some 5), none]), .inl (false, 10), .inl (false, 10), .inr (3, [some (some 7), some (some 8), some (some 9), none, none, none, none, none, none, none, none, none]), .inl (false, 100), .inl (false, 10), .inl (false, 40), .inr (3, [some (some 11), some (some 12), some (some 13), none, none, none, none, none, none, none, none, none]), .inl (false, 100), .inl (false, 10), .inl (false, 40), .inr (3, [some (some 15), some (some 16), some (some 17), none, none, none, none, none, none, none, none, none]), .inl (false, 100), .inl (false, 10), .inl (false, 40), .inr (4, [some (some 3), some (some 19), some (some 20), some (some 21), some (some 22), some (some 23), some (some 24), some (some 25), some (some 26), none, none]), .inl (false, 240), .inl (false, 240), .inl (false, 16), .inl (false, 16), .inl (false, 16), .inl (false, 16), .inl (false, 8), .inl (false, 64), .inr (4, [some (some 3), some (some 28), some (some 29), some (some 30), some (some 31), some (some 32), some (some 33), some (some 34), some (some 35), none, none]), .inl (false, 240), .inl (false, 240), .inl (false, 16), .inl (false, 16), .inl (false, 16), .inl (false, 16), .inl (false, 8), .inl (false, 64), .inr (5, [some (some 1), some (some 27)]), .inr (2, [some (some 1), some (some 3), some (some 38)]), .inl (false, 100)]
def mi_DR_37 (M : oM) : oM := (oZ M 38)
def WC31 : oW := [.inr (10, [some (some 1), some (some 3), some (some 6), some (some 10), some (some 14), some (some 18), some (some 27), some (some 36), some (some 37), some none, some none, some none, some none, none]), .inr (9, [some (some 2), none, none, none, none]), .inl (false, 260), .inr (6, [some (some 4), some (some 5), none]), .inl (false, 10), .inl (false, 10), .inr (3, [some (some 7), some (some 8), some (some 9), none, none, none, none, none, none, none, none, none]), .inl (false, 100), .inl (false, 10), .inl (false, 40), .inr (3, [some (some 11), some (some 12), some (some 13), none, none, none, none, none, none, none, none, none]), .inl (false, 100), .inl (false, 10), .inl (false, 40), .inr (3, [some (some 15), some (some 16), some (some 17), none, none, none, none, none, none, none, none, none]), .inl (false, 100), .inl (false, 10), .inl (false, 40), .inr (4, [some (some 3), some (some 19), some (some 20), some (some 21), some (some 22), some (some 23), some (some 24), some (some 25), some (some 26), none, none]), .inl (false, 240), .inl (false, 240), .inl (false, 16), .inl (false, 16), .inl (false, 16), .inl (false, 16), .inl (false, 8), .inl (false, 64), .inr (4, [some (some 3), some (some 28), some (some 29), some (some 30), some (some 31), some (some 32), some (some 33), some (some 34), some (some 35), none, none]), .inl (false, 240), .inl (false, 240), .inl (false, 16), .inl (false, 16), .inl (false, 16), .inl (false, 16), .inl (false, 8), .inl (false, 64), .inr (5, [some (some 1), some (some 27)]), .inr (2, [some (some 1), some (some 3), some (some 38)]), .inl (false, 100), .inr (7, [some none, some none, none])]
def WC32 : oW := [.inr (10, [some (some 1), some (some 3), some (some 6), some (some 10), some (some 14), some (some 18), some (some 27), some (some 36), some (some 37), some none, some none, some none, some none, none]), .inr (9, [some (some 2), none, none, none, none]), .inl (false, 260), .inr (6, [some (some 4), some (some 5), none]), .inl (false, 10), .inl (false, 10), .inr (3, [some (some 7), some (some 8), some (some 9), none, none, none, none, none, none, none, none, none]), .inl (false, 100), .inl (false, 10), .inl (false, 40), .inr (3, [some (some 11), some (some 12), some (some 13), none, none, none, none, none, none, none, none, none]), .inl (false, 100), .inl (false, 10), .inl (false, 40), .inr (3, [some (some 15), some (some 16), some (some 17), none, none, none, none, none, none, none, none, none]), .inl (false, 100), .inl (false, 10), .inl (false, 40), .inr (4, [some (some 3), some (some 19), some (some 20), some (some 21), some (some 22), some (some 23), some (some 24), some (some 25), some (some 26), none, none]), .inl (false, 240), .inl (false, 240), .inl (false, 16), .inl (false, 16), .inl (false, 16), .inl (false, 16), .inl (false, 8), .inl (false, 64), .inr (4, [some (some 3), some (some 28), some (some 29), some (some 30), some (some 31), some (some 32), some (some 33), some (some 34), some (some 35), none, none]), .inl (false, 240), .inl (false, 240), .inl (false, 16), .inl (false, 16), .inl (false, 16), .inl (false, 16), .inl (false, 8), .inl (false, 64), .inr (5, [some (some 1), some (some 27)]), .inr (2, [some (some 1), some (some 3), some (some 38)]), .inl (false, 100), .inr (7, [some (some 1), some (some 40), none]), .inl (false, 60)]
def mi_RR_39 (M : oM) : oM := (oZ M 40)
def WC33 : oW := [.inr (10, [some (some 1), some (some 3), some (some 6), some (some 10), some (some 14), some (some 18), some (some 27), some (some 36), some (some 37), some (some 39), some none, some none, some none, none]), .inr (9, [some (some 2), none, none, none, none]), .inl (false, 260), .inr (6, [some (some 4), some (some 5), none]), .inl (false, 10), .inl (false, 10), .inr (3, [some (some 7), some (some 8), some (some 9), none, none, none, none, none, none, none, none, none]), .inl (false, 100), .inl (false, 10), .inl (false, 40), .inr (3, [some (some 11), some (some 12), some (some 13), none, none, none, none, none, none, none, none, none]), .inl (false, 100), .inl (false, 10), .inl (false, 40), .inr (3, [some (some 15), some (some 16), some (some 17), none, none, none, none, none, none, none, none, none]), .inl (false, 100), .inl (false, 10), .inl (false, 40), .inr (4, [some (some 3), some (some 19), some (some 20), some (some 21), some (some 22), some (some 23), some (some 24), some (some 25), some (some 26), none, none]), .inl (false, 240), .inl (false, 240), .inl (false, 16), .inl (false, 16), .inl (false, 16), .inl (false, 16), .inl (false, 8), .inl (false, 64), .inr (4, [some (some 3), some (some 28), some (some 29), some (some 30), some (some 31), some (some 32), some (some 33), some (some 34), some (some 35), none, none]), .inl (false, 240), .inl (false, 240), .inl (false, 16), .inl (false, 16), .inl (false, 16), .inl (false, 16), .inl (false, 8), .inl (false, 64), .inr (5, [some (some 1), some (some 27)]), .inr (2, [some (some 1), some (some 3), some (some 38)]), .inl (false, 100), .inr (7, [some (some 1), some (some 40), none]), .inl (false, 60), .inr (1, [some none, some none, none, none, none, none])]
def WC34 : oW := [.inr (10, [some (some 1), some (some 3), some (some 6), some (some 10), some (some 14), some (some 18), some (some 27), some (some 36), some (some 37), some (some 39), some none, some none, some none, none]), .inr (9, [some (some 2), none, none, none, none]), .inl (false, 260), .inr (6, [some (some 4), some (some 5), none]), .inl (false, 10), .inl (false, 10), .inr (3, [some (some 7), some (some 8), some (some 9), none, none, none, none, none, none, none, none, none]), .inl (false, 100), .inl (false, 10), .inl (false, 40), .inr (3, [some (some 11), some (some 12), some (some 13), none, none, none, none, none, none, none, none, none]), .inl (false, 100), .inl (false, 10), .inl (false, 40), .inr (3, [some (some 15), some (some 16), some (some 17), none, none, none, none, none, none, none, none, none]), .inl (false, 100), .inl (false, 10), .inl (false, 40), .inr (4, [some (some 3), some (some 19), some (some 20), some (some 21), some (some 22), some (some 23), some (some 24), some (some 25), some (some 26), none, none]), .inl (false, 240), .inl (false, 240), .inl (false, 16), .inl (false, 16), .inl (false, 16), .inl (false, 16), .inl (false, 8), .inl (false, 64), .inr (4, [some (some 3), some (some 28), some (some 29), some (some 30), some (some 31), some (some 32), some (some 33), some (some 34), some (some 35), none, none]), .inl (false, 240), .inl (false, 240), .inl (false, 16), .inl (false, 16), .inl (false, 16), .inl (false, 16), .inl (false, 8), .inl (false, 64), .inr (5, [some (some 1), some (some 27)]), .inr (2, [some (some 1), some (some 3), some (some 38)]), .inl (false, 100), .inr (7, [some (some 1), some (some 40), none]), .inl (false, 60), .inr (1, [some (some 3), some (some 18), none, none, none, none])]
def mi_C_41 (M : oM) : oM := (oU M 41 5 (-1))
def WC35 : oW := [.inr (10, [some (some 1), some (some 3), some (some 6), some (some 10), some (some 14), some (some 18), some (some 27), some (some 36), some (some 37), some (some 39), some (some 41), some none, some none, none]), .inr (9, [some (some 2), none, none, none, none]), .inl (false, 260), .inr (6, [some (some 4), some (some 5), none]), .inl (false, 10), .inl (false, 10), .inr (3, [some (some 7), some (some 8), some (some 9), none, none, none, none, none, none, none, none, none]), .inl (false, 100), .inl (false, 10), .inl (false, 40), .inr (3, [some (some 11), some (some 12), some (some 13), none, none, none, none, none, none, none, none, none]), .inl (false, 100), .inl (false, 10), .inl (false, 40), .inr (3, [some (some 15), some (some 16), some (some 17), none, none, none, none, none, none, none, none, none]), .inl (false, 100), .inl (false, 10), .inl (false, 40), .inr (4, [some (some 3), some (some 19), some (some 20), some (some 21), some (some 22), some (some 23), some (some 24), some (some 25), some (some 26), none, none]), .inl (false, 240), .inl (false, 240), .inl (false, 16), .inl (false, 16), .inl (false, 16), .inl (false, 16), .inl (false, 8), .inl (false, 64), .inr (4, [some (some 3), some (some 28), some (some 29), some (some 30), some (some 31), some (some 32), some (some 33), some (some 34), some (some 35), none, none]), .inl (false, 240), .inl (false, 240), .inl (false, 16), .inl (false, 16), .inl (false, 16), .inl (false, 16), .inl (false, 8), .inl (false, 64), .inr (5, [some (some 1), some (some 27)]), .inr (2, [some (some 1), some (some 3), some (some 38)]), .inl (false, 100), .inr (7, [some (some 1), some (some 40), none]), .inl (false, 60), .inr (1, [some (some 3), some (some 18), none, none, none, none]), .inr (8, [some none, some none, some none, some none, some none, some none, some none, none])]
def WC36 : oW := [.inr (10, [some (some 1), some (some 3), some (some 6), some (some 10), some (some 14), some (some 18), some (some 27), some (some 36), some (some 37), some (some 39), some (some 41), some none, some none, none]), .inr (9, [some (some 2), none, none, none, none]), .inl (false, 260), .inr (6, [some (some 4), some (some 5), none]), .inl (false, 10), .inl (false, 10), .inr (3, [some (some 7), some (some 8), some (some 9), none, none, none, none, none, none, none, none, none]), .inl (false, 100), .inl (false, 10), .inl (false, 40), .inr (3, [some (some 11), some (some 12), some (some 13), none, none, none, none, none, none, none, none, none]), .inl (false, 100), .inl (false, 10), .inl (false, 40), .inr (3, [some (some 15), some (some 16), some (some 17), none, none, none, none, none, none, none, none, none]), .inl (false, 100), .inl (false, 10), .inl (false, 40), .inr (4, [some (some 3), some (some 19), some (some 20), some (some 21), some (some 22), some (some 23), some (some 24), some (some 25), some (some 26), none, none]), .inl (false, 240), .inl (false, 240), .inl (false, 16), .inl (false, 16), .inl (false, 16), .inl (false, 16), .inl (false, 8), .inl (false, 64), .inr (4, [some (some 3), some (some 28), some (some 29), some (some 30), some (some 31), some (some 32), some (some 33), some (some 34), some (some 35), none, none]), .inl (false, 240), .inl (false, 240), .inl (false, 16), .inl (false, 16), .inl (false, 16), .inl (false, 16), .inl (false, 8), .inl (false, 64), .inr (5, [some (some 1), some (some 27)]), .inr (2, [some (some 1), some (some 3), some (some 38)]), .inl (false, 100), .inr (7, [some (some 1), some (some 40), none]), .inl (false, 60), .inr (1, [some (some 3), some (some 18), none, none, none, none]), .inr (8, [some none, some (some 43), some (some 44), some none, some none, some none, some none, none]), .inl (false, 100), .inl (false, 100)]
def WC37 : oW := [.inr (10, [some (some 1), some (some 3), some (some 6), some (some 10), some (some 14), some (some 18), some (some 27), some (some 36), some (some 37), some (some 39), some (some 41), some none, some none, none]), .inr (9, [some (some 2), none, none, none, none]), .inl (false, 260), .inr (6, [some (some 4), some (some 5), none]), .inl (false, 10), .inl (false, 10), .inr (3, [some (some 7), some (some 8), some (some 9), none, none, none, none, none, none, none, none, none]), .inl (false, 100), .inl (false, 10), .inl (false, 40), .inr (3, [some (some 11), some (some 12), some (some 13), none, none, none, none, none, none, none, none, none]), .inl (false, 100), .inl (false, 10), .inl (false, 40), .inr (3, [some (some 15), some (some 16), some (some 17), none, none, none, none, none, none, none, none, none]), .inl (false, 100), .inl (false, 10), .inl (false, 40), .inr (4, [some (some 3), some (some 19), some (some 20), some (some 21), some (some 22), some (some 23), some (some 24), some (some 25), some (some 26), none, none]), .inl (false, 240), .inl (false, 240), .inl (false, 16), .inl (false, 16), .inl (false, 16), .inl (false, 16), .inl (false, 8), .inl (false, 64), .inr (4, [some (some 3), some (some 28), some (some 29), some (some 30), some (some 31), some (some 32), some (some 33), some (some 34), some (some 35), none, none]), .inl (false, 240), .inl (false, 240), .inl (false, 16), .inl (false, 16), .inl (false, 16), .inl (false, 16), .inl (false, 8), .inl (false, 64), .inr (5, [some (some 1), some (some 27)]), .inr (2, [some (some 1), some (some 3), some (some 38)]), .inl (false, 100), .inr (7, [some (some 1), some (some 40), none]), .inl (false, 60), .inr (1, [some (some 3), some (some 18), none, none, none, none]), .inr (8, [some none, some (some 43), some (some 44), some (some 45), some (some 46), some none, some none, none]), .inl (false, 100), .inl (false, 100), .inl (false, 8), .inl (false, 10)]
def WC38 : oW := [.inr (10, [some (some 1), some (some 3), some (some 6), some (some 10), some (some 14), some (some 18), some (some 27), some (some 36), some (some 37), some (some 39), some (some 41), some none, some none, none]), .inr (9, [some (some 2), none, none, none, none]), .inl (false, 260), .inr (6, [some (some 4), some (some 5), none]), .inl (false, 10), .inl (false, 10), .inr (3, [some (some 7), some (some 8), some (some 9), none, none, none, none, none, none, none, none, none]), .inl (false, 100), .inl (false, 10), .inl (false, 40), .inr (3, [some (some 11), some (some 12), some (some 13), none, none, none, none, none, none, none, none, none]), .inl (false, 100), .inl (false, 10), .inl (false, 40), .inr (3, [some (some 15), some (some 16), some (some 17), none, none, none, none, none, none, none, none, none]), .inl (false, 100), .inl (false, 10), .inl (false, 40), .inr (4, [some (some 3), some (some 19), some (some 20), some (some 21), some (some 22), some (some 23), some (some 24), some (some 25), some (some 26), none, none]), .inl (false, 240), .inl (false, 240), .inl (false, 16), .inl (false, 16), .inl (false, 16), .inl (false, 16), .inl (false, 8), .inl (false, 64), .inr (4, [some (some 3), some (some 28), some (some 29), some (some 30), some (some 31), some (some 32), some (some 33), some (some 34), some (some 35), none, none]), .inl (false, 240), .inl (false, 240), .inl (false, 16), .inl (false, 16), .inl (false, 16), .inl (false, 16), .inl (false, 8), .inl (false, 64), .inr (5, [some (some 1), some (some 27)]), .inr (2, [some (some 1), some (some 3), some (some 38)]), .inl (false, 100), .inr (7, [some (some 1), some (some 40), none]), .inl (false, 60), .inr (1, [some (some 3), some (some 18), none, none, none, none]), .inr (8, [some none, some (some 43), some (some 44), some (some 45), some (some 46), some (some 47), some (some 48), none]), .inl (false, 100), .inl (false, 100), .inl (false, 8), .inl (false, 10), .inl (false, 60), .inl (false, 12)]
def WC39 : oW := [.inr (10, [some (some 1), some (some 3), some (some 6), some (some 10), some (some 14), some (some 18), some (some 27), some (some 36), some (some 37), some (some 39), some (some 41), some none, some none, none]), .inr (9, [some (some 2), none, none, none, none]), .inl (false, 260), .inr (6, [some (some 4), some (some 5), none]), .inl (false, 10), .inl (false, 10), .inr (3, [some (some 7), some (some 8), some (some 9), none, none, none, none, none, none, none, none, none]), .inl (false, 100), .inl (false, 10), .inl (false, 40), .inr (3, [some (some 11), some (some 12), some (some 13), none, none, none, none, none, none, none, none, none]), .inl (false, 100), .inl (false, 10), .inl (false, 40), .inr (3, [some (some 15), some (some 16), some (some 17), none, none, none, none, none, none, none, none, none]), .inl (false, 100), .inl (false, 10), .inl (false, 40), .inr (4, [some (some 3), some (some 19), some (some 20), some (some 21), some (some 22), some (some 23), some (some 24), some (some 25), some (some 26), none, none]), .inl (false, 240), .inl (false, 240), .inl (false, 16), .inl (false, 16), .inl (false, 16), .inl (false, 16), .inl (false, 8), .inl (false, 64), .inr (4, [some (some 3), some (some 28), some (some 29), some (some 30), some (some 31), some (some 32), some (some 33), some (some 34), some (some 35), none, none]), .inl (false, 240), .inl (false, 240), .inl (false, 16), .inl (false, 16), .inl (false, 16), .inl (false, 16), .inl (false, 8), .inl (false, 64), .inr (5, [some (some 1), some (some 27)]), .inr (2, [some (some 1), some (some 3), some (some 38)]), .inl (false, 100), .inr (7, [some (some 1), some (some 40), none]), .inl (false, 60), .inr (1, [some (some 3), some (some 18), none, none, none, none]), .inr (8, [some (some 3), some (some 43), some (some 44), some (some 45), some (some 46), some (some 47), some (some 48), none]), .inl (false, 100), .inl (false, 100), .inl (false, 8), .inl (false, 10), .inl (false, 60), .inl (false, 12)]
def mi_R_42 (M : oM) : oM := (oZ (oZ (oZ (oZ (oZ (oZ M 43) 44) 45) 46) 47) 48)
def WC40 : oW := [.inr (10, [some (some 1), some (some 3), some (some 6), some (some 10), some (some 14), some (some 18), some (some 27), some (some 36), some (some 37), some (some 39), some (some 41), some (some 42), some none, none]), .inr (9, [some (some 2), none, none, none, none]), .inl (false, 260), .inr (6, [some (some 4), some (some 5), none]), .inl (false, 10), .inl (false, 10), .inr (3, [some (some 7), some (some 8), some (some 9), none, none, none, none, none, none, none, none, none]), .inl (false, 100), .inl (false, 10), .inl (false, 40), .inr (3, [some (some 11), some (some 12), some (some 13), none, none, none, none, none, none, none, none, none]), .inl (false, 100), .inl (false, 10), .inl (false, 40), .inr (3, [some (some 15), some (some 16), some (some 17), none, none, none, none, none, none, none, none, none]), .inl (false, 100), .inl (false, 10), .inl (false, 40), .inr (4, [some (some 3), some (some 19), some (some 20), some (some 21), some (some 22), some (some 23), some (some 24), some (some 25), some (some 26), none, none]), .inl (false, 240), .inl (false, 240), .inl (false, 16), .inl (false, 16), .inl (false, 16), .inl (false, 16), .inl (false, 8), .inl (false, 64), .inr (4, [some (some 3), some (some 28), some (some 29), some (some 30), some (some 31), some (some 32), some (some 33), some (some 34), some (some 35), none, none]), .inl (false, 240), .inl (false, 240), .inl (false, 16), .inl (false, 16), .inl (false, 16), .inl (false, 16), .inl (false, 8), .inl (false, 64), .inr (5, [some (some 1), some (some 27)]), .inr (2, [some (some 1), some (some 3), some (some 38)]), .inl (false, 100), .inr (7, [some (some 1), some (some 40), none]), .inl (false, 60), .inr (1, [some (some 3), some (some 18), none, none, none, none]), .inr (8, [some (some 3), some (some 43), some (some 44), some (some 45), some (some 46), some (some 47), some (some 48), none]), .inl (false, 100), .inl (false, 100), .inl (false, 8), .inl (false, 10), .inl (false, 60), .inl (false, 12), .inr (0, [some none, some none, some none, some none, some none, some none, some none, some none, none])]
def WC41 : oW := [.inr (10, [some (some 1), some (some 3), some (some 6), some (some 10), some (some 14), some (some 18), some (some 27), some (some 36), some (some 37), some (some 39), some (some 41), some (some 42), some none, none]), .inr (9, [some (some 2), none, none, none, none]), .inl (false, 260), .inr (6, [some (some 4), some (some 5), none]), .inl (false, 10), .inl (false, 10), .inr (3, [some (some 7), some (some 8), some (some 9), none, none, none, none, none, none, none, none, none]), .inl (false, 100), .inl (false, 10), .inl (false, 40), .inr (3, [some (some 11), some (some 12), some (some 13), none, none, none, none, none, none, none, none, none]), .inl (false, 100), .inl (false, 10), .inl (false, 40), .inr (3, [some (some 15), some (some 16), some (some 17), none, none, none, none, none, none, none, none, none]), .inl (false, 100), .inl (false, 10), .inl (false, 40), .inr (4, [some (some 3), some (some 19), some (some 20), some (some 21), some (some 22), some (some 23), some (some 24), some (some 25), some (some 26), none, none]), .inl (false, 240), .inl (false, 240), .inl (false, 16), .inl (false, 16), .inl (false, 16), .inl (false, 16), .inl (false, 8), .inl (false, 64), .inr (4, [some (some 3), some (some 28), some (some 29), some (some 30), some (some 31), some (some 32), some (some 33), some (some 34), some (some 35), none, none]), .inl (false, 240), .inl (false, 240), .inl (false, 16), .inl (false, 16), .inl (false, 16), .inl (false, 16), .inl (false, 8), .inl (false, 64), .inr (5, [some (some 1), some (some 27)]), .inr (2, [some (some 1), some (some 3), some (some 38)]), .inl (false, 100), .inr (7, [some (some 1), some (some 40), none]), .inl (false, 60), .inr (1, [some (some 3), some (some 18), none, none, none, none]), .inr (8, [some (some 3), some (some 43), some (some 44), some (some 45), some (some 46), some (some 47), some (some 48), none]), .inl (false, 100), .inl (false, 100), .inl (false, 8), .inl (false, 10), .inl (false, 60), .inl (false, 12), .inr (0, [some none, some (some 50), some (some 51), some none, some none, some none, some none, some none, none]), .inl (false, 10), .inl (false, 10)]
def WC42 : oW := [.inr (10, [some (some 1), some (some 3), some (some 6), some (some 10), some (some 14), some (some 18), some (some 27), some (some 36), some (some 37), some (some 39), some (some 41), some (some 42), some none, none]), .inr (9, [some (some 2), none, none, none, none]), .inl (false, 260), .inr (6, [some (some 4), some (some 5), none]), .inl (false, 10), .inl (false, 10), .inr (3, [some (some 7), some (some 8), some (some 9), none, none, none, none, none, none, none, none, none]), .inl (false, 100), .inl (false, 10), .inl (false, 40), .inr (3, [some (some 11), some (some 12), some (some 13), none, none, none, none, none, none, none, none, none]), .inl (false, 100), .inl (false, 10), .inl (false, 40), .inr (3, [some (some 15), some (some 16), some (some 17), none, none, none, none, none, none, none, none, none]), .inl (false, 100), .inl (false, 10), .inl (false, 40), .inr (4, [some (some 3), some (some 19), some (some 20), some (some 21), some (some 22), some (some 23), some (some 24), some (some 25), some (some 26), none, none]), .inl (false, 240), .inl (false, 240), .inl (false, 16), .inl (false, 16), .inl (false, 16), .inl (false, 16), .inl (false, 8), .inl (false, 64), .inr (4, [some (some 3), some (some 28), some (some 29), some (some 30), some (some 31), some (some 32), some (some 33), some (some 34), some (some 35), none, none]), .inl (false, 240), .inl (false, 240), .inl (false, 16), .inl (false, 16), .inl (false, 16), .inl (false, 16), .inl (false, 8), .inl (false, 64), .inr (5, [some (some 1), some (some 27)]), .inr (2, [some (some 1), some (some 3), some (some 38)]), .inl (false, 100), .inr (7, [some (some 1), some (some 40), none]), .inl (false, 60), .inr (1, [some (some 3), some (some 18), none, none, none, none]), .inr (8, [some (some 3), some (some 43), some (some 44), some (some 45), some (some 46), some (some 47), some (some 48), none]), .inl (false, 100), .inl (false, 100), .inl (false, 8), .inl (false, 10), .inl (false, 60), .inl (false, 12), .inr (0, [some none, some (some 50), some (some 51), some (some 52), some (some 53), some none, some none, some none, none]), .inl (false, 10), .inl (false, 10), .inl (false, 6), .inl (false, 6)]
def WC43 : oW := [.inr (10, [some (some 1), some (some 3), some (some 6), some (some 10), some (some 14), some (some 18), some (some 27), some (some 36), some (some 37), some (some 39), some (some 41), some (some 42), some none, none]), .inr (9, [some (some 2), none, none, none, none]), .inl (false, 260), .inr (6, [some (some 4), some (some 5), none]), .inl (false, 10), .inl (false, 10), .inr (3, [some (some 7), some (some 8), some (some 9), none, none, none, none, none, none, none, none, none]), .inl (false, 100), .inl (false, 10), .inl (false, 40), .inr (3, [some (some 11), some (some 12), some (some 13), none, none, none, none, none, none, none, none, none]), .inl (false, 100), .inl (false, 10), .inl (false, 40), .inr (3, [some (some 15), some (some 16), some (some 17), none, none, none, none, none, none, none, none, none]), .inl (false, 100), .inl (false, 10), .inl (false, 40), .inr (4, [some (some 3), some (some 19), some (some 20), some (some 21), some (some 22), some (some 23), some (some 24), some (some 25), some (some 26), none, none]), .inl (false, 240), .inl (false, 240), .inl (false, 16), .inl (false, 16), .inl (false, 16), .inl (false, 16), .inl (false, 8), .inl (false, 64), .inr (4, [some (some 3), some (some 28), some (some 29), some (some 30), some (some 31), some (some 32), some (some 33), some (some 34), some (some 35), none, none]), .inl (false, 240), .inl (false, 240), .inl (false, 16), .inl (false, 16), .inl (false, 16), .inl (false, 16), .inl (false, 8), .inl (false, 64), .inr (5, [some (some 1), some (some 27)]), .inr (2, [some (some 1), some (some 3), some (some 38)]), .inl (false, 100), .inr (7, [some (some 1), some (some 40), none]), .inl (false, 60), .inr (1, [some (some 3), some (some 18), none, none, none, none]), .inr (8, [some (some 3), some (some 43), some (some 44), some (some 45), some (some 46), some (some 47), some (some 48), none]), .inl (false, 100), .inl (false, 100), .inl (false, 8), .inl (false, 10), .inl (false, 60), .inl (false, 12), .inr (0, [some none, some (some 50), some (some 51), some (some 52), some (some 53), some (some 54), some (some 55), some none, none]), .inl (false, 10), .inl (false, 10), .inl (false, 6), .inl (false, 6), .inl (false, 6), .inl (false, 12)]
def WC44 : oW := [.inr (10, [some (some 1), some (some 3), some (some 6), some (some 10), some (some 14), some (some 18), some (some 27), some (some 36), some (some 37), some (some 39), some (some 41), some (some 42), some none, none]), .inr (9, [some (some 2), none, none, none, none]), .inl (false, 260), .inr (6, [some (some 4), some (some 5), none]), .inl (false, 10), .inl (false, 10), .inr (3, [some (some 7), some (some 8), some (some 9), none, none, none, none, none, none, none, none, none]), .inl (false, 100), .inl (false, 10), .inl (false, 40), .inr (3, [some (some 11), some (some 12), some (some 13), none, none, none, none, none, none, none, none, none]), .inl (false, 100), .inl (false, 10), .inl (false, 40), .inr (3, [some (some 15), some (some 16), some (some 17), none, none, none, none, none, none, none, none, none]), .inl (false, 100), .inl (false, 10), .inl (false, 40), .inr (4, [some (some 3), some (some 19), some (some 20), some (some 21), some (some 22), some (some 23), some (some 24), some (some 25), some (some 26), none, none]), .inl (false, 240), .inl (false, 240), .inl (false, 16), .inl (false, 16), .inl (false, 16), .inl (false, 16), .inl (false, 8), .inl (false, 64), .inr (4, [some (some 3), some (some 28), some (some 29), some (some 30), some (some 31), some (some 32), some (some 33), some (some 34), some (some 35), none, none]), .inl (false, 240), .inl (false, 240), .inl (false, 16), .inl (false, 16), .inl (false, 16), .inl (false, 16), .inl (false, 8), .inl (false, 64), .inr (5, [some (some 1), some (some 27)]), .inr (2, [some (some 1), some (some 3), some (some 38)]), .inl (false, 100), .inr (7, [some (some 1), some (some 40), none]), .inl (false, 60), .inr (1, [some (some 3), some (some 18), none, none, none, none]), .inr (8, [some (some 3), some (some 43), some (some 44), some (some 45), some (some 46), some (some 47), some (some 48), none]), .inl (false, 100), .inl (false, 100), .inl (false, 8), .inl (false, 10), .inl (false, 60), .inl (false, 12), .inr (0, [some (some 3), some (some 50), some (some 51), some (some 52), some (some 53), some (some 54), some (some 55), some (some 56), none]), .inl (false, 10), .inl (false, 10), .inl (false, 6), .inl (false, 6), .inl (false, 6), .inl (false, 12), .inl (false, 1024)]
def mi_B_49 (M : oM) : oM := (oZ (oZ (oZ (oZ (oZ (oZ (oZ M 50) 51) 52) 53) 54) 55) 56)
def WC45 : oW := [.inr (10, [some (some 1), some (some 3), some (some 6), some (some 10), some (some 14), some (some 18), some (some 27), some (some 36), some (some 37), some (some 39), some (some 41), some (some 42), some (some 49), none]), .inr (9, [some (some 2), none, none, none, none]), .inl (false, 260), .inr (6, [some (some 4), some (some 5), none]), .inl (false, 10), .inl (false, 10), .inr (3, [some (some 7), some (some 8), some (some 9), none, none, none, none, none, none, none, none, none]), .inl (false, 100), .inl (false, 10), .inl (false, 40), .inr (3, [some (some 11), some (some 12), some (some 13), none, none, none, none, none, none, none, none, none]), .inl (false, 100), .inl (false, 10), .inl (false, 40), .inr (3, [some (some 15), some (some 16), some (some 17), none, none, none, none, none, none, none, none, none]), .inl (false, 100), .inl (false, 10), .inl (false, 40), .inr (4, [some (some 3), some (some 19), some (some 20), some (some 21), some (some 22), some (some 23), some (some 24), some (some 25), some (some 26), none, none]), .inl (false, 240), .inl (false, 240), .inl (false, 16), .inl (false, 16), .inl (false, 16), .inl (false, 16), .inl (false, 8), .inl (false, 64), .inr (4, [some (some 3), some (some 28), some (some 29), some (some 30), some (some 31), some (some 32), some (some 33), some (some 34), some (some 35), none, none]), .inl (false, 240), .inl (false, 240), .inl (false, 16), .inl (false, 16), .inl (false, 16), .inl (false, 16), .inl (false, 8), .inl (false, 64), .inr (5, [some (some 1), some (some 27)]), .inr (2, [some (some 1), some (some 3), some (some 38)]), .inl (false, 100), .inr (7, [some (some 1), some (some 40), none]), .inl (false, 60), .inr (1, [some (some 3), some (some 18), none, none, none, none]), .inr (8, [some (some 3), some (some 43), some (some 44), some (some 45), some (some 46), some (some 47), some (some 48), none]), .inl (false, 100), .inl (false, 100), .inl (false, 8), .inl (false, 10), .inl (false, 60), .inl (false, 12), .inr (0, [some (some 3), some (some 50), some (some 51), some (some 52), some (some 53), some (some 54), some (some 55), some (some 56), none]), .inl (false, 10), .inl (false, 10), .inl (false, 6), .inl (false, 6), .inl (false, 6), .inl (false, 12), .inl (false, 1024)]
def mi_O_0 (M : oM) : oM := (mi_B_49 (oZ (mi_R_42 (oZ (mi_C_41 (oZ (mi_RR_39 (oZ (mi_DR_37 (oZ (mi_LR_36 (oZ (mi_L_27 (oZ (mi_L_18 (oZ (mi_D_14 (oZ (mi_D_10 (oZ (mi_D_6 (oZ (mi_P_3 (oZ (mi_T_1 (oZ M 1)) 3)) 6)) 10)) 14)) 18)) 27)) 36)) 37)) 39)) 41)) 42)) 49))
def WC46 : oW := [.inr (10, [some (some 1), some (some 3), some (some 6), some (some 10), some (some 14), some (some 18), some (some 27), some (some 36), some (some 37), some (some 39), some (some 41), some (some 42), some (some 49), none]), .inr (9, [some (some 2), none, none, none, none]), .inl (false, 260), .inr (6, [some (some 4), some (some 5), none]), .inl (false, 10), .inl (false, 10), .inr (3, [some (some 7), some (some 8), some (some 9), none, none, none, none, none, none, none, none, none]), .inl (false, 100), .inl (false, 10), .inl (false, 40), .inr (3, [some (some 11), some (some 12), some (some 13), none, none, none, none, none, none, none, none, none]), .inl (false, 100), .inl (false, 10), .inl (false, 40), .inr (3, [some (some 15), some (some 16), some (some 17), none, none, none, none, none, none, none, none, none]), .inl (false, 100), .inl (false, 10), .inl (false, 40), .inr (4, [some (some 3), some (some 19), some (some 20), some (some 21), some (some 22), some (some 23), some (some 24), some (some 25), some (some 26), none, none]), .inl (false, 240), .inl (false, 240), .inl (false, 16), .inl (false, 16), .inl (false, 16), .inl (false, 16), .inl (false, 8), .inl (false, 64), .inr (4, [some (some 3), some (some 28), some (some 29), some (some 30), some (some 31), some (some 32), some (some 33), some (some 34), some (some 35), none, none]), .inl (false, 240), .inl (false, 240), .inl (false, 16), .inl (false, 16), .inl (false, 16), .inl (false, 16), .inl (false, 8), .inl (false, 64), .inr (5, [some (some 1), some (some 27)]), .inr (2, [some (some 1), some (some 3), some (some 38)]), .inl (false, 100), .inr (7, [some (some 1), some (some 40), none]), .inl (false, 60), .inr (1, [some (some 3), some (some 18), none, none, none, none]), .inr (8, [some (some 3), some (some 43), some (some 44), some (some 45), some (some 46), some (some 47), some (some 48), none]), .inl (false, 100), .inl (false, 100), .inl (false, 8), .inl (false, 10), .inl (false, 60), .inl (false, 12), .inr (0, [some (some 3), some (some 50), some (some 51), some (some 52), some (some 53), some (some 54), some (some 55), some (some 56), none]), .inl (false, 10), .inl (false, 10), .inl (false, 6), .inl (false, 6), .inl (false, 6), .inl (false, 12), .inl (false, 1024), .inr (11, [some none, some none, some none, some none, some none, none, some none, none, none, none, none, none, none, none, none, none, none, some none, some none, some none, some none, some none, some none, some none, some none, some none, some none, some none, some none, some none, some none, none, none, none, none, none, some none, some none, some none, some none, none, none, none, none, none, none, some none, some none, some none, some none, none, some none, some none, some none, some none, some none, some none, some none, none, some none, some none, none])]
def WC47 : oW := [.inr (10, [some (some 1), some (some 3), some (some 6), some (some 10), some (some 14), some (some 18), some (some 27), some (some 36), some (some 37), some (some 39), some (some 41), some (some 42), some (some 49), none]), .inr (9, [some (some 2), none, none, none, none]), .inl (false, 260), .inr (6, [some (some 4), some (some 5), none]), .inl (false, 10), .inl (false, 10), .inr (3, [some (some 7), some (some 8), some (some 9), none, none, none, none, none, none, none, none, none]), .inl (false, 100), .inl (false, 10), .inl (false, 40), .inr (3, [some (some 11), some (some 12), some (some 13), none, none, none, none, none, none, none, none, none]), .inl (false, 100), .inl (false, 10), .inl (false, 40), .inr (3, [some (some 15), some (some 16), some (some 17), none, none, none, none, none, none, none, none, none]), .inl (false, 100), .inl (false, 10), .inl (false, 40), .inr (4, [some (some 3), some (some 19), some (some 20), some (some 21), some (some 22), some (some 23), some (some 24), some (some 25), some (some 26), none, none]), .inl (false, 240), .inl (false, 240), .inl (false, 16), .inl (false, 16), .inl (false, 16), .inl (false, 16), .inl (false, 8), .inl (false, 64), .inr (4, [some (some 3), some (some 28), some (some 29), some (some 30), some (some 31), some (some 32), some (some 33), some (some 34), some (some 35), none, none]), .inl (false, 240), .inl (false, 240), .inl (false, 16), .inl (false, 16), .inl (false, 16), .inl (false, 16), .inl (false, 8), .inl (false, 64), .inr (5, [some (some 1), some (some 27)]), .inr (2, [some (some 1), some (some 3), some (some 38)]), .inl (false, 100), .inr (7, [some (some 1), some (some 40), none]), .inl (false, 60), .inr (1, [some (some 3), some (some 18), none, none, none, none]), .inr (8, [some (some 3), some (some 43), some (some 44), some (some 45), some (some 46), some (some 47), some (some 48), none]), .inl (false, 100), .inl (false, 100), .inl (false, 8), .inl (false, 10), .inl (false, 60), .inl (false, 12), .inr (0, [some (some 3), some (some 50), some (some 51), some (some 52), some (some 53), some (some 54), some (some 55), some (some 56), none]), .inl (false, 10), .inl (false, 10), .inl (false, 6), .inl (false, 6), .inl (false, 6), .inl (false, 12), .inl (false, 1024), .inr (11, [some (some 58), some (some 59), some none, some none, some none, none, some none, none, none, none, none, none, none, none, none, none, none, some none, some none, some none, some none, some none, some none, some none, some none, some none, some none, some none, some none, some none, some none, none, none, none, none, none, some none, some none, some none, some none, none, none, none, none, none, none, some none, some none, some none, some none, none, some none, some none, some none, some none, some none, some none, some none, none, some none, some none, none]), .inl (false, 159), .inl (false, 159)]
def WC48 : oW := [.inr (10, [some (some 1), some (some 3), some (some 6), some (some 10), some (some 14), some (some 18), some (some 27), some (some 36), some (some 37), some (some 39), some (some 41), some (some 42), some (some 49), none]), .inr (9, [some (some 2), none, none, none, none]), .inl (false, 260), .inr (6, [some (some 4), some (some 5), none]), .inl (false, 10), .inl (false, 10), .inr (3, [some (some 7), some (some 8), some (some 9), none, none, none, none, none, none, none, none, none]), .inl (false, 100), .inl (false, 10), .inl (false, 40), .inr (3, [some (some 11), some (some 12), some (some 13), none, none, none, none, none, none, none, none, none]), .inl (false, 100), .inl (false, 10), .inl (false, 40), .inr (3, [some (some 15), some (some 16), some (some 17), none, none, none, none, none, none, none, none, none]), .inl (false, 100), .inl (false, 10), .inl (false, 40), .inr (4, [some (some 3), some (some 19), some (some 20), some (some 21), some (some 22), some (some 23), some (some 24), some (some 25), some (some 26), none, none]), .inl (false, 240), .inl (false, 240), .inl (false, 16), .inl (false, 16), .inl (false, 16), .inl (false, 16), .inl (false, 8), .inl (false, 64), .inr (4, [some (some 3), some (some 28), some (some 29), some (some 30), some (some 31), some (some 32), some (some 33), some (some 34), some (some 35), none, none]), .inl (false, 240), .inl (false, 240), .inl (false, 16), .inl (false, 16), .inl (false, 16), .inl (false, 16), .inl (false, 8), .inl (false, 64), .inr (5, [some (some 1), some (some 27)]), .inr (2, [some (some 1), some (some 3), some (some 38)]), .inl (false, 100), .inr (7, [some (some 1), some (some 40), none]), .inl (false, 60), .inr (1, [some (some 3), some (some 18), none, none, none, none]), .inr (8, [some (some 3), some (some 43), some (some 44), some (some 45), some (some 46), some (some 47), some (some 48), none]), .inl (false, 100), .inl (false, 100), .inl (false, 8), .inl (false, 10), .inl (false, 60), .inl (false, 12), .inr (0, [some (some 3), some (some 50), some (some 51), some (some 52), some (some 53), some (some 54), some (some 55), some (some 56), none]), .inl (false, 10), .inl (false, 10), .inl (false, 6), .inl (false, 6), .inl (false, 6), .inl (false, 12), .inl (false, 1024), .inr (11, [some (some 58), some (some 59), some (some 60), some (some 61), some none, none, some none, none, none, none, none, none, none, none, none, none, none, some none, some none, some none, some none, some none, some none, some none, some none, some none, some none, some none, some none, some none, some none, none, none, none, none, none, some none, some none, some none, some none, none, none, none, none, none, none, some none, some none, some none, some none, none, some none, some none, some none, some none, some none, some none, some none, none, some none, some none, none]), .inl (false, 159), .inl (false, 159), .inl (false, 159), .inl (false, 10)]
def WC49 : oW := [.inr (10, [some (some 1), some (some 3), some (some 6), some (some 10), some (some 14), some (some 18), some (some 27), some (some 36), some (some 37), some (some 39), some (some 41), some (some 42), some (some 49), none]), .inr (9, [some (some 2), none, none, none, none]), .inl (false, 260), .inr (6, [some (some 4), some (some 5), none]), .inl (false, 10), .inl (false, 10), .inr (3, [some (some 7), some (some 8), some (some 9), none, none, none, none, none, none, none, none, none]), .inl (false, 100), .inl (false, 10), .inl (false, 40), .inr (3, [some (some 11), some (some 12), some (some 13), none, none, none, none, none, none, none, none, none]), .inl (false, 100), .inl (false, 10), .inl (false, 40), .inr (3, [some (some 15), some (some 16), some (some 17), none, none, none, none, none, none, none, none, none]), .inl (false, 100), .inl (false, 10), .inl (false, 40), .inr (4, [some (some 3), some (some 19), some (some 20), some (some 21), some (some 22), some (some 23), some (some 24), some (some 25), some (some 26), none, none]), .inl (false, 240), .inl (false, 240), .inl (false, 16), .inl (false, 16), .inl (false, 16), .inl (false, 16), .inl (false, 8), .inl (false, 64), .inr (4, [some (some 3), some (some 28), some (some 29), some (some 30), some (some 31), some (some 32), some (some 33), some (some 34), some (some 35), none, none]), .inl (false, 240), .inl (false, 240), .inl (false, 16), .inl (false, 16), .inl (false, 16), .inl (false, 16), .inl (false, 8), .inl (false, 64), .inr (5, [some (some 1), some (some 27)]), .inr (2, [some (some 1), some (some 3), some (some 38)]), .inl (false, 100), .inr (7, [some (some 1), some (some 40), none]), .inl (false, 60), .inr (1, [some (some 3), some (some 18), none, none, none, none]), .inr (8, [some (some 3), some (some 43), some (some 44), some (some 45), some (some 46), some (some 47), some (some 48), none]), .inl (false, 100), .inl (false, 100), .inl (false, 8), .inl (false, 10), .inl (false, 60), .inl (false, 12), .inr (0, [some (some 3), some (some 50), some (some 51), some (some 52), some (some 53), some (some 54), some (some 55), some (some 56), none]), .inl (false, 10), .inl (false, 10), .inl (false, 6), .inl (false, 6), .inl (false, 6), .inl (false, 12), .inl (false, 1024), .inr (11, [some (some 58), some (some 59), some (some 60), some (some 61), some (some 62), none, some (some 63), none, none, none, none, none, none, none, none, none, none, some none, some none, some none, some none, some none, some none, some none, some none, some none, some none, some none, some none, some none, some none, none, none, none, none, none, some none, some none, some none, some none, none, none, none, none, none, none, some none, some none, some none, some none, none, some none, some none, some none, some none, some none, some none, some none, none, some none, some none, none]), .inl (false, 159), .inl (false, 159), .inl (false, 159), .inl (false, 10), .inl (false, 10), .inl (true, 260)]
def WC50 : oW := [.inr (10, [some (some 1), some (some 3), some (some 6), some (some 10), some (some 14), some (some 18), some (some 27), some (some 36), some (some 37), some (some 39), some (some 41), some (some 42), some (some 49), none]), .inr (9, [some (some 2), none, none, none, none]), .inl (false, 260), .inr (6, [some (some 4), some (some 5), none]), .inl (false, 10), .inl (false, 10), .inr (3, [some (some 7), some (some 8), some (some 9), none, none, none, none, none, none, none, none, none]), .inl (false, 100), .inl (false, 10), .inl (false, 40), .inr (3, [some (some 11), some (some 12), some (some 13), none, none, none, none, none, none, none, none, none]), .inl (false, 100), .inl (false, 10), .inl (false, 40), .inr (3, [some (some 15), some (some 16), some (some 17), none, none, none, none, none, none, none, none, none]), .inl (false, 100), .inl (false, 10), .inl (false, 40), .inr (4, [some (some 3), some (some 19), some (some 20), some (some 21), some (some 22), some (some 23), some (some 24), some (some 25), some (some 26), none, none]), .inl (false, 240), .inl (false, 240), .inl (false, 16), .inl (false, 16), .inl (false, 16), .inl (false, 16), .inl (false, 8), .inl (false, 64), .inr (4, [some (some 3), some (some 28), some (some 29), some (some 30), some (some 31), some (some 32), some (some 33), some (some 34), some (some 35), none, none]), .inl (false, 240), .inl (false, 240), .inl (false, 16), .inl (false, 16), .inl (false, 16), .inl (false, 16), .inl (false, 8), .inl (false, 64), .inr (5, [some (some 1), some (some 27)]), .inr (2, [some (some 1), some (some 3), some (some 38)]), .inl (false, 100), .inr (7, [some (some 1), some (some 40), none]), .inl (false, 60), .inr (1, [some (some 3), some (some 18), none, none, none, none]), .inr (8, [some (some 3), some (some 43), some (some 44), some (some 45), some (some 46), some (some 47), some (some 48), none]), .inl (false, 100), .inl (false, 100), .inl (false, 8), .inl (false, 10), .inl (false, 60), .inl (false, 12), .inr (0, [some (some 3), some (some 50), some (some 51), some (some 52), some (some 53), some (some 54), some (some 55), some (some 56), none]), .inl (false, 10), .inl (false, 10), .inl (false, 6), .inl (false, 6), .inl (false, 6), .inl (false, 12), .inl (false, 1024), .inr (11, [some (some 58), some (some 59), some (some 60), some (some 61), some (some 62), none, some (some 63), none, none, none, none, none, none, none, none, none, none, some (some 64), some (some 65), some none, some none, some none, some none, some none, some none, some none, some none, some none, some none, some none, some none, none, none, none, none, none, some none, some none, some none, some none, none, none, none, none, none, none, some none, some none, some none, some none, none, some none, some none, some none, some none, some none, some none, some none, none, some none, some none, none]), .inl (false, 159), .inl (false, 159), .inl (false, 159), .inl (false, 10), .inl (false, 10), .inl (true, 260), .inl (false, 260), .inl (false, 260)]
def WC51 : oW := [.inr (10, [some (some 1), some (some 3), some (some 6), some (some 10), some (some 14), some (some 18), some (some 27), some (some 36), some (some 37), some (some 39), some (some 41), some (some 42), some (some 49), none]), .inr (9, [some (some 2), none, none, none, none]), .inl (false, 260), .inr (6, [some (some 4), some (some 5), none]), .inl (false, 10), .inl (false, 10), .inr (3, [some (some 7), some (some 8), some (some 9), none, none, none, none, none, none, none, none, none]), .inl (false, 100), .inl (false, 10), .inl (false, 40), .inr (3, [some (some 11), some (some 12), some (some 13), none, none, none, none, none, none, none, none, none]), .inl (false, 100), .inl (false, 10), .inl (false, 40), .inr (3, [some (some 15), some (some 16), some (some 17), none, none, none, none, none, none, none, none, none]), .inl (false, 100), .inl (false, 10), .inl (false, 40), .inr (4, [some (some 3), some (some 19), some (some 20), some (some 21), some (some 22), some (some 23), some (some 24), some (some 25), some (some 26), none, none]), .inl (false, 240), .inl (false, 240), .inl (false, 16), .inl (false, 16), .inl (false, 16), .inl (false, 16), .inl (false, 8), .inl (false, 64), .inr (4, [some (some 3), some (some 28), some (some 29), some (some 30), some (some 31), some (some 32), some (some 33), some (some 34), some (some 35), none, none]), .inl (false, 240), .inl (false, 240), .inl (false, 16), .inl (false, 16), .inl (false, 16), .inl (false, 16), .inl (false, 8), .inl (false, 64), .inr (5, [some (some 1), some (some 27)]), .inr (2, [some (some 1), some (some 3), some (some 38)]), .inl (false, 100), .inr (7, [some (some 1), some (some 40), none]), .inl (false, 60), .inr (1, [some (some 3), some (some 18), none, none, none, none]), .inr (8, [some (some 3), some (some 43), some (some 44), some (some 45), some (some 46), some (some 47), some (some 48), none]), .inl (false, 100), .inl (false, 100), .inl (false, 8), .inl (false, 10), .inl (false, 60), .inl (false, 12), .inr (0, [some (some 3), some (some 50), some (some 51), some (some 52), some (some 53), some (some 54), some (some 55), some (some 56), none]), .inl (false, 10), .inl (false, 10), .inl (false, 6), .inl (false, 6), .inl (false, 6), .inl (false, 12), .inl (false, 1024), .inr (11, [some (some 58), some (some 59), some (some 60), some (some 61), some (some 62), none, some (some 63), none, none, none, none, none, none, none, none, none, none, some (some 64), some (some 65), some (some 66), some (some 67), some none, some none, some none, some none, some none, some none, some none, some none, some none, some none, none, none, none, none, none, some none, some none, some none, some none, none, none, none, none, none, none, some none, some none, some none, some none, none, some none, some none, some none, some none, some none, some none, some none, none, some none, some none, none]), .inl (false, 159), .inl (false, 159), .inl (false, 159), .inl (false, 10), .inl (false, 10), .inl (true, 260), .inl (false, 260), .inl (false, 260), .inl (false, 16), .inl (false, 16)]
def WC52 : oW := [.inr (10, [some (some 1), some (some 3), some (some 6), some (some 10), some (some 14), some (some 18), some (some 27), some (some 36), some (some 37), some (some 39), some (some 41), some (some 42), some (some 49), none]), .inr (9, [some (some 2), none, none, none, none]), .inl (false, 260), .inr (6, [some (some 4), some (some 5), none]), .inl (false, 10), .inl (false, 10), .inr (3, [some (some 7), some (some 8), some (some 9), none, none, none, none, none, none, none, none, none]), .inl (false, 100), .inl (false, 10), .inl (false, 40), .inr (3, [some (some 11), some (some 12), some (some 13), none, none, none, none, none, none, none, none, none]), .inl (false, 100), .inl (false, 10), .inl (false, 40), .inr (3, [some (some 15), some (some 16), some (some 17), none, none, none, none, none, none, none, none, none]), .inl (false, 100), .inl (false, 10), .inl (false, 40), .inr (4, [some (some 3), some (some 19), some (some 20), some (some 21), some (some 22), some (some 23), some (some 24), some (some 25), some (some 26), none, none]), .inl (false, 240), .inl (false, 240), .inl (false, 16), .inl (false, 16), .inl (false, 16), .inl (false, 16), .inl (false, 8), .inl (false, 64), .inr (4, [some (some 3), some (some 28), some (some 29), some (some 30), some (some 31), some (some 32), some (some 33), some (some 34), some (some 35), none, none]), .inl (false, 240), .inl (false, 240), .inl (false, 16), .inl (false, 16), .inl (false, 16), .inl (false, 16), .inl (false, 8), .inl (false, 64), .inr (5, [some (some 1), some (some 27)]), .inr (2, [some (some 1), some (some 3), some (some 38)]), .inl (false, 100), .inr (7, [some (some 1), some (some 40), none]), .inl (false, 60), .inr (1, [some (some 3), some (some 18), none, none, none, none]), .inr (8, [some (some 3), some (some 43), some (some 44), some (some 45), some (some 46), some (some 47), some (some 48), none]), .inl (false, 100), .inl (false, 100), .inl (false, 8), .inl (false, 10), .inl (false, 60), .inl (false, 12), .inr (0, [some (some 3), some (some 50), some (some 51), some (some 52), some (some 53), some (some 54), some (some 55), some (some 56), none]), .inl (false, 10), .inl (false, 10), .inl (false, 6), .inl (false, 6), .inl (false, 6), .inl (false, 12), .inl (false, 1024), .inr (11, [some (some 58), some (some 59), some (some 60), some (some 61), some (some 62), none, some (some 63), none, none, none, none, none, none, none, none, none, none, some (some 64), some (some 65), some (some 66), some (some 67), some (some 68), some (some 69), some none, some none, some none, some none, some none, some none, some none, some none, none, none, none, none, none, some none, some none, some none, some none, none, none, none, none, none, none, some none, some none, some none, some none, none, some none, some none, some none, some none, some none, some none, some none, none, some none, some none, none]), .inl (false, 159), .inl (false, 159), .inl (false, 159), .inl (false, 10), .inl (false, 10), .inl (true, 260), .inl (false, 260), .inl (false, 260), .inl (false, 16), .inl (false, 16), .inl (false, 16), .inl (false, 16)]
def WC53 : oW := [.inr (10, [some (some 1), some (some 3), some (some 6), some (some 10), some (some 14), some (some 18), some (some 27), some (some 36), some (some 37), some (some 39), some (some 41), some (some 42), some (some 49), none]), .inr (9, [some (some 2), none, none, none, none]), .inl (false, 260), .inr (6, [some (some 4), some (some 5), none]), .inl (false, 10), .inl (false, 10), .inr (3, [some (some 7), some (some 8), some (some 9), none, none, none, none, none, none, none, none, none]), .inl (false, 100), .inl (false, 10), .inl (false, 40), .inr (3, [some (some 11), some (some 12), some (some 13), none, none, none, none, none, none, none, none, none]), .inl (false, 100), .inl (false, 10), .inl (false, 40), .inr (3, [some (some 15), some (some 16), some (some 17), none, none, none, none, none, none, none, none, none]), .inl (false, 100), .inl (false, 10), .inl (false, 40), .inr (4, [some (some 3), some (some 19), some (some 20), some (some 21), some (some 22), some (some 23), some (some 24), some (some 25), some (some 26), none, none]), .inl (false, 240), .inl (false, 240), .inl (false, 16), .inl (false, 16), .inl (false, 16), .inl (false, 16), .inl (false, 8), .inl (false, 64), .inr (4, [some (some 3), some (some 28), some (some 29), some (some 30), some (some 31), some (some 32), some (some 33), some (some 34), some (some 35), none, none]), .inl (false, 240), .inl (false, 240), .inl (false, 16), .inl (false, 16), .inl (false, 16), .inl (false, 16), .inl (false, 8), .inl (false, 64), .inr (5, [some (some 1), some (some 27)]), .inr (2, [some (some 1), some (some 3), some (some 38)]), .inl (false, 100), .inr (7, [some (some 1), some (some 40), none]), .inl (false, 60), .inr (1, [some (some 3), some (some 18), none, none, none, none]), .inr (8, [some (some 3), some (some 43), some (some 44), some (some 45), some (some 46), some (some 47), some (some 48), none]), .inl (false, 100), .inl (false, 100), .inl (false, 8), .inl (false, 10), .inl (false, 60), .inl (false, 12), .inr (0, [some (some 3), some (some 50), some (some 51), some (some 52), some (some 53), some (some 54), some (some 55), some (some 56), none]), .inl (false, 10), .inl (false, 10), .inl (false, 6), .inl (false, 6), .inl (false, 6), .inl (false, 12), .inl (false, 1024), .inr (11, [some (some 58), some (some 59), some (some 60), some (some 61), some (some 62), none, some (some 63), none, none, none, none, none, none, none, none, none, none, some (some 64), some (some 65), some (some 66), some (some 67), some (some 68), some (some 69), some (some 70), some (some 71), some none, some none, some none, some none, some none, some none, none, none, none, none, none, some none, some none, some none, some none, none, none, none, none, none, none, some none, some none, some none, some none, none, some none, some none, some none, some none, some none, some none, some none, none, some none, some none, none]), .inl (false, 159), .inl (false, 159), .inl (false, 159), .inl (false, 10), .inl (false, 10), .inl (true, 260), .inl (false, 260), .inl (false, 260), .inl (false, 16), .inl (false, 16), .inl (false, 16), .inl (false, 16), .inl (false, 260), .inl (false, 16)]
def WC54 : oW := [.inr (10, [some (some 1), some (some 3), some (some 6), some (some 10), some (some 14), some (some 18), some (some 27), some (some 36), some (some 37), some (some 39), some (some 41), some (some 42), some (some 49), none]), .inr (9, [some (some 2), none, none, none, none]), .inl (false, 260), .inr (6, [some (some 4), some (some 5), none]), .inl (false, 10), .inl (false, 10), .inr (3, [some (some 7), some (some 8), some (some 9), none, none, none, none, none, none, none, none, none]), .inl (false, 100), .inl (false, 10), .inl (false, 40), .inr (3, [some (some 11), some (some 12), some (some 13), none, none, none, none, none, none, none, none, none]), .inl (false, 100), .inl (false, 10), .inl (false, 40), .inr (3, [some (some 15), some (some 16), some (some 17), none, none, none, none, none, none, none, none, none]), .inl (false, 100), .inl (false, 10), .inl (false, 40), .inr (4, [some (some 3), some (some 19), some (some 20), some (some 21), some (some 22), some (some 23), some (some 24), some (some 25), some (some 26), none, none]), .inl (false, 240), .inl (false, 240), .inl (false, 16), .inl (false, 16), .inl (false, 16), .inl (false, 16), .inl (false, 8), .inl (false, 64), .inr (4, [some (some 3), some (some 28), some (some 29), some (some 30), some (some 31), some (some 32), some (some 33), some (some 34), some (some 35), none, none]), .inl (false, 240), .inl (false, 240), .inl (false, 16), .inl (false, 16), .inl (false, 16), .inl (false, 16), .inl (false, 8), .inl (false, 64), .inr (5, [some (some 1), some (some 27)]), .inr (2, [some (some 1), some (some 3), some (some 38)]), .inl (false, 100), .inr (7, [some (some 1), some (some 40), none]), .inl (false, 60), .inr (1, [some (some 3), some (some 18), none, none, none, none]), .inr (8, [some (some 3), some (some 43), some (some 44), some (some 45), some (some 46), some (some 47), some (some 48), none]), .inl (false, 100), .inl (false, 100), .inl (false, 8), .inl (false, 10), .inl (false, 60), .inl (false, 12), .inr (0, [some (some 3), some (some 50), some (some 51), some (some 52), some (some 53), some (some 54), some (some 55), some (some 56), none]), .inl (false, 10), .inl (false, 10), .inl (false, 6), .inl (false, 6), .inl (false, 6), .inl (false, 12), .inl (false, 1024), .inr (11, [some (some 58), some (some 59), some (some 60), some (some 61), some (some 62), none, some (some 63), none, none, none, none, none, none, none, none, none, none, some (some 64), some (some 65), some (some 66), some (some 67), some (some 68), some (some 69), some (some 70), some (some 71), some (some 72), some (some 73), some none, some none, some none, some none, none, none, none, none, none, some none, some none, some none, some none, none, none, none, none, none, none, some none, some none, some none, some none, none, some none, some none, some none, some none, some none, some none, some none, none, some none, some none, none]), .inl (false, 159), .inl (false, 159), .inl (false, 159), .inl (false, 10), .inl (false, 10), .inl (true, 260), .inl (false, 260), .inl (false, 260), .inl (false, 16), .inl (false, 16), .inl (false, 16), .inl (false, 16), .inl (false, 260), .inl (false, 16), .inl (false, 16), .inl (false, 16)]
def WC55 : oW := [.inr (10, [some (some 1), some (some 3), some (some 6), some (some 10), some (some 14), some (some 18), some (some 27), some (some 36), some (some 37), some (some 39), some (some 41), some (some 42), some (some 49), none]), .inr (9, [some (some 2), none, none, none, none]), .inl (false, 260), .inr (6, [some (some 4), some (some 5), none]), .inl (false, 10), .inl (false, 10), .inr (3, [some (some 7), some (some 8), some (some 9), none, none, none, none, none, none, none, none, none]), .inl (false, 100), .inl (false, 10), .inl (false, 40), .inr (3, [some (some 11), some (some 12), some (some 13), none, none, none, none, none, none, none, none, none]), .inl (false, 100), .inl (false, 10), .inl (false, 40), .inr (3, [some (some 15), some (some 16), some (some 17), none, none, none, none, none, none, none, none, none]), .inl (false, 100), .inl (false, 10), .inl (false, 40), .inr (4, [some (some 3), some (some 19), some (some 20), some (some 21), some (some 22), some (some 23), some (some 24), some (some 25), some (some 26), none, none]), .inl (false, 240), .inl (false, 240), .inl (false, 16), .inl (false, 16), .inl (false, 16), .inl (false, 16), .inl (false, 8), .inl (false, 64), .inr (4, [some (some 3), some (some 28), some (some 29), some (some 30), some (some 31), some (some 32), some (some 33), some (some 34), some (some 35), none, none]), .inl (false, 240), .inl (false, 240), .inl (false, 16), .inl (false, 16), .inl (false, 16), .inl (false, 16), .inl (false, 8), .inl (false, 64), .inr (5, [some (some 1), some (some 27)]), .inr (2, [some (some 1), some (some 3), some (some 38)]), .inl (false, 100), .inr (7, [some (some 1), some (some 40), none]), .inl (false, 60), .inr (1, [some (some 3), some (some 18), none, none, none, none]), .inr (8, [some (some 3), some (some 43), some (some 44), some (some 45), some (some 46), some (some 47), some (some 48), none]), .inl (false, 100), .inl (false, 100), .inl (false, 8), .inl (false, 10), .inl (false, 60), .inl (false, 12), .inr (0, [some (some 3), some (some 50), some (some 51), some (some 52), some (some 53), some (some 54), some (some 55), some (some 56), none]), .inl (false, 10), .inl (false, 10), .inl (false, 6), .inl (false, 6), .inl (false, 6), .inl (false, 12), .inl (false, 1024), .inr (11, [some (some 58), some (some 59), some (some 60), some (some 61), some (some 62), none, some (some 63), none, none, none, none, none, none, none, none, none, none, some (some 64), some (some 65), some (some 66), some (some 67), some (some 68), some (some 69), some (some 70), some (some 71), some (some 72), some (some 73), some (some 74), some (some 75), some none, some none, none, none, none, none, none, some none, some none, some none, some none, none, none, none, none, none, none, some none, some none, some none, some none, none, some none, some none, some none, some none, some none, some none, some none, none, some none, some none, none]), .inl (false, 159), .inl (false, 159), .inl (false, 159), .inl (false, 10), .inl (false, 10), .inl (true, 260), .inl (false, 260), .inl (false, 260), .inl (false, 16), .inl (false, 16), .inl (false, 16), .inl (false, 16), .inl (false, 260), .inl (false, 16), .inl (false, 16), .inl (false, 16), .inl (false, 16), .inl (false, 260)]
def WC56 : oW := [.inr (10, [some (some 1), some (some 3), some (some 6), some (some 10), some (some 14), some (some 18), some (some 27), some (some 36), some (some 37), some (some 39), some (some 41), some (some 42), some (some 49), none]), .inr (9, [some (some 2), none, none, none, none]), .inl (false, 260), .inr (6, [some (some 4), some (some 5), none]), .inl (false, 10), .inl (false, 10), .inr (3, [some (some 7), some (some 8), some (some 9), none, none, none, none, none, none, none, none, none]), .inl (false, 100), .inl (false, 10), .inl (false, 40), .inr (3, [some (some 11), some (some 12), some (some 13), none, none, none, none, none, none, none, none, none]), .inl (false, 100), .inl (false, 10), .inl (false, 40), .inr (3, [some (some 15), some (some 16), some (some 17), none, none, none, none, none, none, none, none, none]), .inl (false, 100), .inl (false, 10), .inl (false, 40), .inr (4, [some (some 3), some (some 19), some (some 20), some (some 21), some (some 22), some (some 23), some (some 24), some (some 25), some (some 26), none, none]), .inl (false, 240), .inl (false, 240), .inl (false, 16), .inl (false, 16), .inl (false, 16), .inl (false, 16), .inl (false, 8), .inl (false, 64), .inr (4, [some (some 3), some (some 28), some (some 29), some (some 30), some (some 31), some (some 32), some (some 33), some (some 34), some (some 35), none, none]), .inl (false, 240), .inl (false, 240), .inl (false, 16), .inl (false, 16), .inl (false, 16), .inl (false, 16), .inl (false, 8), .inl (false, 64), .inr (5, [some (some 1), some (some 27)]), .inr (2, [some (some 1), some (some 3), some (some 38)]), .inl (false, 100), .inr (7, [some (some 1), some (some 40), none]), .inl (false, 60), .inr (1, [some (some 3), some (some 18), none, none, none, none]), .inr (8, [some (some 3), some (some 43), some (some 44), some (some 45), some (some 46), some (some 47), some (some 48), none]), .inl (false, 100), .inl (false, 100), .inl (false, 8), .inl (false, 10), .inl (false, 60), .inl (false, 12), .inr (0, [some (some 3), some (some 50), some (some 51), some (some 52), some (some 53), some (some 54), some (some 55), some (some 56), none]), .inl (false, 10), .inl (false, 10), .inl (false, 6), .inl (false, 6), .inl (false, 6), .inl (false, 12), .inl (false, 1024), .inr (11, [some (some 58), some (some 59), some (some 60), some (some 61), some (some 62), none, some (some 63), none, none, none, none, none, none, none, none, none, none, some (some 64), some (some 65), some (some 66), some (some 67), some (some 68), some (some 69), some (some 70), some (some 71), some (some 72), some (some 73), some (some 74), some (some 75), some (some 76), some (some 77), none, none, none, none, none, some none, some none, some none, some none, none, none, none, none, none, none, some none, some none, some none, some none, none, some none, some none, some none, some none, some none, some none, some none, none, some none, some none, none]), .inl (false, 159), .inl (false, 159), .inl (false, 159), .inl (false, 10), .inl (false, 10), .inl (true, 260), .inl (false, 260), .inl (false, 260), .inl (false, 16), .inl (false, 16), .inl (false, 16), .inl (false, 16), .inl (false, 260), .inl (false, 16), .inl (false, 16), .inl (false, 16), .inl (false, 16), .inl (false, 260), .inl (false, 8), .inl (false, 100)]
def WC57 : oW := [.inr (10, [some (some 1), some (some 3), some (some 6), some (some 10), some (some 14), some (some 18), some (some 27), some (some 36), some (some 37), some (some 39), some (some 41), some (some 42), some (some 49), none]), .inr (9, [some (some 2), none, none, none, none]), .inl (false, 260), .inr (6, [some (some 4), some (some 5), none]), .inl (false, 10), .inl (false, 10), .inr (3, [some (some 7), some (some 8), some (some 9), none, none, none, none, none, none, none, none, none]), .inl (false, 100), .inl (false, 10), .inl (false, 40), .inr (3, [some (some 11), some (some 12), some (some 13), none, none, none, none, none, none, none, none, none]), .inl (false, 100), .inl (false, 10), .inl (false, 40), .inr (3, [some (some 15), some (some 16), some (some 17), none, none, none, none, none, none, none, none, none]), .inl (false, 100), .inl (false, 10), .inl (false, 40), .inr (4, [some (some 3), some (some 19), some (some 20), some (some 21), some (some 22), some (some 23), some (some 24), some (some 25), some (some 26), none, none]), .inl (false, 240), .inl (false, 240), .inl (false, 16), .inl (false, 16), .inl (false, 16), .inl (false, 16), .inl (false, 8), .inl (false, 64), .inr (4, [some (some 3), some (some 28), some (some 29), some (some 30), some (some 31), some (some 32), some (some 33), some (some 34), some (some 35), none, none]), .inl (false, 240), .inl (false, 240), .inl (false, 16), .inl (false, 16), .inl (false, 16), .inl (false, 16), .inl (false, 8), .inl (false, 64), .inr (5, [some (some 1), some (some 27)]), .inr (2, [some (some 1), some (some 3), some (some 38)]), .inl (false, 100), .inr (7, [some (some 1), some (some 40), none]), .inl (false, 60), .inr (1, [some (some 3), some (some 18), none, none, none, none]), .inr (8, [some (some 3), some (some 43), some (some 44), some (some 45), some (some 46), some (some 47), some (some 48), none]), .inl (false, 100), .inl (false, 100), .inl (false, 8), .inl (false, 10), .inl (false, 60), .inl (false, 12), .inr (0, [some (some 3), some (some 50), some (some 51), some (some 52), some (some 53), some (some 54), some (some 55), some (some 56), none]), .inl (false, 10), .inl (false, 10), .inl (false, 6), .inl (false, 6), .inl (false, 6), .inl (false, 12), .inl (false, 1024), .inr (11, [some (some 58), some (some 59), some (some 60), some (some 61), some (some 62), none, some (some 63), none, none, none, none, none, none, none, none, none, none, some (some 64), some (some 65), some (some 66), some (some 67), some (some 68), some (some 69), some (some 70), some (some 71), some (some 72), some (some 73), some (some 74), some (some 75), some (some 76), some (some 77), none, none, none, none, none, some (some 78), some (some 79), some none, some none, none, none, none, none, none, none, some none, some none, some none, some none, none, some none, some none, some none, some none, some none, some none, some none, none, some none, some none, none]), .inl (false, 159), .inl (false, 159), .inl (false, 159), .inl (false, 10), .inl (false, 10), .inl (true, 260), .inl (false, 260), .inl (false, 260), .inl (false, 16), .inl (false, 16), .inl (false, 16), .inl (false, 16), .inl (false, 260), .inl (false, 16), .inl (false, 16), .inl (false, 16), .inl (false, 16), .inl (false, 260), .inl (false, 8), .inl (false, 100), .inl (false, 60), .inl (false, 2)]
def WC58 : oW := [.inr (10, [some (some 1), some (some 3), some (some 6), some (some 10), some (some 14), some (some 18), some (some 27), some (some 36), some (some 37), some (some 39), some (some 41), some (some 42), some (some 49), none]), .inr (9, [some (some 2), none, none, none, none]), .inl (false, 260), .inr (6, [some (some 4), some (some 5), none]), .inl (false, 10), .inl (false, 10), .inr (3, [some (some 7), some (some 8), some (some 9), none, none, none, none, none, none, none, none, none]), .inl (false, 100), .inl (false, 10), .inl (false, 40), .inr (3, [some (some 11), some (some 12), some (some 13), none, none, none, none, none, none, none, none, none]), .inl (false, 100), .inl (false, 10), .inl (false, 40), .inr (3, [some (some 15), some (some 16), some (some 17), none, none, none, none, none, none, none, none, none]), .inl (false, 100), .inl (false, 10), .inl (false, 40), .inr (4, [some (some 3), some (some 19), some (some 20), some (some 21), some (some 22), some (some 23), some (some 24), some (some 25), some (some 26), none, none]), .inl (false, 240), .inl (false, 240), .inl (false, 16), .inl (false, 16), .inl (false, 16), .inl (false, 16), .inl (false, 8), .inl (false, 64), .inr (4, [some (some 3), some (some 28), some (some 29), some (some 30), some (some 31), some (some 32), some (some 33), some (some 34), some (some 35), none, none]), .inl (false, 240), .inl (false, 240), .inl (false, 16), .inl (false, 16), .inl (false, 16), .inl (false, 16), .inl (false, 8), .inl (false, 64), .inr (5, [some (some 1), some (some 27)]), .inr (2, [some (some 1), some (some 3), some (some 38)]), .inl (false, 100), .inr (7, [some (some 1), some (some 40), none]), .inl (false, 60), .inr (1, [some (some 3), some (some 18), none, none, none, none]), .inr (8, [some (some 3), some (some 43), some (some 44), some (some 45), some (some 46), some (some 47), some (some 48), none]), .inl (false, 100), .inl (false, 100), .inl (false, 8), .inl (false, 10), .inl (false, 60), .inl (false, 12), .inr (0, [some (some 3), some (some 50), some (some 51), some (some 52), some (some 53), some (some 54), some (some 55), some (some 56), none]), .inl (false, 10), .inl (false, 10), .inl (false, 6), .inl (false, 6), .inl (false, 6), .inl (false, 12), .inl (false, 1024), .inr (11, [some (some 58), some (some 59), some (some 60), some (some 61), some (some 62), none, some (some 63), none, none, none, none, none, none, none, none, none, none, some (some 64), some (some 65), some (some 66), some (some 67), some (some 68), some (some 69), some (some 70), some (some 71), some (some 72), some (some 73), some (some 74), some (some 75), some (some 76), some (some 77), none, none, none, none, none, some (some 78), some (some 79), some (some 80), some (some 81), none, none, none, none, none, none, some none, some none, some none, some none, none, some none, some none, some none, some none, some none, some none, some none, none, some none, some none, none]), .inl (false, 159), .inl (false, 159), .inl (false, 159), .inl (false, 10), .inl (false, 10), .inl (true, 260), .inl (false, 260), .inl (false, 260), .inl (false, 16), .inl (false, 16), .inl (false, 16), .inl (false, 16), .inl (false, 260), .inl (false, 16), .inl (false, 16), .inl (false, 16), .inl (false, 16), .inl (false, 260), .inl (false, 8), .inl (false, 100), .inl (false, 60), .inl (false, 2), .inl (false, 2), .inl (false, 2)]
def WC59 : oW := [.inr (10, [some (some 1), some (some 3), some (some 6), some (some 10), some (some 14), some (some 18), some (some 27), some (some 36), some (some 37), some (some 39), some (some 41), some (some 42), some (some 49), none]), .inr (9, [some (some 2), none, none, none, none]), .inl (false, 260), .inr (6, [some (some 4), some (some 5), none]), .inl (false, 10), .inl (false, 10), .inr (3, [some (some 7), some (some 8), some (some 9), none, none, none, none, none, none, none, none, none]), .inl (false, 100), .inl (false, 10), .inl (false, 40), .inr (3, [some (some 11), some (some 12), some (some 13), none, none, none, none, none, none, none, none, none]), .inl (false, 100), .inl (false, 10), .inl (false, 40), .inr (3, [some (some 15), some (some 16), some (some 17), none, none, none, none, none, none, none, none, none]), .inl (false, 100), .inl (false, 10), .inl (false, 40), .inr (4, [some (some 3), some (some 19), some (some 20), some (some 21), some (some 22), some (some 23), some (some 24), some (some 25), some (some 26), none, none]), .inl (false, 240), .inl (false, 240), .inl (false, 16), .inl (false, 16), .inl (false, 16), .inl (false, 16), .inl (false, 8), .inl (false, 64), .inr (4, [some (some 3), some (some 28), some (some 29), some (some 30), some (some 31), some (some 32), some (some 33), some (some 34), some (some 35), none, none]), .inl (false, 240), .inl (false, 240), .inl (false, 16), .inl (false, 16), .inl (false, 16), .inl (false, 16), .inl (false, 8), .inl (false, 64), .inr (5, [some (some 1), some (some 27)]), .inr (2, [some (some 1), some (some 3), some (some 38)]), .inl (false, 100), .inr (7, [some (some 1), some (some 40), none]), .inl (false, 60), .inr (1, [some (some 3), some (some 18), none, none, none, none]), .inr (8, [some (some 3), some (some 43), some (some 44), some (some 45), some (some 46), some (some 47), some (some 48), none]), .inl (false, 100), .inl (false, 100), .inl (false, 8), .inl (false, 10), .inl (false, 60), .inl (false, 12), .inr (0, [some (some 3), some (some 50), some (some 51), some (some 52), some (some 53), some (some 54), some (some 55), some (some 56), none]), .inl (false, 10), .inl (false, 10), .inl (false, 6), .inl (false, 6), .inl (false, 6), .inl (false, 12), .inl (false, 1024), .inr (11, [some (some 58), some (some 59), some (some 60), some (some 61), some (some 62), none, some (some 63), none, none, none, none, none, none, none, none, none, none, some (some 64), some (some 65), some (some 66), some (some 67), some (some 68), some (some 69), some (some 70), some (some 71), some (some 72), some (some 73), some (some 74), some (some 75), some (some 76), some (some 77), none, none, none, none, none, some (some 78), some (some 79), some (some 80), some (some 81), none, none, none, none, none, none, some (some 82), some (some 83), some none, some none, none, some none, some none, some none, some none, some none, some none, some none, none, some none, some none, none]), .inl (false, 159), .inl (false, 159), .inl (false, 159), .inl (false, 10), .inl (false, 10), .inl (true, 260), .inl (false, 260), .inl (false, 260), .inl (false, 16), .inl (false, 16), .inl (false, 16), .inl (false, 16), .inl (false, 260), .inl (false, 16), .inl (false, 16), .inl (false, 16), .inl (false, 16), .inl (false, 260), .inl (false, 8), .inl (false, 100), .inl (false, 60), .inl (false, 2), .inl (false, 2), .inl (false, 2), .inl (false, 100), .inl (false, 60)]
def WC60 : oW := [.inr (10, [some (some 1), some (some 3), some (some 6), some (some 10), some (some 14), some (some 18), some (some 27), some (some 36), some (some 37), some (some 39), some (some 41), some (some 42), some (some 49), none]), .inr (9, [some (some 2), none, none, none, none]), .inl (false, 260), .inr (6, [some (some 4), some (some 5), none]), .inl (false, 10), .inl (false, 10), .inr (3, [some (some 7), some (some 8), some (some 9), none, none, none, none, none, none, none, none, none]), .inl (false, 100), .inl (false, 10), .inl (false, 40), .inr (3, [some (some 11), some (some 12), some (some 13), none, none, none, none, none, none, none, none, none]), .inl (false, 100), .inl (false, 10), .inl (false, 40), .inr (3, [some (some 15), some (some 16), some (some 17), none, none, none, none, none, none, none, none, none]), .inl (false, 100), .inl (false, 10), .inl (false, 40), .inr (4, [some (some 3), some (some 19), some (some 20), some (some 21), some (some 22), some (some 23), some (some 24), some (some 25), some (some 26), none, none]), .inl (false, 240), .inl (false, 240), .inl (false, 16), .inl (false, 16), .inl (false, 16), .inl (false, 16), .inl (false, 8), .inl (false, 64), .inr (4, [some (some 3), some (some 28), some (some 29), some (some 30), some (some 31), some (some 32), some (some 33), some (some 34), some (some 35), none, none]), .inl (false, 240), .inl (false, 240), .inl (false, 16), .inl (false, 16), .inl (false, 16), .inl (false, 16), .inl (false, 8), .inl (false, 64), .inr (5, [some (some 1), some (some 27)]), .inr (2, [some (some 1), some (some 3), some (some 38)]), .inl (false, 100), .inr (7, [some (some 1), some (some 40), none]), .inl (false, 60), .inr (1, [some (some 3), some (some 18), none, none, none, none]), .inr (8, [some (some 3), some (some 43), some (some 44), some (some 45), some (some 46), some (some 47), some (some 48), none]), .inl (false, 100), .inl (false, 100), .inl (false, 8), .inl (false, 10), .inl (false, 60), .inl (false, 12), .inr (0, [some (some 3), some (some 50), some (some 51), some (some 52), some (some 53), some (some 54), some (some 55), some (some 56), none]), .inl (false, 10), .inl (false, 10), .inl (false, 6), .inl (false, 6), .inl (false, 6), .inl (false, 12), .inl (false, 1024), .inr (11, [some (some 58), some (some 59), some (some 60), some (some 61), some (some 62), none, some (some 63), none, none, none, none, none, none, none, none, none, none, some (some 64), some (some 65), some (some 66), some (some 67), some (some 68), some (some 69), some (some 70), some (some 71), some (some 72), some (some 73), some (some 74), some (some 75), some (some 76), some (some 77), none, none, none, none, none, some (some 78), some (some 79), some (some 80), some (some 81), none, none, none, none, none, none, some (some 82), some (some 83), some (some 84), some (some 85), none, some none, some none, some none, some none, some none, some none, some none, none, some none, some none, none]), .inl (false, 159), .inl (false, 159), .inl (false, 159), .inl (false, 10), .inl (false, 10), .inl (true, 260), .inl (false, 260), .inl (false, 260), .inl (false, 16), .inl (false, 16), .inl (false, 16), .inl (false, 16), .inl (false, 260), .inl (false, 16), .inl (false, 16), .inl (false, 16), .inl (false, 16), .inl (false, 260), .inl (false, 8), .inl (false, 100), .inl (false, 60), .inl (false, 2), .inl (false, 2), .inl (false, 2), .inl (false, 100), .inl (false, 60), .inl (false, 12), .inl (false, 12)]
def WC61 : oW := [.inr (10, [some (some 1), some (some 3), some (some 6), some (some 10), some (some 14), some (some 18), some (some 27), some (some 36), some (some 37), some (some 39), some (some 41), some (some 42), some (some 49), none]), .inr (9, [some (some 2), none, none, none, none]), .inl (false, 260), .inr (6, [some (some 4), some (some 5), none]), .inl (false, 10), .inl (false, 10), .inr (3, [some (some 7), some (some 8), some (some 9), none, none, none, none, none, none, none, none, none]), .inl (false, 100), .inl (false, 10), .inl (false, 40), .inr (3, [some (some 11), some (some 12), some (some 13), none, none, none, none, none, none, none, none, none]), .inl (false, 100), .inl (false, 10), .inl (false, 40), .inr (3, [some (some 15), some (some 16), some (some 17), none, none, none, none, none, none, none, none, none]), .inl (false, 100), .inl (false, 10), .inl (false, 40), .inr (4, [some (some 3), some (some 19), some (some 20), some (some 21), some (some 22), some (some 23), some (some 24), some (some 25), some (some 26), none, none]), .inl (false, 240), .inl (false, 240), .inl (false, 16), .inl (false, 16), .inl (false, 16), .inl (false, 16), .inl (false, 8), .inl (false, 64), .inr (4, [some (some 3), some (some 28), some (some 29), some (some 30), some (some 31), some (some 32), some (some 33), some (some 34), some (some 35), none, none]), .inl (false, 240), .inl (false, 240), .inl (false, 16), .inl (false, 16), .inl (false, 16), .inl (false, 16), .inl (false, 8), .inl (false, 64), .inr (5, [some (some 1), some (some 27)]), .inr (2, [some (some 1), some (some 3), some (some 38)]), .inl (false, 100), .inr (7, [some (some 1), some (some 40), none]), .inl (false, 60), .inr (1, [some (some 3), some (some 18), none, none, none, none]), .inr (8, [some (some 3), some (some 43), some (some 44), some (some 45), some (some 46), some (some 47), some (some 48), none]), .inl (false, 100), .inl (false, 100), .inl (false, 8), .inl (false, 10), .inl (false, 60), .inl (false, 12), .inr (0, [some (some 3), some (some 50), some (some 51), some (some 52), some (some 53), some (some 54), some (some 55), some (some 56), none]), .inl (false, 10), .inl (false, 10), .inl (false, 6), .inl (false, 6), .inl (false, 6), .inl (false, 12), .inl (false, 1024), .inr (11, [some (some 58), some (some 59), some (some 60), some (some 61), some (some 62), none, some (some 63), none, none, none, none, none, none, none, none, none, none, some (some 64), some (some 65), some (some 66), some (some 67), some (some 68), some (some 69), some (some 70), some (some 71), some (some 72), some (some 73), some (some 74), some (some 75), some (some 76), some (some 77), none, none, none, none, none, some (some 78), some (some 79), some (some 80), some (some 81), none, none, none, none, none, none, some (some 82), some (some 83), some (some 84), some (some 85), none, some (some 86), some (some 87), some none, some none, some none, some none, some none, none, some none, some none, none]), .inl (false, 159), .inl (false, 159), .inl (false, 159), .inl (false, 10), .inl (false, 10), .inl (true, 260), .inl (false, 260), .inl (false, 260), .inl (false, 16), .inl (false, 16), .inl (false, 16), .inl (false, 16), .inl (false, 260), .inl (false, 16), .inl (false, 16), .inl (false, 16), .inl (false, 16), .inl (false, 260), .inl (false, 8), .inl (false, 100), .inl (false, 60), .inl (false, 2), .inl (false, 2), .inl (false, 2), .inl (false, 100), .inl (false, 60), .inl (false, 12), .inl (false, 12), .inl (true, 40960), .inl (false, 100)]
def WC62 : oW := [.inr (10, [some (some 1), some (some 3), some (some 6), some (some 10), some (some 14), some (some 18), some (some 27), some (some 36), some (some 37), some (some 39), some (some 41), some (some 42), some (some 49), none]), .inr (9, [some (some 2), none, none, none, none]), .inl (false, 260), .inr (6, [some (some 4), some (some 5), none]), .inl (false, 10), .inl (false, 10), .inr (3, [some (some 7), some (some 8), some (some 9), none, none, none, none, none, none, none, none, none]), .inl (false, 100), .inl (false, 10), .inl (false, 40), .inr (3, [some (some 11), some (some 12), some (some 13), none, none, none, none, none, none, none, none, none]), .inl (false, 100), .inl (false, 10), .inl (false, 40), .inr (3, [some (some 15), some (some 16), some (some 17), none, none, none, none, none, none, none, none, none]), .inl (false, 100), .inl (false, 10), .inl (false, 40), .inr (4, [some (some 3), some (some 19), some (some 20), some (some 21), some (some 22), some (some 23), some (some 24), some (some 25), some (some 26), none, none]), .inl (false, 240), .inl (false, 240), .inl (false, 16), .inl (false, 16), .inl (false, 16), .inl (false, 16), .inl (false, 8), .inl (false, 64), .inr (4, [some (some 3), some (some 28), some (some 29), some (some 30), some (some 31), some (some 32), some (some 33), some (some 34), some (some 35), none, none]), .inl (false, 240), .inl (false, 240), .inl (false, 16), .inl (false, 16), .inl (false, 16), .inl (false, 16), .inl (false, 8), .inl (false, 64), .inr (5, [some (some 1), some (some 27)]), .inr (2, [some (some 1), some (some 3), some (some 38)]), .inl (false, 100), .inr (7, [some (some 1), some (some 40), none]), .inl (false, 60), .inr (1, [some (some 3), some (some 18), none, none, none, none]), .inr (8, [some (some 3), some (some 43), some (some 44), some (some 45), some (some 46), some (some 47), some (some 48), none]), .inl (false, 100), .inl (false, 100), .inl (false, 8), .inl (false, 10), .inl (false, 60), .inl (false, 12), .inr (0, [some (some 3), some (some 50), some (some 51), some (some 52), some (some 53), some (some 54), some (some 55), some (some 56), none]), .inl (false, 10), .inl (false, 10), .inl (false, 6), .inl (false, 6), .inl (false, 6), .inl (false, 12), .inl (false, 1024), .inr (11, [some (some 58), some (some 59), some (some 60), some (some 61), some (some 62), none, some (some 63), none, none, none, none, none, none, none, none, none, none, some (some 64), some (some 65), some (some 66), some (some 67), some (some 68), some (some 69), some (some 70), some (some 71), some (some 72), some (some 73), some (some 74), some (some 75), some (some 76), some (some 77), none, none, none, none, none, some (some 78), some (some 79), some (some 80), some (some 81), none, none, none, none, none, none, some (some 82), some (some 83), some (some 84), some (some 85), none, some (some 86), some (some 87), some (some 88), some (some 89), some none, some none, some none, none, some none, some none, none]), .inl (false, 159), .inl (false, 159), .inl (false, 159), .inl (false, 10), .inl (false, 10), .inl (true, 260), .inl (false, 260), .inl (false, 260), .inl (false, 16), .inl (false, 16), .inl (false, 16), .inl (false, 16), .inl (false, 260), .inl (false, 16), .inl (false, 16), .inl (false, 16), .inl (false, 16), .inl (false, 260), .inl (false, 8), .inl (false, 100), .inl (false, 60), .inl (false, 2), .inl (false, 2), .inl (false, 2), .inl (false, 100), .inl (false, 60), .inl (false, 12), .inl (false, 12), .inl (true, 40960), .inl (false, 100), .inl (false, 100), .inl (false, 6)]
def WC63 : oW := [.inr (10, [some (some 1), some (some 3), some (some 6), some (some 10), some (some 14), some (some 18), some (some 27), some (some 36), some (some 37), some (some 39), some (some 41), some (some 42), some (some 49), none]), .inr (9, [some (some 2), none, none, none, none]), .inl (false, 260), .inr (6, [some (some 4), some (some 5), none]), .inl (false, 10), .inl (false, 10), .inr (3, [some (some 7), some (some 8), some (some 9), none, none, none, none, none, none, none, none, none]), .inl (false, 100), .inl (false, 10), .inl (false, 40), .inr (3, [some (some 11), some (some 12), some (some 13), none, none, none, none, none, none, none, none, none]), .inl (false, 100), .inl (false, 10), .inl (false, 40), .inr (3, [some (some 15), some (some 16), some (some 17), none, none, none, none, none, none, none, none, none]), .inl (false, 100), .inl (false, 10), .inl (false, 40), .inr (4, [some (some 3), some (some 19), some (some 20), some (some 21), some (some 22), some (some 23), some (some 24), some (some 25), some (some 26), none, none]), .inl (false, 240), .inl (false, 240), .inl (false, 16), .inl (false, 16), .inl (false, 16), .inl (false, 16), .inl (false, 8), .inl (false, 64), .inr (4, [some (some 3), some (some 28), some (some 29), some (some 30), some (some 31), some (some 32), some (some 33), some (some 34), some (some 35), none, none]), .inl (false, 240), .inl (false, 240), .inl (false, 16), .inl (false, 16), .inl (false, 16), .inl (false, 16), .inl (false, 8), .inl (false, 64), .inr (5, [some (some 1), some (some 27)]), .inr (2, [some (some 1), some (some 3), some (some 38)]), .inl (false, 100), .inr (7, [some (some 1), some (some 40), none]), .inl (false, 60), .inr (1, [some (some 3), some (some 18), none, none, none, none]), .inr (8, [some (some 3), some (some 43), some (some 44), some (some 45), some (some 46), some (some 47), some (some 48), none]), .inl (false, 100), .inl (false, 100), .inl (false, 8), .inl (false, 10), .inl (false, 60), .inl (false, 12), .inr (0, [some (some 3), some (some 50), some (some 51), some (some 52), some (some 53), some (some 54), some (some 55), some (some 56), none]), .inl (false, 10), .inl (false, 10), .inl (false, 6), .inl (false, 6), .inl (false, 6), .inl (false, 12), .inl (false, 1024), .inr (11, [some (some 58), some (some 59), some (some 60), some (some 61), some (some 62), none, some (some 63), none, none, none, none, none, none, none, none, none, none, some (some 64), some (some 65), some (some 66), some (some 67), some (some 68), some (some 69), some (some 70), some (some 71), some (some 72), some (some 73), some (some 74), some (some 75), some (some 76), some (some 77), none, none, none, none, none, some (some 78), some (some 79), some (some 80), some (some 81), none, none, none, none, none, none, some (some 82), some (some 83), some (some 84), some (some 85), none, some (some 86), some (some 87), some (some 88), some (some 89), some (some 90), some (some 91), some none, none, some none, some none, none]), .inl (false, 159), .inl (false, 159), .inl (false, 159), .inl (false, 10), .inl (false, 10), .inl (true, 260), .inl (false, 260), .inl (false, 260), .inl (false, 16), .inl (false, 16), .inl (false, 16), .inl (false, 16), .inl (false, 260), .inl (false, 16), .inl (false, 16), .inl (false, 16), .inl (false, 16), .inl (false, 260), .inl (false, 8), .inl (false, 100), .inl (false, 60), .inl (false, 2), .inl (false, 2), .inl (false, 2), .inl (false, 100), .inl (false, 60), .inl (false, 12), .inl (false, 12), .inl (true, 40960), .inl (false, 100), .inl (false, 100), .inl (false, 6), .inl (false, 6), .inl (false, 6)]
def WC64 : oW := [.inr (10, [some (some 1), some (some 3), some (some 6), some (some 10), some (some 14), some (some 18), some (some 27), some (some 36), some (some 37), some (some 39), some (some 41), some (some 42), some (some 49), none]), .inr (9, [some (some 2), none, none, none, none]), .inl (false, 260), .inr (6, [some (some 4), some (some 5), none]), .inl (false, 10), .inl (false, 10), .inr (3, [some (some 7), some (some 8), some (some 9), none, none, none, none, none, none, none, none, none]), .inl (false, 100), .inl (false, 10), .inl (false, 40), .inr (3, [some (some 11), some (some 12), some (some 13), none, none, none, none, none, none, none, none, none]), .inl (false, 100), .inl (false, 10), .inl (false, 40), .inr (3, [some (some 15), some (some 16), some (some 17), none, none, none, none, none, none, none, none, none]), .inl (false, 100), .inl (false, 10), .inl (false, 40), .inr (4, [some (some 3), some (some 19), some (some 20), some (some 21), some (some 22), some (some 23), some (some 24), some (some 25), some (some 26), none, none]), .inl (false, 240), .inl (false, 240), .inl (false, 16), .inl (false, 16), .inl (false, 16), .inl (false, 16), .inl (false, 8), .inl (false, 64), .inr (4, [some (some 3), some (some 28), some (some 29), some (some 30), some (some 31), some (some 32), some (some 33), some (some 34), some (some 35), none, none]), .inl (false, 240), .inl (false, 240), .inl (false, 16), .inl (false, 16), .inl (false, 16), .inl (false, 16), .inl (false, 8), .inl (false, 64), .inr (5, [some (some 1), some (some 27)]), .inr (2, [some (some 1), some (some 3), some (some 38)]), .inl (false, 100), .inr (7, [some (some 1), some (some 40), none]), .inl (false, 60), .inr (1, [some (some 3), some (some 18), none, none, none, none]), .inr (8, [some (some 3), some (some 43), some (some 44), some (some 45), some (some 46), some (some 47), some (some 48), none]), .inl (false, 100), .inl (false, 100), .inl (false, 8), .inl (false, 10), .inl (false, 60), .inl (false, 12), .inr (0, [some (some 3), some (some 50), some (some 51), some (some 52), some (some 53), some (some 54), some (some 55), some (some 56), none]), .inl (false, 10), .inl (false, 10), .inl (false, 6), .inl (false, 6), .inl (false, 6), .inl (false, 12), .inl (false, 1024), .inr (11, [some (some 58), some (some 59), some (some 60), some (some 61), some (some 62), none, some (some 63), none, none, none, none, none, none, none, none, none, none, some (some 64), some (some 65), some (some 66), some (some 67), some (some 68), some (some 69), some (some 70), some (some 71), some (some 72), some (some 73), some (some 74), some (some 75), some (some 76), some (some 77), none, none, none, none, none, some (some 78), some (some 79), some (some 80), some (some 81), none, none, none, none, none, none, some (some 82), some (some 83), some (some 84), some (some 85), none, some (some 86), some (some 87), some (some 88), some (some 89), some (some 90), some (some 91), some (some 92), none, some (some 93), some none, none]), .inl (false, 159), .inl (false, 159), .inl (false, 159), .inl (false, 10), .inl (false, 10), .inl (true, 260), .inl (false, 260), .inl (false, 260), .inl (false, 16), .inl (false, 16), .inl (false, 16), .inl (false, 16), .inl (false, 260), .inl (false, 16), .inl (false, 16), .inl (false, 16), .inl (false, 16), .inl (false, 260), .inl (false, 8), .inl (false, 100), .inl (false, 60), .inl (false, 2), .inl (false, 2), .inl (false, 2), .inl (false, 100), .inl (false, 60), .inl (false, 12), .inl (false, 12), .inl (true, 40960), .inl (false, 100), .inl (false, 100), .inl (false, 6), .inl (false, 6), .inl (false, 6), .inl (false, 6), .inl (false, 1024)]
def WC65 : oW := [.inr (10, [some (some 1), some (some 3), some (some 6), some (some 10), some (some 14), some (some 18), some (some 27), some (some 36), some (some 37), some (some 39), some (some 41), some (some 42), some (some 49), none]), .inr (9, [some (some 2), none, none, none, none]), .inl (false, 260), .inr (6, [some (some 4), some (some 5), none]), .inl (false, 10), .inl (false, 10), .inr (3, [some (some 7), some (some 8), some (some 9), none, none, none, none, none, none, none, none, none]), .inl (false, 100), .inl (false, 10), .inl (false, 40), .inr (3, [some (some 11), some (some 12), some (some 13), none, none, none, none, none, none, none, none, none]), .inl (false, 100), .inl (false, 10), .inl (false, 40), .inr (3, [some (some 15), some (some 16), some (some 17), none, none, none, none, none, none, none, none, none]), .inl (false, 100), .inl (false, 10), .inl (false, 40), .inr (4, [some (some 3), some (some 19), some (some 20), some (some 21), some (some 22), some (some 23), some (some 24), some (some 25), some (some 26), none, none]), .inl (false, 240), .inl (false, 240), .inl (false, 16), .inl (false, 16), .inl (false, 16), .inl (false, 16), .inl (false, 8), .inl (false, 64), .inr (4, [some (some 3), some (some 28), some (some 29), some (some 30), some (some 31), some (some 32), some (some 33), some (some 34), some (some 35), none, none]), .inl (false, 240), .inl (false, 240), .inl (false, 16), .inl (false, 16), .inl (false, 16), .inl (false, 16), .inl (false, 8), .inl (false, 64), .inr (5, [some (some 1), some (some 27)]), .inr (2, [some (some 1), some (some 3), some (some 38)]), .inl (false, 100), .inr (7, [some (some 1), some (some 40), none]), .inl (false, 60), .inr (1, [some (some 3), some (some 18), none, none, none, none]), .inr (8, [some (some 3), some (some 43), some (some 44), some (some 45), some (some 46), some (some 47), some (some 48), none]), .inl (false, 100), .inl (false, 100), .inl (false, 8), .inl (false, 10), .inl (false, 60), .inl (false, 12), .inr (0, [some (some 3), some (some 50), some (some 51), some (some 52), some (some 53), some (some 54), some (some 55), some (some 56), none]), .inl (false, 10), .inl (false, 10), .inl (false, 6), .inl (false, 6), .inl (false, 6), .inl (false, 12), .inl (false, 1024), .inr (11, [some (some 58), some (some 59), some (some 60), some (some 61), some (some 62), none, some (some 63), none, none, none, none, none, none, none, none, none, none, some (some 64), some (some 65), some (some 66), some (some 67), some (some 68), some (some 69), some (some 70), some (some 71), some (some 72), some (some 73), some (some 74), some (some 75), some (some 76), some (some 77), none, none, none, none, none, some (some 78), some (some 79), some (some 80), some (some 81), none, none, none, none, none, none, some (some 82), some (some 83), some (some 84), some (some 85), none, some (some 86), some (some 87), some (some 88), some (some 89), some (some 90), some (some 91), some (some 92), none, some (some 93), some (some 94), none]), .inl (false, 159), .inl (false, 159), .inl (false, 159), .inl (false, 10), .inl (false, 10), .inl (true, 260), .inl (false, 260), .inl (false, 260), .inl (false, 16), .inl (false, 16), .inl (false, 16), .inl (false, 16), .inl (false, 260), .inl (false, 16), .inl (false, 16), .inl (false, 16), .inl (false, 16), .inl (false, 260), .inl (false, 8), .inl (false, 100), .inl (false, 60), .inl (false, 2), .inl (false, 2), .inl (false, 2), .inl (false, 100), .inl (false, 60), .inl (false, 12), .inl (false, 12), .inl (true, 40960), .inl (false, 100), .inl (false, 100), .inl (false, 6), .inl (false, 6), .inl (false, 6), .inl (false, 6), .inl (false, 1024), .inl (false, 1024)]
def mi_M_57 (M : oM) : oM := (oU (oU (oU (oZ (oZ (oZ (oZ (oZ (oZ (oZ (oZ (oZ (oZ (oZ (oZ (oZ (oZ (oZ (oZ (oZ (oZ (oZ (oZ (oZ (oZ (oZ (oZ (oZ (oZ (oZ (oZ (oZ (oZ (oZ (oZ (oZ (oZ (oZ (oZ (oZ M 58) 59) 60) 61) 62) 63) 64) 65) 66) 67) 68) 69) 70) 71) 72) 73) 74) 75) 76) 77) 78) 79) 80) 81) 82) 83) 84) 85) 86) 87) 88) 89) 90) 91) 92) 93) 94) 58 158 1) 58 151 (-2)) 58 153 (-2))
abbrev m_O_init : oMI := (⟨"OneCoin", "<init>", "()V"⟩, prog_1_method_1_code, 1, none)
theorem oi_ : Cond.instanceMethod Lib.objectInit ∈ oT ∧ Cond.code Lib.objectInit ⟨#[0xb1]⟩ 1 none ∈ oT := ⟨oT_mem 123 (by decide +kernel) rfl, oT_mem 124 (by decide +kernel) rfl⟩
theorem oi_O_3 : Cond.methodLink "OneCoin" 3 Lib.objectInit ∈ oT := oT_mem 122 (by decide +kernel) rfl
theorem n_O_9 : Cond.classLink "OneCoin" 9 "OneCoin$Tape" ∈ oT ∧ Cond.instantiable "OneCoin$Tape" 5 ∈ oT ∧ Cond.initialized "OneCoin$Tape" ∈ oT := ⟨oT_mem 125 (by decide +kernel) rfl, oT_mem 126 (by decide +kernel) rfl, oT_mem 97 (by decide +kernel) rfl⟩
theorem df_9 : (∀ j, j < 5 → defaultValue (tyX9 j) = oDf ([some none, none, none, none, none] : List (Option (Option Nat)))[j]?) ∧ ∀ x ∈ ([some none, none, none, none, none] : List (Option (Option Nat))), x = none ∨ x = some none := ⟨by decide +kernel, by decide +kernel⟩
abbrev m_T_init : oMI := (⟨"OneCoin$Tape", "<init>", "()V"⟩, prog_11_method_1_code, 1, none)
theorem oi_T_3 : Cond.methodLink "OneCoin$Tape" 3 Lib.objectInit ∈ oT := oT_mem 130 (by decide +kernel) rfl
theorem ac_int : Cond.arrayClass (newarray.typeOf .int) ∈ oT := oT_mem 147 (by decide +kernel) rfl
theorem fpfc_T_9 : oFp "OneCoin$Tape" 9 9 0 (.array .int) := ⟨RX9, TX9, 5, tyX9, "bytes", "[I", oC9, by decide, rfl, by decide +kernel, oT_mem 131 (by decide +kernel) rfl⟩
theorem fc_T_9 : oFl "OneCoin$Tape" 9 9 0 true (.array .int) := ⟨RX9, TX9, 5, tyX9, "bytes", "[I", oC9, by decide, rfl, by decide +kernel, Or.inl (oT_mem 131 (by decide +kernel) rfl)⟩
theorem fc_T_15 : oFl "OneCoin$Tape" 15 9 4 false (.int) := ⟨RX9, TX9, 5, tyX9, "next", "I", oC9, by decide, rfl, by decide +kernel, Or.inl (oT_mem 135 (by decide +kernel) rfl)⟩
theorem co_m_T_init : oCo m_T_init 0 := ⟨oT_mem 129 (by decide +kernel) rfl, oT_mem 97 (by decide +kernel) rfl, ⟨by decide +kernel, by decide +kernel, by decide +kernel⟩, by decide⟩
theorem vi_O_11 : oClI "OneCoin" 11 m_T_init 0 := ⟨Or.inr ⟨"OneCoin", oTN_mem 127 (by decide +kernel) rfl⟩, oT_mem 128 (by decide +kernel) rfl, co_m_T_init, rfl, rfl⟩
theorem fpfc_O_12 : oFp "OneCoin" 12 10 0 (.object "OneCoin$Tape") := ⟨RX10, TX10, 14, tyX10, "tape", "LOneCoin$Tape;", oC10, by decide, rfl, by decide +kernel, oT_mem 426 (by decide +kernel) rfl⟩
theorem fc_O_12 : oFl "OneCoin" 12 10 0 true (.object "OneCoin$Tape") := ⟨RX10, TX10, 14, tyX10, "tape", "LOneCoin$Tape;", oC10, by decide, rfl, by decide +kernel, Or.inl (oT_mem 426 (by decide +kernel) rfl)⟩
theorem n_O_16 : Cond.classLink "OneCoin" 16 "OneCoin$People" ∈ oT ∧ Cond.instantiable "OneCoin$People" 3 ∈ oT ∧ Cond.initialized "OneCoin$People" ∈ oT := ⟨oT_mem 148 (by decide +kernel) rfl, oT_mem 149 (by decide +kernel) rfl, oT_mem 98 (by decide +kernel) rfl⟩
theorem df_6 : (∀ j, j < 3 → defaultValue (tyX6 j) = oDf ([some none, some none, none] : List (Option (Option Nat)))[j]?) ∧ ∀ x ∈ ([some none, some none, none] : List (Option (Option Nat))), x = none ∨ x = some none := ⟨by decide +kernel, by decide +kernel⟩
abbrev m_P_init : oMI := (⟨"OneCoin$People", "<init>", "()V"⟩, prog_8_method_1_code, 1, none)
theorem oi_P_3 : Cond.methodLink "OneCoin$People" 3 Lib.objectInit ∈ oT := oT_mem 153 (by decide +kernel) rfl
theorem fpfc_P_9 : oFp "OneCoin$People" 9 6 0 (.array .int) := ⟨RX6, TX6, 3, tyX6, "spotX", "[I", oC6, by decide, rfl, by decide +kernel, oT_mem 154 (by decide +kernel) rfl⟩
theorem fc_P_9 : oFl "OneCoin$People" 9 6 0 true (.array .int) := ⟨RX6, TX6, 3, tyX6, "spotX", "[I", oC6, by decide, rfl, by decide +kernel, Or.inl (oT_mem 154 (by decide +kernel) rfl)⟩
theorem fpfc_P_15 : oFp "OneCoin$People" 15 6 1 (.array .int) := ⟨RX6, TX6, 3, tyX6, "spotY", "[I", oC6, by decide, rfl, by decide +kernel, oT_mem 156 (by decide +kernel) rfl⟩
theorem fc_P_15 : oFl "OneCoin$People" 15 6 1 true (.array .int) := ⟨RX6, TX6, 3, tyX6, "spotY", "[I", oC6, by decide, rfl, by decide +kernel, Or.inl (oT_mem 156 (by decide +kernel) rfl)⟩
theorem co_m_P_init : oCo m_P_init 0 := ⟨oT_mem 152 (by decide +kernel) rfl, oT_mem 98 (by decide +kernel) rfl, ⟨by decide +kernel, by decide +kernel, by decide +kernel⟩, by decide⟩
theorem vi_O_18 : oClI "OneCoin" 18 m_P_init 0 := ⟨Or.inr ⟨"OneCoin", oTN_mem 150 (by decide +kernel) rfl⟩, oT_mem 151 (by decide +kernel) rfl, co_m_P_init, rfl, rfl⟩
theorem fpfc_O_19 : oFp "OneCoin" 19 10 1 (.object "OneCoin$People") := ⟨RX10, TX10, 14, tyX10, "people", "LOneCoin$People;", oC10, by decide, rfl, by decide +kernel, oT_mem 427 (by decide +kernel) rfl⟩
theorem fc_O_19 : oFl "OneCoin" 19 10 1 true (.object "OneCoin$People") := ⟨RX10, TX10, 14, tyX10, "people", "LOneCoin$People;", oC10, by decide, rfl, by decide +kernel, Or.inl (oT_mem 427 (by decide +kernel) rfl)⟩
theorem n_O_23 : Cond.classLink "OneCoin" 23 "OneCoin$Duchy" ∈ oT ∧ Cond.instantiable "OneCoin$Duchy" 12 ∈ oT ∧ Cond.initialized "OneCoin$Duchy" ∈ oT := ⟨oT_mem 167 (by decide +kernel) rfl, oT_mem 168 (by decide +kernel) rfl, oT_mem 99 (by decide +kernel) rfl⟩
theorem df_3 : (∀ j, j < 12 → defaultValue (tyX3 j) = oDf ([some none, some none, some none, none, none, none, none, none, none, none, none, none] : List (Option (Option Nat)))[j]?) ∧ ∀ x ∈ ([some none, some none, some none, none, none, none, none, none, none, none, none, none] : List (Option (Option Nat))), x = none ∨ x = some none := ⟨by decide +kernel, by decide +kernel⟩
abbrev m_D_init : oMI := (⟨"OneCoin$Duchy", "<init>", "()V"⟩, prog_5_method_1_code, 1, none)
theorem oi_D_3 : Cond.methodLink "OneCoin$Duchy" 3 Lib.objectInit ∈ oT := oT_mem 172 (by decide +kernel) rfl
theorem fpfc_D_9 : oFp "OneCoin$Duchy" 9 3 0 (.array .int) := ⟨RX3, TX3, 12, tyX3, "debts", "[I", oC3, by decide, rfl, by decide +kernel, oT_mem 173 (by decide +kernel) rfl⟩
theorem fc_D_9 : oFl "OneCoin$Duchy" 9 3 0 true (.array .int) := ⟨RX3, TX3, 12, tyX3, "debts", "[I", oC3, by decide, rfl, by decide +kernel, Or.inl (oT_mem 173 (by decide +kernel) rfl)⟩
theorem fpfc_D_15 : oFp "OneCoin$Duchy" 15 3 1 (.array .int) := ⟨RX3, TX3, 12, tyX3, "held", "[I", oC3, by decide, rfl, by decide +kernel, oT_mem 176 (by decide +kernel) rfl⟩
theorem fc_D_15 : oFl "OneCoin$Duchy" 15 3 1 true (.array .int) := ⟨RX3, TX3, 12, tyX3, "held", "[I", oC3, by decide, rfl, by decide +kernel, Or.inl (oT_mem 176 (by decide +kernel) rfl)⟩
theorem fpfc_D_18 : oFp "OneCoin$Duchy" 18 3 2 (.array .int) := ⟨RX3, TX3, 12, tyX3, "chalks", "[I", oC3, by decide, rfl, by decide +kernel, oT_mem 179 (by decide +kernel) rfl⟩
theorem fc_D_18 : oFl "OneCoin$Duchy" 18 3 2 true (.array .int) := ⟨RX3, TX3, 12, tyX3, "chalks", "[I", oC3, by decide, rfl, by decide +kernel, Or.inl (oT_mem 179 (by decide +kernel) rfl)⟩
theorem fc_D_21 : oFl "OneCoin$Duchy" 21 3 4 false (.int) := ⟨RX3, TX3, 12, tyX3, "holder", "I", oC3, by decide, rfl, by decide +kernel, Or.inl (oT_mem 183 (by decide +kernel) rfl)⟩
theorem fc_D_25 : oFl "OneCoin$Duchy" 25 3 5 false (.int) := ⟨RX3, TX3, 12, tyX3, "payer", "I", oC3, by decide, rfl, by decide +kernel, Or.inl (oT_mem 188 (by decide +kernel) rfl)⟩
theorem fc_D_28 : oFl "OneCoin$Duchy" 28 3 6 false (.int) := ⟨RX3, TX3, 12, tyX3, "payee", "I", oC3, by decide, rfl, by decide +kernel, Or.inl (oT_mem 190 (by decide +kernel) rfl)⟩
theorem fc_D_31 : oFl "OneCoin$Duchy" 31 3 11 false (.int) := ⟨RX3, TX3, 12, tyX3, "x", "I", oC3, by decide, rfl, by decide +kernel, Or.inl (oT_mem 207 (by decide +kernel) rfl)⟩
theorem co_m_D_init : oCo m_D_init 0 := ⟨oT_mem 171 (by decide +kernel) rfl, oT_mem 99 (by decide +kernel) rfl, ⟨by decide +kernel, by decide +kernel, by decide +kernel⟩, by decide⟩
theorem vi_O_25 : oClI "OneCoin" 25 m_D_init 0 := ⟨Or.inr ⟨"OneCoin", oTN_mem 169 (by decide +kernel) rfl⟩, oT_mem 170 (by decide +kernel) rfl, co_m_D_init, rfl, rfl⟩
theorem fpfc_O_26 : oFp "OneCoin" 26 10 2 (.object "OneCoin$Duchy") := ⟨RX10, TX10, 14, tyX10, "now", "LOneCoin$Duchy;", oC10, by decide, rfl, by decide +kernel, oT_mem 428 (by decide +kernel) rfl⟩
theorem fc_O_26 : oFl "OneCoin" 26 10 2 true (.object "OneCoin$Duchy") := ⟨RX10, TX10, 14, tyX10, "now", "LOneCoin$Duchy;", oC10, by decide, rfl, by decide +kernel, Or.inl (oT_mem 428 (by decide +kernel) rfl)⟩
theorem fpfc_O_30 : oFp "OneCoin" 30 10 3 (.object "OneCoin$Duchy") := ⟨RX10, TX10, 14, tyX10, "kept", "LOneCoin$Duchy;", oC10, by decide, rfl, by decide +kernel, oT_mem 429 (by decide +kernel) rfl⟩
theorem fc_O_30 : oFl "OneCoin" 30 10 3 true (.object "OneCoin$Duchy") := ⟨RX10, TX10, 14, tyX10, "kept", "LOneCoin$Duchy;", oC10, by decide, rfl, by decide +kernel, Or.inl (oT_mem 429 (by decide +kernel) rfl)⟩
theorem fpfc_O_33 : oFp "OneCoin" 33 10 4 (.object "OneCoin$Duchy") := ⟨RX10, TX10, 14, tyX10, "trial", "LOneCoin$Duchy;", oC10, by decide, rfl, by decide +kernel, oT_mem 430 (by decide +kernel) rfl⟩
theorem fc_O_33 : oFl "OneCoin" 33 10 4 true (.object "OneCoin$Duchy") := ⟨RX10, TX10, 14, tyX10, "trial", "LOneCoin$Duchy;", oC10, by decide, rfl, by decide +kernel, Or.inl (oT_mem 430 (by decide +kernel) rfl)⟩
theorem n_O_36 : Cond.classLink "OneCoin" 36 "OneCoin$Law" ∈ oT ∧ Cond.instantiable "OneCoin$Law" 11 ∈ oT ∧ Cond.initialized "OneCoin$Law" ∈ oT := ⟨oT_mem 234 (by decide +kernel) rfl, oT_mem 235 (by decide +kernel) rfl, oT_mem 100 (by decide +kernel) rfl⟩
theorem df_4 : (∀ j, j < 11 → defaultValue (tyX4 j) = oDf ([some none, some none, some none, some none, some none, some none, some none, some none, some none, none, none] : List (Option (Option Nat)))[j]?) ∧ ∀ x ∈ ([some none, some none, some none, some none, some none, some none, some none, some none, some none, none, none] : List (Option (Option Nat))), x = none ∨ x = some none := ⟨by decide +kernel, by decide +kernel⟩
abbrev m_L_init : oMI := (⟨"OneCoin$Law", "<init>", "(LOneCoin$People;)V"⟩, prog_6_method_1_code, 2, none)
theorem oi_L_3 : Cond.methodLink "OneCoin$Law" 3 Lib.objectInit ∈ oT := oT_mem 239 (by decide +kernel) rfl
theorem fpfc_L_9 : oFp "OneCoin$Law" 9 4 1 (.array .int) := ⟨RX4, TX4, 11, tyX4, "steps", "[I", oC4, by decide, rfl, by decide +kernel, oT_mem 241 (by decide +kernel) rfl⟩
theorem fc_L_9 : oFl "OneCoin$Law" 9 4 1 true (.array .int) := ⟨RX4, TX4, 11, tyX4, "steps", "[I", oC4, by decide, rfl, by decide +kernel, Or.inl (oT_mem 241 (by decide +kernel) rfl)⟩
theorem fpfc_L_15 : oFp "OneCoin$Law" 15 4 2 (.array .int) := ⟨RX4, TX4, 11, tyX4, "details", "[I", oC4, by decide, rfl, by decide +kernel, oT_mem 242 (by decide +kernel) rfl⟩
theorem fc_L_15 : oFl "OneCoin$Law" 15 4 2 true (.array .int) := ⟨RX4, TX4, 11, tyX4, "details", "[I", oC4, by decide, rfl, by decide +kernel, Or.inl (oT_mem 242 (by decide +kernel) rfl)⟩
theorem fpfc_L_18 : oFp "OneCoin$Law" 18 4 3 (.array .int) := ⟨RX4, TX4, 11, tyX4, "kinds", "[I", oC4, by decide, rfl, by decide +kernel, oT_mem 243 (by decide +kernel) rfl⟩
theorem fc_L_18 : oFl "OneCoin$Law" 18 4 3 true (.array .int) := ⟨RX4, TX4, 11, tyX4, "kinds", "[I", oC4, by decide, rfl, by decide +kernel, Or.inl (oT_mem 243 (by decide +kernel) rfl)⟩
theorem fpfc_L_21 : oFp "OneCoin$Law" 21 4 4 (.array .int) := ⟨RX4, TX4, 11, tyX4, "starts", "[I", oC4, by decide, rfl, by decide +kernel, oT_mem 245 (by decide +kernel) rfl⟩
theorem fc_L_21 : oFl "OneCoin$Law" 21 4 4 true (.array .int) := ⟨RX4, TX4, 11, tyX4, "starts", "[I", oC4, by decide, rfl, by decide +kernel, Or.inl (oT_mem 245 (by decide +kernel) rfl)⟩
theorem fpfc_L_24 : oFp "OneCoin$Law" 24 4 5 (.array .int) := ⟨RX4, TX4, 11, tyX4, "middles", "[I", oC4, by decide, rfl, by decide +kernel, oT_mem 247 (by decide +kernel) rfl⟩
theorem fc_L_24 : oFl "OneCoin$Law" 24 4 5 true (.array .int) := ⟨RX4, TX4, 11, tyX4, "middles", "[I", oC4, by decide, rfl, by decide +kernel, Or.inl (oT_mem 247 (by decide +kernel) rfl)⟩
theorem fpfc_L_27 : oFp "OneCoin$Law" 27 4 6 (.array .int) := ⟨RX4, TX4, 11, tyX4, "ends", "[I", oC4, by decide, rfl, by decide +kernel, oT_mem 249 (by decide +kernel) rfl⟩
theorem fc_L_27 : oFl "OneCoin$Law" 27 4 6 true (.array .int) := ⟨RX4, TX4, 11, tyX4, "ends", "[I", oC4, by decide, rfl, by decide +kernel, Or.inl (oT_mem 249 (by decide +kernel) rfl)⟩
theorem fpfc_L_30 : oFp "OneCoin$Law" 30 4 7 (.array .int) := ⟨RX4, TX4, 11, tyX4, "letters", "[I", oC4, by decide, rfl, by decide +kernel, oT_mem 251 (by decide +kernel) rfl⟩
theorem fc_L_30 : oFl "OneCoin$Law" 30 4 7 true (.array .int) := ⟨RX4, TX4, 11, tyX4, "letters", "[I", oC4, by decide, rfl, by decide +kernel, Or.inl (oT_mem 251 (by decide +kernel) rfl)⟩
theorem fpfc_L_33 : oFp "OneCoin$Law" 33 4 8 (.array .int) := ⟨RX4, TX4, 11, tyX4, "stack", "[I", oC4, by decide, rfl, by decide +kernel, oT_mem 252 (by decide +kernel) rfl⟩
theorem fc_L_33 : oFl "OneCoin$Law" 33 4 8 true (.array .int) := ⟨RX4, TX4, 11, tyX4, "stack", "[I", oC4, by decide, rfl, by decide +kernel, Or.inl (oT_mem 252 (by decide +kernel) rfl)⟩
theorem fpfc_L_36 : oFp "OneCoin$Law" 36 4 0 (.object "OneCoin$People") := ⟨RX4, TX4, 11, tyX4, "people", "LOneCoin$People;", oC4, by decide, rfl, by decide +kernel, oT_mem 240 (by decide +kernel) rfl⟩
theorem fc_L_36 : oFl "OneCoin$Law" 36 4 0 true (.object "OneCoin$People") := ⟨RX4, TX4, 11, tyX4, "people", "LOneCoin$People;", oC4, by decide, rfl, by decide +kernel, Or.inl (oT_mem 240 (by decide +kernel) rfl)⟩
theorem co_m_L_init : oCo m_L_init 1 := ⟨oT_mem 238 (by decide +kernel) rfl, oT_mem 100 (by decide +kernel) rfl, ⟨by decide +kernel, by decide +kernel, by decide +kernel⟩, by decide⟩
theorem vi_O_38 : oClI "OneCoin" 38 m_L_init 1 := ⟨Or.inl (oT_mem 236 (by decide +kernel) rfl), oT_mem 237 (by decide +kernel) rfl, co_m_L_init, rfl, rfl⟩
theorem fpfc_O_41 : oFp "OneCoin" 41 10 5 (.object "OneCoin$Law") := ⟨RX10, TX10, 14, tyX10, "law", "LOneCoin$Law;", oC10, by decide, rfl, by decide +kernel, oT_mem 431 (by decide +kernel) rfl⟩
theorem fc_O_41 : oFl "OneCoin" 41 10 5 true (.object "OneCoin$Law") := ⟨RX10, TX10, 14, tyX10, "law", "LOneCoin$Law;", oC10, by decide, rfl, by decide +kernel, Or.inl (oT_mem 431 (by decide +kernel) rfl)⟩
theorem fpfc_O_45 : oFp "OneCoin" 45 10 6 (.object "OneCoin$Law") := ⟨RX10, TX10, 14, tyX10, "draft", "LOneCoin$Law;", oC10, by decide, rfl, by decide +kernel, oT_mem 432 (by decide +kernel) rfl⟩
theorem fc_O_45 : oFl "OneCoin" 45 10 6 true (.object "OneCoin$Law") := ⟨RX10, TX10, 14, tyX10, "draft", "LOneCoin$Law;", oC10, by decide, rfl, by decide +kernel, Or.inl (oT_mem 432 (by decide +kernel) rfl)⟩
theorem n_O_48 : Cond.classLink "OneCoin" 48 "OneCoin$LawReader" ∈ oT ∧ Cond.instantiable "OneCoin$LawReader" 2 ∈ oT ∧ Cond.initialized "OneCoin$LawReader" ∈ oT := ⟨oT_mem 281 (by decide +kernel) rfl, oT_mem 282 (by decide +kernel) rfl, oT_mem 101 (by decide +kernel) rfl⟩
theorem df_5 : (∀ j, j < 2 → defaultValue (tyX5 j) = oDf ([some none, some none] : List (Option (Option Nat)))[j]?) ∧ ∀ x ∈ ([some none, some none] : List (Option (Option Nat))), x = none ∨ x = some none := ⟨by decide +kernel, by decide +kernel⟩
abbrev m_LR_init : oMI := (⟨"OneCoin$LawReader", "<init>", "(LOneCoin$Tape;LOneCoin$Law;)V"⟩, prog_7_method_1_code, 3, none)
theorem oi_LR_3 : Cond.methodLink "OneCoin$LawReader" 3 Lib.objectInit ∈ oT := oT_mem 286 (by decide +kernel) rfl
theorem fpfc_LR_9 : oFp "OneCoin$LawReader" 9 5 0 (.object "OneCoin$Tape") := ⟨RX5, TX5, 2, tyX5, "text", "LOneCoin$Tape;", oC5, by decide, rfl, by decide +kernel, oT_mem 287 (by decide +kernel) rfl⟩
theorem fc_LR_9 : oFl "OneCoin$LawReader" 9 5 0 true (.object "OneCoin$Tape") := ⟨RX5, TX5, 2, tyX5, "text", "LOneCoin$Tape;", oC5, by decide, rfl, by decide +kernel, Or.inl (oT_mem 287 (by decide +kernel) rfl)⟩
theorem fpfc_LR_15 : oFp "OneCoin$LawReader" 15 5 1 (.object "OneCoin$Law") := ⟨RX5, TX5, 2, tyX5, "draft", "LOneCoin$Law;", oC5, by decide, rfl, by decide +kernel, oT_mem 288 (by decide +kernel) rfl⟩
theorem fc_LR_15 : oFl "OneCoin$LawReader" 15 5 1 true (.object "OneCoin$Law") := ⟨RX5, TX5, 2, tyX5, "draft", "LOneCoin$Law;", oC5, by decide, rfl, by decide +kernel, Or.inl (oT_mem 288 (by decide +kernel) rfl)⟩
theorem co_m_LR_init : oCo m_LR_init 2 := ⟨oT_mem 285 (by decide +kernel) rfl, oT_mem 101 (by decide +kernel) rfl, ⟨by decide +kernel, by decide +kernel, by decide +kernel⟩, by decide⟩
theorem vi_O_50 : oClI "OneCoin" 50 m_LR_init 2 := ⟨Or.inl (oT_mem 283 (by decide +kernel) rfl), oT_mem 284 (by decide +kernel) rfl, co_m_LR_init, rfl, rfl⟩
theorem fpfc_O_53 : oFp "OneCoin" 53 10 7 (.object "OneCoin$LawReader") := ⟨RX10, TX10, 14, tyX10, "lawReader", "LOneCoin$LawReader;", oC10, by decide, rfl, by decide +kernel, oT_mem 433 (by decide +kernel) rfl⟩
theorem fc_O_53 : oFl "OneCoin" 53 10 7 true (.object "OneCoin$LawReader") := ⟨RX10, TX10, 14, tyX10, "lawReader", "LOneCoin$LawReader;", oC10, by decide, rfl, by decide +kernel, Or.inl (oT_mem 433 (by decide +kernel) rfl)⟩
theorem n_O_57 : Cond.classLink "OneCoin" 57 "OneCoin$DebtsReader" ∈ oT ∧ Cond.instantiable "OneCoin$DebtsReader" 3 ∈ oT ∧ Cond.initialized "OneCoin$DebtsReader" ∈ oT := ⟨oT_mem 294 (by decide +kernel) rfl, oT_mem 295 (by decide +kernel) rfl, oT_mem 102 (by decide +kernel) rfl⟩
theorem df_2 : (∀ j, j < 3 → defaultValue (tyX2 j) = oDf ([some none, some none, some none] : List (Option (Option Nat)))[j]?) ∧ ∀ x ∈ ([some none, some none, some none] : List (Option (Option Nat))), x = none ∨ x = some none := ⟨by decide +kernel, by decide +kernel⟩
abbrev m_DR_init : oMI := (⟨"OneCoin$DebtsReader", "<init>", "(LOneCoin$Tape;LOneCoin$People;)V"⟩, prog_4_method_1_code, 3, none)
theorem oi_DR_3 : Cond.methodLink "OneCoin$DebtsReader" 3 Lib.objectInit ∈ oT := oT_mem 299 (by decide +kernel) rfl
theorem fpfc_DR_9 : oFp "OneCoin$DebtsReader" 9 2 2 (.array .int) := ⟨RX2, TX2, 3, tyX2, "draft", "[I", oC2, by decide, rfl, by decide +kernel, oT_mem 302 (by decide +kernel) rfl⟩
theorem fc_DR_9 : oFl "OneCoin$DebtsReader" 9 2 2 true (.array .int) := ⟨RX2, TX2, 3, tyX2, "draft", "[I", oC2, by decide, rfl, by decide +kernel, Or.inl (oT_mem 302 (by decide +kernel) rfl)⟩
theorem fpfc_DR_15 : oFp "OneCoin$DebtsReader" 15 2 0 (.object "OneCoin$Tape") := ⟨RX2, TX2, 3, tyX2, "text", "LOneCoin$Tape;", oC2, by decide, rfl, by decide +kernel, oT_mem 300 (by decide +kernel) rfl⟩
theorem fc_DR_15 : oFl "OneCoin$DebtsReader" 15 2 0 true (.object "OneCoin$Tape") := ⟨RX2, TX2, 3, tyX2, "text", "LOneCoin$Tape;", oC2, by decide, rfl, by decide +kernel, Or.inl (oT_mem 300 (by decide +kernel) rfl)⟩
theorem fpfc_DR_19 : oFp "OneCoin$DebtsReader" 19 2 1 (.object "OneCoin$People") := ⟨RX2, TX2, 3, tyX2, "people", "LOneCoin$People;", oC2, by decide, rfl, by decide +kernel, oT_mem 301 (by decide +kernel) rfl⟩
theorem fc_DR_19 : oFl "OneCoin$DebtsReader" 19 2 1 true (.object "OneCoin$People") := ⟨RX2, TX2, 3, tyX2, "people", "LOneCoin$People;", oC2, by decide, rfl, by decide +kernel, Or.inl (oT_mem 301 (by decide +kernel) rfl)⟩
theorem co_m_DR_init : oCo m_DR_init 2 := ⟨oT_mem 298 (by decide +kernel) rfl, oT_mem 102 (by decide +kernel) rfl, ⟨by decide +kernel, by decide +kernel, by decide +kernel⟩, by decide⟩
theorem vi_O_59 : oClI "OneCoin" 59 m_DR_init 2 := ⟨Or.inl (oT_mem 296 (by decide +kernel) rfl), oT_mem 297 (by decide +kernel) rfl, co_m_DR_init, rfl, rfl⟩
theorem fpfc_O_62 : oFp "OneCoin" 62 10 8 (.object "OneCoin$DebtsReader") := ⟨RX10, TX10, 14, tyX10, "debtsReader", "LOneCoin$DebtsReader;", oC10, by decide, rfl, by decide +kernel, oT_mem 434 (by decide +kernel) rfl⟩
theorem fc_O_62 : oFl "OneCoin" 62 10 8 true (.object "OneCoin$DebtsReader") := ⟨RX10, TX10, 14, tyX10, "debtsReader", "LOneCoin$DebtsReader;", oC10, by decide, rfl, by decide +kernel, Or.inl (oT_mem 434 (by decide +kernel) rfl)⟩
theorem n_O_66 : Cond.classLink "OneCoin" 66 "OneCoin$RouteReader" ∈ oT ∧ Cond.instantiable "OneCoin$RouteReader" 3 ∈ oT ∧ Cond.initialized "OneCoin$RouteReader" ∈ oT := ⟨oT_mem 311 (by decide +kernel) rfl, oT_mem 312 (by decide +kernel) rfl, oT_mem 103 (by decide +kernel) rfl⟩
theorem df_7 : (∀ j, j < 3 → defaultValue (tyX7 j) = oDf ([some none, some none, none] : List (Option (Option Nat)))[j]?) ∧ ∀ x ∈ ([some none, some none, none] : List (Option (Option Nat))), x = none ∨ x = some none := ⟨by decide +kernel, by decide +kernel⟩
abbrev m_RR_init : oMI := (⟨"OneCoin$RouteReader", "<init>", "(LOneCoin$Tape;)V"⟩, prog_9_method_1_code, 2, none)
theorem oi_RR_3 : Cond.methodLink "OneCoin$RouteReader" 3 Lib.objectInit ∈ oT := oT_mem 316 (by decide +kernel) rfl
theorem fpfc_RR_9 : oFp "OneCoin$RouteReader" 9 7 1 (.array .int) := ⟨RX7, TX7, 3, tyX7, "row", "[I", oC7, by decide, rfl, by decide +kernel, oT_mem 318 (by decide +kernel) rfl⟩
theorem fc_RR_9 : oFl "OneCoin$RouteReader" 9 7 1 true (.array .int) := ⟨RX7, TX7, 3, tyX7, "row", "[I", oC7, by decide, rfl, by decide +kernel, Or.inl (oT_mem 318 (by decide +kernel) rfl)⟩
theorem fpfc_RR_15 : oFp "OneCoin$RouteReader" 15 7 0 (.object "OneCoin$Tape") := ⟨RX7, TX7, 3, tyX7, "text", "LOneCoin$Tape;", oC7, by decide, rfl, by decide +kernel, oT_mem 317 (by decide +kernel) rfl⟩
theorem fc_RR_15 : oFl "OneCoin$RouteReader" 15 7 0 true (.object "OneCoin$Tape") := ⟨RX7, TX7, 3, tyX7, "text", "LOneCoin$Tape;", oC7, by decide, rfl, by decide +kernel, Or.inl (oT_mem 317 (by decide +kernel) rfl)⟩
theorem co_m_RR_init : oCo m_RR_init 1 := ⟨oT_mem 315 (by decide +kernel) rfl, oT_mem 103 (by decide +kernel) rfl, ⟨by decide +kernel, by decide +kernel, by decide +kernel⟩, by decide⟩
theorem vi_O_68 : oClI "OneCoin" 68 m_RR_init 1 := ⟨Or.inl (oT_mem 313 (by decide +kernel) rfl), oT_mem 314 (by decide +kernel) rfl, co_m_RR_init, rfl, rfl⟩
theorem fpfc_O_71 : oFp "OneCoin" 71 10 9 (.object "OneCoin$RouteReader") := ⟨RX10, TX10, 14, tyX10, "routeReader", "LOneCoin$RouteReader;", oC10, by decide, rfl, by decide +kernel, oT_mem 435 (by decide +kernel) rfl⟩
theorem fc_O_71 : oFl "OneCoin" 71 10 9 true (.object "OneCoin$RouteReader") := ⟨RX10, TX10, 14, tyX10, "routeReader", "LOneCoin$RouteReader;", oC10, by decide, rfl, by decide +kernel, Or.inl (oT_mem 435 (by decide +kernel) rfl)⟩
theorem n_O_75 : Cond.classLink "OneCoin" 75 "OneCoin$Clock" ∈ oT ∧ Cond.instantiable "OneCoin$Clock" 6 ∈ oT ∧ Cond.initialized "OneCoin$Clock" ∈ oT := ⟨oT_mem 328 (by decide +kernel) rfl, oT_mem 329 (by decide +kernel) rfl, oT_mem 104 (by decide +kernel) rfl⟩
theorem df_1 : (∀ j, j < 6 → defaultValue (tyX1 j) = oDf ([some none, some none, none, none, none, none] : List (Option (Option Nat)))[j]?) ∧ ∀ x ∈ ([some none, some none, none, none, none, none] : List (Option (Option Nat))), x = none ∨ x = some none := ⟨by decide +kernel, by decide +kernel⟩
abbrev m_C_init : oMI := (⟨"OneCoin$Clock", "<init>", "(LOneCoin$People;LOneCoin$Law;)V"⟩, prog_3_method_1_code, 3, none)
theorem oi_C_3 : Cond.methodLink "OneCoin$Clock" 3 Lib.objectInit ∈ oT := oT_mem 333 (by decide +kernel) rfl
theorem fc_C_9 : oFl "OneCoin$Clock" 9 1 5 false (.int) := ⟨RX1, TX1, 6, tyX1, "arrivedAt", "I", oC1, by decide, rfl, by decide +kernel, Or.inl (oT_mem 342 (by decide +kernel) rfl)⟩
theorem fpfc_C_15 : oFp "OneCoin$Clock" 15 1 0 (.object "OneCoin$People") := ⟨RX1, TX1, 6, tyX1, "people", "LOneCoin$People;", oC1, by decide, rfl, by decide +kernel, oT_mem 334 (by decide +kernel) rfl⟩
theorem fc_C_15 : oFl "OneCoin$Clock" 15 1 0 true (.object "OneCoin$People") := ⟨RX1, TX1, 6, tyX1, "people", "LOneCoin$People;", oC1, by decide, rfl, by decide +kernel, Or.inl (oT_mem 334 (by decide +kernel) rfl)⟩
theorem fpfc_C_19 : oFp "OneCoin$Clock" 19 1 1 (.object "OneCoin$Law") := ⟨RX1, TX1, 6, tyX1, "law", "LOneCoin$Law;", oC1, by decide, rfl, by decide +kernel, oT_mem 335 (by decide +kernel) rfl⟩
theorem fc_C_19 : oFl "OneCoin$Clock" 19 1 1 true (.object "OneCoin$Law") := ⟨RX1, TX1, 6, tyX1, "law", "LOneCoin$Law;", oC1, by decide, rfl, by decide +kernel, Or.inl (oT_mem 335 (by decide +kernel) rfl)⟩
theorem co_m_C_init : oCo m_C_init 2 := ⟨oT_mem 332 (by decide +kernel) rfl, oT_mem 104 (by decide +kernel) rfl, ⟨by decide +kernel, by decide +kernel, by decide +kernel⟩, by decide⟩
theorem vi_O_77 : oClI "OneCoin" 77 m_C_init 2 := ⟨Or.inl (oT_mem 330 (by decide +kernel) rfl), oT_mem 331 (by decide +kernel) rfl, co_m_C_init, rfl, rfl⟩
theorem fpfc_O_80 : oFp "OneCoin" 80 10 10 (.object "OneCoin$Clock") := ⟨RX10, TX10, 14, tyX10, "clock", "LOneCoin$Clock;", oC10, by decide, rfl, by decide +kernel, oT_mem 436 (by decide +kernel) rfl⟩
theorem fc_O_80 : oFl "OneCoin" 80 10 10 true (.object "OneCoin$Clock") := ⟨RX10, TX10, 14, tyX10, "clock", "LOneCoin$Clock;", oC10, by decide, rfl, by decide +kernel, Or.inl (oT_mem 436 (by decide +kernel) rfl)⟩
theorem n_O_84 : Cond.classLink "OneCoin" 84 "OneCoin$Rows" ∈ oT ∧ Cond.instantiable "OneCoin$Rows" 8 ∈ oT ∧ Cond.initialized "OneCoin$Rows" ∈ oT := ⟨oT_mem 357 (by decide +kernel) rfl, oT_mem 358 (by decide +kernel) rfl, oT_mem 105 (by decide +kernel) rfl⟩
theorem df_8 : (∀ j, j < 8 → defaultValue (tyX8 j) = oDf ([some none, some none, some none, some none, some none, some none, some none, none] : List (Option (Option Nat)))[j]?) ∧ ∀ x ∈ ([some none, some none, some none, some none, some none, some none, some none, none] : List (Option (Option Nat))), x = none ∨ x = some none := ⟨by decide +kernel, by decide +kernel⟩
abbrev m_R_init : oMI := (⟨"OneCoin$Rows", "<init>", "(LOneCoin$People;)V"⟩, prog_10_method_1_code, 2, none)
theorem oi_R_3 : Cond.methodLink "OneCoin$Rows" 3 Lib.objectInit ∈ oT := oT_mem 362 (by decide +kernel) rfl
theorem fpfc_R_9 : oFp "OneCoin$Rows" 9 8 1 (.array .int) := ⟨RX8, TX8, 8, tyX8, "left", "[I", oC8, by decide, rfl, by decide +kernel, oT_mem 364 (by decide +kernel) rfl⟩
theorem fc_R_9 : oFl "OneCoin$Rows" 9 8 1 true (.array .int) := ⟨RX8, TX8, 8, tyX8, "left", "[I", oC8, by decide, rfl, by decide +kernel, Or.inl (oT_mem 364 (by decide +kernel) rfl)⟩
theorem fpfc_R_15 : oFp "OneCoin$Rows" 15 8 2 (.array .int) := ⟨RX8, TX8, 8, tyX8, "right", "[I", oC8, by decide, rfl, by decide +kernel, oT_mem 365 (by decide +kernel) rfl⟩
theorem fc_R_15 : oFl "OneCoin$Rows" 15 8 2 true (.array .int) := ⟨RX8, TX8, 8, tyX8, "right", "[I", oC8, by decide, rfl, by decide +kernel, Or.inl (oT_mem 365 (by decide +kernel) rfl)⟩
theorem fpfc_R_18 : oFp "OneCoin$Rows" 18 8 3 (.array .int) := ⟨RX8, TX8, 8, tyX8, "pairs", "[I", oC8, by decide, rfl, by decide +kernel, oT_mem 366 (by decide +kernel) rfl⟩
theorem fc_R_18 : oFl "OneCoin$Rows" 18 8 3 true (.array .int) := ⟨RX8, TX8, 8, tyX8, "pairs", "[I", oC8, by decide, rfl, by decide +kernel, Or.inl (oT_mem 366 (by decide +kernel) rfl)⟩
theorem fpfc_R_21 : oFp "OneCoin$Rows" 21 8 4 (.array .int) := ⟨RX8, TX8, 8, tyX8, "far", "[I", oC8, by decide, rfl, by decide +kernel, oT_mem 367 (by decide +kernel) rfl⟩
theorem fc_R_21 : oFl "OneCoin$Rows" 21 8 4 true (.array .int) := ⟨RX8, TX8, 8, tyX8, "far", "[I", oC8, by decide, rfl, by decide +kernel, Or.inl (oT_mem 367 (by decide +kernel) rfl)⟩
theorem fpfc_R_24 : oFp "OneCoin$Rows" 24 8 5 (.array .int) := ⟨RX8, TX8, 8, tyX8, "row", "[I", oC8, by decide, rfl, by decide +kernel, oT_mem 368 (by decide +kernel) rfl⟩
theorem fc_R_24 : oFl "OneCoin$Rows" 24 8 5 true (.array .int) := ⟨RX8, TX8, 8, tyX8, "row", "[I", oC8, by decide, rfl, by decide +kernel, Or.inl (oT_mem 368 (by decide +kernel) rfl)⟩
theorem fpfc_R_27 : oFp "OneCoin$Rows" 27 8 6 (.array .int) := ⟨RX8, TX8, 8, tyX8, "best", "[I", oC8, by decide, rfl, by decide +kernel, oT_mem 370 (by decide +kernel) rfl⟩
theorem fc_R_27 : oFl "OneCoin$Rows" 27 8 6 true (.array .int) := ⟨RX8, TX8, 8, tyX8, "best", "[I", oC8, by decide, rfl, by decide +kernel, Or.inl (oT_mem 370 (by decide +kernel) rfl)⟩
theorem fpfc_R_30 : oFp "OneCoin$Rows" 30 8 0 (.object "OneCoin$People") := ⟨RX8, TX8, 8, tyX8, "people", "LOneCoin$People;", oC8, by decide, rfl, by decide +kernel, oT_mem 363 (by decide +kernel) rfl⟩
theorem fc_R_30 : oFl "OneCoin$Rows" 30 8 0 true (.object "OneCoin$People") := ⟨RX8, TX8, 8, tyX8, "people", "LOneCoin$People;", oC8, by decide, rfl, by decide +kernel, Or.inl (oT_mem 363 (by decide +kernel) rfl)⟩
theorem co_m_R_init : oCo m_R_init 1 := ⟨oT_mem 361 (by decide +kernel) rfl, oT_mem 105 (by decide +kernel) rfl, ⟨by decide +kernel, by decide +kernel, by decide +kernel⟩, by decide⟩
theorem vi_O_86 : oClI "OneCoin" 86 m_R_init 1 := ⟨Or.inl (oT_mem 359 (by decide +kernel) rfl), oT_mem 360 (by decide +kernel) rfl, co_m_R_init, rfl, rfl⟩
theorem fpfc_O_87 : oFp "OneCoin" 87 10 11 (.object "OneCoin$Rows") := ⟨RX10, TX10, 14, tyX10, "rows", "LOneCoin$Rows;", oC10, by decide, rfl, by decide +kernel, oT_mem 437 (by decide +kernel) rfl⟩
theorem fc_O_87 : oFl "OneCoin" 87 10 11 true (.object "OneCoin$Rows") := ⟨RX10, TX10, 14, tyX10, "rows", "LOneCoin$Rows;", oC10, by decide, rfl, by decide +kernel, Or.inl (oT_mem 437 (by decide +kernel) rfl)⟩
theorem n_O_91 : Cond.classLink "OneCoin" 91 "OneCoin$Balance" ∈ oT ∧ Cond.instantiable "OneCoin$Balance" 9 ∈ oT ∧ Cond.initialized "OneCoin$Balance" ∈ oT := ⟨oT_mem 390 (by decide +kernel) rfl, oT_mem 391 (by decide +kernel) rfl, oT_mem 106 (by decide +kernel) rfl⟩
theorem df_0 : (∀ j, j < 9 → defaultValue (tyX0 j) = oDf ([some none, some none, some none, some none, some none, some none, some none, some none, none] : List (Option (Option Nat)))[j]?) ∧ ∀ x ∈ ([some none, some none, some none, some none, some none, some none, some none, some none, none] : List (Option (Option Nat))), x = none ∨ x = some none := ⟨by decide +kernel, by decide +kernel⟩
abbrev m_B_init : oMI := (⟨"OneCoin$Balance", "<init>", "(LOneCoin$People;)V"⟩, prog_2_method_1_code, 2, none)
theorem oi_B_3 : Cond.methodLink "OneCoin$Balance" 3 Lib.objectInit ∈ oT := oT_mem 395 (by decide +kernel) rfl
theorem fpfc_B_9 : oFp "OneCoin$Balance" 9 0 1 (.array .int) := ⟨RX0, TX0, 9, tyX0, "more", "[I", oC0, by decide, rfl, by decide +kernel, oT_mem 397 (by decide +kernel) rfl⟩
theorem fc_B_9 : oFl "OneCoin$Balance" 9 0 1 true (.array .int) := ⟨RX0, TX0, 9, tyX0, "more", "[I", oC0, by decide, rfl, by decide +kernel, Or.inl (oT_mem 397 (by decide +kernel) rfl)⟩
theorem fpfc_B_15 : oFp "OneCoin$Balance" 15 0 2 (.array .int) := ⟨RX0, TX0, 9, tyX0, "rest", "[I", oC0, by decide, rfl, by decide +kernel, oT_mem 398 (by decide +kernel) rfl⟩
theorem fc_B_15 : oFl "OneCoin$Balance" 15 0 2 true (.array .int) := ⟨RX0, TX0, 9, tyX0, "rest", "[I", oC0, by decide, rfl, by decide +kernel, Or.inl (oT_mem 398 (by decide +kernel) rfl)⟩
theorem fpfc_B_18 : oFp "OneCoin$Balance" 18 0 3 (.array .int) := ⟨RX0, TX0, 9, tyX0, "debtors", "[I", oC0, by decide, rfl, by decide +kernel, oT_mem 399 (by decide +kernel) rfl⟩
theorem fc_B_18 : oFl "OneCoin$Balance" 18 0 3 true (.array .int) := ⟨RX0, TX0, 9, tyX0, "debtors", "[I", oC0, by decide, rfl, by decide +kernel, Or.inl (oT_mem 399 (by decide +kernel) rfl)⟩
theorem fpfc_B_21 : oFp "OneCoin$Balance" 21 0 4 (.array .int) := ⟨RX0, TX0, 9, tyX0, "row", "[I", oC0, by decide, rfl, by decide +kernel, oT_mem 400 (by decide +kernel) rfl⟩
theorem fc_B_21 : oFl "OneCoin$Balance" 21 0 4 true (.array .int) := ⟨RX0, TX0, 9, tyX0, "row", "[I", oC0, by decide, rfl, by decide +kernel, Or.inl (oT_mem 400 (by decide +kernel) rfl)⟩
theorem fpfc_B_24 : oFp "OneCoin$Balance" 24 0 5 (.array .int) := ⟨RX0, TX0, 9, tyX0, "best", "[I", oC0, by decide, rfl, by decide +kernel, oT_mem 401 (by decide +kernel) rfl⟩
theorem fc_B_24 : oFl "OneCoin$Balance" 24 0 5 true (.array .int) := ⟨RX0, TX0, 9, tyX0, "best", "[I", oC0, by decide, rfl, by decide +kernel, Or.inl (oT_mem 401 (by decide +kernel) rfl)⟩
theorem fpfc_B_27 : oFp "OneCoin$Balance" 27 0 6 (.array .int) := ⟨RX0, TX0, 9, tyX0, "pairs", "[I", oC0, by decide, rfl, by decide +kernel, oT_mem 403 (by decide +kernel) rfl⟩
theorem fc_B_27 : oFl "OneCoin$Balance" 27 0 6 true (.array .int) := ⟨RX0, TX0, 9, tyX0, "pairs", "[I", oC0, by decide, rfl, by decide +kernel, Or.inl (oT_mem 403 (by decide +kernel) rfl)⟩
theorem fpfc_B_30 : oFp "OneCoin$Balance" 30 0 7 (.array .int) := ⟨RX0, TX0, 9, tyX0, "groups", "[I", oC0, by decide, rfl, by decide +kernel, oT_mem 404 (by decide +kernel) rfl⟩
theorem fc_B_30 : oFl "OneCoin$Balance" 30 0 7 true (.array .int) := ⟨RX0, TX0, 9, tyX0, "groups", "[I", oC0, by decide, rfl, by decide +kernel, Or.inl (oT_mem 404 (by decide +kernel) rfl)⟩
theorem fpfc_B_33 : oFp "OneCoin$Balance" 33 0 0 (.object "OneCoin$People") := ⟨RX0, TX0, 9, tyX0, "people", "LOneCoin$People;", oC0, by decide, rfl, by decide +kernel, oT_mem 396 (by decide +kernel) rfl⟩
theorem fc_B_33 : oFl "OneCoin$Balance" 33 0 0 true (.object "OneCoin$People") := ⟨RX0, TX0, 9, tyX0, "people", "LOneCoin$People;", oC0, by decide, rfl, by decide +kernel, Or.inl (oT_mem 396 (by decide +kernel) rfl)⟩
theorem co_m_B_init : oCo m_B_init 1 := ⟨oT_mem 394 (by decide +kernel) rfl, oT_mem 106 (by decide +kernel) rfl, ⟨by decide +kernel, by decide +kernel, by decide +kernel⟩, by decide⟩
theorem vi_O_93 : oClI "OneCoin" 93 m_B_init 1 := ⟨Or.inl (oT_mem 392 (by decide +kernel) rfl), oT_mem 393 (by decide +kernel) rfl, co_m_B_init, rfl, rfl⟩
theorem fpfc_O_94 : oFp "OneCoin" 94 10 12 (.object "OneCoin$Balance") := ⟨RX10, TX10, 14, tyX10, "balance", "LOneCoin$Balance;", oC10, by decide, rfl, by decide +kernel, oT_mem 438 (by decide +kernel) rfl⟩
theorem fc_O_94 : oFl "OneCoin" 94 10 12 true (.object "OneCoin$Balance") := ⟨RX10, TX10, 14, tyX10, "balance", "LOneCoin$Balance;", oC10, by decide, rfl, by decide +kernel, Or.inl (oT_mem 438 (by decide +kernel) rfl)⟩
abbrev m_M_init : oMI := (⟨"OneCoinModel", "<init>", "()V"⟩, prog_13_method_1_code, 1, none)
theorem oi_M_1 : Cond.methodLink "OneCoinModel" 1 Lib.objectInit ∈ oT := oT_mem 1096 (by decide +kernel) rfl
theorem fpfc_M_7 : oFp "OneCoinModel" 7 11 0 (.array .int) := ⟨RX11, TX11, 62, tyX11, "now", "[I", oC11, by decide, rfl, by decide +kernel, oT_mem 1098 (by decide +kernel) rfl⟩
theorem fc_M_7 : oFl "OneCoinModel" 7 11 0 true (.array .int) := ⟨RX11, TX11, 62, tyX11, "now", "[I", oC11, by decide, rfl, by decide +kernel, Or.inl (oT_mem 1098 (by decide +kernel) rfl)⟩
theorem fpfc_M_13 : oFp "OneCoinModel" 13 11 1 (.array .int) := ⟨RX11, TX11, 62, tyX11, "aside", "[I", oC11, by decide, rfl, by decide +kernel, oT_mem 1099 (by decide +kernel) rfl⟩
theorem fc_M_13 : oFl "OneCoinModel" 13 11 1 true (.array .int) := ⟨RX11, TX11, 62, tyX11, "aside", "[I", oC11, by decide, rfl, by decide +kernel, Or.inl (oT_mem 1099 (by decide +kernel) rfl)⟩
theorem fpfc_M_16 : oFp "OneCoinModel" 16 11 2 (.array .int) := ⟨RX11, TX11, 62, tyX11, "kept", "[I", oC11, by decide, rfl, by decide +kernel, oT_mem 1100 (by decide +kernel) rfl⟩
theorem fc_M_16 : oFl "OneCoinModel" 16 11 2 true (.array .int) := ⟨RX11, TX11, 62, tyX11, "kept", "[I", oC11, by decide, rfl, by decide +kernel, Or.inl (oT_mem 1100 (by decide +kernel) rfl)⟩
theorem fpfc_M_19 : oFp "OneCoinModel" 19 11 3 (.array .int) := ⟨RX11, TX11, 62, tyX11, "spotX", "[I", oC11, by decide, rfl, by decide +kernel, oT_mem 1101 (by decide +kernel) rfl⟩
theorem fc_M_19 : oFl "OneCoinModel" 19 11 3 true (.array .int) := ⟨RX11, TX11, 62, tyX11, "spotX", "[I", oC11, by decide, rfl, by decide +kernel, Or.inl (oT_mem 1101 (by decide +kernel) rfl)⟩
theorem fpfc_M_22 : oFp "OneCoinModel" 22 11 4 (.array .int) := ⟨RX11, TX11, 62, tyX11, "spotY", "[I", oC11, by decide, rfl, by decide +kernel, oT_mem 1102 (by decide +kernel) rfl⟩
theorem fc_M_22 : oFl "OneCoinModel" 22 11 4 true (.array .int) := ⟨RX11, TX11, 62, tyX11, "spotY", "[I", oC11, by decide, rfl, by decide +kernel, Or.inl (oT_mem 1102 (by decide +kernel) rfl)⟩
theorem ac_byte : Cond.arrayClass (newarray.typeOf .byte) ∈ oT := oT_mem 685 (by decide +kernel) rfl
theorem fpfc_M_25 : oFp "OneCoinModel" 25 11 6 (.array .byte) := ⟨RX11, TX11, 62, tyX11, "tape", "[B", oC11, by decide, rfl, by decide +kernel, oT_mem 1104 (by decide +kernel) rfl⟩
theorem fc_M_25 : oFl "OneCoinModel" 25 11 6 true (.array .byte) := ⟨RX11, TX11, 62, tyX11, "tape", "[B", oC11, by decide, rfl, by decide +kernel, Or.inl (oT_mem 1104 (by decide +kernel) rfl)⟩
theorem fpfc_M_29 : oFp "OneCoinModel" 29 11 17 (.array .int) := ⟨RX11, TX11, 62, tyX11, "said", "[I", oC11, by decide, rfl, by decide +kernel, oT_mem 1115 (by decide +kernel) rfl⟩
theorem fc_M_29 : oFl "OneCoinModel" 29 11 17 true (.array .int) := ⟨RX11, TX11, 62, tyX11, "said", "[I", oC11, by decide, rfl, by decide +kernel, Or.inl (oT_mem 1115 (by decide +kernel) rfl)⟩
theorem fpfc_M_32 : oFp "OneCoinModel" 32 11 18 (.array .int) := ⟨RX11, TX11, 62, tyX11, "waitsAt", "[I", oC11, by decide, rfl, by decide +kernel, oT_mem 1116 (by decide +kernel) rfl⟩
theorem fc_M_32 : oFl "OneCoinModel" 32 11 18 true (.array .int) := ⟨RX11, TX11, 62, tyX11, "waitsAt", "[I", oC11, by decide, rfl, by decide +kernel, Or.inl (oT_mem 1116 (by decide +kernel) rfl)⟩
theorem fpfc_M_35 : oFp "OneCoinModel" 35 11 19 (.array .int) := ⟨RX11, TX11, 62, tyX11, "saidLetter", "[I", oC11, by decide, rfl, by decide +kernel, oT_mem 1117 (by decide +kernel) rfl⟩
theorem fc_M_35 : oFl "OneCoinModel" 35 11 19 true (.array .int) := ⟨RX11, TX11, 62, tyX11, "saidLetter", "[I", oC11, by decide, rfl, by decide +kernel, Or.inl (oT_mem 1117 (by decide +kernel) rfl)⟩
theorem fpfc_M_38 : oFp "OneCoinModel" 38 11 20 (.array .int) := ⟨RX11, TX11, 62, tyX11, "saidFrom", "[I", oC11, by decide, rfl, by decide +kernel, oT_mem 1118 (by decide +kernel) rfl⟩
theorem fc_M_38 : oFl "OneCoinModel" 38 11 20 true (.array .int) := ⟨RX11, TX11, 62, tyX11, "saidFrom", "[I", oC11, by decide, rfl, by decide +kernel, Or.inl (oT_mem 1118 (by decide +kernel) rfl)⟩
theorem fpfc_M_41 : oFp "OneCoinModel" 41 11 21 (.array .int) := ⟨RX11, TX11, 62, tyX11, "saidHalf", "[I", oC11, by decide, rfl, by decide +kernel, oT_mem 1119 (by decide +kernel) rfl⟩
theorem fc_M_41 : oFl "OneCoinModel" 41 11 21 true (.array .int) := ⟨RX11, TX11, 62, tyX11, "saidHalf", "[I", oC11, by decide, rfl, by decide +kernel, Or.inl (oT_mem 1119 (by decide +kernel) rfl)⟩
theorem fpfc_M_44 : oFp "OneCoinModel" 44 11 22 (.array .int) := ⟨RX11, TX11, 62, tyX11, "saidTo", "[I", oC11, by decide, rfl, by decide +kernel, oT_mem 1120 (by decide +kernel) rfl⟩
theorem fc_M_44 : oFl "OneCoinModel" 44 11 22 true (.array .int) := ⟨RX11, TX11, 62, tyX11, "saidTo", "[I", oC11, by decide, rfl, by decide +kernel, Or.inl (oT_mem 1120 (by decide +kernel) rfl)⟩
theorem fpfc_M_47 : oFp "OneCoinModel" 47 11 23 (.array .int) := ⟨RX11, TX11, 62, tyX11, "codes", "[I", oC11, by decide, rfl, by decide +kernel, oT_mem 1121 (by decide +kernel) rfl⟩
theorem fc_M_47 : oFl "OneCoinModel" 47 11 23 true (.array .int) := ⟨RX11, TX11, 62, tyX11, "codes", "[I", oC11, by decide, rfl, by decide +kernel, Or.inl (oT_mem 1121 (by decide +kernel) rfl)⟩
theorem fpfc_M_50 : oFp "OneCoinModel" 50 11 24 (.array .int) := ⟨RX11, TX11, 62, tyX11, "clauseOf", "[I", oC11, by decide, rfl, by decide +kernel, oT_mem 1122 (by decide +kernel) rfl⟩
theorem fc_M_50 : oFl "OneCoinModel" 50 11 24 true (.array .int) := ⟨RX11, TX11, 62, tyX11, "clauseOf", "[I", oC11, by decide, rfl, by decide +kernel, Or.inl (oT_mem 1122 (by decide +kernel) rfl)⟩
theorem fpfc_M_53 : oFp "OneCoinModel" 53 11 25 (.array .int) := ⟨RX11, TX11, 62, tyX11, "codeFrom", "[I", oC11, by decide, rfl, by decide +kernel, oT_mem 1123 (by decide +kernel) rfl⟩
theorem fc_M_53 : oFl "OneCoinModel" 53 11 25 true (.array .int) := ⟨RX11, TX11, 62, tyX11, "codeFrom", "[I", oC11, by decide, rfl, by decide +kernel, Or.inl (oT_mem 1123 (by decide +kernel) rfl)⟩
theorem fpfc_M_56 : oFp "OneCoinModel" 56 11 26 (.array .int) := ⟨RX11, TX11, 62, tyX11, "codeHalf", "[I", oC11, by decide, rfl, by decide +kernel, oT_mem 1124 (by decide +kernel) rfl⟩
theorem fc_M_56 : oFl "OneCoinModel" 56 11 26 true (.array .int) := ⟨RX11, TX11, 62, tyX11, "codeHalf", "[I", oC11, by decide, rfl, by decide +kernel, Or.inl (oT_mem 1124 (by decide +kernel) rfl)⟩
theorem fpfc_M_59 : oFp "OneCoinModel" 59 11 27 (.array .int) := ⟨RX11, TX11, 62, tyX11, "codeTo", "[I", oC11, by decide, rfl, by decide +kernel, oT_mem 1125 (by decide +kernel) rfl⟩
theorem fc_M_59 : oFl "OneCoinModel" 59 11 27 true (.array .int) := ⟨RX11, TX11, 62, tyX11, "codeTo", "[I", oC11, by decide, rfl, by decide +kernel, Or.inl (oT_mem 1125 (by decide +kernel) rfl)⟩
theorem fpfc_M_62 : oFp "OneCoinModel" 62 11 28 (.array .int) := ⟨RX11, TX11, 62, tyX11, "stack", "[I", oC11, by decide, rfl, by decide +kernel, oT_mem 1126 (by decide +kernel) rfl⟩
theorem fc_M_62 : oFl "OneCoinModel" 62 11 28 true (.array .int) := ⟨RX11, TX11, 62, tyX11, "stack", "[I", oC11, by decide, rfl, by decide +kernel, Or.inl (oT_mem 1126 (by decide +kernel) rfl)⟩
theorem fpfc_M_65 : oFp "OneCoinModel" 65 11 29 (.array .int) := ⟨RX11, TX11, 62, tyX11, "facts", "[I", oC11, by decide, rfl, by decide +kernel, oT_mem 1127 (by decide +kernel) rfl⟩
theorem fc_M_65 : oFl "OneCoinModel" 65 11 29 true (.array .int) := ⟨RX11, TX11, 62, tyX11, "facts", "[I", oC11, by decide, rfl, by decide +kernel, Or.inl (oT_mem 1127 (by decide +kernel) rfl)⟩
theorem fpfc_M_68 : oFp "OneCoinModel" 68 11 30 (.array .int) := ⟨RX11, TX11, 62, tyX11, "newDebt", "[I", oC11, by decide, rfl, by decide +kernel, oT_mem 1128 (by decide +kernel) rfl⟩
theorem fc_M_68 : oFl "OneCoinModel" 68 11 30 true (.array .int) := ⟨RX11, TX11, 62, tyX11, "newDebt", "[I", oC11, by decide, rfl, by decide +kernel, Or.inl (oT_mem 1128 (by decide +kernel) rfl)⟩
theorem fpfc_M_71 : oFp "OneCoinModel" 71 11 36 (.array .int) := ⟨RX11, TX11, 62, tyX11, "newStep", "[I", oC11, by decide, rfl, by decide +kernel, oT_mem 1134 (by decide +kernel) rfl⟩
theorem fc_M_71 : oFl "OneCoinModel" 71 11 36 true (.array .int) := ⟨RX11, TX11, 62, tyX11, "newStep", "[I", oC11, by decide, rfl, by decide +kernel, Or.inl (oT_mem 1134 (by decide +kernel) rfl)⟩
theorem fpfc_M_74 : oFp "OneCoinModel" 74 11 37 (.array .int) := ⟨RX11, TX11, 62, tyX11, "roundFrom", "[I", oC11, by decide, rfl, by decide +kernel, oT_mem 1135 (by decide +kernel) rfl⟩
theorem fc_M_74 : oFl "OneCoinModel" 74 11 37 true (.array .int) := ⟨RX11, TX11, 62, tyX11, "roundFrom", "[I", oC11, by decide, rfl, by decide +kernel, Or.inl (oT_mem 1135 (by decide +kernel) rfl)⟩
theorem fpfc_M_77 : oFp "OneCoinModel" 77 11 38 (.array .int) := ⟨RX11, TX11, 62, tyX11, "roundAt", "[I", oC11, by decide, rfl, by decide +kernel, oT_mem 1136 (by decide +kernel) rfl⟩
theorem fc_M_77 : oFl "OneCoinModel" 77 11 38 true (.array .int) := ⟨RX11, TX11, 62, tyX11, "roundAt", "[I", oC11, by decide, rfl, by decide +kernel, Or.inl (oT_mem 1136 (by decide +kernel) rfl)⟩
theorem fpfc_M_80 : oFp "OneCoinModel" 80 11 39 (.array .int) := ⟨RX11, TX11, 62, tyX11, "roundTimes", "[I", oC11, by decide, rfl, by decide +kernel, oT_mem 1137 (by decide +kernel) rfl⟩
theorem fc_M_80 : oFl "OneCoinModel" 80 11 39 true (.array .int) := ⟨RX11, TX11, 62, tyX11, "roundTimes", "[I", oC11, by decide, rfl, by decide +kernel, Or.inl (oT_mem 1137 (by decide +kernel) rfl)⟩
theorem fpfc_M_83 : oFp "OneCoinModel" 83 11 46 (.array .int) := ⟨RX11, TX11, 62, tyX11, "leftDebt", "[I", oC11, by decide, rfl, by decide +kernel, oT_mem 1144 (by decide +kernel) rfl⟩
theorem fc_M_83 : oFl "OneCoinModel" 83 11 46 true (.array .int) := ⟨RX11, TX11, 62, tyX11, "leftDebt", "[I", oC11, by decide, rfl, by decide +kernel, Or.inl (oT_mem 1144 (by decide +kernel) rfl)⟩
theorem fpfc_M_86 : oFp "OneCoinModel" 86 11 47 (.array .int) := ⟨RX11, TX11, 62, tyX11, "tourStep", "[I", oC11, by decide, rfl, by decide +kernel, oT_mem 1145 (by decide +kernel) rfl⟩
theorem fc_M_86 : oFl "OneCoinModel" 86 11 47 true (.array .int) := ⟨RX11, TX11, 62, tyX11, "tourStep", "[I", oC11, by decide, rfl, by decide +kernel, Or.inl (oT_mem 1145 (by decide +kernel) rfl)⟩
theorem fpfc_M_89 : oFp "OneCoinModel" 89 11 48 (.array .int) := ⟨RX11, TX11, 62, tyX11, "coinFrom", "[I", oC11, by decide, rfl, by decide +kernel, oT_mem 1146 (by decide +kernel) rfl⟩
theorem fc_M_89 : oFl "OneCoinModel" 89 11 48 true (.array .int) := ⟨RX11, TX11, 62, tyX11, "coinFrom", "[I", oC11, by decide, rfl, by decide +kernel, Or.inl (oT_mem 1146 (by decide +kernel) rfl)⟩
theorem fpfc_M_92 : oFp "OneCoinModel" 92 11 49 (.array .int) := ⟨RX11, TX11, 62, tyX11, "coinTo", "[I", oC11, by decide, rfl, by decide +kernel, oT_mem 1147 (by decide +kernel) rfl⟩
theorem fc_M_92 : oFl "OneCoinModel" 92 11 49 true (.array .int) := ⟨RX11, TX11, 62, tyX11, "coinTo", "[I", oC11, by decide, rfl, by decide +kernel, Or.inl (oT_mem 1147 (by decide +kernel) rfl)⟩
theorem kc_M_95 : Cond.constant "OneCoinModel" 95 (Int32.ofInt 40960) ∈ oT := oT_mem 1097 (by decide +kernel) rfl
theorem fpfc_M_96 : oFp "OneCoinModel" 96 11 51 (.array .byte) := ⟨RX11, TX11, 62, tyX11, "moreBy", "[B", oC11, by decide, rfl, by decide +kernel, oT_mem 1149 (by decide +kernel) rfl⟩
theorem fc_M_96 : oFl "OneCoinModel" 96 11 51 true (.array .byte) := ⟨RX11, TX11, 62, tyX11, "moreBy", "[B", oC11, by decide, rfl, by decide +kernel, Or.inl (oT_mem 1149 (by decide +kernel) rfl)⟩
theorem fpfc_M_99 : oFp "OneCoinModel" 99 11 52 (.array .int) := ⟨RX11, TX11, 62, tyX11, "stepsTo", "[I", oC11, by decide, rfl, by decide +kernel, oT_mem 1150 (by decide +kernel) rfl⟩
theorem fc_M_99 : oFl "OneCoinModel" 99 11 52 true (.array .int) := ⟨RX11, TX11, 62, tyX11, "stepsTo", "[I", oC11, by decide, rfl, by decide +kernel, Or.inl (oT_mem 1150 (by decide +kernel) rfl)⟩
theorem fpfc_M_102 : oFp "OneCoinModel" 102 11 53 (.array .int) := ⟨RX11, TX11, 62, tyX11, "hoursTo", "[I", oC11, by decide, rfl, by decide +kernel, oT_mem 1151 (by decide +kernel) rfl⟩
theorem fc_M_102 : oFl "OneCoinModel" 102 11 53 true (.array .int) := ⟨RX11, TX11, 62, tyX11, "hoursTo", "[I", oC11, by decide, rfl, by decide +kernel, Or.inl (oT_mem 1151 (by decide +kernel) rfl)⟩
theorem fpfc_M_105 : oFp "OneCoinModel" 105 11 54 (.array .int) := ⟨RX11, TX11, 62, tyX11, "lackOf", "[I", oC11, by decide, rfl, by decide +kernel, oT_mem 1152 (by decide +kernel) rfl⟩
theorem fc_M_105 : oFl "OneCoinModel" 105 11 54 true (.array .int) := ⟨RX11, TX11, 62, tyX11, "lackOf", "[I", oC11, by decide, rfl, by decide +kernel, Or.inl (oT_mem 1152 (by decide +kernel) rfl)⟩
theorem fpfc_M_108 : oFp "OneCoinModel" 108 11 55 (.array .int) := ⟨RX11, TX11, 62, tyX11, "wantOf", "[I", oC11, by decide, rfl, by decide +kernel, oT_mem 1153 (by decide +kernel) rfl⟩
theorem fc_M_108 : oFl "OneCoinModel" 108 11 55 true (.array .int) := ⟨RX11, TX11, 62, tyX11, "wantOf", "[I", oC11, by decide, rfl, by decide +kernel, Or.inl (oT_mem 1153 (by decide +kernel) rfl)⟩
theorem fpfc_M_111 : oFp "OneCoinModel" 111 11 56 (.array .int) := ⟨RX11, TX11, 62, tyX11, "rowNow", "[I", oC11, by decide, rfl, by decide +kernel, oT_mem 1154 (by decide +kernel) rfl⟩
theorem fc_M_111 : oFl "OneCoinModel" 111 11 56 true (.array .int) := ⟨RX11, TX11, 62, tyX11, "rowNow", "[I", oC11, by decide, rfl, by decide +kernel, Or.inl (oT_mem 1154 (by decide +kernel) rfl)⟩
theorem fpfc_M_114 : oFp "OneCoinModel" 114 11 57 (.array .int) := ⟨RX11, TX11, 62, tyX11, "rowBest", "[I", oC11, by decide, rfl, by decide +kernel, oT_mem 1155 (by decide +kernel) rfl⟩
theorem fc_M_114 : oFl "OneCoinModel" 114 11 57 true (.array .int) := ⟨RX11, TX11, 62, tyX11, "rowBest", "[I", oC11, by decide, rfl, by decide +kernel, Or.inl (oT_mem 1155 (by decide +kernel) rfl)⟩
theorem fpfc_M_117 : oFp "OneCoinModel" 117 11 59 (.array .int) := ⟨RX11, TX11, 62, tyX11, "sumOf", "[I", oC11, by decide, rfl, by decide +kernel, oT_mem 1157 (by decide +kernel) rfl⟩
theorem fc_M_117 : oFl "OneCoinModel" 117 11 59 true (.array .int) := ⟨RX11, TX11, 62, tyX11, "sumOf", "[I", oC11, by decide, rfl, by decide +kernel, Or.inl (oT_mem 1157 (by decide +kernel) rfl)⟩
theorem fpfc_M_120 : oFp "OneCoinModel" 120 11 60 (.array .int) := ⟨RX11, TX11, 62, tyX11, "groupsOf", "[I", oC11, by decide, rfl, by decide +kernel, oT_mem 1158 (by decide +kernel) rfl⟩
theorem fc_M_120 : oFl "OneCoinModel" 120 11 60 true (.array .int) := ⟨RX11, TX11, 62, tyX11, "groupsOf", "[I", oC11, by decide, rfl, by decide +kernel, Or.inl (oT_mem 1158 (by decide +kernel) rfl)⟩
theorem ci_T_1 {l : Launch} (M : oM) : oK l m_T_init 1 1 260 [vr 1] WC2 M (fun _ wd' M' => wd' = WC3 ∧ M' = mi_T_1 M) := by
  refine oK_intro (lv := [vr 1]) (by decide +kernel) (Nat.le_of_ble_eq_true rfl) rfl ?_
  refine oj_ald0 (pc := 0) (by decide +kernel) ?_
  refine oj_objInit (pc := 1) oi_T_3 oi_.1 oi_.2 (Nat.le_of_ble_eq_true rfl) (Nat.le_of_ble_eq_true rfl) (by decide +kernel) ?_
  refine oj_ald0 (pc := 4) (by decide +kernel) ?_
  refine oj_sipush (pc := 5) (v := 260) ⟨by decide, by decide⟩ (by decide +kernel) ?_
  refine oj_newa (pc := 8) (b := false) (aty := .int) (N := 260) (NN := 260) (by decide) ac_int rfl (Nat.le_of_ble_eq_true rfl) (Nat.le_of_ble_eq_true rfl) (Nat.le_of_ble_eq_true rfl) (Nat.le_of_ble_eq_true rfl) (by decide +kernel) ?_
  refine oj_putF (pc := 10) (r := 2) fpfc_T_9 ⟨_, rfl, rfl⟩ rfl rfl (Nat.le_of_ble_eq_true rfl) ⟨rfl, fun _ => ⟨rfl, rfl⟩⟩ (by decide +kernel) ?_
  refine oj_ald0 (pc := 13) (by decide +kernel) ?_
  refine oj_iconst (pc := 14) (v := -1) ⟨by decide, by decide⟩ (by decide +kernel) ?_
  refine oj_putI (pc := 15) (ki := 4) fc_T_15 rfl rfl rfl (by decide +kernel) ?_
  exact oj_vret (pc := 18) (by decide +kernel) rfl (Nat.le_of_ble_eq_true rfl) (Nat.le_of_ble_eq_true rfl) ⟨rfl, rfl⟩
theorem ci_P_3 {l : Launch} (M : oM) : oK l m_P_init 1 2 20 [vr 3] WC4 M (fun _ wd' M' => wd' = WC5 ∧ M' = mi_P_3 M) := by
  refine oK_intro (lv := [vr 3]) (by decide +kernel) (Nat.le_of_ble_eq_true rfl) rfl ?_
  refine oj_ald0 (pc := 0) (by decide +kernel) ?_
  refine oj_objInit (pc := 1) oi_P_3 oi_.1 oi_.2 (Nat.le_of_ble_eq_true rfl) (Nat.le_of_ble_eq_true rfl) (by decide +kernel) ?_
  refine oj_ald0 (pc := 4) (by decide +kernel) ?_
  refine oj_bipush (pc := 5) (v := 10) ⟨by decide, by decide⟩ (by decide +kernel) ?_
  refine oj_newa (pc := 7) (b := false) (aty := .int) (N := 10) (NN := 10) (by decide) ac_int rfl (Nat.le_of_ble_eq_true rfl) (Nat.le_of_ble_eq_true rfl) (Nat.le_of_ble_eq_true rfl) (Nat.le_of_ble_eq_true rfl) (by decide +kernel) ?_
  refine oj_putF (pc := 9) (r := 4) fpfc_P_9 ⟨_, rfl, rfl⟩ rfl rfl (Nat.le_of_ble_eq_true rfl) ⟨rfl, fun _ => ⟨rfl, rfl⟩⟩ (by decide +kernel) ?_
  refine oj_ald0 (pc := 12) (by decide +kernel) ?_
  refine oj_bipush (pc := 13) (v := 10) ⟨by decide, by decide⟩ (by decide +kernel) ?_
  refine oj_newa (pc := 15) (b := false) (aty := .int) (N := 10) (NN := 10) (by decide) ac_int rfl (Nat.le_of_ble_eq_true rfl) (Nat.le_of_ble_eq_true rfl) (Nat.le_of_ble_eq_true rfl) (Nat.le_of_ble_eq_true rfl) (by decide +kernel) ?_
  refine oj_putF (pc := 17) (r := 5) fpfc_P_15 ⟨_, rfl, rfl⟩ rfl rfl (Nat.le_of_ble_eq_true rfl) ⟨rfl, fun _ => ⟨rfl, rfl⟩⟩ (by decide +kernel) ?_
  refine oj_wd (wd := WC5) rfl ?_
  exact oj_vret (pc := 20) (by decide +kernel) rfl (Nat.le_of_ble_eq_true rfl) (Nat.le_of_ble_eq_true rfl) ⟨rfl, rfl⟩
theorem ci_D_6 {l : Launch} (M : oM) : oK l m_D_init 1 3 150 [vr 6] WC6 M (fun _ wd' M' => wd' = WC8 ∧ M' = mi_D_6 M) := by
  refine oK_intro (lv := [vr 6]) (by decide +kernel) (Nat.le_of_ble_eq_true rfl) rfl ?_
  refine oj_ald0 (pc := 0) (by decide +kernel) ?_
  refine oj_objInit (pc := 1) oi_D_3 oi_.1 oi_.2 (Nat.le_of_ble_eq_true rfl) (Nat.le_of_ble_eq_true rfl) (by decide +kernel) ?_
  refine oj_ald0 (pc := 4) (by decide +kernel) ?_
  refine oj_bipush (pc := 5) (v := 100) ⟨by decide, by decide⟩ (by decide +kernel) ?_
  refine oj_newa (pc := 7) (b := false) (aty := .int) (N := 100) (NN := 100) (by decide) ac_int rfl (Nat.le_of_ble_eq_true rfl) (Nat.le_of_ble_eq_true rfl) (Nat.le_of_ble_eq_true rfl) (Nat.le_of_ble_eq_true rfl) (by decide +kernel) ?_
  refine oj_putF (pc := 9) (r := 7) fpfc_D_9 ⟨_, rfl, rfl⟩ rfl rfl (Nat.le_of_ble_eq_true rfl) ⟨rfl, fun _ => ⟨rfl, rfl⟩⟩ (by decide +kernel) ?_
  refine oj_ald0 (pc := 12) (by decide +kernel) ?_
  refine oj_bipush (pc := 13) (v := 10) ⟨by decide, by decide⟩ (by decide +kernel) ?_
  refine oj_newa (pc := 15) (b := false) (aty := .int) (N := 10) (NN := 10) (by decide) ac_int rfl (Nat.le_of_ble_eq_true rfl) (Nat.le_of_ble_eq_true rfl) (Nat.le_of_ble_eq_true rfl) (Nat.le_of_ble_eq_true rfl) (by decide +kernel) ?_
  refine oj_putF (pc := 17) (r := 8) fpfc_D_15 ⟨_, rfl, rfl⟩ rfl rfl (Nat.le_of_ble_eq_true rfl) ⟨rfl, fun _ => ⟨rfl, rfl⟩⟩ (by decide +kernel) ?_
  refine oj_wd (wd := WC7) rfl ?_
  refine oj_ald0 (pc := 20) (by decide +kernel) ?_
  refine oj_bipush (pc := 21) (v := 40) ⟨by decide, by decide⟩ (by decide +kernel) ?_
  refine oj_newa (pc := 23) (b := false) (aty := .int) (N := 40) (NN := 40) (by decide) ac_int rfl (Nat.le_of_ble_eq_true rfl) (Nat.le_of_ble_eq_true rfl) (Nat.le_of_ble_eq_true rfl) (Nat.le_of_ble_eq_true rfl) (by decide +kernel) ?_
  refine oj_putF (pc := 25) (r := 9) fpfc_D_18 ⟨_, rfl, rfl⟩ rfl rfl (Nat.le_of_ble_eq_true rfl) ⟨rfl, fun _ => ⟨rfl, rfl⟩⟩ (by decide +kernel) ?_
  refine oj_ald0 (pc := 28) (by decide +kernel) ?_
  refine oj_iconst (pc := 29) (v := -1) ⟨by decide, by decide⟩ (by decide +kernel) ?_
  refine oj_putI (pc := 30) (ki := 4) fc_D_21 rfl rfl rfl (by decide +kernel) ?_
  refine oj_ald0 (pc := 33) (by decide +kernel) ?_
  refine oj_iconst (pc := 34) (v := -1) ⟨by decide, by decide⟩ (by decide +kernel) ?_
  refine oj_putI (pc := 35) (ki := 5) fc_D_25 rfl rfl rfl (by decide +kernel) ?_
  refine oj_ald0 (pc := 38) (by decide +kernel) ?_
  refine oj_iconst (pc := 39) (v := -1) ⟨by decide, by decide⟩ (by decide +kernel) ?_
  refine oj_putI (pc := 40) (ki := 6) fc_D_28 rfl rfl rfl (by decide +kernel) ?_
  refine oj_ald0 (pc := 43) (by decide +kernel) ?_
  refine oj_iconst (pc := 44) (v := 1) ⟨by decide, by decide⟩ (by decide +kernel) ?_
  refine oj_putI (pc := 45) (ki := 11) fc_D_31 rfl rfl rfl (by decide +kernel) ?_
  exact oj_vret (pc := 48) (by decide +kernel) rfl (Nat.le_of_ble_eq_true rfl) (Nat.le_of_ble_eq_true rfl) ⟨rfl, rfl⟩
theorem ci_D_10 {l : Launch} (M : oM) : oK l m_D_init 1 3 150 [vr 10] WC9 M (fun _ wd' M' => wd' = WC11 ∧ M' = mi_D_10 M) := by
  refine oK_intro (lv := [vr 10]) (by decide +kernel) (Nat.le_of_ble_eq_true rfl) rfl ?_
  refine oj_ald0 (pc := 0) (by decide +kernel) ?_
  refine oj_objInit (pc := 1) oi_D_3 oi_.1 oi_.2 (Nat.le_of_ble_eq_true rfl) (Nat.le_of_ble_eq_true rfl) (by decide +kernel) ?_
  refine oj_ald0 (pc := 4) (by decide +kernel) ?_
  refine oj_bipush (pc := 5) (v := 100) ⟨by decide, by decide⟩ (by decide +kernel) ?_
  refine oj_newa (pc := 7) (b := false) (aty := .int) (N := 100) (NN := 100) (by decide) ac_int rfl (Nat.le_of_ble_eq_true rfl) (Nat.le_of_ble_eq_true rfl) (Nat.le_of_ble_eq_true rfl) (Nat.le_of_ble_eq_true rfl) (by decide +kernel) ?_
  refine oj_putF (pc := 9) (r := 11) fpfc_D_9 ⟨_, rfl, rfl⟩ rfl rfl (Nat.le_of_ble_eq_true rfl) ⟨rfl, fun _ => ⟨rfl, rfl⟩⟩ (by decide +kernel) ?_
  refine oj_ald0 (pc := 12) (by decide +kernel) ?_
  refine oj_bipush (pc := 13) (v := 10) ⟨by decide, by decide⟩ (by decide +kernel) ?_
  refine oj_newa (pc := 15) (b := false) (aty := .int) (N := 10) (NN := 10) (by decide) ac_int rfl (Nat.le_of_ble_eq_true rfl) (Nat.le_of_ble_eq_true rfl) (Nat.le_of_ble_eq_true rfl) (Nat.le_of_ble_eq_true rfl) (by decide +kernel) ?_
  refine oj_putF (pc := 17) (r := 12) fpfc_D_15 ⟨_, rfl, rfl⟩ rfl rfl (Nat.le_of_ble_eq_true rfl) ⟨rfl, fun _ => ⟨rfl, rfl⟩⟩ (by decide +kernel) ?_
  refine oj_wd (wd := WC10) rfl ?_
  refine oj_ald0 (pc := 20) (by decide +kernel) ?_
  refine oj_bipush (pc := 21) (v := 40) ⟨by decide, by decide⟩ (by decide +kernel) ?_
  refine oj_newa (pc := 23) (b := false) (aty := .int) (N := 40) (NN := 40) (by decide) ac_int rfl (Nat.le_of_ble_eq_true rfl) (Nat.le_of_ble_eq_true rfl) (Nat.le_of_ble_eq_true rfl) (Nat.le_of_ble_eq_true rfl) (by decide +kernel) ?_
  refine oj_putF (pc := 25) (r := 13) fpfc_D_18 ⟨_, rfl, rfl⟩ rfl rfl (Nat.le_of_ble_eq_true rfl) ⟨rfl, fun _ => ⟨rfl, rfl⟩⟩ (by decide +kernel) ?_
  refine oj_ald0 (pc := 28) (by decide +kernel) ?_
  refine oj_iconst (pc := 29) (v := -1) ⟨by decide, by decide⟩ (by decide +kernel) ?_
  refine oj_putI (pc := 30) (ki := 4) fc_D_21 rfl rfl rfl (by decide +kernel) ?_
  refine oj_ald0 (pc := 33) (by decide +kernel) ?_
  refine oj_iconst (pc := 34) (v := -1) ⟨by decide, by decide⟩ (by decide +kernel) ?_
  refine oj_putI (pc := 35) (ki := 5) fc_D_25 rfl rfl rfl (by decide +kernel) ?_
  refine oj_ald0 (pc := 38) (by decide +kernel) ?_
  refine oj_iconst (pc := 39) (v := -1) ⟨by decide, by decide⟩ (by decide +kernel) ?_
  refine oj_putI (pc := 40) (ki := 6) fc_D_28 rfl rfl rfl (by decide +kernel) ?_
  refine oj_ald0 (pc := 43) (by decide +kernel) ?_
  refine oj_iconst (pc := 44) (v := 1) ⟨by decide, by decide⟩ (by decide +kernel) ?_
  refine oj_putI (pc := 45) (ki := 11) fc_D_31 rfl rfl rfl (by decide +kernel) ?_
  exact oj_vret (pc := 48) (by decide +kernel) rfl (Nat.le_of_ble_eq_true rfl) (Nat.le_of_ble_eq_true rfl) ⟨rfl, rfl⟩
theorem ci_D_14 {l : Launch} (M : oM) : oK l m_D_init 1 3 150 [vr 14] WC12 M (fun _ wd' M' => wd' = WC14 ∧ M' = mi_D_14 M) := by
  refine oK_intro (lv := [vr 14]) (by decide +kernel) (Nat.le_of_ble_eq_true rfl) rfl ?_
  refine oj_ald0 (pc := 0) (by decide +kernel) ?_
  refine oj_objInit (pc := 1) oi_D_3 oi_.1 oi_.2 (Nat.le_of_ble_eq_true rfl) (Nat.le_of_ble_eq_true rfl) (by decide +kernel) ?_
  refine oj_ald0 (pc := 4) (by decide +kernel) ?_
  refine oj_bipush (pc := 5) (v := 100) ⟨by decide, by decide⟩ (by decide +kernel) ?_
  refine oj_newa (pc := 7) (b := false) (aty := .int) (N := 100) (NN := 100) (by decide) ac_int rfl (Nat.le_of_ble_eq_true rfl) (Nat.le_of_ble_eq_true rfl) (Nat.le_of_ble_eq_true rfl) (Nat.le_of_ble_eq_true rfl) (by decide +kernel) ?_
  refine oj_putF (pc := 9) (r := 15) fpfc_D_9 ⟨_, rfl, rfl⟩ rfl rfl (Nat.le_of_ble_eq_true rfl) ⟨rfl, fun _ => ⟨rfl, rfl⟩⟩ (by decide +kernel) ?_
  refine oj_ald0 (pc := 12) (by decide +kernel) ?_
  refine oj_bipush (pc := 13) (v := 10) ⟨by decide, by decide⟩ (by decide +kernel) ?_
  refine oj_newa (pc := 15) (b := false) (aty := .int) (N := 10) (NN := 10) (by decide) ac_int rfl (Nat.le_of_ble_eq_true rfl) (Nat.le_of_ble_eq_true rfl) (Nat.le_of_ble_eq_true rfl) (Nat.le_of_ble_eq_true rfl) (by decide +kernel) ?_
  refine oj_putF (pc := 17) (r := 16) fpfc_D_15 ⟨_, rfl, rfl⟩ rfl rfl (Nat.le_of_ble_eq_true rfl) ⟨rfl, fun _ => ⟨rfl, rfl⟩⟩ (by decide +kernel) ?_
  refine oj_wd (wd := WC13) rfl ?_
  refine oj_ald0 (pc := 20) (by decide +kernel) ?_
  refine oj_bipush (pc := 21) (v := 40) ⟨by decide, by decide⟩ (by decide +kernel) ?_
  refine oj_newa (pc := 23) (b := false) (aty := .int) (N := 40) (NN := 40) (by decide) ac_int rfl (Nat.le_of_ble_eq_true rfl) (Nat.le_of_ble_eq_true rfl) (Nat.le_of_ble_eq_true rfl) (Nat.le_of_ble_eq_true rfl) (by decide +kernel) ?_
  refine oj_putF (pc := 25) (r := 17) fpfc_D_18 ⟨_, rfl, rfl⟩ rfl rfl (Nat.le_of_ble_eq_true rfl) ⟨rfl, fun _ => ⟨rfl, rfl⟩⟩ (by decide +kernel) ?_
  refine oj_ald0 (pc := 28) (by decide +kernel) ?_
  refine oj_iconst (pc := 29) (v := -1) ⟨by decide, by decide⟩ (by decide +kernel) ?_
  refine oj_putI (pc := 30) (ki := 4) fc_D_21 rfl rfl rfl (by decide +kernel) ?_
  refine oj_ald0 (pc := 33) (by decide +kernel) ?_
  refine oj_iconst (pc := 34) (v := -1) ⟨by decide, by decide⟩ (by decide +kernel) ?_
  refine oj_putI (pc := 35) (ki := 5) fc_D_25 rfl rfl rfl (by decide +kernel) ?_
  refine oj_ald0 (pc := 38) (by decide +kernel) ?_
  refine oj_iconst (pc := 39) (v := -1) ⟨by decide, by decide⟩ (by decide +kernel) ?_
  refine oj_putI (pc := 40) (ki := 6) fc_D_28 rfl rfl rfl (by decide +kernel) ?_
  refine oj_ald0 (pc := 43) (by decide +kernel) ?_
  refine oj_iconst (pc := 44) (v := 1) ⟨by decide, by decide⟩ (by decide +kernel) ?_
  refine oj_putI (pc := 45) (ki := 11) fc_D_31 rfl rfl rfl (by decide +kernel) ?_
  exact oj_vret (pc := 48) (by decide +kernel) rfl (Nat.le_of_ble_eq_true rfl) (Nat.le_of_ble_eq_true rfl) ⟨rfl, rfl⟩
theorem ci_L_18 {l : Launch} (M : oM) : oK l m_L_init 1 8 616 [vr 18, vr 3] WC15 M (fun _ wd' M' => wd' = WC20 ∧ M' = mi_L_18 M) := by
  refine oK_intro (lv := [vr 18, vr 3]) (by decide +kernel) (Nat.le_of_ble_eq_true rfl) rfl ?_
  refine oj_ald0 (pc := 0) (by decide +kernel) ?_
  refine oj_objInit (pc := 1) oi_L_3 oi_.1 oi_.2 (Nat.le_of_ble_eq_true rfl) (Nat.le_of_ble_eq_true rfl) (by decide +kernel) ?_
  refine oj_ald0 (pc := 4) (by decide +kernel) ?_
  refine oj_sipush (pc := 5) (v := 240) ⟨by decide, by decide⟩ (by decide +kernel) ?_
  refine oj_newa (pc := 8) (b := false) (aty := .int) (N := 240) (NN := 240) (by decide) ac_int rfl (Nat.le_of_ble_eq_true rfl) (Nat.le_of_ble_eq_true rfl) (Nat.le_of_ble_eq_true rfl) (Nat.le_of_ble_eq_true rfl) (by decide +kernel) ?_
  refine oj_putF (pc := 10) (r := 19) fpfc_L_9 ⟨_, rfl, rfl⟩ rfl rfl (Nat.le_of_ble_eq_true rfl) ⟨rfl, fun _ => ⟨rfl, rfl⟩⟩ (by decide +kernel) ?_
  refine oj_ald0 (pc := 13) (by decide +kernel) ?_
  refine oj_sipush (pc := 14) (v := 240) ⟨by decide, by decide⟩ (by decide +kernel) ?_
  refine oj_newa (pc := 17) (b := false) (aty := .int) (N := 240) (NN := 240) (by decide) ac_int rfl (Nat.le_of_ble_eq_true rfl) (Nat.le_of_ble_eq_true rfl) (Nat.le_of_ble_eq_true rfl) (Nat.le_of_ble_eq_true rfl) (by decide +kernel) ?_
  refine oj_putF (pc := 19) (r := 20) fpfc_L_15 ⟨_, rfl, rfl⟩ rfl rfl (Nat.le_of_ble_eq_true rfl) ⟨rfl, fun _ => ⟨rfl, rfl⟩⟩ (by decide +kernel) ?_
  refine oj_wd (wd := WC16) rfl ?_
  refine oj_ald0 (pc := 22) (by decide +kernel) ?_
  refine oj_bipush (pc := 23) (v := 16) ⟨by decide, by decide⟩ (by decide +kernel) ?_
  refine oj_newa (pc := 25) (b := false) (aty := .int) (N := 16) (NN := 16) (by decide) ac_int rfl (Nat.le_of_ble_eq_true rfl) (Nat.le_of_ble_eq_true rfl) (Nat.le_of_ble_eq_true rfl) (Nat.le_of_ble_eq_true rfl) (by decide +kernel) ?_
  refine oj_putF (pc := 27) (r := 21) fpfc_L_18 ⟨_, rfl, rfl⟩ rfl rfl (Nat.le_of_ble_eq_true rfl) ⟨rfl, fun _ => ⟨rfl, rfl⟩⟩ (by decide +kernel) ?_
  refine oj_ald0 (pc := 30) (by decide +kernel) ?_
  refine oj_bipush (pc := 31) (v := 16) ⟨by decide, by decide⟩ (by decide +kernel) ?_
  refine oj_newa (pc := 33) (b := false) (aty := .int) (N := 16) (NN := 16) (by decide) ac_int rfl (Nat.le_of_ble_eq_true rfl) (Nat.le_of_ble_eq_true rfl) (Nat.le_of_ble_eq_true rfl) (Nat.le_of_ble_eq_true rfl) (by decide +kernel) ?_
  refine oj_putF (pc := 35) (r := 22) fpfc_L_21 ⟨_, rfl, rfl⟩ rfl rfl (Nat.le_of_ble_eq_true rfl) ⟨rfl, fun _ => ⟨rfl, rfl⟩⟩ (by decide +kernel) ?_
  refine oj_wd (wd := WC17) rfl ?_
  refine oj_ald0 (pc := 38) (by decide +kernel) ?_
  refine oj_bipush (pc := 39) (v := 16) ⟨by decide, by decide⟩ (by decide +kernel) ?_
  refine oj_newa (pc := 41) (b := false) (aty := .int) (N := 16) (NN := 16) (by decide) ac_int rfl (Nat.le_of_ble_eq_true rfl) (Nat.le_of_ble_eq_true rfl) (Nat.le_of_ble_eq_true rfl) (Nat.le_of_ble_eq_true rfl) (by decide +kernel) ?_
  refine oj_putF (pc := 43) (r := 23) fpfc_L_24 ⟨_, rfl, rfl⟩ rfl rfl (Nat.le_of_ble_eq_true rfl) ⟨rfl, fun _ => ⟨rfl, rfl⟩⟩ (by decide +kernel) ?_
  refine oj_ald0 (pc := 46) (by decide +kernel) ?_
  refine oj_bipush (pc := 47) (v := 16) ⟨by decide, by decide⟩ (by decide +kernel) ?_
  refine oj_newa (pc := 49) (b := false) (aty := .int) (N := 16) (NN := 16) (by decide) ac_int rfl (Nat.le_of_ble_eq_true rfl) (Nat.le_of_ble_eq_true rfl) (Nat.le_of_ble_eq_true rfl) (Nat.le_of_ble_eq_true rfl) (by decide +kernel) ?_
  refine oj_putF (pc := 51) (r := 24) fpfc_L_27 ⟨_, rfl, rfl⟩ rfl rfl (Nat.le_of_ble_eq_true rfl) ⟨rfl, fun _ => ⟨rfl, rfl⟩⟩ (by decide +kernel) ?_
  refine oj_wd (wd := WC18) rfl ?_
  refine oj_ald0 (pc := 54) (by decide +kernel) ?_
  refine oj_bipush (pc := 55) (v := 8) ⟨by decide, by decide⟩ (by decide +kernel) ?_
  refine oj_newa (pc := 57) (b := false) (aty := .int) (N := 8) (NN := 8) (by decide) ac_int rfl (Nat.le_of_ble_eq_true rfl) (Nat.le_of_ble_eq_true rfl) (Nat.le_of_ble_eq_true rfl) (Nat.le_of_ble_eq_true rfl) (by decide +kernel) ?_
  refine oj_putF (pc := 59) (r := 25) fpfc_L_30 ⟨_, rfl, rfl⟩ rfl rfl (Nat.le_of_ble_eq_true rfl) ⟨rfl, fun _ => ⟨rfl, rfl⟩⟩ (by decide +kernel) ?_
  refine oj_ald0 (pc := 62) (by decide +kernel) ?_
  refine oj_bipush (pc := 63) (v := 64) ⟨by decide, by decide⟩ (by decide +kernel) ?_
  refine oj_newa (pc := 65) (b := false) (aty := .int) (N := 64) (NN := 64) (by decide) ac_int rfl (Nat.le_of_ble_eq_true rfl) (Nat.le_of_ble_eq_true rfl) (Nat.le_of_ble_eq_true rfl) (Nat.le_of_ble_eq_true rfl) (by decide +kernel) ?_
  refine oj_putF (pc := 67) (r := 26) fpfc_L_33 ⟨_, rfl, rfl⟩ rfl rfl (Nat.le_of_ble_eq_true rfl) ⟨rfl, fun _ => ⟨rfl, rfl⟩⟩ (by decide +kernel) ?_
  refine oj_wd (wd := WC19) rfl ?_
  refine oj_ald0 (pc := 70) (by decide +kernel) ?_
  refine oj_ald1 (pc := 71) (by decide +kernel) ?_
  refine oj_putF (pc := 72) (r := 3) fpfc_L_36 ⟨_, rfl, rfl⟩ rfl rfl (Nat.le_of_ble_eq_true rfl) ⟨rfl, fun _ => ⟨rfl, rfl⟩⟩ (by decide +kernel) ?_
  exact oj_vret (pc := 75) (by decide +kernel) rfl (Nat.le_of_ble_eq_true rfl) (Nat.le_of_ble_eq_true rfl) ⟨rfl, rfl⟩
theorem ci_L_27 {l : Launch} (M : oM) : oK l m_L_init 1 8 616 [vr 27, vr 3] WC21 M (fun _ wd' M' => wd' = WC26 ∧ M' = mi_L_27 M) := by
  refine oK_intro (lv := [vr 27, vr 3]) (by decide +kernel) (Nat.le_of_ble_eq_true rfl) rfl ?_
  refine oj_ald0 (pc := 0) (by decide +kernel) ?_
  refine oj_objInit (pc := 1) oi_L_3 oi_.1 oi_.2 (Nat.le_of_ble_eq_true rfl) (Nat.le_of_ble_eq_true rfl) (by decide +kernel) ?_
  refine oj_ald0 (pc := 4) (by decide +kernel) ?_
  refine oj_sipush (pc := 5) (v := 240) ⟨by decide, by decide⟩ (by decide +kernel) ?_
  refine oj_newa (pc := 8) (b := false) (aty := .int) (N := 240) (NN := 240) (by decide) ac_int rfl (Nat.le_of_ble_eq_true rfl) (Nat.le_of_ble_eq_true rfl) (Nat.le_of_ble_eq_true rfl) (Nat.le_of_ble_eq_true rfl) (by decide +kernel) ?_
  refine oj_putF (pc := 10) (r := 28) fpfc_L_9 ⟨_, rfl, rfl⟩ rfl rfl (Nat.le_of_ble_eq_true rfl) ⟨rfl, fun _ => ⟨rfl, rfl⟩⟩ (by decide +kernel) ?_
  refine oj_ald0 (pc := 13) (by decide +kernel) ?_
  refine oj_sipush (pc := 14) (v := 240) ⟨by decide, by decide⟩ (by decide +kernel) ?_
  refine oj_newa (pc := 17) (b := false) (aty := .int) (N := 240) (NN := 240) (by decide) ac_int rfl (Nat.le_of_ble_eq_true rfl) (Nat.le_of_ble_eq_true rfl) (Nat.le_of_ble_eq_true rfl) (Nat.le_of_ble_eq_true rfl) (by decide +kernel) ?_
  refine oj_putF (pc := 19) (r := 29) fpfc_L_15 ⟨_, rfl, rfl⟩ rfl rfl (Nat.le_of_ble_eq_true rfl) ⟨rfl, fun _ => ⟨rfl, rfl⟩⟩ (by decide +kernel) ?_
  refine oj_wd (wd := WC22) rfl ?_
  refine oj_ald0 (pc := 22) (by decide +kernel) ?_
  refine oj_bipush (pc := 23) (v := 16) ⟨by decide, by decide⟩ (by decide +kernel) ?_
  refine oj_newa (pc := 25) (b := false) (aty := .int) (N := 16) (NN := 16) (by decide) ac_int rfl (Nat.le_of_ble_eq_true rfl) (Nat.le_of_ble_eq_true rfl) (Nat.le_of_ble_eq_true rfl) (Nat.le_of_ble_eq_true rfl) (by decide +kernel) ?_
  refine oj_putF (pc := 27) (r := 30) fpfc_L_18 ⟨_, rfl, rfl⟩ rfl rfl (Nat.le_of_ble_eq_true rfl) ⟨rfl, fun _ => ⟨rfl, rfl⟩⟩ (by decide +kernel) ?_
  refine oj_ald0 (pc := 30) (by decide +kernel) ?_
  refine oj_bipush (pc := 31) (v := 16) ⟨by decide, by decide⟩ (by decide +kernel) ?_
  refine oj_newa (pc := 33) (b := false) (aty := .int) (N := 16) (NN := 16) (by decide) ac_int rfl (Nat.le_of_ble_eq_true rfl) (Nat.le_of_ble_eq_true rfl) (Nat.le_of_ble_eq_true rfl) (Nat.le_of_ble_eq_true rfl) (by decide +kernel) ?_
  refine oj_putF (pc := 35) (r := 31) fpfc_L_21 ⟨_, rfl, rfl⟩ rfl rfl (Nat.le_of_ble_eq_true rfl) ⟨rfl, fun _ => ⟨rfl, rfl⟩⟩ (by decide +kernel) ?_
  refine oj_wd (wd := WC23) rfl ?_
  refine oj_ald0 (pc := 38) (by decide +kernel) ?_
  refine oj_bipush (pc := 39) (v := 16) ⟨by decide, by decide⟩ (by decide +kernel) ?_
  refine oj_newa (pc := 41) (b := false) (aty := .int) (N := 16) (NN := 16) (by decide) ac_int rfl (Nat.le_of_ble_eq_true rfl) (Nat.le_of_ble_eq_true rfl) (Nat.le_of_ble_eq_true rfl) (Nat.le_of_ble_eq_true rfl) (by decide +kernel) ?_
  refine oj_putF (pc := 43) (r := 32) fpfc_L_24 ⟨_, rfl, rfl⟩ rfl rfl (Nat.le_of_ble_eq_true rfl) ⟨rfl, fun _ => ⟨rfl, rfl⟩⟩ (by decide +kernel) ?_
  refine oj_ald0 (pc := 46) (by decide +kernel) ?_
  refine oj_bipush (pc := 47) (v := 16) ⟨by decide, by decide⟩ (by decide +kernel) ?_
  refine oj_newa (pc := 49) (b := false) (aty := .int) (N := 16) (NN := 16) (by decide) ac_int rfl (Nat.le_of_ble_eq_true rfl) (Nat.le_of_ble_eq_true rfl) (Nat.le_of_ble_eq_true rfl) (Nat.le_of_ble_eq_true rfl) (by decide +kernel) ?_
  refine oj_putF (pc := 51) (r := 33) fpfc_L_27 ⟨_, rfl, rfl⟩ rfl rfl (Nat.le_of_ble_eq_true rfl) ⟨rfl, fun _ => ⟨rfl, rfl⟩⟩ (by decide +kernel) ?_
  refine oj_wd (wd := WC24) rfl ?_
  refine oj_ald0 (pc := 54) (by decide +kernel) ?_
  refine oj_bipush (pc := 55) (v := 8) ⟨by decide, by decide⟩ (by decide +kernel) ?_
  refine oj_newa (pc := 57) (b := false) (aty := .int) (N := 8) (NN := 8) (by decide) ac_int rfl (Nat.le_of_ble_eq_true rfl) (Nat.le_of_ble_eq_true rfl) (Nat.le_of_ble_eq_true rfl) (Nat.le_of_ble_eq_true rfl) (by decide +kernel) ?_
  refine oj_putF (pc := 59) (r := 34) fpfc_L_30 ⟨_, rfl, rfl⟩ rfl rfl (Nat.le_of_ble_eq_true rfl) ⟨rfl, fun _ => ⟨rfl, rfl⟩⟩ (by decide +kernel) ?_
  refine oj_ald0 (pc := 62) (by decide +kernel) ?_
  refine oj_bipush (pc := 63) (v := 64) ⟨by decide, by decide⟩ (by decide +kernel) ?_
  refine oj_newa (pc := 65) (b := false) (aty := .int) (N := 64) (NN := 64) (by decide) ac_int rfl (Nat.le_of_ble_eq_true rfl) (Nat.le_of_ble_eq_true rfl) (Nat.le_of_ble_eq_true rfl) (Nat.le_of_ble_eq_true rfl) (by decide +kernel) ?_
  refine oj_putF (pc := 67) (r := 35) fpfc_L_33 ⟨_, rfl, rfl⟩ rfl rfl (Nat.le_of_ble_eq_true rfl) ⟨rfl, fun _ => ⟨rfl, rfl⟩⟩ (by decide +kernel) ?_
  refine oj_wd (wd := WC25) rfl ?_
  refine oj_ald0 (pc := 70) (by decide +kernel) ?_
  refine oj_ald1 (pc := 71) (by decide +kernel) ?_
  refine oj_putF (pc := 72) (r := 3) fpfc_L_36 ⟨_, rfl, rfl⟩ rfl rfl (Nat.le_of_ble_eq_true rfl) ⟨rfl, fun _ => ⟨rfl, rfl⟩⟩ (by decide +kernel) ?_
  exact oj_vret (pc := 75) (by decide +kernel) rfl (Nat.le_of_ble_eq_true rfl) (Nat.le_of_ble_eq_true rfl) ⟨rfl, rfl⟩
theorem ci_LR_36 {l : Launch} (M : oM) : oK l m_LR_init 1 0 0 [vr 36, vr 1, vr 27] WC27 M (fun _ wd' M' => wd' = WC28 ∧ M' = mi_LR_36 M) := by
  refine oK_intro (lv := [vr 36, vr 1, vr 27]) (by decide +kernel) (Nat.le_of_ble_eq_true rfl) rfl ?_
  refine oj_ald0 (pc := 0) (by decide +kernel) ?_
  refine oj_objInit (pc := 1) oi_LR_3 oi_.1 oi_.2 (Nat.le_of_ble_eq_true rfl) (Nat.le_of_ble_eq_true rfl) (by decide +kernel) ?_
  refine oj_ald0 (pc := 4) (by decide +kernel) ?_
  refine oj_ald1 (pc := 5) (by decide +kernel) ?_
  refine oj_putF (pc := 6) (r := 1) fpfc_LR_9 ⟨_, rfl, rfl⟩ rfl rfl (Nat.le_of_ble_eq_true rfl) ⟨rfl, fun _ => ⟨rfl, rfl⟩⟩ (by decide +kernel) ?_
  refine oj_ald0 (pc := 9) (by decide +kernel) ?_
  refine oj_ald2 (pc := 10) (by decide +kernel) ?_
  refine oj_putF (pc := 11) (r := 27) fpfc_LR_15 ⟨_, rfl, rfl⟩ rfl rfl (Nat.le_of_ble_eq_true rfl) ⟨rfl, fun _ => ⟨rfl, rfl⟩⟩ (by decide +kernel) ?_
  exact oj_vret (pc := 14) (by decide +kernel) rfl (Nat.le_of_ble_eq_true rfl) (Nat.le_of_ble_eq_true rfl) ⟨rfl, rfl⟩
theorem ci_DR_37 {l : Launch} (M : oM) : oK l m_DR_init 1 1 100 [vr 37, vr 1, vr 3] WC29 M (fun _ wd' M' => wd' = WC30 ∧ M' = mi_DR_37 M) := by
  refine oK_intro (lv := [vr 37, vr 1, vr 3]) (by decide +kernel) (Nat.le_of_ble_eq_true rfl) rfl ?_
  refine oj_ald0 (pc := 0) (by decide +kernel) ?_
  refine oj_objInit (pc := 1) oi_DR_3 oi_.1 oi_.2 (Nat.le_of_ble_eq_true rfl) (Nat.le_of_ble_eq_true rfl) (by decide +kernel) ?_
  refine oj_ald0 (pc := 4) (by decide +kernel) ?_
  refine oj_bipush (pc := 5) (v := 100) ⟨by decide, by decide⟩ (by decide +kernel) ?_
  refine oj_newa (pc := 7) (b := false) (aty := .int) (N := 100) (NN := 100) (by decide) ac_int rfl (Nat.le_of_ble_eq_true rfl) (Nat.le_of_ble_eq_true rfl) (Nat.le_of_ble_eq_true rfl) (Nat.le_of_ble_eq_true rfl) (by decide +kernel) ?_
  refine oj_putF (pc := 9) (r := 38) fpfc_DR_9 ⟨_, rfl, rfl⟩ rfl rfl (Nat.le_of_ble_eq_true rfl) ⟨rfl, fun _ => ⟨rfl, rfl⟩⟩ (by decide +kernel) ?_
  refine oj_ald0 (pc := 12) (by decide +kernel) ?_
  refine oj_ald1 (pc := 13) (by decide +kernel) ?_
  refine oj_putF (pc := 14) (r := 1) fpfc_DR_15 ⟨_, rfl, rfl⟩ rfl rfl (Nat.le_of_ble_eq_true rfl) ⟨rfl, fun _ => ⟨rfl, rfl⟩⟩ (by decide +kernel) ?_
  refine oj_ald0 (pc := 17) (by decide +kernel) ?_
  refine oj_ald2 (pc := 18) (by decide +kernel) ?_
  refine oj_putF (pc := 19) (r := 3) fpfc_DR_19 ⟨_, rfl, rfl⟩ rfl rfl (Nat.le_of_ble_eq_true rfl) ⟨rfl, fun _ => ⟨rfl, rfl⟩⟩ (by decide +kernel) ?_
  refine oj_wd (wd := WC30) rfl ?_
  exact oj_vret (pc := 22) (by decide +kernel) rfl (Nat.le_of_ble_eq_true rfl) (Nat.le_of_ble_eq_true rfl) ⟨rfl, rfl⟩
theorem ci_RR_39 {l : Launch} (M : oM) : oK l m_RR_init 1 1 60 [vr 39, vr 1] WC31 M (fun _ wd' M' => wd' = WC32 ∧ M' = mi_RR_39 M) := by
  refine oK_intro (lv := [vr 39, vr 1]) (by decide +kernel) (Nat.le_of_ble_eq_true rfl) rfl ?_
  refine oj_ald0 (pc := 0) (by decide +kernel) ?_
  refine oj_objInit (pc := 1) oi_RR_3 oi_.1 oi_.2 (Nat.le_of_ble_eq_true rfl) (Nat.le_of_ble_eq_true rfl) (by decide +kernel) ?_
  refine oj_ald0 (pc := 4) (by decide +kernel) ?_
  refine oj_bipush (pc := 5) (v := 60) ⟨by decide, by decide⟩ (by decide +kernel) ?_
  refine oj_newa (pc := 7) (b := false) (aty := .int) (N := 60) (NN := 60) (by decide) ac_int rfl (Nat.le_of_ble_eq_true rfl) (Nat.le_of_ble_eq_true rfl) (Nat.le_of_ble_eq_true rfl) (Nat.le_of_ble_eq_true rfl) (by decide +kernel) ?_
  refine oj_putF (pc := 9) (r := 40) fpfc_RR_9 ⟨_, rfl, rfl⟩ rfl rfl (Nat.le_of_ble_eq_true rfl) ⟨rfl, fun _ => ⟨rfl, rfl⟩⟩ (by decide +kernel) ?_
  refine oj_ald0 (pc := 12) (by decide +kernel) ?_
  refine oj_ald1 (pc := 13) (by decide +kernel) ?_
  refine oj_putF (pc := 14) (r := 1) fpfc_RR_15 ⟨_, rfl, rfl⟩ rfl rfl (Nat.le_of_ble_eq_true rfl) ⟨rfl, fun _ => ⟨rfl, rfl⟩⟩ (by decide +kernel) ?_
  exact oj_vret (pc := 17) (by decide +kernel) rfl (Nat.le_of_ble_eq_true rfl) (Nat.le_of_ble_eq_true rfl) ⟨rfl, rfl⟩
theorem ci_C_41 {l : Launch} (M : oM) : oK l m_C_init 1 0 0 [vr 41, vr 3, vr 18] WC33 M (fun _ wd' M' => wd' = WC34 ∧ M' = mi_C_41 M) := by
  refine oK_intro (lv := [vr 41, vr 3, vr 18]) (by decide +kernel) (Nat.le_of_ble_eq_true rfl) rfl ?_
  refine oj_ald0 (pc := 0) (by decide +kernel) ?_
  refine oj_objInit (pc := 1) oi_C_3 oi_.1 oi_.2 (Nat.le_of_ble_eq_true rfl) (Nat.le_of_ble_eq_true rfl) (by decide +kernel) ?_
  refine oj_ald0 (pc := 4) (by decide +kernel) ?_
  refine oj_iconst (pc := 5) (v := -1) ⟨by decide, by decide⟩ (by decide +kernel) ?_
  refine oj_putI (pc := 6) (ki := 5) fc_C_9 rfl rfl rfl (by decide +kernel) ?_
  refine oj_ald0 (pc := 9) (by decide +kernel) ?_
  refine oj_ald1 (pc := 10) (by decide +kernel) ?_
  refine oj_putF (pc := 11) (r := 3) fpfc_C_15 ⟨_, rfl, rfl⟩ rfl rfl (Nat.le_of_ble_eq_true rfl) ⟨rfl, fun _ => ⟨rfl, rfl⟩⟩ (by decide +kernel) ?_
  refine oj_ald0 (pc := 14) (by decide +kernel) ?_
  refine oj_ald2 (pc := 15) (by decide +kernel) ?_
  refine oj_putF (pc := 16) (r := 18) fpfc_C_19 ⟨_, rfl, rfl⟩ rfl rfl (Nat.le_of_ble_eq_true rfl) ⟨rfl, fun _ => ⟨rfl, rfl⟩⟩ (by decide +kernel) ?_
  exact oj_vret (pc := 19) (by decide +kernel) rfl (Nat.le_of_ble_eq_true rfl) (Nat.le_of_ble_eq_true rfl) ⟨rfl, rfl⟩
theorem ci_R_42 {l : Launch} (M : oM) : oK l m_R_init 1 6 290 [vr 42, vr 3] WC35 M (fun _ wd' M' => wd' = WC39 ∧ M' = mi_R_42 M) := by
  refine oK_intro (lv := [vr 42, vr 3]) (by decide +kernel) (Nat.le_of_ble_eq_true rfl) rfl ?_
  refine oj_ald0 (pc := 0) (by decide +kernel) ?_
  refine oj_objInit (pc := 1) oi_R_3 oi_.1 oi_.2 (Nat.le_of_ble_eq_true rfl) (Nat.le_of_ble_eq_true rfl) (by decide +kernel) ?_
  refine oj_ald0 (pc := 4) (by decide +kernel) ?_
  refine oj_bipush (pc := 5) (v := 100) ⟨by decide, by decide⟩ (by decide +kernel) ?_
  refine oj_newa (pc := 7) (b := false) (aty := .int) (N := 100) (NN := 100) (by decide) ac_int rfl (Nat.le_of_ble_eq_true rfl) (Nat.le_of_ble_eq_true rfl) (Nat.le_of_ble_eq_true rfl) (Nat.le_of_ble_eq_true rfl) (by decide +kernel) ?_
  refine oj_putF (pc := 9) (r := 43) fpfc_R_9 ⟨_, rfl, rfl⟩ rfl rfl (Nat.le_of_ble_eq_true rfl) ⟨rfl, fun _ => ⟨rfl, rfl⟩⟩ (by decide +kernel) ?_
  refine oj_ald0 (pc := 12) (by decide +kernel) ?_
  refine oj_bipush (pc := 13) (v := 100) ⟨by decide, by decide⟩ (by decide +kernel) ?_
  refine oj_newa (pc := 15) (b := false) (aty := .int) (N := 100) (NN := 100) (by decide) ac_int rfl (Nat.le_of_ble_eq_true rfl) (Nat.le_of_ble_eq_true rfl) (Nat.le_of_ble_eq_true rfl) (Nat.le_of_ble_eq_true rfl) (by decide +kernel) ?_
  refine oj_putF (pc := 17) (r := 44) fpfc_R_15 ⟨_, rfl, rfl⟩ rfl rfl (Nat.le_of_ble_eq_true rfl) ⟨rfl, fun _ => ⟨rfl, rfl⟩⟩ (by decide +kernel) ?_
  refine oj_wd (wd := WC36) rfl ?_
  refine oj_ald0 (pc := 20) (by decide +kernel) ?_
  refine oj_bipush (pc := 21) (v := 8) ⟨by decide, by decide⟩ (by decide +kernel) ?_
  refine oj_newa (pc := 23) (b := false) (aty := .int) (N := 8) (NN := 8) (by decide) ac_int rfl (Nat.le_of_ble_eq_true rfl) (Nat.le_of_ble_eq_true rfl) (Nat.le_of_ble_eq_true rfl) (Nat.le_of_ble_eq_true rfl) (by decide +kernel) ?_
  refine oj_putF (pc := 25) (r := 45) fpfc_R_18 ⟨_, rfl, rfl⟩ rfl rfl (Nat.le_of_ble_eq_true rfl) ⟨rfl, fun _ => ⟨rfl, rfl⟩⟩ (by decide +kernel) ?_
  refine oj_ald0 (pc := 28) (by decide +kernel) ?_
  refine oj_bipush (pc := 29) (v := 10) ⟨by decide, by decide⟩ (by decide +kernel) ?_
  refine oj_newa (pc := 31) (b := false) (aty := .int) (N := 10) (NN := 10) (by decide) ac_int rfl (Nat.le_of_ble_eq_true rfl) (Nat.le_of_ble_eq_true rfl) (Nat.le_of_ble_eq_true rfl) (Nat.le_of_ble_eq_true rfl) (by decide +kernel) ?_
  refine oj_putF (pc := 33) (r := 46) fpfc_R_21 ⟨_, rfl, rfl⟩ rfl rfl (Nat.le_of_ble_eq_true rfl) ⟨rfl, fun _ => ⟨rfl, rfl⟩⟩ (by decide +kernel) ?_
  refine oj_wd (wd := WC37) rfl ?_
  refine oj_ald0 (pc := 36) (by decide +kernel) ?_
  refine oj_bipush (pc := 37) (v := 60) ⟨by decide, by decide⟩ (by decide +kernel) ?_
  refine oj_newa (pc := 39) (b := false) (aty := .int) (N := 60) (NN := 60) (by decide) ac_int rfl (Nat.le_of_ble_eq_true rfl) (Nat.le_of_ble_eq_true rfl) (Nat.le_of_ble_eq_true rfl) (Nat.le_of_ble_eq_true rfl) (by decide +kernel) ?_
  refine oj_putF (pc := 41) (r := 47) fpfc_R_24 ⟨_, rfl, rfl⟩ rfl rfl (Nat.le_of_ble_eq_true rfl) ⟨rfl, fun _ => ⟨rfl, rfl⟩⟩ (by decide +kernel) ?_
  refine oj_ald0 (pc := 44) (by decide +kernel) ?_
  refine oj_bipush (pc := 45) (v := 12) ⟨by decide, by decide⟩ (by decide +kernel) ?_
  refine oj_newa (pc := 47) (b := false) (aty := .int) (N := 12) (NN := 12) (by decide) ac_int rfl (Nat.le_of_ble_eq_true rfl) (Nat.le_of_ble_eq_true rfl) (Nat.le_of_ble_eq_true rfl) (Nat.le_of_ble_eq_true rfl) (by decide +kernel) ?_
  refine oj_putF (pc := 49) (r := 48) fpfc_R_27 ⟨_, rfl, rfl⟩ rfl rfl (Nat.le_of_ble_eq_true rfl) ⟨rfl, fun _ => ⟨rfl, rfl⟩⟩ (by decide +kernel) ?_
  refine oj_wd (wd := WC38) rfl ?_
  refine oj_ald0 (pc := 52) (by decide +kernel) ?_
  refine oj_ald1 (pc := 53) (by decide +kernel) ?_
  refine oj_putF (pc := 54) (r := 3) fpfc_R_30 ⟨_, rfl, rfl⟩ rfl rfl (Nat.le_of_ble_eq_true rfl) ⟨rfl, fun _ => ⟨rfl, rfl⟩⟩ (by decide +kernel) ?_
  exact oj_vret (pc := 57) (by decide +kernel) rfl (Nat.le_of_ble_eq_true rfl) (Nat.le_of_ble_eq_true rfl) ⟨rfl, rfl⟩
theorem ci_B_49 {l : Launch} (M : oM) : oK l m_B_init 1 7 1074 [vr 49, vr 3] WC40 M (fun _ wd' M' => wd' = WC44 ∧ M' = mi_B_49 M) := by
  refine oK_intro (lv := [vr 49, vr 3]) (by decide +kernel) (Nat.le_of_ble_eq_true rfl) rfl ?_
  refine oj_ald0 (pc := 0) (by decide +kernel) ?_
  refine oj_objInit (pc := 1) oi_B_3 oi_.1 oi_.2 (Nat.le_of_ble_eq_true rfl) (Nat.le_of_ble_eq_true rfl) (by decide +kernel) ?_
  refine oj_ald0 (pc := 4) (by decide +kernel) ?_
  refine oj_bipush (pc := 5) (v := 10) ⟨by decide, by decide⟩ (by decide +kernel) ?_
  refine oj_newa (pc := 7) (b := false) (aty := .int) (N := 10) (NN := 10) (by decide) ac_int rfl (Nat.le_of_ble_eq_true rfl) (Nat.le_of_ble_eq_true rfl) (Nat.le_of_ble_eq_true rfl) (Nat.le_of_ble_eq_true rfl) (by decide +kernel) ?_
  refine oj_putF (pc := 9) (r := 50) fpfc_B_9 ⟨_, rfl, rfl⟩ rfl rfl (Nat.le_of_ble_eq_true rfl) ⟨rfl, fun _ => ⟨rfl, rfl⟩⟩ (by decide +kernel) ?_
  refine oj_ald0 (pc := 12) (by decide +kernel) ?_
  refine oj_bipush (pc := 13) (v := 10) ⟨by decide, by decide⟩ (by decide +kernel) ?_
  refine oj_newa (pc := 15) (b := false) (aty := .int) (N := 10) (NN := 10) (by decide) ac_int rfl (Nat.le_of_ble_eq_true rfl) (Nat.le_of_ble_eq_true rfl) (Nat.le_of_ble_eq_true rfl) (Nat.le_of_ble_eq_true rfl) (by decide +kernel) ?_
  refine oj_putF (pc := 17) (r := 51) fpfc_B_15 ⟨_, rfl, rfl⟩ rfl rfl (Nat.le_of_ble_eq_true rfl) ⟨rfl, fun _ => ⟨rfl, rfl⟩⟩ (by decide +kernel) ?_
  refine oj_wd (wd := WC41) rfl ?_
  refine oj_ald0 (pc := 20) (by decide +kernel) ?_
  refine oj_bipush (pc := 21) (v := 6) ⟨by decide, by decide⟩ (by decide +kernel) ?_
  refine oj_newa (pc := 23) (b := false) (aty := .int) (N := 6) (NN := 6) (by decide) ac_int rfl (Nat.le_of_ble_eq_true rfl) (Nat.le_of_ble_eq_true rfl) (Nat.le_of_ble_eq_true rfl) (Nat.le_of_ble_eq_true rfl) (by decide +kernel) ?_
  refine oj_putF (pc := 25) (r := 52) fpfc_B_18 ⟨_, rfl, rfl⟩ rfl rfl (Nat.le_of_ble_eq_true rfl) ⟨rfl, fun _ => ⟨rfl, rfl⟩⟩ (by decide +kernel) ?_
  refine oj_ald0 (pc := 28) (by decide +kernel) ?_
  refine oj_bipush (pc := 29) (v := 6) ⟨by decide, by decide⟩ (by decide +kernel) ?_
  refine oj_newa (pc := 31) (b := false) (aty := .int) (N := 6) (NN := 6) (by decide) ac_int rfl (Nat.le_of_ble_eq_true rfl) (Nat.le_of_ble_eq_true rfl) (Nat.le_of_ble_eq_true rfl) (Nat.le_of_ble_eq_true rfl) (by decide +kernel) ?_
  refine oj_putF (pc := 33) (r := 53) fpfc_B_21 ⟨_, rfl, rfl⟩ rfl rfl (Nat.le_of_ble_eq_true rfl) ⟨rfl, fun _ => ⟨rfl, rfl⟩⟩ (by decide +kernel) ?_
  refine oj_wd (wd := WC42) rfl ?_
  refine oj_ald0 (pc := 36) (by decide +kernel) ?_
  refine oj_bipush (pc := 37) (v := 6) ⟨by decide, by decide⟩ (by decide +kernel) ?_
  refine oj_newa (pc := 39) (b := false) (aty := .int) (N := 6) (NN := 6) (by decide) ac_int rfl (Nat.le_of_ble_eq_true rfl) (Nat.le_of_ble_eq_true rfl) (Nat.le_of_ble_eq_true rfl) (Nat.le_of_ble_eq_true rfl) (by decide +kernel) ?_
  refine oj_putF (pc := 41) (r := 54) fpfc_B_24 ⟨_, rfl, rfl⟩ rfl rfl (Nat.le_of_ble_eq_true rfl) ⟨rfl, fun _ => ⟨rfl, rfl⟩⟩ (by decide +kernel) ?_
  refine oj_ald0 (pc := 44) (by decide +kernel) ?_
  refine oj_bipush (pc := 45) (v := 12) ⟨by decide, by decide⟩ (by decide +kernel) ?_
  refine oj_newa (pc := 47) (b := false) (aty := .int) (N := 12) (NN := 12) (by decide) ac_int rfl (Nat.le_of_ble_eq_true rfl) (Nat.le_of_ble_eq_true rfl) (Nat.le_of_ble_eq_true rfl) (Nat.le_of_ble_eq_true rfl) (by decide +kernel) ?_
  refine oj_putF (pc := 49) (r := 55) fpfc_B_27 ⟨_, rfl, rfl⟩ rfl rfl (Nat.le_of_ble_eq_true rfl) ⟨rfl, fun _ => ⟨rfl, rfl⟩⟩ (by decide +kernel) ?_
  refine oj_wd (wd := WC43) rfl ?_
  refine oj_ald0 (pc := 52) (by decide +kernel) ?_
  refine oj_sipush (pc := 53) (v := 1024) ⟨by decide, by decide⟩ (by decide +kernel) ?_
  refine oj_newa (pc := 56) (b := false) (aty := .int) (N := 1024) (NN := 1024) (by decide) ac_int rfl (Nat.le_of_ble_eq_true rfl) (Nat.le_of_ble_eq_true rfl) (Nat.le_of_ble_eq_true rfl) (Nat.le_of_ble_eq_true rfl) (by decide +kernel) ?_
  refine oj_putF (pc := 58) (r := 56) fpfc_B_30 ⟨_, rfl, rfl⟩ rfl rfl (Nat.le_of_ble_eq_true rfl) ⟨rfl, fun _ => ⟨rfl, rfl⟩⟩ (by decide +kernel) ?_
  refine oj_ald0 (pc := 61) (by decide +kernel) ?_
  refine oj_ald1 (pc := 62) (by decide +kernel) ?_
  refine oj_putF (pc := 63) (r := 3) fpfc_B_33 ⟨_, rfl, rfl⟩ rfl rfl (Nat.le_of_ble_eq_true rfl) ⟨rfl, fun _ => ⟨rfl, rfl⟩⟩ (by decide +kernel) ?_
  exact oj_vret (pc := 66) (by decide +kernel) rfl (Nat.le_of_ble_eq_true rfl) (Nat.le_of_ble_eq_true rfl) ⟨rfl, rfl⟩
theorem ci_O_0 {l : Launch} (M : oM) : oK l m_O_init 2 56 3583 [vr 0] WC1 M (fun _ wd' M' => wd' = WC45 ∧ M' = mi_O_0 M) := by
  refine oK_intro (lv := [vr 0]) (by decide +kernel) (Nat.le_of_ble_eq_true rfl) rfl ?_
  refine oj_ald0 (pc := 0) (by decide +kernel) ?_
  refine oj_objInit (pc := 1) oi_O_3 oi_.1 oi_.2 (Nat.le_of_ble_eq_true rfl) (Nat.le_of_ble_eq_true rfl) (by decide +kernel) ?_
  refine oj_ald0 (pc := 4) (by decide +kernel) ?_
  refine oj_new (pc := 5) (fs := [some none, none, none, none, none]) oC9 n_O_9.1 n_O_9.2.1 n_O_9.2.2 df_9.1 df_9.2 (Nat.le_of_ble_eq_true rfl) (Nat.le_of_ble_eq_true rfl) (Nat.le_of_ble_eq_true rfl) (by decide +kernel) ?_
  refine oj_dup (pc := 8) (by decide +kernel) ?_
  have hk := @ci_T_1 l
  refine oj_I (pc := 9) (as := []) (wd := WC2) vi_O_11 rfl rfl (Nat.le_of_ble_eq_true rfl) (by decide +kernel) (Nat.le_of_ble_eq_true rfl) (Nat.le_of_ble_eq_true rfl) (Nat.le_of_ble_eq_true rfl) (hk _) ?_
  rintro wd' M' ⟨rfl, rfl⟩
  refine oj_putF (pc := 12) (r := 1) fpfc_O_12 ⟨_, rfl, rfl⟩ rfl rfl (Nat.le_of_ble_eq_true rfl) ⟨rfl, fun _ => ⟨rfl, rfl⟩⟩ (by decide +kernel) ?_
  refine oj_ald0 (pc := 15) (by decide +kernel) ?_
  refine oj_new (pc := 16) (fs := [some none, some none, none]) oC6 n_O_16.1 n_O_16.2.1 n_O_16.2.2 df_6.1 df_6.2 (Nat.le_of_ble_eq_true rfl) (Nat.le_of_ble_eq_true rfl) (Nat.le_of_ble_eq_true rfl) (by decide +kernel) ?_
  refine oj_dup (pc := 19) (by decide +kernel) ?_
  have hk := @ci_P_3 l
  refine oj_I (pc := 20) (as := []) (wd := WC4) vi_O_18 rfl rfl (Nat.le_of_ble_eq_true rfl) (by decide +kernel) (Nat.le_of_ble_eq_true rfl) (Nat.le_of_ble_eq_true rfl) (Nat.le_of_ble_eq_true rfl) (hk _) ?_
  rintro wd' M' ⟨rfl, rfl⟩
  refine oj_putF (pc := 23) (r := 3) fpfc_O_19 ⟨_, rfl, rfl⟩ rfl rfl (Nat.le_of_ble_eq_true rfl) ⟨rfl, fun _ => ⟨rfl, rfl⟩⟩ (by decide +kernel) ?_
  refine oj_ald0 (pc := 26) (by decide +kernel) ?_
  refine oj_new (pc := 27) (fs := [some none, some none, some none, none, none, none, none, none, none, none, none, none]) oC3 n_O_23.1 n_O_23.2.1 n_O_23.2.2 df_3.1 df_3.2 (Nat.le_of_ble_eq_true rfl) (Nat.le_of_ble_eq_true rfl) (Nat.le_of_ble_eq_true rfl) (by decide +kernel) ?_
  refine oj_dup (pc := 30) (by decide +kernel) ?_
  have hk := @ci_D_6 l
  refine oj_I (pc := 31) (as := []) (wd := WC6) vi_O_25 rfl rfl (Nat.le_of_ble_eq_true rfl) (by decide +kernel) (Nat.le_of_ble_eq_true rfl) (Nat.le_of_ble_eq_true rfl) (Nat.le_of_ble_eq_true rfl) (hk _) ?_
  rintro wd' M' ⟨rfl, rfl⟩
  refine oj_putF (pc := 34) (r := 6) fpfc_O_26 ⟨_, rfl, rfl⟩ rfl rfl (Nat.le_of_ble_eq_true rfl) ⟨rfl, fun _ => ⟨rfl, rfl⟩⟩ (by decide +kernel) ?_
  refine oj_ald0 (pc := 37) (by decide +kernel) ?_
  refine oj_new (pc := 38) (fs := [some none, some none, some none, none, none, none, none, none, none, none, none, none]) oC3 n_O_23.1 n_O_23.2.1 n_O_23.2.2 df_3.1 df_3.2 (Nat.le_of_ble_eq_true rfl) (Nat.le_of_ble_eq_true rfl) (Nat.le_of_ble_eq_true rfl) (by decide +kernel) ?_
  refine oj_dup (pc := 41) (by decide +kernel) ?_
  have hk := @ci_D_10 l
  refine oj_I (pc := 42) (as := []) (wd := WC9) vi_O_25 rfl rfl (Nat.le_of_ble_eq_true rfl) (by decide +kernel) (Nat.le_of_ble_eq_true rfl) (Nat.le_of_ble_eq_true rfl) (Nat.le_of_ble_eq_true rfl) (hk _) ?_
  rintro wd' M' ⟨rfl, rfl⟩
  refine oj_putF (pc := 45) (r := 10) fpfc_O_30 ⟨_, rfl, rfl⟩ rfl rfl (Nat.le_of_ble_eq_true rfl) ⟨rfl, fun _ => ⟨rfl, rfl⟩⟩ (by decide +kernel) ?_
  refine oj_ald0 (pc := 48) (by decide +kernel) ?_
  refine oj_new (pc := 49) (fs := [some none, some none, some none, none, none, none, none, none, none, none, none, none]) oC3 n_O_23.1 n_O_23.2.1 n_O_23.2.2 df_3.1 df_3.2 (Nat.le_of_ble_eq_true rfl) (Nat.le_of_ble_eq_true rfl) (Nat.le_of_ble_eq_true rfl) (by decide +kernel) ?_
  refine oj_dup (pc := 52) (by decide +kernel) ?_
  have hk := @ci_D_14 l
  refine oj_I (pc := 53) (as := []) (wd := WC12) vi_O_25 rfl rfl (Nat.le_of_ble_eq_true rfl) (by decide +kernel) (Nat.le_of_ble_eq_true rfl) (Nat.le_of_ble_eq_true rfl) (Nat.le_of_ble_eq_true rfl) (hk _) ?_
  rintro wd' M' ⟨rfl, rfl⟩
  refine oj_putF (pc := 56) (r := 14) fpfc_O_33 ⟨_, rfl, rfl⟩ rfl rfl (Nat.le_of_ble_eq_true rfl) ⟨rfl, fun _ => ⟨rfl, rfl⟩⟩ (by decide +kernel) ?_
  refine oj_ald0 (pc := 59) (by decide +kernel) ?_
  refine oj_new (pc := 60) (fs := [some none, some none, some none, some none, some none, some none, some none, some none, some none, none, none]) oC4 n_O_36.1 n_O_36.2.1 n_O_36.2.2 df_4.1 df_4.2 (Nat.le_of_ble_eq_true rfl) (Nat.le_of_ble_eq_true rfl) (Nat.le_of_ble_eq_true rfl) (by decide +kernel) ?_
  refine oj_dup (pc := 63) (by decide +kernel) ?_
  refine oj_ald0 (pc := 64) (by decide +kernel) ?_
  refine oj_getR (pc := 65) (r := 3) fc_O_19 rfl rfl (by decide +kernel) ?_
  have hk := @ci_L_18 l
  refine oj_I (pc := 68) (as := [_]) (wd := WC15) vi_O_38 rfl rfl (Nat.le_of_ble_eq_true rfl) (by decide +kernel) (Nat.le_of_ble_eq_true rfl) (Nat.le_of_ble_eq_true rfl) (Nat.le_of_ble_eq_true rfl) (hk _) ?_
  rintro wd' M' ⟨rfl, rfl⟩
  refine oj_putF (pc := 71) (r := 18) fpfc_O_41 ⟨_, rfl, rfl⟩ rfl rfl (Nat.le_of_ble_eq_true rfl) ⟨rfl, fun _ => ⟨rfl, rfl⟩⟩ (by decide +kernel) ?_
  refine oj_ald0 (pc := 74) (by decide +kernel) ?_
  refine oj_new (pc := 75) (fs := [some none, some none, some none, some none, some none, some none, some none, some none, some none, none, none]) oC4 n_O_36.1 n_O_36.2.1 n_O_36.2.2 df_4.1 df_4.2 (Nat.le_of_ble_eq_true rfl) (Nat.le_of_ble_eq_true rfl) (Nat.le_of_ble_eq_true rfl) (by decide +kernel) ?_
  refine oj_dup (pc := 78) (by decide +kernel) ?_
  refine oj_ald0 (pc := 79) (by decide +kernel) ?_
  refine oj_getR (pc := 80) (r := 3) fc_O_19 rfl rfl (by decide +kernel) ?_
  have hk := @ci_L_27 l
  refine oj_I (pc := 83) (as := [_]) (wd := WC21) vi_O_38 rfl rfl (Nat.le_of_ble_eq_true rfl) (by decide +kernel) (Nat.le_of_ble_eq_true rfl) (Nat.le_of_ble_eq_true rfl) (Nat.le_of_ble_eq_true rfl) (hk _) ?_
  rintro wd' M' ⟨rfl, rfl⟩
  refine oj_putF (pc := 86) (r := 27) fpfc_O_45 ⟨_, rfl, rfl⟩ rfl rfl (Nat.le_of_ble_eq_true rfl) ⟨rfl, fun _ => ⟨rfl, rfl⟩⟩ (by decide +kernel) ?_
  refine oj_ald0 (pc := 89) (by decide +kernel) ?_
  refine oj_new (pc := 90) (fs := [some none, some none]) oC5 n_O_48.1 n_O_48.2.1 n_O_48.2.2 df_5.1 df_5.2 (Nat.le_of_ble_eq_true rfl) (Nat.le_of_ble_eq_true rfl) (Nat.le_of_ble_eq_true rfl) (by decide +kernel) ?_
  refine oj_dup (pc := 93) (by decide +kernel) ?_
  refine oj_ald0 (pc := 94) (by decide +kernel) ?_
  refine oj_getR (pc := 95) (r := 1) fc_O_12 rfl rfl (by decide +kernel) ?_
  refine oj_ald0 (pc := 98) (by decide +kernel) ?_
  refine oj_getR (pc := 99) (r := 27) fc_O_45 rfl rfl (by decide +kernel) ?_
  have hk := @ci_LR_36 l
  refine oj_I (pc := 102) (as := [_, _]) (wd := WC27) vi_O_50 rfl rfl (Nat.le_of_ble_eq_true rfl) (by decide +kernel) (Nat.le_of_ble_eq_true rfl) (Nat.le_of_ble_eq_true rfl) (Nat.le_of_ble_eq_true rfl) (hk _) ?_
  rintro wd' M' ⟨rfl, rfl⟩
  refine oj_putF (pc := 105) (r := 36) fpfc_O_53 ⟨_, rfl, rfl⟩ rfl rfl (Nat.le_of_ble_eq_true rfl) ⟨rfl, fun _ => ⟨rfl, rfl⟩⟩ (by decide +kernel) ?_
  refine oj_ald0 (pc := 108) (by decide +kernel) ?_
  refine oj_new (pc := 109) (fs := [some none, some none, some none]) oC2 n_O_57.1 n_O_57.2.1 n_O_57.2.2 df_2.1 df_2.2 (Nat.le_of_ble_eq_true rfl) (Nat.le_of_ble_eq_true rfl) (Nat.le_of_ble_eq_true rfl) (by decide +kernel) ?_
  refine oj_dup (pc := 112) (by decide +kernel) ?_
  refine oj_ald0 (pc := 113) (by decide +kernel) ?_
  refine oj_getR (pc := 114) (r := 1) fc_O_12 rfl rfl (by decide +kernel) ?_
  refine oj_ald0 (pc := 117) (by decide +kernel) ?_
  refine oj_getR (pc := 118) (r := 3) fc_O_19 rfl rfl (by decide +kernel) ?_
  have hk := @ci_DR_37 l
  refine oj_I (pc := 121) (as := [_, _]) (wd := WC29) vi_O_59 rfl rfl (Nat.le_of_ble_eq_true rfl) (by decide +kernel) (Nat.le_of_ble_eq_true rfl) (Nat.le_of_ble_eq_true rfl) (Nat.le_of_ble_eq_true rfl) (hk _) ?_
  rintro wd' M' ⟨rfl, rfl⟩
  refine oj_putF (pc := 124) (r := 37) fpfc_O_62 ⟨_, rfl, rfl⟩ rfl rfl (Nat.le_of_ble_eq_true rfl) ⟨rfl, fun _ => ⟨rfl, rfl⟩⟩ (by decide +kernel) ?_
  refine oj_ald0 (pc := 127) (by decide +kernel) ?_
  refine oj_new (pc := 128) (fs := [some none, some none, none]) oC7 n_O_66.1 n_O_66.2.1 n_O_66.2.2 df_7.1 df_7.2 (Nat.le_of_ble_eq_true rfl) (Nat.le_of_ble_eq_true rfl) (Nat.le_of_ble_eq_true rfl) (by decide +kernel) ?_
  refine oj_dup (pc := 131) (by decide +kernel) ?_
  refine oj_ald0 (pc := 132) (by decide +kernel) ?_
  refine oj_getR (pc := 133) (r := 1) fc_O_12 rfl rfl (by decide +kernel) ?_
  have hk := @ci_RR_39 l
  refine oj_I (pc := 136) (as := [_]) (wd := WC31) vi_O_68 rfl rfl (Nat.le_of_ble_eq_true rfl) (by decide +kernel) (Nat.le_of_ble_eq_true rfl) (Nat.le_of_ble_eq_true rfl) (Nat.le_of_ble_eq_true rfl) (hk _) ?_
  rintro wd' M' ⟨rfl, rfl⟩
  refine oj_putF (pc := 139) (r := 39) fpfc_O_71 ⟨_, rfl, rfl⟩ rfl rfl (Nat.le_of_ble_eq_true rfl) ⟨rfl, fun _ => ⟨rfl, rfl⟩⟩ (by decide +kernel) ?_
  refine oj_ald0 (pc := 142) (by decide +kernel) ?_
  refine oj_new (pc := 143) (fs := [some none, some none, none, none, none, none]) oC1 n_O_75.1 n_O_75.2.1 n_O_75.2.2 df_1.1 df_1.2 (Nat.le_of_ble_eq_true rfl) (Nat.le_of_ble_eq_true rfl) (Nat.le_of_ble_eq_true rfl) (by decide +kernel) ?_
  refine oj_dup (pc := 146) (by decide +kernel) ?_
  refine oj_ald0 (pc := 147) (by decide +kernel) ?_
  refine oj_getR (pc := 148) (r := 3) fc_O_19 rfl rfl (by decide +kernel) ?_
  refine oj_ald0 (pc := 151) (by decide +kernel) ?_
  refine oj_getR (pc := 152) (r := 18) fc_O_41 rfl rfl (by decide +kernel) ?_
  have hk := @ci_C_41 l
  refine oj_I (pc := 155) (as := [_, _]) (wd := WC33) vi_O_77 rfl rfl (Nat.le_of_ble_eq_true rfl) (by decide +kernel) (Nat.le_of_ble_eq_true rfl) (Nat.le_of_ble_eq_true rfl) (Nat.le_of_ble_eq_true rfl) (hk _) ?_
  rintro wd' M' ⟨rfl, rfl⟩
  refine oj_putF (pc := 158) (r := 41) fpfc_O_80 ⟨_, rfl, rfl⟩ rfl rfl (Nat.le_of_ble_eq_true rfl) ⟨rfl, fun _ => ⟨rfl, rfl⟩⟩ (by decide +kernel) ?_
  refine oj_ald0 (pc := 161) (by decide +kernel) ?_
  refine oj_new (pc := 162) (fs := [some none, some none, some none, some none, some none, some none, some none, none]) oC8 n_O_84.1 n_O_84.2.1 n_O_84.2.2 df_8.1 df_8.2 (Nat.le_of_ble_eq_true rfl) (Nat.le_of_ble_eq_true rfl) (Nat.le_of_ble_eq_true rfl) (by decide +kernel) ?_
  refine oj_dup (pc := 165) (by decide +kernel) ?_
  refine oj_ald0 (pc := 166) (by decide +kernel) ?_
  refine oj_getR (pc := 167) (r := 3) fc_O_19 rfl rfl (by decide +kernel) ?_
  have hk := @ci_R_42 l
  refine oj_I (pc := 170) (as := [_]) (wd := WC35) vi_O_86 rfl rfl (Nat.le_of_ble_eq_true rfl) (by decide +kernel) (Nat.le_of_ble_eq_true rfl) (Nat.le_of_ble_eq_true rfl) (Nat.le_of_ble_eq_true rfl) (hk _) ?_
  rintro wd' M' ⟨rfl, rfl⟩
  refine oj_putF (pc := 173) (r := 42) fpfc_O_87 ⟨_, rfl, rfl⟩ rfl rfl (Nat.le_of_ble_eq_true rfl) ⟨rfl, fun _ => ⟨rfl, rfl⟩⟩ (by decide +kernel) ?_
  refine oj_ald0 (pc := 176) (by decide +kernel) ?_
  refine oj_new (pc := 177) (fs := [some none, some none, some none, some none, some none, some none, some none, some none, none]) oC0 n_O_91.1 n_O_91.2.1 n_O_91.2.2 df_0.1 df_0.2 (Nat.le_of_ble_eq_true rfl) (Nat.le_of_ble_eq_true rfl) (Nat.le_of_ble_eq_true rfl) (by decide +kernel) ?_
  refine oj_dup (pc := 180) (by decide +kernel) ?_
  refine oj_ald0 (pc := 181) (by decide +kernel) ?_
  refine oj_getR (pc := 182) (r := 3) fc_O_19 rfl rfl (by decide +kernel) ?_
  have hk := @ci_B_49 l
  refine oj_I (pc := 185) (as := [_]) (wd := WC40) vi_O_93 rfl rfl (Nat.le_of_ble_eq_true rfl) (by decide +kernel) (Nat.le_of_ble_eq_true rfl) (Nat.le_of_ble_eq_true rfl) (Nat.le_of_ble_eq_true rfl) (hk _) ?_
  rintro wd' M' ⟨rfl, rfl⟩
  refine oj_putF (pc := 188) (r := 49) fpfc_O_94 ⟨_, rfl, rfl⟩ rfl rfl (Nat.le_of_ble_eq_true rfl) ⟨rfl, fun _ => ⟨rfl, rfl⟩⟩ (by decide +kernel) ?_
  exact oj_vret (pc := 191) (by decide +kernel) rfl (Nat.le_of_ble_eq_true rfl) (Nat.le_of_ble_eq_true rfl) ⟨rfl, rfl⟩
theorem ci_M_57 {l : Launch} (M : oM) : oK l m_M_init 1 37 45515 [vr 57] WC46 M (fun _ wd' M' => wd' = WC65 ∧ M' = mi_M_57 M) := by
  refine oK_intro (lv := [vr 57]) (by decide +kernel) (Nat.le_of_ble_eq_true rfl) rfl ?_
  refine oj_ald0 (pc := 0) (by decide +kernel) ?_
  refine oj_objInit (pc := 1) oi_M_1 oi_.1 oi_.2 (Nat.le_of_ble_eq_true rfl) (Nat.le_of_ble_eq_true rfl) (by decide +kernel) ?_
  refine oj_ald0 (pc := 4) (by decide +kernel) ?_
  refine oj_sipush (pc := 5) (v := 159) ⟨by decide, by decide⟩ (by decide +kernel) ?_
  refine oj_newa (pc := 8) (b := false) (aty := .int) (N := 159) (NN := 159) (by decide) ac_int rfl (Nat.le_of_ble_eq_true rfl) (Nat.le_of_ble_eq_true rfl) (Nat.le_of_ble_eq_true rfl) (Nat.le_of_ble_eq_true rfl) (by decide +kernel) ?_
  refine oj_putF (pc := 10) (r := 58) fpfc_M_7 ⟨_, rfl, rfl⟩ rfl rfl (Nat.le_of_ble_eq_true rfl) ⟨rfl, fun _ => ⟨rfl, rfl⟩⟩ (by decide +kernel) ?_
  refine oj_ald0 (pc := 13) (by decide +kernel) ?_
  refine oj_sipush (pc := 14) (v := 159) ⟨by decide, by decide⟩ (by decide +kernel) ?_
  refine oj_newa (pc := 17) (b := false) (aty := .int) (N := 159) (NN := 159) (by decide) ac_int rfl (Nat.le_of_ble_eq_true rfl) (Nat.le_of_ble_eq_true rfl) (Nat.le_of_ble_eq_true rfl) (Nat.le_of_ble_eq_true rfl) (by decide +kernel) ?_
  refine oj_putF (pc := 19) (r := 59) fpfc_M_13 ⟨_, rfl, rfl⟩ rfl rfl (Nat.le_of_ble_eq_true rfl) ⟨rfl, fun _ => ⟨rfl, rfl⟩⟩ (by decide +kernel) ?_
  refine oj_wd (wd := WC47) rfl ?_
  refine oj_ald0 (pc := 22) (by decide +kernel) ?_
  refine oj_sipush (pc := 23) (v := 159) ⟨by decide, by decide⟩ (by decide +kernel) ?_
  refine oj_newa (pc := 26) (b := false) (aty := .int) (N := 159) (NN := 159) (by decide) ac_int rfl (Nat.le_of_ble_eq_true rfl) (Nat.le_of_ble_eq_true rfl) (Nat.le_of_ble_eq_true rfl) (Nat.le_of_ble_eq_true rfl) (by decide +kernel) ?_
  refine oj_putF (pc := 28) (r := 60) fpfc_M_16 ⟨_, rfl, rfl⟩ rfl rfl (Nat.le_of_ble_eq_true rfl) ⟨rfl, fun _ => ⟨rfl, rfl⟩⟩ (by decide +kernel) ?_
  refine oj_ald0 (pc := 31) (by decide +kernel) ?_
  refine oj_bipush (pc := 32) (v := 10) ⟨by decide, by decide⟩ (by decide +kernel) ?_
  refine oj_newa (pc := 34) (b := false) (aty := .int) (N := 10) (NN := 10) (by decide) ac_int rfl (Nat.le_of_ble_eq_true rfl) (Nat.le_of_ble_eq_true rfl) (Nat.le_of_ble_eq_true rfl) (Nat.le_of_ble_eq_true rfl) (by decide +kernel) ?_
  refine oj_putF (pc := 36) (r := 61) fpfc_M_19 ⟨_, rfl, rfl⟩ rfl rfl (Nat.le_of_ble_eq_true rfl) ⟨rfl, fun _ => ⟨rfl, rfl⟩⟩ (by decide +kernel) ?_
  refine oj_wd (wd := WC48) rfl ?_
  refine oj_ald0 (pc := 39) (by decide +kernel) ?_
  refine oj_bipush (pc := 40) (v := 10) ⟨by decide, by decide⟩ (by decide +kernel) ?_
  refine oj_newa (pc := 42) (b := false) (aty := .int) (N := 10) (NN := 10) (by decide) ac_int rfl (Nat.le_of_ble_eq_true rfl) (Nat.le_of_ble_eq_true rfl) (Nat.le_of_ble_eq_true rfl) (Nat.le_of_ble_eq_true rfl) (by decide +kernel) ?_
  refine oj_putF (pc := 44) (r := 62) fpfc_M_22 ⟨_, rfl, rfl⟩ rfl rfl (Nat.le_of_ble_eq_true rfl) ⟨rfl, fun _ => ⟨rfl, rfl⟩⟩ (by decide +kernel) ?_
  refine oj_ald0 (pc := 47) (by decide +kernel) ?_
  refine oj_sipush (pc := 48) (v := 260) ⟨by decide, by decide⟩ (by decide +kernel) ?_
  refine oj_newa (pc := 51) (b := true) (aty := .byte) (N := 260) (NN := 260) (by decide) ac_byte rfl (Nat.le_of_ble_eq_true rfl) (Nat.le_of_ble_eq_true rfl) (Nat.le_of_ble_eq_true rfl) (Nat.le_of_ble_eq_true rfl) (by decide +kernel) ?_
  refine oj_putF (pc := 53) (r := 63) fpfc_M_25 ⟨_, rfl, rfl⟩ rfl rfl (Nat.le_of_ble_eq_true rfl) ⟨rfl, fun _ => ⟨rfl, rfl⟩⟩ (by decide +kernel) ?_
  refine oj_wd (wd := WC49) rfl ?_
  refine oj_ald0 (pc := 56) (by decide +kernel) ?_
  refine oj_sipush (pc := 57) (v := 260) ⟨by decide, by decide⟩ (by decide +kernel) ?_
  refine oj_newa (pc := 60) (b := false) (aty := .int) (N := 260) (NN := 260) (by decide) ac_int rfl (Nat.le_of_ble_eq_true rfl) (Nat.le_of_ble_eq_true rfl) (Nat.le_of_ble_eq_true rfl) (Nat.le_of_ble_eq_true rfl) (by decide +kernel) ?_
  refine oj_putF (pc := 62) (r := 64) fpfc_M_29 ⟨_, rfl, rfl⟩ rfl rfl (Nat.le_of_ble_eq_true rfl) ⟨rfl, fun _ => ⟨rfl, rfl⟩⟩ (by decide +kernel) ?_
  refine oj_ald0 (pc := 65) (by decide +kernel) ?_
  refine oj_sipush (pc := 66) (v := 260) ⟨by decide, by decide⟩ (by decide +kernel) ?_
  refine oj_newa (pc := 69) (b := false) (aty := .int) (N := 260) (NN := 260) (by decide) ac_int rfl (Nat.le_of_ble_eq_true rfl) (Nat.le_of_ble_eq_true rfl) (Nat.le_of_ble_eq_true rfl) (Nat.le_of_ble_eq_true rfl) (by decide +kernel) ?_
  refine oj_putF (pc := 71) (r := 65) fpfc_M_32 ⟨_, rfl, rfl⟩ rfl rfl (Nat.le_of_ble_eq_true rfl) ⟨rfl, fun _ => ⟨rfl, rfl⟩⟩ (by decide +kernel) ?_
  refine oj_wd (wd := WC50) rfl ?_
  refine oj_ald0 (pc := 74) (by decide +kernel) ?_
  refine oj_bipush (pc := 75) (v := 16) ⟨by decide, by decide⟩ (by decide +kernel) ?_
  refine oj_newa (pc := 77) (b := false) (aty := .int) (N := 16) (NN := 16) (by decide) ac_int rfl (Nat.le_of_ble_eq_true rfl) (Nat.le_of_ble_eq_true rfl) (Nat.le_of_ble_eq_true rfl) (Nat.le_of_ble_eq_true rfl) (by decide +kernel) ?_
  refine oj_putF (pc := 79) (r := 66) fpfc_M_35 ⟨_, rfl, rfl⟩ rfl rfl (Nat.le_of_ble_eq_true rfl) ⟨rfl, fun _ => ⟨rfl, rfl⟩⟩ (by decide +kernel) ?_
  refine oj_ald0 (pc := 82) (by decide +kernel) ?_
  refine oj_bipush (pc := 83) (v := 16) ⟨by decide, by decide⟩ (by decide +kernel) ?_
  refine oj_newa (pc := 85) (b := false) (aty := .int) (N := 16) (NN := 16) (by decide) ac_int rfl (Nat.le_of_ble_eq_true rfl) (Nat.le_of_ble_eq_true rfl) (Nat.le_of_ble_eq_true rfl) (Nat.le_of_ble_eq_true rfl) (by decide +kernel) ?_
  refine oj_putF (pc := 87) (r := 67) fpfc_M_38 ⟨_, rfl, rfl⟩ rfl rfl (Nat.le_of_ble_eq_true rfl) ⟨rfl, fun _ => ⟨rfl, rfl⟩⟩ (by decide +kernel) ?_
  refine oj_wd (wd := WC51) rfl ?_
  refine oj_ald0 (pc := 90) (by decide +kernel) ?_
  refine oj_bipush (pc := 91) (v := 16) ⟨by decide, by decide⟩ (by decide +kernel) ?_
  refine oj_newa (pc := 93) (b := false) (aty := .int) (N := 16) (NN := 16) (by decide) ac_int rfl (Nat.le_of_ble_eq_true rfl) (Nat.le_of_ble_eq_true rfl) (Nat.le_of_ble_eq_true rfl) (Nat.le_of_ble_eq_true rfl) (by decide +kernel) ?_
  refine oj_putF (pc := 95) (r := 68) fpfc_M_41 ⟨_, rfl, rfl⟩ rfl rfl (Nat.le_of_ble_eq_true rfl) ⟨rfl, fun _ => ⟨rfl, rfl⟩⟩ (by decide +kernel) ?_
  refine oj_ald0 (pc := 98) (by decide +kernel) ?_
  refine oj_bipush (pc := 99) (v := 16) ⟨by decide, by decide⟩ (by decide +kernel) ?_
  refine oj_newa (pc := 101) (b := false) (aty := .int) (N := 16) (NN := 16) (by decide) ac_int rfl (Nat.le_of_ble_eq_true rfl) (Nat.le_of_ble_eq_true rfl) (Nat.le_of_ble_eq_true rfl) (Nat.le_of_ble_eq_true rfl) (by decide +kernel) ?_
  refine oj_putF (pc := 103) (r := 69) fpfc_M_44 ⟨_, rfl, rfl⟩ rfl rfl (Nat.le_of_ble_eq_true rfl) ⟨rfl, fun _ => ⟨rfl, rfl⟩⟩ (by decide +kernel) ?_
  refine oj_wd (wd := WC52) rfl ?_
  refine oj_ald0 (pc := 106) (by decide +kernel) ?_
  refine oj_sipush (pc := 107) (v := 260) ⟨by decide, by decide⟩ (by decide +kernel) ?_
  refine oj_newa (pc := 110) (b := false) (aty := .int) (N := 260) (NN := 260) (by decide) ac_int rfl (Nat.le_of_ble_eq_true rfl) (Nat.le_of_ble_eq_true rfl) (Nat.le_of_ble_eq_true rfl) (Nat.le_of_ble_eq_true rfl) (by decide +kernel) ?_
  refine oj_putF (pc := 112) (r := 70) fpfc_M_47 ⟨_, rfl, rfl⟩ rfl rfl (Nat.le_of_ble_eq_true rfl) ⟨rfl, fun _ => ⟨rfl, rfl⟩⟩ (by decide +kernel) ?_
  refine oj_ald0 (pc := 115) (by decide +kernel) ?_
  refine oj_bipush (pc := 116) (v := 16) ⟨by decide, by decide⟩ (by decide +kernel) ?_
  refine oj_newa (pc := 118) (b := false) (aty := .int) (N := 16) (NN := 16) (by decide) ac_int rfl (Nat.le_of_ble_eq_true rfl) (Nat.le_of_ble_eq_true rfl) (Nat.le_of_ble_eq_true rfl) (Nat.le_of_ble_eq_true rfl) (by decide +kernel) ?_
  refine oj_putF (pc := 120) (r := 71) fpfc_M_50 ⟨_, rfl, rfl⟩ rfl rfl (Nat.le_of_ble_eq_true rfl) ⟨rfl, fun _ => ⟨rfl, rfl⟩⟩ (by decide +kernel) ?_
  refine oj_wd (wd := WC53) rfl ?_
  refine oj_ald0 (pc := 123) (by decide +kernel) ?_
  refine oj_bipush (pc := 124) (v := 16) ⟨by decide, by decide⟩ (by decide +kernel) ?_
  refine oj_newa (pc := 126) (b := false) (aty := .int) (N := 16) (NN := 16) (by decide) ac_int rfl (Nat.le_of_ble_eq_true rfl) (Nat.le_of_ble_eq_true rfl) (Nat.le_of_ble_eq_true rfl) (Nat.le_of_ble_eq_true rfl) (by decide +kernel) ?_
  refine oj_putF (pc := 128) (r := 72) fpfc_M_53 ⟨_, rfl, rfl⟩ rfl rfl (Nat.le_of_ble_eq_true rfl) ⟨rfl, fun _ => ⟨rfl, rfl⟩⟩ (by decide +kernel) ?_
  refine oj_ald0 (pc := 131) (by decide +kernel) ?_
  refine oj_bipush (pc := 132) (v := 16) ⟨by decide, by decide⟩ (by decide +kernel) ?_
  refine oj_newa (pc := 134) (b := false) (aty := .int) (N := 16) (NN := 16) (by decide) ac_int rfl (Nat.le_of_ble_eq_true rfl) (Nat.le_of_ble_eq_true rfl) (Nat.le_of_ble_eq_true rfl) (Nat.le_of_ble_eq_true rfl) (by decide +kernel) ?_
  refine oj_putF (pc := 136) (r := 73) fpfc_M_56 ⟨_, rfl, rfl⟩ rfl rfl (Nat.le_of_ble_eq_true rfl) ⟨rfl, fun _ => ⟨rfl, rfl⟩⟩ (by decide +kernel) ?_
  refine oj_wd (wd := WC54) rfl ?_
  refine oj_ald0 (pc := 139) (by decide +kernel) ?_
  refine oj_bipush (pc := 140) (v := 16) ⟨by decide, by decide⟩ (by decide +kernel) ?_
  refine oj_newa (pc := 142) (b := false) (aty := .int) (N := 16) (NN := 16) (by decide) ac_int rfl (Nat.le_of_ble_eq_true rfl) (Nat.le_of_ble_eq_true rfl) (Nat.le_of_ble_eq_true rfl) (Nat.le_of_ble_eq_true rfl) (by decide +kernel) ?_
  refine oj_putF (pc := 144) (r := 74) fpfc_M_59 ⟨_, rfl, rfl⟩ rfl rfl (Nat.le_of_ble_eq_true rfl) ⟨rfl, fun _ => ⟨rfl, rfl⟩⟩ (by decide +kernel) ?_
  refine oj_ald0 (pc := 147) (by decide +kernel) ?_
  refine oj_sipush (pc := 148) (v := 260) ⟨by decide, by decide⟩ (by decide +kernel) ?_
  refine oj_newa (pc := 151) (b := false) (aty := .int) (N := 260) (NN := 260) (by decide) ac_int rfl (Nat.le_of_ble_eq_true rfl) (Nat.le_of_ble_eq_true rfl) (Nat.le_of_ble_eq_true rfl) (Nat.le_of_ble_eq_true rfl) (by decide +kernel) ?_
  refine oj_putF (pc := 153) (r := 75) fpfc_M_62 ⟨_, rfl, rfl⟩ rfl rfl (Nat.le_of_ble_eq_true rfl) ⟨rfl, fun _ => ⟨rfl, rfl⟩⟩ (by decide +kernel) ?_
  refine oj_wd (wd := WC55) rfl ?_
  refine oj_ald0 (pc := 156) (by decide +kernel) ?_
  refine oj_bipush (pc := 157) (v := 8) ⟨by decide, by decide⟩ (by decide +kernel) ?_
  refine oj_newa (pc := 159) (b := false) (aty := .int) (N := 8) (NN := 8) (by decide) ac_int rfl (Nat.le_of_ble_eq_true rfl) (Nat.le_of_ble_eq_true rfl) (Nat.le_of_ble_eq_true rfl) (Nat.le_of_ble_eq_true rfl) (by decide +kernel) ?_
  refine oj_putF (pc := 161) (r := 76) fpfc_M_65 ⟨_, rfl, rfl⟩ rfl rfl (Nat.le_of_ble_eq_true rfl) ⟨rfl, fun _ => ⟨rfl, rfl⟩⟩ (by decide +kernel) ?_
  refine oj_ald0 (pc := 164) (by decide +kernel) ?_
  refine oj_bipush (pc := 165) (v := 100) ⟨by decide, by decide⟩ (by decide +kernel) ?_
  refine oj_newa (pc := 167) (b := false) (aty := .int) (N := 100) (NN := 100) (by decide) ac_int rfl (Nat.le_of_ble_eq_true rfl) (Nat.le_of_ble_eq_true rfl) (Nat.le_of_ble_eq_true rfl) (Nat.le_of_ble_eq_true rfl) (by decide +kernel) ?_
  refine oj_putF (pc := 169) (r := 77) fpfc_M_68 ⟨_, rfl, rfl⟩ rfl rfl (Nat.le_of_ble_eq_true rfl) ⟨rfl, fun _ => ⟨rfl, rfl⟩⟩ (by decide +kernel) ?_
  refine oj_wd (wd := WC56) rfl ?_
  refine oj_ald0 (pc := 172) (by decide +kernel) ?_
  refine oj_bipush (pc := 173) (v := 60) ⟨by decide, by decide⟩ (by decide +kernel) ?_
  refine oj_newa (pc := 175) (b := false) (aty := .int) (N := 60) (NN := 60) (by decide) ac_int rfl (Nat.le_of_ble_eq_true rfl) (Nat.le_of_ble_eq_true rfl) (Nat.le_of_ble_eq_true rfl) (Nat.le_of_ble_eq_true rfl) (by decide +kernel) ?_
  refine oj_putF (pc := 177) (r := 78) fpfc_M_71 ⟨_, rfl, rfl⟩ rfl rfl (Nat.le_of_ble_eq_true rfl) ⟨rfl, fun _ => ⟨rfl, rfl⟩⟩ (by decide +kernel) ?_
  refine oj_ald0 (pc := 180) (by decide +kernel) ?_
  refine oj_iconst (pc := 181) (v := 2) ⟨by decide, by decide⟩ (by decide +kernel) ?_
  refine oj_newa (pc := 182) (b := false) (aty := .int) (N := 2) (NN := 2) (by decide) ac_int rfl (Nat.le_of_ble_eq_true rfl) (Nat.le_of_ble_eq_true rfl) (Nat.le_of_ble_eq_true rfl) (Nat.le_of_ble_eq_true rfl) (by decide +kernel) ?_
  refine oj_putF (pc := 184) (r := 79) fpfc_M_74 ⟨_, rfl, rfl⟩ rfl rfl (Nat.le_of_ble_eq_true rfl) ⟨rfl, fun _ => ⟨rfl, rfl⟩⟩ (by decide +kernel) ?_
  refine oj_wd (wd := WC57) rfl ?_
  refine oj_ald0 (pc := 187) (by decide +kernel) ?_
  refine oj_iconst (pc := 188) (v := 2) ⟨by decide, by decide⟩ (by decide +kernel) ?_
  refine oj_newa (pc := 189) (b := false) (aty := .int) (N := 2) (NN := 2) (by decide) ac_int rfl (Nat.le_of_ble_eq_true rfl) (Nat.le_of_ble_eq_true rfl) (Nat.le_of_ble_eq_true rfl) (Nat.le_of_ble_eq_true rfl) (by decide +kernel) ?_
  refine oj_putF (pc := 191) (r := 80) fpfc_M_77 ⟨_, rfl, rfl⟩ rfl rfl (Nat.le_of_ble_eq_true rfl) ⟨rfl, fun _ => ⟨rfl, rfl⟩⟩ (by decide +kernel) ?_
  refine oj_ald0 (pc := 194) (by decide +kernel) ?_
  refine oj_iconst (pc := 195) (v := 2) ⟨by decide, by decide⟩ (by decide +kernel) ?_
  refine oj_newa (pc := 196) (b := false) (aty := .int) (N := 2) (NN := 2) (by decide) ac_int rfl (Nat.le_of_ble_eq_true rfl) (Nat.le_of_ble_eq_true rfl) (Nat.le_of_ble_eq_true rfl) (Nat.le_of_ble_eq_true rfl) (by decide +kernel) ?_
  refine oj_putF (pc := 198) (r := 81) fpfc_M_80 ⟨_, rfl, rfl⟩ rfl rfl (Nat.le_of_ble_eq_true rfl) ⟨rfl, fun _ => ⟨rfl, rfl⟩⟩ (by decide +kernel) ?_
  refine oj_wd (wd := WC58) rfl ?_
  refine oj_ald0 (pc := 201) (by decide +kernel) ?_
  refine oj_bipush (pc := 202) (v := 100) ⟨by decide, by decide⟩ (by decide +kernel) ?_
  refine oj_newa (pc := 204) (b := false) (aty := .int) (N := 100) (NN := 100) (by decide) ac_int rfl (Nat.le_of_ble_eq_true rfl) (Nat.le_of_ble_eq_true rfl) (Nat.le_of_ble_eq_true rfl) (Nat.le_of_ble_eq_true rfl) (by decide +kernel) ?_
  refine oj_putF (pc := 206) (r := 82) fpfc_M_83 ⟨_, rfl, rfl⟩ rfl rfl (Nat.le_of_ble_eq_true rfl) ⟨rfl, fun _ => ⟨rfl, rfl⟩⟩ (by decide +kernel) ?_
  refine oj_ald0 (pc := 209) (by decide +kernel) ?_
  refine oj_bipush (pc := 210) (v := 60) ⟨by decide, by decide⟩ (by decide +kernel) ?_
  refine oj_newa (pc := 212) (b := false) (aty := .int) (N := 60) (NN := 60) (by decide) ac_int rfl (Nat.le_of_ble_eq_true rfl) (Nat.le_of_ble_eq_true rfl) (Nat.le_of_ble_eq_true rfl) (Nat.le_of_ble_eq_true rfl) (by decide +kernel) ?_
  refine oj_putF (pc := 214) (r := 83) fpfc_M_86 ⟨_, rfl, rfl⟩ rfl rfl (Nat.le_of_ble_eq_true rfl) ⟨rfl, fun _ => ⟨rfl, rfl⟩⟩ (by decide +kernel) ?_
  refine oj_wd (wd := WC59) rfl ?_
  refine oj_ald0 (pc := 217) (by decide +kernel) ?_
  refine oj_bipush (pc := 218) (v := 12) ⟨by decide, by decide⟩ (by decide +kernel) ?_
  refine oj_newa (pc := 220) (b := false) (aty := .int) (N := 12) (NN := 12) (by decide) ac_int rfl (Nat.le_of_ble_eq_true rfl) (Nat.le_of_ble_eq_true rfl) (Nat.le_of_ble_eq_true rfl) (Nat.le_of_ble_eq_true rfl) (by decide +kernel) ?_
  refine oj_putF (pc := 222) (r := 84) fpfc_M_89 ⟨_, rfl, rfl⟩ rfl rfl (Nat.le_of_ble_eq_true rfl) ⟨rfl, fun _ => ⟨rfl, rfl⟩⟩ (by decide +kernel) ?_
  refine oj_ald0 (pc := 225) (by decide +kernel) ?_
  refine oj_bipush (pc := 226) (v := 12) ⟨by decide, by decide⟩ (by decide +kernel) ?_
  refine oj_newa (pc := 228) (b := false) (aty := .int) (N := 12) (NN := 12) (by decide) ac_int rfl (Nat.le_of_ble_eq_true rfl) (Nat.le_of_ble_eq_true rfl) (Nat.le_of_ble_eq_true rfl) (Nat.le_of_ble_eq_true rfl) (by decide +kernel) ?_
  refine oj_putF (pc := 230) (r := 85) fpfc_M_92 ⟨_, rfl, rfl⟩ rfl rfl (Nat.le_of_ble_eq_true rfl) ⟨rfl, fun _ => ⟨rfl, rfl⟩⟩ (by decide +kernel) ?_
  refine oj_wd (wd := WC60) rfl ?_
  refine oj_ald0 (pc := 233) (by decide +kernel) ?_
  refine oj_ldc (pc := 234) (v := 40960) kc_M_95 ⟨by decide, by decide⟩ (by decide +kernel) ?_
  refine oj_newa (pc := 236) (b := true) (aty := .byte) (N := 40960) (NN := 40960) (by decide) ac_byte rfl (Nat.le_of_ble_eq_true rfl) (Nat.le_of_ble_eq_true rfl) (Nat.le_of_ble_eq_true rfl) (Nat.le_of_ble_eq_true rfl) (by decide +kernel) ?_
  refine oj_putF (pc := 238) (r := 86) fpfc_M_96 ⟨_, rfl, rfl⟩ rfl rfl (Nat.le_of_ble_eq_true rfl) ⟨rfl, fun _ => ⟨rfl, rfl⟩⟩ (by decide +kernel) ?_
  refine oj_ald0 (pc := 241) (by decide +kernel) ?_
  refine oj_bipush (pc := 242) (v := 100) ⟨by decide, by decide⟩ (by decide +kernel) ?_
  refine oj_newa (pc := 244) (b := false) (aty := .int) (N := 100) (NN := 100) (by decide) ac_int rfl (Nat.le_of_ble_eq_true rfl) (Nat.le_of_ble_eq_true rfl) (Nat.le_of_ble_eq_true rfl) (Nat.le_of_ble_eq_true rfl) (by decide +kernel) ?_
  refine oj_putF (pc := 246) (r := 87) fpfc_M_99 ⟨_, rfl, rfl⟩ rfl rfl (Nat.le_of_ble_eq_true rfl) ⟨rfl, fun _ => ⟨rfl, rfl⟩⟩ (by decide +kernel) ?_
  refine oj_wd (wd := WC61) rfl ?_
  refine oj_ald0 (pc := 249) (by decide +kernel) ?_
  refine oj_bipush (pc := 250) (v := 100) ⟨by decide, by decide⟩ (by decide +kernel) ?_
  refine oj_newa (pc := 252) (b := false) (aty := .int) (N := 100) (NN := 100) (by decide) ac_int rfl (Nat.le_of_ble_eq_true rfl) (Nat.le_of_ble_eq_true rfl) (Nat.le_of_ble_eq_true rfl) (Nat.le_of_ble_eq_true rfl) (by decide +kernel) ?_
  refine oj_putF (pc := 254) (r := 88) fpfc_M_102 ⟨_, rfl, rfl⟩ rfl rfl (Nat.le_of_ble_eq_true rfl) ⟨rfl, fun _ => ⟨rfl, rfl⟩⟩ (by decide +kernel) ?_
  refine oj_ald0 (pc := 257) (by decide +kernel) ?_
  refine oj_bipush (pc := 258) (v := 6) ⟨by decide, by decide⟩ (by decide +kernel) ?_
  refine oj_newa (pc := 260) (b := false) (aty := .int) (N := 6) (NN := 6) (by decide) ac_int rfl (Nat.le_of_ble_eq_true rfl) (Nat.le_of_ble_eq_true rfl) (Nat.le_of_ble_eq_true rfl) (Nat.le_of_ble_eq_true rfl) (by decide +kernel) ?_
  refine oj_putF (pc := 262) (r := 89) fpfc_M_105 ⟨_, rfl, rfl⟩ rfl rfl (Nat.le_of_ble_eq_true rfl) ⟨rfl, fun _ => ⟨rfl, rfl⟩⟩ (by decide +kernel) ?_
  refine oj_wd (wd := WC62) rfl ?_
  refine oj_ald0 (pc := 265) (by decide +kernel) ?_
  refine oj_bipush (pc := 266) (v := 6) ⟨by decide, by decide⟩ (by decide +kernel) ?_
  refine oj_newa (pc := 268) (b := false) (aty := .int) (N := 6) (NN := 6) (by decide) ac_int rfl (Nat.le_of_ble_eq_true rfl) (Nat.le_of_ble_eq_true rfl) (Nat.le_of_ble_eq_true rfl) (Nat.le_of_ble_eq_true rfl) (by decide +kernel) ?_
  refine oj_putF (pc := 270) (r := 90) fpfc_M_108 ⟨_, rfl, rfl⟩ rfl rfl (Nat.le_of_ble_eq_true rfl) ⟨rfl, fun _ => ⟨rfl, rfl⟩⟩ (by decide +kernel) ?_
  refine oj_ald0 (pc := 273) (by decide +kernel) ?_
  refine oj_bipush (pc := 274) (v := 6) ⟨by decide, by decide⟩ (by decide +kernel) ?_
  refine oj_newa (pc := 276) (b := false) (aty := .int) (N := 6) (NN := 6) (by decide) ac_int rfl (Nat.le_of_ble_eq_true rfl) (Nat.le_of_ble_eq_true rfl) (Nat.le_of_ble_eq_true rfl) (Nat.le_of_ble_eq_true rfl) (by decide +kernel) ?_
  refine oj_putF (pc := 278) (r := 91) fpfc_M_111 ⟨_, rfl, rfl⟩ rfl rfl (Nat.le_of_ble_eq_true rfl) ⟨rfl, fun _ => ⟨rfl, rfl⟩⟩ (by decide +kernel) ?_
  refine oj_wd (wd := WC63) rfl ?_
  refine oj_ald0 (pc := 281) (by decide +kernel) ?_
  refine oj_bipush (pc := 282) (v := 6) ⟨by decide, by decide⟩ (by decide +kernel) ?_
  refine oj_newa (pc := 284) (b := false) (aty := .int) (N := 6) (NN := 6) (by decide) ac_int rfl (Nat.le_of_ble_eq_true rfl) (Nat.le_of_ble_eq_true rfl) (Nat.le_of_ble_eq_true rfl) (Nat.le_of_ble_eq_true rfl) (by decide +kernel) ?_
  refine oj_putF (pc := 286) (r := 92) fpfc_M_114 ⟨_, rfl, rfl⟩ rfl rfl (Nat.le_of_ble_eq_true rfl) ⟨rfl, fun _ => ⟨rfl, rfl⟩⟩ (by decide +kernel) ?_
  refine oj_ald0 (pc := 289) (by decide +kernel) ?_
  refine oj_sipush (pc := 290) (v := 1024) ⟨by decide, by decide⟩ (by decide +kernel) ?_
  refine oj_newa (pc := 293) (b := false) (aty := .int) (N := 1024) (NN := 1024) (by decide) ac_int rfl (Nat.le_of_ble_eq_true rfl) (Nat.le_of_ble_eq_true rfl) (Nat.le_of_ble_eq_true rfl) (Nat.le_of_ble_eq_true rfl) (by decide +kernel) ?_
  refine oj_putF (pc := 295) (r := 93) fpfc_M_117 ⟨_, rfl, rfl⟩ rfl rfl (Nat.le_of_ble_eq_true rfl) ⟨rfl, fun _ => ⟨rfl, rfl⟩⟩ (by decide +kernel) ?_
  refine oj_wd (wd := WC64) rfl ?_
  refine oj_ald0 (pc := 298) (by decide +kernel) ?_
  refine oj_sipush (pc := 299) (v := 1024) ⟨by decide, by decide⟩ (by decide +kernel) ?_
  refine oj_newa (pc := 302) (b := false) (aty := .int) (N := 1024) (NN := 1024) (by decide) ac_int rfl (Nat.le_of_ble_eq_true rfl) (Nat.le_of_ble_eq_true rfl) (Nat.le_of_ble_eq_true rfl) (Nat.le_of_ble_eq_true rfl) (by decide +kernel) ?_
  refine oj_putF (pc := 304) (r := 94) fpfc_M_120 ⟨_, rfl, rfl⟩ rfl rfl (Nat.le_of_ble_eq_true rfl) ⟨rfl, fun _ => ⟨rfl, rfl⟩⟩ (by decide +kernel) ?_
  refine oj_ald0 (pc := 307) (by decide +kernel) ?_
  refine oj_getR (pc := 308) (r := 58) fc_M_7 rfl rfl (by decide +kernel) ?_
  refine oj_sipush (pc := 311) (v := 158) ⟨by decide, by decide⟩ (by decide +kernel) ?_
  refine oj_iconst (pc := 314) (v := 1) ⟨by decide, by decide⟩ (by decide +kernel) ?_
  refine oj_iast (pc := 315) (α := Unit) (K := fun _ => True) (f := fun _ => some ()) (NN := 159) rfl rfl (by decide +kernel) (by decide) (fun _ => ?_)
  refine oj_ald0 (pc := 316) (by decide +kernel) ?_
  refine oj_getR (pc := 317) (r := 58) fc_M_7 rfl rfl (by decide +kernel) ?_
  refine oj_sipush (pc := 320) (v := 151) ⟨by decide, by decide⟩ (by decide +kernel) ?_
  refine oj_bipush (pc := 323) (v := -2) ⟨by decide, by decide⟩ (by decide +kernel) ?_
  refine oj_iast (pc := 325) (α := Unit) (K := fun _ => True) (f := fun _ => some ()) (NN := 159) rfl rfl (by decide +kernel) (by decide) (fun _ => ?_)
  refine oj_ald0 (pc := 326) (by decide +kernel) ?_
  refine oj_getR (pc := 327) (r := 58) fc_M_7 rfl rfl (by decide +kernel) ?_
  refine oj_sipush (pc := 330) (v := 153) ⟨by decide, by decide⟩ (by decide +kernel) ?_
  refine oj_bipush (pc := 333) (v := -2) ⟨by decide, by decide⟩ (by decide +kernel) ?_
  refine oj_iast (pc := 335) (α := Unit) (K := fun _ => True) (f := fun _ => some ()) (NN := 159) rfl rfl (by decide +kernel) (by decide) (fun _ => ?_)
  exact oj_vret (pc := 336) (by decide +kernel) rfl (Nat.le_of_ble_eq_true rfl) (Nat.le_of_ble_eq_true rfl) ⟨rfl, rfl⟩
theorem WC_WD : WC65 = WD := rfl
end
