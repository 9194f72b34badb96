section
-- ===== PART A: goes FIRST, ahead of the names: the tables' words, and 'selects' of the private methods out of them =====
/-- a private method of a class that the tables say can be made, by its rows of tables_1 -/
def lw_okq (q : MethodName × Nat) : Prop := (q.1.cls ≠ "java/lang/invoke/MethodHandle" ∧ q.1.cls ≠ "java/lang/invoke/VarHandle") ∧ Cond.instantiable q.1.cls q.2 ∈ tables_1 ∧ Cond.privateMethod q.1 ∈ tables_1 ∧ Cond.instanceMethod q.1 ∈ tables_1
theorem lw_p0 : lw_okq (⟨"PillowBarge", "change", "(IIII)I"⟩, 9) := ⟨⟨by decide +kernel, by decide +kernel⟩, List.mem_of_getElem? (i := 33) (by decide +kernel), List.mem_of_getElem? (i := 255) (by decide +kernel), List.mem_of_getElem? (i := 256) (by decide +kernel)⟩
theorem lw_p1 : lw_okq (⟨"PillowBarge$State", "faultOfMoment", "(I)I"⟩, 4) := ⟨⟨by decide +kernel, by decide +kernel⟩, List.mem_of_getElem? (i := 41) (by decide +kernel), List.mem_of_getElem? (i := 284) (by decide +kernel), List.mem_of_getElem? (i := 285) (by decide +kernel)⟩
theorem lw_p2 : lw_okq (⟨"PillowBarge$State", "faultOfLimit", "(I)I"⟩, 4) := ⟨⟨by decide +kernel, by decide +kernel⟩, List.mem_of_getElem? (i := 41) (by decide +kernel), List.mem_of_getElem? (i := 333) (by decide +kernel), List.mem_of_getElem? (i := 334) (by decide +kernel)⟩
theorem lw_p3 : lw_okq (⟨"java/lang/Throwable", "fillInStackTrace", "(I)Ljava/lang/Throwable;"⟩, 6) := ⟨⟨by decide +kernel, by decide +kernel⟩, List.mem_of_getElem? (i := 383) (by decide +kernel), List.mem_of_getElem? (i := 381) (by decide +kernel), List.mem_of_getElem? (i := 382) (by decide +kernel)⟩
theorem lw_p4 : lw_okq (⟨"PillowBarge$History", "placeAt", "(I)LPillowBarge$State;"⟩, 3) := ⟨⟨by decide +kernel, by decide +kernel⟩, List.mem_of_getElem? (i := 141) (by decide +kernel), List.mem_of_getElem? (i := 473) (by decide +kernel), List.mem_of_getElem? (i := 474) (by decide +kernel)⟩
theorem lw_p5 : lw_okq (⟨"PillowBarge$State", "addPillow", "(III)I"⟩, 4) := ⟨⟨by decide +kernel, by decide +kernel⟩, List.mem_of_getElem? (i := 41) (by decide +kernel), List.mem_of_getElem? (i := 510) (by decide +kernel), List.mem_of_getElem? (i := 511) (by decide +kernel)⟩
theorem lw_p6 : lw_okq (⟨"PillowBarge$State", "deliverTop", "(I)I"⟩, 4) := ⟨⟨by decide +kernel, by decide +kernel⟩, List.mem_of_getElem? (i := 41) (by decide +kernel), List.mem_of_getElem? (i := 518) (by decide +kernel), List.mem_of_getElem? (i := 519) (by decide +kernel)⟩
theorem lw_p7 : lw_okq (⟨"PillowBarge$State", "moveTop", "(II)I"⟩, 4) := ⟨⟨by decide +kernel, by decide +kernel⟩, List.mem_of_getElem? (i := 41) (by decide +kernel), List.mem_of_getElem? (i := 530) (by decide +kernel), List.mem_of_getElem? (i := 531) (by decide +kernel)⟩
theorem lw_p8 : lw_okq (⟨"PillowBarge$State", "replaceLimit", "(I)I"⟩, 4) := ⟨⟨by decide +kernel, by decide +kernel⟩, List.mem_of_getElem? (i := 41) (by decide +kernel), List.mem_of_getElem? (i := 551) (by decide +kernel), List.mem_of_getElem? (i := 552) (by decide +kernel)⟩
theorem lw_p9 : lw_okq (⟨"PillowBarge$State", "practise", "(I)Z"⟩, 4) := ⟨⟨by decide +kernel, by decide +kernel⟩, List.mem_of_getElem? (i := 41) (by decide +kernel), List.mem_of_getElem? (i := 555) (by decide +kernel), List.mem_of_getElem? (i := 556) (by decide +kernel)⟩
theorem lw_p10 : lw_okq (⟨"PillowBarge", "countPairs", "()I"⟩, 9) := ⟨⟨by decide +kernel, by decide +kernel⟩, List.mem_of_getElem? (i := 33) (by decide +kernel), List.mem_of_getElem? (i := 621) (by decide +kernel), List.mem_of_getElem? (i := 622) (by decide +kernel)⟩
theorem lw_p11 : lw_okq (⟨"PillowBarge", "countInTheWayOf", "(I)I"⟩, 9) := ⟨⟨by decide +kernel, by decide +kernel⟩, List.mem_of_getElem? (i := 33) (by decide +kernel), List.mem_of_getElem? (i := 626) (by decide +kernel), List.mem_of_getElem? (i := 627) (by decide +kernel)⟩
theorem lw_p12 : lw_okq (⟨"PillowBarge", "countPairsByStacks", "()I"⟩, 9) := ⟨⟨by decide +kernel, by decide +kernel⟩, List.mem_of_getElem? (i := 33) (by decide +kernel), List.mem_of_getElem? (i := 644) (by decide +kernel), List.mem_of_getElem? (i := 645) (by decide +kernel)⟩
theorem lw_p13 : lw_okq (⟨"PillowBarge", "countPairsInStack", "(I)I"⟩, 9) := ⟨⟨by decide +kernel, by decide +kernel⟩, List.mem_of_getElem? (i := 33) (by decide +kernel), List.mem_of_getElem? (i := 648) (by decide +kernel), List.mem_of_getElem? (i := 649) (by decide +kernel)⟩
theorem lw_p14 : lw_okq (⟨"PillowBarge", "seePillow", "(I)I"⟩, 9) := ⟨⟨by decide +kernel, by decide +kernel⟩, List.mem_of_getElem? (i := 33) (by decide +kernel), List.mem_of_getElem? (i := 652) (by decide +kernel), List.mem_of_getElem? (i := 653) (by decide +kernel)⟩
theorem lw_p15 : lw_okq (⟨"PillowBarge", "separate", "()V"⟩, 9) := ⟨⟨by decide +kernel, by decide +kernel⟩, List.mem_of_getElem? (i := 33) (by decide +kernel), List.mem_of_getElem? (i := 981) (by decide +kernel), List.mem_of_getElem? (i := 982) (by decide +kernel)⟩
def lw_privs_1 : List (MethodName × Nat) := [(⟨"PillowBarge", "change", "(IIII)I"⟩, 9), (⟨"PillowBarge$State", "faultOfMoment", "(I)I"⟩, 4), (⟨"PillowBarge$State", "faultOfLimit", "(I)I"⟩, 4), (⟨"java/lang/Throwable", "fillInStackTrace", "(I)Ljava/lang/Throwable;"⟩, 6), (⟨"PillowBarge$History", "placeAt", "(I)LPillowBarge$State;"⟩, 3), (⟨"PillowBarge$State", "addPillow", "(III)I"⟩, 4), (⟨"PillowBarge$State", "deliverTop", "(I)I"⟩, 4), (⟨"PillowBarge$State", "moveTop", "(II)I"⟩, 4), (⟨"PillowBarge$State", "replaceLimit", "(I)I"⟩, 4), (⟨"PillowBarge$State", "practise", "(I)Z"⟩, 4), (⟨"PillowBarge", "countPairs", "()I"⟩, 9), (⟨"PillowBarge", "countInTheWayOf", "(I)I"⟩, 9), (⟨"PillowBarge", "countPairsByStacks", "()I"⟩, 9), (⟨"PillowBarge", "countPairsInStack", "(I)I"⟩, 9), (⟨"PillowBarge", "seePillow", "(I)I"⟩, 9), (⟨"PillowBarge", "separate", "()V"⟩, 9)]
theorem lw_r1 : ∀ q ∈ lw_privs_1, lw_okq q := List.forall_mem_cons.mpr ⟨lw_p0, List.forall_mem_cons.mpr ⟨lw_p1, List.forall_mem_cons.mpr ⟨lw_p2, List.forall_mem_cons.mpr ⟨lw_p3, List.forall_mem_cons.mpr ⟨lw_p4, List.forall_mem_cons.mpr ⟨lw_p5, List.forall_mem_cons.mpr ⟨lw_p6, List.forall_mem_cons.mpr ⟨lw_p7, List.forall_mem_cons.mpr ⟨lw_p8, List.forall_mem_cons.mpr ⟨lw_p9, List.forall_mem_cons.mpr ⟨lw_p10, List.forall_mem_cons.mpr ⟨lw_p11, List.forall_mem_cons.mpr ⟨lw_p12, List.forall_mem_cons.mpr ⟨lw_p13, List.forall_mem_cons.mpr ⟨lw_p14, List.forall_mem_cons.mpr ⟨lw_p15, fun _ h => absurd h List.not_mem_nil⟩⟩⟩⟩⟩⟩⟩⟩⟩⟩⟩⟩⟩⟩⟩⟩
theorem lw_p16 : lw_okq (⟨"PillowBarge", "requirePillow", "(I)I"⟩, 9) := ⟨⟨by decide +kernel, by decide +kernel⟩, List.mem_of_getElem? (i := 33) (by decide +kernel), List.mem_of_getElem? (i := 1094) (by decide +kernel), List.mem_of_getElem? (i := 1095) (by decide +kernel)⟩
theorem lw_p17 : lw_okq (⟨"PillowBarge", "mostLevelBay", "(I)I"⟩, 9) := ⟨⟨by decide +kernel, by decide +kernel⟩, List.mem_of_getElem? (i := 33) (by decide +kernel), List.mem_of_getElem? (i := 1158) (by decide +kernel), List.mem_of_getElem? (i := 1159) (by decide +kernel)⟩
theorem lw_p18 : lw_okq (⟨"PillowBarge", "isMoreLevel", "(III)Z"⟩, 9) := ⟨⟨by decide +kernel, by decide +kernel⟩, List.mem_of_getElem? (i := 33) (by decide +kernel), List.mem_of_getElem? (i := 1163) (by decide +kernel), List.mem_of_getElem? (i := 1164) (by decide +kernel)⟩
theorem lw_p19 : lw_okq (⟨"PillowBarge", "oldestSlotIn", "(I)I"⟩, 9) := ⟨⟨by decide +kernel, by decide +kernel⟩, List.mem_of_getElem? (i := 33) (by decide +kernel), List.mem_of_getElem? (i := 1199) (by decide +kernel), List.mem_of_getElem? (i := 1200) (by decide +kernel)⟩
theorem lw_p20 : lw_okq (⟨"PillowBarge", "isOlder", "(II)Z"⟩, 9) := ⟨⟨by decide +kernel, by decide +kernel⟩, List.mem_of_getElem? (i := 33) (by decide +kernel), List.mem_of_getElem? (i := 1203) (by decide +kernel), List.mem_of_getElem? (i := 1204) (by decide +kernel)⟩
theorem lw_p21 : lw_okq (⟨"PillowBarge", "countEarlierTurns", "(I)I"⟩, 9) := ⟨⟨by decide +kernel, by decide +kernel⟩, List.mem_of_getElem? (i := 33) (by decide +kernel), List.mem_of_getElem? (i := 1221) (by decide +kernel), List.mem_of_getElem? (i := 1222) (by decide +kernel)⟩
theorem lw_p22 : lw_okq (⟨"PillowBarge", "hasEarlierTurn", "(II)Z"⟩, 9) := ⟨⟨by decide +kernel, by decide +kernel⟩, List.mem_of_getElem? (i := 33) (by decide +kernel), List.mem_of_getElem? (i := 1225) (by decide +kernel), List.mem_of_getElem? (i := 1226) (by decide +kernel)⟩
theorem lw_p23 : lw_okq (⟨"PillowBarge", "countHeavierBays", "(I)I"⟩, 9) := ⟨⟨by decide +kernel, by decide +kernel⟩, List.mem_of_getElem? (i := 33) (by decide +kernel), List.mem_of_getElem? (i := 1236) (by decide +kernel), List.mem_of_getElem? (i := 1237) (by decide +kernel)⟩
theorem lw_p24 : lw_okq (⟨"PillowBarge", "sumOfAges", "()I"⟩, 9) := ⟨⟨by decide +kernel, by decide +kernel⟩, List.mem_of_getElem? (i := 33) (by decide +kernel), List.mem_of_getElem? (i := 1266) (by decide +kernel), List.mem_of_getElem? (i := 1267) (by decide +kernel)⟩
theorem lw_p25 : lw_okq (⟨"PillowBarge", "renderPillow", "(I)V"⟩, 9) := ⟨⟨by decide +kernel, by decide +kernel⟩, List.mem_of_getElem? (i := 33) (by decide +kernel), List.mem_of_getElem? (i := 1284) (by decide +kernel), List.mem_of_getElem? (i := 1285) (by decide +kernel)⟩
theorem lw_p26 : lw_okq (⟨"PillowBarge$Script", "readCommand", "()Z"⟩, 6) := ⟨⟨by decide +kernel, by decide +kernel⟩, List.mem_of_getElem? (i := 161) (by decide +kernel), List.mem_of_getElem? (i := 1331) (by decide +kernel), List.mem_of_getElem? (i := 1332) (by decide +kernel)⟩
theorem lw_p27 : lw_okq (⟨"PillowBarge$Script", "readKeyword", "()I"⟩, 6) := ⟨⟨by decide +kernel, by decide +kernel⟩, List.mem_of_getElem? (i := 161) (by decide +kernel), List.mem_of_getElem? (i := 1335) (by decide +kernel), List.mem_of_getElem? (i := 1336) (by decide +kernel)⟩
theorem lw_p28 : lw_okq (⟨"PillowBarge$Script", "countMatching", "(Ljava/lang/String;)I"⟩, 6) := ⟨⟨by decide +kernel, by decide +kernel⟩, List.mem_of_getElem? (i := 161) (by decide +kernel), List.mem_of_getElem? (i := 1349) (by decide +kernel), List.mem_of_getElem? (i := 1350) (by decide +kernel)⟩
theorem lw_p29 : lw_okq (⟨"PillowBarge$Script", "isNext", "(IC)Z"⟩, 6) := ⟨⟨by decide +kernel, by decide +kernel⟩, List.mem_of_getElem? (i := 161) (by decide +kernel), List.mem_of_getElem? (i := 1369) (by decide +kernel), List.mem_of_getElem? (i := 1370) (by decide +kernel)⟩
theorem lw_p30 : lw_okq (⟨"PillowBarge$Script", "readDigit", "(I)Z"⟩, 6) := ⟨⟨by decide +kernel, by decide +kernel⟩, List.mem_of_getElem? (i := 161) (by decide +kernel), List.mem_of_getElem? (i := 1374) (by decide +kernel), List.mem_of_getElem? (i := 1375) (by decide +kernel)⟩
theorem lw_p31 : lw_okq (⟨"PillowBarge$Script", "takeDigit", "()I"⟩, 6) := ⟨⟨by decide +kernel, by decide +kernel⟩, List.mem_of_getElem? (i := 161) (by decide +kernel), List.mem_of_getElem? (i := 1378) (by decide +kernel), List.mem_of_getElem? (i := 1379) (by decide +kernel)⟩
def lw_privs_2 : List (MethodName × Nat) := [(⟨"PillowBarge", "requirePillow", "(I)I"⟩, 9), (⟨"PillowBarge", "mostLevelBay", "(I)I"⟩, 9), (⟨"PillowBarge", "isMoreLevel", "(III)Z"⟩, 9), (⟨"PillowBarge", "oldestSlotIn", "(I)I"⟩, 9), (⟨"PillowBarge", "isOlder", "(II)Z"⟩, 9), (⟨"PillowBarge", "countEarlierTurns", "(I)I"⟩, 9), (⟨"PillowBarge", "hasEarlierTurn", "(II)Z"⟩, 9), (⟨"PillowBarge", "countHeavierBays", "(I)I"⟩, 9), (⟨"PillowBarge", "sumOfAges", "()I"⟩, 9), (⟨"PillowBarge", "renderPillow", "(I)V"⟩, 9), (⟨"PillowBarge$Script", "readCommand", "()Z"⟩, 6), (⟨"PillowBarge$Script", "readKeyword", "()I"⟩, 6), (⟨"PillowBarge$Script", "countMatching", "(Ljava/lang/String;)I"⟩, 6), (⟨"PillowBarge$Script", "isNext", "(IC)Z"⟩, 6), (⟨"PillowBarge$Script", "readDigit", "(I)Z"⟩, 6), (⟨"PillowBarge$Script", "takeDigit", "()I"⟩, 6)]
theorem lw_r2 : ∀ q ∈ lw_privs_2, lw_okq q := List.forall_mem_cons.mpr ⟨lw_p16, List.forall_mem_cons.mpr ⟨lw_p17, List.forall_mem_cons.mpr ⟨lw_p18, List.forall_mem_cons.mpr ⟨lw_p19, List.forall_mem_cons.mpr ⟨lw_p20, List.forall_mem_cons.mpr ⟨lw_p21, List.forall_mem_cons.mpr ⟨lw_p22, List.forall_mem_cons.mpr ⟨lw_p23, List.forall_mem_cons.mpr ⟨lw_p24, List.forall_mem_cons.mpr ⟨lw_p25, List.forall_mem_cons.mpr ⟨lw_p26, List.forall_mem_cons.mpr ⟨lw_p27, List.forall_mem_cons.mpr ⟨lw_p28, List.forall_mem_cons.mpr ⟨lw_p29, List.forall_mem_cons.mpr ⟨lw_p30, List.forall_mem_cons.mpr ⟨lw_p31, fun _ h => absurd h List.not_mem_nil⟩⟩⟩⟩⟩⟩⟩⟩⟩⟩⟩⟩⟩⟩⟩⟩
theorem lw_p32 : lw_okq (⟨"PillowBarge$Script", "setArgument", "(II)V"⟩, 6) := ⟨⟨by decide +kernel, by decide +kernel⟩, List.mem_of_getElem? (i := 161) (by decide +kernel), List.mem_of_getElem? (i := 1382) (by decide +kernel), List.mem_of_getElem? (i := 1383) (by decide +kernel)⟩
theorem lw_p33 : lw_okq (⟨"PillowBarge$Script", "accept", "(C)Z"⟩, 6) := ⟨⟨by decide +kernel, by decide +kernel⟩, List.mem_of_getElem? (i := 161) (by decide +kernel), List.mem_of_getElem? (i := 1386) (by decide +kernel), List.mem_of_getElem? (i := 1387) (by decide +kernel)⟩
theorem lw_p34 : lw_okq (⟨"PillowBarge$Script", "readNumber", "(I)Z"⟩, 6) := ⟨⟨by decide +kernel, by decide +kernel⟩, List.mem_of_getElem? (i := 161) (by decide +kernel), List.mem_of_getElem? (i := 1390) (by decide +kernel), List.mem_of_getElem? (i := 1391) (by decide +kernel)⟩
theorem lw_p35 : lw_okq (⟨"PillowBarge$Script", "readSignedNumber", "(I)Z"⟩, 6) := ⟨⟨by decide +kernel, by decide +kernel⟩, List.mem_of_getElem? (i := 161) (by decide +kernel), List.mem_of_getElem? (i := 1394) (by decide +kernel), List.mem_of_getElem? (i := 1395) (by decide +kernel)⟩
theorem lw_p36 : lw_okq (⟨"PillowBarge", "performCommands", "()I"⟩, 9) := ⟨⟨by decide +kernel, by decide +kernel⟩, List.mem_of_getElem? (i := 33) (by decide +kernel), List.mem_of_getElem? (i := 1406) (by decide +kernel), List.mem_of_getElem? (i := 1407) (by decide +kernel)⟩
theorem lw_p37 : lw_okq (⟨"PillowBargeModel", "notLoad", "(III)I"⟩, 18) := ⟨⟨by decide +kernel, by decide +kernel⟩, List.mem_of_getElem? (i := 1460) (by decide +kernel), List.mem_of_getElem? (i := 1525) (by decide +kernel), List.mem_of_getElem? (i := 1526) (by decide +kernel)⟩
theorem lw_p38 : lw_okq (⟨"PillowBargeModel", "isBeyond", "(I)Z"⟩, 18) := ⟨⟨by decide +kernel, by decide +kernel⟩, List.mem_of_getElem? (i := 1460) (by decide +kernel), List.mem_of_getElem? (i := 1538) (by decide +kernel), List.mem_of_getElem? (i := 1539) (by decide +kernel)⟩
theorem lw_p39 : lw_okq (⟨"PillowBargeModel", "momentNow", "()I"⟩, 18) := ⟨⟨by decide +kernel, by decide +kernel⟩, List.mem_of_getElem? (i := 1460) (by decide +kernel), List.mem_of_getElem? (i := 1542) (by decide +kernel), List.mem_of_getElem? (i := 1543) (by decide +kernel)⟩
theorem lw_p40 : lw_okq (⟨"PillowBargeModel", "weightOfBay", "(I)I"⟩, 18) := ⟨⟨by decide +kernel, by decide +kernel⟩, List.mem_of_getElem? (i := 1460) (by decide +kernel), List.mem_of_getElem? (i := 1546) (by decide +kernel), List.mem_of_getElem? (i := 1547) (by decide +kernel)⟩
theorem lw_p41 : lw_okq (⟨"PillowBargeModel", "at", "(III)I"⟩, 18) := ⟨⟨by decide +kernel, by decide +kernel⟩, List.mem_of_getElem? (i := 1460) (by decide +kernel), List.mem_of_getElem? (i := 1550) (by decide +kernel), List.mem_of_getElem? (i := 1551) (by decide +kernel)⟩
theorem lw_p42 : lw_okq (⟨"PillowBargeModel", "fails", "(I)I"⟩, 18) := ⟨⟨by decide +kernel, by decide +kernel⟩, List.mem_of_getElem? (i := 1460) (by decide +kernel), List.mem_of_getElem? (i := 1554) (by decide +kernel), List.mem_of_getElem? (i := 1555) (by decide +kernel)⟩
theorem lw_p43 : lw_okq (⟨"PillowBargeModel", "remembers", "()V"⟩, 18) := ⟨⟨by decide +kernel, by decide +kernel⟩, List.mem_of_getElem? (i := 1460) (by decide +kernel), List.mem_of_getElem? (i := 1558) (by decide +kernel), List.mem_of_getElem? (i := 1559) (by decide +kernel)⟩
theorem lw_p44 : lw_okq (⟨"PillowBargeModel", "copies", "()V"⟩, 18) := ⟨⟨by decide +kernel, by decide +kernel⟩, List.mem_of_getElem? (i := 1460) (by decide +kernel), List.mem_of_getElem? (i := 1562) (by decide +kernel), List.mem_of_getElem? (i := 1563) (by decide +kernel)⟩
theorem lw_p45 : lw_okq (⟨"PillowBargeModel", "keeps", "()V"⟩, 18) := ⟨⟨by decide +kernel, by decide +kernel⟩, List.mem_of_getElem? (i := 1460) (by decide +kernel), List.mem_of_getElem? (i := 1566) (by decide +kernel), List.mem_of_getElem? (i := 1567) (by decide +kernel)⟩
theorem lw_p46 : lw_okq (⟨"PillowBargeModel", "loads", "(III)I"⟩, 18) := ⟨⟨by decide +kernel, by decide +kernel⟩, List.mem_of_getElem? (i := 1460) (by decide +kernel), List.mem_of_getElem? (i := 1570) (by decide +kernel), List.mem_of_getElem? (i := 1571) (by decide +kernel)⟩
theorem lw_p47 : lw_okq (⟨"PillowBargeModel", "lays", "(IIIII)V"⟩, 18) := ⟨⟨by decide +kernel, by decide +kernel⟩, List.mem_of_getElem? (i := 1460) (by decide +kernel), List.mem_of_getElem? (i := 1574) (by decide +kernel), List.mem_of_getElem? (i := 1575) (by decide +kernel)⟩
def lw_privs_3 : List (MethodName × Nat) := [(⟨"PillowBarge$Script", "setArgument", "(II)V"⟩, 6), (⟨"PillowBarge$Script", "accept", "(C)Z"⟩, 6), (⟨"PillowBarge$Script", "readNumber", "(I)Z"⟩, 6), (⟨"PillowBarge$Script", "readSignedNumber", "(I)Z"⟩, 6), (⟨"PillowBarge", "performCommands", "()I"⟩, 9), (⟨"PillowBargeModel", "notLoad", "(III)I"⟩, 18), (⟨"PillowBargeModel", "isBeyond", "(I)Z"⟩, 18), (⟨"PillowBargeModel", "momentNow", "()I"⟩, 18), (⟨"PillowBargeModel", "weightOfBay", "(I)I"⟩, 18), (⟨"PillowBargeModel", "at", "(III)I"⟩, 18), (⟨"PillowBargeModel", "fails", "(I)I"⟩, 18), (⟨"PillowBargeModel", "remembers", "()V"⟩, 18), (⟨"PillowBargeModel", "copies", "()V"⟩, 18), (⟨"PillowBargeModel", "keeps", "()V"⟩, 18), (⟨"PillowBargeModel", "loads", "(III)I"⟩, 18), (⟨"PillowBargeModel", "lays", "(IIIII)V"⟩, 18)]
theorem lw_r3 : ∀ q ∈ lw_privs_3, lw_okq q := List.forall_mem_cons.mpr ⟨lw_p32, List.forall_mem_cons.mpr ⟨lw_p33, List.forall_mem_cons.mpr ⟨lw_p34, List.forall_mem_cons.mpr ⟨lw_p35, List.forall_mem_cons.mpr ⟨lw_p36, List.forall_mem_cons.mpr ⟨lw_p37, List.forall_mem_cons.mpr ⟨lw_p38, List.forall_mem_cons.mpr ⟨lw_p39, List.forall_mem_cons.mpr ⟨lw_p40, List.forall_mem_cons.mpr ⟨lw_p41, List.forall_mem_cons.mpr ⟨lw_p42, List.forall_mem_cons.mpr ⟨lw_p43, List.forall_mem_cons.mpr ⟨lw_p44, List.forall_mem_cons.mpr ⟨lw_p45, List.forall_mem_cons.mpr ⟨lw_p46, List.forall_mem_cons.mpr ⟨lw_p47, fun _ h => absurd h List.not_mem_nil⟩⟩⟩⟩⟩⟩⟩⟩⟩⟩⟩⟩⟩⟩⟩⟩
theorem lw_p48 : lw_okq (⟨"PillowBargeModel", "puts", "(IIII)V"⟩, 18) := ⟨⟨by decide +kernel, by decide +kernel⟩, List.mem_of_getElem? (i := 1460) (by decide +kernel), List.mem_of_getElem? (i := 1578) (by decide +kernel), List.mem_of_getElem? (i := 1579) (by decide +kernel)⟩
theorem lw_p49 : lw_okq (⟨"PillowBargeModel", "notUnload", "(I)I"⟩, 18) := ⟨⟨by decide +kernel, by decide +kernel⟩, List.mem_of_getElem? (i := 1460) (by decide +kernel), List.mem_of_getElem? (i := 1586) (by decide +kernel), List.mem_of_getElem? (i := 1587) (by decide +kernel)⟩
theorem lw_p50 : lw_okq (⟨"PillowBargeModel", "top", "(II)I"⟩, 18) := ⟨⟨by decide +kernel, by decide +kernel⟩, List.mem_of_getElem? (i := 1460) (by decide +kernel), List.mem_of_getElem? (i := 1590) (by decide +kernel), List.mem_of_getElem? (i := 1591) (by decide +kernel)⟩
theorem lw_p51 : lw_okq (⟨"PillowBargeModel", "unloads", "(I)I"⟩, 18) := ⟨⟨by decide +kernel, by decide +kernel⟩, List.mem_of_getElem? (i := 1460) (by decide +kernel), List.mem_of_getElem? (i := 1594) (by decide +kernel), List.mem_of_getElem? (i := 1595) (by decide +kernel)⟩
theorem lw_p52 : lw_okq (⟨"PillowBargeModel", "takes", "(I)V"⟩, 18) := ⟨⟨by decide +kernel, by decide +kernel⟩, List.mem_of_getElem? (i := 1460) (by decide +kernel), List.mem_of_getElem? (i := 1598) (by decide +kernel), List.mem_of_getElem? (i := 1599) (by decide +kernel)⟩
theorem lw_p53 : lw_okq (⟨"PillowBargeModel", "notShift", "(II)I"⟩, 18) := ⟨⟨by decide +kernel, by decide +kernel⟩, List.mem_of_getElem? (i := 1460) (by decide +kernel), List.mem_of_getElem? (i := 1606) (by decide +kernel), List.mem_of_getElem? (i := 1607) (by decide +kernel)⟩
theorem lw_p54 : lw_okq (⟨"PillowBargeModel", "shifts", "(II)I"⟩, 18) := ⟨⟨by decide +kernel, by decide +kernel⟩, List.mem_of_getElem? (i := 1460) (by decide +kernel), List.mem_of_getElem? (i := 1610) (by decide +kernel), List.mem_of_getElem? (i := 1611) (by decide +kernel)⟩
theorem lw_p55 : lw_okq (⟨"PillowBargeModel", "sails", "(I)I"⟩, 18) := ⟨⟨by decide +kernel, by decide +kernel⟩, List.mem_of_getElem? (i := 1460) (by decide +kernel), List.mem_of_getElem? (i := 1621) (by decide +kernel), List.mem_of_getElem? (i := 1622) (by decide +kernel)⟩
theorem lw_p56 : lw_okq (⟨"PillowBargeModel", "portBehind", "(I)I"⟩, 18) := ⟨⟨by decide +kernel, by decide +kernel⟩, List.mem_of_getElem? (i := 1460) (by decide +kernel), List.mem_of_getElem? (i := 1625) (by decide +kernel), List.mem_of_getElem? (i := 1626) (by decide +kernel)⟩
theorem lw_p57 : lw_okq (⟨"PillowBargeModel", "turns", "()I"⟩, 18) := ⟨⟨by decide +kernel, by decide +kernel⟩, List.mem_of_getElem? (i := 1460) (by decide +kernel), List.mem_of_getElem? (i := 1633) (by decide +kernel), List.mem_of_getElem? (i := 1634) (by decide +kernel)⟩
theorem lw_p58 : lw_okq (⟨"PillowBargeModel", "notLimit", "(I)I"⟩, 18) := ⟨⟨by decide +kernel, by decide +kernel⟩, List.mem_of_getElem? (i := 1460) (by decide +kernel), List.mem_of_getElem? (i := 1641) (by decide +kernel), List.mem_of_getElem? (i := 1642) (by decide +kernel)⟩
theorem lw_p59 : lw_okq (⟨"PillowBargeModel", "setsLimit", "(I)I"⟩, 18) := ⟨⟨by decide +kernel, by decide +kernel⟩, List.mem_of_getElem? (i := 1460) (by decide +kernel), List.mem_of_getElem? (i := 1645) (by decide +kernel), List.mem_of_getElem? (i := 1646) (by decide +kernel)⟩
theorem lw_p60 : lw_okq (⟨"PillowBargeModel", "drills", "(I)I"⟩, 18) := ⟨⟨by decide +kernel, by decide +kernel⟩, List.mem_of_getElem? (i := 1460) (by decide +kernel), List.mem_of_getElem? (i := 1656) (by decide +kernel), List.mem_of_getElem? (i := 1657) (by decide +kernel)⟩
theorem lw_p61 : lw_okq (⟨"PillowBargeModel", "countAll", "()I"⟩, 18) := ⟨⟨by decide +kernel, by decide +kernel⟩, List.mem_of_getElem? (i := 1460) (by decide +kernel), List.mem_of_getElem? (i := 1664) (by decide +kernel), List.mem_of_getElem? (i := 1665) (by decide +kernel)⟩
theorem lw_p62 : lw_okq (⟨"PillowBargeModel", "asks", "(II)I"⟩, 18) := ⟨⟨by decide +kernel, by decide +kernel⟩, List.mem_of_getElem? (i := 1460) (by decide +kernel), List.mem_of_getElem? (i := 1680) (by decide +kernel), List.mem_of_getElem? (i := 1681) (by decide +kernel)⟩
theorem lw_p63 : lw_okq (⟨"PillowBargeModel", "placeOf", "(I)I"⟩, 18) := ⟨⟨by decide +kernel, by decide +kernel⟩, List.mem_of_getElem? (i := 1460) (by decide +kernel), List.mem_of_getElem? (i := 1684) (by decide +kernel), List.mem_of_getElem? (i := 1685) (by decide +kernel)⟩
def lw_privs_4 : List (MethodName × Nat) := [(⟨"PillowBargeModel", "puts", "(IIII)V"⟩, 18), (⟨"PillowBargeModel", "notUnload", "(I)I"⟩, 18), (⟨"PillowBargeModel", "top", "(II)I"⟩, 18), (⟨"PillowBargeModel", "unloads", "(I)I"⟩, 18), (⟨"PillowBargeModel", "takes", "(I)V"⟩, 18), (⟨"PillowBargeModel", "notShift", "(II)I"⟩, 18), (⟨"PillowBargeModel", "shifts", "(II)I"⟩, 18), (⟨"PillowBargeModel", "sails", "(I)I"⟩, 18), (⟨"PillowBargeModel", "portBehind", "(I)I"⟩, 18), (⟨"PillowBargeModel", "turns", "()I"⟩, 18), (⟨"PillowBargeModel", "notLimit", "(I)I"⟩, 18), (⟨"PillowBargeModel", "setsLimit", "(I)I"⟩, 18), (⟨"PillowBargeModel", "drills", "(I)I"⟩, 18), (⟨"PillowBargeModel", "countAll", "()I"⟩, 18), (⟨"PillowBargeModel", "asks", "(II)I"⟩, 18), (⟨"PillowBargeModel", "placeOf", "(I)I"⟩, 18)]
theorem lw_r4 : ∀ q ∈ lw_privs_4, lw_okq q := List.forall_mem_cons.mpr ⟨lw_p48, List.forall_mem_cons.mpr ⟨lw_p49, List.forall_mem_cons.mpr ⟨lw_p50, List.forall_mem_cons.mpr ⟨lw_p51, List.forall_mem_cons.mpr ⟨lw_p52, List.forall_mem_cons.mpr ⟨lw_p53, List.forall_mem_cons.mpr ⟨lw_p54, List.forall_mem_cons.mpr ⟨lw_p55, List.forall_mem_cons.mpr ⟨lw_p56, List.forall_mem_cons.mpr ⟨lw_p57, List.forall_mem_cons.mpr ⟨lw_p58, List.forall_mem_cons.mpr ⟨lw_p59, List.forall_mem_cons.mpr ⟨lw_p60, List.forall_mem_cons.mpr ⟨lw_p61, List.forall_mem_cons.mpr ⟨lw_p62, List.forall_mem_cons.mpr ⟨lw_p63, fun _ h => absurd h List.not_mem_nil⟩⟩⟩⟩⟩⟩⟩⟩⟩⟩⟩⟩⟩⟩⟩⟩
theorem lw_p64 : lw_okq (⟨"PillowBargeModel", "weightAll", "()I"⟩, 18) := ⟨⟨by decide +kernel, by decide +kernel⟩, List.mem_of_getElem? (i := 1460) (by decide +kernel), List.mem_of_getElem? (i := 1717) (by decide +kernel), List.mem_of_getElem? (i := 1718) (by decide +kernel)⟩
theorem lw_p65 : lw_okq (⟨"PillowBargeModel", "isBetter", "(III)Z"⟩, 18) := ⟨⟨by decide +kernel, by decide +kernel⟩, List.mem_of_getElem? (i := 1460) (by decide +kernel), List.mem_of_getElem? (i := 1742) (by decide +kernel), List.mem_of_getElem? (i := 1743) (by decide +kernel)⟩
theorem lw_p66 : lw_okq (⟨"PillowBargeModel", "legs", "(I)I"⟩, 18) := ⟨⟨by decide +kernel, by decide +kernel⟩, List.mem_of_getElem? (i := 1460) (by decide +kernel), List.mem_of_getElem? (i := 1765) (by decide +kernel), List.mem_of_getElem? (i := 1766) (by decide +kernel)⟩
theorem lw_p67 : lw_okq (⟨"PillowBargeModel", "inTheWay", "(II)I"⟩, 18) := ⟨⟨by decide +kernel, by decide +kernel⟩, List.mem_of_getElem? (i := 1460) (by decide +kernel), List.mem_of_getElem? (i := 1777) (by decide +kernel), List.mem_of_getElem? (i := 1778) (by decide +kernel)⟩
theorem lw_p68 : lw_okq (⟨"PillowBargeModel", "isTaken", "(I)Z"⟩, 18) := ⟨⟨by decide +kernel, by decide +kernel⟩, List.mem_of_getElem? (i := 1460) (by decide +kernel), List.mem_of_getElem? (i := 1811) (by decide +kernel), List.mem_of_getElem? (i := 1812) (by decide +kernel)⟩
theorem lw_p69 : lw_okq (⟨"PillowBargeModel", "isAhead", "(II)Z"⟩, 18) := ⟨⟨by decide +kernel, by decide +kernel⟩, List.mem_of_getElem? (i := 1460) (by decide +kernel), List.mem_of_getElem? (i := 1815) (by decide +kernel), List.mem_of_getElem? (i := 1816) (by decide +kernel)⟩
theorem lw_p70 : lw_okq (⟨"PillowBargeModel", "writes", "(I)V"⟩, 18) := ⟨⟨by decide +kernel, by decide +kernel⟩, List.mem_of_getElem? (i := 1460) (by decide +kernel), List.mem_of_getElem? (i := 1859) (by decide +kernel), List.mem_of_getElem? (i := 1860) (by decide +kernel)⟩
theorem lw_p71 : lw_okq (⟨"PillowBargeModel", "writesNumber", "(I)V"⟩, 18) := ⟨⟨by decide +kernel, by decide +kernel⟩, List.mem_of_getElem? (i := 1460) (by decide +kernel), List.mem_of_getElem? (i := 1863) (by decide +kernel), List.mem_of_getElem? (i := 1864) (by decide +kernel)⟩
theorem lw_p72 : lw_okq (⟨"PillowBargeModel", "readsAll", "()Z"⟩, 18) := ⟨⟨by decide +kernel, by decide +kernel⟩, List.mem_of_getElem? (i := 1460) (by decide +kernel), List.mem_of_getElem? (i := 1883) (by decide +kernel), List.mem_of_getElem? (i := 1884) (by decide +kernel)⟩
theorem lw_p73 : lw_okq (⟨"PillowBargeModel", "readsCommand", "()Z"⟩, 18) := ⟨⟨by decide +kernel, by decide +kernel⟩, List.mem_of_getElem? (i := 1460) (by decide +kernel), List.mem_of_getElem? (i := 1887) (by decide +kernel), List.mem_of_getElem? (i := 1888) (by decide +kernel)⟩
theorem lw_p74 : lw_okq (⟨"PillowBargeModel", "nextChar", "()I"⟩, 18) := ⟨⟨by decide +kernel, by decide +kernel⟩, List.mem_of_getElem? (i := 1460) (by decide +kernel), List.mem_of_getElem? (i := 1891) (by decide +kernel), List.mem_of_getElem? (i := 1892) (by decide +kernel)⟩
theorem lw_p75 : lw_okq (⟨"PillowBargeModel", "reads", "(I)Z"⟩, 18) := ⟨⟨by decide +kernel, by decide +kernel⟩, List.mem_of_getElem? (i := 1460) (by decide +kernel), List.mem_of_getElem? (i := 1895) (by decide +kernel), List.mem_of_getElem? (i := 1896) (by decide +kernel)⟩
theorem lw_p76 : lw_okq (⟨"PillowBargeModel", "readsL", "()Z"⟩, 18) := ⟨⟨by decide +kernel, by decide +kernel⟩, List.mem_of_getElem? (i := 1460) (by decide +kernel), List.mem_of_getElem? (i := 1899) (by decide +kernel), List.mem_of_getElem? (i := 1900) (by decide +kernel)⟩
theorem lw_p77 : lw_okq (⟨"PillowBargeModel", "readsDigit", "(I)Z"⟩, 18) := ⟨⟨by decide +kernel, by decide +kernel⟩, List.mem_of_getElem? (i := 1460) (by decide +kernel), List.mem_of_getElem? (i := 1903) (by decide +kernel), List.mem_of_getElem? (i := 1904) (by decide +kernel)⟩
theorem lw_p78 : lw_okq (⟨"PillowBargeModel", "readsNumber", "(I)Z"⟩, 18) := ⟨⟨by decide +kernel, by decide +kernel⟩, List.mem_of_getElem? (i := 1460) (by decide +kernel), List.mem_of_getElem? (i := 1907) (by decide +kernel), List.mem_of_getElem? (i := 1908) (by decide +kernel)⟩
theorem lw_p79 : lw_okq (⟨"PillowBargeModel", "readsS", "()Z"⟩, 18) := ⟨⟨by decide +kernel, by decide +kernel⟩, List.mem_of_getElem? (i := 1460) (by decide +kernel), List.mem_of_getElem? (i := 1911) (by decide +kernel), List.mem_of_getElem? (i := 1912) (by decide +kernel)⟩
def lw_privs_5 : List (MethodName × Nat) := [(⟨"PillowBargeModel", "weightAll", "()I"⟩, 18), (⟨"PillowBargeModel", "isBetter", "(III)Z"⟩, 18), (⟨"PillowBargeModel", "legs", "(I)I"⟩, 18), (⟨"PillowBargeModel", "inTheWay", "(II)I"⟩, 18), (⟨"PillowBargeModel", "isTaken", "(I)Z"⟩, 18), (⟨"PillowBargeModel", "isAhead", "(II)Z"⟩, 18), (⟨"PillowBargeModel", "writes", "(I)V"⟩, 18), (⟨"PillowBargeModel", "writesNumber", "(I)V"⟩, 18), (⟨"PillowBargeModel", "readsAll", "()Z"⟩, 18), (⟨"PillowBargeModel", "readsCommand", "()Z"⟩, 18), (⟨"PillowBargeModel", "nextChar", "()I"⟩, 18), (⟨"PillowBargeModel", "reads", "(I)Z"⟩, 18), (⟨"PillowBargeModel", "readsL", "()Z"⟩, 18), (⟨"PillowBargeModel", "readsDigit", "(I)Z"⟩, 18), (⟨"PillowBargeModel", "readsNumber", "(I)Z"⟩, 18), (⟨"PillowBargeModel", "readsS", "()Z"⟩, 18)]
theorem lw_r5 : ∀ q ∈ lw_privs_5, lw_okq q := List.forall_mem_cons.mpr ⟨lw_p64, List.forall_mem_cons.mpr ⟨lw_p65, List.forall_mem_cons.mpr ⟨lw_p66, List.forall_mem_cons.mpr ⟨lw_p67, List.forall_mem_cons.mpr ⟨lw_p68, List.forall_mem_cons.mpr ⟨lw_p69, List.forall_mem_cons.mpr ⟨lw_p70, List.forall_mem_cons.mpr ⟨lw_p71, List.forall_mem_cons.mpr ⟨lw_p72, List.forall_mem_cons.mpr ⟨lw_p73, List.forall_mem_cons.mpr ⟨lw_p74, List.forall_mem_cons.mpr ⟨lw_p75, List.forall_mem_cons.mpr ⟨lw_p76, List.forall_mem_cons.mpr ⟨lw_p77, List.forall_mem_cons.mpr ⟨lw_p78, List.forall_mem_cons.mpr ⟨lw_p79, fun _ h => absurd h List.not_mem_nil⟩⟩⟩⟩⟩⟩⟩⟩⟩⟩⟩⟩⟩⟩⟩⟩
theorem lw_p80 : lw_okq (⟨"PillowBargeModel", "readsDrill", "()Z"⟩, 18) := ⟨⟨by decide +kernel, by decide +kernel⟩, List.mem_of_getElem? (i := 1460) (by decide +kernel), List.mem_of_getElem? (i := 1915) (by decide +kernel), List.mem_of_getElem? (i := 1916) (by decide +kernel)⟩
theorem lw_p81 : lw_okq (⟨"PillowBargeModel", "doesAll", "()Z"⟩, 18) := ⟨⟨by decide +kernel, by decide +kernel⟩, List.mem_of_getElem? (i := 1460) (by decide +kernel), List.mem_of_getElem? (i := 1919) (by decide +kernel), List.mem_of_getElem? (i := 1920) (by decide +kernel)⟩
theorem lw_p82 : lw_okq (⟨"PillowBargeModel", "notNow", "()I"⟩, 18) := ⟨⟨by decide +kernel, by decide +kernel⟩, List.mem_of_getElem? (i := 1460) (by decide +kernel), List.mem_of_getElem? (i := 1923) (by decide +kernel), List.mem_of_getElem? (i := 1924) (by decide +kernel)⟩
theorem lw_p83 : lw_okq (⟨"PillowBargeModel", "doesNow", "()I"⟩, 18) := ⟨⟨by decide +kernel, by decide +kernel⟩, List.mem_of_getElem? (i := 1460) (by decide +kernel), List.mem_of_getElem? (i := 1927) (by decide +kernel), List.mem_of_getElem? (i := 1928) (by decide +kernel)⟩
theorem lw_p84 : lw_okq (⟨"PillowBargeModel", "goesBack", "()V"⟩, 18) := ⟨⟨by decide +kernel, by decide +kernel⟩, List.mem_of_getElem? (i := 1460) (by decide +kernel), List.mem_of_getElem? (i := 1931) (by decide +kernel), List.mem_of_getElem? (i := 1932) (by decide +kernel)⟩
def lw_privs_6 : List (MethodName × Nat) := [(⟨"PillowBargeModel", "readsDrill", "()Z"⟩, 18), (⟨"PillowBargeModel", "doesAll", "()Z"⟩, 18), (⟨"PillowBargeModel", "notNow", "()I"⟩, 18), (⟨"PillowBargeModel", "doesNow", "()I"⟩, 18), (⟨"PillowBargeModel", "goesBack", "()V"⟩, 18)]
theorem lw_r6 : ∀ q ∈ lw_privs_6, lw_okq q := List.forall_mem_cons.mpr ⟨lw_p80, List.forall_mem_cons.mpr ⟨lw_p81, List.forall_mem_cons.mpr ⟨lw_p82, List.forall_mem_cons.mpr ⟨lw_p83, List.forall_mem_cons.mpr ⟨lw_p84, fun _ h => absurd h List.not_mem_nil⟩⟩⟩⟩⟩
def lw_privs : List (MethodName × Nat) := lw_privs_1 ++ (lw_privs_2 ++ (lw_privs_3 ++ (lw_privs_4 ++ (lw_privs_5 ++ (lw_privs_6)))))
def lw_tbl : List Cond := k2_sels lw_privs ++ tables_1
theorem lw_privs_ok : ∀ q ∈ lw_privs, lw_okq q := by
  show ∀ q ∈ lw_privs_1 ++ (lw_privs_2 ++ (lw_privs_3 ++ (lw_privs_4 ++ (lw_privs_5 ++ (lw_privs_6))))), lw_okq q
  exact List.forall_mem_append.mpr ⟨lw_r1, List.forall_mem_append.mpr ⟨lw_r2, List.forall_mem_append.mpr ⟨lw_r3, List.forall_mem_append.mpr ⟨lw_r4, List.forall_mem_append.mpr ⟨lw_r5, lw_r6⟩⟩⟩⟩⟩
/-- the streams that the claim lets the run draw from -/
abbrev lw_cs : List Choice := [Jvm.Choice.named "NaN.bits"]
theorem lw_bits : nanBits ∈ lw_cs := by first | decide | exact List.mem_cons_self | simp [lw_cs, nanBits]
end
section
/-! AN ABSTRACT MACHINE over fixed objects: a reference is (which of its kind, kind); only ints, array contents, the text and the two out cells vary. -/
abbrev Rf : Type := Nat × Nat
abbrev AV : Type := Value ⊕ Rf
abbrev GS : Type := (Rf → Nat → Int32) × (Rf → Nat → Int32) × (Nat × (Nat → Int32)) × (Int64 × UInt64)
abbrev Out : Type := Option AV ⊕ Nat
abbrev Res : Type := Option (Out × GS)
abbrev Ls : Type := List (Option AV)
/-- an instruction, its length, what it names (a target, a field, a callee), the locals to forget, whether it is a cut, a switch's rows -/
abbrev En : Type := Instr × Nat × Nat × List Nat × Bool × List (Int32 × Nat)
abbrev Tb : Type := Nat → Option En
abbrev Kb : Type := Nat → Ls → List AV → GS → Res
abbrev Ks : Type := Nat → Ls → List AV → GS → Nat → Res
def gi (G : GS) (r : Rf) (f : Nat) : Int32 := G.1 r f
def ga (G : GS) (r : Rf) (i : Nat) : Int32 := G.2.1 r i
def gn (G : GS) : Nat := G.2.2.1.1
def gt (G : GS) (i : Nat) : Int32 := G.2.2.1.2 i
def go_ (G : GS) : Int64 := G.2.2.2.1
def gd_ (G : GS) : UInt64 := G.2.2.2.2
def si (G : GS) (r : Rf) (f : Nat) (v : Int32) : GS := (fun r' f' => if r' = r ∧ f' = f then v else G.1 r' f', G.2)
def sa (G : GS) (r : Rf) (i : Nat) (v : Int32) : GS := (G.1, fun r' i' => if r' = r ∧ i' = i then v else G.2.1 r' i', G.2.2)
def st_ (G : GS) (n : Nat) (t : Nat → Int32) : GS := (G.1, G.2.1, (n, t), G.2.2.2)
def so_ (G : GS) (v : Int64) : GS := (G.1, G.2.1, G.2.2.1, (v, G.2.2.2.2))
def sd_ (G : GS) (v : UInt64) : GS := (G.1, G.2.1, G.2.2.1, (G.2.2.2.1, v))
/-- kinds: .inl (class, fields), .inr (element type: 0 int 1 char 2 State 3 long 4 double, length) -/
def kd (k : Nat) : Option (Nat × Nat ⊕ Nat × Nat) := match k with
  | 0 => some (.inl (0, 9)) | 1 => some (.inl (1, 4)) | 2 => some (.inl (2, 5)) | 3 => some (.inl (3, 3)) | 4 => some (.inl (4, 5))
  | 5 => some (.inr (0, 7)) | 6 => some (.inr (0, 35)) | 7 => some (.inr (0, 35)) | 8 => some (.inr (0, 35)) | 9 => some (.inr (0, 35))
  | 10 => some (.inl (5, 3)) | 11 => some (.inr (2, 9)) | 12 => some (.inl (6, 6)) | 13 => some (.inr (1, 60)) | 14 => some (.inr (0, 15)) | 15 => some (.inr (0, 45))
  | 17 => some (.inr (0, 5)) | 18 => some (.inr (3, 1)) | 19 => some (.inr (4, 1))
  | 50 => some (.inl (7, 18)) | 51 => some (.inr (0, 156)) | 52 => some (.inr (0, 1248)) | 53 => some (.inr (0, 156)) | 54 => some (.inr (0, 156)) | 55 => some (.inr (1, 100)) | 56 => some (.inr (1, 60)) | 57 => some (.inr (0, 3))
  | _ => none
/-- the references that the fields hold, for good -/
def gr (r : Rf) (f : Nat) : Option Rf := match r.2 with
  | 0 => (match f with | 0 => some (0, 1) | 1 => some (0, 10) | 2 => some (1, 1) | 4 => some (0, 12) | 7 => some (0, 16) | 8 => some (0, 17) | _ => none)
  | 1 => (match f with | 0 => some (r.1, 2) | 1 => some (r.1, 3) | 2 => some (r.1, 4) | _ => none)
  | 2 => (match f with | 0 => some (r.1, 5) | 1 => some (r.1, 6) | 2 => some (r.1, 7) | 3 => some (r.1, 8) | 4 => some (r.1, 9) | _ => none)
  | 10 => (match f with | 0 => some (0, 11) | _ => none)
  | 12 => (match f with | 0 => some (0, 13) | 1 => some (0, 14) | 2 => some (0, 15) | _ => none)
  | 50 => (match f with | 1 => some (0, 51) | 2 => some (0, 52) | 3 => some (0, 53) | 4 => some (0, 54) | 8 => some (0, 55) | 10 => some (0, 56) | 15 => some (0, 57) | _ => none)
  | _ => none
def ai_kill : List Nat → Ls → Ls
  | [], ls => ls
  | k :: ks, ls => ai_kill ks (ls.set k none)
def ai_pop : Nat → List AV → List AV → Option (List AV × List AV)
  | 0, acc, st => some (acc, st)
  | n + 1, acc, v :: st => ai_pop n (v :: acc) st
  | _ + 1, _, [] => none
def ai_cat : AV → Nat
  | .inl v => v.category
  | .inr _ => 1
def ai_cats : List AV → Nat
  | [] => 0
  | v :: l => ai_cat v + ai_cats l
def oV (r : Out × GS) (k : GS → Res) (kx : Nat → GS → Res) : Res := match r.1 with
  | .inl none => k r.2
  | .inr e => kx e r.2
  | _ => none
def oI (r : Out × GS) (k : Int32 → GS → Res) (kx : Nat → GS → Res) : Res := match r.1 with
  | .inl (some (.inl (.int v))) => k v r.2
  | .inr e => kx e r.2
  | _ => none
def oF (r : Out × GS) (k : UInt32 → GS → Res) (kx : Nat → GS → Res) : Res := match r.1 with
  | .inl (some (.inl (.float v))) => k v r.2
  | .inr e => kx e r.2
  | _ => none
def oD (r : Out × GS) (k : UInt64 → GS → Res) (kx : Nat → GS → Res) : Res := match r.1 with
  | .inl (some (.inl (.double v))) => k v r.2
  | .inr e => kx e r.2
  | _ => none
/-- a reference of one kind, or null -/
def oQ (kn : Nat) (r : Out × GS) (k0 : GS → Res) (k : Nat → GS → Res) (kx : Nat → GS → Res) : Res := match r.1 with
  | .inl (some (.inl .null)) => k0 r.2
  | .inl (some (.inr q)) => bif Nat.beq q.2 kn then k q.1 r.2 else none
  | .inr e => kx e r.2
  | _ => none
def oR (kn : Nat) (r : Out × GS) (k : Nat → GS → Res) (kx : Nat → GS → Res) : Res := match r.1 with
  | .inl (some (.inr q)) => bif Nat.beq q.2 kn then k q.1 r.2 else none
  | .inr e => kx e r.2
  | _ => none
abbrev okI (v : Int32) (G : GS) : Res := some (.inl (some (.inl (.int v))), G)
abbrev okV (G : GS) : Res := some (.inl none, G)
abbrev okR (r : Rf) (G : GS) : Res := some (.inl (some (.inr r)), G)
abbrev okN (G : GS) : Res := some (.inl (some (.inl .null)), G)
abbrev okF (v : UInt32) (G : GS) : Res := some (.inl (some (.inl (.float v))), G)
abbrev okD (v : UInt64) (G : GS) : Res := some (.inl (some (.inl (.double v))), G)
abbrev exc (e : Nat) (G : GS) : Res := some (.inr e, G)
/-- a handler's rows: exception, handler's place, its first instruction's length and local -/
abbrev Hd : Type := List (Nat × Nat × Nat × Nat)
def ai_hs : Hd → Nat → (Nat × Nat × Nat → Res) → Res → Res
  | [], _, _, d => d
  | h :: hs, e, k, d => if e = h.1 then k h.2 else ai_hs hs e k d
def ai_sw : List (Int32 × Nat) → Int32 → (Nat → Res) → Nat → Res
  | [], _, k, d => k d
  | q :: qs, v, k, d => if v = q.1 then k q.2 else ai_sw qs v k d
def ai_hx (hd : Hd) (e : Nat) (k : Nat × Nat × Nat → Res) (G : GS) : Res := match hd with
  | [] => exc e G
  | h :: hs => ai_hs (h :: hs) e k none
def ai_rt (hd : Hd) (self : Ks) (pc x : Nat) (ls : Ls) (rest : List AV) (u : Nat) (rt : Nat) (r : Out × GS) : Res :=
  match rt with
  | 0 => oV r (fun G1 => self (pc + 3) ls rest G1 (u + x / 64 % 256)) (fun e G1 => ai_hx hd e (fun h => self (h.1 + h.2.1) (ls.set h.2.2 none) [] G1 (u + x / 64 % 256)) G1)
  | 1 => oI r (fun v G1 => self (pc + 3) ls (.inl (.int v) :: rest) G1 (u + x / 64 % 256)) (fun e G1 => ai_hx hd e (fun h => self (h.1 + h.2.1) (ls.set h.2.2 none) [] G1 (u + x / 64 % 256)) G1)
  | 2 => oF r (fun v G1 => self (pc + 3) ls (.inl (.float v) :: rest) G1 (u + x / 64 % 256)) (fun e G1 => ai_hx hd e (fun h => self (h.1 + h.2.1) (ls.set h.2.2 none) [] G1 (u + x / 64 % 256)) G1)
  | 3 => oD r (fun v G1 => self (pc + 3) ls (.inl (.double v) :: rest) G1 (u + x / 64 % 256)) (fun e G1 => ai_hx hd e (fun h => self (h.1 + h.2.1) (ls.set h.2.2 none) [] G1 (u + x / 64 % 256)) G1)
  | 4 => oQ 1 r (fun G1 => self (pc + 3) ls (.inl .null :: rest) G1 (u + x / 64 % 256)) (fun q G1 => self (pc + 3) ls (.inr (q, 1) :: rest) G1 (u + x / 64 % 256)) (fun e G1 => ai_hx hd e (fun h => self (h.1 + h.2.1) (ls.set h.2.2 none) [] G1 (u + x / 64 % 256)) G1)
  | 5 => oR 200 r (fun q G1 => self (pc + 3) ls (.inr (q, 200) :: rest) G1 (u + x / 64 % 256)) (fun e G1 => ai_hx hd e (fun h => self (h.1 + h.2.1) (ls.set h.2.2 none) [] G1 (u + x / 64 % 256)) G1)
  | _ => oR 16 r (fun q G1 => self (pc + 3) ls (.inr (q, 16) :: rest) G1 (u + x / 64 % 256)) (fun e G1 => ai_hx hd e (fun h => self (h.1 + h.2.1) (ls.set h.2.2 none) [] G1 (u + x / 64 % 256)) G1)
def ai_call (call : Nat → List AV → GS → Res) (seg : Nat) (hd : Hd) (self : Ks) (pc x : Nat) (ls : Ls) (st : List AV) (G : GS) (u : Nat) : Res :=
  match ai_pop (x / 8 % 8) [] st with
  | none => none
  | some (as, rest) => match Nat.ble (u + x / 64 % 256) seg with
    | true => (match Nat.ble (ai_cats rest) 8 with
      | true => (call (x / 16384) as G).bind (fun r => ai_rt hd self pc x ls rest u (x % 8) r)
      | false => none)
    | false => none
def ai_ld (self : Ks) (pc n i : Nat) (ls : Ls) (st : List AV) (G : GS) (u : Nat) : Res :=
  match ls[i]? with
  | some (some v) => self (pc + n) ls (v :: st) G u
  | _ => none
/-- a store of one word; the local below must not be a long or double -/
def ai_below : Nat → Ls → Bool
  | 0, _ => true
  | i + 1, ls => match ls[i]? with
    | some (some (.inl v)) => Nat.beq v.category 1
    | _ => true
def ai_sto (self : Ks) (pc n i : Nat) (ls : Ls) (v : AV) (st : List AV) (G : GS) (u : Nat) : Res :=
  bif ai_below i ls && Nat.blt i ls.length then self (pc + n) (ls.set i (some v)) st G u else none
/-- a store of two words -/
def ai_sto2 (self : Ks) (pc n i : Nat) (ls : Ls) (v : AV) (st : List AV) (G : GS) (u : Nat) : Res :=
  bif ai_below i ls && Nat.blt (i + 1) ls.length then self (pc + n) ((ls.set i (some v)).set (i + 1) none) st G u else none
def ai_if (cn : Jvm.ClassFile.Cond) (x : Int32) (t f : Res) : Res := match cn with
  | .eq => if x = 0 then t else f
  | .ne => if x = 0 then f else t
  | .lt => if x < 0 then t else f
  | .ge => if 0 ≤ x then t else f
  | .gt => if 0 < x then t else f
  | .le => if x ≤ 0 then t else f
def ai_icmp (cn : Jvm.ClassFile.Cond) (x y : Int32) (t f : Res) : Res := match cn with
  | .eq => if x = y then t else f
  | .ne => if x = y then f else t
  | .lt => if x < y then t else f
  | .ge => if y ≤ x then t else f
  | .gt => if y < x then t else f
  | .le => if x ≤ y then t else f
def ai_get (G : GS) (r : Rf) (x : Nat) (k : AV → Res) : Res := match kd r.2 with
  | some (.inl (c, n)) => bif Nat.beq c (x / 64) && Nat.blt (x / 2 % 32) n then (match gr r (x / 2 % 32) with
    | some q => k (.inr q)
    | none => k (.inl (.int (gi G r (x / 2 % 32))))) else none
  | _ => none
def ai_put (G : GS) (r : Rf) (x : Nat) (v : Int32) (k : GS → Res) : Res := match kd r.2 with
  | some (.inl (c, n)) => bif Nat.beq c (x / 64) && Nat.blt (x / 2 % 32) n then (match gr r (x / 2 % 32) with
    | some _ => none
    | none => bif Nat.beq (x % 2) 0 then k (si G r (x / 2 % 32) v) else if v = 0 ∨ v = 1 then k (si G r (x / 2 % 32) v) else none) else none
  | _ => none
def inb (i : Int32) (n : Nat) : Bool := !(decide (i < 0)) && Nat.blt i.toNatClampNeg n
def ai_ald (G : GS) (r : Rf) (ty : Nat) (i : Int32) (k : Int32 → Res) : Res := match kd r.2 with
  | some (.inr (t, n)) => bif Nat.beq t ty then (bif inb i n then k (ga G r i.toNatClampNeg) else none) else none
  | _ => none
def ai_ast (G : GS) (r : Rf) (ty : Nat) (i : Int32) (v : Int32) (k : GS → Res) : Res := match kd r.2 with
  | some (.inr (t, n)) => bif Nat.beq t ty then (bif inb i n then k (sa G r i.toNatClampNeg v) else none) else none
  | _ => none
def ai_step (T : Tb) (call : Nat → List AV → GS → Res) (hd : Nat → Hd) (seg : Nat) (self : Ks) (pc : Nat) (e : En) (ls0 : Ls) (st : List AV) (G : GS) (u : Nat) : Res :=
  match e with
  | (i, n, x, ks, _, sw) =>
  match i with
  | .aload_n k => ai_ld self pc n k.val (ai_kill ks ls0) st G u
  | .aload k => ai_ld self pc n k (ai_kill ks ls0) st G u
  | .iload_n k => ai_ld self pc n k.val (ai_kill ks ls0) st G u
  | .iload k => ai_ld self pc n k (ai_kill ks ls0) st G u
  | .istore_n k => (match st with | v :: st => ai_sto self pc n k.val (ai_kill ks ls0) v st G u | _ => none)
  | .istore k => (match st with | v :: st => ai_sto self pc n k (ai_kill ks ls0) v st G u | _ => none)
  | .astore_n k => (match st with | v :: st => ai_sto self pc n k.val (ai_kill ks ls0) v st G u | _ => none)
  | .astore k => (match st with | v :: st => ai_sto self pc n k (ai_kill ks ls0) v st G u | _ => none)
  | .iconst c => self (pc + n) (ai_kill ks ls0) (.inl (.int (Int32.ofInt c)) :: st) G u
  | .bipush c => self (pc + n) (ai_kill ks ls0) (.inl (.int (Int8.ofInt c).toInt32) :: st) G u
  | .sipush c => self (pc + n) (ai_kill ks ls0) (.inl (.int (Int16.ofInt c).toInt32) :: st) G u
  | .aconst_null => self (pc + n) (ai_kill ks ls0) (.inl .null :: st) G u
  | .lconst c => self (pc + n) (ai_kill ks ls0) (.inl (.long (Int64.ofNat c.val)) :: st) G u
  | .ldc _ => (match x with
    | 0 => self (pc + n) (ai_kill ks ls0) (.inl (.float 1110704128) :: st) G u
    | k + 1 => self (pc + n) (ai_kill ks ls0) (.inr (k, 200) :: st) G u)
  | .dup => (match st with | v :: st => bif Nat.beq (ai_cat v) 1 then self (pc + n) (ai_kill ks ls0) (v :: v :: st) G u else none | _ => none)
  | .dup2 => (match st with | v :: w :: st => bif Nat.beq (ai_cat v) 1 && Nat.beq (ai_cat w) 1 then self (pc + n) (ai_kill ks ls0) (v :: w :: v :: w :: st) G u else none | _ => none)
  | .pop => (match st with | v :: st => bif Nat.beq (ai_cat v) 1 then self (pc + n) (ai_kill ks ls0) st G u else none | _ => none)
  | .iadd => (match st with | .inl (.int b) :: .inl (.int a) :: st => self (pc + n) (ai_kill ks ls0) (.inl (.int (a + b)) :: st) G u | _ => none)
  | .isub => (match st with | .inl (.int b) :: .inl (.int a) :: st => self (pc + n) (ai_kill ks ls0) (.inl (.int (a - b)) :: st) G u | _ => none)
  | .imul => (match st with | .inl (.int b) :: .inl (.int a) :: st => self (pc + n) (ai_kill ks ls0) (.inl (.int (a * b)) :: st) G u | _ => none)
  | .iand => (match st with | .inl (.int b) :: .inl (.int a) :: st => self (pc + n) (ai_kill ks ls0) (.inl (.int (a &&& b)) :: st) G u | _ => none)
  | .idiv => (match st with | .inl (.int b) :: .inl (.int a) :: st => if b = 0 then none else self (pc + n) (ai_kill ks ls0) (.inl (.int (a / b)) :: st) G u | _ => none)
  | .irem => (match st with | .inl (.int b) :: .inl (.int a) :: st => if b = 0 then none else self (pc + n) (ai_kill ks ls0) (.inl (.int (a - a / b * b)) :: st) G u | _ => none)
  | .ineg => (match st with | .inl (.int a) :: st => self (pc + n) (ai_kill ks ls0) (.inl (.int (-a)) :: st) G u | _ => none)
  | .iinc k c => (match (ai_kill ks ls0)[k]? with
    | some (some (.inl (.int a))) => ai_sto self pc n k (ai_kill ks ls0) (.inl (.int (a + Int32.ofInt c))) st G u
    | _ => none)
  | .i2c => (match st with | .inl (.int a) :: st => self (pc + n) (ai_kill ks ls0) (.inl (.int (a.toUInt32 % 65536).toInt32) :: st) G u | _ => none)
  | .i2l => (match st with | .inl (.int a) :: st => self (pc + n) (ai_kill ks ls0) (.inl (.long a.toInt64) :: st) G u | _ => none)
  | .i2f => (match st with | .inl (.int a) :: st => self (pc + n) (ai_kill ks ls0) (.inl (.float (FP.i2f a)) :: st) G u | _ => none)
  | .i2d => (match st with | .inl (.int a) :: st => self (pc + n) (ai_kill ks ls0) (.inl (.double (FP.i2d a)) :: st) G u | _ => none)
  | .f2d => (match st with | .inl (.float a) :: st => if (FP.f2d a) &&& 0x7fffffffffffffff ≤ 0x7ff0000000000000 then self (pc + n) (ai_kill ks ls0) (.inl (.double (FP.f2d a)) :: st) G u else none | _ => none)
  | .fmul => (match st with | .inl (.float b) :: .inl (.float a) :: st => if (FP.fmul a b) &&& 0x7fffffff ≤ 0x7f800000 then self (pc + n) (ai_kill ks ls0) (.inl (.float (FP.fmul a b)) :: st) G u else none | _ => none)
  | .fdiv => (match st with | .inl (.float b) :: .inl (.float a) :: st => if (FP.fdiv a b) &&& 0x7fffffff ≤ 0x7f800000 then self (pc + n) (ai_kill ks ls0) (.inl (.float (FP.fdiv a b)) :: st) G u else none | _ => none)
  | .ddiv => (match st with | .inl (.double b) :: .inl (.double a) :: st => if (FP.ddiv a b) &&& 0x7fffffffffffffff ≤ 0x7ff0000000000000 then self (pc + n) (ai_kill ks ls0) (.inl (.double (FP.ddiv a b)) :: st) G u else none | _ => none)
  | .fcmp op => (match st with | .inl (.float b) :: .inl (.float a) :: st => self (pc + n) (ai_kill ks ls0) (.inl (.int (Op.cmpValue (FP.fcmp a b) op)) :: st) G u | _ => none)
  | .dcmp op => (match st with | .inl (.double b) :: .inl (.double a) :: st => self (pc + n) (ai_kill ks ls0) (.inl (.int (Op.cmpValue (FP.dcmp a b) op)) :: st) G u | _ => none)
  | .lcmp => (match st with | .inl (.long b) :: .inl (.long a) :: st => self (pc + n) (ai_kill ks ls0) (.inl (.int (lg_cmp a b)) :: st) G u | _ => none)
  | .fload k => ai_ld self pc n k (ai_kill ks ls0) st G u
  | .dload k => ai_ld self pc n k (ai_kill ks ls0) st G u
  | .fstore k => (match st with | v :: st => ai_sto self pc n k (ai_kill ks ls0) v st G u | _ => none)
  | .dstore k => (match st with | v :: st => ai_sto2 self pc n k (ai_kill ks ls0) v st G u | _ => none)
  | .ifCond c _ => (match st with | .inl (.int a) :: st => ai_if c a (self x (ai_kill ks ls0) st G u) (self (pc + n) (ai_kill ks ls0) st G u) | _ => none)
  | .if_icmp c _ => (match st with | .inl (.int b) :: .inl (.int a) :: st => ai_icmp c a b (self x (ai_kill ks ls0) st G u) (self (pc + n) (ai_kill ks ls0) st G u) | _ => none)
  | .goto _ => self x (ai_kill ks ls0) st G u
  | .ifnull _ => (match st with | .inl .null :: st => self x (ai_kill ks ls0) st G u | .inr _ :: st => self (pc + n) (ai_kill ks ls0) st G u | _ => none)
  | .tableswitch _ _ _ _ => (match st with | .inl (.int a) :: st => ai_sw sw a (fun y => self y (ai_kill ks ls0) st G u) x | _ => none)
  | .lookupswitch _ _ => (match st with | .inl (.int a) :: st => ai_sw sw a (fun y => self y (ai_kill ks ls0) st G u) x | _ => none)
  | .getfield _ => (match st with | .inr r :: st => ai_get G r x (fun v => self (pc + n) (ai_kill ks ls0) (v :: st) G u) | _ => none)
  | .putfield _ => (match st with | .inl (.int v) :: .inr r :: st => ai_put G r x v (fun G1 => self (pc + n) (ai_kill ks ls0) st G1 u) | _ => none)
  | .iaload => (match st with | .inl (.int j) :: .inr r :: st => (bif Nat.beq r.2 250 then (bif inb j (gi G (0, 250) 0).toNatClampNeg then self (pc + n) (ai_kill ks ls0) (.inl (.int (ga G (0, 250) j.toNatClampNeg)) :: st) G u else none) else
      ai_ald G r 0 j (fun v => self (pc + n) (ai_kill ks ls0) (.inl (.int v) :: st) G u)) | _ => none)
  | .caload => (match st with | .inl (.int j) :: .inr r :: st => ai_ald G r 1 j (fun v => self (pc + n) (ai_kill ks ls0) (.inl (.int v) :: st) G u) | _ => none)
  | .aaload => (match st with | .inl (.int j) :: .inr r :: st => (bif Nat.beq r.2 11 && inb j 9 then self (pc + n) (ai_kill ks ls0) (.inr (j.toNatClampNeg + 2, 1) :: st) G u else none) | _ => none)
  | .laload => (match st with | .inl (.int j) :: .inr r :: st => (bif Nat.beq r.2 18 && inb j 1 then self (pc + n) (ai_kill ks ls0) (.inl (.long (go_ G)) :: st) G u else none) | _ => none)
  | .daload => (match st with | .inl (.int j) :: .inr r :: st => (bif Nat.beq r.2 19 && inb j 1 then self (pc + n) (ai_kill ks ls0) (.inl (.double (gd_ G)) :: st) G u else none) | _ => none)
  | .iastore => (match st with | .inl (.int v) :: .inl (.int j) :: .inr r :: st => ai_ast G r 0 j v (fun G1 => self (pc + n) (ai_kill ks ls0) st G1 u) | _ => none)
  | .castore => (match st with | .inl (.int v) :: .inl (.int j) :: .inr r :: st => ai_ast G r 1 j (vp_nar .char v) (fun G1 => self (pc + n) (ai_kill ks ls0) st G1 u) | _ => none)
  | .lastore => (match st with | .inl (.long v) :: .inl (.int j) :: .inr r :: st => (bif Nat.beq r.2 18 && inb j 1 then self (pc + n) (ai_kill ks ls0) st (so_ G v) u else none) | _ => none)
  | .dastore => (match st with | .inl (.double v) :: .inl (.int j) :: .inr r :: st => (bif Nat.beq r.2 19 && inb j 1 then self (pc + n) (ai_kill ks ls0) st (sd_ G v) u else none) | _ => none)
  | .arraylength => (match st with
    | .inr r :: st => (bif Nat.beq r.2 250 then self (pc + n) (ai_kill ks ls0) (.inl (.int (gi G (0, 250) 0)) :: st) G u else
      (match kd r.2 with
      | some (.inr (_, m)) => self (pc + n) (ai_kill ks ls0) (.inl (.int (Int32.ofNat m)) :: st) G u
      | _ => none))
    | _ => none)
  | .invokevirtual _ => ai_call call seg (hd pc) self pc x (ai_kill ks ls0) st G u
  | .invokestatic _ => ai_call call seg (hd pc) self pc x (ai_kill ks ls0) st G u
  | .new _ => exc x G
  | .ireturn => (match st with | [.inl (.int v)] => okI v G | _ => none)
  | .areturn => (match st with | [.inr q] => okR q G | [.inl .null] => okN G | _ => none)
  | .freturn => (match st with | [.inl (.float v)] => okF v G | _ => none)
  | .dreturn => (match st with | [.inl (.double v)] => okD v G | _ => none)
  | .return_ => (match st with | [] => okV G | _ => none)
  | _ => none
def ai_run (T : Tb) (call : Nat → List AV → GS → Res) (hd : Nat → Hd) (seg : Nat) (back : Kb) : Nat → Ks
  | 0 => fun _ _ _ _ _ => none
  | k + 1 => fun pc ls st G u => match T pc with
    | none => none
    | some e => match e.2.2.2.2.1 with
      | true => back pc (ai_kill e.2.2.2.1 ls) st G
      | false => ai_step T call hd seg (ai_run T call hd seg back k) pc e ls st G u
end
section
/-! Every method as a function (printed by gen/emit.py from the class files). -/
def D_abs (x : Int32) (G : GS) : Res := okI (if x < 0 then -x else x) G
def D_max (x y : Int32) (G : GS) : Res := okI (if x < y then y else x) G
def D_min (x y : Int32) (G : GS) : Res := okI (if y < x then y else x) G
def D_fmod (x y : Int32) (G : GS) : Res := if y = 0 then none else okI (if (x - x / y * y) ^^^ y < 0 ∧ ¬ x - x / y * y = 0 then x - x / y * y + y else x - x / y * y) G
/-- whole int arrays alone: from their beginning -/
def D_acopy (a : Rf) (p : Int32) (b : Rf) (q n : Int32) (G : GS) : Res := match kd a.2, kd b.2 with
  | some (.inr (0, m1)), some (.inr (0, m2)) => if p = 0 ∧ q = 0 ∧ ¬ n < 0 ∧ n.toNatClampNeg ≤ m1 ∧ n.toNatClampNeg ≤ m2 then okV (G.1, (fun r i => if r = b then (if i < n.toNatClampNeg then ga G a i else ga G b i) else G.2.1 r i), G.2.2) else none
  | _, _ => none
def jS : List (List Int32) := [[108, 111, 97, 100, 32], [117, 110, 108, 111, 97, 100, 32], [115, 104, 105, 102, 116, 32], [115, 97, 105, 108], [116, 117, 114, 110], [108, 105, 109, 105, 116, 32], [100, 114, 105, 108, 108, 32]]
def D_slen (k : Nat) (G : GS) : Res := if k < 7 then okI (Int32.ofNat (jS.getD k []).length) G else none
def D_sat (k : Nat) (i : Int32) (G : GS) : Res := if k < 7 then (bif inb i (jS.getD k []).length then okI ((jS.getD k []).getD i.toNatClampNeg 0) G else none) else none
/-- the text: at most 48 letters -/
def D_bapc (c : Int32) (G : GS) : Res := if ¬ c < 0 ∧ c < 128 ∧ gn G < 48 then okR (0, 16) (st_ G (gn G + 1) (fun i => if i = gn G then c else gt G i)) else none
/-- a number's letters -/
def dg0 (n : Nat) : List Int32 := if n < 10 then [Int32.ofNat (48 + n)] else if n < 100 then [Int32.ofNat (48 + n / 10), Int32.ofNat (48 + n % 10)] else [Int32.ofNat (48 + n / 100), Int32.ofNat (48 + n / 10 % 10), Int32.ofNat (48 + n % 10)]
def dg_ (v : Int32) : List Int32 := if v < 0 then 45 :: dg0 v.toInt.natAbs else dg0 v.toInt.natAbs
def D_bapi (v : Int32) (G : GS) : Res := if -1000 < v ∧ v < 1000 ∧ gn G < 44 then okR (0, 16) (st_ G (gn G + (dg_ v).length) (fun i => if i < gn G then gt G i else (dg_ v).getD (i - gn G) 0)) else none
def D_blen (G : GS) : Res := okI (Int32.ofNat (gn G)) G
def D_bset (n : Int32) (G : GS) : Res := if n = 0 then okV (st_ G 0 (gt G)) else none
def D_bat (i : Int32) (G : GS) : Res := bif inb i (gn G) then okI (gt G i.toNatClampNeg) G else none
def D_Cargo_copyFrom (kk : Nat) (j : Nat) (a0 : Nat) (G : GS) : Res :=
  (D_acopy (a0, 5) (0 : Int32) (j, 5) (0 : Int32) (7 : Int32) G).bind (fun r => oV r (fun G1 =>
  (D_acopy (a0, 6) (0 : Int32) (j, 6) (0 : Int32) (35 : Int32) G1).bind (fun r => oV r (fun G4 =>
  (D_acopy (a0, 7) (0 : Int32) (j, 7) (0 : Int32) (35 : Int32) G4).bind (fun r => oV r (fun G7 =>
  (D_acopy (a0, 8) (0 : Int32) (j, 8) (0 : Int32) (35 : Int32) G7).bind (fun r => oV r (fun G10 =>
  (D_acopy (a0, 9) (0 : Int32) (j, 9) (0 : Int32) (35 : Int32) G10).bind (fun r => oV r (fun G13 =>
  okV G13) exc)) exc)) exc)) exc)) exc)
def D_PB_isBay (kk : Nat) (a0 : Int32) (G : GS) : Res :=
  if a0 < 0 then
    okI (0 : Int32) G
  else
    if (7 : Int32) ≤ a0 then
      okI (0 : Int32) G
    else
      okI (1 : Int32) G
def D_Cargo_heightOf (kk : Nat) (j : Nat) (a0 : Int32) (G : GS) : Res :=
  (D_PB_isBay kk a0 G).bind (fun r => oI r (fun v4 G1 =>
  if v4 = 0 then
    okI (0 : Int32) G1
  else
    bif inb a0 7 then
    okI (ga G1 (j, 5) a0.toNatClampNeg) G1
    else none) exc)
def D_Cargo_isTaken (kk : Nat) (j : Nat) (a0 : Int32) (G : GS) : Res :=
  if a0 < 0 then
    okI (0 : Int32) G
  else
    if (35 : Int32) ≤ a0 then
      okI (0 : Int32) G
    else
      bif inb (a0 / (5 : Int32)) 7 then
      if (ga G (j, 5) (a0 / (5 : Int32)).toNatClampNeg) ≤ (a0 - a0 / (5 : Int32) * (5 : Int32)) then
        okI (0 : Int32) G
      else
        okI (1 : Int32) G
      else none
def D_Cargo_slotAt (kk : Nat) (j : Nat) (a0 : Int32) (a1 : Int32) (G : GS) : Res :=
  (D_PB_isBay kk a0 G).bind (fun r => oI r (fun v4 G1 =>
  if v4 = 0 then
    okI (-1 : Int32) G1
  else
    if a1 < 0 then
      okI (-1 : Int32) G1
    else
      if a1 < (5 : Int32) then
        (D_Cargo_isTaken kk j ((a0 * (5 : Int32)) + a1) G1).bind (fun r => oI r (fun v8 G5 =>
        if v8 = 0 then
          okI (-1 : Int32) G5
        else
          okI ((a0 * (5 : Int32)) + a1) G5) exc)
      else
        okI (-1 : Int32) G1) exc)
def D_Cargo_topSlot (kk : Nat) (j : Nat) (a0 : Int32) (G : GS) : Res :=
  (D_Cargo_heightOf kk j a0 G).bind (fun r => oI r (fun v4 G1 =>
  (D_Cargo_slotAt kk j a0 (v4 - (1 : Int32)) G1).bind (fun r => oI r (fun v8 G5 =>
  okI v8 G5) exc)) exc)
def L_Cargo_slotOf (kk : Nat) : Nat → Nat → Int32 → Int32 → GS → Res
  | 0 => fun _ _ _ _ => none
  | k + 1 => fun x0 x1 x2 G =>
    if (35 : Int32) ≤ x2 then
      okI (-1 : Int32) G
    else
      (D_Cargo_isTaken kk x0 x2 G).bind (fun r => oI r (fun v4 G1 =>
      if v4 = 0 then
        (L_Cargo_slotOf kk k) x0 x1 (x2 + (1 : Int32)) G1
      else
        bif inb x2 35 then
        if (ga G1 (x0, 6) x2.toNatClampNeg) = x1 then
          okI x2 G1
        else
          (L_Cargo_slotOf kk k) x0 x1 (x2 + (1 : Int32)) G1
        else none) exc)
def D_Cargo_slotOf (kk : Nat) (j : Nat) (a0 : Int32) (G : GS) : Res :=
  (L_Cargo_slotOf kk kk) j a0 (0 : Int32) G
def D_PB_isSlot (kk : Nat) (a0 : Int32) (G : GS) : Res :=
  if a0 < 0 then
    okI (0 : Int32) G
  else
    if (35 : Int32) ≤ a0 then
      okI (0 : Int32) G
    else
      okI (1 : Int32) G
def D_Cargo_numberIn (kk : Nat) (j : Nat) (a0 : Int32) (G : GS) : Res :=
  (D_PB_isSlot kk a0 G).bind (fun r => oI r (fun v4 G1 =>
  if v4 = 0 then
    okI (0 : Int32) G1
  else
    bif inb a0 35 then
    okI (ga G1 (j, 6) a0.toNatClampNeg) G1
    else none) exc)
def D_Cargo_weightIn (kk : Nat) (j : Nat) (a0 : Int32) (G : GS) : Res :=
  (D_PB_isSlot kk a0 G).bind (fun r => oI r (fun v4 G1 =>
  if v4 = 0 then
    okI (0 : Int32) G1
  else
    bif inb a0 35 then
    okI (ga G1 (j, 7) a0.toNatClampNeg) G1
    else none) exc)
def D_Cargo_destinationIn (kk : Nat) (j : Nat) (a0 : Int32) (G : GS) : Res :=
  (D_PB_isSlot kk a0 G).bind (fun r => oI r (fun v4 G1 =>
  if v4 = 0 then
    okI (0 : Int32) G1
  else
    bif inb a0 35 then
    okI (ga G1 (j, 8) a0.toNatClampNeg) G1
    else none) exc)
def D_Cargo_dayIn (kk : Nat) (j : Nat) (a0 : Int32) (G : GS) : Res :=
  (D_PB_isSlot kk a0 G).bind (fun r => oI r (fun v4 G1 =>
  if v4 = 0 then
    okI (0 : Int32) G1
  else
    bif inb a0 35 then
    okI (ga G1 (j, 9) a0.toNatClampNeg) G1
    else none) exc)
def L_Cargo_countPillows (kk : Nat) : Nat → Nat → Int32 → Int32 → GS → Res
  | 0 => fun _ _ _ _ => none
  | k + 1 => fun x0 x1 x2 G =>
    if (7 : Int32) ≤ x2 then
      okI x1 G
    else
      bif inb x2 7 then
      (L_Cargo_countPillows kk k) x0 (x1 + (ga G (x0, 5) x2.toNatClampNeg)) (x2 + (1 : Int32)) G
      else none
def D_Cargo_countPillows (kk : Nat) (j : Nat) (G : GS) : Res :=
  (L_Cargo_countPillows kk kk) j (0 : Int32) (0 : Int32) G
def L_Cargo_weightOfAll (kk : Nat) : Nat → Nat → Int32 → Int32 → GS → Res
  | 0 => fun _ _ _ _ => none
  | k + 1 => fun x0 x1 x2 G =>
    if (35 : Int32) ≤ x2 then
      okI x1 G
    else
      (D_Cargo_isTaken kk x0 x2 G).bind (fun r => oI r (fun v4 G1 =>
      if v4 = 0 then
        (L_Cargo_weightOfAll kk k) x0 x1 (x2 + (1 : Int32)) G1
      else
        bif inb x2 35 then
        (L_Cargo_weightOfAll kk k) x0 (x1 + (ga G1 (x0, 7) x2.toNatClampNeg)) (x2 + (1 : Int32)) G1
        else none) exc)
def D_Cargo_weightOfAll (kk : Nat) (j : Nat) (G : GS) : Res :=
  (L_Cargo_weightOfAll kk kk) j (0 : Int32) (0 : Int32) G
def L_Cargo_weightForPort (kk : Nat) : Nat → Nat → Int32 → Int32 → Int32 → GS → Res
  | 0 => fun _ _ _ _ _ => none
  | k + 1 => fun x0 x1 x2 x3 G =>
    if (35 : Int32) ≤ x3 then
      okI x2 G
    else
      (D_Cargo_isTaken kk x0 x3 G).bind (fun r => oI r (fun v4 G1 =>
      if v4 = 0 then
        (L_Cargo_weightForPort kk k) x0 x1 x2 (x3 + (1 : Int32)) G1
      else
        bif inb x3 35 then
        if (ga G1 (x0, 8) x3.toNatClampNeg) = x1 then
          bif inb x3 35 then
          (L_Cargo_weightForPort kk k) x0 x1 (x2 + (ga G1 (x0, 7) x3.toNatClampNeg)) (x3 + (1 : Int32)) G1
          else none
        else
          (L_Cargo_weightForPort kk k) x0 x1 x2 (x3 + (1 : Int32)) G1
        else none) exc)
def D_Cargo_weightForPort (kk : Nat) (j : Nat) (a0 : Int32) (G : GS) : Res :=
  (L_Cargo_weightForPort kk kk) j a0 (0 : Int32) (0 : Int32) G
def L_Cargo_weightOfBay (kk : Nat) : Nat → Nat → Int32 → Int32 → Int32 → GS → Res
  | 0 => fun _ _ _ _ _ => none
  | k + 1 => fun x0 x1 x2 x3 G =>
    if (5 : Int32) ≤ x3 then
      okI x2 G
    else
      (D_Cargo_slotAt kk x0 x1 x3 G).bind (fun r => oI r (fun v4 G1 =>
      (D_PB_isSlot kk v4 G1).bind (fun r => oI r (fun v8 G5 =>
      if v8 = 0 then
        (L_Cargo_weightOfBay kk k) x0 x1 x2 (x3 + (1 : Int32)) G5
      else
        bif inb v4 35 then
        (L_Cargo_weightOfBay kk k) x0 x1 (x2 + (ga G5 (x0, 7) v4.toNatClampNeg)) (x3 + (1 : Int32)) G5
        else none) exc)) exc)
def D_Cargo_weightOfBay (kk : Nat) (j : Nat) (a0 : Int32) (G : GS) : Res :=
  (L_Cargo_weightOfBay kk kk) j a0 (0 : Int32) (0 : Int32) G
def D_PB_leverArm (kk : Nat) (a0 : Int32) (G : GS) : Res :=
  okI (a0 - (3 : Int32)) G
def L_Cargo_momentOfPillows (kk : Nat) : Nat → Nat → Int32 → Int32 → GS → Res
  | 0 => fun _ _ _ _ => none
  | k + 1 => fun x0 x1 x2 G =>
    if (35 : Int32) ≤ x2 then
      okI x1 G
    else
      (D_Cargo_isTaken kk x0 x2 G).bind (fun r => oI r (fun v4 G1 =>
      if v4 = 0 then
        (L_Cargo_momentOfPillows kk k) x0 x1 (x2 + (1 : Int32)) G1
      else
        bif inb x2 35 then
        (D_PB_leverArm kk (x2 / (5 : Int32)) G1).bind (fun r => oI r (fun v8 G5 =>
        (L_Cargo_momentOfPillows kk k) x0 (x1 + ((ga G1 (x0, 7) x2.toNatClampNeg) * v8)) (x2 + (1 : Int32)) G5) exc)
        else none) exc)
def D_Cargo_momentOfPillows (kk : Nat) (j : Nat) (G : GS) : Res :=
  (L_Cargo_momentOfPillows kk kk) j (0 : Int32) (0 : Int32) G
def L_Cargo_momentOfBays (kk : Nat) : Nat → Nat → Int32 → Int32 → GS → Res
  | 0 => fun _ _ _ _ => none
  | k + 1 => fun x0 x1 x2 G =>
    if (7 : Int32) ≤ x2 then
      okI x1 G
    else
      (D_Cargo_weightOfBay kk x0 x2 G).bind (fun r => oI r (fun v4 G1 =>
      (D_PB_leverArm kk x2 G1).bind (fun r => oI r (fun v8 G5 =>
      (L_Cargo_momentOfBays kk k) x0 (x1 + (v4 * v8)) (x2 + (1 : Int32)) G5) exc)) exc)
def D_Cargo_momentOfBays (kk : Nat) (j : Nat) (G : GS) : Res :=
  (L_Cargo_momentOfBays kk kk) j (0 : Int32) (0 : Int32) G
def D_Cargo_put (kk : Nat) (j : Nat) (a0 : Int32) (a1 : Int32) (a2 : Int32) (a3 : Int32) (a4 : Int32) (G : GS) : Res :=
  (D_Cargo_heightOf kk j a0 G).bind (fun r => oI r (fun v4 G1 =>
  (D_PB_isBay kk a0 G1).bind (fun r => oI r (fun v8 G5 =>
  if v8 = 0 then
    okV G5
  else
    if (5 : Int32) ≤ v4 then
      okV G5
    else
      (D_PB_isSlot kk ((a0 * (5 : Int32)) + v4) G5).bind (fun r => oI r (fun v12 G9 =>
      if v12 = 0 then
        okV G9
      else
        bif inb ((a0 * (5 : Int32)) + v4) 35 then
        bif inb ((a0 * (5 : Int32)) + v4) 35 then
        bif inb ((a0 * (5 : Int32)) + v4) 35 then
        bif inb ((a0 * (5 : Int32)) + v4) 35 then
        bif inb a0 7 then
        okV (sa (sa (sa (sa (sa G9 (j, 6) ((a0 * (5 : Int32)) + v4).toNatClampNeg a1) (j, 7) ((a0 * (5 : Int32)) + v4).toNatClampNeg a2) (j, 8) ((a0 * (5 : Int32)) + v4).toNatClampNeg a3) (j, 9) ((a0 * (5 : Int32)) + v4).toNatClampNeg a4) (j, 5) a0.toNatClampNeg (v4 + (1 : Int32)))
        else none
        else none
        else none
        else none
        else none) exc)) exc)) exc)
def D_Cargo_removeTop (kk : Nat) (j : Nat) (a0 : Int32) (G : GS) : Res :=
  (D_PB_isBay kk a0 G).bind (fun r => oI r (fun v4 G1 =>
  if v4 = 0 then
    okV G1
  else
    bif inb a0 7 then
    if (ga G1 (j, 5) a0.toNatClampNeg) ≤ 0 then
      okV G1
    else
      bif inb a0 7 then
      bif inb a0 7 then
      okV (sa G1 (j, 5) a0.toNatClampNeg ((ga G1 (j, 5) a0.toNatClampNeg) - (1 : Int32)))
      else none
      else none
    else none) exc)
def D_History_placeAt (kk : Nat) (a0 : Int32) (G : GS) : Res :=
  if a0 < 0 then
    okN G
  else
    if (9 : Int32) ≤ a0 then
      okN G
    else
      bif inb a0 9 then
      okR ((a0.toNatClampNeg + 2), 1) G
      else none
def D_Voyage_copyFrom (kk : Nat) (j : Nat) (a0 : Nat) (G : GS) : Res :=
  if (gi (si (si G (j, 3) 0 (gi G (a0, 3) 0)) (j, 3) 1 (gi (si G (j, 3) 0 (gi G (a0, 3) 0)) (a0, 3) 1)) (a0, 3) 2) = 0 ∨ (gi (si (si G (j, 3) 0 (gi G (a0, 3) 0)) (j, 3) 1 (gi (si G (j, 3) 0 (gi G (a0, 3) 0)) (a0, 3) 1)) (a0, 3) 2) = 1 then
  okV (si (si (si G (j, 3) 0 (gi G (a0, 3) 0)) (j, 3) 1 (gi (si G (j, 3) 0 (gi G (a0, 3) 0)) (a0, 3) 1)) (j, 3) 2 (gi (si (si G (j, 3) 0 (gi G (a0, 3) 0)) (j, 3) 1 (gi (si G (j, 3) 0 (gi G (a0, 3) 0)) (a0, 3) 1)) (a0, 3) 2))
  else none
def D_Tally_copyFrom (kk : Nat) (j : Nat) (a0 : Nat) (G : GS) : Res :=
  okV (si (si (si (si (si G (j, 4) 0 (gi G (a0, 4) 0)) (j, 4) 1 (gi (si G (j, 4) 0 (gi G (a0, 4) 0)) (a0, 4) 1)) (j, 4) 2 (gi (si (si G (j, 4) 0 (gi G (a0, 4) 0)) (j, 4) 1 (gi (si G (j, 4) 0 (gi G (a0, 4) 0)) (a0, 4) 1)) (a0, 4) 2)) (j, 4) 3 (gi (si (si (si G (j, 4) 0 (gi G (a0, 4) 0)) (j, 4) 1 (gi (si G (j, 4) 0 (gi G (a0, 4) 0)) (a0, 4) 1)) (j, 4) 2 (gi (si (si G (j, 4) 0 (gi G (a0, 4) 0)) (j, 4) 1 (gi (si G (j, 4) 0 (gi G (a0, 4) 0)) (a0, 4) 1)) (a0, 4) 2)) (a0, 4) 3)) (j, 4) 4 (gi (si (si (si (si G (j, 4) 0 (gi G (a0, 4) 0)) (j, 4) 1 (gi (si G (j, 4) 0 (gi G (a0, 4) 0)) (a0, 4) 1)) (j, 4) 2 (gi (si (si G (j, 4) 0 (gi G (a0, 4) 0)) (j, 4) 1 (gi (si G (j, 4) 0 (gi G (a0, 4) 0)) (a0, 4) 1)) (a0, 4) 2)) (j, 4) 3 (gi (si (si (si G (j, 4) 0 (gi G (a0, 4) 0)) (j, 4) 1 (gi (si G (j, 4) 0 (gi G (a0, 4) 0)) (a0, 4) 1)) (j, 4) 2 (gi (si (si G (j, 4) 0 (gi G (a0, 4) 0)) (j, 4) 1 (gi (si G (j, 4) 0 (gi G (a0, 4) 0)) (a0, 4) 1)) (a0, 4) 2)) (a0, 4) 3)) (a0, 4) 4))
def D_State_copyFrom (kk : Nat) (j : Nat) (a0 : Nat) (G : GS) : Res :=
  (D_Cargo_copyFrom kk j a0 G).bind (fun r => oV r (fun G1 =>
  (D_Voyage_copyFrom kk j a0 G1).bind (fun r => oV r (fun G4 =>
  (D_Tally_copyFrom kk j a0 G4).bind (fun r => oV r (fun G7 =>
  okV (si G7 (j, 1) 3 (gi G7 (a0, 1) 3))) exc)) exc)) exc)
def D_History_draft (kk : Nat) (a0 : Nat) (G : GS) : Res :=
  (D_History_placeAt kk (gi G (0, 10) 1) G).bind (fun r => oQ 1 r (fun G1 =>
    okV G1) (fun q4 G1 =>
    (D_State_copyFrom kk q4 a0 G1).bind (fun r => oV r (fun G5 =>
    okV G5) exc)) exc)
def D_History_keepDraft (kk : Nat) (G : GS) : Res :=
  (D_fmod ((gi G (0, 10) 1) + (1 : Int32)) (9 : Int32) G).bind (fun r => oI r (fun v4 G1 =>
  (D_min ((gi (si G1 (0, 10) 1 v4) (0, 10) 2) + (1 : Int32)) (8 : Int32) (si G1 (0, 10) 1 v4)).bind (fun r => oI r (fun v8 G5 =>
  okV (si G5 (0, 10) 2 v8)) exc)) exc)
def D_History_takeDraftBack (kk : Nat) (a0 : Nat) (G : GS) : Res :=
  (D_History_placeAt kk (gi G (0, 10) 1) G).bind (fun r => oQ 1 r (fun G1 =>
    okV G1) (fun q4 G1 =>
    (D_State_copyFrom kk a0 q4 G1).bind (fun r => oV r (fun G5 =>
    okV G5) exc)) exc)
def D_History_takeLatestBack (kk : Nat) (a0 : Nat) (G : GS) : Res :=
  (D_fmod ((gi G (0, 10) 1) - (1 : Int32)) (9 : Int32) G).bind (fun r => oI r (fun v4 G1 =>
  (D_History_takeDraftBack kk a0 (si (si G1 (0, 10) 1 v4) (0, 10) 2 ((gi (si G1 (0, 10) 1 v4) (0, 10) 2) - (1 : Int32)))).bind (fun r => oV r (fun G5 =>
  okV G5) exc)) exc)
def D_History_forget (kk : Nat) (G : GS) : Res :=
  okV (si G (0, 10) 2 (0 : Int32))
def D_Script_isFull (kk : Nat) (G : GS) : Res :=
  if (gi G (0, 12) 3) < (60 : Int32) then
    okI (0 : Int32) G
  else
    okI (1 : Int32) G
def D_Script_append (kk : Nat) (a0 : Int32) (G : GS) : Res :=
  if (gi G (0, 12) 3) < 0 then
    okV G
  else
    if (60 : Int32) ≤ (gi G (0, 12) 3) then
      okV G
    else
      bif inb (gi G (0, 12) 3) 60 then
      okV (si (sa G (0, 13) (gi G (0, 12) 3).toNatClampNeg (vp_nar .char a0)) (0, 12) 3 ((gi (sa G (0, 13) (gi G (0, 12) 3).toNatClampNeg (vp_nar .char a0)) (0, 12) 3) + (1 : Int32)))
      else none
def D_Script_empty (kk : Nat) (G : GS) : Res :=
  okV (si G (0, 12) 3 (0 : Int32))
def D_Script_commandAt (kk : Nat) (a0 : Int32) (G : GS) : Res :=
  if a0 < 0 then
    okI (7 : Int32) G
  else
    if (15 : Int32) ≤ a0 then
      okI (7 : Int32) G
    else
      bif inb a0 15 then
      okI (ga G (0, 14) a0.toNatClampNeg) G
      else none
def D_Script_argumentAt (kk : Nat) (a0 : Int32) (a1 : Int32) (G : GS) : Res :=
  if ((a0 * (3 : Int32)) + a1) < 0 then
    okI (0 : Int32) G
  else
    if (45 : Int32) ≤ ((a0 * (3 : Int32)) + a1) then
      okI (0 : Int32) G
    else
      bif inb ((a0 * (3 : Int32)) + a1) 45 then
      okI (ga G (0, 15) ((a0 * (3 : Int32)) + a1).toNatClampNeg) G
      else none
def D_Script_keywordOf (kk : Nat) (a0 : Int32) (G : GS) : Res :=
  if a0 = (0 : Int32) then
    okR (0, 200) G
  else if a0 = (1 : Int32) then
    okR (1, 200) G
  else if a0 = (2 : Int32) then
    okR (2, 200) G
  else if a0 = (3 : Int32) then
    okR (3, 200) G
  else if a0 = (4 : Int32) then
    okR (4, 200) G
  else if a0 = (5 : Int32) then
    okR (5, 200) G
  else 
    okR (6, 200) G
def D_Script_isNext (kk : Nat) (a0 : Int32) (a1 : Int32) (G : GS) : Res :=
  if ((gi G (0, 12) 5) + a0) < 0 then
    okI (0 : Int32) G
  else
    if (gi G (0, 12) 3) ≤ ((gi G (0, 12) 5) + a0) then
      okI (0 : Int32) G
    else
      if (60 : Int32) ≤ ((gi G (0, 12) 5) + a0) then
        okI (0 : Int32) G
      else
        bif inb ((gi G (0, 12) 5) + a0) 60 then
        if (ga G (0, 13) ((gi G (0, 12) 5) + a0).toNatClampNeg) = a1 then
          okI (1 : Int32) G
        else
          okI (0 : Int32) G
        else none
def L_Script_countMatching (kk : Nat) : Nat → Nat → Int32 → GS → Res
  | 0 => fun _ _ _ => none
  | k + 1 => fun x1 x2 G =>
    (D_slen x1 G).bind (fun r => oI r (fun v4 G1 =>
    if v4 ≤ x2 then
      okI x2 G1
    else
      (D_sat x1 x2 G1).bind (fun r => oI r (fun v8 G5 =>
      (D_Script_isNext kk x2 v8 G5).bind (fun r => oI r (fun v12 G9 =>
      if v12 = 0 then
        okI x2 G9
      else
        (L_Script_countMatching kk k) x1 (x2 + (1 : Int32)) G9) exc)) exc)) exc)
def D_Script_countMatching (kk : Nat) (a0 : Nat) (G : GS) : Res :=
  (L_Script_countMatching kk kk) a0 (0 : Int32) G
def L_Script_readKeyword (kk : Nat) : Nat → Int32 → Int32 → GS → Res
  | 0 => fun _ _ _ => none
  | k + 1 => fun x1 x2 G =>
    if (7 : Int32) ≤ x2 then
      okI (7 : Int32) (si G (0, 12) 5 ((gi G (0, 12) 5) + x1))
    else
      (D_Script_keywordOf kk x2 G).bind (fun r => oR 200 r (fun q4 G1 =>
        (D_Script_countMatching kk q4 G1).bind (fun r => oI r (fun v8 G5 =>
        (D_slen q4 G5).bind (fun r => oI r (fun v12 G9 =>
        if v8 = v12 then
          okI x2 (si G9 (0, 12) 5 ((gi G9 (0, 12) 5) + v8))
        else
          (D_max x1 v8 G9).bind (fun r => oI r (fun v16 G13 =>
          (L_Script_readKeyword kk k) v16 (x2 + (1 : Int32)) G13) exc)) exc)) exc)) exc)
def D_Script_readKeyword (kk : Nat) (G : GS) : Res :=
  (L_Script_readKeyword kk kk) (0 : Int32) (0 : Int32) G
def D_Script_takeDigit (kk : Nat) (G : GS) : Res :=
  if (gi G (0, 12) 5) < 0 then
    okI (-1 : Int32) G
  else
    if (gi G (0, 12) 3) ≤ (gi G (0, 12) 5) then
      okI (-1 : Int32) G
    else
      if (gi G (0, 12) 5) < (60 : Int32) then
        bif inb (gi G (0, 12) 5) 60 then
        if (ga G (0, 13) (gi G (0, 12) 5).toNatClampNeg) < (48 : Int32) then
          okI (-1 : Int32) G
        else
          if (ga G (0, 13) (gi G (0, 12) 5).toNatClampNeg) ≤ (57 : Int32) then
            okI ((ga G (0, 13) (gi G (0, 12) 5).toNatClampNeg) - (48 : Int32)) (si G (0, 12) 5 ((gi G (0, 12) 5) + (1 : Int32)))
          else
            okI (-1 : Int32) G
        else none
      else
        okI (-1 : Int32) G
def D_Script_setArgument (kk : Nat) (a0 : Int32) (a1 : Int32) (G : GS) : Res :=
  if (((gi G (0, 12) 4) * (3 : Int32)) + a0) < 0 then
    okV G
  else
    if (45 : Int32) ≤ (((gi G (0, 12) 4) * (3 : Int32)) + a0) then
      okV G
    else
      bif inb (((gi G (0, 12) 4) * (3 : Int32)) + a0) 45 then
      okV (sa G (0, 15) (((gi G (0, 12) 4) * (3 : Int32)) + a0).toNatClampNeg a1)
      else none
def D_Script_readDigit (kk : Nat) (a0 : Int32) (G : GS) : Res :=
  (D_Script_takeDigit kk G).bind (fun r => oI r (fun v4 G1 =>
  (D_Script_setArgument kk a0 v4 G1).bind (fun r => oV r (fun G5 =>
  if v4 = (-1 : Int32) then
    okI (0 : Int32) G5
  else
    okI (1 : Int32) G5) exc)) exc)
def D_Script_accept (kk : Nat) (a0 : Int32) (G : GS) : Res :=
  (D_Script_isNext kk (0 : Int32) a0 G).bind (fun r => oI r (fun v4 G1 =>
  if v4 = 0 then
    okI v4 G1
  else
    okI v4 (si G1 (0, 12) 5 ((gi G1 (0, 12) 5) + (1 : Int32)))) exc)
def D_Script_readNumber (kk : Nat) (a0 : Int32) (G : GS) : Res :=
  (D_Script_takeDigit kk G).bind (fun r => oI r (fun v4 G1 =>
  if v4 = (-1 : Int32) then
    okI (0 : Int32) G1
  else
    (D_Script_takeDigit kk G1).bind (fun r => oI r (fun v8 G5 =>
    if v8 = (-1 : Int32) then
      (D_Script_setArgument kk a0 v4 G5).bind (fun r => oV r (fun G12 =>
      okI (1 : Int32) G12) exc)
    else
      (D_Script_setArgument kk a0 ((v4 * (10 : Int32)) + v8) G5).bind (fun r => oV r (fun G9 =>
      okI (1 : Int32) G9) exc)) exc)) exc)
def D_Script_readSignedNumber (kk : Nat) (a0 : Int32) (G : GS) : Res :=
  (D_Script_accept kk (45 : Int32) G).bind (fun r => oI r (fun v4 G1 =>
  (D_Script_readNumber kk a0 G1).bind (fun r => oI r (fun v8 G5 =>
  if v8 = 0 then
    okI v8 G5
  else
    if v4 = 0 then
      okI v8 G5
    else
      (D_Script_argumentAt kk (gi G5 (0, 12) 4) a0 G5).bind (fun r => oI r (fun v12 G9 =>
      (D_Script_setArgument kk a0 (-v12) G9).bind (fun r => oV r (fun G13 =>
      okI v8 G13) exc)) exc)) exc)) exc)
def L_Script_readCommand (kk : Nat) : Nat → Int32 → GS → Res
  | 0 => fun _ _ => none
  | k + 1 => fun x1 G =>
    if x1 = (0 : Int32) then
      (D_Script_readDigit kk (0 : Int32) G).bind (fun r => oI r (fun v8 G5 =>
      if v8 = 0 then
        okI (0 : Int32) G5
      else
        (D_Script_accept kk (32 : Int32) G5).bind (fun r => oI r (fun v12 G9 =>
        if v12 = 0 then
          okI (0 : Int32) G9
        else
          (D_Script_readNumber kk (1 : Int32) G9).bind (fun r => oI r (fun v16 G13 =>
          if v16 = 0 then
            okI (0 : Int32) G13
          else
            (D_Script_accept kk (32 : Int32) G13).bind (fun r => oI r (fun v20 G17 =>
            if v20 = 0 then
              okI (0 : Int32) G17
            else
              (D_Script_readDigit kk (2 : Int32) G17).bind (fun r => oI r (fun v24 G21 =>
              if v24 = 0 then
                okI (0 : Int32) G21
              else
                okI (1 : Int32) G21) exc)) exc)) exc)) exc)) exc)
    else if x1 = (1 : Int32) then
      (D_Script_readDigit kk (0 : Int32) G).bind (fun r => oI r (fun v28 G25 =>
      okI v28 G25) exc)
    else if x1 = (2 : Int32) then
      (D_Script_readDigit kk (0 : Int32) G).bind (fun r => oI r (fun v32 G29 =>
      if v32 = 0 then
        okI (0 : Int32) G29
      else
        (D_Script_accept kk (32 : Int32) G29).bind (fun r => oI r (fun v36 G33 =>
        if v36 = 0 then
          okI (0 : Int32) G33
        else
          (D_Script_readDigit kk (1 : Int32) G33).bind (fun r => oI r (fun v40 G37 =>
          if v40 = 0 then
            okI (0 : Int32) G37
          else
            okI (1 : Int32) G37) exc)) exc)) exc)
    else if x1 = (3 : Int32) then
      (D_Script_setArgument kk (0 : Int32) (1 : Int32) G).bind (fun r => oV r (fun G41 =>
      (D_Script_accept kk (32 : Int32) G41).bind (fun r => oI r (fun v47 G44 =>
      if v47 = 0 then
        okI (1 : Int32) G44
      else
        (D_Script_readNumber kk (0 : Int32) G44).bind (fun r => oI r (fun v51 G48 =>
        if v51 = 0 then
          okI (0 : Int32) G48
        else
          okI (1 : Int32) G48) exc)) exc)) exc)
    else if x1 = (4 : Int32) then
      okI (1 : Int32) G
    else if x1 = (5 : Int32) then
      (D_Script_readNumber kk (0 : Int32) G).bind (fun r => oI r (fun v55 G52 =>
      okI v55 G52) exc)
    else if x1 = (6 : Int32) then
      (D_Script_readSignedNumber kk (0 : Int32) G).bind (fun r => oI r (fun v59 G56 =>
      okI v59 G56) exc)
    else 
      okI (0 : Int32) G
def D_Script_readCommand (kk : Nat) (G : GS) : Res :=
  (D_Script_readKeyword kk G).bind (fun r => oI r (fun v4 G1 =>
  if (gi G1 (0, 12) 4) < 0 then
    (L_Script_readCommand kk kk) v4 G1
  else
    if (15 : Int32) ≤ (gi G1 (0, 12) 4) then
      (L_Script_readCommand kk kk) v4 G1
    else
      bif inb (gi G1 (0, 12) 4) 15 then
      (L_Script_readCommand kk kk) v4 (sa G1 (0, 14) (gi G1 (0, 12) 4).toNatClampNeg v4)
      else none) exc)
def L_Script_parse (kk : Nat) : Nat → GS → Res
  | 0 => fun _ => none
  | k + 1 => fun G =>
    if (15 : Int32) ≤ (gi G (0, 12) 4) then
      okI (0 : Int32) G
    else
      (D_Script_readCommand kk G).bind (fun r => oI r (fun v4 G1 =>
      if v4 = 0 then
        okI (0 : Int32) G1
      else
        (D_Script_accept kk (59 : Int32) (si G1 (0, 12) 4 ((gi G1 (0, 12) 4) + (1 : Int32)))).bind (fun r => oI r (fun v8 G5 =>
        if v8 = 0 then
          if (gi G5 (0, 12) 5) = (gi G5 (0, 12) 3) then
            okI (1 : Int32) G5
          else
            okI (0 : Int32) G5
        else
          (L_Script_parse kk k) G5) exc)) exc)
def D_Script_parse (kk : Nat) (G : GS) : Res :=
  (L_Script_parse kk kk) (si (si G (0, 12) 5 (0 : Int32)) (0, 12) 4 (0 : Int32))
def D_State_isWithinLimit (kk : Nat) (j : Nat) (a0 : Int32) (G : GS) : Res :=
  (D_abs a0 G).bind (fun r => oI r (fun v4 G1 =>
  if (gi G1 (j, 1) 3) < v4 then
    okI (0 : Int32) G1
  else
    okI (1 : Int32) G1) exc)
def D_Voyage_countLegsTo (kk : Nat) (j : Nat) (a0 : Int32) (G : GS) : Res :=
  if (gi G (j, 3) 2) = 0 then
    (D_fmod ((gi G (j, 3) 0) - a0) (5 : Int32) G).bind (fun r => oI r (fun v4 G1 =>
    okI v4 G1) exc)
  else
    (D_fmod (a0 - (gi G (j, 3) 0)) (5 : Int32) G).bind (fun r => oI r (fun v8 G5 =>
    okI v8 G5) exc)
def D_State_legsIn (kk : Nat) (j : Nat) (a0 : Int32) (G : GS) : Res :=
  (D_Cargo_destinationIn kk j a0 G).bind (fun r => oI r (fun v4 G1 =>
  (D_Voyage_countLegsTo kk j v4 G1).bind (fun r => oI r (fun v8 G5 =>
  okI v8 G5) exc)) exc)
def D_State_ageIn (kk : Nat) (j : Nat) (a0 : Int32) (G : GS) : Res :=
  (D_Cargo_dayIn kk j a0 G).bind (fun r => oI r (fun v4 G1 =>
  okI ((gi G (j, 3) 1) - v4) G1) exc)
def D_PB_isWeight (kk : Nat) (a0 : Int32) (G : GS) : Res :=
  if a0 < (1 : Int32) then
    okI (0 : Int32) G
  else
    if (20 : Int32) < a0 then
      okI (0 : Int32) G
    else
      okI (1 : Int32) G
def D_PB_isPort (kk : Nat) (a0 : Int32) (G : GS) : Res :=
  if a0 < 0 then
    okI (0 : Int32) G
  else
    if (5 : Int32) ≤ a0 then
      okI (0 : Int32) G
    else
      okI (1 : Int32) G
def D_State_faultOfMoment (kk : Nat) (j : Nat) (a0 : Int32) (G : GS) : Res :=
  (D_Cargo_momentOfPillows kk j G).bind (fun r => oI r (fun v4 G1 =>
  (D_State_isWithinLimit kk j (v4 + a0) G1).bind (fun r => oI r (fun v8 G5 =>
  if v8 = 0 then
    okI (5 : Int32) G5
  else
    okI (0 : Int32) G5) exc)) exc)
def D_State_faultOfLoad (kk : Nat) (j : Nat) (a0 : Int32) (a1 : Int32) (a2 : Int32) (G : GS) : Res :=
  (D_PB_isBay kk a0 G).bind (fun r => oI r (fun v4 G1 =>
  if v4 = 0 then
    okI (1 : Int32) G1
  else
    (D_PB_isWeight kk a1 G1).bind (fun r => oI r (fun v8 G5 =>
    if v8 = 0 then
      okI (2 : Int32) G5
    else
      (D_PB_isPort kk a2 G5).bind (fun r => oI r (fun v12 G9 =>
      if v12 = 0 then
        okI (2 : Int32) G9
      else
        (D_Cargo_heightOf kk j a0 G9).bind (fun r => oI r (fun v16 G13 =>
        if v16 < (5 : Int32) then
          (D_PB_leverArm kk a0 G13).bind (fun r => oI r (fun v20 G17 =>
          (D_State_faultOfMoment kk j (a1 * v20) G17).bind (fun r => oI r (fun v24 G21 =>
          okI v24 G21) exc)) exc)
        else
          okI (4 : Int32) G13) exc)) exc)) exc)) exc)
def D_State_faultOfUnload (kk : Nat) (j : Nat) (a0 : Int32) (G : GS) : Res :=
  (D_PB_isBay kk a0 G).bind (fun r => oI r (fun v4 G1 =>
  if v4 = 0 then
    okI (1 : Int32) G1
  else
    (D_Cargo_topSlot kk j a0 G1).bind (fun r => oI r (fun v8 G5 =>
    (D_PB_isSlot kk v8 G5).bind (fun r => oI r (fun v12 G9 =>
    if v12 = 0 then
      okI (3 : Int32) G9
    else
      (D_Cargo_destinationIn kk j v8 G9).bind (fun r => oI r (fun v16 G13 =>
      if v16 = (gi G13 (j, 3) 0) then
        (D_Cargo_weightIn kk j v8 G13).bind (fun r => oI r (fun v20 G17 =>
        (D_PB_leverArm kk a0 G17).bind (fun r => oI r (fun v24 G21 =>
        (D_State_faultOfMoment kk j ((-v20) * v24) G21).bind (fun r => oI r (fun v28 G25 =>
        okI v28 G25) exc)) exc)) exc)
      else
        okI (4 : Int32) G13) exc)) exc)) exc)) exc)
def D_State_faultOfShift (kk : Nat) (j : Nat) (a0 : Int32) (a1 : Int32) (G : GS) : Res :=
  (D_PB_isBay kk a0 G).bind (fun r => oI r (fun v4 G1 =>
  if v4 = 0 then
    okI (1 : Int32) G1
  else
    (D_PB_isBay kk a1 G1).bind (fun r => oI r (fun v8 G5 =>
    if v8 = 0 then
      okI (1 : Int32) G5
    else
      if a0 = a1 then
        okI (2 : Int32) G5
      else
        (D_Cargo_topSlot kk j a0 G5).bind (fun r => oI r (fun v12 G9 =>
        (D_PB_isSlot kk v12 G9).bind (fun r => oI r (fun v16 G13 =>
        if v16 = 0 then
          okI (3 : Int32) G13
        else
          (D_Cargo_heightOf kk j a1 G13).bind (fun r => oI r (fun v20 G17 =>
          if v20 < (5 : Int32) then
            (D_Cargo_weightIn kk j v12 G17).bind (fun r => oI r (fun v24 G21 =>
            (D_PB_leverArm kk a1 G21).bind (fun r => oI r (fun v28 G25 =>
            (D_PB_leverArm kk a0 G25).bind (fun r => oI r (fun v32 G29 =>
            (D_State_faultOfMoment kk j (v24 * (v28 - v32)) G29).bind (fun r => oI r (fun v36 G33 =>
            okI v36 G33) exc)) exc)) exc)) exc)
          else
            okI (4 : Int32) G17) exc)) exc)) exc)) exc)) exc)
def D_State_faultOfLimit (kk : Nat) (j : Nat) (a0 : Int32) (G : GS) : Res :=
  if a0 < (10 : Int32) then
    okI (2 : Int32) G
  else
    if a0 ≤ (99 : Int32) then
      (D_Cargo_momentOfPillows kk j G).bind (fun r => oI r (fun v4 G1 =>
      (D_abs v4 G1).bind (fun r => oI r (fun v8 G5 =>
      if v8 ≤ a0 then
        okI (0 : Int32) G5
      else
        okI (5 : Int32) G5) exc)) exc)
    else
      okI (2 : Int32) G
def D_State_faultOf (kk : Nat) (j : Nat) (a0 : Int32) (a1 : Int32) (a2 : Int32) (a3 : Int32) (G : GS) : Res :=
  if a0 = (0 : Int32) then
    (D_State_faultOfLoad kk j a1 a2 a3 G).bind (fun r => oI r (fun v4 G1 =>
    okI v4 G1) exc)
  else if a0 = (1 : Int32) then
    (D_State_faultOfUnload kk j a1 G).bind (fun r => oI r (fun v8 G5 =>
    okI v8 G5) exc)
  else if a0 = (2 : Int32) then
    (D_State_faultOfShift kk j a1 a2 G).bind (fun r => oI r (fun v12 G9 =>
    okI v12 G9) exc)
  else if a0 = (3 : Int32) then
    if a1 < (1 : Int32) then
      okI (2 : Int32) G
    else
      if a1 ≤ (20 : Int32) then
        okI (0 : Int32) G
      else
        okI (2 : Int32) G
  else if a0 = (4 : Int32) then
    okI (0 : Int32) G
  else if a0 = (5 : Int32) then
    (D_State_faultOfLimit kk j a1 G).bind (fun r => oI r (fun v16 G13 =>
    okI v16 G13) exc)
  else if a0 = (6 : Int32) then
    if a1 < (-99 : Int32) then
      okI (2 : Int32) G
    else
      if a1 ≤ (99 : Int32) then
        okI (0 : Int32) G
      else
        okI (2 : Int32) G
  else 
    okI (0 : Int32) G
def D_State_addPillow (kk : Nat) (j : Nat) (a0 : Int32) (a1 : Int32) (a2 : Int32) (G : GS) : Res :=
  (D_Cargo_put kk j a0 (gi G (j, 4) 0) a1 a2 (gi G (j, 3) 1) G).bind (fun r => oV r (fun G1 =>
  okI (gi G (j, 4) 0) (si G1 (j, 4) 0 ((gi G1 (j, 4) 0) + (1 : Int32)))) exc)
def D_State_deliverTop (kk : Nat) (j : Nat) (a0 : Int32) (G : GS) : Res :=
  (D_Cargo_topSlot kk j a0 G).bind (fun r => oI r (fun v4 G1 =>
  (D_Cargo_numberIn kk j v4 G1).bind (fun r => oI r (fun v8 G5 =>
  (D_Cargo_weightIn kk j v4 (si G5 (j, 4) 1 ((gi G5 (j, 4) 1) + (1 : Int32)))).bind (fun r => oI r (fun v12 G9 =>
  (D_Cargo_removeTop kk j a0 (si G9 (j, 4) 2 ((gi (si G5 (j, 4) 1 ((gi G5 (j, 4) 1) + (1 : Int32))) (j, 4) 2) + v12))).bind (fun r => oV r (fun G13 =>
  okI v8 G13) exc)) exc)) exc)) exc)
def D_State_moveTop (kk : Nat) (j : Nat) (a0 : Int32) (a1 : Int32) (G : GS) : Res :=
  (D_Cargo_topSlot kk j a0 G).bind (fun r => oI r (fun v4 G1 =>
  (D_Cargo_numberIn kk j v4 G1).bind (fun r => oI r (fun v8 G5 =>
  (D_Cargo_weightIn kk j v4 G5).bind (fun r => oI r (fun v12 G9 =>
  (D_Cargo_destinationIn kk j v4 G9).bind (fun r => oI r (fun v16 G13 =>
  (D_Cargo_dayIn kk j v4 G13).bind (fun r => oI r (fun v20 G17 =>
  (D_Cargo_put kk j a1 v8 v12 v16 v20 G17).bind (fun r => oV r (fun G21 =>
  (D_Cargo_removeTop kk j a0 G21).bind (fun r => oV r (fun G24 =>
  okI v8 G24) exc)) exc)) exc)) exc)) exc)) exc)) exc)
def D_Voyage_portIn (kk : Nat) (j : Nat) (a0 : Int32) (G : GS) : Res :=
  if (gi G (j, 3) 2) = 0 then
    (D_fmod ((gi G (j, 3) 0) - a0) (5 : Int32) G).bind (fun r => oI r (fun v4 G1 =>
    okI v4 G1) exc)
  else
    (D_fmod ((gi G (j, 3) 0) + a0) (5 : Int32) G).bind (fun r => oI r (fun v8 G5 =>
    okI v8 G5) exc)
def D_Voyage_advance (kk : Nat) (j : Nat) (a0 : Int32) (G : GS) : Res :=
  (D_Voyage_portIn kk j a0 G).bind (fun r => oI r (fun v4 G1 =>
  okV (si (si G1 (j, 3) 0 v4) (j, 3) 1 ((gi (si G1 (j, 3) 0 v4) (j, 3) 1) + a0))) exc)
def D_Voyage_reverse (kk : Nat) (j : Nat) (G : GS) : Res :=
  if (gi G (j, 3) 2) = 0 then
    okV (si G (j, 3) 2 (1 : Int32))
  else
    okV (si G (j, 3) 2 (0 : Int32))
def D_State_replaceLimit (kk : Nat) (j : Nat) (a0 : Int32) (G : GS) : Res :=
  okI (gi G (j, 1) 3) (si G (j, 1) 3 a0)
def L_State_practise (kk : Nat) : Nat → Nat → Int32 → GS → Res
  | 0 => fun _ _ _ => none
  | k + 1 => fun x0 y0 G =>
    if y0 = 0 then
      okI y0 (si G (x0, 4) 3 ((gi G (x0, 4) 3) + (1 : Int32)))
    else
      okI y0 (si (si G (x0, 4) 3 ((gi G (x0, 4) 3) + (1 : Int32))) (x0, 4) 4 ((gi (si G (x0, 4) 3 ((gi G (x0, 4) 3) + (1 : Int32))) (x0, 4) 4) + (1 : Int32)))
def D_State_practise (kk : Nat) (j : Nat) (a0 : Int32) (G : GS) : Res :=
  (D_Cargo_momentOfPillows kk j G).bind (fun r => oI r (fun v4 G1 =>
  (D_State_isWithinLimit kk j (v4 + a0) G1).bind (fun r => oI r (fun v8 G5 =>
  if v8 = 0 then
    (L_State_practise kk kk) j (1 : Int32) G5
  else
    (L_State_practise kk kk) j (0 : Int32) G5) exc)) exc)
def D_State_perform (kk : Nat) (j : Nat) (a0 : Int32) (a1 : Int32) (a2 : Int32) (a3 : Int32) (G : GS) : Res :=
  if a0 = (0 : Int32) then
    (D_State_addPillow kk j a1 a2 a3 G).bind (fun r => oI r (fun v4 G1 =>
    okI v4 G1) exc)
  else if a0 = (1 : Int32) then
    (D_State_deliverTop kk j a1 G).bind (fun r => oI r (fun v8 G5 =>
    okI v8 G5) exc)
  else if a0 = (2 : Int32) then
    (D_State_moveTop kk j a1 a2 G).bind (fun r => oI r (fun v12 G9 =>
    okI v12 G9) exc)
  else if a0 = (3 : Int32) then
    (D_Voyage_advance kk j a1 G).bind (fun r => oV r (fun G13 =>
    okI (gi G13 (j, 3) 0) G13) exc)
  else if a0 = (4 : Int32) then
    (D_Voyage_reverse kk j G).bind (fun r => oV r (fun G16 =>
    if (gi G16 (j, 3) 2) = 0 then
      okI (0 : Int32) G16
    else
      okI (1 : Int32) G16) exc)
  else if a0 = (5 : Int32) then
    (D_State_replaceLimit kk j a1 G).bind (fun r => oI r (fun v22 G19 =>
    okI v22 G19) exc)
  else if a0 = (6 : Int32) then
    (D_State_practise kk j a1 G).bind (fun r => oI r (fun v26 G23 =>
    if v26 = 0 then
      okI (0 : Int32) G23
    else
      okI (1 : Int32) G23) exc)
  else 
    okI (0 : Int32) G
def D_PB_throwFault (kk : Nat) (a0 : Int32) (G : GS) : Res :=
  if a0 = (1 : Int32) then
    exc 1 G
  else if a0 = (2 : Int32) then
    exc 2 G
  else if a0 = (3 : Int32) then
    exc 3 G
  else if a0 = (4 : Int32) then
    exc 4 G
  else if a0 = (5 : Int32) then
    exc 5 G
  else 
    okV G
def D_PB_change (kk : Nat) (a0 : Int32) (a1 : Int32) (a2 : Int32) (a3 : Int32) (G : GS) : Res :=
  (D_State_faultOf kk 0 a0 a1 a2 a3 G).bind (fun r => oI r (fun v4 G1 =>
  (D_PB_throwFault kk v4 G1).bind (fun r => oV r (fun G5 =>
  (D_History_draft kk 0 G5).bind (fun r => oV r (fun G8 =>
  (D_History_keepDraft kk G8).bind (fun r => oV r (fun G11 =>
  (D_State_perform kk 0 a0 a1 a2 a3 G11).bind (fun r => oI r (fun v17 G14 =>
  okI v17 G14) exc)) exc)) exc)) exc)) exc)
def D_PB_load (kk : Nat) (a0 : Int32) (a1 : Int32) (a2 : Int32) (G : GS) : Res :=
  (D_PB_change kk (0 : Int32) a0 a1 a2 G).bind (fun r => oI r (fun v4 G1 =>
  okI v4 G1) exc)
def D_PB_unload (kk : Nat) (a0 : Int32) (G : GS) : Res :=
  (D_PB_change kk (1 : Int32) a0 (0 : Int32) (0 : Int32) G).bind (fun r => oI r (fun v4 G1 =>
  okI v4 G1) exc)
def D_PB_shift (kk : Nat) (a0 : Int32) (a1 : Int32) (G : GS) : Res :=
  (D_PB_change kk (2 : Int32) a0 a1 (0 : Int32) G).bind (fun r => oI r (fun v4 G1 =>
  okI v4 G1) exc)
def D_PB_sail (kk : Nat) (a0 : Int32) (G : GS) : Res :=
  (D_PB_change kk (3 : Int32) a0 (0 : Int32) (0 : Int32) G).bind (fun r => oI r (fun v4 G1 =>
  okI v4 G1) exc)
def D_PB_turn (kk : Nat) (G : GS) : Res :=
  (D_PB_change kk (4 : Int32) (0 : Int32) (0 : Int32) (0 : Int32) G).bind (fun r => oI r (fun v4 G1 =>
  if v4 = (1 : Int32) then
    okI (1 : Int32) G1
  else
    okI (0 : Int32) G1) exc)
def D_PB_setLimit (kk : Nat) (a0 : Int32) (G : GS) : Res :=
  (D_PB_change kk (5 : Int32) a0 (0 : Int32) (0 : Int32) G).bind (fun r => oI r (fun v4 G1 =>
  okI v4 G1) exc)
def D_PB_drill (kk : Nat) (a0 : Int32) (G : GS) : Res :=
  (D_PB_change kk (6 : Int32) a0 (0 : Int32) (0 : Int32) G).bind (fun r => oI r (fun v4 G1 =>
  if v4 = (1 : Int32) then
    okI (1 : Int32) G1
  else
    okI (0 : Int32) G1) exc)
def D_PB_pillowCount (kk : Nat) (G : GS) : Res :=
  (D_Cargo_countPillows kk 0 G).bind (fun r => oI r (fun v4 G1 =>
  okI v4 G1) exc)
def D_PB_requireBay (kk : Nat) (a0 : Int32) (G : GS) : Res :=
  (D_PB_isBay kk a0 G).bind (fun r => oI r (fun v4 G1 =>
  if v4 = 0 then
    exc 1 G1
  else
    okV G1) exc)
def D_PB_stackHeight (kk : Nat) (a0 : Int32) (G : GS) : Res :=
  (D_PB_requireBay kk a0 G).bind (fun r => oV r (fun G1 =>
  (D_Cargo_heightOf kk 0 a0 G1).bind (fun r => oI r (fun v7 G4 =>
  okI v7 G4) exc)) exc)
def D_PB_requireSlot (kk : Nat) (a0 : Int32) (G : GS) : Res :=
  (D_PB_isSlot kk a0 G).bind (fun r => oI r (fun v4 G1 =>
  if v4 = 0 then
    exc 3 G1
  else
    okV G1) exc)
def D_PB_pillowAt (kk : Nat) (a0 : Int32) (a1 : Int32) (G : GS) : Res :=
  (D_PB_requireBay kk a0 G).bind (fun r => oV r (fun G1 =>
  (D_Cargo_slotAt kk 0 a0 a1 G1).bind (fun r => oI r (fun v7 G4 =>
  (D_PB_requireSlot kk v7 G4).bind (fun r => oV r (fun G8 =>
  (D_Cargo_numberIn kk 0 v7 G8).bind (fun r => oI r (fun v14 G11 =>
  okI v14 G11) exc)) exc)) exc)) exc)
def D_PB_requirePillow (kk : Nat) (a0 : Int32) (G : GS) : Res :=
  (D_Cargo_slotOf kk 0 a0 G).bind (fun r => oI r (fun v4 G1 =>
  (D_PB_requireSlot kk v4 G1).bind (fun r => oV r (fun G5 =>
  okI v4 G5) exc)) exc)
def D_PB_weightOf (kk : Nat) (a0 : Int32) (G : GS) : Res :=
  (D_PB_requirePillow kk a0 G).bind (fun r => oI r (fun v4 G1 =>
  (D_Cargo_weightIn kk 0 v4 G1).bind (fun r => oI r (fun v8 G5 =>
  okI v8 G5) exc)) exc)
def D_PB_destinationOf (kk : Nat) (a0 : Int32) (G : GS) : Res :=
  (D_PB_requirePillow kk a0 G).bind (fun r => oI r (fun v4 G1 =>
  (D_Cargo_destinationIn kk 0 v4 G1).bind (fun r => oI r (fun v8 G5 =>
  okI v8 G5) exc)) exc)
def D_PB_bayOf (kk : Nat) (a0 : Int32) (G : GS) : Res :=
  (D_PB_requirePillow kk a0 G).bind (fun r => oI r (fun v4 G1 =>
  okI (v4 / (5 : Int32)) G1) exc)
def D_PB_positionOf (kk : Nat) (a0 : Int32) (G : GS) : Res :=
  (D_PB_requirePillow kk a0 G).bind (fun r => oI r (fun v4 G1 =>
  okI (v4 - v4 / (5 : Int32) * (5 : Int32)) G1) exc)
def D_PB_ageOf (kk : Nat) (a0 : Int32) (G : GS) : Res :=
  (D_PB_requirePillow kk a0 G).bind (fun r => oI r (fun v4 G1 =>
  (D_State_ageIn kk 0 v4 G1).bind (fun r => oI r (fun v8 G5 =>
  okI v8 G5) exc)) exc)
def D_PB_isOlder (kk : Nat) (a0 : Int32) (a1 : Int32) (G : GS) : Res :=
  (D_State_ageIn kk 0 a0 G).bind (fun r => oI r (fun v4 G1 =>
  (D_State_ageIn kk 0 a1 G1).bind (fun r => oI r (fun v8 G5 =>
  if v4 = v8 then
    (D_Cargo_numberIn kk 0 a0 G5).bind (fun r => oI r (fun v12 G9 =>
    (D_Cargo_numberIn kk 0 a1 G9).bind (fun r => oI r (fun v16 G13 =>
    if v16 ≤ v12 then
      okI (0 : Int32) G13
    else
      okI (1 : Int32) G13) exc)) exc)
  else
    if v4 ≤ v8 then
      okI (0 : Int32) G5
    else
      okI (1 : Int32) G5) exc)) exc)
def L_PB_oldestSlotIn (kk : Nat) : Nat → Int32 → Int32 → Int32 → GS → Res
  | 0 => fun _ _ _ _ => none
  | k + 1 => fun x1 x2 x3 G =>
    if (5 : Int32) ≤ x3 then
      okI x2 G
    else
      (D_Cargo_slotAt kk 0 x1 x3 G).bind (fun r => oI r (fun v4 G1 =>
      (D_PB_isSlot kk v4 G1).bind (fun r => oI r (fun v8 G5 =>
      if v8 = 0 then
        (L_PB_oldestSlotIn kk k) x1 x2 (x3 + (1 : Int32)) G5
      else
        if x2 = (-1 : Int32) then
          (L_PB_oldestSlotIn kk k) x1 v4 (x3 + (1 : Int32)) G5
        else
          (D_PB_isOlder kk v4 x2 G5).bind (fun r => oI r (fun v12 G9 =>
          if v12 = 0 then
            (L_PB_oldestSlotIn kk k) x1 x2 (x3 + (1 : Int32)) G9
          else
            (L_PB_oldestSlotIn kk k) x1 v4 (x3 + (1 : Int32)) G9) exc)) exc)) exc)
def D_PB_oldestSlotIn (kk : Nat) (a0 : Int32) (G : GS) : Res :=
  (L_PB_oldestSlotIn kk kk) a0 (-1 : Int32) (0 : Int32) G
def D_PB_oldestIn (kk : Nat) (a0 : Int32) (G : GS) : Res :=
  (D_PB_requireBay kk a0 G).bind (fun r => oV r (fun G1 =>
  (D_PB_oldestSlotIn kk a0 G1).bind (fun r => oI r (fun v7 G4 =>
  (D_PB_requireSlot kk v7 G4).bind (fun r => oV r (fun G8 =>
  (D_Cargo_numberIn kk 0 v7 G8).bind (fun r => oI r (fun v14 G11 =>
  okI v14 G11) exc)) exc)) exc)) exc)
def D_PB_moment (kk : Nat) (G : GS) : Res :=
  (D_Cargo_momentOfPillows kk 0 G).bind (fun r => oI r (fun v4 G1 =>
  okI v4 G1) exc)
def D_PB_momentByBays (kk : Nat) (G : GS) : Res :=
  (D_Cargo_momentOfBays kk 0 G).bind (fun r => oI r (fun v4 G1 =>
  okI v4 G1) exc)
def D_PB_totalWeight (kk : Nat) (G : GS) : Res :=
  (D_Cargo_weightOfAll kk 0 G).bind (fun r => oI r (fun v4 G1 =>
  okI v4 G1) exc)
def D_PB_requirePort (kk : Nat) (a0 : Int32) (G : GS) : Res :=
  (D_PB_isPort kk a0 G).bind (fun r => oI r (fun v4 G1 =>
  if v4 = 0 then
    exc 1 G1
  else
    okV G1) exc)
def D_PB_weightFor (kk : Nat) (a0 : Int32) (G : GS) : Res :=
  (D_PB_requirePort kk a0 G).bind (fun r => oV r (fun G1 =>
  (D_Cargo_weightForPort kk 0 a0 G1).bind (fun r => oI r (fun v7 G4 =>
  okI v7 G4) exc)) exc)
def D_PB_limit (kk : Nat) (G : GS) : Res :=
  okI (gi G (0, 1) 3) G
def D_PB_listAngle (kk : Nat) (G : GS) : Res :=
  (D_Cargo_momentOfPillows kk 0 G).bind (fun r => oI r (fun v4 G1 =>
  (D_Cargo_weightOfAll kk 0 G1).bind (fun r => oI r (fun v8 G5 =>
  if (FP.fmul (1110704128 : UInt32) (FP.i2f v4)) &&& 0x7fffffff ≤ 0x7f800000 then
  if (FP.fdiv (FP.fmul (1110704128 : UInt32) (FP.i2f v4)) (FP.i2f (v8 + (40 : Int32)))) &&& 0x7fffffff ≤ 0x7f800000 then
  okF (FP.fdiv (FP.fmul (1110704128 : UInt32) (FP.i2f v4)) (FP.i2f (v8 + (40 : Int32)))) G5
  else none
  else none) exc)) exc)
def D_PB_greatestPush (kk : Nat) (G : GS) : Res :=
  (D_Cargo_momentOfPillows kk 0 G).bind (fun r => oI r (fun v4 G1 =>
  okI ((gi G (0, 1) 3) - v4) G1) exc)
def D_PB_isMoreLevel (kk : Nat) (a0 : Int32) (a1 : Int32) (a2 : Int32) (G : GS) : Res :=
  (D_Cargo_momentOfPillows kk 0 G).bind (fun r => oI r (fun v4 G1 =>
  (D_PB_leverArm kk a0 G1).bind (fun r => oI r (fun v8 G5 =>
  (D_abs (v4 + (a2 * v8)) G5).bind (fun r => oI r (fun v12 G9 =>
  (D_PB_leverArm kk a1 G9).bind (fun r => oI r (fun v16 G13 =>
  (D_abs (v4 + (a2 * v16)) G13).bind (fun r => oI r (fun v20 G17 =>
  if v12 = v20 then
    (D_Cargo_heightOf kk 0 a0 G17).bind (fun r => oI r (fun v24 G21 =>
    (D_Cargo_heightOf kk 0 a1 G21).bind (fun r => oI r (fun v28 G25 =>
    if v28 ≤ v24 then
      okI (0 : Int32) G25
    else
      okI (1 : Int32) G25) exc)) exc)
  else
    if v20 ≤ v12 then
      okI (0 : Int32) G17
    else
      okI (1 : Int32) G17) exc)) exc)) exc)) exc)) exc)
def L_PB_mostLevelBay (kk : Nat) : Nat → (Int32 → Int32 → Int32 → GS → Res) × (Int32 → Int32 → Int32 → Int32 → GS → Res)
  | 0 => (fun _ _ _ _ => none, fun _ _ _ _ _ => none)
  | k + 1 => (fun x1 x2 x3 G =>
    if (7 : Int32) ≤ x3 then
      okI x2 G
    else
      (D_State_faultOfLoad kk 0 x3 x1 (0 : Int32) G).bind (fun r => oI r (fun v4 G1 =>
      if v4 = 0 then
        (L_PB_mostLevelBay kk k).2 x1 x2 x3 (1 : Int32) G1
      else
        (L_PB_mostLevelBay kk k).2 x1 x2 x3 (0 : Int32) G1) exc),
    fun x1 x2 x3 y0 G =>
    if y0 = 0 then
      (L_PB_mostLevelBay kk k).1 x1 x2 (x3 + (1 : Int32)) G
    else
      if x2 = (-1 : Int32) then
        (L_PB_mostLevelBay kk k).1 x1 x3 (x3 + (1 : Int32)) G
      else
        (D_PB_isMoreLevel kk x3 x2 x1 G).bind (fun r => oI r (fun v8 G5 =>
        if v8 = 0 then
          (L_PB_mostLevelBay kk k).1 x1 x2 (x3 + (1 : Int32)) G5
        else
          (L_PB_mostLevelBay kk k).1 x1 x3 (x3 + (1 : Int32)) G5) exc))
def D_PB_mostLevelBay (kk : Nat) (a0 : Int32) (G : GS) : Res :=
  (L_PB_mostLevelBay kk kk).1 a0 (-1 : Int32) (0 : Int32) G
def D_PB_levelingBay (kk : Nat) (a0 : Int32) (G : GS) : Res :=
  (D_PB_isWeight kk a0 G).bind (fun r => oI r (fun v4 G1 =>
  if v4 = 0 then
    exc 2 G1
  else
    (D_PB_mostLevelBay kk a0 G1).bind (fun r => oI r (fun v8 G5 =>
    if v8 = (-1 : Int32) then
      exc 3 G5
    else
      okI v8 G5) exc)) exc)
def D_PB_port (kk : Nat) (G : GS) : Res :=
  okI (gi G (0, 3) 0) G
def D_PB_day (kk : Nat) (G : GS) : Res :=
  okI (gi G (0, 3) 1) G
def D_PB_isAscending (kk : Nat) (G : GS) : Res :=
  okI (gi G (0, 3) 2) G
def D_PB_legsTo (kk : Nat) (a0 : Int32) (G : GS) : Res :=
  (D_PB_requirePort kk a0 G).bind (fun r => oV r (fun G1 =>
  (D_Voyage_countLegsTo kk 0 a0 G1).bind (fun r => oI r (fun v7 G4 =>
  okI v7 G4) exc)) exc)
def D_PB_portAfter (kk : Nat) (a0 : Int32) (G : GS) : Res :=
  if a0 < 0 then
    exc 2 G
  else
    if a0 ≤ (99 : Int32) then
      (D_Voyage_portIn kk 0 a0 G).bind (fun r => oI r (fun v4 G1 =>
      okI v4 G1) exc)
    else
      exc 2 G
def L_PB_heaviestPort (kk : Nat) : Nat → Int32 → Int32 → GS → Res
  | 0 => fun _ _ _ => none
  | k + 1 => fun x1 x2 G =>
    if (5 : Int32) ≤ x2 then
      okI x1 G
    else
      (D_Voyage_portIn kk 0 x2 G).bind (fun r => oI r (fun v8 G5 =>
      (D_Cargo_weightForPort kk 0 v8 G5).bind (fun r => oI r (fun v12 G9 =>
      (D_Cargo_weightForPort kk 0 x1 G9).bind (fun r => oI r (fun v16 G13 =>
      if v12 ≤ v16 then
        (L_PB_heaviestPort kk k) x1 (x2 + (1 : Int32)) G13
      else
        (L_PB_heaviestPort kk k) v8 (x2 + (1 : Int32)) G13) exc)) exc)) exc)
def D_PB_heaviestPort (kk : Nat) (G : GS) : Res :=
  (D_Cargo_countPillows kk 0 G).bind (fun r => oI r (fun v4 G1 =>
  if v4 = 0 then
    exc 3 G1
  else
    (L_PB_heaviestPort kk (Nat.min kk 8)) (gi G1 (0, 3) 0) (1 : Int32) G1) exc)
def L_PB_countInTheWayOf (kk : Nat) : Nat → Int32 → Int32 → Int32 → Int32 → GS → Res
  | 0 => fun _ _ _ _ _ => none
  | k + 1 => fun x1 x2 x3 x4 G =>
    if (5 : Int32) ≤ x4 then
      okI x3 G
    else
      (D_Cargo_slotAt kk 0 x2 x4 G).bind (fun r => oI r (fun v4 G1 =>
      (D_PB_isSlot kk v4 G1).bind (fun r => oI r (fun v8 G5 =>
      if v8 = 0 then
        (L_PB_countInTheWayOf kk k) x1 x2 x3 (x4 + (1 : Int32)) G5
      else
        (D_State_legsIn kk 0 v4 G5).bind (fun r => oI r (fun v12 G9 =>
        (D_State_legsIn kk 0 x1 G9).bind (fun r => oI r (fun v16 G13 =>
        if v12 ≤ v16 then
          (L_PB_countInTheWayOf kk k) x1 x2 x3 (x4 + (1 : Int32)) G13
        else
          (L_PB_countInTheWayOf kk k) x1 x2 (x3 + (1 : Int32)) (x4 + (1 : Int32)) G13) exc)) exc)) exc)) exc)
def D_PB_countInTheWayOf (kk : Nat) (a0 : Int32) (G : GS) : Res :=
  (L_PB_countInTheWayOf kk kk) a0 (a0 / (5 : Int32)) (0 : Int32) ((a0 - a0 / (5 : Int32) * (5 : Int32)) + (1 : Int32)) G
def D_PB_pillowsInTheWay (kk : Nat) (a0 : Int32) (G : GS) : Res :=
  (D_PB_requirePillow kk a0 G).bind (fun r => oI r (fun v4 G1 =>
  (D_PB_countInTheWayOf kk v4 G1).bind (fun r => oI r (fun v8 G5 =>
  okI v8 G5) exc)) exc)
def L_PB_countPairs (kk : Nat) : Nat → Int32 → Int32 → GS → Res
  | 0 => fun _ _ _ => none
  | k + 1 => fun x1 x2 G =>
    if (35 : Int32) ≤ x2 then
      okI x1 G
    else
      (D_Cargo_isTaken kk 0 x2 G).bind (fun r => oI r (fun v4 G1 =>
      if v4 = 0 then
        (L_PB_countPairs kk k) x1 (x2 + (1 : Int32)) G1
      else
        (D_PB_countInTheWayOf kk x2 G1).bind (fun r => oI r (fun v8 G5 =>
        (L_PB_countPairs kk k) (x1 + v8) (x2 + (1 : Int32)) G5) exc)) exc)
def D_PB_countPairs (kk : Nat) (G : GS) : Res :=
  (L_PB_countPairs kk kk) (0 : Int32) (0 : Int32) G
def D_PB_pairsInTheWay (kk : Nat) (G : GS) : Res :=
  (D_PB_countPairs kk G).bind (fun r => oI r (fun v4 G1 =>
  okI v4 G1) exc)
def L_PB_seePillow (kk : Nat) : Nat → Int32 → Int32 → Int32 → GS → Res
  | 0 => fun _ _ _ _ => none
  | k + 1 => fun x1 x2 x3 G =>
    if (5 : Int32) ≤ x3 then
      (D_PB_isPort kk x1 G).bind (fun r => oI r (fun v4 G1 =>
      if v4 = 0 then
        okI x2 G1
      else
        bif inb x1 5 then
        bif inb x1 5 then
        okI x2 (sa G1 (0, 17) x1.toNatClampNeg ((ga G1 (0, 17) x1.toNatClampNeg) + (1 : Int32)))
        else none
        else none) exc)
    else
      if x3 ≤ x1 then
        (L_PB_seePillow kk k) x1 x2 (x3 + (1 : Int32)) G
      else
        bif inb x3 5 then
        (L_PB_seePillow kk k) x1 (x2 + (ga G (0, 17) x3.toNatClampNeg)) (x3 + (1 : Int32)) G
        else none
def D_PB_seePillow (kk : Nat) (a0 : Int32) (G : GS) : Res :=
  (L_PB_seePillow kk kk) a0 (0 : Int32) (0 : Int32) G
def L_PB_countPairsInStack (kk : Nat) : Nat → (Int32 → Int32 → GS → Res) × (Int32 → Int32 → Int32 → GS → Res)
  | 0 => (fun _ _ _ => none, fun _ _ _ _ => none)
  | k + 1 => (fun x1 x2 G =>
    if (5 : Int32) ≤ x2 then
      (L_PB_countPairsInStack kk k).2 x1 (0 : Int32) (4 : Int32) G
    else
      bif inb x2 5 then
      (L_PB_countPairsInStack kk k).1 x1 (x2 + (1 : Int32)) (sa G (0, 17) x2.toNatClampNeg (0 : Int32))
      else none,
    fun x1 x2 x3 G =>
    if x3 < 0 then
      okI x2 G
    else
      (D_Cargo_slotAt kk 0 x1 x3 G).bind (fun r => oI r (fun v4 G1 =>
      (D_PB_isSlot kk v4 G1).bind (fun r => oI r (fun v8 G5 =>
      if v8 = 0 then
        (L_PB_countPairsInStack kk k).2 x1 x2 (x3 + (-1 : Int32)) G5
      else
        (D_State_legsIn kk 0 v4 G5).bind (fun r => oI r (fun v12 G9 =>
        (D_PB_seePillow kk v12 G9).bind (fun r => oI r (fun v16 G13 =>
        (L_PB_countPairsInStack kk k).2 x1 (x2 + v16) (x3 + (-1 : Int32)) G13) exc)) exc)) exc)) exc))
def D_PB_countPairsInStack (kk : Nat) (a0 : Int32) (G : GS) : Res :=
  (L_PB_countPairsInStack kk kk).1 a0 (0 : Int32) G
def L_PB_countPairsByStacks (kk : Nat) : Nat → Int32 → Int32 → GS → Res
  | 0 => fun _ _ _ => none
  | k + 1 => fun x1 x2 G =>
    if (7 : Int32) ≤ x2 then
      okI x1 G
    else
      (D_PB_countPairsInStack kk x2 G).bind (fun r => oI r (fun v4 G1 =>
      (L_PB_countPairsByStacks kk k) (x1 + v4) (x2 + (1 : Int32)) G1) exc)
def D_PB_countPairsByStacks (kk : Nat) (G : GS) : Res :=
  (L_PB_countPairsByStacks kk kk) (0 : Int32) (0 : Int32) G
def D_PB_pairsInTheWayByStacks (kk : Nat) (G : GS) : Res :=
  (D_PB_countPairsByStacks kk G).bind (fun r => oI r (fun v4 G1 =>
  okI v4 G1) exc)
def L_PB_unloadableCount (kk : Nat) : Nat → Int32 → Int32 → GS → Res
  | 0 => fun _ _ _ => none
  | k + 1 => fun x1 x2 G =>
    if (7 : Int32) ≤ x2 then
      okI x1 G
    else
      (D_State_faultOfUnload kk 0 x2 G).bind (fun r => oI r (fun v4 G1 =>
      if v4 = 0 then
        (L_PB_unloadableCount kk k) (x1 + (1 : Int32)) (x2 + (1 : Int32)) G1
      else
        (L_PB_unloadableCount kk k) x1 (x2 + (1 : Int32)) G1) exc)
def D_PB_unloadableCount (kk : Nat) (G : GS) : Res :=
  (L_PB_unloadableCount kk kk) (0 : Int32) (0 : Int32) G
def L_PB_possibleShifts (kk : Nat) : Nat → (Int32 → Int32 → GS → Res) × (Int32 → Int32 → Int32 → GS → Res)
  | 0 => (fun _ _ _ => none, fun _ _ _ _ => none)
  | k + 1 => (fun x1 x2 G =>
    if (7 : Int32) ≤ x2 then
      okI x1 G
    else
      (L_PB_possibleShifts kk k).2 x1 x2 (0 : Int32) G,
    fun x1 x2 x3 G =>
    if (7 : Int32) ≤ x3 then
      (L_PB_possibleShifts kk k).1 x1 (x2 + (1 : Int32)) G
    else
      (D_State_faultOfShift kk 0 x2 x3 G).bind (fun r => oI r (fun v4 G1 =>
      if v4 = 0 then
        (L_PB_possibleShifts kk k).2 (x1 + (1 : Int32)) x2 (x3 + (1 : Int32)) G1
      else
        (L_PB_possibleShifts kk k).2 x1 x2 (x3 + (1 : Int32)) G1) exc))
def D_PB_possibleShifts (kk : Nat) (G : GS) : Res :=
  (L_PB_possibleShifts kk kk).1 (0 : Int32) (0 : Int32) G
def D_PB_hasEarlierTurn (kk : Nat) (a0 : Int32) (a1 : Int32) (G : GS) : Res :=
  (D_State_legsIn kk 0 a0 G).bind (fun r => oI r (fun v4 G1 =>
  (D_State_legsIn kk 0 a1 G1).bind (fun r => oI r (fun v8 G5 =>
  if v4 = v8 then
    (D_PB_isOlder kk a0 a1 G5).bind (fun r => oI r (fun v12 G9 =>
    okI v12 G9) exc)
  else
    if v8 ≤ v4 then
      okI (0 : Int32) G5
    else
      okI (1 : Int32) G5) exc)) exc)
def L_PB_countEarlierTurns (kk : Nat) : Nat → Int32 → Int32 → Int32 → GS → Res
  | 0 => fun _ _ _ _ => none
  | k + 1 => fun x1 x2 x3 G =>
    if (35 : Int32) ≤ x3 then
      okI x2 G
    else
      (D_Cargo_isTaken kk 0 x3 G).bind (fun r => oI r (fun v4 G1 =>
      if v4 = 0 then
        (L_PB_countEarlierTurns kk k) x1 x2 (x3 + (1 : Int32)) G1
      else
        (D_PB_hasEarlierTurn kk x3 x1 G1).bind (fun r => oI r (fun v8 G5 =>
        if v8 = 0 then
          (L_PB_countEarlierTurns kk k) x1 x2 (x3 + (1 : Int32)) G5
        else
          (L_PB_countEarlierTurns kk k) x1 (x2 + (1 : Int32)) (x3 + (1 : Int32)) G5) exc)) exc)
def D_PB_countEarlierTurns (kk : Nat) (a0 : Int32) (G : GS) : Res :=
  (L_PB_countEarlierTurns kk kk) a0 (0 : Int32) (0 : Int32) G
def L_PB_pillowByTurn (kk : Nat) : Nat → Int32 → Int32 → GS → Res
  | 0 => fun _ _ _ => none
  | k + 1 => fun x1 x2 G =>
    if (35 : Int32) ≤ x2 then
      exc 3 G
    else
      (D_Cargo_isTaken kk 0 x2 G).bind (fun r => oI r (fun v4 G1 =>
      if v4 = 0 then
        (L_PB_pillowByTurn kk k) x1 (x2 + (1 : Int32)) G1
      else
        (D_PB_countEarlierTurns kk x2 G1).bind (fun r => oI r (fun v8 G5 =>
        if v8 = x1 then
          (D_Cargo_numberIn kk 0 x2 G5).bind (fun r => oI r (fun v12 G9 =>
          okI v12 G9) exc)
        else
          (L_PB_pillowByTurn kk k) x1 (x2 + (1 : Int32)) G5) exc)) exc)
def D_PB_pillowByTurn (kk : Nat) (a0 : Int32) (G : GS) : Res :=
  (L_PB_pillowByTurn kk (Nat.min kk 40)) a0 (0 : Int32) G
def L_PB_countHeavierBays (kk : Nat) : Nat → Int32 → Int32 → Int32 → Int32 → GS → Res
  | 0 => fun _ _ _ _ _ => none
  | k + 1 => fun x1 x2 x3 x4 G =>
    if (7 : Int32) ≤ x4 then
      okI x3 G
    else
      (D_Cargo_weightOfBay kk 0 x4 G).bind (fun r => oI r (fun v8 G5 =>
      if x2 < v8 then
        (L_PB_countHeavierBays kk k) x1 x2 (x3 + (1 : Int32)) (x4 + (1 : Int32)) G5
      else
        if v8 = x2 then
          if x1 ≤ x4 then
            (L_PB_countHeavierBays kk k) x1 x2 x3 (x4 + (1 : Int32)) G5
          else
            (L_PB_countHeavierBays kk k) x1 x2 (x3 + (1 : Int32)) (x4 + (1 : Int32)) G5
        else
          (L_PB_countHeavierBays kk k) x1 x2 x3 (x4 + (1 : Int32)) G5) exc)
def D_PB_countHeavierBays (kk : Nat) (a0 : Int32) (G : GS) : Res :=
  (D_Cargo_weightOfBay kk 0 a0 G).bind (fun r => oI r (fun v4 G1 =>
  (L_PB_countHeavierBays kk kk) a0 v4 (0 : Int32) (0 : Int32) G1) exc)
def L_PB_bayByWeight (kk : Nat) : Nat → Int32 → Int32 → GS → Res
  | 0 => fun _ _ _ => none
  | k + 1 => fun x1 x2 G =>
    if (7 : Int32) ≤ x2 then
      exc 3 G
    else
      (D_PB_countHeavierBays kk x2 G).bind (fun r => oI r (fun v4 G1 =>
      if v4 = x1 then
        okI x2 G1
      else
        (L_PB_bayByWeight kk k) x1 (x2 + (1 : Int32)) G1) exc)
def D_PB_bayByWeight (kk : Nat) (a0 : Int32) (G : GS) : Res :=
  (L_PB_bayByWeight kk (Nat.min kk 10)) a0 (0 : Int32) G
def D_PB_loadedTotal (kk : Nat) (G : GS) : Res :=
  okI (gi G (0, 4) 0) G
def D_PB_deliveredTotal (kk : Nat) (G : GS) : Res :=
  okI (gi G (0, 4) 1) G
def D_PB_deliveredWeight (kk : Nat) (G : GS) : Res :=
  okI (gi G (0, 4) 2) G
def D_PB_drillTotal (kk : Nat) (G : GS) : Res :=
  okI (gi G (0, 4) 3) G
def D_PB_capsizedTotal (kk : Nat) (G : GS) : Res :=
  okI (gi G (0, 4) 4) G
def L_PB_sumOfAges (kk : Nat) : Nat → Int32 → Int32 → GS → Res
  | 0 => fun _ _ _ => none
  | k + 1 => fun x1 x2 G =>
    if (35 : Int32) ≤ x2 then
      okI x1 G
    else
      (D_Cargo_isTaken kk 0 x2 G).bind (fun r => oI r (fun v4 G1 =>
      if v4 = 0 then
        (L_PB_sumOfAges kk k) x1 (x2 + (1 : Int32)) G1
      else
        (D_State_ageIn kk 0 x2 G1).bind (fun r => oI r (fun v8 G5 =>
        (L_PB_sumOfAges kk k) (x1 + v8) (x2 + (1 : Int32)) G5) exc)) exc)
def D_PB_sumOfAges (kk : Nat) (G : GS) : Res :=
  (L_PB_sumOfAges kk kk) (0 : Int32) (0 : Int32) G
def D_PB_meanAge (kk : Nat) (G : GS) : Res :=
  (D_Cargo_countPillows kk 0 G).bind (fun r => oI r (fun v4 G1 =>
  if v4 = 0 then
    exc 6 G1
  else
    (D_PB_sumOfAges kk G1).bind (fun r => oI r (fun v8 G5 =>
    if (FP.ddiv (FP.i2d v8) (FP.i2d v4)) &&& 0x7fffffffffffffff ≤ 0x7ff0000000000000 then
    okD (FP.ddiv (FP.i2d v8) (FP.i2d v4)) G5
    else none) exc)) exc)
def D_PB_capsizedShare (kk : Nat) (G : GS) : Res :=
  if (gi G (0, 4) 3) = 0 then
    exc 6 G
  else
    if (FP.fdiv (FP.i2f (gi G (0, 4) 4)) (FP.i2f (gi G (0, 4) 3))) &&& 0x7fffffff ≤ 0x7f800000 then
    okF (FP.fdiv (FP.i2f (gi G (0, 4) 4)) (FP.i2f (gi G (0, 4) 3))) G
    else none
def D_PB_isConsistent (kk : Nat) (G : GS) : Res :=
  (D_Cargo_momentOfPillows kk 0 G).bind (fun r => oI r (fun v4 G1 =>
  (D_Cargo_momentOfBays kk 0 G1).bind (fun r => oI r (fun v8 G5 =>
  if v4 = v8 then
    (D_PB_countPairs kk G5).bind (fun r => oI r (fun v12 G9 =>
    (D_PB_countPairsByStacks kk G9).bind (fun r => oI r (fun v16 G13 =>
    if v12 = v16 then
      (D_State_isWithinLimit kk 0 v4 G13).bind (fun r => oI r (fun v20 G17 =>
      if v20 = 0 then
        okI (0 : Int32) G17
      else
        (D_Cargo_countPillows kk 0 G17).bind (fun r => oI r (fun v24 G21 =>
        if (gi G17 (0, 4) 0) = ((gi G17 (0, 4) 1) + v24) then
          okI (1 : Int32) G21
        else
          okI (0 : Int32) G21) exc)) exc)
    else
      okI (0 : Int32) G13) exc)) exc)
  else
    okI (0 : Int32) G5) exc)) exc)
def D_PB_separate (kk : Nat) (G : GS) : Res :=
  (D_blen G).bind (fun r => oI r (fun v4 G1 =>
  if v4 ≤ 0 then
    okV G1
  else
    (D_bapc (32 : Int32) G1).bind (fun r => oR 16 r (fun q8 G5 =>
      okV G5) exc)) exc)
def D_PB_renderPillow (kk : Nat) (a0 : Int32) (G : GS) : Res :=
  (D_Cargo_numberIn kk 0 a0 G).bind (fun r => oI r (fun v4 G1 =>
  (D_bapi v4 G1).bind (fun r => oR 16 r (fun q8 G5 =>
    (D_bapc (119 : Int32) G5).bind (fun r => oR 16 r (fun q12 G9 =>
      (D_Cargo_weightIn kk 0 a0 G9).bind (fun r => oI r (fun v16 G13 =>
      (D_bapi v16 G13).bind (fun r => oR 16 r (fun q20 G17 =>
        (D_bapc (112 : Int32) G17).bind (fun r => oR 16 r (fun q24 G21 =>
          (D_Cargo_destinationIn kk 0 a0 G21).bind (fun r => oI r (fun v28 G25 =>
          (D_bapi v28 G25).bind (fun r => oR 16 r (fun q32 G29 =>
            okV G29) exc)) exc)) exc)) exc)) exc)) exc)) exc)) exc)
def L_PB_renderStack (kk : Nat) : Nat → Int32 → Int32 → GS → Res
  | 0 => fun _ _ _ => none
  | k + 1 => fun x1 x2 G =>
    if (5 : Int32) ≤ x2 then
      (D_blen G).bind (fun r => oI r (fun v10 G7 =>
      okI v10 G7) exc)
    else
      (D_Cargo_slotAt kk 0 x1 x2 G).bind (fun r => oI r (fun v14 G11 =>
      (D_PB_isSlot kk v14 G11).bind (fun r => oI r (fun v18 G15 =>
      if v18 = 0 then
        (L_PB_renderStack kk k) x1 (x2 + (1 : Int32)) G15
      else
        (D_PB_separate kk G15).bind (fun r => oV r (fun G19 =>
        (D_PB_renderPillow kk v14 G19).bind (fun r => oV r (fun G22 =>
        (L_PB_renderStack kk k) x1 (x2 + (1 : Int32)) G22) exc)) exc)) exc)) exc)
def D_PB_renderStack (kk : Nat) (a0 : Int32) (G : GS) : Res :=
  (D_PB_requireBay kk a0 G).bind (fun r => oV r (fun G1 =>
  (D_bset (0 : Int32) G1).bind (fun r => oV r (fun G4 =>
  (L_PB_renderStack kk (Nat.min kk 14)) a0 (0 : Int32) G4) exc)) exc)
def L_PB_renderBarge (kk : Nat) : Nat → Int32 → GS → Res
  | 0 => fun _ _ => none
  | k + 1 => fun x1 G =>
    if (7 : Int32) ≤ x1 then
      (D_bapc (61 : Int32) G).bind (fun r => oR 16 r (fun q7 G4 =>
        (D_Cargo_momentOfPillows kk 0 G4).bind (fun r => oI r (fun v11 G8 =>
        (D_bapi v11 G8).bind (fun r => oR 16 r (fun q15 G12 =>
          (D_blen G12).bind (fun r => oI r (fun v19 G16 =>
          okI v19 G16) exc)) exc)) exc)) exc)
    else
      (D_PB_separate kk G).bind (fun r => oV r (fun G20 =>
      (D_Cargo_weightOfBay kk 0 x1 G20).bind (fun r => oI r (fun v26 G23 =>
      (D_bapi v26 G23).bind (fun r => oR 16 r (fun q30 G27 =>
        (L_PB_renderBarge kk k) (x1 + (1 : Int32)) G27) exc)) exc)) exc)
def D_PB_renderBarge (kk : Nat) (G : GS) : Res :=
  (D_bset (0 : Int32) G).bind (fun r => oV r (fun G1 =>
  (L_PB_renderBarge kk (Nat.min kk 10)) (0 : Int32) G1) exc)
def D_PB_outputAt (kk : Nat) (a0 : Int32) (G : GS) : Res :=
  if a0 < 0 then
    exc 1 G
  else
    (D_blen G).bind (fun r => oI r (fun v4 G1 =>
    if a0 < v4 then
      (D_bat a0 G1).bind (fun r => oI r (fun v8 G5 =>
      okI v8 G5) exc)
    else
      exc 1 G1) exc)
def D_PB_type (kk : Nat) (a0 : Int32) (G : GS) : Res :=
  if a0 < (32 : Int32) then
    exc 2 G
  else
    if a0 ≤ (126 : Int32) then
      (D_Script_isFull kk G).bind (fun r => oI r (fun v4 G1 =>
      if v4 = 0 then
        (D_Script_append kk a0 G1).bind (fun r => oV r (fun G5 =>
        okI (gi G5 (0, 12) 3) G5) exc)
      else
        exc 4 G1) exc)
    else
      exc 2 G
def L_PB_performCommands (kk : Nat) : Nat → Int32 → GS → Res
  | 0 => fun _ _ => none
  | k + 1 => fun x1 G =>
    if (gi G (0, 12) 4) ≤ x1 then
      okI (-1 : Int32) G
    else
      (D_Script_commandAt kk x1 G).bind (fun r => oI r (fun v4 G1 =>
      (D_Script_argumentAt kk x1 (0 : Int32) G1).bind (fun r => oI r (fun v8 G5 =>
      (D_Script_argumentAt kk x1 (1 : Int32) G5).bind (fun r => oI r (fun v12 G9 =>
      (D_Script_argumentAt kk x1 (2 : Int32) G9).bind (fun r => oI r (fun v16 G13 =>
      (D_State_faultOf kk 0 v4 v8 v12 v16 G13).bind (fun r => oI r (fun v20 G17 =>
      if v20 = 0 then
        (D_State_perform kk 0 v4 v8 v12 v16 G17).bind (fun r => oI r (fun v24 G21 =>
        (L_PB_performCommands kk k) (x1 + (1 : Int32)) G21) exc)
      else
        okI x1 G17) exc)) exc)) exc)) exc)) exc)
def D_PB_performCommands (kk : Nat) (G : GS) : Res :=
  (L_PB_performCommands kk kk) (0 : Int32) G
def D_PB_runScript (kk : Nat) (G : GS) : Res :=
  (D_Script_parse kk G).bind (fun r => oI r (fun v4 G1 =>
  (D_Script_empty kk G1).bind (fun r => oV r (fun G5 =>
  if v4 = 0 then
    exc 2 (si G5 (0, 0) 5 (gi G5 (0, 12) 5))
  else
    (D_History_draft kk 0 G5).bind (fun r => oV r (fun G8 =>
    (D_PB_performCommands kk G8).bind (fun r => oI r (fun v14 G11 =>
    if v14 = (-1 : Int32) then
      (D_History_keepDraft kk G11).bind (fun r => oV r (fun G15 =>
      okI (gi G15 (0, 12) 4) G15) exc)
    else
      (D_History_takeDraftBack kk 0 G11).bind (fun r => oV r (fun G18 =>
      exc 4 (si G18 (0, 0) 6 v14)) exc)) exc)) exc)) exc)) exc)
def D_PB_errorPosition (kk : Nat) (G : GS) : Res :=
  if (gi G (0, 0) 5) = (-1 : Int32) then
    exc 3 G
  else
    okI (gi G (0, 0) 5) G
def D_PB_failedCommand (kk : Nat) (G : GS) : Res :=
  if (gi G (0, 0) 6) = (-1 : Int32) then
    exc 3 G
  else
    okI (gi G (0, 0) 6) G
def D_PB_undo (kk : Nat) (G : GS) : Res :=
  if (gi G (0, 10) 2) = 0 then
    exc 3 G
  else
    (D_History_takeLatestBack kk 0 G).bind (fun r => oV r (fun G1 =>
    okI (gi G1 (0, 10) 2) G1) exc)
def D_PB_save (kk : Nat) (G : GS) : Res :=
  (D_State_copyFrom kk 1 0 G).bind (fun r => oV r (fun G1 =>
  (D_Cargo_countPillows kk 0 (si G1 (0, 0) 3 (1 : Int32))).bind (fun r => oI r (fun v7 G4 =>
  okI v7 G4) exc)) exc)
def D_PB_restore (kk : Nat) (G : GS) : Res :=
  if (gi G (0, 0) 3) = 0 then
    exc 4 G
  else
    (D_State_copyFrom kk 0 1 G).bind (fun r => oV r (fun G1 =>
    (D_History_forget kk G1).bind (fun r => oV r (fun G4 =>
    (D_Cargo_countPillows kk 0 G4).bind (fun r => oI r (fun v10 G7 =>
    okI v10 G7) exc)) exc)) exc)
end
section
/-! Every method as a function (printed by gen/emit.py from the class files). -/
def D_Mo_thrown (kk : Nat) (G : GS) : Res :=
  okI (gi G (0, 50) 0) G
def D_Mo_fails (kk : Nat) (a0 : Int32) (G : GS) : Res :=
  okI (0 : Int32) (si G (0, 50) 0 a0)
def D_Mo_isBetween (kk : Nat) (a0 : Int32) (a1 : Int32) (a2 : Int32) (G : GS) : Res :=
  if a0 < a1 then
    okI (0 : Int32) G
  else
    if a2 < a0 then
      okI (0 : Int32) G
    else
      okI (1 : Int32) G
def L_Mo_copies (kk : Nat) : Nat → Int32 → GS → Res
  | 0 => fun _ _ => none
  | k + 1 => fun x1 G =>
    if (156 : Int32) ≤ x1 then
      okV G
    else
      bif inb x1 156 then
      bif inb x1 156 then
      (L_Mo_copies kk k) (x1 + (1 : Int32)) (sa G (0, 54) x1.toNatClampNeg (ga G (0, 51) x1.toNatClampNeg))
      else none
      else none
def D_Mo_copies (kk : Nat) (G : GS) : Res :=
  (L_Mo_copies kk kk) (0 : Int32) G
def L_Mo_goesBack (kk : Nat) : Nat → Int32 → GS → Res
  | 0 => fun _ _ => none
  | k + 1 => fun x1 G =>
    if (156 : Int32) ≤ x1 then
      okV G
    else
      bif inb x1 156 then
      bif inb x1 156 then
      (L_Mo_goesBack kk k) (x1 + (1 : Int32)) (sa G (0, 51) x1.toNatClampNeg (ga G (0, 54) x1.toNatClampNeg))
      else none
      else none
def D_Mo_goesBack (kk : Nat) (G : GS) : Res :=
  (L_Mo_goesBack kk kk) (0 : Int32) G
def L_Mo_keeps (kk : Nat) : Nat → Int32 → Int32 → GS → Res
  | 0 => fun _ _ _ => none
  | k + 1 => fun x1 x2 G =>
    if (156 : Int32) ≤ x2 then
      okV (si G (0, 50) 5 ((gi G (0, 50) 5) + (1 : Int32)))
    else
      bif inb x2 156 then
      bif inb (((156 : Int32) * x1) + x2) 1248 then
      (L_Mo_keeps kk k) x1 (x2 + (1 : Int32)) (sa G (0, 52) (((156 : Int32) * x1) + x2).toNatClampNeg (ga G (0, 54) x2.toNatClampNeg))
      else none
      else none
def D_Mo_keeps (kk : Nat) (G : GS) : Res :=
  if (gi G (0, 50) 5) = (8 : Int32) then
    (L_Mo_keeps kk kk) (((gi (si (si G (0, 50) 6 (((gi G (0, 50) 6) + (1 : Int32)) - ((gi G (0, 50) 6) + (1 : Int32)) / (8 : Int32) * (8 : Int32))) (0, 50) 5 ((gi (si G (0, 50) 6 (((gi G (0, 50) 6) + (1 : Int32)) - ((gi G (0, 50) 6) + (1 : Int32)) / (8 : Int32) * (8 : Int32))) (0, 50) 5) - (1 : Int32))) (0, 50) 6) + (gi (si (si G (0, 50) 6 (((gi G (0, 50) 6) + (1 : Int32)) - ((gi G (0, 50) 6) + (1 : Int32)) / (8 : Int32) * (8 : Int32))) (0, 50) 5 ((gi (si G (0, 50) 6 (((gi G (0, 50) 6) + (1 : Int32)) - ((gi G (0, 50) 6) + (1 : Int32)) / (8 : Int32) * (8 : Int32))) (0, 50) 5) - (1 : Int32))) (0, 50) 5)) - ((gi (si (si G (0, 50) 6 (((gi G (0, 50) 6) + (1 : Int32)) - ((gi G (0, 50) 6) + (1 : Int32)) / (8 : Int32) * (8 : Int32))) (0, 50) 5 ((gi (si G (0, 50) 6 (((gi G (0, 50) 6) + (1 : Int32)) - ((gi G (0, 50) 6) + (1 : Int32)) / (8 : Int32) * (8 : Int32))) (0, 50) 5) - (1 : Int32))) (0, 50) 6) + (gi (si (si G (0, 50) 6 (((gi G (0, 50) 6) + (1 : Int32)) - ((gi G (0, 50) 6) + (1 : Int32)) / (8 : Int32) * (8 : Int32))) (0, 50) 5 ((gi (si G (0, 50) 6 (((gi G (0, 50) 6) + (1 : Int32)) - ((gi G (0, 50) 6) + (1 : Int32)) / (8 : Int32) * (8 : Int32))) (0, 50) 5) - (1 : Int32))) (0, 50) 5)) / (8 : Int32) * (8 : Int32)) (0 : Int32) (si (si G (0, 50) 6 (((gi G (0, 50) 6) + (1 : Int32)) - ((gi G (0, 50) 6) + (1 : Int32)) / (8 : Int32) * (8 : Int32))) (0, 50) 5 ((gi (si G (0, 50) 6 (((gi G (0, 50) 6) + (1 : Int32)) - ((gi G (0, 50) 6) + (1 : Int32)) / (8 : Int32) * (8 : Int32))) (0, 50) 5) - (1 : Int32)))
  else
    (L_Mo_keeps kk kk) (((gi G (0, 50) 6) + (gi G (0, 50) 5)) - ((gi G (0, 50) 6) + (gi G (0, 50) 5)) / (8 : Int32) * (8 : Int32)) (0 : Int32) G
def D_Mo_remembers (kk : Nat) (G : GS) : Res :=
  (D_Mo_copies kk G).bind (fun r => oV r (fun G1 =>
  (D_Mo_keeps kk G1).bind (fun r => oV r (fun G4 =>
  okV G4) exc)) exc)
def D_Mo_isBay (kk : Nat) (a0 : Int32) (G : GS) : Res :=
  (D_Mo_isBetween kk a0 (0 : Int32) (6 : Int32) G).bind (fun r => oI r (fun v4 G1 =>
  okI v4 G1) exc)
def D_Mo_at (kk : Nat) (a0 : Int32) (a1 : Int32) (a2 : Int32) (G : GS) : Res :=
  bif inb ((((16 : Int32) + ((20 : Int32) * a0)) + ((4 : Int32) * a1)) + a2) 156 then
  okI (ga G (0, 51) ((((16 : Int32) + ((20 : Int32) * a0)) + ((4 : Int32) * a1)) + a2).toNatClampNeg) G
  else none
def D_Mo_puts (kk : Nat) (a0 : Int32) (a1 : Int32) (a2 : Int32) (a3 : Int32) (G : GS) : Res :=
  bif inb ((((16 : Int32) + ((20 : Int32) * a0)) + ((4 : Int32) * a1)) + a2) 156 then
  okV (sa G (0, 51) ((((16 : Int32) + ((20 : Int32) * a0)) + ((4 : Int32) * a1)) + a2).toNatClampNeg a3)
  else none
def D_Mo_top (kk : Nat) (a0 : Int32) (a1 : Int32) (G : GS) : Res :=
  bif inb ((9 : Int32) + a0) 156 then
  (D_Mo_at kk a0 ((ga G (0, 51) ((9 : Int32) + a0).toNatClampNeg) - (1 : Int32)) a1 G).bind (fun r => oI r (fun v4 G1 =>
  okI v4 G1) exc)
  else none
def L_Mo_weightOfBay (kk : Nat) : Nat → Int32 → Int32 → Int32 → GS → Res
  | 0 => fun _ _ _ _ => none
  | k + 1 => fun x1 x2 x3 G =>
    bif inb ((9 : Int32) + x1) 156 then
    if (ga G (0, 51) ((9 : Int32) + x1).toNatClampNeg) ≤ x3 then
      okI x2 G
    else
      (D_Mo_at kk x1 x3 (1 : Int32) G).bind (fun r => oI r (fun v4 G1 =>
      (L_Mo_weightOfBay kk k) x1 (x2 + v4) (x3 + (1 : Int32)) G1) exc)
    else none
def D_Mo_weightOfBay (kk : Nat) (a0 : Int32) (G : GS) : Res :=
  (L_Mo_weightOfBay kk kk) a0 (0 : Int32) (0 : Int32) G
def L_Mo_momentNow (kk : Nat) : Nat → Int32 → Int32 → GS → Res
  | 0 => fun _ _ _ => none
  | k + 1 => fun x1 x2 G =>
    if (7 : Int32) ≤ x2 then
      okI x1 G
    else
      (D_Mo_weightOfBay kk x2 G).bind (fun r => oI r (fun v4 G1 =>
      (L_Mo_momentNow kk k) (x1 + ((x2 - (3 : Int32)) * v4)) (x2 + (1 : Int32)) G1) exc)
def D_Mo_momentNow (kk : Nat) (G : GS) : Res :=
  (L_Mo_momentNow kk kk) (0 : Int32) (0 : Int32) G
def L_Mo_weightAll (kk : Nat) : Nat → Int32 → Int32 → GS → Res
  | 0 => fun _ _ _ => none
  | k + 1 => fun x1 x2 G =>
    if (7 : Int32) ≤ x2 then
      okI x1 G
    else
      (D_Mo_weightOfBay kk x2 G).bind (fun r => oI r (fun v4 G1 =>
      (L_Mo_weightAll kk k) (x1 + v4) (x2 + (1 : Int32)) G1) exc)
def D_Mo_weightAll (kk : Nat) (G : GS) : Res :=
  (L_Mo_weightAll kk kk) (0 : Int32) (0 : Int32) G
def L_Mo_countAll (kk : Nat) : Nat → Int32 → Int32 → GS → Res
  | 0 => fun _ _ _ => none
  | k + 1 => fun x1 x2 G =>
    if (7 : Int32) ≤ x2 then
      okI x1 G
    else
      bif inb ((9 : Int32) + x2) 156 then
      (L_Mo_countAll kk k) (x1 + (ga G (0, 51) ((9 : Int32) + x2).toNatClampNeg)) (x2 + (1 : Int32)) G
      else none
def D_Mo_countAll (kk : Nat) (G : GS) : Res :=
  (L_Mo_countAll kk kk) (0 : Int32) (0 : Int32) G
def D_Mo_isBeyond (kk : Nat) (a0 : Int32) (G : GS) : Res :=
  (D_Mo_momentNow kk G).bind (fun r => oI r (fun v4 G1 =>
  if (ga G1 (0, 51) 3) < (v4 + a0) then
    okI (1 : Int32) G1
  else
    if (-(v4 + a0)) ≤ (ga G1 (0, 51) 3) then
      okI (0 : Int32) G1
    else
      okI (1 : Int32) G1) exc)
def D_Mo_lever (kk : Nat) (a0 : Int32) (a1 : Int32) (G : GS) : Res :=
  okI ((a0 - (3 : Int32)) * a1) G
def D_Mo_lays (kk : Nat) (a0 : Int32) (a1 : Int32) (a2 : Int32) (a3 : Int32) (a4 : Int32) (G : GS) : Res :=
  bif inb ((9 : Int32) + a0) 156 then
  (D_Mo_puts kk a0 (ga G (0, 51) ((9 : Int32) + a0).toNatClampNeg) (0 : Int32) a1 G).bind (fun r => oV r (fun G1 =>
  (D_Mo_puts kk a0 (ga G (0, 51) ((9 : Int32) + a0).toNatClampNeg) (1 : Int32) a2 G1).bind (fun r => oV r (fun G4 =>
  (D_Mo_puts kk a0 (ga G (0, 51) ((9 : Int32) + a0).toNatClampNeg) (2 : Int32) a3 G4).bind (fun r => oV r (fun G7 =>
  (D_Mo_puts kk a0 (ga G (0, 51) ((9 : Int32) + a0).toNatClampNeg) (3 : Int32) a4 G7).bind (fun r => oV r (fun G10 =>
  bif inb ((9 : Int32) + a0) 156 then
  bif inb ((9 : Int32) + a0) 156 then
  okV (sa G10 (0, 51) ((9 : Int32) + a0).toNatClampNeg ((ga G10 (0, 51) ((9 : Int32) + a0).toNatClampNeg) + (1 : Int32)))
  else none
  else none) exc)) exc)) exc)) exc)
  else none
def L_Mo_takes (kk : Nat) : Nat → Int32 → Int32 → GS → Res
  | 0 => fun _ _ _ => none
  | k + 1 => fun x1 x2 G =>
    if (4 : Int32) ≤ x2 then
      okV G
    else
      bif inb ((9 : Int32) + x1) 156 then
      (D_Mo_puts kk x1 (ga G (0, 51) ((9 : Int32) + x1).toNatClampNeg) x2 (0 : Int32) G).bind (fun r => oV r (fun G1 =>
      (L_Mo_takes kk k) x1 (x2 + (1 : Int32)) G1) exc)
      else none
def D_Mo_takes (kk : Nat) (a0 : Int32) (G : GS) : Res :=
  bif inb ((9 : Int32) + a0) 156 then
  bif inb ((9 : Int32) + a0) 156 then
  (L_Mo_takes kk kk) a0 (0 : Int32) (sa G (0, 51) ((9 : Int32) + a0).toNatClampNeg ((ga G (0, 51) ((9 : Int32) + a0).toNatClampNeg) - (1 : Int32)))
  else none
  else none
def D_Mo_notLoad (kk : Nat) (a0 : Int32) (a1 : Int32) (a2 : Int32) (G : GS) : Res :=
  (D_Mo_isBay kk a0 G).bind (fun r => oI r (fun v4 G1 =>
  if v4 = 0 then
    okI (1 : Int32) G1
  else
    (D_Mo_isBetween kk a1 (1 : Int32) (20 : Int32) G1).bind (fun r => oI r (fun v8 G5 =>
    if v8 = 0 then
      okI (2 : Int32) G5
    else
      (D_Mo_isBetween kk a2 (0 : Int32) (4 : Int32) G5).bind (fun r => oI r (fun v12 G9 =>
      if v12 = 0 then
        okI (2 : Int32) G9
      else
        bif inb ((9 : Int32) + a0) 156 then
        if (ga G9 (0, 51) ((9 : Int32) + a0).toNatClampNeg) = (5 : Int32) then
          okI (3 : Int32) G9
        else
          (D_Mo_lever kk a0 a1 G9).bind (fun r => oI r (fun v16 G13 =>
          (D_Mo_isBeyond kk v16 G13).bind (fun r => oI r (fun v20 G17 =>
          if v20 = 0 then
            okI (0 : Int32) G17
          else
            okI (4 : Int32) G17) exc)) exc)
        else none) exc)) exc)) exc)
def D_Mo_loads (kk : Nat) (a0 : Int32) (a1 : Int32) (a2 : Int32) (G : GS) : Res :=
  (D_Mo_lays kk a0 (ga G (0, 51) 4) a1 a2 (ga G (0, 51) 0) G).bind (fun r => oV r (fun G1 =>
  okI ((ga (sa G1 (0, 51) 4 ((ga G1 (0, 51) 4) + (1 : Int32))) (0, 51) 4) - (1 : Int32)) (sa G1 (0, 51) 4 ((ga G1 (0, 51) 4) + (1 : Int32)))) exc)
def D_Mo_load (kk : Nat) (a0 : Int32) (a1 : Int32) (a2 : Int32) (G : GS) : Res :=
  (D_Mo_notLoad kk a0 a1 a2 (si G (0, 50) 0 (0 : Int32))).bind (fun r => oI r (fun v4 G1 =>
  if v4 = 0 then
    (D_Mo_remembers kk G1).bind (fun r => oV r (fun G5 =>
    (D_Mo_loads kk a0 a1 a2 G5).bind (fun r => oI r (fun v11 G8 =>
    okI v11 G8) exc)) exc)
  else
    (D_Mo_fails kk v4 G1).bind (fun r => oI r (fun v15 G12 =>
    okI v15 G12) exc)) exc)
def D_Mo_notUnload (kk : Nat) (a0 : Int32) (G : GS) : Res :=
  (D_Mo_isBay kk a0 G).bind (fun r => oI r (fun v4 G1 =>
  if v4 = 0 then
    okI (1 : Int32) G1
  else
    bif inb ((9 : Int32) + a0) 156 then
    if (ga G1 (0, 51) ((9 : Int32) + a0).toNatClampNeg) = 0 then
      okI (2 : Int32) G1
    else
      (D_Mo_top kk a0 (2 : Int32) G1).bind (fun r => oI r (fun v8 G5 =>
      if v8 = (ga G5 (0, 51) 1) then
        (D_Mo_top kk a0 (1 : Int32) G5).bind (fun r => oI r (fun v12 G9 =>
        (D_Mo_lever kk a0 v12 G9).bind (fun r => oI r (fun v16 G13 =>
        (D_Mo_isBeyond kk (-v16) G13).bind (fun r => oI r (fun v20 G17 =>
        if v20 = 0 then
          okI (0 : Int32) G17
        else
          okI (4 : Int32) G17) exc)) exc)) exc)
      else
        okI (3 : Int32) G5) exc)
    else none) exc)
def D_Mo_unloads (kk : Nat) (a0 : Int32) (G : GS) : Res :=
  (D_Mo_top kk a0 (0 : Int32) G).bind (fun r => oI r (fun v4 G1 =>
  (D_Mo_top kk a0 (1 : Int32) (sa G1 (0, 51) 5 ((ga G1 (0, 51) 5) + (1 : Int32)))).bind (fun r => oI r (fun v8 G5 =>
  (D_Mo_takes kk a0 (sa G5 (0, 51) 6 ((ga (sa G1 (0, 51) 5 ((ga G1 (0, 51) 5) + (1 : Int32))) (0, 51) 6) + v8))).bind (fun r => oV r (fun G9 =>
  okI v4 G9) exc)) exc)) exc)
def D_Mo_unload (kk : Nat) (a0 : Int32) (G : GS) : Res :=
  (D_Mo_notUnload kk a0 (si G (0, 50) 0 (0 : Int32))).bind (fun r => oI r (fun v4 G1 =>
  if v4 = 0 then
    (D_Mo_remembers kk G1).bind (fun r => oV r (fun G5 =>
    (D_Mo_unloads kk a0 G5).bind (fun r => oI r (fun v11 G8 =>
    okI v11 G8) exc)) exc)
  else
    (D_Mo_fails kk v4 G1).bind (fun r => oI r (fun v15 G12 =>
    okI v15 G12) exc)) exc)
def D_Mo_notShift (kk : Nat) (a0 : Int32) (a1 : Int32) (G : GS) : Res :=
  (D_Mo_isBay kk a0 G).bind (fun r => oI r (fun v4 G1 =>
  if v4 = 0 then
    okI (1 : Int32) G1
  else
    (D_Mo_isBay kk a1 G1).bind (fun r => oI r (fun v8 G5 =>
    if v8 = 0 then
      okI (1 : Int32) G5
    else
      if a0 = a1 then
        okI (2 : Int32) G5
      else
        bif inb ((9 : Int32) + a0) 156 then
        if (ga G5 (0, 51) ((9 : Int32) + a0).toNatClampNeg) = 0 then
          okI (3 : Int32) G5
        else
          bif inb ((9 : Int32) + a1) 156 then
          if (ga G5 (0, 51) ((9 : Int32) + a1).toNatClampNeg) = (5 : Int32) then
            okI (4 : Int32) G5
          else
            (D_Mo_top kk a0 (1 : Int32) G5).bind (fun r => oI r (fun v12 G9 =>
            (D_Mo_lever kk a1 v12 G9).bind (fun r => oI r (fun v16 G13 =>
            (D_Mo_lever kk a0 v12 G13).bind (fun r => oI r (fun v20 G17 =>
            (D_Mo_isBeyond kk (v16 - v20) G17).bind (fun r => oI r (fun v24 G21 =>
            if v24 = 0 then
              okI (0 : Int32) G21
            else
              okI (5 : Int32) G21) exc)) exc)) exc)) exc)
          else none
        else none) exc)) exc)
def D_Mo_shifts (kk : Nat) (a0 : Int32) (a1 : Int32) (G : GS) : Res :=
  (D_Mo_top kk a0 (0 : Int32) G).bind (fun r => oI r (fun v4 G1 =>
  (D_Mo_top kk a0 (1 : Int32) G1).bind (fun r => oI r (fun v8 G5 =>
  (D_Mo_top kk a0 (2 : Int32) G5).bind (fun r => oI r (fun v12 G9 =>
  (D_Mo_top kk a0 (3 : Int32) G9).bind (fun r => oI r (fun v16 G13 =>
  (D_Mo_lays kk a1 v4 v8 v12 v16 G13).bind (fun r => oV r (fun G17 =>
  (D_Mo_takes kk a0 G17).bind (fun r => oV r (fun G20 =>
  okI v4 G20) exc)) exc)) exc)) exc)) exc)) exc)
def D_Mo_shift (kk : Nat) (a0 : Int32) (a1 : Int32) (G : GS) : Res :=
  (D_Mo_notShift kk a0 a1 (si G (0, 50) 0 (0 : Int32))).bind (fun r => oI r (fun v4 G1 =>
  if v4 = 0 then
    (D_Mo_remembers kk G1).bind (fun r => oV r (fun G5 =>
    (D_Mo_shifts kk a0 a1 G5).bind (fun r => oI r (fun v11 G8 =>
    okI v11 G8) exc)) exc)
  else
    (D_Mo_fails kk v4 G1).bind (fun r => oI r (fun v15 G12 =>
    okI v15 G12) exc)) exc)
def D_Mo_portBehind (kk : Nat) (a0 : Int32) (G : GS) : Res :=
  if (ga G (0, 51) 2) = (1 : Int32) then
    okI (((ga G (0, 51) 1) + ((4 : Int32) * a0)) - ((ga G (0, 51) 1) + ((4 : Int32) * a0)) / (5 : Int32) * (5 : Int32)) G
  else
    okI (((ga G (0, 51) 1) + ((1 : Int32) * a0)) - ((ga G (0, 51) 1) + ((1 : Int32) * a0)) / (5 : Int32) * (5 : Int32)) G
def D_Mo_notSail (kk : Nat) (a0 : Int32) (G : GS) : Res :=
  (D_Mo_isBetween kk a0 (1 : Int32) (20 : Int32) G).bind (fun r => oI r (fun v4 G1 =>
  if v4 = 0 then
    okI (1 : Int32) G1
  else
    okI (0 : Int32) G1) exc)
def D_Mo_sails (kk : Nat) (a0 : Int32) (G : GS) : Res :=
  (D_Mo_portBehind kk a0 G).bind (fun r => oI r (fun v4 G1 =>
  okI (ga (sa (sa G1 (0, 51) 1 v4) (0, 51) 0 ((ga (sa G1 (0, 51) 1 v4) (0, 51) 0) + a0)) (0, 51) 1) (sa (sa G1 (0, 51) 1 v4) (0, 51) 0 ((ga (sa G1 (0, 51) 1 v4) (0, 51) 0) + a0))) exc)
def D_Mo_sail (kk : Nat) (a0 : Int32) (G : GS) : Res :=
  (D_Mo_notSail kk a0 (si G (0, 50) 0 (0 : Int32))).bind (fun r => oI r (fun v4 G1 =>
  if v4 = 0 then
    (D_Mo_remembers kk G1).bind (fun r => oV r (fun G5 =>
    (D_Mo_sails kk a0 G5).bind (fun r => oI r (fun v11 G8 =>
    okI v11 G8) exc)) exc)
  else
    (D_Mo_fails kk (1 : Int32) G1).bind (fun r => oI r (fun v15 G12 =>
    okI v15 G12) exc)) exc)
def D_Mo_turns (kk : Nat) (G : GS) : Res :=
  okI (ga (sa G (0, 51) 2 ((1 : Int32) - (ga G (0, 51) 2))) (0, 51) 2) (sa G (0, 51) 2 ((1 : Int32) - (ga G (0, 51) 2)))
def D_Mo_turn (kk : Nat) (G : GS) : Res :=
  (D_Mo_remembers kk (si G (0, 50) 0 (0 : Int32))).bind (fun r => oV r (fun G1 =>
  (D_Mo_turns kk G1).bind (fun r => oI r (fun v7 G4 =>
  if v7 = 0 then
    okI (1 : Int32) G4
  else
    okI (0 : Int32) G4) exc)) exc)
def D_Mo_notLimit (kk : Nat) (a0 : Int32) (G : GS) : Res :=
  (D_Mo_isBetween kk a0 (10 : Int32) (99 : Int32) G).bind (fun r => oI r (fun v4 G1 =>
  if v4 = 0 then
    okI (1 : Int32) G1
  else
    (D_Mo_momentNow kk G1).bind (fun r => oI r (fun v8 G5 =>
    if a0 < v8 then
      okI (2 : Int32) G5
    else
      if (-v8) ≤ a0 then
        okI (0 : Int32) G5
      else
        okI (2 : Int32) G5) exc)) exc)
def D_Mo_setsLimit (kk : Nat) (a0 : Int32) (G : GS) : Res :=
  okI (ga G (0, 51) 3) (sa G (0, 51) 3 a0)
def D_Mo_setLimit (kk : Nat) (a0 : Int32) (G : GS) : Res :=
  (D_Mo_notLimit kk a0 (si G (0, 50) 0 (0 : Int32))).bind (fun r => oI r (fun v4 G1 =>
  if v4 = 0 then
    (D_Mo_remembers kk G1).bind (fun r => oV r (fun G5 =>
    (D_Mo_setsLimit kk a0 G5).bind (fun r => oI r (fun v11 G8 =>
    okI v11 G8) exc)) exc)
  else
    (D_Mo_fails kk v4 G1).bind (fun r => oI r (fun v15 G12 =>
    okI v15 G12) exc)) exc)
def D_Mo_notDrill (kk : Nat) (a0 : Int32) (G : GS) : Res :=
  (D_Mo_isBetween kk a0 (-99 : Int32) (99 : Int32) G).bind (fun r => oI r (fun v4 G1 =>
  if v4 = 0 then
    okI (1 : Int32) G1
  else
    okI (0 : Int32) G1) exc)
def D_Mo_drills (kk : Nat) (a0 : Int32) (G : GS) : Res :=
  (D_Mo_isBeyond kk a0 (sa G (0, 51) 7 ((ga G (0, 51) 7) + (1 : Int32)))).bind (fun r => oI r (fun v4 G1 =>
  if v4 = 0 then
    okI (0 : Int32) (sa G1 (0, 51) 8 ((ga G1 (0, 51) 8) + (0 : Int32)))
  else
    okI (1 : Int32) (sa G1 (0, 51) 8 ((ga G1 (0, 51) 8) + (1 : Int32)))) exc)
def D_Mo_drill (kk : Nat) (a0 : Int32) (G : GS) : Res :=
  (D_Mo_notDrill kk a0 (si G (0, 50) 0 (0 : Int32))).bind (fun r => oI r (fun v4 G1 =>
  if v4 = 0 then
    (D_Mo_remembers kk G1).bind (fun r => oV r (fun G5 =>
    (D_Mo_drills kk a0 G5).bind (fun r => oI r (fun v11 G8 =>
    if v11 = (1 : Int32) then
      okI (1 : Int32) G8
    else
      okI (0 : Int32) G8) exc)) exc)
  else
    (D_Mo_fails kk (1 : Int32) G1).bind (fun r => oI r (fun v15 G12 =>
    if v15 ≤ 0 then
      okI (0 : Int32) G12
    else
      okI (1 : Int32) G12) exc)) exc)
def D_Mo_pillowCount (kk : Nat) (G : GS) : Res :=
  (D_Mo_countAll kk (si G (0, 50) 0 (0 : Int32))).bind (fun r => oI r (fun v4 G1 =>
  okI v4 G1) exc)
def D_Mo_stackHeight (kk : Nat) (a0 : Int32) (G : GS) : Res :=
  (D_Mo_isBay kk a0 (si G (0, 50) 0 (0 : Int32))).bind (fun r => oI r (fun v4 G1 =>
  if v4 = 0 then
    (D_Mo_fails kk (1 : Int32) G1).bind (fun r => oI r (fun v8 G5 =>
    okI v8 G5) exc)
  else
    bif inb ((9 : Int32) + a0) 156 then
    okI (ga G1 (0, 51) ((9 : Int32) + a0).toNatClampNeg) G1
    else none) exc)
def D_Mo_pillowAt (kk : Nat) (a0 : Int32) (a1 : Int32) (G : GS) : Res :=
  (D_Mo_isBay kk a0 (si G (0, 50) 0 (0 : Int32))).bind (fun r => oI r (fun v4 G1 =>
  if v4 = 0 then
    (D_Mo_fails kk (1 : Int32) G1).bind (fun r => oI r (fun v20 G17 =>
    okI v20 G17) exc)
  else
    bif inb ((9 : Int32) + a0) 156 then
    (D_Mo_isBetween kk a1 (0 : Int32) ((ga G1 (0, 51) ((9 : Int32) + a0).toNatClampNeg) - (1 : Int32)) G1).bind (fun r => oI r (fun v8 G5 =>
    if v8 = 0 then
      (D_Mo_fails kk (2 : Int32) G5).bind (fun r => oI r (fun v12 G9 =>
      okI v12 G9) exc)
    else
      (D_Mo_at kk a0 a1 (0 : Int32) G5).bind (fun r => oI r (fun v16 G13 =>
      okI v16 G13) exc)) exc)
    else none) exc)
def L_Mo_placeOf (kk : Nat) : Nat → (Int32 → Int32 → GS → Res) × (Int32 → Int32 → Int32 → GS → Res)
  | 0 => (fun _ _ _ => none, fun _ _ _ _ => none)
  | k + 1 => (fun x1 x2 G =>
    if (7 : Int32) ≤ x2 then
      okI (-1 : Int32) G
    else
      (L_Mo_placeOf kk k).2 x1 x2 (0 : Int32) G,
    fun x1 x2 x3 G =>
    bif inb ((9 : Int32) + x2) 156 then
    if (ga G (0, 51) ((9 : Int32) + x2).toNatClampNeg) ≤ x3 then
      (L_Mo_placeOf kk k).1 x1 (x2 + (1 : Int32)) G
    else
      (D_Mo_at kk x2 x3 (0 : Int32) G).bind (fun r => oI r (fun v4 G1 =>
      if v4 = x1 then
        okI (((5 : Int32) * x2) + x3) G1
      else
        (L_Mo_placeOf kk k).2 x1 x2 (x3 + (1 : Int32)) G1) exc)
    else none)
def D_Mo_placeOf (kk : Nat) (a0 : Int32) (G : GS) : Res :=
  (L_Mo_placeOf kk kk).1 a0 (0 : Int32) G
def D_Mo_asks (kk : Nat) (a0 : Int32) (a1 : Int32) (G : GS) : Res :=
  (D_Mo_placeOf kk a0 (si G (0, 50) 0 (0 : Int32))).bind (fun r => oI r (fun v4 G1 =>
  if 0 ≤ v4 then
    (D_Mo_at kk (v4 / (5 : Int32)) (v4 - v4 / (5 : Int32) * (5 : Int32)) a1 G1).bind (fun r => oI r (fun v8 G5 =>
    okI v8 G5) exc)
  else
    (D_Mo_fails kk (1 : Int32) G1).bind (fun r => oI r (fun v12 G9 =>
    okI v12 G9) exc)) exc)
def D_Mo_weightOf (kk : Nat) (a0 : Int32) (G : GS) : Res :=
  (D_Mo_asks kk a0 (1 : Int32) G).bind (fun r => oI r (fun v4 G1 =>
  okI v4 G1) exc)
def D_Mo_destinationOf (kk : Nat) (a0 : Int32) (G : GS) : Res :=
  (D_Mo_asks kk a0 (2 : Int32) G).bind (fun r => oI r (fun v4 G1 =>
  okI v4 G1) exc)
def D_Mo_bayOf (kk : Nat) (a0 : Int32) (G : GS) : Res :=
  (D_Mo_placeOf kk a0 (si G (0, 50) 0 (0 : Int32))).bind (fun r => oI r (fun v4 G1 =>
  if 0 ≤ v4 then
    okI (v4 / (5 : Int32)) G1
  else
    (D_Mo_fails kk (1 : Int32) G1).bind (fun r => oI r (fun v8 G5 =>
    okI v8 G5) exc)) exc)
def D_Mo_positionOf (kk : Nat) (a0 : Int32) (G : GS) : Res :=
  (D_Mo_placeOf kk a0 (si G (0, 50) 0 (0 : Int32))).bind (fun r => oI r (fun v4 G1 =>
  if 0 ≤ v4 then
    okI (v4 - v4 / (5 : Int32) * (5 : Int32)) G1
  else
    (D_Mo_fails kk (1 : Int32) G1).bind (fun r => oI r (fun v8 G5 =>
    okI v8 G5) exc)) exc)
def D_Mo_ageOf (kk : Nat) (a0 : Int32) (G : GS) : Res :=
  (D_Mo_asks kk a0 (3 : Int32) G).bind (fun r => oI r (fun v4 G1 =>
  if (gi G1 (0, 50) 0) = 0 then
    okI ((ga G1 (0, 51) 0) - v4) G1
  else
    okI (0 : Int32) G1) exc)
def D_Mo_moment (kk : Nat) (G : GS) : Res :=
  (D_Mo_momentNow kk (si G (0, 50) 0 (0 : Int32))).bind (fun r => oI r (fun v4 G1 =>
  okI v4 G1) exc)
def D_Mo_momentByBays (kk : Nat) (G : GS) : Res :=
  (D_Mo_moment kk G).bind (fun r => oI r (fun v4 G1 =>
  okI v4 G1) exc)
def D_Mo_totalWeight (kk : Nat) (G : GS) : Res :=
  (D_Mo_weightAll kk (si G (0, 50) 0 (0 : Int32))).bind (fun r => oI r (fun v4 G1 =>
  okI v4 G1) exc)
def L_Mo_weightFor (kk : Nat) : Nat → (Int32 → Int32 → Int32 → GS → Res) × (Int32 → Int32 → Int32 → Int32 → GS → Res)
  | 0 => (fun _ _ _ _ => none, fun _ _ _ _ _ => none)
  | k + 1 => (fun x1 x2 x3 G =>
    if (7 : Int32) ≤ x3 then
      okI x2 G
    else
      (L_Mo_weightFor kk k).2 x1 x2 x3 (0 : Int32) G,
    fun x1 x2 x3 x4 G =>
    bif inb ((9 : Int32) + x3) 156 then
    if (ga G (0, 51) ((9 : Int32) + x3).toNatClampNeg) ≤ x4 then
      (L_Mo_weightFor kk k).1 x1 x2 (x3 + (1 : Int32)) G
    else
      (D_Mo_at kk x3 x4 (2 : Int32) G).bind (fun r => oI r (fun v12 G9 =>
      if v12 = x1 then
        (D_Mo_at kk x3 x4 (1 : Int32) G9).bind (fun r => oI r (fun v16 G13 =>
        (L_Mo_weightFor kk k).2 x1 (x2 + v16) x3 (x4 + (1 : Int32)) G13) exc)
      else
        (L_Mo_weightFor kk k).2 x1 (x2 + (0 : Int32)) x3 (x4 + (1 : Int32)) G9) exc)
    else none)
def D_Mo_weightFor (kk : Nat) (a0 : Int32) (G : GS) : Res :=
  (D_Mo_isBetween kk a0 (0 : Int32) (4 : Int32) (si G (0, 50) 0 (0 : Int32))).bind (fun r => oI r (fun v4 G1 =>
  if v4 = 0 then
    (D_Mo_fails kk (1 : Int32) G1).bind (fun r => oI r (fun v8 G5 =>
    okI v8 G5) exc)
  else
    (L_Mo_weightFor kk kk).1 a0 (0 : Int32) (0 : Int32) G1) exc)
def D_Mo_limit (kk : Nat) (G : GS) : Res :=
  okI (ga (si G (0, 50) 0 (0 : Int32)) (0, 51) 3) (si G (0, 50) 0 (0 : Int32))
def D_Mo_listAngle (kk : Nat) (G : GS) : Res :=
  (D_Mo_momentNow kk (si G (0, 50) 0 (0 : Int32))).bind (fun r => oI r (fun v4 G1 =>
  if (FP.fmul (1110704128 : UInt32) (FP.i2f v4)) &&& 0x7fffffff ≤ 0x7f800000 then
  (D_Mo_weightAll kk G1).bind (fun r => oI r (fun v8 G5 =>
  if (FP.fdiv (FP.fmul (1110704128 : UInt32) (FP.i2f v4)) (FP.i2f (v8 + (40 : Int32)))) &&& 0x7fffffff ≤ 0x7f800000 then
  okF (FP.fdiv (FP.fmul (1110704128 : UInt32) (FP.i2f v4)) (FP.i2f (v8 + (40 : Int32)))) G5
  else none) exc)
  else none) exc)
def D_Mo_greatestPush (kk : Nat) (G : GS) : Res :=
  (D_Mo_momentNow kk (si G (0, 50) 0 (0 : Int32))).bind (fun r => oI r (fun v4 G1 =>
  okI ((ga (si G (0, 50) 0 (0 : Int32)) (0, 51) 3) - v4) G1) exc)
def D_Mo_magnitude (kk : Nat) (a0 : Int32) (G : GS) : Res :=
  if 0 ≤ a0 then
    okI a0 G
  else
    okI (-a0) G
def D_Mo_isBetter (kk : Nat) (a0 : Int32) (a1 : Int32) (a2 : Int32) (G : GS) : Res :=
  (D_Mo_momentNow kk G).bind (fun r => oI r (fun v4 G1 =>
  (D_Mo_lever kk a1 a2 G1).bind (fun r => oI r (fun v8 G5 =>
  (D_Mo_magnitude kk (v4 + v8) G5).bind (fun r => oI r (fun v12 G9 =>
  (D_Mo_momentNow kk G9).bind (fun r => oI r (fun v16 G13 =>
  (D_Mo_lever kk a0 a2 G13).bind (fun r => oI r (fun v20 G17 =>
  (D_Mo_magnitude kk (v16 + v20) G17).bind (fun r => oI r (fun v24 G21 =>
  if (v12 - v24) = 0 then
    bif inb ((9 : Int32) + a0) 156 then
    bif inb ((9 : Int32) + a1) 156 then
    if (ga G21 (0, 51) ((9 : Int32) + a1).toNatClampNeg) ≤ (ga G21 (0, 51) ((9 : Int32) + a0).toNatClampNeg) then
      okI (0 : Int32) G21
    else
      okI (1 : Int32) G21
    else none
    else none
  else
    if (v12 - v24) ≤ 0 then
      okI (0 : Int32) G21
    else
      okI (1 : Int32) G21) exc)) exc)) exc)) exc)) exc)) exc)
def L_Mo_levelingBay (kk : Nat) : Nat → Int32 → Int32 → Int32 → GS → Res
  | 0 => fun _ _ _ _ => none
  | k + 1 => fun x1 x2 x3 G =>
    if (7 : Int32) ≤ x3 then
      if 0 ≤ x2 then
        okI x2 G
      else
        (D_Mo_fails kk (2 : Int32) G).bind (fun r => oI r (fun v12 G9 =>
        okI v12 G9) exc)
    else
      bif inb ((9 : Int32) + x3) 156 then
      if (ga G (0, 51) ((9 : Int32) + x3).toNatClampNeg) = (5 : Int32) then
        (L_Mo_levelingBay kk k) x1 x2 (x3 + (1 : Int32)) G
      else
        (D_Mo_lever kk x3 x1 G).bind (fun r => oI r (fun v16 G13 =>
        (D_Mo_isBeyond kk v16 G13).bind (fun r => oI r (fun v20 G17 =>
        if v20 = 0 then
          if x2 < 0 then
            (L_Mo_levelingBay kk k) x1 x3 (x3 + (1 : Int32)) G17
          else
            (D_Mo_isBetter kk x3 x2 x1 G17).bind (fun r => oI r (fun v24 G21 =>
            if v24 = 0 then
              (L_Mo_levelingBay kk k) x1 x2 (x3 + (1 : Int32)) G21
            else
              (L_Mo_levelingBay kk k) x1 x3 (x3 + (1 : Int32)) G21) exc)
        else
          (L_Mo_levelingBay kk k) x1 x2 (x3 + (1 : Int32)) G17) exc)) exc)
      else none
def D_Mo_levelingBay (kk : Nat) (a0 : Int32) (G : GS) : Res :=
  (D_Mo_isBetween kk a0 (1 : Int32) (20 : Int32) (si G (0, 50) 0 (0 : Int32))).bind (fun r => oI r (fun v4 G1 =>
  if v4 = 0 then
    (D_Mo_fails kk (1 : Int32) G1).bind (fun r => oI r (fun v8 G5 =>
    okI v8 G5) exc)
  else
    (L_Mo_levelingBay kk kk) a0 (-1 : Int32) (0 : Int32) G1) exc)
def D_Mo_port (kk : Nat) (G : GS) : Res :=
  okI (ga (si G (0, 50) 0 (0 : Int32)) (0, 51) 1) (si G (0, 50) 0 (0 : Int32))
def D_Mo_day (kk : Nat) (G : GS) : Res :=
  okI (ga (si G (0, 50) 0 (0 : Int32)) (0, 51) 0) (si G (0, 50) 0 (0 : Int32))
def D_Mo_isAscending (kk : Nat) (G : GS) : Res :=
  if (ga (si G (0, 50) 0 (0 : Int32)) (0, 51) 2) = 0 then
    okI (1 : Int32) (si G (0, 50) 0 (0 : Int32))
  else
    okI (0 : Int32) (si G (0, 50) 0 (0 : Int32))
def L_Mo_legs (kk : Nat) : Nat → Int32 → Int32 → GS → Res
  | 0 => fun _ _ _ => none
  | k + 1 => fun x1 x2 G =>
    (D_Mo_portBehind kk x2 G).bind (fun r => oI r (fun v4 G1 =>
    if v4 = x1 then
      okI x2 G1
    else
      (L_Mo_legs kk k) x1 (x2 + (1 : Int32)) G1) exc)
def D_Mo_legs (kk : Nat) (a0 : Int32) (G : GS) : Res :=
  (L_Mo_legs kk kk) a0 (0 : Int32) G
def D_Mo_legsTo (kk : Nat) (a0 : Int32) (G : GS) : Res :=
  (D_Mo_isBetween kk a0 (0 : Int32) (4 : Int32) (si G (0, 50) 0 (0 : Int32))).bind (fun r => oI r (fun v4 G1 =>
  if v4 = 0 then
    (D_Mo_fails kk (1 : Int32) G1).bind (fun r => oI r (fun v8 G5 =>
    okI v8 G5) exc)
  else
    (D_Mo_legs kk a0 G1).bind (fun r => oI r (fun v12 G9 =>
    okI v12 G9) exc)) exc)
def D_Mo_portAfter (kk : Nat) (a0 : Int32) (G : GS) : Res :=
  (D_Mo_isBetween kk a0 (0 : Int32) (99 : Int32) (si G (0, 50) 0 (0 : Int32))).bind (fun r => oI r (fun v4 G1 =>
  if v4 = 0 then
    (D_Mo_fails kk (1 : Int32) G1).bind (fun r => oI r (fun v8 G5 =>
    okI v8 G5) exc)
  else
    (D_Mo_portBehind kk a0 G1).bind (fun r => oI r (fun v12 G9 =>
    okI v12 G9) exc)) exc)
def L_Mo_inTheWay (kk : Nat) : Nat → Int32 → Int32 → Int32 → Int32 → GS → Res
  | 0 => fun _ _ _ _ _ => none
  | k + 1 => fun x1 x3 x4 x5 G =>
    bif inb ((9 : Int32) + x1) 156 then
    if (ga G (0, 51) ((9 : Int32) + x1).toNatClampNeg) ≤ x5 then
      okI x4 G
    else
      (D_Mo_at kk x1 x5 (2 : Int32) G).bind (fun r => oI r (fun v12 G9 =>
      (D_Mo_legs kk v12 G9).bind (fun r => oI r (fun v16 G13 =>
      if v16 ≤ x3 then
        (L_Mo_inTheWay kk k) x1 x3 (x4 + (0 : Int32)) (x5 + (1 : Int32)) G13
      else
        (L_Mo_inTheWay kk k) x1 x3 (x4 + (1 : Int32)) (x5 + (1 : Int32)) G13) exc)) exc)
    else none
def D_Mo_inTheWay (kk : Nat) (a0 : Int32) (a1 : Int32) (G : GS) : Res :=
  (D_Mo_at kk a0 a1 (2 : Int32) G).bind (fun r => oI r (fun v4 G1 =>
  (D_Mo_legs kk v4 G1).bind (fun r => oI r (fun v8 G5 =>
  (L_Mo_inTheWay kk kk) a0 v8 (0 : Int32) (a1 + (1 : Int32)) G5) exc)) exc)
def D_Mo_pillowsInTheWay (kk : Nat) (a0 : Int32) (G : GS) : Res :=
  (D_Mo_placeOf kk a0 (si G (0, 50) 0 (0 : Int32))).bind (fun r => oI r (fun v4 G1 =>
  if 0 ≤ v4 then
    (D_Mo_inTheWay kk (v4 / (5 : Int32)) (v4 - v4 / (5 : Int32) * (5 : Int32)) G1).bind (fun r => oI r (fun v8 G5 =>
    okI v8 G5) exc)
  else
    (D_Mo_fails kk (1 : Int32) G1).bind (fun r => oI r (fun v12 G9 =>
    okI v12 G9) exc)) exc)
def L_Mo_pairsInTheWay (kk : Nat) : Nat → (Int32 → Int32 → GS → Res) × (Int32 → Int32 → Int32 → GS → Res)
  | 0 => (fun _ _ _ => none, fun _ _ _ _ => none)
  | k + 1 => (fun x1 x2 G =>
    if (7 : Int32) ≤ x2 then
      okI x1 G
    else
      (L_Mo_pairsInTheWay kk k).2 x1 x2 (0 : Int32) G,
    fun x1 x2 x3 G =>
    bif inb ((9 : Int32) + x2) 156 then
    if (ga G (0, 51) ((9 : Int32) + x2).toNatClampNeg) ≤ x3 then
      (L_Mo_pairsInTheWay kk k).1 x1 (x2 + (1 : Int32)) G
    else
      (D_Mo_inTheWay kk x2 x3 G).bind (fun r => oI r (fun v4 G1 =>
      (L_Mo_pairsInTheWay kk k).2 (x1 + v4) x2 (x3 + (1 : Int32)) G1) exc)
    else none)
def D_Mo_pairsInTheWay (kk : Nat) (G : GS) : Res :=
  (L_Mo_pairsInTheWay kk kk).1 (0 : Int32) (0 : Int32) (si G (0, 50) 0 (0 : Int32))
def D_Mo_pairsInTheWayByStacks (kk : Nat) (G : GS) : Res :=
  (D_Mo_pairsInTheWay kk G).bind (fun r => oI r (fun v4 G1 =>
  okI v4 G1) exc)
def D_Mo_isAhead (kk : Nat) (a0 : Int32) (a1 : Int32) (G : GS) : Res :=
  (D_Mo_at kk (a1 / (5 : Int32)) (a1 - a1 / (5 : Int32) * (5 : Int32)) (2 : Int32) G).bind (fun r => oI r (fun v4 G1 =>
  (D_Mo_legs kk v4 G1).bind (fun r => oI r (fun v8 G5 =>
  (D_Mo_at kk (a0 / (5 : Int32)) (a0 - a0 / (5 : Int32) * (5 : Int32)) (2 : Int32) G5).bind (fun r => oI r (fun v12 G9 =>
  (D_Mo_legs kk v12 G9).bind (fun r => oI r (fun v16 G13 =>
  (D_Mo_at kk (a1 / (5 : Int32)) (a1 - a1 / (5 : Int32) * (5 : Int32)) (3 : Int32) G13).bind (fun r => oI r (fun v20 G17 =>
  (D_Mo_at kk (a0 / (5 : Int32)) (a0 - a0 / (5 : Int32) * (5 : Int32)) (3 : Int32) G17).bind (fun r => oI r (fun v24 G21 =>
  if (v8 - v16) = 0 then
    if (v20 - v24) = 0 then
      (D_Mo_at kk (a0 / (5 : Int32)) (a0 - a0 / (5 : Int32) * (5 : Int32)) (0 : Int32) G21).bind (fun r => oI r (fun v28 G25 =>
      (D_Mo_at kk (a1 / (5 : Int32)) (a1 - a1 / (5 : Int32) * (5 : Int32)) (0 : Int32) G25).bind (fun r => oI r (fun v32 G29 =>
      if v32 ≤ v28 then
        okI (0 : Int32) G29
      else
        okI (1 : Int32) G29) exc)) exc)
    else
      if (v20 - v24) ≤ 0 then
        okI (0 : Int32) G21
      else
        okI (1 : Int32) G21
  else
    if (v8 - v16) ≤ 0 then
      okI (0 : Int32) G21
    else
      okI (1 : Int32) G21) exc)) exc)) exc)) exc)) exc)) exc)
def D_Mo_isTaken (kk : Nat) (a0 : Int32) (G : GS) : Res :=
  bif inb ((9 : Int32) + (a0 / (5 : Int32))) 156 then
  if (ga G (0, 51) ((9 : Int32) + (a0 / (5 : Int32))).toNatClampNeg) ≤ (a0 - a0 / (5 : Int32) * (5 : Int32)) then
    okI (0 : Int32) G
  else
    okI (1 : Int32) G
  else none
def L_Mo_unloadableCount (kk : Nat) : Nat → Int32 → Int32 → GS → Res
  | 0 => fun _ _ _ => none
  | k + 1 => fun x1 x2 G =>
    if (7 : Int32) ≤ x2 then
      okI x1 G
    else
      (D_Mo_notUnload kk x2 G).bind (fun r => oI r (fun v4 G1 =>
      if v4 = 0 then
        (L_Mo_unloadableCount kk k) (x1 + (1 : Int32)) (x2 + (1 : Int32)) G1
      else
        (L_Mo_unloadableCount kk k) (x1 + (0 : Int32)) (x2 + (1 : Int32)) G1) exc)
def D_Mo_unloadableCount (kk : Nat) (G : GS) : Res :=
  (L_Mo_unloadableCount kk kk) (0 : Int32) (0 : Int32) (si G (0, 50) 0 (0 : Int32))
def L_Mo_oldestIn (kk : Nat) : Nat → Int32 → Int32 → Int32 → GS → Res
  | 0 => fun _ _ _ _ => none
  | k + 1 => fun x1 x2 x3 G =>
    bif inb ((9 : Int32) + x1) 156 then
    if (ga G (0, 51) ((9 : Int32) + x1).toNatClampNeg) ≤ x3 then
      (D_Mo_at kk x1 x2 (0 : Int32) G).bind (fun r => oI r (fun v16 G13 =>
      okI v16 G13) exc)
    else
      (D_Mo_at kk x1 x2 (3 : Int32) G).bind (fun r => oI r (fun v20 G17 =>
      (D_Mo_at kk x1 x3 (3 : Int32) G17).bind (fun r => oI r (fun v24 G21 =>
      if 0 < (v20 - v24) then
        (L_Mo_oldestIn kk k) x1 x3 (x3 + (1 : Int32)) G21
      else
        if (v20 - v24) = 0 then
          (D_Mo_at kk x1 x3 (0 : Int32) G21).bind (fun r => oI r (fun v28 G25 =>
          (D_Mo_at kk x1 x2 (0 : Int32) G25).bind (fun r => oI r (fun v32 G29 =>
          if v32 ≤ v28 then
            (L_Mo_oldestIn kk k) x1 x2 (x3 + (1 : Int32)) G29
          else
            (L_Mo_oldestIn kk k) x1 x3 (x3 + (1 : Int32)) G29) exc)) exc)
        else
          (L_Mo_oldestIn kk k) x1 x2 (x3 + (1 : Int32)) G21) exc)) exc)
    else none
def D_Mo_oldestIn (kk : Nat) (a0 : Int32) (G : GS) : Res :=
  (D_Mo_isBay kk a0 (si G (0, 50) 0 (0 : Int32))).bind (fun r => oI r (fun v4 G1 =>
  if v4 = 0 then
    (D_Mo_fails kk (1 : Int32) G1).bind (fun r => oI r (fun v12 G9 =>
    okI v12 G9) exc)
  else
    bif inb ((9 : Int32) + a0) 156 then
    if (ga G1 (0, 51) ((9 : Int32) + a0).toNatClampNeg) = 0 then
      (D_Mo_fails kk (2 : Int32) G1).bind (fun r => oI r (fun v8 G5 =>
      okI v8 G5) exc)
    else
      (L_Mo_oldestIn kk kk) a0 (0 : Int32) (1 : Int32) G1
    else none) exc)
def L_Mo_heaviestPort (kk : Nat) : Nat → Int32 → Int32 → GS → Res
  | 0 => fun _ _ _ => none
  | k + 1 => fun x1 x2 G =>
    if (5 : Int32) ≤ x2 then
      okI x1 (si G (0, 50) 0 (0 : Int32))
    else
      (D_Mo_portBehind kk x2 G).bind (fun r => oI r (fun v12 G9 =>
      (D_Mo_weightFor kk v12 G9).bind (fun r => oI r (fun v16 G13 =>
      (D_Mo_weightFor kk x1 G13).bind (fun r => oI r (fun v20 G17 =>
      if v16 ≤ v20 then
        (L_Mo_heaviestPort kk k) x1 (x2 + (1 : Int32)) G17
      else
        (L_Mo_heaviestPort kk k) v12 (x2 + (1 : Int32)) G17) exc)) exc)) exc)
def D_Mo_heaviestPort (kk : Nat) (G : GS) : Res :=
  (D_Mo_countAll kk G).bind (fun r => oI r (fun v4 G1 =>
  if v4 = 0 then
    (D_Mo_fails kk (1 : Int32) G1).bind (fun r => oI r (fun v8 G5 =>
    okI v8 G5) exc)
  else
    (L_Mo_heaviestPort kk kk) (ga G1 (0, 51) 1) (1 : Int32) G1) exc)
def L_Mo_possibleShifts (kk : Nat) : Nat → (Int32 → Int32 → GS → Res) × (Int32 → Int32 → Int32 → GS → Res)
  | 0 => (fun _ _ _ => none, fun _ _ _ _ => none)
  | k + 1 => (fun x1 x2 G =>
    if (7 : Int32) ≤ x2 then
      okI x1 G
    else
      (L_Mo_possibleShifts kk k).2 x1 x2 (0 : Int32) G,
    fun x1 x2 x3 G =>
    if (7 : Int32) ≤ x3 then
      (L_Mo_possibleShifts kk k).1 x1 (x2 + (1 : Int32)) G
    else
      (D_Mo_notShift kk x2 x3 G).bind (fun r => oI r (fun v4 G1 =>
      if v4 = 0 then
        (L_Mo_possibleShifts kk k).2 (x1 + (1 : Int32)) x2 (x3 + (1 : Int32)) G1
      else
        (L_Mo_possibleShifts kk k).2 (x1 + (0 : Int32)) x2 (x3 + (1 : Int32)) G1) exc))
def D_Mo_possibleShifts (kk : Nat) (G : GS) : Res :=
  (L_Mo_possibleShifts kk kk).1 (0 : Int32) (0 : Int32) (si G (0, 50) 0 (0 : Int32))
def L_Mo_pillowByTurn (kk : Nat) : Nat → (Int32 → Int32 → GS → Res) × (Int32 → Int32 → Int32 → Int32 → GS → Res)
  | 0 => (fun _ _ _ => none, fun _ _ _ _ _ => none)
  | k + 1 => (fun x1 x2 G =>
    if (35 : Int32) ≤ x2 then
      (D_Mo_fails kk (1 : Int32) G).bind (fun r => oI r (fun v4 G1 =>
      okI v4 G1) exc)
    else
      (D_Mo_isTaken kk x2 G).bind (fun r => oI r (fun v8 G5 =>
      if v8 = 0 then
        (L_Mo_pillowByTurn kk k).1 x1 (x2 + (1 : Int32)) G5
      else
        (L_Mo_pillowByTurn kk k).2 x1 x2 (0 : Int32) (0 : Int32) G5) exc),
    fun x1 x2 x3 x4 G =>
    if (35 : Int32) ≤ x4 then
      if x3 = x1 then
        (D_Mo_at kk (x2 / (5 : Int32)) (x2 - x2 / (5 : Int32) * (5 : Int32)) (0 : Int32) G).bind (fun r => oI r (fun v12 G9 =>
        okI v12 G9) exc)
      else
        (L_Mo_pillowByTurn kk k).1 x1 (x2 + (1 : Int32)) G
    else
      (D_Mo_isTaken kk x4 G).bind (fun r => oI r (fun v16 G13 =>
      if v16 = 0 then
        (L_Mo_pillowByTurn kk k).2 x1 x2 (x3 + (0 : Int32)) (x4 + (1 : Int32)) G13
      else
        (D_Mo_isAhead kk x4 x2 G13).bind (fun r => oI r (fun v20 G17 =>
        if v20 = 0 then
          (L_Mo_pillowByTurn kk k).2 x1 x2 (x3 + (0 : Int32)) (x4 + (1 : Int32)) G17
        else
          (L_Mo_pillowByTurn kk k).2 x1 x2 (x3 + (1 : Int32)) (x4 + (1 : Int32)) G17) exc)) exc))
def D_Mo_pillowByTurn (kk : Nat) (a0 : Int32) (G : GS) : Res :=
  (L_Mo_pillowByTurn kk kk).1 a0 (0 : Int32) (si G (0, 50) 0 (0 : Int32))
def L_Mo_bayByWeight (kk : Nat) : Nat → (Int32 → Int32 → GS → Res) × (Int32 → Int32 → Int32 → Int32 → GS → Res)
  | 0 => (fun _ _ _ => none, fun _ _ _ _ _ => none)
  | k + 1 => (fun x1 x2 G =>
    if (7 : Int32) ≤ x2 then
      (D_Mo_fails kk (1 : Int32) G).bind (fun r => oI r (fun v4 G1 =>
      okI v4 G1) exc)
    else
      (L_Mo_bayByWeight kk k).2 x1 x2 (0 : Int32) (0 : Int32) G,
    fun x1 x2 x3 x4 G =>
    if (7 : Int32) ≤ x4 then
      if x3 = x1 then
        okI x2 G
      else
        (L_Mo_bayByWeight kk k).1 x1 (x2 + (1 : Int32)) G
    else
      (D_Mo_weightOfBay kk x4 G).bind (fun r => oI r (fun v8 G5 =>
      (D_Mo_weightOfBay kk x2 G5).bind (fun r => oI r (fun v12 G9 =>
      if 0 < (v8 - v12) then
        (L_Mo_bayByWeight kk k).2 x1 x2 (x3 + (1 : Int32)) (x4 + (1 : Int32)) G9
      else
        if (v8 - v12) = 0 then
          if x2 ≤ x4 then
            (L_Mo_bayByWeight kk k).2 x1 x2 (x3 + (0 : Int32)) (x4 + (1 : Int32)) G9
          else
            (L_Mo_bayByWeight kk k).2 x1 x2 (x3 + (1 : Int32)) (x4 + (1 : Int32)) G9
        else
          (L_Mo_bayByWeight kk k).2 x1 x2 (x3 + (0 : Int32)) (x4 + (1 : Int32)) G9) exc)) exc))
def D_Mo_bayByWeight (kk : Nat) (a0 : Int32) (G : GS) : Res :=
  (L_Mo_bayByWeight kk kk).1 a0 (0 : Int32) (si G (0, 50) 0 (0 : Int32))
def D_Mo_loadedTotal (kk : Nat) (G : GS) : Res :=
  okI (ga (si G (0, 50) 0 (0 : Int32)) (0, 51) 4) (si G (0, 50) 0 (0 : Int32))
def D_Mo_deliveredTotal (kk : Nat) (G : GS) : Res :=
  okI (ga (si G (0, 50) 0 (0 : Int32)) (0, 51) 5) (si G (0, 50) 0 (0 : Int32))
def D_Mo_deliveredWeight (kk : Nat) (G : GS) : Res :=
  okI (ga (si G (0, 50) 0 (0 : Int32)) (0, 51) 6) (si G (0, 50) 0 (0 : Int32))
def D_Mo_drillTotal (kk : Nat) (G : GS) : Res :=
  okI (ga (si G (0, 50) 0 (0 : Int32)) (0, 51) 7) (si G (0, 50) 0 (0 : Int32))
def D_Mo_capsizedTotal (kk : Nat) (G : GS) : Res :=
  okI (ga (si G (0, 50) 0 (0 : Int32)) (0, 51) 8) (si G (0, 50) 0 (0 : Int32))
def L_Mo_meanAge (kk : Nat) : Nat → Int32 → Int32 → GS → Res
  | 0 => fun _ _ _ => none
  | k + 1 => fun x1 x2 G =>
    if (35 : Int32) ≤ x2 then
      (D_Mo_countAll kk G).bind (fun r => oI r (fun v12 G9 =>
      if (FP.ddiv (FP.i2d x1) (FP.i2d v12)) &&& 0x7fffffffffffffff ≤ 0x7ff0000000000000 then
      okD (FP.ddiv (FP.i2d x1) (FP.i2d v12)) G9
      else none) exc)
    else
      (D_Mo_isTaken kk x2 G).bind (fun r => oI r (fun v16 G13 =>
      if v16 = 0 then
        (L_Mo_meanAge kk k) x1 (x2 + (1 : Int32)) G13
      else
        (D_Mo_at kk (x2 / (5 : Int32)) (x2 - x2 / (5 : Int32) * (5 : Int32)) (3 : Int32) G13).bind (fun r => oI r (fun v20 G17 =>
        (L_Mo_meanAge kk k) (x1 + ((ga G13 (0, 51) 0) - v20)) (x2 + (1 : Int32)) G17) exc)) exc)
def D_Mo_meanAge (kk : Nat) (G : GS) : Res :=
  (D_Mo_countAll kk (si G (0, 50) 0 (0 : Int32))).bind (fun r => oI r (fun v4 G1 =>
  if v4 = 0 then
    (D_Mo_fails kk (1 : Int32) G1).bind (fun r => oI r (fun v8 G5 =>
    okD (FP.i2d v8) G5) exc)
  else
    (L_Mo_meanAge kk kk) (0 : Int32) (0 : Int32) G1) exc)
def D_Mo_capsizedShare (kk : Nat) (G : GS) : Res :=
  if (ga (si G (0, 50) 0 (0 : Int32)) (0, 51) 7) = 0 then
    (D_Mo_fails kk (1 : Int32) (si G (0, 50) 0 (0 : Int32))).bind (fun r => oI r (fun v4 G1 =>
    okF (FP.i2f v4) G1) exc)
  else
    if (FP.fdiv (FP.i2f (ga (si G (0, 50) 0 (0 : Int32)) (0, 51) 8)) (FP.i2f (ga (si G (0, 50) 0 (0 : Int32)) (0, 51) 7))) &&& 0x7fffffff ≤ 0x7f800000 then
    okF (FP.fdiv (FP.i2f (ga (si G (0, 50) 0 (0 : Int32)) (0, 51) 8)) (FP.i2f (ga (si G (0, 50) 0 (0 : Int32)) (0, 51) 7))) (si G (0, 50) 0 (0 : Int32))
    else none
def D_Mo_isConsistent (kk : Nat) (G : GS) : Res :=
  (D_Mo_isBeyond kk (0 : Int32) (si G (0, 50) 0 (0 : Int32))).bind (fun r => oI r (fun v4 G1 =>
  if v4 = 0 then
    (D_Mo_countAll kk G1).bind (fun r => oI r (fun v8 G5 =>
    if (ga G1 (0, 51) 4) = ((ga G1 (0, 51) 5) + v8) then
      okI (1 : Int32) G5
    else
      okI (0 : Int32) G5) exc)
  else
    okI (0 : Int32) G1) exc)
def D_Mo_writes (kk : Nat) (a0 : Int32) (G : GS) : Res :=
  bif inb (gi G (0, 50) 9) 100 then
  okV (si (sa G (0, 55) (gi G (0, 50) 9).toNatClampNeg (vp_nar .char ((a0.toUInt32 % 65536).toInt32))) (0, 50) 9 ((gi (sa G (0, 55) (gi G (0, 50) 9).toNatClampNeg (vp_nar .char ((a0.toUInt32 % 65536).toInt32))) (0, 50) 9) + (1 : Int32)))
  else none
def L_Mo_writesNumber (kk : Nat) : Nat → (Int32 → Int32 → GS → Res) × (Int32 → Int32 → GS → Res)
  | 0 => (fun _ _ _ => none, fun _ _ _ => none)
  | k + 1 => (fun x2 x3 G =>
    if x3 = 0 then none else
    if (x2 / x3) ≤ (9 : Int32) then
      (L_Mo_writesNumber kk k).2 x2 x3 G
    else
      (L_Mo_writesNumber kk k).1 x2 (x3 * (10 : Int32)) G,
    fun x2 x4 G =>
    if x4 ≤ 0 then
      okV G
    else
      if x4 = 0 then none else
      (D_Mo_writes kk ((48 : Int32) + ((x2 / x4) - (x2 / x4) / (10 : Int32) * (10 : Int32))) G).bind (fun r => oV r (fun G12 =>
      (L_Mo_writesNumber kk k).2 x2 (x4 / (10 : Int32)) G12) exc))
def D_Mo_writesNumber (kk : Nat) (a0 : Int32) (G : GS) : Res :=
  if 0 ≤ a0 then
    (D_Mo_magnitude kk a0 G).bind (fun r => oI r (fun v4 G1 =>
    (L_Mo_writesNumber kk kk).1 v4 (1 : Int32) G1) exc)
  else
    (D_Mo_writes kk (45 : Int32) G).bind (fun r => oV r (fun G5 =>
    (D_Mo_magnitude kk a0 G5).bind (fun r => oI r (fun v11 G8 =>
    (L_Mo_writesNumber kk kk).1 v11 (1 : Int32) G8) exc)) exc)
def L_Mo_renderStack (kk : Nat) : Nat → (Int32 → Int32 → GS → Res) × (Int32 → Int32 → GS → Res)
  | 0 => (fun _ _ _ => none, fun _ _ _ => none)
  | k + 1 => (fun x1 x2 G =>
    bif inb ((9 : Int32) + x1) 156 then
    if (ga G (0, 51) ((9 : Int32) + x1).toNatClampNeg) ≤ x2 then
      okI (gi G (0, 50) 9) G
    else
      if x2 ≤ 0 then
        (L_Mo_renderStack kk k).2 x1 x2 G
      else
        (D_Mo_writes kk (32 : Int32) G).bind (fun r => oV r (fun G9 =>
        (L_Mo_renderStack kk k).2 x1 x2 G9) exc)
    else none,
    fun x1 x2 G =>
    (D_Mo_at kk x1 x2 (0 : Int32) G).bind (fun r => oI r (fun v15 G12 =>
    (D_Mo_writesNumber kk v15 G12).bind (fun r => oV r (fun G16 =>
    (D_Mo_writes kk (119 : Int32) G16).bind (fun r => oV r (fun G19 =>
    (D_Mo_at kk x1 x2 (1 : Int32) G19).bind (fun r => oI r (fun v25 G22 =>
    (D_Mo_writesNumber kk v25 G22).bind (fun r => oV r (fun G26 =>
    (D_Mo_writes kk (112 : Int32) G26).bind (fun r => oV r (fun G29 =>
    (D_Mo_at kk x1 x2 (2 : Int32) G29).bind (fun r => oI r (fun v35 G32 =>
    (D_Mo_writesNumber kk v35 G32).bind (fun r => oV r (fun G36 =>
    (L_Mo_renderStack kk k).1 x1 (x2 + (1 : Int32)) G36) exc)) exc)) exc)) exc)) exc)) exc)) exc)) exc))
def D_Mo_renderStack (kk : Nat) (a0 : Int32) (G : GS) : Res :=
  (D_Mo_isBay kk a0 (si G (0, 50) 0 (0 : Int32))).bind (fun r => oI r (fun v4 G1 =>
  if v4 = 0 then
    (D_Mo_fails kk (1 : Int32) G1).bind (fun r => oI r (fun v8 G5 =>
    okI v8 G5) exc)
  else
    (L_Mo_renderStack kk kk).1 a0 (0 : Int32) (si G1 (0, 50) 9 (0 : Int32))) exc)
def L_Mo_renderBarge (kk : Nat) : Nat → Int32 → GS → Res
  | 0 => fun _ _ => none
  | k + 1 => fun x1 G =>
    if (7 : Int32) ≤ x1 then
      (D_Mo_writes kk (61 : Int32) G).bind (fun r => oV r (fun G1 =>
      (D_Mo_momentNow kk G1).bind (fun r => oI r (fun v7 G4 =>
      (D_Mo_writesNumber kk v7 G4).bind (fun r => oV r (fun G8 =>
      okI (gi G8 (0, 50) 9) G8) exc)) exc)) exc)
    else
      if x1 ≤ 0 then
        (D_Mo_weightOfBay kk x1 G).bind (fun r => oI r (fun v14 G11 =>
        (D_Mo_writesNumber kk v14 G11).bind (fun r => oV r (fun G15 =>
        (L_Mo_renderBarge kk k) (x1 + (1 : Int32)) G15) exc)) exc)
      else
        (D_Mo_writes kk (32 : Int32) G).bind (fun r => oV r (fun G18 =>
        (D_Mo_weightOfBay kk x1 G18).bind (fun r => oI r (fun v24 G21 =>
        (D_Mo_writesNumber kk v24 G21).bind (fun r => oV r (fun G25 =>
        (L_Mo_renderBarge kk k) (x1 + (1 : Int32)) G25) exc)) exc)) exc)
def D_Mo_renderBarge (kk : Nat) (G : GS) : Res :=
  (L_Mo_renderBarge kk kk) (0 : Int32) (si (si G (0, 50) 0 (0 : Int32)) (0, 50) 9 (0 : Int32))
def D_Mo_outputAt (kk : Nat) (a0 : Int32) (G : GS) : Res :=
  (D_Mo_isBetween kk a0 (0 : Int32) ((gi (si G (0, 50) 0 (0 : Int32)) (0, 50) 9) - (1 : Int32)) (si G (0, 50) 0 (0 : Int32))).bind (fun r => oI r (fun v4 G1 =>
  if v4 = 0 then
    (D_Mo_fails kk (1 : Int32) G1).bind (fun r => oI r (fun v8 G5 =>
    okI ((v8.toUInt32 % 65536).toInt32) G5) exc)
  else
    bif inb a0 100 then
    okI (ga G1 (0, 55) a0.toNatClampNeg) G1
    else none) exc)
def D_Mo_type (kk : Nat) (a0 : Int32) (G : GS) : Res :=
  (D_Mo_isBetween kk a0 (32 : Int32) (126 : Int32) (si G (0, 50) 0 (0 : Int32))).bind (fun r => oI r (fun v4 G1 =>
  if v4 = 0 then
    (D_Mo_fails kk (1 : Int32) G1).bind (fun r => oI r (fun v12 G9 =>
    okI v12 G9) exc)
  else
    if (gi G1 (0, 50) 11) = (60 : Int32) then
      (D_Mo_fails kk (2 : Int32) G1).bind (fun r => oI r (fun v8 G5 =>
      okI v8 G5) exc)
    else
      bif inb (gi G1 (0, 50) 11) 60 then
      okI (gi (si (sa G1 (0, 56) (gi G1 (0, 50) 11).toNatClampNeg (vp_nar .char a0)) (0, 50) 11 ((gi (sa G1 (0, 56) (gi G1 (0, 50) 11).toNatClampNeg (vp_nar .char a0)) (0, 50) 11) + (1 : Int32))) (0, 50) 11) (si (sa G1 (0, 56) (gi G1 (0, 50) 11).toNatClampNeg (vp_nar .char a0)) (0, 50) 11 ((gi (sa G1 (0, 56) (gi G1 (0, 50) 11).toNatClampNeg (vp_nar .char a0)) (0, 50) 11) + (1 : Int32)))
      else none) exc)
def D_Mo_nextChar (kk : Nat) (G : GS) : Res :=
  if (gi G (0, 50) 11) ≤ (gi G (0, 50) 12) then
    okI (-1 : Int32) G
  else
    bif inb (gi G (0, 50) 12) 60 then
    okI (ga G (0, 56) (gi G (0, 50) 12).toNatClampNeg) G
    else none
def D_Mo_reads (kk : Nat) (a0 : Int32) (G : GS) : Res :=
  (D_Mo_nextChar kk G).bind (fun r => oI r (fun v4 G1 =>
  if v4 = a0 then
    okI (1 : Int32) (si G1 (0, 50) 12 ((gi G1 (0, 50) 12) + (1 : Int32)))
  else
    okI (0 : Int32) G1) exc)
def D_Mo_readsDigit (kk : Nat) (a0 : Int32) (G : GS) : Res :=
  (D_Mo_nextChar kk G).bind (fun r => oI r (fun v4 G1 =>
  (D_Mo_isBetween kk v4 (48 : Int32) (57 : Int32) G1).bind (fun r => oI r (fun v8 G5 =>
  if v8 = 0 then
    okI (0 : Int32) G5
  else
    (D_Mo_nextChar kk G5).bind (fun r => oI r (fun v12 G9 =>
    bif inb a0 3 then
    okI (1 : Int32) (si (sa G9 (0, 57) a0.toNatClampNeg (v12 - (48 : Int32))) (0, 50) 12 ((gi (sa G9 (0, 57) a0.toNatClampNeg (v12 - (48 : Int32))) (0, 50) 12) + (1 : Int32)))
    else none) exc)) exc)) exc)
def D_Mo_readsNumber (kk : Nat) (a0 : Int32) (G : GS) : Res :=
  (D_Mo_readsDigit kk a0 G).bind (fun r => oI r (fun v4 G1 =>
  if v4 = 0 then
    okI (0 : Int32) G1
  else
    (D_Mo_nextChar kk G1).bind (fun r => oI r (fun v8 G5 =>
    (D_Mo_isBetween kk v8 (48 : Int32) (57 : Int32) G5).bind (fun r => oI r (fun v12 G9 =>
    if v12 = 0 then
      okI (1 : Int32) G9
    else
      bif inb a0 3 then
      (D_Mo_nextChar kk G9).bind (fun r => oI r (fun v16 G13 =>
      bif inb a0 3 then
      okI (1 : Int32) (si (sa G13 (0, 57) a0.toNatClampNeg ((((10 : Int32) * (ga G9 (0, 57) a0.toNatClampNeg)) + v16) - (48 : Int32))) (0, 50) 12 ((gi (sa G13 (0, 57) a0.toNatClampNeg ((((10 : Int32) * (ga G9 (0, 57) a0.toNatClampNeg)) + v16) - (48 : Int32))) (0, 50) 12) + (1 : Int32)))
      else none) exc)
      else none) exc)) exc)) exc)
def D_Mo_readsL (kk : Nat) (G : GS) : Res :=
  (D_Mo_reads kk (111 : Int32) G).bind (fun r => oI r (fun v4 G1 =>
  if v4 = 0 then
    (D_Mo_reads kk (105 : Int32) (si G1 (0, 50) 16 (109 : Int32))).bind (fun r => oI r (fun v8 G5 =>
    if v8 = 0 then
      okI (0 : Int32) G5
    else
      (D_Mo_reads kk (109 : Int32) G5).bind (fun r => oI r (fun v12 G9 =>
      if v12 = 0 then
        okI (0 : Int32) G9
      else
        (D_Mo_reads kk (105 : Int32) G9).bind (fun r => oI r (fun v16 G13 =>
        if v16 = 0 then
          okI (0 : Int32) G13
        else
          (D_Mo_reads kk (116 : Int32) G13).bind (fun r => oI r (fun v20 G17 =>
          if v20 = 0 then
            okI (0 : Int32) G17
          else
            (D_Mo_reads kk (32 : Int32) G17).bind (fun r => oI r (fun v24 G21 =>
            if v24 = 0 then
              okI (0 : Int32) G21
            else
              (D_Mo_readsNumber kk (0 : Int32) G21).bind (fun r => oI r (fun v28 G25 =>
              if v28 = 0 then
                okI (0 : Int32) G25
              else
                okI (1 : Int32) G25) exc)) exc)) exc)) exc)) exc)) exc)
  else
    (D_Mo_reads kk (97 : Int32) G1).bind (fun r => oI r (fun v32 G29 =>
    if v32 = 0 then
      okI (0 : Int32) G29
    else
      (D_Mo_reads kk (100 : Int32) G29).bind (fun r => oI r (fun v36 G33 =>
      if v36 = 0 then
        okI (0 : Int32) G33
      else
        (D_Mo_reads kk (32 : Int32) G33).bind (fun r => oI r (fun v40 G37 =>
        if v40 = 0 then
          okI (0 : Int32) G37
        else
          (D_Mo_readsDigit kk (0 : Int32) G37).bind (fun r => oI r (fun v44 G41 =>
          if v44 = 0 then
            okI (0 : Int32) G41
          else
            (D_Mo_reads kk (32 : Int32) G41).bind (fun r => oI r (fun v48 G45 =>
            if v48 = 0 then
              okI (0 : Int32) G45
            else
              (D_Mo_readsNumber kk (1 : Int32) G45).bind (fun r => oI r (fun v52 G49 =>
              if v52 = 0 then
                okI (0 : Int32) G49
              else
                (D_Mo_reads kk (32 : Int32) G49).bind (fun r => oI r (fun v56 G53 =>
                if v56 = 0 then
                  okI (0 : Int32) G53
                else
                  (D_Mo_readsDigit kk (2 : Int32) G53).bind (fun r => oI r (fun v60 G57 =>
                  if v60 = 0 then
                    okI (0 : Int32) G57
                  else
                    okI (1 : Int32) G57) exc)) exc)) exc)) exc)) exc)) exc)) exc)) exc)) exc)
def D_Mo_readsS (kk : Nat) (G : GS) : Res :=
  (D_Mo_reads kk (104 : Int32) G).bind (fun r => oI r (fun v4 G1 =>
  if v4 = 0 then
    (D_Mo_reads kk (97 : Int32) (si G1 (0, 50) 16 (97 : Int32))).bind (fun r => oI r (fun v8 G5 =>
    if v8 = 0 then
      okI (0 : Int32) G5
    else
      (D_Mo_reads kk (105 : Int32) G5).bind (fun r => oI r (fun v12 G9 =>
      if v12 = 0 then
        okI (0 : Int32) G9
      else
        (D_Mo_reads kk (108 : Int32) G9).bind (fun r => oI r (fun v16 G13 =>
        if v16 = 0 then
          okI (0 : Int32) G13
        else
          (D_Mo_reads kk (32 : Int32) (sa G13 (0, 57) 0 (1 : Int32))).bind (fun r => oI r (fun v20 G17 =>
          if v20 = 0 then
            okI (1 : Int32) G17
          else
            (D_Mo_readsNumber kk (0 : Int32) G17).bind (fun r => oI r (fun v24 G21 =>
            if v24 = 0 then
              okI (0 : Int32) G21
            else
              okI (1 : Int32) G21) exc)) exc)) exc)) exc)) exc)
  else
    (D_Mo_reads kk (105 : Int32) G1).bind (fun r => oI r (fun v28 G25 =>
    if v28 = 0 then
      okI (0 : Int32) G25
    else
      (D_Mo_reads kk (102 : Int32) G25).bind (fun r => oI r (fun v32 G29 =>
      if v32 = 0 then
        okI (0 : Int32) G29
      else
        (D_Mo_reads kk (116 : Int32) G29).bind (fun r => oI r (fun v36 G33 =>
        if v36 = 0 then
          okI (0 : Int32) G33
        else
          (D_Mo_reads kk (32 : Int32) G33).bind (fun r => oI r (fun v40 G37 =>
          if v40 = 0 then
            okI (0 : Int32) G37
          else
            (D_Mo_readsDigit kk (0 : Int32) G37).bind (fun r => oI r (fun v44 G41 =>
            if v44 = 0 then
              okI (0 : Int32) G41
            else
              (D_Mo_reads kk (32 : Int32) G41).bind (fun r => oI r (fun v48 G45 =>
              if v48 = 0 then
                okI (0 : Int32) G45
              else
                (D_Mo_readsDigit kk (1 : Int32) G45).bind (fun r => oI r (fun v52 G49 =>
                if v52 = 0 then
                  okI (0 : Int32) G49
                else
                  okI (1 : Int32) G49) exc)) exc)) exc)) exc)) exc)) exc)) exc)) exc)
def D_Mo_readsDrill (kk : Nat) (G : GS) : Res :=
  (D_Mo_reads kk (114 : Int32) G).bind (fun r => oI r (fun v4 G1 =>
  if v4 = 0 then
    okI (0 : Int32) G1
  else
    (D_Mo_reads kk (105 : Int32) G1).bind (fun r => oI r (fun v8 G5 =>
    if v8 = 0 then
      okI (0 : Int32) G5
    else
      (D_Mo_reads kk (108 : Int32) G5).bind (fun r => oI r (fun v12 G9 =>
      if v12 = 0 then
        okI (0 : Int32) G9
      else
        (D_Mo_reads kk (108 : Int32) G9).bind (fun r => oI r (fun v16 G13 =>
        if v16 = 0 then
          okI (0 : Int32) G13
        else
          (D_Mo_reads kk (32 : Int32) G13).bind (fun r => oI r (fun v20 G17 =>
          if v20 = 0 then
            okI (0 : Int32) G17
          else
            (D_Mo_reads kk (45 : Int32) G17).bind (fun r => oI r (fun v24 G21 =>
            (D_Mo_readsNumber kk (0 : Int32) G21).bind (fun r => oI r (fun v28 G25 =>
            if v28 = 0 then
              okI (0 : Int32) G25
            else
              if v24 = 0 then
                okI (1 : Int32) G25
              else
                okI (1 : Int32) (sa G25 (0, 57) 0 (-(ga G25 (0, 57) 0)))) exc)) exc)) exc)) exc)) exc)) exc)) exc)
def D_Mo_readsCommand (kk : Nat) (G : GS) : Res :=
  (D_Mo_nextChar kk G).bind (fun r => oI r (fun v4 G1 =>
  (D_Mo_reads kk (108 : Int32) (si G1 (0, 50) 16 v4)).bind (fun r => oI r (fun v8 G5 =>
  if v8 = 0 then
    (D_Mo_reads kk (117 : Int32) G5).bind (fun r => oI r (fun v12 G9 =>
    if v12 = 0 then
      (D_Mo_reads kk (115 : Int32) G9).bind (fun r => oI r (fun v16 G13 =>
      if v16 = 0 then
        (D_Mo_reads kk (100 : Int32) G13).bind (fun r => oI r (fun v20 G17 =>
        if v20 = 0 then
          (D_Mo_reads kk (116 : Int32) G17).bind (fun r => oI r (fun v24 G21 =>
          if v24 = 0 then
            okI (0 : Int32) G21
          else
            (D_Mo_reads kk (117 : Int32) G21).bind (fun r => oI r (fun v28 G25 =>
            if v28 = 0 then
              okI (0 : Int32) G25
            else
              (D_Mo_reads kk (114 : Int32) G25).bind (fun r => oI r (fun v32 G29 =>
              if v32 = 0 then
                okI (0 : Int32) G29
              else
                (D_Mo_reads kk (110 : Int32) G29).bind (fun r => oI r (fun v36 G33 =>
                if v36 = 0 then
                  okI (0 : Int32) G33
                else
                  okI (1 : Int32) G33) exc)) exc)) exc)) exc)
        else
          (D_Mo_readsDrill kk G17).bind (fun r => oI r (fun v40 G37 =>
          okI v40 G37) exc)) exc)
      else
        (D_Mo_readsS kk G13).bind (fun r => oI r (fun v44 G41 =>
        okI v44 G41) exc)) exc)
    else
      (D_Mo_reads kk (110 : Int32) G9).bind (fun r => oI r (fun v48 G45 =>
      if v48 = 0 then
        okI (0 : Int32) G45
      else
        (D_Mo_reads kk (108 : Int32) G45).bind (fun r => oI r (fun v52 G49 =>
        if v52 = 0 then
          okI (0 : Int32) G49
        else
          (D_Mo_reads kk (111 : Int32) G49).bind (fun r => oI r (fun v56 G53 =>
          if v56 = 0 then
            okI (0 : Int32) G53
          else
            (D_Mo_reads kk (97 : Int32) G53).bind (fun r => oI r (fun v60 G57 =>
            if v60 = 0 then
              okI (0 : Int32) G57
            else
              (D_Mo_reads kk (100 : Int32) G57).bind (fun r => oI r (fun v64 G61 =>
              if v64 = 0 then
                okI (0 : Int32) G61
              else
                (D_Mo_reads kk (32 : Int32) G61).bind (fun r => oI r (fun v68 G65 =>
                if v68 = 0 then
                  okI (0 : Int32) G65
                else
                  (D_Mo_readsDigit kk (0 : Int32) G65).bind (fun r => oI r (fun v72 G69 =>
                  if v72 = 0 then
                    okI (0 : Int32) G69
                  else
                    okI (1 : Int32) G69) exc)) exc)) exc)) exc)) exc)) exc)) exc)) exc)
  else
    (D_Mo_readsL kk G5).bind (fun r => oI r (fun v76 G73 =>
    okI v76 G73) exc)) exc)) exc)
def L_Mo_readsAll (kk : Nat) : Nat → Int32 → GS → Res
  | 0 => fun _ _ => none
  | k + 1 => fun x1 G =>
    if x1 = 0 then
      if (gi G (0, 50) 12) = (gi G (0, 50) 11) then
        okI (1 : Int32) G
      else
        okI (0 : Int32) G
    else
      (D_Mo_readsCommand kk G).bind (fun r => oI r (fun v4 G1 =>
      if v4 = 0 then
        okI (0 : Int32) G1
      else
        (D_Mo_reads kk (59 : Int32) G1).bind (fun r => oI r (fun v8 G5 =>
        (L_Mo_readsAll kk k) v8 G5) exc)) exc)
def D_Mo_readsAll (kk : Nat) (G : GS) : Res :=
  (L_Mo_readsAll kk kk) (1 : Int32) (si G (0, 50) 12 (0 : Int32))
def D_Mo_notNow (kk : Nat) (G : GS) : Res :=
  if (gi G (0, 50) 16) = (97 : Int32) then
    (D_Mo_notSail kk (ga G (0, 57) 0) G).bind (fun r => oI r (fun v4 G1 =>
    okI v4 G1) exc)
  else if (gi G (0, 50) 16) = (100 : Int32) then
    (D_Mo_notDrill kk (ga G (0, 57) 0) G).bind (fun r => oI r (fun v8 G5 =>
    okI v8 G5) exc)
  else if (gi G (0, 50) 16) = (108 : Int32) then
    (D_Mo_notLoad kk (ga G (0, 57) 0) (ga G (0, 57) 1) (ga G (0, 57) 2) G).bind (fun r => oI r (fun v12 G9 =>
    okI v12 G9) exc)
  else if (gi G (0, 50) 16) = (109 : Int32) then
    (D_Mo_notLimit kk (ga G (0, 57) 0) G).bind (fun r => oI r (fun v16 G13 =>
    okI v16 G13) exc)
  else if (gi G (0, 50) 16) = (115 : Int32) then
    (D_Mo_notShift kk (ga G (0, 57) 0) (ga G (0, 57) 1) G).bind (fun r => oI r (fun v20 G17 =>
    okI v20 G17) exc)
  else if (gi G (0, 50) 16) = (117 : Int32) then
    (D_Mo_notUnload kk (ga G (0, 57) 0) G).bind (fun r => oI r (fun v24 G21 =>
    okI v24 G21) exc)
  else 
    okI (0 : Int32) G
def D_Mo_doesNow (kk : Nat) (G : GS) : Res :=
  if (gi G (0, 50) 16) = (97 : Int32) then
    (D_Mo_sails kk (ga G (0, 57) 0) G).bind (fun r => oI r (fun v4 G1 =>
    okI v4 G1) exc)
  else if (gi G (0, 50) 16) = (100 : Int32) then
    (D_Mo_drills kk (ga G (0, 57) 0) G).bind (fun r => oI r (fun v8 G5 =>
    okI v8 G5) exc)
  else if (gi G (0, 50) 16) = (108 : Int32) then
    (D_Mo_loads kk (ga G (0, 57) 0) (ga G (0, 57) 1) (ga G (0, 57) 2) G).bind (fun r => oI r (fun v12 G9 =>
    okI v12 G9) exc)
  else if (gi G (0, 50) 16) = (109 : Int32) then
    (D_Mo_setsLimit kk (ga G (0, 57) 0) G).bind (fun r => oI r (fun v16 G13 =>
    okI v16 G13) exc)
  else if (gi G (0, 50) 16) = (115 : Int32) then
    (D_Mo_shifts kk (ga G (0, 57) 0) (ga G (0, 57) 1) G).bind (fun r => oI r (fun v20 G17 =>
    okI v20 G17) exc)
  else if (gi G (0, 50) 16) = (117 : Int32) then
    (D_Mo_unloads kk (ga G (0, 57) 0) G).bind (fun r => oI r (fun v24 G21 =>
    okI v24 G21) exc)
  else 
    (D_Mo_turns kk G).bind (fun r => oI r (fun v28 G25 =>
    okI v28 G25) exc)
def L_Mo_doesAll (kk : Nat) : Nat → Int32 → GS → Res
  | 0 => fun _ _ => none
  | k + 1 => fun x1 G =>
    if x1 = 0 then
      okI (1 : Int32) G
    else
      (D_Mo_readsCommand kk G).bind (fun r => oI r (fun v4 G1 =>
      (D_Mo_notNow kk G1).bind (fun r => oI r (fun v8 G5 =>
      if v8 = 0 then
        (D_Mo_doesNow kk G5).bind (fun r => oI r (fun v12 G9 =>
        (D_Mo_reads kk (59 : Int32) (si G9 (0, 50) 17 ((gi G9 (0, 50) 17) + (1 : Int32)))).bind (fun r => oI r (fun v16 G13 =>
        (L_Mo_doesAll kk k) v16 G13) exc)) exc)
      else
        okI (0 : Int32) G5) exc)) exc)
def D_Mo_doesAll (kk : Nat) (G : GS) : Res :=
  (L_Mo_doesAll kk kk) (1 : Int32) (si (si G (0, 50) 17 (0 : Int32)) (0, 50) 12 (0 : Int32))
def D_Mo_runScript (kk : Nat) (G : GS) : Res :=
  (D_Mo_readsAll kk (si G (0, 50) 0 (0 : Int32))).bind (fun r => oI r (fun v4 G1 =>
  if v4 = 0 then
    (D_Mo_fails kk (1 : Int32) (si (si G1 (0, 50) 13 (gi G1 (0, 50) 12)) (0, 50) 11 (0 : Int32))).bind (fun r => oI r (fun v25 G22 =>
    okI v25 G22) exc)
  else
    (D_Mo_copies kk G1).bind (fun r => oV r (fun G5 =>
    (D_Mo_doesAll kk G5).bind (fun r => oI r (fun v11 G8 =>
    if v11 = 0 then
      (D_Mo_goesBack kk (si G8 (0, 50) 11 (0 : Int32))).bind (fun r => oV r (fun G12 =>
      (D_Mo_fails kk (2 : Int32) (si G12 (0, 50) 14 (gi G12 (0, 50) 17))).bind (fun r => oI r (fun v18 G15 =>
      okI v18 G15) exc)) exc)
    else
      (D_Mo_keeps kk (si G8 (0, 50) 11 (0 : Int32))).bind (fun r => oV r (fun G19 =>
      okI (gi G19 (0, 50) 17) G19) exc)) exc)) exc)) exc)
def D_Mo_errorPosition (kk : Nat) (G : GS) : Res :=
  if 0 ≤ (gi (si G (0, 50) 0 (0 : Int32)) (0, 50) 13) then
    okI (gi (si G (0, 50) 0 (0 : Int32)) (0, 50) 13) (si G (0, 50) 0 (0 : Int32))
  else
    (D_Mo_fails kk (1 : Int32) (si G (0, 50) 0 (0 : Int32))).bind (fun r => oI r (fun v4 G1 =>
    okI v4 G1) exc)
def D_Mo_failedCommand (kk : Nat) (G : GS) : Res :=
  if 0 ≤ (gi (si G (0, 50) 0 (0 : Int32)) (0, 50) 14) then
    okI (gi (si G (0, 50) 0 (0 : Int32)) (0, 50) 14) (si G (0, 50) 0 (0 : Int32))
  else
    (D_Mo_fails kk (1 : Int32) (si G (0, 50) 0 (0 : Int32))).bind (fun r => oI r (fun v4 G1 =>
    okI v4 G1) exc)
def L_Mo_undo (kk : Nat) : Nat → Int32 → Int32 → GS → Res
  | 0 => fun _ _ _ => none
  | k + 1 => fun x1 x2 G =>
    if (156 : Int32) ≤ x2 then
      okI (gi G (0, 50) 5) G
    else
      bif inb (((156 : Int32) * x1) + x2) 1248 then
      bif inb x2 156 then
      (L_Mo_undo kk k) x1 (x2 + (1 : Int32)) (sa G (0, 51) x2.toNatClampNeg (ga G (0, 52) (((156 : Int32) * x1) + x2).toNatClampNeg))
      else none
      else none
def D_Mo_undo (kk : Nat) (G : GS) : Res :=
  if (gi (si G (0, 50) 0 (0 : Int32)) (0, 50) 5) = 0 then
    (D_Mo_fails kk (1 : Int32) (si G (0, 50) 0 (0 : Int32))).bind (fun r => oI r (fun v4 G1 =>
    okI v4 G1) exc)
  else
    (L_Mo_undo kk kk) (((gi (si (si G (0, 50) 0 (0 : Int32)) (0, 50) 5 ((gi (si G (0, 50) 0 (0 : Int32)) (0, 50) 5) - (1 : Int32))) (0, 50) 6) + (gi (si (si G (0, 50) 0 (0 : Int32)) (0, 50) 5 ((gi (si G (0, 50) 0 (0 : Int32)) (0, 50) 5) - (1 : Int32))) (0, 50) 5)) - ((gi (si (si G (0, 50) 0 (0 : Int32)) (0, 50) 5 ((gi (si G (0, 50) 0 (0 : Int32)) (0, 50) 5) - (1 : Int32))) (0, 50) 6) + (gi (si (si G (0, 50) 0 (0 : Int32)) (0, 50) 5 ((gi (si G (0, 50) 0 (0 : Int32)) (0, 50) 5) - (1 : Int32))) (0, 50) 5)) / (8 : Int32) * (8 : Int32)) (0 : Int32) (si (si G (0, 50) 0 (0 : Int32)) (0, 50) 5 ((gi (si G (0, 50) 0 (0 : Int32)) (0, 50) 5) - (1 : Int32)))
def L_Mo_save (kk : Nat) : Nat → Int32 → GS → Res
  | 0 => fun _ _ => none
  | k + 1 => fun x1 G =>
    if (156 : Int32) ≤ x1 then
      (D_Mo_countAll kk (si G (0, 50) 7 (1 : Int32))).bind (fun r => oI r (fun v4 G1 =>
      okI v4 G1) exc)
    else
      bif inb x1 156 then
      bif inb x1 156 then
      (L_Mo_save kk k) (x1 + (1 : Int32)) (sa G (0, 53) x1.toNatClampNeg (ga G (0, 51) x1.toNatClampNeg))
      else none
      else none
def D_Mo_save (kk : Nat) (G : GS) : Res :=
  (L_Mo_save kk kk) (0 : Int32) (si G (0, 50) 0 (0 : Int32))
def L_Mo_restore (kk : Nat) : Nat → Int32 → GS → Res
  | 0 => fun _ _ => none
  | k + 1 => fun x1 G =>
    if (156 : Int32) ≤ x1 then
      (D_Mo_countAll kk (si (si G (0, 50) 5 (0 : Int32)) (0, 50) 6 (0 : Int32))).bind (fun r => oI r (fun v8 G5 =>
      okI v8 G5) exc)
    else
      bif inb x1 156 then
      bif inb x1 156 then
      (L_Mo_restore kk k) (x1 + (1 : Int32)) (sa G (0, 51) x1.toNatClampNeg (ga G (0, 53) x1.toNatClampNeg))
      else none
      else none
def D_Mo_restore (kk : Nat) (G : GS) : Res :=
  if (gi (si G (0, 50) 0 (0 : Int32)) (0, 50) 7) = 0 then
    (D_Mo_fails kk (1 : Int32) (si G (0, 50) 0 (0 : Int32))).bind (fun r => oI r (fun v4 G1 =>
    okI v4 G1) exc)
  else
    (L_Mo_restore kk kk) (0 : Int32) (si G (0, 50) 0 (0 : Int32))
end
section
/-! Every method as a function (printed by gen/emit.py from the class files). -/
def D_Law_load (kk : Nat) (a1 : Int32) (a2 : Int32) (a3 : Int32) (G : GS) : Res :=
  (D_PB_load kk a1 a2 a3 G).bind (fun r => oI r (fun v4 G1 =>
  okI (0 : Int32) (so_ G1 v4.toInt64)) (fun e2 G3 => if e2 = 1 then okI (1 : Int32) G3 else if e2 = 2 then okI (2 : Int32) G3 else if e2 = 4 then okI (3 : Int32) G3 else if e2 = 5 then okI (4 : Int32) G3 else none))
def D_Law_unload (kk : Nat) (a1 : Int32) (G : GS) : Res :=
  (D_PB_unload kk a1 G).bind (fun r => oI r (fun v4 G1 =>
  okI (0 : Int32) (so_ G1 v4.toInt64)) (fun e2 G3 => if e2 = 1 then okI (1 : Int32) G3 else if e2 = 3 then okI (2 : Int32) G3 else if e2 = 4 then okI (3 : Int32) G3 else if e2 = 5 then okI (4 : Int32) G3 else none))
def D_Law_shift (kk : Nat) (a1 : Int32) (a2 : Int32) (G : GS) : Res :=
  (D_PB_shift kk a1 a2 G).bind (fun r => oI r (fun v4 G1 =>
  okI (0 : Int32) (so_ G1 v4.toInt64)) (fun e2 G3 => if e2 = 1 then okI (1 : Int32) G3 else if e2 = 2 then okI (2 : Int32) G3 else if e2 = 3 then okI (3 : Int32) G3 else if e2 = 4 then okI (4 : Int32) G3 else if e2 = 5 then okI (5 : Int32) G3 else none))
def D_Law_sail (kk : Nat) (a1 : Int32) (G : GS) : Res :=
  (D_PB_sail kk a1 G).bind (fun r => oI r (fun v4 G1 =>
  okI (0 : Int32) (so_ G1 v4.toInt64)) (fun e2 G3 => if e2 = 2 then okI (1 : Int32) G3 else none))
def D_Law_setLimit (kk : Nat) (a1 : Int32) (G : GS) : Res :=
  (D_PB_setLimit kk a1 G).bind (fun r => oI r (fun v4 G1 =>
  okI (0 : Int32) (so_ G1 v4.toInt64)) (fun e2 G3 => if e2 = 2 then okI (1 : Int32) G3 else if e2 = 5 then okI (2 : Int32) G3 else none))
def D_Law_drill (kk : Nat) (a1 : Int32) (G : GS) : Res :=
  (D_PB_drill kk a1 G).bind (fun r => oI r (fun v4 G1 =>
  if v4 = 0 then
    okI (0 : Int32) (so_ G1 (0 : Int64))
  else
    okI (0 : Int32) (so_ G1 (1 : Int64))) (fun e2 G3 => if e2 = 2 then okI (1 : Int32) G3 else none))
def D_Law_stackHeight (kk : Nat) (a1 : Int32) (G : GS) : Res :=
  (D_PB_stackHeight kk a1 G).bind (fun r => oI r (fun v4 G1 =>
  okI (0 : Int32) (so_ G1 v4.toInt64)) (fun e2 G3 => if e2 = 1 then okI (1 : Int32) G3 else none))
def D_Law_pillowAt (kk : Nat) (a1 : Int32) (a2 : Int32) (G : GS) : Res :=
  (D_PB_pillowAt kk a1 a2 G).bind (fun r => oI r (fun v4 G1 =>
  okI (0 : Int32) (so_ G1 v4.toInt64)) (fun e2 G3 => if e2 = 1 then okI (1 : Int32) G3 else if e2 = 3 then okI (2 : Int32) G3 else none))
def D_Law_weightOf (kk : Nat) (a1 : Int32) (G : GS) : Res :=
  (D_PB_weightOf kk a1 G).bind (fun r => oI r (fun v4 G1 =>
  okI (0 : Int32) (so_ G1 v4.toInt64)) (fun e2 G3 => if e2 = 3 then okI (1 : Int32) G3 else none))
def D_Law_destinationOf (kk : Nat) (a1 : Int32) (G : GS) : Res :=
  (D_PB_destinationOf kk a1 G).bind (fun r => oI r (fun v4 G1 =>
  okI (0 : Int32) (so_ G1 v4.toInt64)) (fun e2 G3 => if e2 = 3 then okI (1 : Int32) G3 else none))
def D_Law_bayOf (kk : Nat) (a1 : Int32) (G : GS) : Res :=
  (D_PB_bayOf kk a1 G).bind (fun r => oI r (fun v4 G1 =>
  okI (0 : Int32) (so_ G1 v4.toInt64)) (fun e2 G3 => if e2 = 3 then okI (1 : Int32) G3 else none))
def D_Law_positionOf (kk : Nat) (a1 : Int32) (G : GS) : Res :=
  (D_PB_positionOf kk a1 G).bind (fun r => oI r (fun v4 G1 =>
  okI (0 : Int32) (so_ G1 v4.toInt64)) (fun e2 G3 => if e2 = 3 then okI (1 : Int32) G3 else none))
def D_Law_ageOf (kk : Nat) (a1 : Int32) (G : GS) : Res :=
  (D_PB_ageOf kk a1 G).bind (fun r => oI r (fun v4 G1 =>
  okI (0 : Int32) (so_ G1 v4.toInt64)) (fun e2 G3 => if e2 = 3 then okI (1 : Int32) G3 else none))
def D_Law_weightFor (kk : Nat) (a1 : Int32) (G : GS) : Res :=
  (D_PB_weightFor kk a1 G).bind (fun r => oI r (fun v4 G1 =>
  okI (0 : Int32) (so_ G1 v4.toInt64)) (fun e2 G3 => if e2 = 1 then okI (1 : Int32) G3 else none))
def D_Law_levelingBay (kk : Nat) (a1 : Int32) (G : GS) : Res :=
  (D_PB_levelingBay kk a1 G).bind (fun r => oI r (fun v4 G1 =>
  okI (0 : Int32) (so_ G1 v4.toInt64)) (fun e2 G3 => if e2 = 2 then okI (1 : Int32) G3 else if e2 = 3 then okI (2 : Int32) G3 else none))
def D_Law_legsTo (kk : Nat) (a1 : Int32) (G : GS) : Res :=
  (D_PB_legsTo kk a1 G).bind (fun r => oI r (fun v4 G1 =>
  okI (0 : Int32) (so_ G1 v4.toInt64)) (fun e2 G3 => if e2 = 1 then okI (1 : Int32) G3 else none))
def D_Law_portAfter (kk : Nat) (a1 : Int32) (G : GS) : Res :=
  (D_PB_portAfter kk a1 G).bind (fun r => oI r (fun v4 G1 =>
  okI (0 : Int32) (so_ G1 v4.toInt64)) (fun e2 G3 => if e2 = 2 then okI (1 : Int32) G3 else none))
def D_Law_pillowsInTheWay (kk : Nat) (a1 : Int32) (G : GS) : Res :=
  (D_PB_pillowsInTheWay kk a1 G).bind (fun r => oI r (fun v4 G1 =>
  okI (0 : Int32) (so_ G1 v4.toInt64)) (fun e2 G3 => if e2 = 3 then okI (1 : Int32) G3 else none))
def D_Law_oldestIn (kk : Nat) (a1 : Int32) (G : GS) : Res :=
  (D_PB_oldestIn kk a1 G).bind (fun r => oI r (fun v4 G1 =>
  okI (0 : Int32) (so_ G1 v4.toInt64)) (fun e2 G3 => if e2 = 1 then okI (1 : Int32) G3 else if e2 = 3 then okI (2 : Int32) G3 else none))
def D_Law_heaviestPort (kk : Nat) (G : GS) : Res :=
  (D_PB_heaviestPort kk G).bind (fun r => oI r (fun v4 G1 =>
  okI (0 : Int32) (so_ G1 v4.toInt64)) (fun e2 G3 => if e2 = 3 then okI (1 : Int32) G3 else none))
def D_Law_pillowByTurn (kk : Nat) (a1 : Int32) (G : GS) : Res :=
  (D_PB_pillowByTurn kk a1 G).bind (fun r => oI r (fun v4 G1 =>
  okI (0 : Int32) (so_ G1 v4.toInt64)) (fun e2 G3 => if e2 = 3 then okI (1 : Int32) G3 else none))
def D_Law_bayByWeight (kk : Nat) (a1 : Int32) (G : GS) : Res :=
  (D_PB_bayByWeight kk a1 G).bind (fun r => oI r (fun v4 G1 =>
  okI (0 : Int32) (so_ G1 v4.toInt64)) (fun e2 G3 => if e2 = 3 then okI (1 : Int32) G3 else none))
def D_Law_meanAge (kk : Nat) (G : GS) : Res :=
  (D_PB_meanAge kk G).bind (fun r => oD r (fun v4 G1 =>
  okI (0 : Int32) (sd_ G1 v4)) (fun e2 G3 => if e2 = 6 then okI (1 : Int32) G3 else none))
def D_Law_capsizedShare (kk : Nat) (G : GS) : Res :=
  (D_PB_capsizedShare kk G).bind (fun r => oF r (fun v4 G1 =>
  if (FP.f2d v4) &&& 0x7fffffffffffffff ≤ 0x7ff0000000000000 then
  okI (0 : Int32) (sd_ G1 (FP.f2d v4))
  else none) (fun e2 G3 => if e2 = 6 then okI (1 : Int32) G3 else none))
def D_Law_renderStack (kk : Nat) (a1 : Int32) (G : GS) : Res :=
  (D_PB_renderStack kk a1 G).bind (fun r => oI r (fun v4 G1 =>
  okI (0 : Int32) (so_ G1 v4.toInt64)) (fun e2 G3 => if e2 = 1 then okI (1 : Int32) G3 else none))
def D_Law_outputAt (kk : Nat) (a1 : Int32) (G : GS) : Res :=
  (D_PB_outputAt kk a1 G).bind (fun r => oI r (fun v4 G1 =>
  okI (0 : Int32) (so_ G1 v4.toInt64)) (fun e2 G3 => if e2 = 1 then okI (1 : Int32) G3 else none))
def D_Law_type (kk : Nat) (a1 : Int32) (G : GS) : Res :=
  (D_PB_type kk a1 G).bind (fun r => oI r (fun v4 G1 =>
  okI (0 : Int32) (so_ G1 v4.toInt64)) (fun e2 G3 => if e2 = 2 then okI (1 : Int32) G3 else if e2 = 4 then okI (2 : Int32) G3 else none))
def D_Law_runScript (kk : Nat) (G : GS) : Res :=
  (D_PB_runScript kk G).bind (fun r => oI r (fun v4 G1 =>
  okI (0 : Int32) (so_ G1 v4.toInt64)) (fun e2 G3 => if e2 = 2 then okI (1 : Int32) G3 else if e2 = 4 then okI (2 : Int32) G3 else none))
def D_Law_errorPosition (kk : Nat) (G : GS) : Res :=
  (D_PB_errorPosition kk G).bind (fun r => oI r (fun v4 G1 =>
  okI (0 : Int32) (so_ G1 v4.toInt64)) (fun e2 G3 => if e2 = 3 then okI (1 : Int32) G3 else none))
def D_Law_failedCommand (kk : Nat) (G : GS) : Res :=
  (D_PB_failedCommand kk G).bind (fun r => oI r (fun v4 G1 =>
  okI (0 : Int32) (so_ G1 v4.toInt64)) (fun e2 G3 => if e2 = 3 then okI (1 : Int32) G3 else none))
def D_Law_undo (kk : Nat) (G : GS) : Res :=
  (D_PB_undo kk G).bind (fun r => oI r (fun v4 G1 =>
  okI (0 : Int32) (so_ G1 v4.toInt64)) (fun e2 G3 => if e2 = 3 then okI (1 : Int32) G3 else none))
def D_Law_restore (kk : Nat) (G : GS) : Res :=
  (D_PB_restore kk G).bind (fun r => oI r (fun v4 G1 =>
  okI (0 : Int32) (so_ G1 v4.toInt64)) (fun e2 G3 => if e2 = 4 then okI (1 : Int32) G3 else none))
end
section
def A_abs (a : List AV) (G : GS) : Res := match a with
  | [.inl (.int a0)] => D_abs a0 G
  | _ => none
def A_max (a : List AV) (G : GS) : Res := match a with
  | [.inl (.int a0), .inl (.int a1)] => D_max a0 a1 G
  | _ => none
def A_min (a : List AV) (G : GS) : Res := match a with
  | [.inl (.int a0), .inl (.int a1)] => D_min a0 a1 G
  | _ => none
def A_fmod (a : List AV) (G : GS) : Res := match a with
  | [.inl (.int a0), .inl (.int a1)] => D_fmod a0 a1 G
  | _ => none
def A_acopy (a : List AV) (G : GS) : Res := match a with
  | [.inr a0, .inl (.int a1), .inr a2, .inl (.int a3), .inl (.int a4)] => D_acopy a0 a1 a2 a3 a4 G
  | _ => none
def A_slen (a : List AV) (G : GS) : Res := match a with
  | [.inr (a9, 200)] => D_slen a9 G
  | _ => none
def A_sat (a : List AV) (G : GS) : Res := match a with
  | [.inr (a9, 200), .inl (.int a0)] => D_sat a9 a0 G
  | _ => none
def A_bapc (a : List AV) (G : GS) : Res := match a with
  | [.inr (_, 16), .inl (.int a0)] => D_bapc a0 G
  | _ => none
def A_bapi (a : List AV) (G : GS) : Res := match a with
  | [.inr (_, 16), .inl (.int a0)] => D_bapi a0 G
  | _ => none
def A_blen (a : List AV) (G : GS) : Res := match a with
  | [.inr (_, 16)] => D_blen G
  | _ => none
def A_bset (a : List AV) (G : GS) : Res := match a with
  | [.inr (_, 16), .inl (.int a0)] => D_bset a0 G
  | _ => none
def A_bat (a : List AV) (G : GS) : Res := match a with
  | [.inr (_, 16), .inl (.int a0)] => D_bat a0 G
  | _ => none
def A_Cargo_copyFrom (kk : Nat) (a : List AV) (G : GS) : Res := match a with
  | [.inr (j, 2), .inr (a0, 2)] => D_Cargo_copyFrom kk j a0 G
  | _ => none
def A_PB_isBay (kk : Nat) (a : List AV) (G : GS) : Res := match a with
  | [.inl (.int a0)] => D_PB_isBay kk a0 G
  | _ => none
def A_Cargo_heightOf (kk : Nat) (a : List AV) (G : GS) : Res := match a with
  | [.inr (j, 2), .inl (.int a0)] => D_Cargo_heightOf kk j a0 G
  | _ => none
def A_Cargo_isTaken (kk : Nat) (a : List AV) (G : GS) : Res := match a with
  | [.inr (j, 2), .inl (.int a0)] => D_Cargo_isTaken kk j a0 G
  | _ => none
def A_Cargo_slotAt (kk : Nat) (a : List AV) (G : GS) : Res := match a with
  | [.inr (j, 2), .inl (.int a0), .inl (.int a1)] => D_Cargo_slotAt kk j a0 a1 G
  | _ => none
def A_Cargo_topSlot (kk : Nat) (a : List AV) (G : GS) : Res := match a with
  | [.inr (j, 2), .inl (.int a0)] => D_Cargo_topSlot kk j a0 G
  | _ => none
def A_Cargo_slotOf (kk : Nat) (a : List AV) (G : GS) : Res := match a with
  | [.inr (j, 2), .inl (.int a0)] => D_Cargo_slotOf kk j a0 G
  | _ => none
def A_PB_isSlot (kk : Nat) (a : List AV) (G : GS) : Res := match a with
  | [.inl (.int a0)] => D_PB_isSlot kk a0 G
  | _ => none
def A_Cargo_numberIn (kk : Nat) (a : List AV) (G : GS) : Res := match a with
  | [.inr (j, 2), .inl (.int a0)] => D_Cargo_numberIn kk j a0 G
  | _ => none
def A_Cargo_weightIn (kk : Nat) (a : List AV) (G : GS) : Res := match a with
  | [.inr (j, 2), .inl (.int a0)] => D_Cargo_weightIn kk j a0 G
  | _ => none
def A_Cargo_destinationIn (kk : Nat) (a : List AV) (G : GS) : Res := match a with
  | [.inr (j, 2), .inl (.int a0)] => D_Cargo_destinationIn kk j a0 G
  | _ => none
def A_Cargo_dayIn (kk : Nat) (a : List AV) (G : GS) : Res := match a with
  | [.inr (j, 2), .inl (.int a0)] => D_Cargo_dayIn kk j a0 G
  | _ => none
def A_Cargo_countPillows (kk : Nat) (a : List AV) (G : GS) : Res := match a with
  | [.inr (j, 2)] => D_Cargo_countPillows kk j G
  | _ => none
def A_Cargo_weightOfAll (kk : Nat) (a : List AV) (G : GS) : Res := match a with
  | [.inr (j, 2)] => D_Cargo_weightOfAll kk j G
  | _ => none
def A_Cargo_weightForPort (kk : Nat) (a : List AV) (G : GS) : Res := match a with
  | [.inr (j, 2), .inl (.int a0)] => D_Cargo_weightForPort kk j a0 G
  | _ => none
def A_Cargo_weightOfBay (kk : Nat) (a : List AV) (G : GS) : Res := match a with
  | [.inr (j, 2), .inl (.int a0)] => D_Cargo_weightOfBay kk j a0 G
  | _ => none
def A_PB_leverArm (kk : Nat) (a : List AV) (G : GS) : Res := match a with
  | [.inl (.int a0)] => D_PB_leverArm kk a0 G
  | _ => none
def A_Cargo_momentOfPillows (kk : Nat) (a : List AV) (G : GS) : Res := match a with
  | [.inr (j, 2)] => D_Cargo_momentOfPillows kk j G
  | _ => none
def A_Cargo_momentOfBays (kk : Nat) (a : List AV) (G : GS) : Res := match a with
  | [.inr (j, 2)] => D_Cargo_momentOfBays kk j G
  | _ => none
def A_Cargo_put (kk : Nat) (a : List AV) (G : GS) : Res := match a with
  | [.inr (j, 2), .inl (.int a0), .inl (.int a1), .inl (.int a2), .inl (.int a3), .inl (.int a4)] => D_Cargo_put kk j a0 a1 a2 a3 a4 G
  | _ => none
def A_Cargo_removeTop (kk : Nat) (a : List AV) (G : GS) : Res := match a with
  | [.inr (j, 2), .inl (.int a0)] => D_Cargo_removeTop kk j a0 G
  | _ => none
def A_History_placeAt (kk : Nat) (a : List AV) (G : GS) : Res := match a with
  | [.inr (0, 10), .inl (.int a0)] => D_History_placeAt kk a0 G
  | _ => none
def A_Voyage_copyFrom (kk : Nat) (a : List AV) (G : GS) : Res := match a with
  | [.inr (j, 3), .inr (a0, 3)] => D_Voyage_copyFrom kk j a0 G
  | _ => none
def A_Tally_copyFrom (kk : Nat) (a : List AV) (G : GS) : Res := match a with
  | [.inr (j, 4), .inr (a0, 4)] => D_Tally_copyFrom kk j a0 G
  | _ => none
def A_State_copyFrom (kk : Nat) (a : List AV) (G : GS) : Res := match a with
  | [.inr (j, 1), .inr (a0, 1)] => D_State_copyFrom kk j a0 G
  | _ => none
def A_History_draft (kk : Nat) (a : List AV) (G : GS) : Res := match a with
  | [.inr (0, 10), .inr (a0, 1)] => D_History_draft kk a0 G
  | _ => none
def A_History_keepDraft (kk : Nat) (a : List AV) (G : GS) : Res := match a with
  | [.inr (0, 10)] => D_History_keepDraft kk G
  | _ => none
def A_History_takeDraftBack (kk : Nat) (a : List AV) (G : GS) : Res := match a with
  | [.inr (0, 10), .inr (a0, 1)] => D_History_takeDraftBack kk a0 G
  | _ => none
def A_History_takeLatestBack (kk : Nat) (a : List AV) (G : GS) : Res := match a with
  | [.inr (0, 10), .inr (a0, 1)] => D_History_takeLatestBack kk a0 G
  | _ => none
def A_History_forget (kk : Nat) (a : List AV) (G : GS) : Res := match a with
  | [.inr (0, 10)] => D_History_forget kk G
  | _ => none
def A_Script_isFull (kk : Nat) (a : List AV) (G : GS) : Res := match a with
  | [.inr (0, 12)] => D_Script_isFull kk G
  | _ => none
def A_Script_append (kk : Nat) (a : List AV) (G : GS) : Res := match a with
  | [.inr (0, 12), .inl (.int a0)] => D_Script_append kk a0 G
  | _ => none
def A_Script_empty (kk : Nat) (a : List AV) (G : GS) : Res := match a with
  | [.inr (0, 12)] => D_Script_empty kk G
  | _ => none
def A_Script_commandAt (kk : Nat) (a : List AV) (G : GS) : Res := match a with
  | [.inr (0, 12), .inl (.int a0)] => D_Script_commandAt kk a0 G
  | _ => none
def A_Script_argumentAt (kk : Nat) (a : List AV) (G : GS) : Res := match a with
  | [.inr (0, 12), .inl (.int a0), .inl (.int a1)] => D_Script_argumentAt kk a0 a1 G
  | _ => none
def A_Script_keywordOf (kk : Nat) (a : List AV) (G : GS) : Res := match a with
  | [.inl (.int a0)] => D_Script_keywordOf kk a0 G
  | _ => none
def A_Script_isNext (kk : Nat) (a : List AV) (G : GS) : Res := match a with
  | [.inr (0, 12), .inl (.int a0), .inl (.int a1)] => D_Script_isNext kk a0 a1 G
  | _ => none
def A_Script_countMatching (kk : Nat) (a : List AV) (G : GS) : Res := match a with
  | [.inr (0, 12), .inr (a0, 200)] => D_Script_countMatching kk a0 G
  | _ => none
def A_Script_readKeyword (kk : Nat) (a : List AV) (G : GS) : Res := match a with
  | [.inr (0, 12)] => D_Script_readKeyword kk G
  | _ => none
def A_Script_takeDigit (kk : Nat) (a : List AV) (G : GS) : Res := match a with
  | [.inr (0, 12)] => D_Script_takeDigit kk G
  | _ => none
def A_Script_setArgument (kk : Nat) (a : List AV) (G : GS) : Res := match a with
  | [.inr (0, 12), .inl (.int a0), .inl (.int a1)] => D_Script_setArgument kk a0 a1 G
  | _ => none
def A_Script_readDigit (kk : Nat) (a : List AV) (G : GS) : Res := match a with
  | [.inr (0, 12), .inl (.int a0)] => D_Script_readDigit kk a0 G
  | _ => none
def A_Script_accept (kk : Nat) (a : List AV) (G : GS) : Res := match a with
  | [.inr (0, 12), .inl (.int a0)] => D_Script_accept kk a0 G
  | _ => none
def A_Script_readNumber (kk : Nat) (a : List AV) (G : GS) : Res := match a with
  | [.inr (0, 12), .inl (.int a0)] => D_Script_readNumber kk a0 G
  | _ => none
def A_Script_readSignedNumber (kk : Nat) (a : List AV) (G : GS) : Res := match a with
  | [.inr (0, 12), .inl (.int a0)] => D_Script_readSignedNumber kk a0 G
  | _ => none
def A_Script_readCommand (kk : Nat) (a : List AV) (G : GS) : Res := match a with
  | [.inr (0, 12)] => D_Script_readCommand kk G
  | _ => none
def A_Script_parse (kk : Nat) (a : List AV) (G : GS) : Res := match a with
  | [.inr (0, 12)] => D_Script_parse kk G
  | _ => none
def A_State_isWithinLimit (kk : Nat) (a : List AV) (G : GS) : Res := match a with
  | [.inr (j, 1), .inl (.int a0)] => D_State_isWithinLimit kk j a0 G
  | _ => none
def A_Voyage_countLegsTo (kk : Nat) (a : List AV) (G : GS) : Res := match a with
  | [.inr (j, 3), .inl (.int a0)] => D_Voyage_countLegsTo kk j a0 G
  | _ => none
def A_State_legsIn (kk : Nat) (a : List AV) (G : GS) : Res := match a with
  | [.inr (j, 1), .inl (.int a0)] => D_State_legsIn kk j a0 G
  | _ => none
def A_State_ageIn (kk : Nat) (a : List AV) (G : GS) : Res := match a with
  | [.inr (j, 1), .inl (.int a0)] => D_State_ageIn kk j a0 G
  | _ => none
def A_PB_isWeight (kk : Nat) (a : List AV) (G : GS) : Res := match a with
  | [.inl (.int a0)] => D_PB_isWeight kk a0 G
  | _ => none
def A_PB_isPort (kk : Nat) (a : List AV) (G : GS) : Res := match a with
  | [.inl (.int a0)] => D_PB_isPort kk a0 G
  | _ => none
def A_State_faultOfMoment (kk : Nat) (a : List AV) (G : GS) : Res := match a with
  | [.inr (j, 1), .inl (.int a0)] => D_State_faultOfMoment kk j a0 G
  | _ => none
def A_State_faultOfLoad (kk : Nat) (a : List AV) (G : GS) : Res := match a with
  | [.inr (j, 1), .inl (.int a0), .inl (.int a1), .inl (.int a2)] => D_State_faultOfLoad kk j a0 a1 a2 G
  | _ => none
def A_State_faultOfUnload (kk : Nat) (a : List AV) (G : GS) : Res := match a with
  | [.inr (j, 1), .inl (.int a0)] => D_State_faultOfUnload kk j a0 G
  | _ => none
def A_State_faultOfShift (kk : Nat) (a : List AV) (G : GS) : Res := match a with
  | [.inr (j, 1), .inl (.int a0), .inl (.int a1)] => D_State_faultOfShift kk j a0 a1 G
  | _ => none
def A_State_faultOfLimit (kk : Nat) (a : List AV) (G : GS) : Res := match a with
  | [.inr (j, 1), .inl (.int a0)] => D_State_faultOfLimit kk j a0 G
  | _ => none
def A_State_faultOf (kk : Nat) (a : List AV) (G : GS) : Res := match a with
  | [.inr (j, 1), .inl (.int a0), .inl (.int a1), .inl (.int a2), .inl (.int a3)] => D_State_faultOf kk j a0 a1 a2 a3 G
  | _ => none
def A_State_addPillow (kk : Nat) (a : List AV) (G : GS) : Res := match a with
  | [.inr (j, 1), .inl (.int a0), .inl (.int a1), .inl (.int a2)] => D_State_addPillow kk j a0 a1 a2 G
  | _ => none
def A_State_deliverTop (kk : Nat) (a : List AV) (G : GS) : Res := match a with
  | [.inr (j, 1), .inl (.int a0)] => D_State_deliverTop kk j a0 G
  | _ => none
def A_State_moveTop (kk : Nat) (a : List AV) (G : GS) : Res := match a with
  | [.inr (j, 1), .inl (.int a0), .inl (.int a1)] => D_State_moveTop kk j a0 a1 G
  | _ => none
def A_Voyage_portIn (kk : Nat) (a : List AV) (G : GS) : Res := match a with
  | [.inr (j, 3), .inl (.int a0)] => D_Voyage_portIn kk j a0 G
  | _ => none
def A_Voyage_advance (kk : Nat) (a : List AV) (G : GS) : Res := match a with
  | [.inr (j, 3), .inl (.int a0)] => D_Voyage_advance kk j a0 G
  | _ => none
def A_Voyage_reverse (kk : Nat) (a : List AV) (G : GS) : Res := match a with
  | [.inr (j, 3)] => D_Voyage_reverse kk j G
  | _ => none
def A_State_replaceLimit (kk : Nat) (a : List AV) (G : GS) : Res := match a with
  | [.inr (j, 1), .inl (.int a0)] => D_State_replaceLimit kk j a0 G
  | _ => none
def A_State_practise (kk : Nat) (a : List AV) (G : GS) : Res := match a with
  | [.inr (j, 1), .inl (.int a0)] => D_State_practise kk j a0 G
  | _ => none
def A_State_perform (kk : Nat) (a : List AV) (G : GS) : Res := match a with
  | [.inr (j, 1), .inl (.int a0), .inl (.int a1), .inl (.int a2), .inl (.int a3)] => D_State_perform kk j a0 a1 a2 a3 G
  | _ => none
def A_PB_throwFault (kk : Nat) (a : List AV) (G : GS) : Res := match a with
  | [.inl (.int a0)] => D_PB_throwFault kk a0 G
  | _ => none
def A_PB_change (kk : Nat) (a : List AV) (G : GS) : Res := match a with
  | [.inr (0, 0), .inl (.int a0), .inl (.int a1), .inl (.int a2), .inl (.int a3)] => D_PB_change kk a0 a1 a2 a3 G
  | _ => none
def A_PB_load (kk : Nat) (a : List AV) (G : GS) : Res := match a with
  | [.inr (0, 0), .inl (.int a0), .inl (.int a1), .inl (.int a2)] => D_PB_load kk a0 a1 a2 G
  | _ => none
def A_PB_unload (kk : Nat) (a : List AV) (G : GS) : Res := match a with
  | [.inr (0, 0), .inl (.int a0)] => D_PB_unload kk a0 G
  | _ => none
def A_PB_shift (kk : Nat) (a : List AV) (G : GS) : Res := match a with
  | [.inr (0, 0), .inl (.int a0), .inl (.int a1)] => D_PB_shift kk a0 a1 G
  | _ => none
def A_PB_sail (kk : Nat) (a : List AV) (G : GS) : Res := match a with
  | [.inr (0, 0), .inl (.int a0)] => D_PB_sail kk a0 G
  | _ => none
def A_PB_turn (kk : Nat) (a : List AV) (G : GS) : Res := match a with
  | [.inr (0, 0)] => D_PB_turn kk G
  | _ => none
def A_PB_setLimit (kk : Nat) (a : List AV) (G : GS) : Res := match a with
  | [.inr (0, 0), .inl (.int a0)] => D_PB_setLimit kk a0 G
  | _ => none
def A_PB_drill (kk : Nat) (a : List AV) (G : GS) : Res := match a with
  | [.inr (0, 0), .inl (.int a0)] => D_PB_drill kk a0 G
  | _ => none
def A_PB_pillowCount (kk : Nat) (a : List AV) (G : GS) : Res := match a with
  | [.inr (0, 0)] => D_PB_pillowCount kk G
  | _ => none
def A_PB_requireBay (kk : Nat) (a : List AV) (G : GS) : Res := match a with
  | [.inl (.int a0)] => D_PB_requireBay kk a0 G
  | _ => none
def A_PB_stackHeight (kk : Nat) (a : List AV) (G : GS) : Res := match a with
  | [.inr (0, 0), .inl (.int a0)] => D_PB_stackHeight kk a0 G
  | _ => none
def A_PB_requireSlot (kk : Nat) (a : List AV) (G : GS) : Res := match a with
  | [.inl (.int a0)] => D_PB_requireSlot kk a0 G
  | _ => none
def A_PB_pillowAt (kk : Nat) (a : List AV) (G : GS) : Res := match a with
  | [.inr (0, 0), .inl (.int a0), .inl (.int a1)] => D_PB_pillowAt kk a0 a1 G
  | _ => none
def A_PB_requirePillow (kk : Nat) (a : List AV) (G : GS) : Res := match a with
  | [.inr (0, 0), .inl (.int a0)] => D_PB_requirePillow kk a0 G
  | _ => none
def A_PB_weightOf (kk : Nat) (a : List AV) (G : GS) : Res := match a with
  | [.inr (0, 0), .inl (.int a0)] => D_PB_weightOf kk a0 G
  | _ => none
def A_PB_destinationOf (kk : Nat) (a : List AV) (G : GS) : Res := match a with
  | [.inr (0, 0), .inl (.int a0)] => D_PB_destinationOf kk a0 G
  | _ => none
def A_PB_bayOf (kk : Nat) (a : List AV) (G : GS) : Res := match a with
  | [.inr (0, 0), .inl (.int a0)] => D_PB_bayOf kk a0 G
  | _ => none
def A_PB_positionOf (kk : Nat) (a : List AV) (G : GS) : Res := match a with
  | [.inr (0, 0), .inl (.int a0)] => D_PB_positionOf kk a0 G
  | _ => none
def A_PB_ageOf (kk : Nat) (a : List AV) (G : GS) : Res := match a with
  | [.inr (0, 0), .inl (.int a0)] => D_PB_ageOf kk a0 G
  | _ => none
def A_PB_isOlder (kk : Nat) (a : List AV) (G : GS) : Res := match a with
  | [.inr (0, 0), .inl (.int a0), .inl (.int a1)] => D_PB_isOlder kk a0 a1 G
  | _ => none
def A_PB_oldestSlotIn (kk : Nat) (a : List AV) (G : GS) : Res := match a with
  | [.inr (0, 0), .inl (.int a0)] => D_PB_oldestSlotIn kk a0 G
  | _ => none
def A_PB_oldestIn (kk : Nat) (a : List AV) (G : GS) : Res := match a with
  | [.inr (0, 0), .inl (.int a0)] => D_PB_oldestIn kk a0 G
  | _ => none
def A_PB_moment (kk : Nat) (a : List AV) (G : GS) : Res := match a with
  | [.inr (0, 0)] => D_PB_moment kk G
  | _ => none
def A_PB_momentByBays (kk : Nat) (a : List AV) (G : GS) : Res := match a with
  | [.inr (0, 0)] => D_PB_momentByBays kk G
  | _ => none
def A_PB_totalWeight (kk : Nat) (a : List AV) (G : GS) : Res := match a with
  | [.inr (0, 0)] => D_PB_totalWeight kk G
  | _ => none
def A_PB_requirePort (kk : Nat) (a : List AV) (G : GS) : Res := match a with
  | [.inl (.int a0)] => D_PB_requirePort kk a0 G
  | _ => none
def A_PB_weightFor (kk : Nat) (a : List AV) (G : GS) : Res := match a with
  | [.inr (0, 0), .inl (.int a0)] => D_PB_weightFor kk a0 G
  | _ => none
def A_PB_limit (kk : Nat) (a : List AV) (G : GS) : Res := match a with
  | [.inr (0, 0)] => D_PB_limit kk G
  | _ => none
def A_PB_listAngle (kk : Nat) (a : List AV) (G : GS) : Res := match a with
  | [.inr (0, 0)] => D_PB_listAngle kk G
  | _ => none
def A_PB_greatestPush (kk : Nat) (a : List AV) (G : GS) : Res := match a with
  | [.inr (0, 0)] => D_PB_greatestPush kk G
  | _ => none
def A_PB_isMoreLevel (kk : Nat) (a : List AV) (G : GS) : Res := match a with
  | [.inr (0, 0), .inl (.int a0), .inl (.int a1), .inl (.int a2)] => D_PB_isMoreLevel kk a0 a1 a2 G
  | _ => none
def A_PB_mostLevelBay (kk : Nat) (a : List AV) (G : GS) : Res := match a with
  | [.inr (0, 0), .inl (.int a0)] => D_PB_mostLevelBay kk a0 G
  | _ => none
def A_PB_levelingBay (kk : Nat) (a : List AV) (G : GS) : Res := match a with
  | [.inr (0, 0), .inl (.int a0)] => D_PB_levelingBay kk a0 G
  | _ => none
def A_PB_port (kk : Nat) (a : List AV) (G : GS) : Res := match a with
  | [.inr (0, 0)] => D_PB_port kk G
  | _ => none
def A_PB_day (kk : Nat) (a : List AV) (G : GS) : Res := match a with
  | [.inr (0, 0)] => D_PB_day kk G
  | _ => none
def A_PB_isAscending (kk : Nat) (a : List AV) (G : GS) : Res := match a with
  | [.inr (0, 0)] => D_PB_isAscending kk G
  | _ => none
def A_PB_legsTo (kk : Nat) (a : List AV) (G : GS) : Res := match a with
  | [.inr (0, 0), .inl (.int a0)] => D_PB_legsTo kk a0 G
  | _ => none
def A_PB_portAfter (kk : Nat) (a : List AV) (G : GS) : Res := match a with
  | [.inr (0, 0), .inl (.int a0)] => D_PB_portAfter kk a0 G
  | _ => none
def A_PB_heaviestPort (kk : Nat) (a : List AV) (G : GS) : Res := match a with
  | [.inr (0, 0)] => D_PB_heaviestPort kk G
  | _ => none
def A_PB_countInTheWayOf (kk : Nat) (a : List AV) (G : GS) : Res := match a with
  | [.inr (0, 0), .inl (.int a0)] => D_PB_countInTheWayOf kk a0 G
  | _ => none
def A_PB_pillowsInTheWay (kk : Nat) (a : List AV) (G : GS) : Res := match a with
  | [.inr (0, 0), .inl (.int a0)] => D_PB_pillowsInTheWay kk a0 G
  | _ => none
def A_PB_countPairs (kk : Nat) (a : List AV) (G : GS) : Res := match a with
  | [.inr (0, 0)] => D_PB_countPairs kk G
  | _ => none
def A_PB_pairsInTheWay (kk : Nat) (a : List AV) (G : GS) : Res := match a with
  | [.inr (0, 0)] => D_PB_pairsInTheWay kk G
  | _ => none
def A_PB_seePillow (kk : Nat) (a : List AV) (G : GS) : Res := match a with
  | [.inr (0, 0), .inl (.int a0)] => D_PB_seePillow kk a0 G
  | _ => none
def A_PB_countPairsInStack (kk : Nat) (a : List AV) (G : GS) : Res := match a with
  | [.inr (0, 0), .inl (.int a0)] => D_PB_countPairsInStack kk a0 G
  | _ => none
def A_PB_countPairsByStacks (kk : Nat) (a : List AV) (G : GS) : Res := match a with
  | [.inr (0, 0)] => D_PB_countPairsByStacks kk G
  | _ => none
def A_PB_pairsInTheWayByStacks (kk : Nat) (a : List AV) (G : GS) : Res := match a with
  | [.inr (0, 0)] => D_PB_pairsInTheWayByStacks kk G
  | _ => none
def A_PB_unloadableCount (kk : Nat) (a : List AV) (G : GS) : Res := match a with
  | [.inr (0, 0)] => D_PB_unloadableCount kk G
  | _ => none
def A_PB_possibleShifts (kk : Nat) (a : List AV) (G : GS) : Res := match a with
  | [.inr (0, 0)] => D_PB_possibleShifts kk G
  | _ => none
def A_PB_hasEarlierTurn (kk : Nat) (a : List AV) (G : GS) : Res := match a with
  | [.inr (0, 0), .inl (.int a0), .inl (.int a1)] => D_PB_hasEarlierTurn kk a0 a1 G
  | _ => none
def A_PB_countEarlierTurns (kk : Nat) (a : List AV) (G : GS) : Res := match a with
  | [.inr (0, 0), .inl (.int a0)] => D_PB_countEarlierTurns kk a0 G
  | _ => none
def A_PB_pillowByTurn (kk : Nat) (a : List AV) (G : GS) : Res := match a with
  | [.inr (0, 0), .inl (.int a0)] => D_PB_pillowByTurn kk a0 G
  | _ => none
def A_PB_countHeavierBays (kk : Nat) (a : List AV) (G : GS) : Res := match a with
  | [.inr (0, 0), .inl (.int a0)] => D_PB_countHeavierBays kk a0 G
  | _ => none
def A_PB_bayByWeight (kk : Nat) (a : List AV) (G : GS) : Res := match a with
  | [.inr (0, 0), .inl (.int a0)] => D_PB_bayByWeight kk a0 G
  | _ => none
def A_PB_loadedTotal (kk : Nat) (a : List AV) (G : GS) : Res := match a with
  | [.inr (0, 0)] => D_PB_loadedTotal kk G
  | _ => none
def A_PB_deliveredTotal (kk : Nat) (a : List AV) (G : GS) : Res := match a with
  | [.inr (0, 0)] => D_PB_deliveredTotal kk G
  | _ => none
def A_PB_deliveredWeight (kk : Nat) (a : List AV) (G : GS) : Res := match a with
  | [.inr (0, 0)] => D_PB_deliveredWeight kk G
  | _ => none
def A_PB_drillTotal (kk : Nat) (a : List AV) (G : GS) : Res := match a with
  | [.inr (0, 0)] => D_PB_drillTotal kk G
  | _ => none
def A_PB_capsizedTotal (kk : Nat) (a : List AV) (G : GS) : Res := match a with
  | [.inr (0, 0)] => D_PB_capsizedTotal kk G
  | _ => none
def A_PB_sumOfAges (kk : Nat) (a : List AV) (G : GS) : Res := match a with
  | [.inr (0, 0)] => D_PB_sumOfAges kk G
  | _ => none
def A_PB_meanAge (kk : Nat) (a : List AV) (G : GS) : Res := match a with
  | [.inr (0, 0)] => D_PB_meanAge kk G
  | _ => none
def A_PB_capsizedShare (kk : Nat) (a : List AV) (G : GS) : Res := match a with
  | [.inr (0, 0)] => D_PB_capsizedShare kk G
  | _ => none
def A_PB_isConsistent (kk : Nat) (a : List AV) (G : GS) : Res := match a with
  | [.inr (0, 0)] => D_PB_isConsistent kk G
  | _ => none
def A_PB_separate (kk : Nat) (a : List AV) (G : GS) : Res := match a with
  | [.inr (0, 0)] => D_PB_separate kk G
  | _ => none
def A_PB_renderPillow (kk : Nat) (a : List AV) (G : GS) : Res := match a with
  | [.inr (0, 0), .inl (.int a0)] => D_PB_renderPillow kk a0 G
  | _ => none
def A_PB_renderStack (kk : Nat) (a : List AV) (G : GS) : Res := match a with
  | [.inr (0, 0), .inl (.int a0)] => D_PB_renderStack kk a0 G
  | _ => none
def A_PB_renderBarge (kk : Nat) (a : List AV) (G : GS) : Res := match a with
  | [.inr (0, 0)] => D_PB_renderBarge kk G
  | _ => none
def A_PB_outputAt (kk : Nat) (a : List AV) (G : GS) : Res := match a with
  | [.inr (0, 0), .inl (.int a0)] => D_PB_outputAt kk a0 G
  | _ => none
def A_PB_type (kk : Nat) (a : List AV) (G : GS) : Res := match a with
  | [.inr (0, 0), .inl (.int a0)] => D_PB_type kk a0 G
  | _ => none
def A_PB_performCommands (kk : Nat) (a : List AV) (G : GS) : Res := match a with
  | [.inr (0, 0)] => D_PB_performCommands kk G
  | _ => none
def A_PB_runScript (kk : Nat) (a : List AV) (G : GS) : Res := match a with
  | [.inr (0, 0)] => D_PB_runScript kk G
  | _ => none
def A_PB_errorPosition (kk : Nat) (a : List AV) (G : GS) : Res := match a with
  | [.inr (0, 0)] => D_PB_errorPosition kk G
  | _ => none
def A_PB_failedCommand (kk : Nat) (a : List AV) (G : GS) : Res := match a with
  | [.inr (0, 0)] => D_PB_failedCommand kk G
  | _ => none
def A_PB_undo (kk : Nat) (a : List AV) (G : GS) : Res := match a with
  | [.inr (0, 0)] => D_PB_undo kk G
  | _ => none
def A_PB_save (kk : Nat) (a : List AV) (G : GS) : Res := match a with
  | [.inr (0, 0)] => D_PB_save kk G
  | _ => none
def A_PB_restore (kk : Nat) (a : List AV) (G : GS) : Res := match a with
  | [.inr (0, 0)] => D_PB_restore kk G
  | _ => none
def A_Mo_thrown (kk : Nat) (a : List AV) (G : GS) : Res := match a with
  | [.inr (0, 50)] => D_Mo_thrown kk G
  | _ => none
def A_Mo_fails (kk : Nat) (a : List AV) (G : GS) : Res := match a with
  | [.inr (0, 50), .inl (.int a0)] => D_Mo_fails kk a0 G
  | _ => none
def A_Mo_isBetween (kk : Nat) (a : List AV) (G : GS) : Res := match a with
  | [.inl (.int a0), .inl (.int a1), .inl (.int a2)] => D_Mo_isBetween kk a0 a1 a2 G
  | _ => none
def A_Mo_copies (kk : Nat) (a : List AV) (G : GS) : Res := match a with
  | [.inr (0, 50)] => D_Mo_copies kk G
  | _ => none
def A_Mo_goesBack (kk : Nat) (a : List AV) (G : GS) : Res := match a with
  | [.inr (0, 50)] => D_Mo_goesBack kk G
  | _ => none
def A_Mo_keeps (kk : Nat) (a : List AV) (G : GS) : Res := match a with
  | [.inr (0, 50)] => D_Mo_keeps kk G
  | _ => none
def A_Mo_remembers (kk : Nat) (a : List AV) (G : GS) : Res := match a with
  | [.inr (0, 50)] => D_Mo_remembers kk G
  | _ => none
def A_Mo_isBay (kk : Nat) (a : List AV) (G : GS) : Res := match a with
  | [.inl (.int a0)] => D_Mo_isBay kk a0 G
  | _ => none
def A_Mo_at (kk : Nat) (a : List AV) (G : GS) : Res := match a with
  | [.inr (0, 50), .inl (.int a0), .inl (.int a1), .inl (.int a2)] => D_Mo_at kk a0 a1 a2 G
  | _ => none
def A_Mo_puts (kk : Nat) (a : List AV) (G : GS) : Res := match a with
  | [.inr (0, 50), .inl (.int a0), .inl (.int a1), .inl (.int a2), .inl (.int a3)] => D_Mo_puts kk a0 a1 a2 a3 G
  | _ => none
def A_Mo_top (kk : Nat) (a : List AV) (G : GS) : Res := match a with
  | [.inr (0, 50), .inl (.int a0), .inl (.int a1)] => D_Mo_top kk a0 a1 G
  | _ => none
def A_Mo_weightOfBay (kk : Nat) (a : List AV) (G : GS) : Res := match a with
  | [.inr (0, 50), .inl (.int a0)] => D_Mo_weightOfBay kk a0 G
  | _ => none
def A_Mo_momentNow (kk : Nat) (a : List AV) (G : GS) : Res := match a with
  | [.inr (0, 50)] => D_Mo_momentNow kk G
  | _ => none
def A_Mo_weightAll (kk : Nat) (a : List AV) (G : GS) : Res := match a with
  | [.inr (0, 50)] => D_Mo_weightAll kk G
  | _ => none
def A_Mo_countAll (kk : Nat) (a : List AV) (G : GS) : Res := match a with
  | [.inr (0, 50)] => D_Mo_countAll kk G
  | _ => none
def A_Mo_isBeyond (kk : Nat) (a : List AV) (G : GS) : Res := match a with
  | [.inr (0, 50), .inl (.int a0)] => D_Mo_isBeyond kk a0 G
  | _ => none
def A_Mo_lever (kk : Nat) (a : List AV) (G : GS) : Res := match a with
  | [.inl (.int a0), .inl (.int a1)] => D_Mo_lever kk a0 a1 G
  | _ => none
def A_Mo_lays (kk : Nat) (a : List AV) (G : GS) : Res := match a with
  | [.inr (0, 50), .inl (.int a0), .inl (.int a1), .inl (.int a2), .inl (.int a3), .inl (.int a4)] => D_Mo_lays kk a0 a1 a2 a3 a4 G
  | _ => none
def A_Mo_takes (kk : Nat) (a : List AV) (G : GS) : Res := match a with
  | [.inr (0, 50), .inl (.int a0)] => D_Mo_takes kk a0 G
  | _ => none
def A_Mo_notLoad (kk : Nat) (a : List AV) (G : GS) : Res := match a with
  | [.inr (0, 50), .inl (.int a0), .inl (.int a1), .inl (.int a2)] => D_Mo_notLoad kk a0 a1 a2 G
  | _ => none
def A_Mo_loads (kk : Nat) (a : List AV) (G : GS) : Res := match a with
  | [.inr (0, 50), .inl (.int a0), .inl (.int a1), .inl (.int a2)] => D_Mo_loads kk a0 a1 a2 G
  | _ => none
def A_Mo_load (kk : Nat) (a : List AV) (G : GS) : Res := match a with
  | [.inr (0, 50), .inl (.int a0), .inl (.int a1), .inl (.int a2)] => D_Mo_load kk a0 a1 a2 G
  | _ => none
def A_Mo_notUnload (kk : Nat) (a : List AV) (G : GS) : Res := match a with
  | [.inr (0, 50), .inl (.int a0)] => D_Mo_notUnload kk a0 G
  | _ => none
def A_Mo_unloads (kk : Nat) (a : List AV) (G : GS) : Res := match a with
  | [.inr (0, 50), .inl (.int a0)] => D_Mo_unloads kk a0 G
  | _ => none
def A_Mo_unload (kk : Nat) (a : List AV) (G : GS) : Res := match a with
  | [.inr (0, 50), .inl (.int a0)] => D_Mo_unload kk a0 G
  | _ => none
def A_Mo_notShift (kk : Nat) (a : List AV) (G : GS) : Res := match a with
  | [.inr (0, 50), .inl (.int a0), .inl (.int a1)] => D_Mo_notShift kk a0 a1 G
  | _ => none
def A_Mo_shifts (kk : Nat) (a : List AV) (G : GS) : Res := match a with
  | [.inr (0, 50), .inl (.int a0), .inl (.int a1)] => D_Mo_shifts kk a0 a1 G
  | _ => none
def A_Mo_shift (kk : Nat) (a : List AV) (G : GS) : Res := match a with
  | [.inr (0, 50), .inl (.int a0), .inl (.int a1)] => D_Mo_shift kk a0 a1 G
  | _ => none
def A_Mo_portBehind (kk : Nat) (a : List AV) (G : GS) : Res := match a with
  | [.inr (0, 50), .inl (.int a0)] => D_Mo_portBehind kk a0 G
  | _ => none
def A_Mo_notSail (kk : Nat) (a : List AV) (G : GS) : Res := match a with
  | [.inl (.int a0)] => D_Mo_notSail kk a0 G
  | _ => none
def A_Mo_sails (kk : Nat) (a : List AV) (G : GS) : Res := match a with
  | [.inr (0, 50), .inl (.int a0)] => D_Mo_sails kk a0 G
  | _ => none
def A_Mo_sail (kk : Nat) (a : List AV) (G : GS) : Res := match a with
  | [.inr (0, 50), .inl (.int a0)] => D_Mo_sail kk a0 G
  | _ => none
def A_Mo_turns (kk : Nat) (a : List AV) (G : GS) : Res := match a with
  | [.inr (0, 50)] => D_Mo_turns kk G
  | _ => none
def A_Mo_turn (kk : Nat) (a : List AV) (G : GS) : Res := match a with
  | [.inr (0, 50)] => D_Mo_turn kk G
  | _ => none
def A_Mo_notLimit (kk : Nat) (a : List AV) (G : GS) : Res := match a with
  | [.inr (0, 50), .inl (.int a0)] => D_Mo_notLimit kk a0 G
  | _ => none
def A_Mo_setsLimit (kk : Nat) (a : List AV) (G : GS) : Res := match a with
  | [.inr (0, 50), .inl (.int a0)] => D_Mo_setsLimit kk a0 G
  | _ => none
def A_Mo_setLimit (kk : Nat) (a : List AV) (G : GS) : Res := match a with
  | [.inr (0, 50), .inl (.int a0)] => D_Mo_setLimit kk a0 G
  | _ => none
def A_Mo_notDrill (kk : Nat) (a : List AV) (G : GS) : Res := match a with
  | [.inl (.int a0)] => D_Mo_notDrill kk a0 G
  | _ => none
def A_Mo_drills (kk : Nat) (a : List AV) (G : GS) : Res := match a with
  | [.inr (0, 50), .inl (.int a0)] => D_Mo_drills kk a0 G
  | _ => none
def A_Mo_drill (kk : Nat) (a : List AV) (G : GS) : Res := match a with
  | [.inr (0, 50), .inl (.int a0)] => D_Mo_drill kk a0 G
  | _ => none
def A_Mo_pillowCount (kk : Nat) (a : List AV) (G : GS) : Res := match a with
  | [.inr (0, 50)] => D_Mo_pillowCount kk G
  | _ => none
def A_Mo_stackHeight (kk : Nat) (a : List AV) (G : GS) : Res := match a with
  | [.inr (0, 50), .inl (.int a0)] => D_Mo_stackHeight kk a0 G
  | _ => none
def A_Mo_pillowAt (kk : Nat) (a : List AV) (G : GS) : Res := match a with
  | [.inr (0, 50), .inl (.int a0), .inl (.int a1)] => D_Mo_pillowAt kk a0 a1 G
  | _ => none
def A_Mo_placeOf (kk : Nat) (a : List AV) (G : GS) : Res := match a with
  | [.inr (0, 50), .inl (.int a0)] => D_Mo_placeOf kk a0 G
  | _ => none
def A_Mo_asks (kk : Nat) (a : List AV) (G : GS) : Res := match a with
  | [.inr (0, 50), .inl (.int a0), .inl (.int a1)] => D_Mo_asks kk a0 a1 G
  | _ => none
def A_Mo_weightOf (kk : Nat) (a : List AV) (G : GS) : Res := match a with
  | [.inr (0, 50), .inl (.int a0)] => D_Mo_weightOf kk a0 G
  | _ => none
def A_Mo_destinationOf (kk : Nat) (a : List AV) (G : GS) : Res := match a with
  | [.inr (0, 50), .inl (.int a0)] => D_Mo_destinationOf kk a0 G
  | _ => none
def A_Mo_bayOf (kk : Nat) (a : List AV) (G : GS) : Res := match a with
  | [.inr (0, 50), .inl (.int a0)] => D_Mo_bayOf kk a0 G
  | _ => none
def A_Mo_positionOf (kk : Nat) (a : List AV) (G : GS) : Res := match a with
  | [.inr (0, 50), .inl (.int a0)] => D_Mo_positionOf kk a0 G
  | _ => none
def A_Mo_ageOf (kk : Nat) (a : List AV) (G : GS) : Res := match a with
  | [.inr (0, 50), .inl (.int a0)] => D_Mo_ageOf kk a0 G
  | _ => none
def A_Mo_moment (kk : Nat) (a : List AV) (G : GS) : Res := match a with
  | [.inr (0, 50)] => D_Mo_moment kk G
  | _ => none
def A_Mo_momentByBays (kk : Nat) (a : List AV) (G : GS) : Res := match a with
  | [.inr (0, 50)] => D_Mo_momentByBays kk G
  | _ => none
def A_Mo_totalWeight (kk : Nat) (a : List AV) (G : GS) : Res := match a with
  | [.inr (0, 50)] => D_Mo_totalWeight kk G
  | _ => none
def A_Mo_weightFor (kk : Nat) (a : List AV) (G : GS) : Res := match a with
  | [.inr (0, 50), .inl (.int a0)] => D_Mo_weightFor kk a0 G
  | _ => none
def A_Mo_limit (kk : Nat) (a : List AV) (G : GS) : Res := match a with
  | [.inr (0, 50)] => D_Mo_limit kk G
  | _ => none
def A_Mo_listAngle (kk : Nat) (a : List AV) (G : GS) : Res := match a with
  | [.inr (0, 50)] => D_Mo_listAngle kk G
  | _ => none
def A_Mo_greatestPush (kk : Nat) (a : List AV) (G : GS) : Res := match a with
  | [.inr (0, 50)] => D_Mo_greatestPush kk G
  | _ => none
def A_Mo_magnitude (kk : Nat) (a : List AV) (G : GS) : Res := match a with
  | [.inl (.int a0)] => D_Mo_magnitude kk a0 G
  | _ => none
def A_Mo_isBetter (kk : Nat) (a : List AV) (G : GS) : Res := match a with
  | [.inr (0, 50), .inl (.int a0), .inl (.int a1), .inl (.int a2)] => D_Mo_isBetter kk a0 a1 a2 G
  | _ => none
def A_Mo_levelingBay (kk : Nat) (a : List AV) (G : GS) : Res := match a with
  | [.inr (0, 50), .inl (.int a0)] => D_Mo_levelingBay kk a0 G
  | _ => none
def A_Mo_port (kk : Nat) (a : List AV) (G : GS) : Res := match a with
  | [.inr (0, 50)] => D_Mo_port kk G
  | _ => none
def A_Mo_day (kk : Nat) (a : List AV) (G : GS) : Res := match a with
  | [.inr (0, 50)] => D_Mo_day kk G
  | _ => none
def A_Mo_isAscending (kk : Nat) (a : List AV) (G : GS) : Res := match a with
  | [.inr (0, 50)] => D_Mo_isAscending kk G
  | _ => none
def A_Mo_legs (kk : Nat) (a : List AV) (G : GS) : Res := match a with
  | [.inr (0, 50), .inl (.int a0)] => D_Mo_legs kk a0 G
  | _ => none
def A_Mo_legsTo (kk : Nat) (a : List AV) (G : GS) : Res := match a with
  | [.inr (0, 50), .inl (.int a0)] => D_Mo_legsTo kk a0 G
  | _ => none
def A_Mo_portAfter (kk : Nat) (a : List AV) (G : GS) : Res := match a with
  | [.inr (0, 50), .inl (.int a0)] => D_Mo_portAfter kk a0 G
  | _ => none
def A_Mo_inTheWay (kk : Nat) (a : List AV) (G : GS) : Res := match a with
  | [.inr (0, 50), .inl (.int a0), .inl (.int a1)] => D_Mo_inTheWay kk a0 a1 G
  | _ => none
def A_Mo_pillowsInTheWay (kk : Nat) (a : List AV) (G : GS) : Res := match a with
  | [.inr (0, 50), .inl (.int a0)] => D_Mo_pillowsInTheWay kk a0 G
  | _ => none
def A_Mo_pairsInTheWay (kk : Nat) (a : List AV) (G : GS) : Res := match a with
  | [.inr (0, 50)] => D_Mo_pairsInTheWay kk G
  | _ => none
def A_Mo_pairsInTheWayByStacks (kk : Nat) (a : List AV) (G : GS) : Res := match a with
  | [.inr (0, 50)] => D_Mo_pairsInTheWayByStacks kk G
  | _ => none
def A_Mo_isAhead (kk : Nat) (a : List AV) (G : GS) : Res := match a with
  | [.inr (0, 50), .inl (.int a0), .inl (.int a1)] => D_Mo_isAhead kk a0 a1 G
  | _ => none
def A_Mo_isTaken (kk : Nat) (a : List AV) (G : GS) : Res := match a with
  | [.inr (0, 50), .inl (.int a0)] => D_Mo_isTaken kk a0 G
  | _ => none
def A_Mo_unloadableCount (kk : Nat) (a : List AV) (G : GS) : Res := match a with
  | [.inr (0, 50)] => D_Mo_unloadableCount kk G
  | _ => none
def A_Mo_oldestIn (kk : Nat) (a : List AV) (G : GS) : Res := match a with
  | [.inr (0, 50), .inl (.int a0)] => D_Mo_oldestIn kk a0 G
  | _ => none
def A_Mo_heaviestPort (kk : Nat) (a : List AV) (G : GS) : Res := match a with
  | [.inr (0, 50)] => D_Mo_heaviestPort kk G
  | _ => none
def A_Mo_possibleShifts (kk : Nat) (a : List AV) (G : GS) : Res := match a with
  | [.inr (0, 50)] => D_Mo_possibleShifts kk G
  | _ => none
def A_Mo_pillowByTurn (kk : Nat) (a : List AV) (G : GS) : Res := match a with
  | [.inr (0, 50), .inl (.int a0)] => D_Mo_pillowByTurn kk a0 G
  | _ => none
def A_Mo_bayByWeight (kk : Nat) (a : List AV) (G : GS) : Res := match a with
  | [.inr (0, 50), .inl (.int a0)] => D_Mo_bayByWeight kk a0 G
  | _ => none
def A_Mo_loadedTotal (kk : Nat) (a : List AV) (G : GS) : Res := match a with
  | [.inr (0, 50)] => D_Mo_loadedTotal kk G
  | _ => none
def A_Mo_deliveredTotal (kk : Nat) (a : List AV) (G : GS) : Res := match a with
  | [.inr (0, 50)] => D_Mo_deliveredTotal kk G
  | _ => none
def A_Mo_deliveredWeight (kk : Nat) (a : List AV) (G : GS) : Res := match a with
  | [.inr (0, 50)] => D_Mo_deliveredWeight kk G
  | _ => none
def A_Mo_drillTotal (kk : Nat) (a : List AV) (G : GS) : Res := match a with
  | [.inr (0, 50)] => D_Mo_drillTotal kk G
  | _ => none
def A_Mo_capsizedTotal (kk : Nat) (a : List AV) (G : GS) : Res := match a with
  | [.inr (0, 50)] => D_Mo_capsizedTotal kk G
  | _ => none
def A_Mo_meanAge (kk : Nat) (a : List AV) (G : GS) : Res := match a with
  | [.inr (0, 50)] => D_Mo_meanAge kk G
  | _ => none
def A_Mo_capsizedShare (kk : Nat) (a : List AV) (G : GS) : Res := match a with
  | [.inr (0, 50)] => D_Mo_capsizedShare kk G
  | _ => none
def A_Mo_isConsistent (kk : Nat) (a : List AV) (G : GS) : Res := match a with
  | [.inr (0, 50)] => D_Mo_isConsistent kk G
  | _ => none
def A_Mo_writes (kk : Nat) (a : List AV) (G : GS) : Res := match a with
  | [.inr (0, 50), .inl (.int a0)] => D_Mo_writes kk a0 G
  | _ => none
def A_Mo_writesNumber (kk : Nat) (a : List AV) (G : GS) : Res := match a with
  | [.inr (0, 50), .inl (.int a0)] => D_Mo_writesNumber kk a0 G
  | _ => none
def A_Mo_renderStack (kk : Nat) (a : List AV) (G : GS) : Res := match a with
  | [.inr (0, 50), .inl (.int a0)] => D_Mo_renderStack kk a0 G
  | _ => none
def A_Mo_renderBarge (kk : Nat) (a : List AV) (G : GS) : Res := match a with
  | [.inr (0, 50)] => D_Mo_renderBarge kk G
  | _ => none
def A_Mo_outputAt (kk : Nat) (a : List AV) (G : GS) : Res := match a with
  | [.inr (0, 50), .inl (.int a0)] => D_Mo_outputAt kk a0 G
  | _ => none
def A_Mo_type (kk : Nat) (a : List AV) (G : GS) : Res := match a with
  | [.inr (0, 50), .inl (.int a0)] => D_Mo_type kk a0 G
  | _ => none
def A_Mo_nextChar (kk : Nat) (a : List AV) (G : GS) : Res := match a with
  | [.inr (0, 50)] => D_Mo_nextChar kk G
  | _ => none
def A_Mo_reads (kk : Nat) (a : List AV) (G : GS) : Res := match a with
  | [.inr (0, 50), .inl (.int a0)] => D_Mo_reads kk a0 G
  | _ => none
def A_Mo_readsDigit (kk : Nat) (a : List AV) (G : GS) : Res := match a with
  | [.inr (0, 50), .inl (.int a0)] => D_Mo_readsDigit kk a0 G
  | _ => none
def A_Mo_readsNumber (kk : Nat) (a : List AV) (G : GS) : Res := match a with
  | [.inr (0, 50), .inl (.int a0)] => D_Mo_readsNumber kk a0 G
  | _ => none
def A_Mo_readsL (kk : Nat) (a : List AV) (G : GS) : Res := match a with
  | [.inr (0, 50)] => D_Mo_readsL kk G
  | _ => none
def A_Mo_readsS (kk : Nat) (a : List AV) (G : GS) : Res := match a with
  | [.inr (0, 50)] => D_Mo_readsS kk G
  | _ => none
def A_Mo_readsDrill (kk : Nat) (a : List AV) (G : GS) : Res := match a with
  | [.inr (0, 50)] => D_Mo_readsDrill kk G
  | _ => none
def A_Mo_readsCommand (kk : Nat) (a : List AV) (G : GS) : Res := match a with
  | [.inr (0, 50)] => D_Mo_readsCommand kk G
  | _ => none
def A_Mo_readsAll (kk : Nat) (a : List AV) (G : GS) : Res := match a with
  | [.inr (0, 50)] => D_Mo_readsAll kk G
  | _ => none
def A_Mo_notNow (kk : Nat) (a : List AV) (G : GS) : Res := match a with
  | [.inr (0, 50)] => D_Mo_notNow kk G
  | _ => none
def A_Mo_doesNow (kk : Nat) (a : List AV) (G : GS) : Res := match a with
  | [.inr (0, 50)] => D_Mo_doesNow kk G
  | _ => none
def A_Mo_doesAll (kk : Nat) (a : List AV) (G : GS) : Res := match a with
  | [.inr (0, 50)] => D_Mo_doesAll kk G
  | _ => none
def A_Mo_runScript (kk : Nat) (a : List AV) (G : GS) : Res := match a with
  | [.inr (0, 50)] => D_Mo_runScript kk G
  | _ => none
def A_Mo_errorPosition (kk : Nat) (a : List AV) (G : GS) : Res := match a with
  | [.inr (0, 50)] => D_Mo_errorPosition kk G
  | _ => none
def A_Mo_failedCommand (kk : Nat) (a : List AV) (G : GS) : Res := match a with
  | [.inr (0, 50)] => D_Mo_failedCommand kk G
  | _ => none
def A_Mo_undo (kk : Nat) (a : List AV) (G : GS) : Res := match a with
  | [.inr (0, 50)] => D_Mo_undo kk G
  | _ => none
def A_Mo_save (kk : Nat) (a : List AV) (G : GS) : Res := match a with
  | [.inr (0, 50)] => D_Mo_save kk G
  | _ => none
def A_Mo_restore (kk : Nat) (a : List AV) (G : GS) : Res := match a with
  | [.inr (0, 50)] => D_Mo_restore kk G
  | _ => none
def A_Law_load (kk : Nat) (a : List AV) (G : GS) : Res := match a with
  | [.inr (0, 0), .inl (.int a1), .inl (.int a2), .inl (.int a3), .inr (0, 18)] => D_Law_load kk a1 a2 a3 G
  | _ => none
def A_Law_unload (kk : Nat) (a : List AV) (G : GS) : Res := match a with
  | [.inr (0, 0), .inl (.int a1), .inr (0, 18)] => D_Law_unload kk a1 G
  | _ => none
def A_Law_shift (kk : Nat) (a : List AV) (G : GS) : Res := match a with
  | [.inr (0, 0), .inl (.int a1), .inl (.int a2), .inr (0, 18)] => D_Law_shift kk a1 a2 G
  | _ => none
def A_Law_sail (kk : Nat) (a : List AV) (G : GS) : Res := match a with
  | [.inr (0, 0), .inl (.int a1), .inr (0, 18)] => D_Law_sail kk a1 G
  | _ => none
def A_Law_setLimit (kk : Nat) (a : List AV) (G : GS) : Res := match a with
  | [.inr (0, 0), .inl (.int a1), .inr (0, 18)] => D_Law_setLimit kk a1 G
  | _ => none
def A_Law_drill (kk : Nat) (a : List AV) (G : GS) : Res := match a with
  | [.inr (0, 0), .inl (.int a1), .inr (0, 18)] => D_Law_drill kk a1 G
  | _ => none
def A_Law_stackHeight (kk : Nat) (a : List AV) (G : GS) : Res := match a with
  | [.inr (0, 0), .inl (.int a1), .inr (0, 18)] => D_Law_stackHeight kk a1 G
  | _ => none
def A_Law_pillowAt (kk : Nat) (a : List AV) (G : GS) : Res := match a with
  | [.inr (0, 0), .inl (.int a1), .inl (.int a2), .inr (0, 18)] => D_Law_pillowAt kk a1 a2 G
  | _ => none
def A_Law_weightOf (kk : Nat) (a : List AV) (G : GS) : Res := match a with
  | [.inr (0, 0), .inl (.int a1), .inr (0, 18)] => D_Law_weightOf kk a1 G
  | _ => none
def A_Law_destinationOf (kk : Nat) (a : List AV) (G : GS) : Res := match a with
  | [.inr (0, 0), .inl (.int a1), .inr (0, 18)] => D_Law_destinationOf kk a1 G
  | _ => none
def A_Law_bayOf (kk : Nat) (a : List AV) (G : GS) : Res := match a with
  | [.inr (0, 0), .inl (.int a1), .inr (0, 18)] => D_Law_bayOf kk a1 G
  | _ => none
def A_Law_positionOf (kk : Nat) (a : List AV) (G : GS) : Res := match a with
  | [.inr (0, 0), .inl (.int a1), .inr (0, 18)] => D_Law_positionOf kk a1 G
  | _ => none
def A_Law_ageOf (kk : Nat) (a : List AV) (G : GS) : Res := match a with
  | [.inr (0, 0), .inl (.int a1), .inr (0, 18)] => D_Law_ageOf kk a1 G
  | _ => none
def A_Law_weightFor (kk : Nat) (a : List AV) (G : GS) : Res := match a with
  | [.inr (0, 0), .inl (.int a1), .inr (0, 18)] => D_Law_weightFor kk a1 G
  | _ => none
def A_Law_levelingBay (kk : Nat) (a : List AV) (G : GS) : Res := match a with
  | [.inr (0, 0), .inl (.int a1), .inr (0, 18)] => D_Law_levelingBay kk a1 G
  | _ => none
def A_Law_legsTo (kk : Nat) (a : List AV) (G : GS) : Res := match a with
  | [.inr (0, 0), .inl (.int a1), .inr (0, 18)] => D_Law_legsTo kk a1 G
  | _ => none
def A_Law_portAfter (kk : Nat) (a : List AV) (G : GS) : Res := match a with
  | [.inr (0, 0), .inl (.int a1), .inr (0, 18)] => D_Law_portAfter kk a1 G
  | _ => none
def A_Law_pillowsInTheWay (kk : Nat) (a : List AV) (G : GS) : Res := match a with
  | [.inr (0, 0), .inl (.int a1), .inr (0, 18)] => D_Law_pillowsInTheWay kk a1 G
  | _ => none
def A_Law_oldestIn (kk : Nat) (a : List AV) (G : GS) : Res := match a with
  | [.inr (0, 0), .inl (.int a1), .inr (0, 18)] => D_Law_oldestIn kk a1 G
  | _ => none
def A_Law_heaviestPort (kk : Nat) (a : List AV) (G : GS) : Res := match a with
  | [.inr (0, 0), .inr (0, 18)] => D_Law_heaviestPort kk G
  | _ => none
def A_Law_pillowByTurn (kk : Nat) (a : List AV) (G : GS) : Res := match a with
  | [.inr (0, 0), .inl (.int a1), .inr (0, 18)] => D_Law_pillowByTurn kk a1 G
  | _ => none
def A_Law_bayByWeight (kk : Nat) (a : List AV) (G : GS) : Res := match a with
  | [.inr (0, 0), .inl (.int a1), .inr (0, 18)] => D_Law_bayByWeight kk a1 G
  | _ => none
def A_Law_meanAge (kk : Nat) (a : List AV) (G : GS) : Res := match a with
  | [.inr (0, 0), .inr (0, 19)] => D_Law_meanAge kk G
  | _ => none
def A_Law_capsizedShare (kk : Nat) (a : List AV) (G : GS) : Res := match a with
  | [.inr (0, 0), .inr (0, 19)] => D_Law_capsizedShare kk G
  | _ => none
def A_Law_renderStack (kk : Nat) (a : List AV) (G : GS) : Res := match a with
  | [.inr (0, 0), .inl (.int a1), .inr (0, 18)] => D_Law_renderStack kk a1 G
  | _ => none
def A_Law_outputAt (kk : Nat) (a : List AV) (G : GS) : Res := match a with
  | [.inr (0, 0), .inl (.int a1), .inr (0, 18)] => D_Law_outputAt kk a1 G
  | _ => none
def A_Law_type (kk : Nat) (a : List AV) (G : GS) : Res := match a with
  | [.inr (0, 0), .inl (.int a1), .inr (0, 18)] => D_Law_type kk a1 G
  | _ => none
def A_Law_runScript (kk : Nat) (a : List AV) (G : GS) : Res := match a with
  | [.inr (0, 0), .inr (0, 18)] => D_Law_runScript kk G
  | _ => none
def A_Law_errorPosition (kk : Nat) (a : List AV) (G : GS) : Res := match a with
  | [.inr (0, 0), .inr (0, 18)] => D_Law_errorPosition kk G
  | _ => none
def A_Law_failedCommand (kk : Nat) (a : List AV) (G : GS) : Res := match a with
  | [.inr (0, 0), .inr (0, 18)] => D_Law_failedCommand kk G
  | _ => none
def A_Law_undo (kk : Nat) (a : List AV) (G : GS) : Res := match a with
  | [.inr (0, 0), .inr (0, 18)] => D_Law_undo kk G
  | _ => none
def A_Law_restore (kk : Nat) (a : List AV) (G : GS) : Res := match a with
  | [.inr (0, 0), .inr (0, 18)] => D_Law_restore kk G
  | _ => none
end
section
set_option maxRecDepth 100000
def T_Mo_thrown : Tb := fun pc => match Nat.ble 1 pc with | true => (match Nat.ble 4 pc with | true => (match Nat.beq pc 4 with | true => some (.ireturn, 1, 0, [], false, []) | false => none) | false => (match Nat.beq pc 1 with | true => some (.getfield 1, 3, 448, [], false, []) | false => none)) | false => (match Nat.beq pc 0 with | true => some (.aload_n 0, 1, 0, [], false, []) | false => none)
def call_Mo_thrown (kk : Nat) : Nat → List AV → GS → Res := fun id a G => none
def bk_Mo_thrown (kk k : Nat) : Kb := fun _ _ _ _ => none
theorem R_Mo_thrown (kk : Nat) (G : GS) : ai_run T_Mo_thrown (call_Mo_thrown kk) (fun _ => []) 0 (bk_Mo_thrown kk kk) 600 0 [some (.inr (0, 50))] [] G 0 = D_Mo_thrown kk G := by exact rfl
def T_Mo_fails : Tb := fun pc => match Nat.ble 2 pc with | true => (match Nat.ble 5 pc with | true => (match Nat.ble 6 pc with | true => (match Nat.beq pc 6 with | true => some (.ireturn, 1, 0, [], false, []) | false => none) | false => (match Nat.beq pc 5 with | true => some (.iconst 0, 1, 0, [], false, []) | false => none)) | false => (match Nat.beq pc 2 with | true => some (.putfield 1, 3, 448, [], false, []) | false => none)) | false => (match Nat.ble 1 pc with | true => (match Nat.beq pc 1 with | true => some (.iload_n 1, 1, 0, [], false, []) | false => none) | false => (match Nat.beq pc 0 with | true => some (.aload_n 0, 1, 0, [], false, []) | false => none))
def call_Mo_fails (kk : Nat) : Nat → List AV → GS → Res := fun id a G => none
def bk_Mo_fails (kk k : Nat) : Kb := fun _ _ _ _ => none
theorem R_Mo_fails (kk : Nat) (a0 : Int32) (G : GS) : ai_run T_Mo_fails (call_Mo_fails kk) (fun _ => []) 0 (bk_Mo_fails kk kk) 600 0 [some (.inr (0, 50)), some (.inl (.int a0))] [] G 0 = D_Mo_fails kk a0 G := by exact rfl
def T_Mo_isBetween : Tb := fun pc => match Nat.ble 7 pc with | true => (match Nat.ble 11 pc with | true => (match Nat.ble 14 pc with | true => (match Nat.ble 15 pc with | true => (match Nat.beq pc 15 with | true => some (.ireturn, 1, 0, [], false, []) | false => none) | false => (match Nat.beq pc 14 with | true => some (.iconst 0, 1, 0, [], false, []) | false => none)) | false => (match Nat.beq pc 11 with | true => some (.goto (4), 3, 15, [], false, []) | false => none)) | false => (match Nat.ble 10 pc with | true => (match Nat.beq pc 10 with | true => some (.iconst 1, 1, 0, [], false, []) | false => none) | false => (match Nat.beq pc 7 with | true => some (.if_icmp .gt (7), 3, 14, [], false, []) | false => none))) | false => (match Nat.ble 2 pc with | true => (match Nat.ble 5 pc with | true => (match Nat.ble 6 pc with | true => (match Nat.beq pc 6 with | true => some (.iload_n 2, 1, 0, [], false, []) | false => none) | false => (match Nat.beq pc 5 with | true => some (.iload_n 0, 1, 0, [], false, []) | false => none)) | false => (match Nat.beq pc 2 with | true => some (.if_icmp .gt (12), 3, 14, [], false, []) | false => none)) | false => (match Nat.ble 1 pc with | true => (match Nat.beq pc 1 with | true => some (.iload_n 0, 1, 0, [], false, []) | false => none) | false => (match Nat.beq pc 0 with | true => some (.iload_n 1, 1, 0, [], false, []) | false => none)))
def call_Mo_isBetween (kk : Nat) : Nat → List AV → GS → Res := fun id a G => none
def bk_Mo_isBetween (kk k : Nat) : Kb := fun _ _ _ _ => none
theorem R_Mo_isBetween (kk : Nat) (a0 : Int32) (a1 : Int32) (a2 : Int32) (G : GS) : ai_run T_Mo_isBetween (call_Mo_isBetween kk) (fun _ => []) 0 (bk_Mo_isBetween kk kk) 600 0 [some (.inl (.int a0)), some (.inl (.int a1)), some (.inl (.int a2))] [] G 0 = D_Mo_isBetween kk a0 a1 a2 G := by exact rfl
def T_Mo_copies : Tb := fun pc => match Nat.ble 14 pc with | true => (match Nat.ble 20 pc with | true => (match Nat.ble 24 pc with | true => (match Nat.ble 27 pc with | true => (match Nat.beq pc 27 with | true => some (.return_, 1, 0, [], false, []) | false => none) | false => (match Nat.beq pc 24 with | true => some (.goto (-22), 3, 2, [], false, []) | false => none)) | false => (match Nat.ble 21 pc with | true => (match Nat.beq pc 21 with | true => some (.iinc 1 (1), 3, 0, [], false, []) | false => none) | false => (match Nat.beq pc 20 with | true => some (.iastore, 1, 0, [], false, []) | false => none))) | false => (match Nat.ble 18 pc with | true => (match Nat.ble 19 pc with | true => (match Nat.beq pc 19 with | true => some (.iaload, 1, 0, [], false, []) | false => none) | false => (match Nat.beq pc 18 with | true => some (.iload_n 1, 1, 0, [], false, []) | false => none)) | false => (match Nat.ble 15 pc with | true => (match Nat.beq pc 15 with | true => some (.getfield 13, 3, 450, [], false, []) | false => none) | false => (match Nat.beq pc 14 with | true => some (.aload_n 0, 1, 0, [], false, []) | false => none)))) | false => (match Nat.ble 6 pc with | true => (match Nat.ble 10 pc with | true => (match Nat.ble 13 pc with | true => (match Nat.beq pc 13 with | true => some (.iload_n 1, 1, 0, [], false, []) | false => none) | false => (match Nat.beq pc 10 with | true => some (.getfield 23, 3, 456, [], false, []) | false => none)) | false => (match Nat.ble 9 pc with | true => (match Nat.beq pc 9 with | true => some (.aload_n 0, 1, 0, [], false, []) | false => none) | false => (match Nat.beq pc 6 with | true => some (.if_icmp .ge (21), 3, 27, [], false, []) | false => none))) | false => (match Nat.ble 2 pc with | true => (match Nat.ble 3 pc with | true => (match Nat.beq pc 3 with | true => some (.sipush (156), 3, 0, [], false, []) | false => none) | false => (match Nat.beq pc 2 with | true => some (.iload_n 1, 1, 0, [], true, []) | false => none)) | false => (match Nat.ble 1 pc with | true => (match Nat.beq pc 1 with | true => some (.istore_n 1, 1, 0, [], false, []) | false => none) | false => (match Nat.beq pc 0 with | true => some (.iconst 0, 1, 0, [], false, []) | false => none))))
def call_Mo_copies (kk : Nat) : Nat → List AV → GS → Res := fun id a G => none
def bk_Mo_copies (kk k : Nat) : Kb := fun pc ls st G => match Nat.beq pc 2 with | true => (match ls, st with | [some (.inr (0, 50)), some (.inl (.int x1))], [] => (L_Mo_copies kk k) x1 G | _, _ => none) | false => none
theorem R_Mo_copies (kk : Nat) (G : GS) : ai_run T_Mo_copies (call_Mo_copies kk) (fun _ => []) 0 (bk_Mo_copies kk kk) 600 0 [some (.inr (0, 50)), none] [] G 0 = D_Mo_copies kk G := by exact rfl
theorem R_Mo_copies_2 (kk k : Nat) (x1 : Int32) (G : GS) : ai_step T_Mo_copies (call_Mo_copies kk) (fun _ => []) 0 (ai_run T_Mo_copies (call_Mo_copies kk) (fun _ => []) 0 (bk_Mo_copies kk k) 600) 2 (.iload_n 1, 1, 0, [], true, []) [some (.inr (0, 50)), some (.inl (.int x1))] [] G 0 = (L_Mo_copies kk (k + 1)) x1 G := by exact rfl
def T_Mo_goesBack : Tb := fun pc => match Nat.ble 14 pc with | true => (match Nat.ble 20 pc with | true => (match Nat.ble 24 pc with | true => (match Nat.ble 27 pc with | true => (match Nat.beq pc 27 with | true => some (.return_, 1, 0, [], false, []) | false => none) | false => (match Nat.beq pc 24 with | true => some (.goto (-22), 3, 2, [], false, []) | false => none)) | false => (match Nat.ble 21 pc with | true => (match Nat.beq pc 21 with | true => some (.iinc 1 (1), 3, 0, [], false, []) | false => none) | false => (match Nat.beq pc 20 with | true => some (.iastore, 1, 0, [], false, []) | false => none))) | false => (match Nat.ble 18 pc with | true => (match Nat.ble 19 pc with | true => (match Nat.beq pc 19 with | true => some (.iaload, 1, 0, [], false, []) | false => none) | false => (match Nat.beq pc 18 with | true => some (.iload_n 1, 1, 0, [], false, []) | false => none)) | false => (match Nat.ble 15 pc with | true => (match Nat.beq pc 15 with | true => some (.getfield 23, 3, 456, [], false, []) | false => none) | false => (match Nat.beq pc 14 with | true => some (.aload_n 0, 1, 0, [], false, []) | false => none)))) | false => (match Nat.ble 6 pc with | true => (match Nat.ble 10 pc with | true => (match Nat.ble 13 pc with | true => (match Nat.beq pc 13 with | true => some (.iload_n 1, 1, 0, [], false, []) | false => none) | false => (match Nat.beq pc 10 with | true => some (.getfield 13, 3, 450, [], false, []) | false => none)) | false => (match Nat.ble 9 pc with | true => (match Nat.beq pc 9 with | true => some (.aload_n 0, 1, 0, [], false, []) | false => none) | false => (match Nat.beq pc 6 with | true => some (.if_icmp .ge (21), 3, 27, [], false, []) | false => none))) | false => (match Nat.ble 2 pc with | true => (match Nat.ble 3 pc with | true => (match Nat.beq pc 3 with | true => some (.sipush (156), 3, 0, [], false, []) | false => none) | false => (match Nat.beq pc 2 with | true => some (.iload_n 1, 1, 0, [], true, []) | false => none)) | false => (match Nat.ble 1 pc with | true => (match Nat.beq pc 1 with | true => some (.istore_n 1, 1, 0, [], false, []) | false => none) | false => (match Nat.beq pc 0 with | true => some (.iconst 0, 1, 0, [], false, []) | false => none))))
def call_Mo_goesBack (kk : Nat) : Nat → List AV → GS → Res := fun id a G => none
def bk_Mo_goesBack (kk k : Nat) : Kb := fun pc ls st G => match Nat.beq pc 2 with | true => (match ls, st with | [some (.inr (0, 50)), some (.inl (.int x1))], [] => (L_Mo_goesBack kk k) x1 G | _, _ => none) | false => none
theorem R_Mo_goesBack (kk : Nat) (G : GS) : ai_run T_Mo_goesBack (call_Mo_goesBack kk) (fun _ => []) 0 (bk_Mo_goesBack kk kk) 600 0 [some (.inr (0, 50)), none] [] G 0 = D_Mo_goesBack kk G := by exact rfl
theorem R_Mo_goesBack_2 (kk k : Nat) (x1 : Int32) (G : GS) : ai_step T_Mo_goesBack (call_Mo_goesBack kk) (fun _ => []) 0 (ai_run T_Mo_goesBack (call_Mo_goesBack kk) (fun _ => []) 0 (bk_Mo_goesBack kk k) 600) 2 (.iload_n 1, 1, 0, [], true, []) [some (.inr (0, 50)), some (.inl (.int x1))] [] G 0 = (L_Mo_goesBack kk (k + 1)) x1 G := by exact rfl
def T_Mo_keeps : Tb := fun pc => match Nat.ble 45 pc with | true => (match Nat.ble 66 pc with | true => (match Nat.ble 78 pc with | true => (match Nat.ble 83 pc with | true => (match Nat.ble 85 pc with | true => (match Nat.ble 88 pc with | true => (match Nat.beq pc 88 with | true => some (.return_, 1, 0, [], false, []) | false => none) | false => (match Nat.beq pc 85 with | true => some (.putfield 42, 3, 458, [], false, []) | false => none)) | false => (match Nat.ble 84 pc with | true => (match Nat.beq pc 84 with | true => some (.iadd, 1, 0, [], false, []) | false => none) | false => (match Nat.beq pc 83 with | true => some (.iconst 1, 1, 0, [], false, []) | false => none))) | false => (match Nat.ble 79 pc with | true => (match Nat.ble 80 pc with | true => (match Nat.beq pc 80 with | true => some (.getfield 42, 3, 458, [], false, []) | false => none) | false => (match Nat.beq pc 79 with | true => some (.dup, 1, 0, [], false, []) | false => none)) | false => (match Nat.beq pc 78 with | true => some (.aload_n 0, 1, 0, [], false, []) | false => none))) | false => (match Nat.ble 71 pc with | true => (match Nat.ble 72 pc with | true => (match Nat.ble 75 pc with | true => (match Nat.beq pc 75 with | true => some (.goto (-28), 3, 47, [], false, []) | false => none) | false => (match Nat.beq pc 72 with | true => some (.iinc 2 (1), 3, 0, [], false, []) | false => none)) | false => (match Nat.beq pc 71 with | true => some (.iastore, 1, 0, [], false, []) | false => none)) | false => (match Nat.ble 69 pc with | true => (match Nat.ble 70 pc with | true => (match Nat.beq pc 70 with | true => some (.iaload, 1, 0, [], false, []) | false => none) | false => (match Nat.beq pc 69 with | true => some (.iload_n 2, 1, 0, [], false, []) | false => none)) | false => (match Nat.beq pc 66 with | true => some (.getfield 23, 3, 456, [], false, []) | false => none)))) | false => (match Nat.ble 55 pc with | true => (match Nat.ble 62 pc with | true => (match Nat.ble 64 pc with | true => (match Nat.ble 65 pc with | true => (match Nat.beq pc 65 with | true => some (.aload_n 0, 1, 0, [], false, []) | false => none) | false => (match Nat.beq pc 64 with | true => some (.iadd, 1, 0, [], false, []) | false => none)) | false => (match Nat.ble 63 pc with | true => (match Nat.beq pc 63 with | true => some (.iload_n 2, 1, 0, [], false, []) | false => none) | false => (match Nat.beq pc 62 with | true => some (.imul, 1, 0, [], false, []) | false => none))) | false => (match Nat.ble 58 pc with | true => (match Nat.ble 61 pc with | true => (match Nat.beq pc 61 with | true => some (.iload_n 1, 1, 0, [], false, []) | false => none) | false => (match Nat.beq pc 58 with | true => some (.sipush (156), 3, 0, [], false, []) | false => none)) | false => (match Nat.beq pc 55 with | true => some (.getfield 17, 3, 452, [], false, []) | false => none))) | false => (match Nat.ble 48 pc with | true => (match Nat.ble 51 pc with | true => (match Nat.ble 54 pc with | true => (match Nat.beq pc 54 with | true => some (.aload_n 0, 1, 0, [], false, []) | false => none) | false => (match Nat.beq pc 51 with | true => some (.if_icmp .ge (27), 3, 78, [], false, []) | false => none)) | false => (match Nat.beq pc 48 with | true => some (.sipush (156), 3, 0, [], false, []) | false => none)) | false => (match Nat.ble 46 pc with | true => (match Nat.ble 47 pc with | true => (match Nat.beq pc 47 with | true => some (.iload_n 2, 1, 0, [], true, []) | false => none) | false => (match Nat.beq pc 46 with | true => some (.istore_n 2, 1, 0, [], false, []) | false => none)) | false => (match Nat.beq pc 45 with | true => some (.iconst 0, 1, 0, [], false, []) | false => none))))) | false => (match Nat.ble 23 pc with | true => (match Nat.ble 33 pc with | true => (match Nat.ble 40 pc with | true => (match Nat.ble 43 pc with | true => (match Nat.ble 44 pc with | true => (match Nat.beq pc 44 with | true => some (.istore_n 1, 1, 0, [], false, []) | false => none) | false => (match Nat.beq pc 43 with | true => some (.irem, 1, 0, [], false, []) | false => none)) | false => (match Nat.ble 41 pc with | true => (match Nat.beq pc 41 with | true => some (.bipush (8), 2, 0, [], false, []) | false => none) | false => (match Nat.beq pc 40 with | true => some (.iadd, 1, 0, [], false, []) | false => none))) | false => (match Nat.ble 36 pc with | true => (match Nat.ble 37 pc with | true => (match Nat.beq pc 37 with | true => some (.getfield 42, 3, 458, [], false, []) | false => none) | false => (match Nat.beq pc 36 with | true => some (.aload_n 0, 1, 0, [], false, []) | false => none)) | false => (match Nat.beq pc 33 with | true => some (.getfield 45, 3, 460, [], false, []) | false => none))) | false => (match Nat.ble 28 pc with | true => (match Nat.ble 29 pc with | true => (match Nat.ble 32 pc with | true => (match Nat.beq pc 32 with | true => some (.aload_n 0, 1, 0, [], false, []) | false => none) | false => (match Nat.beq pc 29 with | true => some (.putfield 42, 3, 458, [], false, []) | false => none)) | false => (match Nat.beq pc 28 with | true => some (.isub, 1, 0, [], false, []) | false => none)) | false => (match Nat.ble 24 pc with | true => (match Nat.ble 27 pc with | true => (match Nat.beq pc 27 with | true => some (.iconst 1, 1, 0, [], false, []) | false => none) | false => (match Nat.beq pc 24 with | true => some (.getfield 42, 3, 458, [], false, []) | false => none)) | false => (match Nat.beq pc 23 with | true => some (.dup, 1, 0, [], false, []) | false => none)))) | false => (match Nat.ble 11 pc with | true => (match Nat.ble 16 pc with | true => (match Nat.ble 19 pc with | true => (match Nat.ble 22 pc with | true => (match Nat.beq pc 22 with | true => some (.aload_n 0, 1, 0, [], false, []) | false => none) | false => (match Nat.beq pc 19 with | true => some (.putfield 45, 3, 460, [], false, []) | false => none)) | false => (match Nat.ble 18 pc with | true => (match Nat.beq pc 18 with | true => some (.irem, 1, 0, [], false, []) | false => none) | false => (match Nat.beq pc 16 with | true => some (.bipush (8), 2, 0, [], false, []) | false => none))) | false => (match Nat.ble 14 pc with | true => (match Nat.ble 15 pc with | true => (match Nat.beq pc 15 with | true => some (.iadd, 1, 0, [], false, []) | false => none) | false => (match Nat.beq pc 14 with | true => some (.iconst 1, 1, 0, [], false, []) | false => none)) | false => (match Nat.beq pc 11 with | true => some (.getfield 45, 3, 460, [], false, []) | false => none))) | false => (match Nat.ble 6 pc with | true => (match Nat.ble 9 pc with | true => (match Nat.ble 10 pc with | true => (match Nat.beq pc 10 with | true => some (.aload_n 0, 1, 0, [], false, []) | false => none) | false => (match Nat.beq pc 9 with | true => some (.aload_n 0, 1, 0, [], false, []) | false => none)) | false => (match Nat.beq pc 6 with | true => some (.if_icmp .ne (26), 3, 32, [], false, []) | false => none)) | false => (match Nat.ble 1 pc with | true => (match Nat.ble 4 pc with | true => (match Nat.beq pc 4 with | true => some (.bipush (8), 2, 0, [], false, []) | false => none) | false => (match Nat.beq pc 1 with | true => some (.getfield 42, 3, 458, [], false, []) | false => none)) | false => (match Nat.beq pc 0 with | true => some (.aload_n 0, 1, 0, [], false, []) | false => none)))))
def call_Mo_keeps (kk : Nat) : Nat → List AV → GS → Res := fun id a G => none
def bk_Mo_keeps (kk k : Nat) : Kb := fun pc ls st G => match Nat.beq pc 47 with | true => (match ls, st with | [some (.inr (0, 50)), some (.inl (.int x1)), some (.inl (.int x2))], [] => (L_Mo_keeps kk k) x1 x2 G | _, _ => none) | false => none
theorem R_Mo_keeps (kk : Nat) (G : GS) : ai_run T_Mo_keeps (call_Mo_keeps kk) (fun _ => []) 0 (bk_Mo_keeps kk kk) 600 0 [some (.inr (0, 50)), none, none] [] G 0 = D_Mo_keeps kk G := by exact rfl
theorem R_Mo_keeps_47 (kk k : Nat) (x1 : Int32) (x2 : Int32) (G : GS) : ai_step T_Mo_keeps (call_Mo_keeps kk) (fun _ => []) 0 (ai_run T_Mo_keeps (call_Mo_keeps kk) (fun _ => []) 0 (bk_Mo_keeps kk k) 600) 47 (.iload_n 2, 1, 0, [], true, []) [some (.inr (0, 50)), some (.inl (.int x1)), some (.inl (.int x2))] [] G 0 = (L_Mo_keeps kk (k + 1)) x1 x2 G := by exact rfl
def T_Mo_remembers : Tb := fun pc => match Nat.ble 4 pc with | true => (match Nat.ble 5 pc with | true => (match Nat.ble 8 pc with | true => (match Nat.beq pc 8 with | true => some (.return_, 1, 0, [], false, []) | false => none) | false => (match Nat.beq pc 5 with | true => some (.invokevirtual 51, 3, 2605064, [], false, []) | false => none)) | false => (match Nat.beq pc 4 with | true => some (.aload_n 0, 1, 0, [], false, []) | false => none)) | false => (match Nat.ble 1 pc with | true => (match Nat.beq pc 1 with | true => some (.invokevirtual 48, 3, 2572296, [], false, []) | false => none) | false => (match Nat.beq pc 0 with | true => some (.aload_n 0, 1, 0, [], false, []) | false => none))
def call_Mo_remembers (kk : Nat) : Nat → List AV → GS → Res := fun id a G => match Nat.ble 159 id with | true => (match Nat.beq id 159 with | true => A_Mo_keeps kk a G | false => none) | false => (match Nat.beq id 157 with | true => A_Mo_copies kk a G | false => none)
def bk_Mo_remembers (kk k : Nat) : Kb := fun _ _ _ _ => none
theorem R_Mo_remembers (kk : Nat) (G : GS) : ai_run T_Mo_remembers (call_Mo_remembers kk) (fun _ => []) 0 (bk_Mo_remembers kk kk) 600 0 [some (.inr (0, 50))] [] G 0 = D_Mo_remembers kk G := by exact rfl
def T_Mo_isBay : Tb := fun pc => match Nat.ble 2 pc with | true => (match Nat.ble 4 pc with | true => (match Nat.ble 7 pc with | true => (match Nat.beq pc 7 with | true => some (.ireturn, 1, 0, [], false, []) | false => none) | false => (match Nat.beq pc 4 with | true => some (.invokestatic 54, 3, 2539545, [], false, []) | false => none)) | false => (match Nat.beq pc 2 with | true => some (.bipush (6), 2, 0, [], false, []) | false => none)) | false => (match Nat.ble 1 pc with | true => (match Nat.beq pc 1 with | true => some (.iconst 0, 1, 0, [], false, []) | false => none) | false => (match Nat.beq pc 0 with | true => some (.iload_n 0, 1, 0, [], false, []) | false => none))
def call_Mo_isBay (kk : Nat) : Nat → List AV → GS → Res := fun id a G => match Nat.beq id 155 with | true => A_Mo_isBetween kk a G | false => none
def bk_Mo_isBay (kk k : Nat) : Kb := fun _ _ _ _ => none
theorem R_Mo_isBay (kk : Nat) (a0 : Int32) (G : GS) : ai_run T_Mo_isBay (call_Mo_isBay kk) (fun _ => []) 0 (bk_Mo_isBay kk kk) 600 0 [some (.inl (.int a0))] [] G 0 = D_Mo_isBay kk a0 G := by exact rfl
def T_Mo_at : Tb := fun pc => match Nat.ble 11 pc with | true => (match Nat.ble 15 pc with | true => (match Nat.ble 17 pc with | true => (match Nat.ble 18 pc with | true => (match Nat.beq pc 18 with | true => some (.ireturn, 1, 0, [], false, []) | false => none) | false => (match Nat.beq pc 17 with | true => some (.iaload, 1, 0, [], false, []) | false => none)) | false => (match Nat.ble 16 pc with | true => (match Nat.beq pc 16 with | true => some (.iadd, 1, 0, [], false, []) | false => none) | false => (match Nat.beq pc 15 with | true => some (.iload_n 3, 1, 0, [], false, []) | false => none))) | false => (match Nat.ble 13 pc with | true => (match Nat.ble 14 pc with | true => (match Nat.beq pc 14 with | true => some (.iadd, 1, 0, [], false, []) | false => none) | false => (match Nat.beq pc 13 with | true => some (.imul, 1, 0, [], false, []) | false => none)) | false => (match Nat.ble 12 pc with | true => (match Nat.beq pc 12 with | true => some (.iload_n 2, 1, 0, [], false, []) | false => none) | false => (match Nat.beq pc 11 with | true => some (.iconst 4, 1, 0, [], false, []) | false => none)))) | false => (match Nat.ble 6 pc with | true => (match Nat.ble 9 pc with | true => (match Nat.ble 10 pc with | true => (match Nat.beq pc 10 with | true => some (.iadd, 1, 0, [], false, []) | false => none) | false => (match Nat.beq pc 9 with | true => some (.imul, 1, 0, [], false, []) | false => none)) | false => (match Nat.ble 8 pc with | true => (match Nat.beq pc 8 with | true => some (.iload_n 1, 1, 0, [], false, []) | false => none) | false => (match Nat.beq pc 6 with | true => some (.bipush (20), 2, 0, [], false, []) | false => none))) | false => (match Nat.ble 1 pc with | true => (match Nat.ble 4 pc with | true => (match Nat.beq pc 4 with | true => some (.bipush (16), 2, 0, [], false, []) | false => none) | false => (match Nat.beq pc 1 with | true => some (.getfield 13, 3, 450, [], false, []) | false => none)) | false => (match Nat.beq pc 0 with | true => some (.aload_n 0, 1, 0, [], false, []) | false => none)))
def call_Mo_at (kk : Nat) : Nat → List AV → GS → Res := fun id a G => none
def bk_Mo_at (kk k : Nat) : Kb := fun _ _ _ _ => none
theorem R_Mo_at (kk : Nat) (a0 : Int32) (a1 : Int32) (a2 : Int32) (G : GS) : ai_run T_Mo_at (call_Mo_at kk) (fun _ => []) 0 (bk_Mo_at kk kk) 600 0 [some (.inr (0, 50)), some (.inl (.int a0)), some (.inl (.int a1)), some (.inl (.int a2))] [] G 0 = D_Mo_at kk a0 a1 a2 G := by exact rfl
def T_Mo_puts : Tb := fun pc => match Nat.ble 12 pc with | true => (match Nat.ble 16 pc with | true => (match Nat.ble 19 pc with | true => (match Nat.ble 20 pc with | true => (match Nat.beq pc 20 with | true => some (.return_, 1, 0, [], false, []) | false => none) | false => (match Nat.beq pc 19 with | true => some (.iastore, 1, 0, [], false, []) | false => none)) | false => (match Nat.ble 17 pc with | true => (match Nat.beq pc 17 with | true => some (.iload 4, 2, 0, [], false, []) | false => none) | false => (match Nat.beq pc 16 with | true => some (.iadd, 1, 0, [], false, []) | false => none))) | false => (match Nat.ble 14 pc with | true => (match Nat.ble 15 pc with | true => (match Nat.beq pc 15 with | true => some (.iload_n 3, 1, 0, [], false, []) | false => none) | false => (match Nat.beq pc 14 with | true => some (.iadd, 1, 0, [], false, []) | false => none)) | false => (match Nat.ble 13 pc with | true => (match Nat.beq pc 13 with | true => some (.imul, 1, 0, [], false, []) | false => none) | false => (match Nat.beq pc 12 with | true => some (.iload_n 2, 1, 0, [], false, []) | false => none)))) | false => (match Nat.ble 8 pc with | true => (match Nat.ble 10 pc with | true => (match Nat.ble 11 pc with | true => (match Nat.beq pc 11 with | true => some (.iconst 4, 1, 0, [], false, []) | false => none) | false => (match Nat.beq pc 10 with | true => some (.iadd, 1, 0, [], false, []) | false => none)) | false => (match Nat.ble 9 pc with | true => (match Nat.beq pc 9 with | true => some (.imul, 1, 0, [], false, []) | false => none) | false => (match Nat.beq pc 8 with | true => some (.iload_n 1, 1, 0, [], false, []) | false => none))) | false => (match Nat.ble 4 pc with | true => (match Nat.ble 6 pc with | true => (match Nat.beq pc 6 with | true => some (.bipush (20), 2, 0, [], false, []) | false => none) | false => (match Nat.beq pc 4 with | true => some (.bipush (16), 2, 0, [], false, []) | false => none)) | false => (match Nat.ble 1 pc with | true => (match Nat.beq pc 1 with | true => some (.getfield 13, 3, 450, [], false, []) | false => none) | false => (match Nat.beq pc 0 with | true => some (.aload_n 0, 1, 0, [], false, []) | false => none))))
def call_Mo_puts (kk : Nat) : Nat → List AV → GS → Res := fun id a G => none
def bk_Mo_puts (kk k : Nat) : Kb := fun _ _ _ _ => none
theorem R_Mo_puts (kk : Nat) (a0 : Int32) (a1 : Int32) (a2 : Int32) (a3 : Int32) (G : GS) : ai_run T_Mo_puts (call_Mo_puts kk) (fun _ => []) 0 (bk_Mo_puts kk kk) 600 0 [some (.inr (0, 50)), some (.inl (.int a0)), some (.inl (.int a1)), some (.inl (.int a2)), some (.inl (.int a3))] [] G 0 = D_Mo_puts kk a0 a1 a2 a3 G := by exact rfl
def T_Mo_top : Tb := fun pc => match Nat.ble 9 pc with | true => (match Nat.ble 12 pc with | true => (match Nat.ble 14 pc with | true => (match Nat.ble 17 pc with | true => (match Nat.beq pc 17 with | true => some (.ireturn, 1, 0, [], false, []) | false => none) | false => (match Nat.beq pc 14 with | true => some (.invokevirtual 58, 3, 2654241, [], false, []) | false => none)) | false => (match Nat.ble 13 pc with | true => (match Nat.beq pc 13 with | true => some (.iload_n 2, 1, 0, [], false, []) | false => none) | false => (match Nat.beq pc 12 with | true => some (.isub, 1, 0, [], false, []) | false => none))) | false => (match Nat.ble 10 pc with | true => (match Nat.ble 11 pc with | true => (match Nat.beq pc 11 with | true => some (.iconst 1, 1, 0, [], false, []) | false => none) | false => (match Nat.beq pc 10 with | true => some (.iaload, 1, 0, [], false, []) | false => none)) | false => (match Nat.beq pc 9 with | true => some (.iadd, 1, 0, [], false, []) | false => none))) | false => (match Nat.ble 3 pc with | true => (match Nat.ble 6 pc with | true => (match Nat.ble 8 pc with | true => (match Nat.beq pc 8 with | true => some (.iload_n 1, 1, 0, [], false, []) | false => none) | false => (match Nat.beq pc 6 with | true => some (.bipush (9), 2, 0, [], false, []) | false => none)) | false => (match Nat.beq pc 3 with | true => some (.getfield 13, 3, 450, [], false, []) | false => none)) | false => (match Nat.ble 1 pc with | true => (match Nat.ble 2 pc with | true => (match Nat.beq pc 2 with | true => some (.aload_n 0, 1, 0, [], false, []) | false => none) | false => (match Nat.beq pc 1 with | true => some (.iload_n 1, 1, 0, [], false, []) | false => none)) | false => (match Nat.beq pc 0 with | true => some (.aload_n 0, 1, 0, [], false, []) | false => none)))
def call_Mo_top (kk : Nat) : Nat → List AV → GS → Res := fun id a G => match Nat.beq id 162 with | true => A_Mo_at kk a G | false => none
def bk_Mo_top (kk k : Nat) : Kb := fun _ _ _ _ => none
theorem R_Mo_top (kk : Nat) (a0 : Int32) (a1 : Int32) (G : GS) : ai_run T_Mo_top (call_Mo_top kk) (fun _ => []) 0 (bk_Mo_top kk kk) 600 0 [some (.inr (0, 50)), some (.inl (.int a0)), some (.inl (.int a1))] [] G 0 = D_Mo_top kk a0 a1 G := by exact rfl
def T_Mo_weightOfBay : Tb := fun pc => match Nat.ble 17 pc with | true => (match Nat.ble 25 pc with | true => (match Nat.ble 30 pc with | true => (match Nat.ble 33 pc with | true => (match Nat.ble 34 pc with | true => (match Nat.beq pc 34 with | true => some (.ireturn, 1, 0, [], false, []) | false => none) | false => (match Nat.beq pc 33 with | true => some (.iload_n 2, 1, 0, [], false, []) | false => none)) | false => (match Nat.beq pc 30 with | true => some (.goto (-26), 3, 4, [], false, []) | false => none)) | false => (match Nat.ble 26 pc with | true => (match Nat.ble 27 pc with | true => (match Nat.beq pc 27 with | true => some (.iinc 3 (1), 3, 0, [], false, []) | false => none) | false => (match Nat.beq pc 26 with | true => some (.istore_n 2, 1, 0, [], false, []) | false => none)) | false => (match Nat.beq pc 25 with | true => some (.iadd, 1, 0, [], false, []) | false => none))) | false => (match Nat.ble 20 pc with | true => (match Nat.ble 21 pc with | true => (match Nat.ble 22 pc with | true => (match Nat.beq pc 22 with | true => some (.invokevirtual 58, 3, 2654241, [], false, []) | false => none) | false => (match Nat.beq pc 21 with | true => some (.iconst 1, 1, 0, [], false, []) | false => none)) | false => (match Nat.beq pc 20 with | true => some (.iload_n 3, 1, 0, [], false, []) | false => none)) | false => (match Nat.ble 18 pc with | true => (match Nat.ble 19 pc with | true => (match Nat.beq pc 19 with | true => some (.iload_n 1, 1, 0, [], false, []) | false => none) | false => (match Nat.beq pc 18 with | true => some (.aload_n 0, 1, 0, [], false, []) | false => none)) | false => (match Nat.beq pc 17 with | true => some (.iload_n 2, 1, 0, [], false, []) | false => none)))) | false => (match Nat.ble 6 pc with | true => (match Nat.ble 12 pc with | true => (match Nat.ble 13 pc with | true => (match Nat.ble 14 pc with | true => (match Nat.beq pc 14 with | true => some (.if_icmp .ge (19), 3, 33, [], false, []) | false => none) | false => (match Nat.beq pc 13 with | true => some (.iaload, 1, 0, [], false, []) | false => none)) | false => (match Nat.beq pc 12 with | true => some (.iadd, 1, 0, [], false, []) | false => none)) | false => (match Nat.ble 9 pc with | true => (match Nat.ble 11 pc with | true => (match Nat.beq pc 11 with | true => some (.iload_n 1, 1, 0, [], false, []) | false => none) | false => (match Nat.beq pc 9 with | true => some (.bipush (9), 2, 0, [], false, []) | false => none)) | false => (match Nat.beq pc 6 with | true => some (.getfield 13, 3, 450, [], false, []) | false => none))) | false => (match Nat.ble 3 pc with | true => (match Nat.ble 4 pc with | true => (match Nat.ble 5 pc with | true => (match Nat.beq pc 5 with | true => some (.aload_n 0, 1, 0, [], false, []) | false => none) | false => (match Nat.beq pc 4 with | true => some (.iload_n 3, 1, 0, [], true, []) | false => none)) | false => (match Nat.beq pc 3 with | true => some (.istore_n 3, 1, 0, [], false, []) | false => none)) | false => (match Nat.ble 1 pc with | true => (match Nat.ble 2 pc with | true => (match Nat.beq pc 2 with | true => some (.iconst 0, 1, 0, [], false, []) | false => none) | false => (match Nat.beq pc 1 with | true => some (.istore_n 2, 1, 0, [], false, []) | false => none)) | false => (match Nat.beq pc 0 with | true => some (.iconst 0, 1, 0, [], false, []) | false => none))))
def call_Mo_weightOfBay (kk : Nat) : Nat → List AV → GS → Res := fun id a G => match Nat.beq id 162 with | true => A_Mo_at kk a G | false => none
def bk_Mo_weightOfBay (kk k : Nat) : Kb := fun pc ls st G => match Nat.beq pc 4 with | true => (match ls, st with | [some (.inr (0, 50)), some (.inl (.int x1)), some (.inl (.int x2)), some (.inl (.int x3))], [] => (L_Mo_weightOfBay kk k) x1 x2 x3 G | _, _ => none) | false => none
theorem R_Mo_weightOfBay (kk : Nat) (a0 : Int32) (G : GS) : ai_run T_Mo_weightOfBay (call_Mo_weightOfBay kk) (fun _ => []) 0 (bk_Mo_weightOfBay kk kk) 600 0 [some (.inr (0, 50)), some (.inl (.int a0)), none, none] [] G 0 = D_Mo_weightOfBay kk a0 G := by exact rfl
theorem R_Mo_weightOfBay_4 (kk k : Nat) (x1 : Int32) (x2 : Int32) (x3 : Int32) (G : GS) : ai_step T_Mo_weightOfBay (call_Mo_weightOfBay kk) (fun _ => []) 0 (ai_run T_Mo_weightOfBay (call_Mo_weightOfBay kk) (fun _ => []) 0 (bk_Mo_weightOfBay kk k) 600) 4 (.iload_n 3, 1, 0, [], true, []) [some (.inr (0, 50)), some (.inl (.int x1)), some (.inl (.int x2)), some (.inl (.int x3))] [] G 0 = (L_Mo_weightOfBay kk (k + 1)) x1 x2 x3 G := by exact rfl
def T_Mo_momentNow : Tb := fun pc => match Nat.ble 13 pc with | true => (match Nat.ble 20 pc with | true => (match Nat.ble 25 pc with | true => (match Nat.ble 28 pc with | true => (match Nat.ble 29 pc with | true => (match Nat.beq pc 29 with | true => some (.ireturn, 1, 0, [], false, []) | false => none) | false => (match Nat.beq pc 28 with | true => some (.iload_n 1, 1, 0, [], false, []) | false => none)) | false => (match Nat.beq pc 25 with | true => some (.goto (-21), 3, 4, [], false, []) | false => none)) | false => (match Nat.ble 21 pc with | true => (match Nat.ble 22 pc with | true => (match Nat.beq pc 22 with | true => some (.iinc 2 (1), 3, 0, [], false, []) | false => none) | false => (match Nat.beq pc 21 with | true => some (.istore_n 1, 1, 0, [], false, []) | false => none)) | false => (match Nat.beq pc 20 with | true => some (.iadd, 1, 0, [], false, []) | false => none))) | false => (match Nat.ble 15 pc with | true => (match Nat.ble 16 pc with | true => (match Nat.ble 19 pc with | true => (match Nat.beq pc 19 with | true => some (.imul, 1, 0, [], false, []) | false => none) | false => (match Nat.beq pc 16 with | true => some (.invokevirtual 62, 3, 2703377, [], false, []) | false => none)) | false => (match Nat.beq pc 15 with | true => some (.iload_n 2, 1, 0, [], false, []) | false => none)) | false => (match Nat.ble 14 pc with | true => (match Nat.beq pc 14 with | true => some (.aload_n 0, 1, 0, [], false, []) | false => none) | false => (match Nat.beq pc 13 with | true => some (.isub, 1, 0, [], false, []) | false => none)))) | false => (match Nat.ble 5 pc with | true => (match Nat.ble 10 pc with | true => (match Nat.ble 11 pc with | true => (match Nat.ble 12 pc with | true => (match Nat.beq pc 12 with | true => some (.iconst 3, 1, 0, [], false, []) | false => none) | false => (match Nat.beq pc 11 with | true => some (.iload_n 2, 1, 0, [], false, []) | false => none)) | false => (match Nat.beq pc 10 with | true => some (.iload_n 1, 1, 0, [], false, []) | false => none)) | false => (match Nat.ble 7 pc with | true => (match Nat.beq pc 7 with | true => some (.if_icmp .ge (21), 3, 28, [], false, []) | false => none) | false => (match Nat.beq pc 5 with | true => some (.bipush (7), 2, 0, [], false, []) | false => none))) | false => (match Nat.ble 2 pc with | true => (match Nat.ble 3 pc with | true => (match Nat.ble 4 pc with | true => (match Nat.beq pc 4 with | true => some (.iload_n 2, 1, 0, [], true, []) | false => none) | false => (match Nat.beq pc 3 with | true => some (.istore_n 2, 1, 0, [], false, []) | false => none)) | false => (match Nat.beq pc 2 with | true => some (.iconst 0, 1, 0, [], false, []) | false => none)) | false => (match Nat.ble 1 pc with | true => (match Nat.beq pc 1 with | true => some (.istore_n 1, 1, 0, [], false, []) | false => none) | false => (match Nat.beq pc 0 with | true => some (.iconst 0, 1, 0, [], false, []) | false => none))))
def call_Mo_momentNow (kk : Nat) : Nat → List AV → GS → Res := fun id a G => match Nat.beq id 165 with | true => A_Mo_weightOfBay kk a G | false => none
def bk_Mo_momentNow (kk k : Nat) : Kb := fun pc ls st G => match Nat.beq pc 4 with | true => (match ls, st with | [some (.inr (0, 50)), some (.inl (.int x1)), some (.inl (.int x2))], [] => (L_Mo_momentNow kk k) x1 x2 G | _, _ => none) | false => none
theorem R_Mo_momentNow (kk : Nat) (G : GS) : ai_run T_Mo_momentNow (call_Mo_momentNow kk) (fun _ => []) 0 (bk_Mo_momentNow kk kk) 600 0 [some (.inr (0, 50)), none, none] [] G 0 = D_Mo_momentNow kk G := by exact rfl
theorem R_Mo_momentNow_4 (kk k : Nat) (x1 : Int32) (x2 : Int32) (G : GS) : ai_step T_Mo_momentNow (call_Mo_momentNow kk) (fun _ => []) 0 (ai_run T_Mo_momentNow (call_Mo_momentNow kk) (fun _ => []) 0 (bk_Mo_momentNow kk k) 600) 4 (.iload_n 2, 1, 0, [], true, []) [some (.inr (0, 50)), some (.inl (.int x1)), some (.inl (.int x2))] [] G 0 = (L_Mo_momentNow kk (k + 1)) x1 x2 G := by exact rfl
def T_Mo_weightAll : Tb := fun pc => match Nat.ble 11 pc with | true => (match Nat.ble 17 pc with | true => (match Nat.ble 21 pc with | true => (match Nat.ble 24 pc with | true => (match Nat.ble 25 pc with | true => (match Nat.beq pc 25 with | true => some (.ireturn, 1, 0, [], false, []) | false => none) | false => (match Nat.beq pc 24 with | true => some (.iload_n 1, 1, 0, [], false, []) | false => none)) | false => (match Nat.beq pc 21 with | true => some (.goto (-17), 3, 4, [], false, []) | false => none)) | false => (match Nat.ble 18 pc with | true => (match Nat.beq pc 18 with | true => some (.iinc 2 (1), 3, 0, [], false, []) | false => none) | false => (match Nat.beq pc 17 with | true => some (.istore_n 1, 1, 0, [], false, []) | false => none))) | false => (match Nat.ble 13 pc with | true => (match Nat.ble 16 pc with | true => (match Nat.beq pc 16 with | true => some (.iadd, 1, 0, [], false, []) | false => none) | false => (match Nat.beq pc 13 with | true => some (.invokevirtual 62, 3, 2703377, [], false, []) | false => none)) | false => (match Nat.ble 12 pc with | true => (match Nat.beq pc 12 with | true => some (.iload_n 2, 1, 0, [], false, []) | false => none) | false => (match Nat.beq pc 11 with | true => some (.aload_n 0, 1, 0, [], false, []) | false => none)))) | false => (match Nat.ble 4 pc with | true => (match Nat.ble 7 pc with | true => (match Nat.ble 10 pc with | true => (match Nat.beq pc 10 with | true => some (.iload_n 1, 1, 0, [], false, []) | false => none) | false => (match Nat.beq pc 7 with | true => some (.if_icmp .ge (17), 3, 24, [], false, []) | false => none)) | false => (match Nat.ble 5 pc with | true => (match Nat.beq pc 5 with | true => some (.bipush (7), 2, 0, [], false, []) | false => none) | false => (match Nat.beq pc 4 with | true => some (.iload_n 2, 1, 0, [], true, []) | false => none))) | false => (match Nat.ble 2 pc with | true => (match Nat.ble 3 pc with | true => (match Nat.beq pc 3 with | true => some (.istore_n 2, 1, 0, [], false, []) | false => none) | false => (match Nat.beq pc 2 with | true => some (.iconst 0, 1, 0, [], false, []) | false => none)) | false => (match Nat.ble 1 pc with | true => (match Nat.beq pc 1 with | true => some (.istore_n 1, 1, 0, [], false, []) | false => none) | false => (match Nat.beq pc 0 with | true => some (.iconst 0, 1, 0, [], false, []) | false => none))))
def call_Mo_weightAll (kk : Nat) : Nat → List AV → GS → Res := fun id a G => match Nat.beq id 165 with | true => A_Mo_weightOfBay kk a G | false => none
def bk_Mo_weightAll (kk k : Nat) : Kb := fun pc ls st G => match Nat.beq pc 4 with | true => (match ls, st with | [some (.inr (0, 50)), some (.inl (.int x1)), some (.inl (.int x2))], [] => (L_Mo_weightAll kk k) x1 x2 G | _, _ => none) | false => none
theorem R_Mo_weightAll (kk : Nat) (G : GS) : ai_run T_Mo_weightAll (call_Mo_weightAll kk) (fun _ => []) 0 (bk_Mo_weightAll kk kk) 600 0 [some (.inr (0, 50)), none, none] [] G 0 = D_Mo_weightAll kk G := by exact rfl
theorem R_Mo_weightAll_4 (kk k : Nat) (x1 : Int32) (x2 : Int32) (G : GS) : ai_step T_Mo_weightAll (call_Mo_weightAll kk) (fun _ => []) 0 (ai_run T_Mo_weightAll (call_Mo_weightAll kk) (fun _ => []) 0 (bk_Mo_weightAll kk k) 600) 4 (.iload_n 2, 1, 0, [], true, []) [some (.inr (0, 50)), some (.inl (.int x1)), some (.inl (.int x2))] [] G 0 = (L_Mo_weightAll kk (k + 1)) x1 x2 G := by exact rfl
def T_Mo_countAll : Tb := fun pc => match Nat.ble 15 pc with | true => (match Nat.ble 21 pc with | true => (match Nat.ble 25 pc with | true => (match Nat.ble 28 pc with | true => (match Nat.ble 29 pc with | true => (match Nat.beq pc 29 with | true => some (.ireturn, 1, 0, [], false, []) | false => none) | false => (match Nat.beq pc 28 with | true => some (.iload_n 1, 1, 0, [], false, []) | false => none)) | false => (match Nat.beq pc 25 with | true => some (.goto (-21), 3, 4, [], false, []) | false => none)) | false => (match Nat.ble 22 pc with | true => (match Nat.beq pc 22 with | true => some (.iinc 2 (1), 3, 0, [], false, []) | false => none) | false => (match Nat.beq pc 21 with | true => some (.istore_n 1, 1, 0, [], false, []) | false => none))) | false => (match Nat.ble 18 pc with | true => (match Nat.ble 19 pc with | true => (match Nat.ble 20 pc with | true => (match Nat.beq pc 20 with | true => some (.iadd, 1, 0, [], false, []) | false => none) | false => (match Nat.beq pc 19 with | true => some (.iaload, 1, 0, [], false, []) | false => none)) | false => (match Nat.beq pc 18 with | true => some (.iadd, 1, 0, [], false, []) | false => none)) | false => (match Nat.ble 17 pc with | true => (match Nat.beq pc 17 with | true => some (.iload_n 2, 1, 0, [], false, []) | false => none) | false => (match Nat.beq pc 15 with | true => some (.bipush (9), 2, 0, [], false, []) | false => none)))) | false => (match Nat.ble 5 pc with | true => (match Nat.ble 10 pc with | true => (match Nat.ble 11 pc with | true => (match Nat.ble 12 pc with | true => (match Nat.beq pc 12 with | true => some (.getfield 13, 3, 450, [], false, []) | false => none) | false => (match Nat.beq pc 11 with | true => some (.aload_n 0, 1, 0, [], false, []) | false => none)) | false => (match Nat.beq pc 10 with | true => some (.iload_n 1, 1, 0, [], false, []) | false => none)) | false => (match Nat.ble 7 pc with | true => (match Nat.beq pc 7 with | true => some (.if_icmp .ge (21), 3, 28, [], false, []) | false => none) | false => (match Nat.beq pc 5 with | true => some (.bipush (7), 2, 0, [], false, []) | false => none))) | false => (match Nat.ble 2 pc with | true => (match Nat.ble 3 pc with | true => (match Nat.ble 4 pc with | true => (match Nat.beq pc 4 with | true => some (.iload_n 2, 1, 0, [], true, []) | false => none) | false => (match Nat.beq pc 3 with | true => some (.istore_n 2, 1, 0, [], false, []) | false => none)) | false => (match Nat.beq pc 2 with | true => some (.iconst 0, 1, 0, [], false, []) | false => none)) | false => (match Nat.ble 1 pc with | true => (match Nat.beq pc 1 with | true => some (.istore_n 1, 1, 0, [], false, []) | false => none) | false => (match Nat.beq pc 0 with | true => some (.iconst 0, 1, 0, [], false, []) | false => none))))
def call_Mo_countAll (kk : Nat) : Nat → List AV → GS → Res := fun id a G => none
def bk_Mo_countAll (kk k : Nat) : Kb := fun pc ls st G => match Nat.beq pc 4 with | true => (match ls, st with | [some (.inr (0, 50)), some (.inl (.int x1)), some (.inl (.int x2))], [] => (L_Mo_countAll kk k) x1 x2 G | _, _ => none) | false => none
theorem R_Mo_countAll (kk : Nat) (G : GS) : ai_run T_Mo_countAll (call_Mo_countAll kk) (fun _ => []) 0 (bk_Mo_countAll kk kk) 600 0 [some (.inr (0, 50)), none, none] [] G 0 = D_Mo_countAll kk G := by exact rfl
theorem R_Mo_countAll_4 (kk k : Nat) (x1 : Int32) (x2 : Int32) (G : GS) : ai_step T_Mo_countAll (call_Mo_countAll kk) (fun _ => []) 0 (ai_run T_Mo_countAll (call_Mo_countAll kk) (fun _ => []) 0 (bk_Mo_countAll kk k) 600) 4 (.iload_n 2, 1, 0, [], true, []) [some (.inr (0, 50)), some (.inl (.int x1)), some (.inl (.int x2))] [] G 0 = (L_Mo_countAll kk (k + 1)) x1 x2 G := by exact rfl
def T_Mo_isBeyond : Tb := fun pc => match Nat.ble 17 pc with | true => (match Nat.ble 24 pc with | true => (match Nat.ble 29 pc with | true => (match Nat.ble 32 pc with | true => (match Nat.ble 33 pc with | true => (match Nat.beq pc 33 with | true => some (.ireturn, 1, 0, [], false, []) | false => none) | false => (match Nat.beq pc 32 with | true => some (.iconst 0, 1, 0, [], false, []) | false => none)) | false => (match Nat.beq pc 29 with | true => some (.goto (4), 3, 33, [], false, []) | false => none)) | false => (match Nat.ble 25 pc with | true => (match Nat.ble 28 pc with | true => (match Nat.beq pc 28 with | true => some (.iconst 1, 1, 0, [], false, []) | false => none) | false => (match Nat.beq pc 25 with | true => some (.if_icmp .le (7), 3, 32, [], false, []) | false => none)) | false => (match Nat.beq pc 24 with | true => some (.iaload, 1, 0, [], false, []) | false => none))) | false => (match Nat.ble 19 pc with | true => (match Nat.ble 20 pc with | true => (match Nat.ble 23 pc with | true => (match Nat.beq pc 23 with | true => some (.iconst 3, 1, 0, [], false, []) | false => none) | false => (match Nat.beq pc 20 with | true => some (.getfield 13, 3, 450, [], false, []) | false => none)) | false => (match Nat.beq pc 19 with | true => some (.aload_n 0, 1, 0, [], false, []) | false => none)) | false => (match Nat.ble 18 pc with | true => (match Nat.beq pc 18 with | true => some (.ineg, 1, 0, [], false, []) | false => none) | false => (match Nat.beq pc 17 with | true => some (.iload_n 2, 1, 0, [], false, []) | false => none)))) | false => (match Nat.ble 7 pc with | true => (match Nat.ble 12 pc with | true => (match Nat.ble 13 pc with | true => (match Nat.ble 14 pc with | true => (match Nat.beq pc 14 with | true => some (.if_icmp .gt (14), 3, 28, [], false, []) | false => none) | false => (match Nat.beq pc 13 with | true => some (.iaload, 1, 0, [], false, []) | false => none)) | false => (match Nat.beq pc 12 with | true => some (.iconst 3, 1, 0, [], false, []) | false => none)) | false => (match Nat.ble 8 pc with | true => (match Nat.ble 9 pc with | true => (match Nat.beq pc 9 with | true => some (.getfield 13, 3, 450, [], false, []) | false => none) | false => (match Nat.beq pc 8 with | true => some (.aload_n 0, 1, 0, [], false, []) | false => none)) | false => (match Nat.beq pc 7 with | true => some (.iload_n 2, 1, 0, [], false, []) | false => none))) | false => (match Nat.ble 4 pc with | true => (match Nat.ble 5 pc with | true => (match Nat.ble 6 pc with | true => (match Nat.beq pc 6 with | true => some (.istore_n 2, 1, 0, [], false, []) | false => none) | false => (match Nat.beq pc 5 with | true => some (.iadd, 1, 0, [], false, []) | false => none)) | false => (match Nat.beq pc 4 with | true => some (.iload_n 1, 1, 0, [], false, []) | false => none)) | false => (match Nat.ble 1 pc with | true => (match Nat.beq pc 1 with | true => some (.invokevirtual 66, 3, 2719753, [], false, []) | false => none) | false => (match Nat.beq pc 0 with | true => some (.aload_n 0, 1, 0, [], false, []) | false => none))))
def call_Mo_isBeyond (kk : Nat) : Nat → List AV → GS → Res := fun id a G => match Nat.beq id 166 with | true => A_Mo_momentNow kk a G | false => none
def bk_Mo_isBeyond (kk k : Nat) : Kb := fun _ _ _ _ => none
theorem R_Mo_isBeyond (kk : Nat) (a0 : Int32) (G : GS) : ai_run T_Mo_isBeyond (call_Mo_isBeyond kk) (fun _ => []) 0 (bk_Mo_isBeyond kk kk) 600 0 [some (.inr (0, 50)), some (.inl (.int a0)), none] [] G 0 = D_Mo_isBeyond kk a0 G := by exact rfl
def T_Mo_lever : Tb := fun pc => match Nat.ble 3 pc with | true => (match Nat.ble 4 pc with | true => (match Nat.ble 5 pc with | true => (match Nat.beq pc 5 with | true => some (.ireturn, 1, 0, [], false, []) | false => none) | false => (match Nat.beq pc 4 with | true => some (.imul, 1, 0, [], false, []) | false => none)) | false => (match Nat.beq pc 3 with | true => some (.iload_n 1, 1, 0, [], false, []) | false => none)) | false => (match Nat.ble 1 pc with | true => (match Nat.ble 2 pc with | true => (match Nat.beq pc 2 with | true => some (.isub, 1, 0, [], false, []) | false => none) | false => (match Nat.beq pc 1 with | true => some (.iconst 3, 1, 0, [], false, []) | false => none)) | false => (match Nat.beq pc 0 with | true => some (.iload_n 0, 1, 0, [], false, []) | false => none))
def call_Mo_lever (kk : Nat) : Nat → List AV → GS → Res := fun id a G => none
def bk_Mo_lever (kk k : Nat) : Kb := fun _ _ _ _ => none
theorem R_Mo_lever (kk : Nat) (a0 : Int32) (a1 : Int32) (G : GS) : ai_run T_Mo_lever (call_Mo_lever kk) (fun _ => []) 0 (bk_Mo_lever kk kk) 600 0 [some (.inl (.int a0)), some (.inl (.int a1))] [] G 0 = D_Mo_lever kk a0 a1 G := by exact rfl
def T_Mo_lays : Tb := fun pc => match Nat.ble 31 pc with | true => (match Nat.ble 49 pc with | true => (match Nat.ble 57 pc with | true => (match Nat.ble 60 pc with | true => (match Nat.ble 61 pc with | true => (match Nat.ble 62 pc with | true => (match Nat.beq pc 62 with | true => some (.return_, 1, 0, [], false, []) | false => none) | false => (match Nat.beq pc 61 with | true => some (.iastore, 1, 0, [], false, []) | false => none)) | false => (match Nat.beq pc 60 with | true => some (.iadd, 1, 0, [], false, []) | false => none)) | false => (match Nat.ble 58 pc with | true => (match Nat.ble 59 pc with | true => (match Nat.beq pc 59 with | true => some (.iconst 1, 1, 0, [], false, []) | false => none) | false => (match Nat.beq pc 58 with | true => some (.iaload, 1, 0, [], false, []) | false => none)) | false => (match Nat.beq pc 57 with | true => some (.dup2, 1, 0, [], false, []) | false => none))) | false => (match Nat.ble 53 pc with | true => (match Nat.ble 55 pc with | true => (match Nat.ble 56 pc with | true => (match Nat.beq pc 56 with | true => some (.iadd, 1, 0, [], false, []) | false => none) | false => (match Nat.beq pc 55 with | true => some (.iload_n 1, 1, 0, [], false, []) | false => none)) | false => (match Nat.beq pc 53 with | true => some (.bipush (9), 2, 0, [], false, []) | false => none)) | false => (match Nat.ble 50 pc with | true => (match Nat.beq pc 50 with | true => some (.getfield 13, 3, 450, [], false, []) | false => none) | false => (match Nat.beq pc 49 with | true => some (.aload_n 0, 1, 0, [], false, []) | false => none)))) | false => (match Nat.ble 40 pc with | true => (match Nat.ble 43 pc with | true => (match Nat.ble 44 pc with | true => (match Nat.ble 46 pc with | true => (match Nat.beq pc 46 with | true => some (.invokevirtual 70, 3, 2670632, [], false, []) | false => none) | false => (match Nat.beq pc 44 with | true => some (.iload 5, 2, 0, [], false, []) | false => none)) | false => (match Nat.beq pc 43 with | true => some (.iconst 3, 1, 0, [], false, []) | false => none)) | false => (match Nat.ble 41 pc with | true => (match Nat.beq pc 41 with | true => some (.iload 6, 2, 0, [], false, []) | false => none) | false => (match Nat.beq pc 40 with | true => some (.iload_n 1, 1, 0, [], false, []) | false => none))) | false => (match Nat.ble 34 pc with | true => (match Nat.ble 36 pc with | true => (match Nat.ble 39 pc with | true => (match Nat.beq pc 39 with | true => some (.aload_n 0, 1, 0, [], false, []) | false => none) | false => (match Nat.beq pc 36 with | true => some (.invokevirtual 70, 3, 2670632, [], false, []) | false => none)) | false => (match Nat.beq pc 34 with | true => some (.iload 4, 2, 0, [], false, []) | false => none)) | false => (match Nat.ble 33 pc with | true => (match Nat.beq pc 33 with | true => some (.iconst 2, 1, 0, [], false, []) | false => none) | false => (match Nat.beq pc 31 with | true => some (.iload 6, 2, 0, [], false, []) | false => none))))) | false => (match Nat.ble 15 pc with | true => (match Nat.ble 22 pc with | true => (match Nat.ble 26 pc with | true => (match Nat.ble 29 pc with | true => (match Nat.ble 30 pc with | true => (match Nat.beq pc 30 with | true => some (.iload_n 1, 1, 0, [], false, []) | false => none) | false => (match Nat.beq pc 29 with | true => some (.aload_n 0, 1, 0, [], false, []) | false => none)) | false => (match Nat.beq pc 26 with | true => some (.invokevirtual 70, 3, 2670632, [], false, []) | false => none)) | false => (match Nat.ble 24 pc with | true => (match Nat.ble 25 pc with | true => (match Nat.beq pc 25 with | true => some (.iload_n 3, 1, 0, [], false, []) | false => none) | false => (match Nat.beq pc 24 with | true => some (.iconst 1, 1, 0, [], false, []) | false => none)) | false => (match Nat.beq pc 22 with | true => some (.iload 6, 2, 0, [], false, []) | false => none))) | false => (match Nat.ble 17 pc with | true => (match Nat.ble 20 pc with | true => (match Nat.ble 21 pc with | true => (match Nat.beq pc 21 with | true => some (.iload_n 1, 1, 0, [], false, []) | false => none) | false => (match Nat.beq pc 20 with | true => some (.aload_n 0, 1, 0, [], false, []) | false => none)) | false => (match Nat.beq pc 17 with | true => some (.invokevirtual 70, 3, 2670632, [], false, []) | false => none)) | false => (match Nat.ble 16 pc with | true => (match Nat.beq pc 16 with | true => some (.iload_n 2, 1, 0, [], false, []) | false => none) | false => (match Nat.beq pc 15 with | true => some (.iconst 0, 1, 0, [], false, []) | false => none)))) | false => (match Nat.ble 8 pc with | true => (match Nat.ble 11 pc with | true => (match Nat.ble 12 pc with | true => (match Nat.ble 13 pc with | true => (match Nat.beq pc 13 with | true => some (.iload 6, 2, 0, [], false, []) | false => none) | false => (match Nat.beq pc 12 with | true => some (.iload_n 1, 1, 0, [], false, []) | false => none)) | false => (match Nat.beq pc 11 with | true => some (.aload_n 0, 1, 0, [], false, []) | false => none)) | false => (match Nat.ble 9 pc with | true => (match Nat.beq pc 9 with | true => some (.istore 6, 2, 0, [], false, []) | false => none) | false => (match Nat.beq pc 8 with | true => some (.iaload, 1, 0, [], false, []) | false => none))) | false => (match Nat.ble 4 pc with | true => (match Nat.ble 6 pc with | true => (match Nat.ble 7 pc with | true => (match Nat.beq pc 7 with | true => some (.iadd, 1, 0, [], false, []) | false => none) | false => (match Nat.beq pc 6 with | true => some (.iload_n 1, 1, 0, [], false, []) | false => none)) | false => (match Nat.beq pc 4 with | true => some (.bipush (9), 2, 0, [], false, []) | false => none)) | false => (match Nat.ble 1 pc with | true => (match Nat.beq pc 1 with | true => some (.getfield 13, 3, 450, [], false, []) | false => none) | false => (match Nat.beq pc 0 with | true => some (.aload_n 0, 1, 0, [], false, []) | false => none)))))
def call_Mo_lays (kk : Nat) : Nat → List AV → GS → Res := fun id a G => match Nat.beq id 163 with | true => A_Mo_puts kk a G | false => none
def bk_Mo_lays (kk k : Nat) : Kb := fun _ _ _ _ => none
theorem R_Mo_lays (kk : Nat) (a0 : Int32) (a1 : Int32) (a2 : Int32) (a3 : Int32) (a4 : Int32) (G : GS) : ai_run T_Mo_lays (call_Mo_lays kk) (fun _ => []) 0 (bk_Mo_lays kk kk) 600 0 [some (.inr (0, 50)), some (.inl (.int a0)), some (.inl (.int a1)), some (.inl (.int a2)), some (.inl (.int a3)), some (.inl (.int a4)), none] [] G 0 = D_Mo_lays kk a0 a1 a2 a3 a4 G := by exact rfl
def T_Mo_takes : Tb := fun pc => match Nat.ble 17 pc with | true => (match Nat.ble 29 pc with | true => (match Nat.ble 33 pc with | true => (match Nat.ble 39 pc with | true => (match Nat.ble 42 pc with | true => (match Nat.beq pc 42 with | true => some (.return_, 1, 0, [], false, []) | false => none) | false => (match Nat.beq pc 39 with | true => some (.goto (-24), 3, 15, [], false, []) | false => none)) | false => (match Nat.ble 36 pc with | true => (match Nat.beq pc 36 with | true => some (.iinc 2 (1), 3, 0, [], false, []) | false => none) | false => (match Nat.beq pc 33 with | true => some (.invokevirtual 70, 3, 2670632, [], false, []) | false => none))) | false => (match Nat.ble 31 pc with | true => (match Nat.ble 32 pc with | true => (match Nat.beq pc 32 with | true => some (.iconst 0, 1, 0, [], false, []) | false => none) | false => (match Nat.beq pc 31 with | true => some (.iload_n 2, 1, 0, [], false, []) | false => none)) | false => (match Nat.ble 30 pc with | true => (match Nat.beq pc 30 with | true => some (.iaload, 1, 0, [], false, []) | false => none) | false => (match Nat.beq pc 29 with | true => some (.iadd, 1, 0, [], false, []) | false => none)))) | false => (match Nat.ble 22 pc with | true => (match Nat.ble 26 pc with | true => (match Nat.ble 28 pc with | true => (match Nat.beq pc 28 with | true => some (.iload_n 1, 1, 0, [], false, []) | false => none) | false => (match Nat.beq pc 26 with | true => some (.bipush (9), 2, 0, [], false, []) | false => none)) | false => (match Nat.ble 23 pc with | true => (match Nat.beq pc 23 with | true => some (.getfield 13, 3, 450, [], false, []) | false => none) | false => (match Nat.beq pc 22 with | true => some (.aload_n 0, 1, 0, [], false, []) | false => none))) | false => (match Nat.ble 20 pc with | true => (match Nat.ble 21 pc with | true => (match Nat.beq pc 21 with | true => some (.iload_n 1, 1, 0, [], false, []) | false => none) | false => (match Nat.beq pc 20 with | true => some (.aload_n 0, 1, 0, [], false, []) | false => none)) | false => (match Nat.beq pc 17 with | true => some (.if_icmp .ge (25), 3, 42, [], false, []) | false => none)))) | false => (match Nat.ble 10 pc with | true => (match Nat.ble 13 pc with | true => (match Nat.ble 15 pc with | true => (match Nat.ble 16 pc with | true => (match Nat.beq pc 16 with | true => some (.iconst 4, 1, 0, [], false, []) | false => none) | false => (match Nat.beq pc 15 with | true => some (.iload_n 2, 1, 0, [], true, []) | false => none)) | false => (match Nat.ble 14 pc with | true => (match Nat.beq pc 14 with | true => some (.istore_n 2, 1, 0, [], false, []) | false => none) | false => (match Nat.beq pc 13 with | true => some (.iconst 0, 1, 0, [], false, []) | false => none))) | false => (match Nat.ble 11 pc with | true => (match Nat.ble 12 pc with | true => (match Nat.beq pc 12 with | true => some (.iastore, 1, 0, [], false, []) | false => none) | false => (match Nat.beq pc 11 with | true => some (.isub, 1, 0, [], false, []) | false => none)) | false => (match Nat.beq pc 10 with | true => some (.iconst 1, 1, 0, [], false, []) | false => none))) | false => (match Nat.ble 6 pc with | true => (match Nat.ble 8 pc with | true => (match Nat.ble 9 pc with | true => (match Nat.beq pc 9 with | true => some (.iaload, 1, 0, [], false, []) | false => none) | false => (match Nat.beq pc 8 with | true => some (.dup2, 1, 0, [], false, []) | false => none)) | false => (match Nat.ble 7 pc with | true => (match Nat.beq pc 7 with | true => some (.iadd, 1, 0, [], false, []) | false => none) | false => (match Nat.beq pc 6 with | true => some (.iload_n 1, 1, 0, [], false, []) | false => none))) | false => (match Nat.ble 1 pc with | true => (match Nat.ble 4 pc with | true => (match Nat.beq pc 4 with | true => some (.bipush (9), 2, 0, [], false, []) | false => none) | false => (match Nat.beq pc 1 with | true => some (.getfield 13, 3, 450, [], false, []) | false => none)) | false => (match Nat.beq pc 0 with | true => some (.aload_n 0, 1, 0, [], false, []) | false => none))))
def call_Mo_takes (kk : Nat) : Nat → List AV → GS → Res := fun id a G => match Nat.beq id 163 with | true => A_Mo_puts kk a G | false => none
def bk_Mo_takes (kk k : Nat) : Kb := fun pc ls st G => match Nat.beq pc 15 with | true => (match ls, st with | [some (.inr (0, 50)), some (.inl (.int x1)), some (.inl (.int x2))], [] => (L_Mo_takes kk k) x1 x2 G | _, _ => none) | false => none
theorem R_Mo_takes (kk : Nat) (a0 : Int32) (G : GS) : ai_run T_Mo_takes (call_Mo_takes kk) (fun _ => []) 0 (bk_Mo_takes kk kk) 600 0 [some (.inr (0, 50)), some (.inl (.int a0)), none] [] G 0 = D_Mo_takes kk a0 G := by exact rfl
theorem R_Mo_takes_15 (kk k : Nat) (x1 : Int32) (x2 : Int32) (G : GS) : ai_step T_Mo_takes (call_Mo_takes kk) (fun _ => []) 0 (ai_run T_Mo_takes (call_Mo_takes kk) (fun _ => []) 0 (bk_Mo_takes kk k) 600) 15 (.iload_n 2, 1, 0, [], true, []) [some (.inr (0, 50)), some (.inl (.int x1)), some (.inl (.int x2))] [] G 0 = (L_Mo_takes kk (k + 1)) x1 x2 G := by exact rfl
def T_Mo_notLoad : Tb := fun pc => match Nat.ble 31 pc with | true => (match Nat.ble 45 pc with | true => (match Nat.ble 54 pc with | true => (match Nat.ble 58 pc with | true => (match Nat.ble 61 pc with | true => (match Nat.ble 62 pc with | true => (match Nat.beq pc 62 with | true => some (.ireturn, 1, 0, [], false, []) | false => none) | false => (match Nat.beq pc 61 with | true => some (.iconst 0, 1, 0, [], false, []) | false => none)) | false => (match Nat.beq pc 58 with | true => some (.goto (4), 3, 62, [], false, []) | false => none)) | false => (match Nat.ble 57 pc with | true => (match Nat.beq pc 57 with | true => some (.iconst 4, 1, 0, [], false, []) | false => none) | false => (match Nat.beq pc 54 with | true => some (.ifCond .eq (7), 3, 61, [], false, []) | false => none))) | false => (match Nat.ble 47 pc with | true => (match Nat.ble 48 pc with | true => (match Nat.ble 51 pc with | true => (match Nat.beq pc 51 with | true => some (.invokevirtual 82, 3, 2768913, [], false, []) | false => none) | false => (match Nat.beq pc 48 with | true => some (.invokestatic 78, 3, 2785297, [], false, []) | false => none)) | false => (match Nat.beq pc 47 with | true => some (.iload_n 2, 1, 0, [], false, []) | false => none)) | false => (match Nat.ble 46 pc with | true => (match Nat.beq pc 46 with | true => some (.iload_n 1, 1, 0, [], false, []) | false => none) | false => (match Nat.beq pc 45 with | true => some (.aload_n 0, 1, 0, [], false, []) | false => none)))) | false => (match Nat.ble 38 pc with | true => (match Nat.ble 40 pc with | true => (match Nat.ble 43 pc with | true => (match Nat.ble 44 pc with | true => (match Nat.beq pc 44 with | true => some (.ireturn, 1, 0, [], false, []) | false => none) | false => (match Nat.beq pc 43 with | true => some (.iconst 3, 1, 0, [], false, []) | false => none)) | false => (match Nat.beq pc 40 with | true => some (.if_icmp .ne (5), 3, 45, [], false, []) | false => none)) | false => (match Nat.ble 39 pc with | true => (match Nat.beq pc 39 with | true => some (.iconst 5, 1, 0, [], false, []) | false => none) | false => (match Nat.beq pc 38 with | true => some (.iaload, 1, 0, [], false, []) | false => none))) | false => (match Nat.ble 36 pc with | true => (match Nat.ble 37 pc with | true => (match Nat.beq pc 37 with | true => some (.iadd, 1, 0, [], false, []) | false => none) | false => (match Nat.beq pc 36 with | true => some (.iload_n 1, 1, 0, [], false, []) | false => none)) | false => (match Nat.ble 34 pc with | true => (match Nat.beq pc 34 with | true => some (.bipush (9), 2, 0, [], false, []) | false => none) | false => (match Nat.beq pc 31 with | true => some (.getfield 13, 3, 450, [], false, []) | false => none))))) | false => (match Nat.ble 16 pc with | true => (match Nat.ble 22 pc with | true => (match Nat.ble 28 pc with | true => (match Nat.ble 29 pc with | true => (match Nat.ble 30 pc with | true => (match Nat.beq pc 30 with | true => some (.aload_n 0, 1, 0, [], false, []) | false => none) | false => (match Nat.beq pc 29 with | true => some (.ireturn, 1, 0, [], false, []) | false => none)) | false => (match Nat.beq pc 28 with | true => some (.iconst 2, 1, 0, [], false, []) | false => none)) | false => (match Nat.ble 25 pc with | true => (match Nat.beq pc 25 with | true => some (.ifCond .ne (5), 3, 30, [], false, []) | false => none) | false => (match Nat.beq pc 22 with | true => some (.invokestatic 54, 3, 2539545, [], false, []) | false => none))) | false => (match Nat.ble 20 pc with | true => (match Nat.ble 21 pc with | true => (match Nat.beq pc 21 with | true => some (.iconst 4, 1, 0, [], false, []) | false => none) | false => (match Nat.beq pc 20 with | true => some (.iconst 0, 1, 0, [], false, []) | false => none)) | false => (match Nat.ble 19 pc with | true => (match Nat.beq pc 19 with | true => some (.iload_n 3, 1, 0, [], false, []) | false => none) | false => (match Nat.beq pc 16 with | true => some (.ifCond .eq (12), 3, 28, [], false, []) | false => none)))) | false => (match Nat.ble 8 pc with | true => (match Nat.ble 10 pc with | true => (match Nat.ble 11 pc with | true => (match Nat.ble 13 pc with | true => (match Nat.beq pc 13 with | true => some (.invokestatic 54, 3, 2539545, [], false, []) | false => none) | false => (match Nat.beq pc 11 with | true => some (.bipush (20), 2, 0, [], false, []) | false => none)) | false => (match Nat.beq pc 10 with | true => some (.iconst 1, 1, 0, [], false, []) | false => none)) | false => (match Nat.ble 9 pc with | true => (match Nat.beq pc 9 with | true => some (.iload_n 2, 1, 0, [], false, []) | false => none) | false => (match Nat.beq pc 8 with | true => some (.ireturn, 1, 0, [], false, []) | false => none))) | false => (match Nat.ble 4 pc with | true => (match Nat.ble 7 pc with | true => (match Nat.beq pc 7 with | true => some (.iconst 1, 1, 0, [], false, []) | false => none) | false => (match Nat.beq pc 4 with | true => some (.ifCond .ne (5), 3, 9, [], false, []) | false => none)) | false => (match Nat.ble 1 pc with | true => (match Nat.beq pc 1 with | true => some (.invokestatic 74, 3, 2637833, [], false, []) | false => none) | false => (match Nat.beq pc 0 with | true => some (.iload_n 1, 1, 0, [], false, []) | false => none)))))
def call_Mo_notLoad (kk : Nat) : Nat → List AV → GS → Res := fun id a G => match Nat.ble 169 id with | true => (match Nat.ble 170 id with | true => (match Nat.beq id 170 with | true => A_Mo_lever kk a G | false => none) | false => (match Nat.beq id 169 with | true => A_Mo_isBeyond kk a G | false => none)) | false => (match Nat.ble 161 id with | true => (match Nat.beq id 161 with | true => A_Mo_isBay kk a G | false => none) | false => (match Nat.beq id 155 with | true => A_Mo_isBetween kk a G | false => none))
def bk_Mo_notLoad (kk k : Nat) : Kb := fun _ _ _ _ => none
theorem R_Mo_notLoad (kk : Nat) (a0 : Int32) (a1 : Int32) (a2 : Int32) (G : GS) : ai_run T_Mo_notLoad (call_Mo_notLoad kk) (fun _ => []) 0 (bk_Mo_notLoad kk kk) 600 0 [some (.inr (0, 50)), some (.inl (.int a0)), some (.inl (.int a1)), some (.inl (.int a2))] [] G 0 = D_Mo_notLoad kk a0 a1 a2 G := by exact rfl
def T_Mo_loads : Tb := fun pc => match Nat.ble 20 pc with | true => (match Nat.ble 29 pc with | true => (match Nat.ble 34 pc with | true => (match Nat.ble 36 pc with | true => (match Nat.ble 37 pc with | true => (match Nat.beq pc 37 with | true => some (.ireturn, 1, 0, [], false, []) | false => none) | false => (match Nat.beq pc 36 with | true => some (.isub, 1, 0, [], false, []) | false => none)) | false => (match Nat.ble 35 pc with | true => (match Nat.beq pc 35 with | true => some (.iconst 1, 1, 0, [], false, []) | false => none) | false => (match Nat.beq pc 34 with | true => some (.iaload, 1, 0, [], false, []) | false => none))) | false => (match Nat.ble 30 pc with | true => (match Nat.ble 33 pc with | true => (match Nat.beq pc 33 with | true => some (.iconst 4, 1, 0, [], false, []) | false => none) | false => (match Nat.beq pc 30 with | true => some (.getfield 13, 3, 450, [], false, []) | false => none)) | false => (match Nat.beq pc 29 with | true => some (.aload_n 0, 1, 0, [], false, []) | false => none))) | false => (match Nat.ble 25 pc with | true => (match Nat.ble 27 pc with | true => (match Nat.ble 28 pc with | true => (match Nat.beq pc 28 with | true => some (.iastore, 1, 0, [], false, []) | false => none) | false => (match Nat.beq pc 27 with | true => some (.iadd, 1, 0, [], false, []) | false => none)) | false => (match Nat.ble 26 pc with | true => (match Nat.beq pc 26 with | true => some (.iconst 1, 1, 0, [], false, []) | false => none) | false => (match Nat.beq pc 25 with | true => some (.iaload, 1, 0, [], false, []) | false => none))) | false => (match Nat.ble 23 pc with | true => (match Nat.ble 24 pc with | true => (match Nat.beq pc 24 with | true => some (.dup2, 1, 0, [], false, []) | false => none) | false => (match Nat.beq pc 23 with | true => some (.iconst 4, 1, 0, [], false, []) | false => none)) | false => (match Nat.beq pc 20 with | true => some (.getfield 13, 3, 450, [], false, []) | false => none)))) | false => (match Nat.ble 9 pc with | true => (match Nat.ble 14 pc with | true => (match Nat.ble 16 pc with | true => (match Nat.ble 19 pc with | true => (match Nat.beq pc 19 with | true => some (.aload_n 0, 1, 0, [], false, []) | false => none) | false => (match Nat.beq pc 16 with | true => some (.invokevirtual 85, 3, 2801712, [], false, []) | false => none)) | false => (match Nat.ble 15 pc with | true => (match Nat.beq pc 15 with | true => some (.iaload, 1, 0, [], false, []) | false => none) | false => (match Nat.beq pc 14 with | true => some (.iconst 0, 1, 0, [], false, []) | false => none))) | false => (match Nat.ble 10 pc with | true => (match Nat.ble 11 pc with | true => (match Nat.beq pc 11 with | true => some (.getfield 13, 3, 450, [], false, []) | false => none) | false => (match Nat.beq pc 10 with | true => some (.aload_n 0, 1, 0, [], false, []) | false => none)) | false => (match Nat.beq pc 9 with | true => some (.iload_n 3, 1, 0, [], false, []) | false => none))) | false => (match Nat.ble 3 pc with | true => (match Nat.ble 7 pc with | true => (match Nat.ble 8 pc with | true => (match Nat.beq pc 8 with | true => some (.iload_n 2, 1, 0, [], false, []) | false => none) | false => (match Nat.beq pc 7 with | true => some (.iaload, 1, 0, [], false, []) | false => none)) | false => (match Nat.ble 6 pc with | true => (match Nat.beq pc 6 with | true => some (.iconst 4, 1, 0, [], false, []) | false => none) | false => (match Nat.beq pc 3 with | true => some (.getfield 13, 3, 450, [], false, []) | false => none))) | false => (match Nat.ble 1 pc with | true => (match Nat.ble 2 pc with | true => (match Nat.beq pc 2 with | true => some (.aload_n 0, 1, 0, [], false, []) | false => none) | false => (match Nat.beq pc 1 with | true => some (.iload_n 1, 1, 0, [], false, []) | false => none)) | false => (match Nat.beq pc 0 with | true => some (.aload_n 0, 1, 0, [], false, []) | false => none))))
def call_Mo_loads (kk : Nat) : Nat → List AV → GS → Res := fun id a G => match Nat.beq id 171 with | true => A_Mo_lays kk a G | false => none
def bk_Mo_loads (kk k : Nat) : Kb := fun _ _ _ _ => none
theorem R_Mo_loads (kk : Nat) (a0 : Int32) (a1 : Int32) (a2 : Int32) (G : GS) : ai_run T_Mo_loads (call_Mo_loads kk) (fun _ => []) 0 (bk_Mo_loads kk kk) 600 0 [some (.inr (0, 50)), some (.inl (.int a0)), some (.inl (.int a1)), some (.inl (.int a2))] [] G 0 = D_Mo_loads kk a0 a1 a2 G := by exact rfl
def T_Mo_load : Tb := fun pc => match Nat.ble 19 pc with | true => (match Nat.ble 30 pc with | true => (match Nat.ble 33 pc with | true => (match Nat.ble 34 pc with | true => (match Nat.ble 37 pc with | true => (match Nat.beq pc 37 with | true => some (.ireturn, 1, 0, [], false, []) | false => none) | false => (match Nat.beq pc 34 with | true => some (.invokevirtual 98, 3, 2850849, [], false, []) | false => none)) | false => (match Nat.beq pc 33 with | true => some (.iload_n 3, 1, 0, [], false, []) | false => none)) | false => (match Nat.ble 31 pc with | true => (match Nat.ble 32 pc with | true => (match Nat.beq pc 32 with | true => some (.iload_n 2, 1, 0, [], false, []) | false => none) | false => (match Nat.beq pc 31 with | true => some (.iload_n 1, 1, 0, [], false, []) | false => none)) | false => (match Nat.beq pc 30 with | true => some (.aload_n 0, 1, 0, [], false, []) | false => none))) | false => (match Nat.ble 25 pc with | true => (match Nat.ble 26 pc with | true => (match Nat.ble 27 pc with | true => (match Nat.beq pc 27 with | true => some (.invokevirtual 95, 3, 2621448, [], false, []) | false => none) | false => (match Nat.beq pc 26 with | true => some (.aload_n 0, 1, 0, [], false, []) | false => none)) | false => (match Nat.beq pc 25 with | true => some (.ireturn, 1, 0, [], false, []) | false => none)) | false => (match Nat.ble 20 pc with | true => (match Nat.ble 22 pc with | true => (match Nat.beq pc 22 with | true => some (.invokevirtual 92, 3, 2523153, [], false, []) | false => none) | false => (match Nat.beq pc 20 with | true => some (.iload 4, 2, 0, [], false, []) | false => none)) | false => (match Nat.beq pc 19 with | true => some (.aload_n 0, 1, 0, [], false, []) | false => none)))) | false => (match Nat.ble 7 pc with | true => (match Nat.ble 12 pc with | true => (match Nat.ble 14 pc with | true => (match Nat.ble 16 pc with | true => (match Nat.beq pc 16 with | true => some (.ifCond .eq (10), 3, 26, [], false, []) | false => none) | false => (match Nat.beq pc 14 with | true => some (.iload 4, 2, 0, [], false, []) | false => none)) | false => (match Nat.beq pc 12 with | true => some (.istore 4, 2, 0, [], false, []) | false => none)) | false => (match Nat.ble 8 pc with | true => (match Nat.ble 9 pc with | true => (match Nat.beq pc 9 with | true => some (.invokevirtual 89, 3, 2834465, [], false, []) | false => none) | false => (match Nat.beq pc 8 with | true => some (.iload_n 3, 1, 0, [], false, []) | false => none)) | false => (match Nat.beq pc 7 with | true => some (.iload_n 2, 1, 0, [], false, []) | false => none))) | false => (match Nat.ble 2 pc with | true => (match Nat.ble 5 pc with | true => (match Nat.ble 6 pc with | true => (match Nat.beq pc 6 with | true => some (.iload_n 1, 1, 0, [], false, []) | false => none) | false => (match Nat.beq pc 5 with | true => some (.aload_n 0, 1, 0, [], false, []) | false => none)) | false => (match Nat.beq pc 2 with | true => some (.putfield 1, 3, 448, [], false, []) | false => none)) | false => (match Nat.ble 1 pc with | true => (match Nat.beq pc 1 with | true => some (.iconst 0, 1, 0, [], false, []) | false => none) | false => (match Nat.beq pc 0 with | true => some (.aload_n 0, 1, 0, [], false, []) | false => none))))
def call_Mo_load (kk : Nat) : Nat → List AV → GS → Res := fun id a G => match Nat.ble 173 id with | true => (match Nat.ble 174 id with | true => (match Nat.beq id 174 with | true => A_Mo_loads kk a G | false => none) | false => (match Nat.beq id 173 with | true => A_Mo_notLoad kk a G | false => none)) | false => (match Nat.ble 160 id with | true => (match Nat.beq id 160 with | true => A_Mo_remembers kk a G | false => none) | false => (match Nat.beq id 154 with | true => A_Mo_fails kk a G | false => none))
def bk_Mo_load (kk k : Nat) : Kb := fun _ _ _ _ => none
theorem R_Mo_load (kk : Nat) (a0 : Int32) (a1 : Int32) (a2 : Int32) (G : GS) : ai_run T_Mo_load (call_Mo_load kk) (fun _ => []) 0 (bk_Mo_load kk kk) 600 0 [some (.inr (0, 50)), some (.inl (.int a0)), some (.inl (.int a1)), some (.inl (.int a2)), none] [] G 0 = D_Mo_load kk a0 a1 a2 G := by exact rfl
def T_Mo_notUnload : Tb := fun pc => match Nat.ble 30 pc with | true => (match Nat.ble 44 pc with | true => (match Nat.ble 55 pc with | true => (match Nat.ble 59 pc with | true => (match Nat.ble 62 pc with | true => (match Nat.ble 63 pc with | true => (match Nat.beq pc 63 with | true => some (.ireturn, 1, 0, [], false, []) | false => none) | false => (match Nat.beq pc 62 with | true => some (.iconst 0, 1, 0, [], false, []) | false => none)) | false => (match Nat.beq pc 59 with | true => some (.goto (4), 3, 63, [], false, []) | false => none)) | false => (match Nat.ble 58 pc with | true => (match Nat.beq pc 58 with | true => some (.iconst 4, 1, 0, [], false, []) | false => none) | false => (match Nat.beq pc 55 with | true => some (.ifCond .eq (7), 3, 62, [], false, []) | false => none))) | false => (match Nat.ble 48 pc with | true => (match Nat.ble 51 pc with | true => (match Nat.ble 52 pc with | true => (match Nat.beq pc 52 with | true => some (.invokevirtual 82, 3, 2768913, [], false, []) | false => none) | false => (match Nat.beq pc 51 with | true => some (.ineg, 1, 0, [], false, []) | false => none)) | false => (match Nat.beq pc 48 with | true => some (.invokestatic 78, 3, 2785297, [], false, []) | false => none)) | false => (match Nat.ble 45 pc with | true => (match Nat.beq pc 45 with | true => some (.invokevirtual 101, 3, 2687001, [], false, []) | false => none) | false => (match Nat.beq pc 44 with | true => some (.iconst 1, 1, 0, [], false, []) | false => none)))) | false => (match Nat.ble 39 pc with | true => (match Nat.ble 41 pc with | true => (match Nat.ble 42 pc with | true => (match Nat.ble 43 pc with | true => (match Nat.beq pc 43 with | true => some (.iload_n 1, 1, 0, [], false, []) | false => none) | false => (match Nat.beq pc 42 with | true => some (.aload_n 0, 1, 0, [], false, []) | false => none)) | false => (match Nat.beq pc 41 with | true => some (.iload_n 1, 1, 0, [], false, []) | false => none)) | false => (match Nat.ble 40 pc with | true => (match Nat.beq pc 40 with | true => some (.aload_n 0, 1, 0, [], false, []) | false => none) | false => (match Nat.beq pc 39 with | true => some (.ireturn, 1, 0, [], false, []) | false => none))) | false => (match Nat.ble 34 pc with | true => (match Nat.ble 35 pc with | true => (match Nat.ble 38 pc with | true => (match Nat.beq pc 38 with | true => some (.iconst 3, 1, 0, [], false, []) | false => none) | false => (match Nat.beq pc 35 with | true => some (.if_icmp .eq (5), 3, 40, [], false, []) | false => none)) | false => (match Nat.beq pc 34 with | true => some (.iaload, 1, 0, [], false, []) | false => none)) | false => (match Nat.ble 33 pc with | true => (match Nat.beq pc 33 with | true => some (.iconst 1, 1, 0, [], false, []) | false => none) | false => (match Nat.beq pc 30 with | true => some (.getfield 13, 3, 450, [], false, []) | false => none))))) | false => (match Nat.ble 16 pc with | true => (match Nat.ble 23 pc with | true => (match Nat.ble 25 pc with | true => (match Nat.ble 26 pc with | true => (match Nat.ble 29 pc with | true => (match Nat.beq pc 29 with | true => some (.aload_n 0, 1, 0, [], false, []) | false => none) | false => (match Nat.beq pc 26 with | true => some (.invokevirtual 101, 3, 2687001, [], false, []) | false => none)) | false => (match Nat.beq pc 25 with | true => some (.iconst 2, 1, 0, [], false, []) | false => none)) | false => (match Nat.ble 24 pc with | true => (match Nat.beq pc 24 with | true => some (.iload_n 1, 1, 0, [], false, []) | false => none) | false => (match Nat.beq pc 23 with | true => some (.aload_n 0, 1, 0, [], false, []) | false => none))) | false => (match Nat.ble 18 pc with | true => (match Nat.ble 21 pc with | true => (match Nat.ble 22 pc with | true => (match Nat.beq pc 22 with | true => some (.ireturn, 1, 0, [], false, []) | false => none) | false => (match Nat.beq pc 21 with | true => some (.iconst 2, 1, 0, [], false, []) | false => none)) | false => (match Nat.beq pc 18 with | true => some (.ifCond .ne (5), 3, 23, [], false, []) | false => none)) | false => (match Nat.ble 17 pc with | true => (match Nat.beq pc 17 with | true => some (.iaload, 1, 0, [], false, []) | false => none) | false => (match Nat.beq pc 16 with | true => some (.iadd, 1, 0, [], false, []) | false => none)))) | false => (match Nat.ble 8 pc with | true => (match Nat.ble 10 pc with | true => (match Nat.ble 13 pc with | true => (match Nat.ble 15 pc with | true => (match Nat.beq pc 15 with | true => some (.iload_n 1, 1, 0, [], false, []) | false => none) | false => (match Nat.beq pc 13 with | true => some (.bipush (9), 2, 0, [], false, []) | false => none)) | false => (match Nat.beq pc 10 with | true => some (.getfield 13, 3, 450, [], false, []) | false => none)) | false => (match Nat.ble 9 pc with | true => (match Nat.beq pc 9 with | true => some (.aload_n 0, 1, 0, [], false, []) | false => none) | false => (match Nat.beq pc 8 with | true => some (.ireturn, 1, 0, [], false, []) | false => none))) | false => (match Nat.ble 4 pc with | true => (match Nat.ble 7 pc with | true => (match Nat.beq pc 7 with | true => some (.iconst 1, 1, 0, [], false, []) | false => none) | false => (match Nat.beq pc 4 with | true => some (.ifCond .ne (5), 3, 9, [], false, []) | false => none)) | false => (match Nat.ble 1 pc with | true => (match Nat.beq pc 1 with | true => some (.invokestatic 74, 3, 2637833, [], false, []) | false => none) | false => (match Nat.beq pc 0 with | true => some (.iload_n 1, 1, 0, [], false, []) | false => none)))))
def call_Mo_notUnload (kk : Nat) : Nat → List AV → GS → Res := fun id a G => match Nat.ble 169 id with | true => (match Nat.ble 170 id with | true => (match Nat.beq id 170 with | true => A_Mo_lever kk a G | false => none) | false => (match Nat.beq id 169 with | true => A_Mo_isBeyond kk a G | false => none)) | false => (match Nat.ble 164 id with | true => (match Nat.beq id 164 with | true => A_Mo_top kk a G | false => none) | false => (match Nat.beq id 161 with | true => A_Mo_isBay kk a G | false => none))
def bk_Mo_notUnload (kk k : Nat) : Kb := fun _ _ _ _ => none
theorem R_Mo_notUnload (kk : Nat) (a0 : Int32) (G : GS) : ai_run T_Mo_notUnload (call_Mo_notUnload kk) (fun _ => []) 0 (bk_Mo_notUnload kk kk) 600 0 [some (.inr (0, 50)), some (.inl (.int a0))] [] G 0 = D_Mo_notUnload kk a0 G := by exact rfl
def T_Mo_unloads : Tb := fun pc => match Nat.ble 18 pc with | true => (match Nat.ble 28 pc with | true => (match Nat.ble 34 pc with | true => (match Nat.ble 38 pc with | true => (match Nat.ble 39 pc with | true => (match Nat.beq pc 39 with | true => some (.ireturn, 1, 0, [], false, []) | false => none) | false => (match Nat.beq pc 38 with | true => some (.iload_n 2, 1, 0, [], false, []) | false => none)) | false => (match Nat.ble 35 pc with | true => (match Nat.beq pc 35 with | true => some (.invokevirtual 104, 3, 2818064, [], false, []) | false => none) | false => (match Nat.beq pc 34 with | true => some (.iload_n 1, 1, 0, [], false, []) | false => none))) | false => (match Nat.ble 32 pc with | true => (match Nat.ble 33 pc with | true => (match Nat.beq pc 33 with | true => some (.aload_n 0, 1, 0, [], false, []) | false => none) | false => (match Nat.beq pc 32 with | true => some (.iastore, 1, 0, [], false, []) | false => none)) | false => (match Nat.ble 31 pc with | true => (match Nat.beq pc 31 with | true => some (.iadd, 1, 0, [], false, []) | false => none) | false => (match Nat.beq pc 28 with | true => some (.invokevirtual 101, 3, 2687001, [], false, []) | false => none)))) | false => (match Nat.ble 24 pc with | true => (match Nat.ble 26 pc with | true => (match Nat.ble 27 pc with | true => (match Nat.beq pc 27 with | true => some (.iconst 1, 1, 0, [], false, []) | false => none) | false => (match Nat.beq pc 26 with | true => some (.iload_n 1, 1, 0, [], false, []) | false => none)) | false => (match Nat.ble 25 pc with | true => (match Nat.beq pc 25 with | true => some (.aload_n 0, 1, 0, [], false, []) | false => none) | false => (match Nat.beq pc 24 with | true => some (.iaload, 1, 0, [], false, []) | false => none))) | false => (match Nat.ble 21 pc with | true => (match Nat.ble 23 pc with | true => (match Nat.beq pc 23 with | true => some (.dup2, 1, 0, [], false, []) | false => none) | false => (match Nat.beq pc 21 with | true => some (.bipush (6), 2, 0, [], false, []) | false => none)) | false => (match Nat.beq pc 18 with | true => some (.getfield 13, 3, 450, [], false, []) | false => none)))) | false => (match Nat.ble 11 pc with | true => (match Nat.ble 14 pc with | true => (match Nat.ble 16 pc with | true => (match Nat.ble 17 pc with | true => (match Nat.beq pc 17 with | true => some (.aload_n 0, 1, 0, [], false, []) | false => none) | false => (match Nat.beq pc 16 with | true => some (.iastore, 1, 0, [], false, []) | false => none)) | false => (match Nat.ble 15 pc with | true => (match Nat.beq pc 15 with | true => some (.iadd, 1, 0, [], false, []) | false => none) | false => (match Nat.beq pc 14 with | true => some (.iconst 1, 1, 0, [], false, []) | false => none))) | false => (match Nat.ble 12 pc with | true => (match Nat.ble 13 pc with | true => (match Nat.beq pc 13 with | true => some (.iaload, 1, 0, [], false, []) | false => none) | false => (match Nat.beq pc 12 with | true => some (.dup2, 1, 0, [], false, []) | false => none)) | false => (match Nat.beq pc 11 with | true => some (.iconst 5, 1, 0, [], false, []) | false => none))) | false => (match Nat.ble 3 pc with | true => (match Nat.ble 7 pc with | true => (match Nat.ble 8 pc with | true => (match Nat.beq pc 8 with | true => some (.getfield 13, 3, 450, [], false, []) | false => none) | false => (match Nat.beq pc 7 with | true => some (.aload_n 0, 1, 0, [], false, []) | false => none)) | false => (match Nat.ble 6 pc with | true => (match Nat.beq pc 6 with | true => some (.istore_n 2, 1, 0, [], false, []) | false => none) | false => (match Nat.beq pc 3 with | true => some (.invokevirtual 101, 3, 2687001, [], false, []) | false => none))) | false => (match Nat.ble 1 pc with | true => (match Nat.ble 2 pc with | true => (match Nat.beq pc 2 with | true => some (.iconst 0, 1, 0, [], false, []) | false => none) | false => (match Nat.beq pc 1 with | true => some (.iload_n 1, 1, 0, [], false, []) | false => none)) | false => (match Nat.beq pc 0 with | true => some (.aload_n 0, 1, 0, [], false, []) | false => none))))
def call_Mo_unloads (kk : Nat) : Nat → List AV → GS → Res := fun id a G => match Nat.ble 172 id with | true => (match Nat.beq id 172 with | true => A_Mo_takes kk a G | false => none) | false => (match Nat.beq id 164 with | true => A_Mo_top kk a G | false => none)
def bk_Mo_unloads (kk k : Nat) : Kb := fun _ _ _ _ => none
theorem R_Mo_unloads (kk : Nat) (a0 : Int32) (G : GS) : ai_run T_Mo_unloads (call_Mo_unloads kk) (fun _ => []) 0 (bk_Mo_unloads kk kk) 600 0 [some (.inr (0, 50)), some (.inl (.int a0)), none] [] G 0 = D_Mo_unloads kk a0 G := by exact rfl
def T_Mo_unload : Tb := fun pc => match Nat.ble 15 pc with | true => (match Nat.ble 22 pc with | true => (match Nat.ble 26 pc with | true => (match Nat.ble 27 pc with | true => (match Nat.ble 30 pc with | true => (match Nat.beq pc 30 with | true => some (.ireturn, 1, 0, [], false, []) | false => none) | false => (match Nat.beq pc 27 with | true => some (.invokevirtual 111, 3, 2899985, [], false, []) | false => none)) | false => (match Nat.beq pc 26 with | true => some (.iload_n 1, 1, 0, [], false, []) | false => none)) | false => (match Nat.ble 25 pc with | true => (match Nat.beq pc 25 with | true => some (.aload_n 0, 1, 0, [], false, []) | false => none) | false => (match Nat.beq pc 22 with | true => some (.invokevirtual 95, 3, 2621448, [], false, []) | false => none))) | false => (match Nat.ble 17 pc with | true => (match Nat.ble 20 pc with | true => (match Nat.ble 21 pc with | true => (match Nat.beq pc 21 with | true => some (.aload_n 0, 1, 0, [], false, []) | false => none) | false => (match Nat.beq pc 20 with | true => some (.ireturn, 1, 0, [], false, []) | false => none)) | false => (match Nat.beq pc 17 with | true => some (.invokevirtual 92, 3, 2523153, [], false, []) | false => none)) | false => (match Nat.ble 16 pc with | true => (match Nat.beq pc 16 with | true => some (.iload_n 2, 1, 0, [], false, []) | false => none) | false => (match Nat.beq pc 15 with | true => some (.aload_n 0, 1, 0, [], false, []) | false => none)))) | false => (match Nat.ble 6 pc with | true => (match Nat.ble 10 pc with | true => (match Nat.ble 11 pc with | true => (match Nat.ble 12 pc with | true => (match Nat.beq pc 12 with | true => some (.ifCond .eq (9), 3, 21, [], false, []) | false => none) | false => (match Nat.beq pc 11 with | true => some (.iload_n 2, 1, 0, [], false, []) | false => none)) | false => (match Nat.beq pc 10 with | true => some (.istore_n 2, 1, 0, [], false, []) | false => none)) | false => (match Nat.ble 7 pc with | true => (match Nat.beq pc 7 with | true => some (.invokevirtual 108, 3, 2883601, [], false, []) | false => none) | false => (match Nat.beq pc 6 with | true => some (.iload_n 1, 1, 0, [], false, []) | false => none))) | false => (match Nat.ble 2 pc with | true => (match Nat.ble 5 pc with | true => (match Nat.beq pc 5 with | true => some (.aload_n 0, 1, 0, [], false, []) | false => none) | false => (match Nat.beq pc 2 with | true => some (.putfield 1, 3, 448, [], false, []) | false => none)) | false => (match Nat.ble 1 pc with | true => (match Nat.beq pc 1 with | true => some (.iconst 0, 1, 0, [], false, []) | false => none) | false => (match Nat.beq pc 0 with | true => some (.aload_n 0, 1, 0, [], false, []) | false => none))))
def call_Mo_unload (kk : Nat) : Nat → List AV → GS → Res := fun id a G => match Nat.ble 176 id with | true => (match Nat.ble 177 id with | true => (match Nat.beq id 177 with | true => A_Mo_unloads kk a G | false => none) | false => (match Nat.beq id 176 with | true => A_Mo_notUnload kk a G | false => none)) | false => (match Nat.ble 160 id with | true => (match Nat.beq id 160 with | true => A_Mo_remembers kk a G | false => none) | false => (match Nat.beq id 154 with | true => A_Mo_fails kk a G | false => none))
def bk_Mo_unload (kk k : Nat) : Kb := fun _ _ _ _ => none
theorem R_Mo_unload (kk : Nat) (a0 : Int32) (G : GS) : ai_run T_Mo_unload (call_Mo_unload kk) (fun _ => []) 0 (bk_Mo_unload kk kk) 600 0 [some (.inr (0, 50)), some (.inl (.int a0)), none] [] G 0 = D_Mo_unload kk a0 G := by exact rfl
def T_Mo_notShift : Tb := fun pc => match Nat.ble 43 pc with | true => (match Nat.ble 60 pc with | true => (match Nat.ble 70 pc with | true => (match Nat.ble 77 pc with | true => (match Nat.ble 81 pc with | true => (match Nat.ble 82 pc with | true => (match Nat.beq pc 82 with | true => some (.ireturn, 1, 0, [], false, []) | false => none) | false => (match Nat.beq pc 81 with | true => some (.iconst 0, 1, 0, [], false, []) | false => none)) | false => (match Nat.ble 78 pc with | true => (match Nat.beq pc 78 with | true => some (.goto (4), 3, 82, [], false, []) | false => none) | false => (match Nat.beq pc 77 with | true => some (.iconst 5, 1, 0, [], false, []) | false => none))) | false => (match Nat.ble 71 pc with | true => (match Nat.ble 74 pc with | true => (match Nat.beq pc 74 with | true => some (.ifCond .eq (7), 3, 81, [], false, []) | false => none) | false => (match Nat.beq pc 71 with | true => some (.invokevirtual 82, 3, 2768913, [], false, []) | false => none)) | false => (match Nat.beq pc 70 with | true => some (.isub, 1, 0, [], false, []) | false => none))) | false => (match Nat.ble 65 pc with | true => (match Nat.ble 66 pc with | true => (match Nat.ble 67 pc with | true => (match Nat.beq pc 67 with | true => some (.invokestatic 78, 3, 2785297, [], false, []) | false => none) | false => (match Nat.beq pc 66 with | true => some (.iload_n 3, 1, 0, [], false, []) | false => none)) | false => (match Nat.beq pc 65 with | true => some (.iload_n 1, 1, 0, [], false, []) | false => none)) | false => (match Nat.ble 61 pc with | true => (match Nat.ble 62 pc with | true => (match Nat.beq pc 62 with | true => some (.invokestatic 78, 3, 2785297, [], false, []) | false => none) | false => (match Nat.beq pc 61 with | true => some (.iload_n 3, 1, 0, [], false, []) | false => none)) | false => (match Nat.beq pc 60 with | true => some (.iload_n 2, 1, 0, [], false, []) | false => none)))) | false => (match Nat.ble 51 pc with | true => (match Nat.ble 54 pc with | true => (match Nat.ble 58 pc with | true => (match Nat.ble 59 pc with | true => (match Nat.beq pc 59 with | true => some (.aload_n 0, 1, 0, [], false, []) | false => none) | false => (match Nat.beq pc 58 with | true => some (.istore_n 3, 1, 0, [], false, []) | false => none)) | false => (match Nat.ble 55 pc with | true => (match Nat.beq pc 55 with | true => some (.invokevirtual 101, 3, 2687001, [], false, []) | false => none) | false => (match Nat.beq pc 54 with | true => some (.iconst 1, 1, 0, [], false, []) | false => none))) | false => (match Nat.ble 52 pc with | true => (match Nat.ble 53 pc with | true => (match Nat.beq pc 53 with | true => some (.iload_n 1, 1, 0, [], false, []) | false => none) | false => (match Nat.beq pc 52 with | true => some (.aload_n 0, 1, 0, [], false, []) | false => none)) | false => (match Nat.beq pc 51 with | true => some (.ireturn, 1, 0, [], false, []) | false => none))) | false => (match Nat.ble 46 pc with | true => (match Nat.ble 47 pc with | true => (match Nat.ble 50 pc with | true => (match Nat.beq pc 50 with | true => some (.iconst 4, 1, 0, [], false, []) | false => none) | false => (match Nat.beq pc 47 with | true => some (.if_icmp .ne (5), 3, 52, [], false, []) | false => none)) | false => (match Nat.beq pc 46 with | true => some (.iconst 5, 1, 0, [], false, []) | false => none)) | false => (match Nat.ble 44 pc with | true => (match Nat.ble 45 pc with | true => (match Nat.beq pc 45 with | true => some (.iaload, 1, 0, [], false, []) | false => none) | false => (match Nat.beq pc 44 with | true => some (.iadd, 1, 0, [], false, []) | false => none)) | false => (match Nat.beq pc 43 with | true => some (.iload_n 2, 1, 0, [], false, []) | false => none))))) | false => (match Nat.ble 22 pc with | true => (match Nat.ble 31 pc with | true => (match Nat.ble 36 pc with | true => (match Nat.ble 38 pc with | true => (match Nat.ble 41 pc with | true => (match Nat.beq pc 41 with | true => some (.bipush (9), 2, 0, [], false, []) | false => none) | false => (match Nat.beq pc 38 with | true => some (.getfield 13, 3, 450, [], false, []) | false => none)) | false => (match Nat.ble 37 pc with | true => (match Nat.beq pc 37 with | true => some (.aload_n 0, 1, 0, [], false, []) | false => none) | false => (match Nat.beq pc 36 with | true => some (.ireturn, 1, 0, [], false, []) | false => none))) | false => (match Nat.ble 32 pc with | true => (match Nat.ble 35 pc with | true => (match Nat.beq pc 35 with | true => some (.iconst 3, 1, 0, [], false, []) | false => none) | false => (match Nat.beq pc 32 with | true => some (.ifCond .ne (5), 3, 37, [], false, []) | false => none)) | false => (match Nat.beq pc 31 with | true => some (.iaload, 1, 0, [], false, []) | false => none))) | false => (match Nat.ble 27 pc with | true => (match Nat.ble 29 pc with | true => (match Nat.ble 30 pc with | true => (match Nat.beq pc 30 with | true => some (.iadd, 1, 0, [], false, []) | false => none) | false => (match Nat.beq pc 29 with | true => some (.iload_n 1, 1, 0, [], false, []) | false => none)) | false => (match Nat.beq pc 27 with | true => some (.bipush (9), 2, 0, [], false, []) | false => none)) | false => (match Nat.ble 23 pc with | true => (match Nat.ble 24 pc with | true => (match Nat.beq pc 24 with | true => some (.getfield 13, 3, 450, [], false, []) | false => none) | false => (match Nat.beq pc 23 with | true => some (.aload_n 0, 1, 0, [], false, []) | false => none)) | false => (match Nat.beq pc 22 with | true => some (.ireturn, 1, 0, [], false, []) | false => none)))) | false => (match Nat.ble 14 pc with | true => (match Nat.ble 17 pc with | true => (match Nat.ble 18 pc with | true => (match Nat.ble 21 pc with | true => (match Nat.beq pc 21 with | true => some (.iconst 2, 1, 0, [], false, []) | false => none) | false => (match Nat.beq pc 18 with | true => some (.if_icmp .ne (5), 3, 23, [], false, []) | false => none)) | false => (match Nat.beq pc 17 with | true => some (.iload_n 2, 1, 0, [], false, []) | false => none)) | false => (match Nat.ble 15 pc with | true => (match Nat.ble 16 pc with | true => (match Nat.beq pc 16 with | true => some (.iload_n 1, 1, 0, [], false, []) | false => none) | false => (match Nat.beq pc 15 with | true => some (.ireturn, 1, 0, [], false, []) | false => none)) | false => (match Nat.beq pc 14 with | true => some (.iconst 1, 1, 0, [], false, []) | false => none))) | false => (match Nat.ble 7 pc with | true => (match Nat.ble 8 pc with | true => (match Nat.ble 11 pc with | true => (match Nat.beq pc 11 with | true => some (.ifCond .ne (5), 3, 16, [], false, []) | false => none) | false => (match Nat.beq pc 8 with | true => some (.invokestatic 74, 3, 2637833, [], false, []) | false => none)) | false => (match Nat.beq pc 7 with | true => some (.iload_n 2, 1, 0, [], false, []) | false => none)) | false => (match Nat.ble 1 pc with | true => (match Nat.ble 4 pc with | true => (match Nat.beq pc 4 with | true => some (.ifCond .eq (10), 3, 14, [], false, []) | false => none) | false => (match Nat.beq pc 1 with | true => some (.invokestatic 74, 3, 2637833, [], false, []) | false => none)) | false => (match Nat.beq pc 0 with | true => some (.iload_n 1, 1, 0, [], false, []) | false => none)))))
def call_Mo_notShift (kk : Nat) : Nat → List AV → GS → Res := fun id a G => match Nat.ble 169 id with | true => (match Nat.ble 170 id with | true => (match Nat.beq id 170 with | true => A_Mo_lever kk a G | false => none) | false => (match Nat.beq id 169 with | true => A_Mo_isBeyond kk a G | false => none)) | false => (match Nat.ble 164 id with | true => (match Nat.beq id 164 with | true => A_Mo_top kk a G | false => none) | false => (match Nat.beq id 161 with | true => A_Mo_isBay kk a G | false => none))
def bk_Mo_notShift (kk k : Nat) : Kb := fun _ _ _ _ => none
theorem R_Mo_notShift (kk : Nat) (a0 : Int32) (a1 : Int32) (G : GS) : ai_run T_Mo_notShift (call_Mo_notShift kk) (fun _ => []) 0 (bk_Mo_notShift kk kk) 600 0 [some (.inr (0, 50)), some (.inl (.int a0)), some (.inl (.int a1)), none] [] G 0 = D_Mo_notShift kk a0 a1 G := by exact rfl
def T_Mo_shifts : Tb := fun pc => match Nat.ble 17 pc with | true => (match Nat.ble 25 pc with | true => (match Nat.ble 32 pc with | true => (match Nat.ble 36 pc with | true => (match Nat.ble 37 pc with | true => (match Nat.beq pc 37 with | true => some (.ireturn, 1, 0, [], false, []) | false => none) | false => (match Nat.beq pc 36 with | true => some (.iload_n 3, 1, 0, [], false, []) | false => none)) | false => (match Nat.ble 33 pc with | true => (match Nat.beq pc 33 with | true => some (.invokevirtual 104, 3, 2818064, [], false, []) | false => none) | false => (match Nat.beq pc 32 with | true => some (.iload_n 1, 1, 0, [], false, []) | false => none))) | false => (match Nat.ble 28 pc with | true => (match Nat.ble 31 pc with | true => (match Nat.beq pc 31 with | true => some (.aload_n 0, 1, 0, [], false, []) | false => none) | false => (match Nat.beq pc 28 with | true => some (.invokevirtual 85, 3, 2801712, [], false, []) | false => none)) | false => (match Nat.beq pc 25 with | true => some (.invokevirtual 101, 3, 2687001, [], false, []) | false => none))) | false => (match Nat.ble 22 pc with | true => (match Nat.ble 23 pc with | true => (match Nat.ble 24 pc with | true => (match Nat.beq pc 24 with | true => some (.iconst 3, 1, 0, [], false, []) | false => none) | false => (match Nat.beq pc 23 with | true => some (.iload_n 1, 1, 0, [], false, []) | false => none)) | false => (match Nat.beq pc 22 with | true => some (.aload_n 0, 1, 0, [], false, []) | false => none)) | false => (match Nat.ble 18 pc with | true => (match Nat.ble 19 pc with | true => (match Nat.beq pc 19 with | true => some (.invokevirtual 101, 3, 2687001, [], false, []) | false => none) | false => (match Nat.beq pc 18 with | true => some (.iconst 2, 1, 0, [], false, []) | false => none)) | false => (match Nat.beq pc 17 with | true => some (.iload_n 1, 1, 0, [], false, []) | false => none)))) | false => (match Nat.ble 8 pc with | true => (match Nat.ble 11 pc with | true => (match Nat.ble 13 pc with | true => (match Nat.ble 16 pc with | true => (match Nat.beq pc 16 with | true => some (.aload_n 0, 1, 0, [], false, []) | false => none) | false => (match Nat.beq pc 13 with | true => some (.invokevirtual 101, 3, 2687001, [], false, []) | false => none)) | false => (match Nat.ble 12 pc with | true => (match Nat.beq pc 12 with | true => some (.iconst 1, 1, 0, [], false, []) | false => none) | false => (match Nat.beq pc 11 with | true => some (.iload_n 1, 1, 0, [], false, []) | false => none))) | false => (match Nat.ble 9 pc with | true => (match Nat.ble 10 pc with | true => (match Nat.beq pc 10 with | true => some (.aload_n 0, 1, 0, [], false, []) | false => none) | false => (match Nat.beq pc 9 with | true => some (.iload_n 3, 1, 0, [], false, []) | false => none)) | false => (match Nat.beq pc 8 with | true => some (.iload_n 2, 1, 0, [], false, []) | false => none))) | false => (match Nat.ble 3 pc with | true => (match Nat.ble 6 pc with | true => (match Nat.ble 7 pc with | true => (match Nat.beq pc 7 with | true => some (.aload_n 0, 1, 0, [], false, []) | false => none) | false => (match Nat.beq pc 6 with | true => some (.istore_n 3, 1, 0, [], false, []) | false => none)) | false => (match Nat.beq pc 3 with | true => some (.invokevirtual 101, 3, 2687001, [], false, []) | false => none)) | false => (match Nat.ble 1 pc with | true => (match Nat.ble 2 pc with | true => (match Nat.beq pc 2 with | true => some (.iconst 0, 1, 0, [], false, []) | false => none) | false => (match Nat.beq pc 1 with | true => some (.iload_n 1, 1, 0, [], false, []) | false => none)) | false => (match Nat.beq pc 0 with | true => some (.aload_n 0, 1, 0, [], false, []) | false => none))))
def call_Mo_shifts (kk : Nat) : Nat → List AV → GS → Res := fun id a G => match Nat.ble 171 id with | true => (match Nat.ble 172 id with | true => (match Nat.beq id 172 with | true => A_Mo_takes kk a G | false => none) | false => (match Nat.beq id 171 with | true => A_Mo_lays kk a G | false => none)) | false => (match Nat.beq id 164 with | true => A_Mo_top kk a G | false => none)
def bk_Mo_shifts (kk k : Nat) : Kb := fun _ _ _ _ => none
theorem R_Mo_shifts (kk : Nat) (a0 : Int32) (a1 : Int32) (G : GS) : ai_run T_Mo_shifts (call_Mo_shifts kk) (fun _ => []) 0 (bk_Mo_shifts kk kk) 600 0 [some (.inr (0, 50)), some (.inl (.int a0)), some (.inl (.int a1)), none] [] G 0 = D_Mo_shifts kk a0 a1 G := by exact rfl
def T_Mo_shift : Tb := fun pc => match Nat.ble 16 pc with | true => (match Nat.ble 23 pc with | true => (match Nat.ble 28 pc with | true => (match Nat.ble 29 pc with | true => (match Nat.ble 32 pc with | true => (match Nat.beq pc 32 with | true => some (.ireturn, 1, 0, [], false, []) | false => none) | false => (match Nat.beq pc 29 with | true => some (.invokevirtual 117, 3, 2949145, [], false, []) | false => none)) | false => (match Nat.beq pc 28 with | true => some (.iload_n 2, 1, 0, [], false, []) | false => none)) | false => (match Nat.ble 26 pc with | true => (match Nat.ble 27 pc with | true => (match Nat.beq pc 27 with | true => some (.iload_n 1, 1, 0, [], false, []) | false => none) | false => (match Nat.beq pc 26 with | true => some (.aload_n 0, 1, 0, [], false, []) | false => none)) | false => (match Nat.beq pc 23 with | true => some (.invokevirtual 95, 3, 2621448, [], false, []) | false => none))) | false => (match Nat.ble 18 pc with | true => (match Nat.ble 21 pc with | true => (match Nat.ble 22 pc with | true => (match Nat.beq pc 22 with | true => some (.aload_n 0, 1, 0, [], false, []) | false => none) | false => (match Nat.beq pc 21 with | true => some (.ireturn, 1, 0, [], false, []) | false => none)) | false => (match Nat.beq pc 18 with | true => some (.invokevirtual 92, 3, 2523153, [], false, []) | false => none)) | false => (match Nat.ble 17 pc with | true => (match Nat.beq pc 17 with | true => some (.iload_n 3, 1, 0, [], false, []) | false => none) | false => (match Nat.beq pc 16 with | true => some (.aload_n 0, 1, 0, [], false, []) | false => none)))) | false => (match Nat.ble 7 pc with | true => (match Nat.ble 11 pc with | true => (match Nat.ble 12 pc with | true => (match Nat.ble 13 pc with | true => (match Nat.beq pc 13 with | true => some (.ifCond .eq (9), 3, 22, [], false, []) | false => none) | false => (match Nat.beq pc 12 with | true => some (.iload_n 3, 1, 0, [], false, []) | false => none)) | false => (match Nat.beq pc 11 with | true => some (.istore_n 3, 1, 0, [], false, []) | false => none)) | false => (match Nat.ble 8 pc with | true => (match Nat.beq pc 8 with | true => some (.invokevirtual 114, 3, 2932761, [], false, []) | false => none) | false => (match Nat.beq pc 7 with | true => some (.iload_n 2, 1, 0, [], false, []) | false => none))) | false => (match Nat.ble 2 pc with | true => (match Nat.ble 5 pc with | true => (match Nat.ble 6 pc with | true => (match Nat.beq pc 6 with | true => some (.iload_n 1, 1, 0, [], false, []) | false => none) | false => (match Nat.beq pc 5 with | true => some (.aload_n 0, 1, 0, [], false, []) | false => none)) | false => (match Nat.beq pc 2 with | true => some (.putfield 1, 3, 448, [], false, []) | false => none)) | false => (match Nat.ble 1 pc with | true => (match Nat.beq pc 1 with | true => some (.iconst 0, 1, 0, [], false, []) | false => none) | false => (match Nat.beq pc 0 with | true => some (.aload_n 0, 1, 0, [], false, []) | false => none))))
def call_Mo_shift (kk : Nat) : Nat → List AV → GS → Res := fun id a G => match Nat.ble 179 id with | true => (match Nat.ble 180 id with | true => (match Nat.beq id 180 with | true => A_Mo_shifts kk a G | false => none) | false => (match Nat.beq id 179 with | true => A_Mo_notShift kk a G | false => none)) | false => (match Nat.ble 160 id with | true => (match Nat.beq id 160 with | true => A_Mo_remembers kk a G | false => none) | false => (match Nat.beq id 154 with | true => A_Mo_fails kk a G | false => none))
def bk_Mo_shift (kk k : Nat) : Kb := fun _ _ _ _ => none
theorem R_Mo_shift (kk : Nat) (a0 : Int32) (a1 : Int32) (G : GS) : ai_run T_Mo_shift (call_Mo_shift kk) (fun _ => []) 0 (bk_Mo_shift kk kk) 600 0 [some (.inr (0, 50)), some (.inl (.int a0)), some (.inl (.int a1)), none] [] G 0 = D_Mo_shift kk a0 a1 G := by exact rfl
def T_Mo_portBehind : Tb := fun pc => match Nat.ble 13 pc with | true => (match Nat.ble 22 pc with | true => (match Nat.ble 24 pc with | true => (match Nat.ble 25 pc with | true => (match Nat.ble 26 pc with | true => (match Nat.beq pc 26 with | true => some (.ireturn, 1, 0, [], false, []) | false => none) | false => (match Nat.beq pc 25 with | true => some (.irem, 1, 0, [], false, []) | false => none)) | false => (match Nat.beq pc 24 with | true => some (.iconst 5, 1, 0, [], false, []) | false => none)) | false => (match Nat.ble 23 pc with | true => (match Nat.beq pc 23 with | true => some (.iadd, 1, 0, [], false, []) | false => none) | false => (match Nat.beq pc 22 with | true => some (.imul, 1, 0, [], false, []) | false => none))) | false => (match Nat.ble 17 pc with | true => (match Nat.ble 20 pc with | true => (match Nat.ble 21 pc with | true => (match Nat.beq pc 21 with | true => some (.iload_n 1, 1, 0, [], false, []) | false => none) | false => (match Nat.beq pc 20 with | true => some (.iconst 1, 1, 0, [], false, []) | false => none)) | false => (match Nat.beq pc 17 with | true => some (.goto (4), 3, 21, [], false, []) | false => none)) | false => (match Nat.ble 16 pc with | true => (match Nat.beq pc 16 with | true => some (.iconst 4, 1, 0, [], false, []) | false => none) | false => (match Nat.beq pc 13 with | true => some (.if_icmp .ne (7), 3, 20, [], false, []) | false => none)))) | false => (match Nat.ble 6 pc with | true => (match Nat.ble 10 pc with | true => (match Nat.ble 11 pc with | true => (match Nat.ble 12 pc with | true => (match Nat.beq pc 12 with | true => some (.iconst 1, 1, 0, [], false, []) | false => none) | false => (match Nat.beq pc 11 with | true => some (.iaload, 1, 0, [], false, []) | false => none)) | false => (match Nat.beq pc 10 with | true => some (.iconst 2, 1, 0, [], false, []) | false => none)) | false => (match Nat.ble 7 pc with | true => (match Nat.beq pc 7 with | true => some (.getfield 13, 3, 450, [], false, []) | false => none) | false => (match Nat.beq pc 6 with | true => some (.aload_n 0, 1, 0, [], false, []) | false => none))) | false => (match Nat.ble 4 pc with | true => (match Nat.ble 5 pc with | true => (match Nat.beq pc 5 with | true => some (.iaload, 1, 0, [], false, []) | false => none) | false => (match Nat.beq pc 4 with | true => some (.iconst 1, 1, 0, [], false, []) | false => none)) | false => (match Nat.ble 1 pc with | true => (match Nat.beq pc 1 with | true => some (.getfield 13, 3, 450, [], false, []) | false => none) | false => (match Nat.beq pc 0 with | true => some (.aload_n 0, 1, 0, [], false, []) | false => none))))
def call_Mo_portBehind (kk : Nat) : Nat → List AV → GS → Res := fun id a G => none
def bk_Mo_portBehind (kk k : Nat) : Kb := fun _ _ _ _ => none
theorem R_Mo_portBehind (kk : Nat) (a0 : Int32) (G : GS) : ai_run T_Mo_portBehind (call_Mo_portBehind kk) (fun _ => []) 0 (bk_Mo_portBehind kk kk) 600 0 [some (.inr (0, 50)), some (.inl (.int a0))] [] G 0 = D_Mo_portBehind kk a0 G := by exact rfl
def T_Mo_notSail : Tb := fun pc => match Nat.ble 7 pc with | true => (match Nat.ble 11 pc with | true => (match Nat.ble 14 pc with | true => (match Nat.ble 15 pc with | true => (match Nat.beq pc 15 with | true => some (.ireturn, 1, 0, [], false, []) | false => none) | false => (match Nat.beq pc 14 with | true => some (.iconst 1, 1, 0, [], false, []) | false => none)) | false => (match Nat.beq pc 11 with | true => some (.goto (4), 3, 15, [], false, []) | false => none)) | false => (match Nat.ble 10 pc with | true => (match Nat.beq pc 10 with | true => some (.iconst 0, 1, 0, [], false, []) | false => none) | false => (match Nat.beq pc 7 with | true => some (.ifCond .eq (7), 3, 14, [], false, []) | false => none))) | false => (match Nat.ble 2 pc with | true => (match Nat.ble 4 pc with | true => (match Nat.beq pc 4 with | true => some (.invokestatic 54, 3, 2539545, [], false, []) | false => none) | false => (match Nat.beq pc 2 with | true => some (.bipush (20), 2, 0, [], false, []) | false => none)) | false => (match Nat.ble 1 pc with | true => (match Nat.beq pc 1 with | true => some (.iconst 1, 1, 0, [], false, []) | false => none) | false => (match Nat.beq pc 0 with | true => some (.iload_n 0, 1, 0, [], false, []) | false => none)))
def call_Mo_notSail (kk : Nat) : Nat → List AV → GS → Res := fun id a G => match Nat.beq id 155 with | true => A_Mo_isBetween kk a G | false => none
def bk_Mo_notSail (kk k : Nat) : Kb := fun _ _ _ _ => none
theorem R_Mo_notSail (kk : Nat) (a0 : Int32) (G : GS) : ai_run T_Mo_notSail (call_Mo_notSail kk) (fun _ => []) 0 (bk_Mo_notSail kk kk) 600 0 [some (.inl (.int a0))] [] G 0 = D_Mo_notSail kk a0 G := by exact rfl
def T_Mo_sails : Tb := fun pc => match Nat.ble 16 pc with | true => (match Nat.ble 21 pc with | true => (match Nat.ble 25 pc with | true => (match Nat.ble 26 pc with | true => (match Nat.ble 27 pc with | true => (match Nat.beq pc 27 with | true => some (.ireturn, 1, 0, [], false, []) | false => none) | false => (match Nat.beq pc 26 with | true => some (.iaload, 1, 0, [], false, []) | false => none)) | false => (match Nat.beq pc 25 with | true => some (.iconst 1, 1, 0, [], false, []) | false => none)) | false => (match Nat.ble 22 pc with | true => (match Nat.beq pc 22 with | true => some (.getfield 13, 3, 450, [], false, []) | false => none) | false => (match Nat.beq pc 21 with | true => some (.aload_n 0, 1, 0, [], false, []) | false => none))) | false => (match Nat.ble 18 pc with | true => (match Nat.ble 19 pc with | true => (match Nat.ble 20 pc with | true => (match Nat.beq pc 20 with | true => some (.iastore, 1, 0, [], false, []) | false => none) | false => (match Nat.beq pc 19 with | true => some (.iadd, 1, 0, [], false, []) | false => none)) | false => (match Nat.beq pc 18 with | true => some (.iload_n 1, 1, 0, [], false, []) | false => none)) | false => (match Nat.ble 17 pc with | true => (match Nat.beq pc 17 with | true => some (.iaload, 1, 0, [], false, []) | false => none) | false => (match Nat.beq pc 16 with | true => some (.dup2, 1, 0, [], false, []) | false => none)))) | false => (match Nat.ble 7 pc with | true => (match Nat.ble 11 pc with | true => (match Nat.ble 12 pc with | true => (match Nat.ble 15 pc with | true => (match Nat.beq pc 15 with | true => some (.iconst 0, 1, 0, [], false, []) | false => none) | false => (match Nat.beq pc 12 with | true => some (.getfield 13, 3, 450, [], false, []) | false => none)) | false => (match Nat.beq pc 11 with | true => some (.aload_n 0, 1, 0, [], false, []) | false => none)) | false => (match Nat.ble 10 pc with | true => (match Nat.beq pc 10 with | true => some (.iastore, 1, 0, [], false, []) | false => none) | false => (match Nat.beq pc 7 with | true => some (.invokevirtual 120, 3, 2981905, [], false, []) | false => none))) | false => (match Nat.ble 4 pc with | true => (match Nat.ble 5 pc with | true => (match Nat.ble 6 pc with | true => (match Nat.beq pc 6 with | true => some (.iload_n 1, 1, 0, [], false, []) | false => none) | false => (match Nat.beq pc 5 with | true => some (.aload_n 0, 1, 0, [], false, []) | false => none)) | false => (match Nat.beq pc 4 with | true => some (.iconst 1, 1, 0, [], false, []) | false => none)) | false => (match Nat.ble 1 pc with | true => (match Nat.beq pc 1 with | true => some (.getfield 13, 3, 450, [], false, []) | false => none) | false => (match Nat.beq pc 0 with | true => some (.aload_n 0, 1, 0, [], false, []) | false => none))))
def call_Mo_sails (kk : Nat) : Nat → List AV → GS → Res := fun id a G => match Nat.beq id 182 with | true => A_Mo_portBehind kk a G | false => none
def bk_Mo_sails (kk k : Nat) : Kb := fun _ _ _ _ => none
theorem R_Mo_sails (kk : Nat) (a0 : Int32) (G : GS) : ai_run T_Mo_sails (call_Mo_sails kk) (fun _ => []) 0 (bk_Mo_sails kk kk) 600 0 [some (.inr (0, 50)), some (.inl (.int a0))] [] G 0 = D_Mo_sails kk a0 G := by exact rfl
def T_Mo_sail : Tb := fun pc => match Nat.ble 14 pc with | true => (match Nat.ble 22 pc with | true => (match Nat.ble 24 pc with | true => (match Nat.ble 27 pc with | true => (match Nat.beq pc 27 with | true => some (.ireturn, 1, 0, [], false, []) | false => none) | false => (match Nat.beq pc 24 with | true => some (.invokevirtual 126, 3, 3014673, [], false, []) | false => none)) | false => (match Nat.ble 23 pc with | true => (match Nat.beq pc 23 with | true => some (.iload_n 1, 1, 0, [], false, []) | false => none) | false => (match Nat.beq pc 22 with | true => some (.aload_n 0, 1, 0, [], false, []) | false => none))) | false => (match Nat.ble 18 pc with | true => (match Nat.ble 19 pc with | true => (match Nat.beq pc 19 with | true => some (.invokevirtual 95, 3, 2621448, [], false, []) | false => none) | false => (match Nat.beq pc 18 with | true => some (.aload_n 0, 1, 0, [], false, []) | false => none)) | false => (match Nat.ble 17 pc with | true => (match Nat.beq pc 17 with | true => some (.ireturn, 1, 0, [], false, []) | false => none) | false => (match Nat.beq pc 14 with | true => some (.invokevirtual 92, 3, 2523153, [], false, []) | false => none)))) | false => (match Nat.ble 6 pc with | true => (match Nat.ble 12 pc with | true => (match Nat.ble 13 pc with | true => (match Nat.beq pc 13 with | true => some (.iconst 1, 1, 0, [], false, []) | false => none) | false => (match Nat.beq pc 12 with | true => some (.aload_n 0, 1, 0, [], false, []) | false => none)) | false => (match Nat.ble 9 pc with | true => (match Nat.beq pc 9 with | true => some (.ifCond .eq (9), 3, 18, [], false, []) | false => none) | false => (match Nat.beq pc 6 with | true => some (.invokestatic 123, 3, 2998281, [], false, []) | false => none))) | false => (match Nat.ble 2 pc with | true => (match Nat.ble 5 pc with | true => (match Nat.beq pc 5 with | true => some (.iload_n 1, 1, 0, [], false, []) | false => none) | false => (match Nat.beq pc 2 with | true => some (.putfield 1, 3, 448, [], false, []) | false => none)) | false => (match Nat.ble 1 pc with | true => (match Nat.beq pc 1 with | true => some (.iconst 0, 1, 0, [], false, []) | false => none) | false => (match Nat.beq pc 0 with | true => some (.aload_n 0, 1, 0, [], false, []) | false => none))))
def call_Mo_sail (kk : Nat) : Nat → List AV → GS → Res := fun id a G => match Nat.ble 183 id with | true => (match Nat.ble 184 id with | true => (match Nat.beq id 184 with | true => A_Mo_sails kk a G | false => none) | false => (match Nat.beq id 183 with | true => A_Mo_notSail kk a G | false => none)) | false => (match Nat.ble 160 id with | true => (match Nat.beq id 160 with | true => A_Mo_remembers kk a G | false => none) | false => (match Nat.beq id 154 with | true => A_Mo_fails kk a G | false => none))
def bk_Mo_sail (kk k : Nat) : Kb := fun _ _ _ _ => none
theorem R_Mo_sail (kk : Nat) (a0 : Int32) (G : GS) : ai_run T_Mo_sail (call_Mo_sail kk) (fun _ => []) 0 (bk_Mo_sail kk kk) 600 0 [some (.inr (0, 50)), some (.inl (.int a0))] [] G 0 = D_Mo_sail kk a0 G := by exact rfl
def T_Mo_turns : Tb := fun pc => match Nat.ble 11 pc with | true => (match Nat.ble 15 pc with | true => (match Nat.ble 19 pc with | true => (match Nat.ble 20 pc with | true => (match Nat.beq pc 20 with | true => some (.ireturn, 1, 0, [], false, []) | false => none) | false => (match Nat.beq pc 19 with | true => some (.iaload, 1, 0, [], false, []) | false => none)) | false => (match Nat.ble 18 pc with | true => (match Nat.beq pc 18 with | true => some (.iconst 2, 1, 0, [], false, []) | false => none) | false => (match Nat.beq pc 15 with | true => some (.getfield 13, 3, 450, [], false, []) | false => none))) | false => (match Nat.ble 13 pc with | true => (match Nat.ble 14 pc with | true => (match Nat.beq pc 14 with | true => some (.aload_n 0, 1, 0, [], false, []) | false => none) | false => (match Nat.beq pc 13 with | true => some (.iastore, 1, 0, [], false, []) | false => none)) | false => (match Nat.ble 12 pc with | true => (match Nat.beq pc 12 with | true => some (.isub, 1, 0, [], false, []) | false => none) | false => (match Nat.beq pc 11 with | true => some (.iaload, 1, 0, [], false, []) | false => none)))) | false => (match Nat.ble 5 pc with | true => (match Nat.ble 7 pc with | true => (match Nat.ble 10 pc with | true => (match Nat.beq pc 10 with | true => some (.iconst 2, 1, 0, [], false, []) | false => none) | false => (match Nat.beq pc 7 with | true => some (.getfield 13, 3, 450, [], false, []) | false => none)) | false => (match Nat.ble 6 pc with | true => (match Nat.beq pc 6 with | true => some (.aload_n 0, 1, 0, [], false, []) | false => none) | false => (match Nat.beq pc 5 with | true => some (.iconst 1, 1, 0, [], false, []) | false => none))) | false => (match Nat.ble 1 pc with | true => (match Nat.ble 4 pc with | true => (match Nat.beq pc 4 with | true => some (.iconst 2, 1, 0, [], false, []) | false => none) | false => (match Nat.beq pc 1 with | true => some (.getfield 13, 3, 450, [], false, []) | false => none)) | false => (match Nat.beq pc 0 with | true => some (.aload_n 0, 1, 0, [], false, []) | false => none)))
def call_Mo_turns (kk : Nat) : Nat → List AV → GS → Res := fun id a G => none
def bk_Mo_turns (kk k : Nat) : Kb := fun _ _ _ _ => none
theorem R_Mo_turns (kk : Nat) (G : GS) : ai_run T_Mo_turns (call_Mo_turns kk) (fun _ => []) 0 (bk_Mo_turns kk kk) 600 0 [some (.inr (0, 50))] [] G 0 = D_Mo_turns kk G := by exact rfl
def T_Mo_turn : Tb := fun pc => match Nat.ble 10 pc with | true => (match Nat.ble 17 pc with | true => (match Nat.ble 20 pc with | true => (match Nat.ble 21 pc with | true => (match Nat.beq pc 21 with | true => some (.ireturn, 1, 0, [], false, []) | false => none) | false => (match Nat.beq pc 20 with | true => some (.iconst 0, 1, 0, [], false, []) | false => none)) | false => (match Nat.beq pc 17 with | true => some (.goto (4), 3, 21, [], false, []) | false => none)) | false => (match Nat.ble 13 pc with | true => (match Nat.ble 16 pc with | true => (match Nat.beq pc 16 with | true => some (.iconst 1, 1, 0, [], false, []) | false => none) | false => (match Nat.beq pc 13 with | true => some (.ifCond .ne (7), 3, 20, [], false, []) | false => none)) | false => (match Nat.beq pc 10 with | true => some (.invokevirtual 129, 3, 3047433, [], false, []) | false => none))) | false => (match Nat.ble 5 pc with | true => (match Nat.ble 6 pc with | true => (match Nat.ble 9 pc with | true => (match Nat.beq pc 9 with | true => some (.aload_n 0, 1, 0, [], false, []) | false => none) | false => (match Nat.beq pc 6 with | true => some (.invokevirtual 95, 3, 2621448, [], false, []) | false => none)) | false => (match Nat.beq pc 5 with | true => some (.aload_n 0, 1, 0, [], false, []) | false => none)) | false => (match Nat.ble 1 pc with | true => (match Nat.ble 2 pc with | true => (match Nat.beq pc 2 with | true => some (.putfield 1, 3, 448, [], false, []) | false => none) | false => (match Nat.beq pc 1 with | true => some (.iconst 0, 1, 0, [], false, []) | false => none)) | false => (match Nat.beq pc 0 with | true => some (.aload_n 0, 1, 0, [], false, []) | false => none)))
def call_Mo_turn (kk : Nat) : Nat → List AV → GS → Res := fun id a G => match Nat.ble 186 id with | true => (match Nat.beq id 186 with | true => A_Mo_turns kk a G | false => none) | false => (match Nat.beq id 160 with | true => A_Mo_remembers kk a G | false => none)
def bk_Mo_turn (kk k : Nat) : Kb := fun _ _ _ _ => none
theorem R_Mo_turn (kk : Nat) (G : GS) : ai_run T_Mo_turn (call_Mo_turn kk) (fun _ => []) 0 (bk_Mo_turn kk kk) 600 0 [some (.inr (0, 50))] [] G 0 = D_Mo_turn kk G := by exact rfl
def T_Mo_notLimit : Tb := fun pc => match Nat.ble 18 pc with | true => (match Nat.ble 25 pc with | true => (match Nat.ble 30 pc with | true => (match Nat.ble 33 pc with | true => (match Nat.ble 34 pc with | true => (match Nat.beq pc 34 with | true => some (.ireturn, 1, 0, [], false, []) | false => none) | false => (match Nat.beq pc 33 with | true => some (.iconst 0, 1, 0, [], false, []) | false => none)) | false => (match Nat.beq pc 30 with | true => some (.goto (4), 3, 34, [], false, []) | false => none)) | false => (match Nat.ble 26 pc with | true => (match Nat.ble 29 pc with | true => (match Nat.beq pc 29 with | true => some (.iconst 2, 1, 0, [], false, []) | false => none) | false => (match Nat.beq pc 26 with | true => some (.if_icmp .le (7), 3, 33, [], false, []) | false => none)) | false => (match Nat.beq pc 25 with | true => some (.iload_n 1, 1, 0, [], false, []) | false => none))) | false => (match Nat.ble 20 pc with | true => (match Nat.ble 23 pc with | true => (match Nat.ble 24 pc with | true => (match Nat.beq pc 24 with | true => some (.ineg, 1, 0, [], false, []) | false => none) | false => (match Nat.beq pc 23 with | true => some (.iload_n 2, 1, 0, [], false, []) | false => none)) | false => (match Nat.beq pc 20 with | true => some (.if_icmp .gt (9), 3, 29, [], false, []) | false => none)) | false => (match Nat.ble 19 pc with | true => (match Nat.beq pc 19 with | true => some (.iload_n 1, 1, 0, [], false, []) | false => none) | false => (match Nat.beq pc 18 with | true => some (.iload_n 2, 1, 0, [], false, []) | false => none)))) | false => (match Nat.ble 11 pc with | true => (match Nat.ble 13 pc with | true => (match Nat.ble 14 pc with | true => (match Nat.ble 17 pc with | true => (match Nat.beq pc 17 with | true => some (.istore_n 2, 1, 0, [], false, []) | false => none) | false => (match Nat.beq pc 14 with | true => some (.invokevirtual 66, 3, 2719753, [], false, []) | false => none)) | false => (match Nat.beq pc 13 with | true => some (.aload_n 0, 1, 0, [], false, []) | false => none)) | false => (match Nat.ble 12 pc with | true => (match Nat.beq pc 12 with | true => some (.ireturn, 1, 0, [], false, []) | false => none) | false => (match Nat.beq pc 11 with | true => some (.iconst 1, 1, 0, [], false, []) | false => none))) | false => (match Nat.ble 3 pc with | true => (match Nat.ble 5 pc with | true => (match Nat.ble 8 pc with | true => (match Nat.beq pc 8 with | true => some (.ifCond .ne (5), 3, 13, [], false, []) | false => none) | false => (match Nat.beq pc 5 with | true => some (.invokestatic 54, 3, 2539545, [], false, []) | false => none)) | false => (match Nat.beq pc 3 with | true => some (.bipush (99), 2, 0, [], false, []) | false => none)) | false => (match Nat.ble 1 pc with | true => (match Nat.beq pc 1 with | true => some (.bipush (10), 2, 0, [], false, []) | false => none) | false => (match Nat.beq pc 0 with | true => some (.iload_n 1, 1, 0, [], false, []) | false => none))))
def call_Mo_notLimit (kk : Nat) : Nat → List AV → GS → Res := fun id a G => match Nat.ble 166 id with | true => (match Nat.beq id 166 with | true => A_Mo_momentNow kk a G | false => none) | false => (match Nat.beq id 155 with | true => A_Mo_isBetween kk a G | false => none)
def bk_Mo_notLimit (kk k : Nat) : Kb := fun _ _ _ _ => none
theorem R_Mo_notLimit (kk : Nat) (a0 : Int32) (G : GS) : ai_run T_Mo_notLimit (call_Mo_notLimit kk) (fun _ => []) 0 (bk_Mo_notLimit kk kk) 600 0 [some (.inr (0, 50)), some (.inl (.int a0)), none] [] G 0 = D_Mo_notLimit kk a0 G := by exact rfl
def T_Mo_setsLimit : Tb := fun pc => match Nat.ble 8 pc with | true => (match Nat.ble 13 pc with | true => (match Nat.ble 14 pc with | true => (match Nat.ble 15 pc with | true => (match Nat.beq pc 15 with | true => some (.ireturn, 1, 0, [], false, []) | false => none) | false => (match Nat.beq pc 14 with | true => some (.iload_n 2, 1, 0, [], false, []) | false => none)) | false => (match Nat.beq pc 13 with | true => some (.iastore, 1, 0, [], false, []) | false => none)) | false => (match Nat.ble 11 pc with | true => (match Nat.ble 12 pc with | true => (match Nat.beq pc 12 with | true => some (.iload_n 1, 1, 0, [], false, []) | false => none) | false => (match Nat.beq pc 11 with | true => some (.iconst 3, 1, 0, [], false, []) | false => none)) | false => (match Nat.beq pc 8 with | true => some (.getfield 13, 3, 450, [], false, []) | false => none))) | false => (match Nat.ble 5 pc with | true => (match Nat.ble 6 pc with | true => (match Nat.ble 7 pc with | true => (match Nat.beq pc 7 with | true => some (.aload_n 0, 1, 0, [], false, []) | false => none) | false => (match Nat.beq pc 6 with | true => some (.istore_n 2, 1, 0, [], false, []) | false => none)) | false => (match Nat.beq pc 5 with | true => some (.iaload, 1, 0, [], false, []) | false => none)) | false => (match Nat.ble 1 pc with | true => (match Nat.ble 4 pc with | true => (match Nat.beq pc 4 with | true => some (.iconst 3, 1, 0, [], false, []) | false => none) | false => (match Nat.beq pc 1 with | true => some (.getfield 13, 3, 450, [], false, []) | false => none)) | false => (match Nat.beq pc 0 with | true => some (.aload_n 0, 1, 0, [], false, []) | false => none)))
def call_Mo_setsLimit (kk : Nat) : Nat → List AV → GS → Res := fun id a G => none
def bk_Mo_setsLimit (kk k : Nat) : Kb := fun _ _ _ _ => none
theorem R_Mo_setsLimit (kk : Nat) (a0 : Int32) (G : GS) : ai_run T_Mo_setsLimit (call_Mo_setsLimit kk) (fun _ => []) 0 (bk_Mo_setsLimit kk kk) 600 0 [some (.inr (0, 50)), some (.inl (.int a0)), none] [] G 0 = D_Mo_setsLimit kk a0 G := by exact rfl
def T_Mo_setLimit : Tb := fun pc => match Nat.ble 15 pc with | true => (match Nat.ble 22 pc with | true => (match Nat.ble 26 pc with | true => (match Nat.ble 27 pc with | true => (match Nat.ble 30 pc with | true => (match Nat.beq pc 30 with | true => some (.ireturn, 1, 0, [], false, []) | false => none) | false => (match Nat.beq pc 27 with | true => some (.invokevirtual 135, 3, 3096593, [], false, []) | false => none)) | false => (match Nat.beq pc 26 with | true => some (.iload_n 1, 1, 0, [], false, []) | false => none)) | false => (match Nat.ble 25 pc with | true => (match Nat.beq pc 25 with | true => some (.aload_n 0, 1, 0, [], false, []) | false => none) | false => (match Nat.beq pc 22 with | true => some (.invokevirtual 95, 3, 2621448, [], false, []) | false => none))) | false => (match Nat.ble 17 pc with | true => (match Nat.ble 20 pc with | true => (match Nat.ble 21 pc with | true => (match Nat.beq pc 21 with | true => some (.aload_n 0, 1, 0, [], false, []) | false => none) | false => (match Nat.beq pc 20 with | true => some (.ireturn, 1, 0, [], false, []) | false => none)) | false => (match Nat.beq pc 17 with | true => some (.invokevirtual 92, 3, 2523153, [], false, []) | false => none)) | false => (match Nat.ble 16 pc with | true => (match Nat.beq pc 16 with | true => some (.iload_n 2, 1, 0, [], false, []) | false => none) | false => (match Nat.beq pc 15 with | true => some (.aload_n 0, 1, 0, [], false, []) | false => none)))) | false => (match Nat.ble 6 pc with | true => (match Nat.ble 10 pc with | true => (match Nat.ble 11 pc with | true => (match Nat.ble 12 pc with | true => (match Nat.beq pc 12 with | true => some (.ifCond .eq (9), 3, 21, [], false, []) | false => none) | false => (match Nat.beq pc 11 with | true => some (.iload_n 2, 1, 0, [], false, []) | false => none)) | false => (match Nat.beq pc 10 with | true => some (.istore_n 2, 1, 0, [], false, []) | false => none)) | false => (match Nat.ble 7 pc with | true => (match Nat.beq pc 7 with | true => some (.invokevirtual 132, 3, 3080209, [], false, []) | false => none) | false => (match Nat.beq pc 6 with | true => some (.iload_n 1, 1, 0, [], false, []) | false => none))) | false => (match Nat.ble 2 pc with | true => (match Nat.ble 5 pc with | true => (match Nat.beq pc 5 with | true => some (.aload_n 0, 1, 0, [], false, []) | false => none) | false => (match Nat.beq pc 2 with | true => some (.putfield 1, 3, 448, [], false, []) | false => none)) | false => (match Nat.ble 1 pc with | true => (match Nat.beq pc 1 with | true => some (.iconst 0, 1, 0, [], false, []) | false => none) | false => (match Nat.beq pc 0 with | true => some (.aload_n 0, 1, 0, [], false, []) | false => none))))
def call_Mo_setLimit (kk : Nat) : Nat → List AV → GS → Res := fun id a G => match Nat.ble 188 id with | true => (match Nat.ble 189 id with | true => (match Nat.beq id 189 with | true => A_Mo_setsLimit kk a G | false => none) | false => (match Nat.beq id 188 with | true => A_Mo_notLimit kk a G | false => none)) | false => (match Nat.ble 160 id with | true => (match Nat.beq id 160 with | true => A_Mo_remembers kk a G | false => none) | false => (match Nat.beq id 154 with | true => A_Mo_fails kk a G | false => none))
def bk_Mo_setLimit (kk k : Nat) : Kb := fun _ _ _ _ => none
theorem R_Mo_setLimit (kk : Nat) (a0 : Int32) (G : GS) : ai_run T_Mo_setLimit (call_Mo_setLimit kk) (fun _ => []) 0 (bk_Mo_setLimit kk kk) 600 0 [some (.inr (0, 50)), some (.inl (.int a0)), none] [] G 0 = D_Mo_setLimit kk a0 G := by exact rfl
def T_Mo_notDrill : Tb := fun pc => match Nat.ble 8 pc with | true => (match Nat.ble 12 pc with | true => (match Nat.ble 15 pc with | true => (match Nat.ble 16 pc with | true => (match Nat.beq pc 16 with | true => some (.ireturn, 1, 0, [], false, []) | false => none) | false => (match Nat.beq pc 15 with | true => some (.iconst 1, 1, 0, [], false, []) | false => none)) | false => (match Nat.beq pc 12 with | true => some (.goto (4), 3, 16, [], false, []) | false => none)) | false => (match Nat.ble 11 pc with | true => (match Nat.beq pc 11 with | true => some (.iconst 0, 1, 0, [], false, []) | false => none) | false => (match Nat.beq pc 8 with | true => some (.ifCond .eq (7), 3, 15, [], false, []) | false => none))) | false => (match Nat.ble 3 pc with | true => (match Nat.ble 5 pc with | true => (match Nat.beq pc 5 with | true => some (.invokestatic 54, 3, 2539545, [], false, []) | false => none) | false => (match Nat.beq pc 3 with | true => some (.bipush (99), 2, 0, [], false, []) | false => none)) | false => (match Nat.ble 1 pc with | true => (match Nat.beq pc 1 with | true => some (.bipush (-99), 2, 0, [], false, []) | false => none) | false => (match Nat.beq pc 0 with | true => some (.iload_n 0, 1, 0, [], false, []) | false => none)))
def call_Mo_notDrill (kk : Nat) : Nat → List AV → GS → Res := fun id a G => match Nat.beq id 155 with | true => A_Mo_isBetween kk a G | false => none
def bk_Mo_notDrill (kk k : Nat) : Kb := fun _ _ _ _ => none
theorem R_Mo_notDrill (kk : Nat) (a0 : Int32) (G : GS) : ai_run T_Mo_notDrill (call_Mo_notDrill kk) (fun _ => []) 0 (bk_Mo_notDrill kk kk) 600 0 [some (.inl (.int a0))] [] G 0 = D_Mo_notDrill kk a0 G := by exact rfl
def T_Mo_drills : Tb := fun pc => match Nat.ble 20 pc with | true => (match Nat.ble 31 pc with | true => (match Nat.ble 34 pc with | true => (match Nat.ble 36 pc with | true => (match Nat.ble 37 pc with | true => (match Nat.beq pc 37 with | true => some (.ireturn, 1, 0, [], false, []) | false => none) | false => (match Nat.beq pc 36 with | true => some (.iload_n 2, 1, 0, [], false, []) | false => none)) | false => (match Nat.ble 35 pc with | true => (match Nat.beq pc 35 with | true => some (.iastore, 1, 0, [], false, []) | false => none) | false => (match Nat.beq pc 34 with | true => some (.iadd, 1, 0, [], false, []) | false => none))) | false => (match Nat.ble 32 pc with | true => (match Nat.ble 33 pc with | true => (match Nat.beq pc 33 with | true => some (.iload_n 2, 1, 0, [], false, []) | false => none) | false => (match Nat.beq pc 32 with | true => some (.iaload, 1, 0, [], false, []) | false => none)) | false => (match Nat.beq pc 31 with | true => some (.dup2, 1, 0, [], false, []) | false => none))) | false => (match Nat.ble 25 pc with | true => (match Nat.ble 26 pc with | true => (match Nat.ble 29 pc with | true => (match Nat.beq pc 29 with | true => some (.bipush (8), 2, 0, [], false, []) | false => none) | false => (match Nat.beq pc 26 with | true => some (.getfield 13, 3, 450, [], false, []) | false => none)) | false => (match Nat.beq pc 25 with | true => some (.aload_n 0, 1, 0, [], false, []) | false => none)) | false => (match Nat.ble 23 pc with | true => (match Nat.ble 24 pc with | true => (match Nat.beq pc 24 with | true => some (.istore_n 2, 1, 0, [], false, []) | false => none) | false => (match Nat.beq pc 23 with | true => some (.iconst 0, 1, 0, [], false, []) | false => none)) | false => (match Nat.beq pc 20 with | true => some (.goto (4), 3, 24, [], false, []) | false => none)))) | false => (match Nat.ble 9 pc with | true => (match Nat.ble 12 pc with | true => (match Nat.ble 16 pc with | true => (match Nat.ble 19 pc with | true => (match Nat.beq pc 19 with | true => some (.iconst 1, 1, 0, [], false, []) | false => none) | false => (match Nat.beq pc 16 with | true => some (.ifCond .eq (7), 3, 23, [], false, []) | false => none)) | false => (match Nat.ble 13 pc with | true => (match Nat.beq pc 13 with | true => some (.invokevirtual 82, 3, 2768913, [], false, []) | false => none) | false => (match Nat.beq pc 12 with | true => some (.iload_n 1, 1, 0, [], false, []) | false => none))) | false => (match Nat.ble 10 pc with | true => (match Nat.ble 11 pc with | true => (match Nat.beq pc 11 with | true => some (.aload_n 0, 1, 0, [], false, []) | false => none) | false => (match Nat.beq pc 10 with | true => some (.iastore, 1, 0, [], false, []) | false => none)) | false => (match Nat.beq pc 9 with | true => some (.iadd, 1, 0, [], false, []) | false => none))) | false => (match Nat.ble 6 pc with | true => (match Nat.ble 7 pc with | true => (match Nat.ble 8 pc with | true => (match Nat.beq pc 8 with | true => some (.iconst 1, 1, 0, [], false, []) | false => none) | false => (match Nat.beq pc 7 with | true => some (.iaload, 1, 0, [], false, []) | false => none)) | false => (match Nat.beq pc 6 with | true => some (.dup2, 1, 0, [], false, []) | false => none)) | false => (match Nat.ble 1 pc with | true => (match Nat.ble 4 pc with | true => (match Nat.beq pc 4 with | true => some (.bipush (7), 2, 0, [], false, []) | false => none) | false => (match Nat.beq pc 1 with | true => some (.getfield 13, 3, 450, [], false, []) | false => none)) | false => (match Nat.beq pc 0 with | true => some (.aload_n 0, 1, 0, [], false, []) | false => none))))
def call_Mo_drills (kk : Nat) : Nat → List AV → GS → Res := fun id a G => match Nat.beq id 169 with | true => A_Mo_isBeyond kk a G | false => none
def bk_Mo_drills (kk k : Nat) : Kb := fun _ _ _ _ => none
theorem R_Mo_drills (kk : Nat) (a0 : Int32) (G : GS) : ai_run T_Mo_drills (call_Mo_drills kk) (fun _ => []) 0 (bk_Mo_drills kk kk) 600 0 [some (.inr (0, 50)), some (.inl (.int a0)), none] [] G 0 = D_Mo_drills kk a0 G := by exact rfl
def T_Mo_drill : Tb := fun pc => match Nat.ble 24 pc with | true => (match Nat.ble 32 pc with | true => (match Nat.ble 39 pc with | true => (match Nat.ble 43 pc with | true => (match Nat.ble 44 pc with | true => (match Nat.beq pc 44 with | true => some (.ireturn, 1, 0, [], false, []) | false => none) | false => (match Nat.beq pc 43 with | true => some (.iconst 0, 1, 0, [], false, []) | false => none)) | false => (match Nat.ble 40 pc with | true => (match Nat.beq pc 40 with | true => some (.goto (4), 3, 44, [], false, []) | false => none) | false => (match Nat.beq pc 39 with | true => some (.iconst 1, 1, 0, [], false, []) | false => none))) | false => (match Nat.ble 35 pc with | true => (match Nat.ble 36 pc with | true => (match Nat.beq pc 36 with | true => some (.if_icmp .ne (7), 3, 43, [], false, []) | false => none) | false => (match Nat.beq pc 35 with | true => some (.iconst 1, 1, 0, [], false, []) | false => none)) | false => (match Nat.beq pc 32 with | true => some (.invokevirtual 141, 3, 3145745, [], false, []) | false => none))) | false => (match Nat.ble 27 pc with | true => (match Nat.ble 30 pc with | true => (match Nat.ble 31 pc with | true => (match Nat.beq pc 31 with | true => some (.iload_n 1, 1, 0, [], false, []) | false => none) | false => (match Nat.beq pc 30 with | true => some (.aload_n 0, 1, 0, [], false, []) | false => none)) | false => (match Nat.beq pc 27 with | true => some (.invokevirtual 95, 3, 2621448, [], false, []) | false => none)) | false => (match Nat.ble 25 pc with | true => (match Nat.ble 26 pc with | true => (match Nat.beq pc 26 with | true => some (.aload_n 0, 1, 0, [], false, []) | false => none) | false => (match Nat.beq pc 25 with | true => some (.ireturn, 1, 0, [], false, []) | false => none)) | false => (match Nat.beq pc 24 with | true => some (.iconst 0, 1, 0, [], false, []) | false => none)))) | false => (match Nat.ble 12 pc with | true => (match Nat.ble 17 pc with | true => (match Nat.ble 20 pc with | true => (match Nat.ble 21 pc with | true => (match Nat.beq pc 21 with | true => some (.goto (4), 3, 25, [], false, []) | false => none) | false => (match Nat.beq pc 20 with | true => some (.iconst 1, 1, 0, [], false, []) | false => none)) | false => (match Nat.beq pc 17 with | true => some (.ifCond .le (7), 3, 24, [], false, []) | false => none)) | false => (match Nat.ble 13 pc with | true => (match Nat.ble 14 pc with | true => (match Nat.beq pc 14 with | true => some (.invokevirtual 92, 3, 2523153, [], false, []) | false => none) | false => (match Nat.beq pc 13 with | true => some (.iconst 1, 1, 0, [], false, []) | false => none)) | false => (match Nat.beq pc 12 with | true => some (.aload_n 0, 1, 0, [], false, []) | false => none))) | false => (match Nat.ble 5 pc with | true => (match Nat.ble 6 pc with | true => (match Nat.ble 9 pc with | true => (match Nat.beq pc 9 with | true => some (.ifCond .eq (17), 3, 26, [], false, []) | false => none) | false => (match Nat.beq pc 6 with | true => some (.invokestatic 138, 3, 3129353, [], false, []) | false => none)) | false => (match Nat.beq pc 5 with | true => some (.iload_n 1, 1, 0, [], false, []) | false => none)) | false => (match Nat.ble 1 pc with | true => (match Nat.ble 2 pc with | true => (match Nat.beq pc 2 with | true => some (.putfield 1, 3, 448, [], false, []) | false => none) | false => (match Nat.beq pc 1 with | true => some (.iconst 0, 1, 0, [], false, []) | false => none)) | false => (match Nat.beq pc 0 with | true => some (.aload_n 0, 1, 0, [], false, []) | false => none))))
def call_Mo_drill (kk : Nat) : Nat → List AV → GS → Res := fun id a G => match Nat.ble 191 id with | true => (match Nat.ble 192 id with | true => (match Nat.beq id 192 with | true => A_Mo_drills kk a G | false => none) | false => (match Nat.beq id 191 with | true => A_Mo_notDrill kk a G | false => none)) | false => (match Nat.ble 160 id with | true => (match Nat.beq id 160 with | true => A_Mo_remembers kk a G | false => none) | false => (match Nat.beq id 154 with | true => A_Mo_fails kk a G | false => none))
def bk_Mo_drill (kk k : Nat) : Kb := fun _ _ _ _ => none
theorem R_Mo_drill (kk : Nat) (a0 : Int32) (G : GS) : ai_run T_Mo_drill (call_Mo_drill kk) (fun _ => []) 0 (bk_Mo_drill kk kk) 600 0 [some (.inr (0, 50)), some (.inl (.int a0))] [] G 0 = D_Mo_drill kk a0 G := by exact rfl
def T_Mo_pillowCount : Tb := fun pc => match Nat.ble 5 pc with | true => (match Nat.ble 6 pc with | true => (match Nat.ble 9 pc with | true => (match Nat.beq pc 9 with | true => some (.ireturn, 1, 0, [], false, []) | false => none) | false => (match Nat.beq pc 6 with | true => some (.invokevirtual 144, 3, 2752521, [], false, []) | false => none)) | false => (match Nat.beq pc 5 with | true => some (.aload_n 0, 1, 0, [], false, []) | false => none)) | false => (match Nat.ble 1 pc with | true => (match Nat.ble 2 pc with | true => (match Nat.beq pc 2 with | true => some (.putfield 1, 3, 448, [], false, []) | false => none) | false => (match Nat.beq pc 1 with | true => some (.iconst 0, 1, 0, [], false, []) | false => none)) | false => (match Nat.beq pc 0 with | true => some (.aload_n 0, 1, 0, [], false, []) | false => none))
def call_Mo_pillowCount (kk : Nat) : Nat → List AV → GS → Res := fun id a G => match Nat.beq id 168 with | true => A_Mo_countAll kk a G | false => none
def bk_Mo_pillowCount (kk k : Nat) : Kb := fun _ _ _ _ => none
theorem R_Mo_pillowCount (kk : Nat) (G : GS) : ai_run T_Mo_pillowCount (call_Mo_pillowCount kk) (fun _ => []) 0 (bk_Mo_pillowCount kk kk) 600 0 [some (.inr (0, 50))] [] G 0 = D_Mo_pillowCount kk G := by exact rfl
def T_Mo_stackHeight : Tb := fun pc => match Nat.ble 16 pc with | true => (match Nat.ble 21 pc with | true => (match Nat.ble 25 pc with | true => (match Nat.ble 26 pc with | true => (match Nat.ble 29 pc with | true => (match Nat.beq pc 29 with | true => some (.ireturn, 1, 0, [], false, []) | false => none) | false => (match Nat.beq pc 26 with | true => some (.invokevirtual 92, 3, 2523153, [], false, []) | false => none)) | false => (match Nat.beq pc 25 with | true => some (.iconst 1, 1, 0, [], false, []) | false => none)) | false => (match Nat.ble 24 pc with | true => (match Nat.beq pc 24 with | true => some (.aload_n 0, 1, 0, [], false, []) | false => none) | false => (match Nat.beq pc 21 with | true => some (.goto (8), 3, 29, [], false, []) | false => none))) | false => (match Nat.ble 19 pc with | true => (match Nat.ble 20 pc with | true => (match Nat.beq pc 20 with | true => some (.iaload, 1, 0, [], false, []) | false => none) | false => (match Nat.beq pc 19 with | true => some (.iadd, 1, 0, [], false, []) | false => none)) | false => (match Nat.ble 18 pc with | true => (match Nat.beq pc 18 with | true => some (.iload_n 1, 1, 0, [], false, []) | false => none) | false => (match Nat.beq pc 16 with | true => some (.bipush (9), 2, 0, [], false, []) | false => none)))) | false => (match Nat.ble 6 pc with | true => (match Nat.ble 12 pc with | true => (match Nat.ble 13 pc with | true => (match Nat.beq pc 13 with | true => some (.getfield 13, 3, 450, [], false, []) | false => none) | false => (match Nat.beq pc 12 with | true => some (.aload_n 0, 1, 0, [], false, []) | false => none)) | false => (match Nat.ble 9 pc with | true => (match Nat.beq pc 9 with | true => some (.ifCond .eq (15), 3, 24, [], false, []) | false => none) | false => (match Nat.beq pc 6 with | true => some (.invokestatic 74, 3, 2637833, [], false, []) | false => none))) | false => (match Nat.ble 2 pc with | true => (match Nat.ble 5 pc with | true => (match Nat.beq pc 5 with | true => some (.iload_n 1, 1, 0, [], false, []) | false => none) | false => (match Nat.beq pc 2 with | true => some (.putfield 1, 3, 448, [], false, []) | false => none)) | false => (match Nat.ble 1 pc with | true => (match Nat.beq pc 1 with | true => some (.iconst 0, 1, 0, [], false, []) | false => none) | false => (match Nat.beq pc 0 with | true => some (.aload_n 0, 1, 0, [], false, []) | false => none))))
def call_Mo_stackHeight (kk : Nat) : Nat → List AV → GS → Res := fun id a G => match Nat.ble 161 id with | true => (match Nat.beq id 161 with | true => A_Mo_isBay kk a G | false => none) | false => (match Nat.beq id 154 with | true => A_Mo_fails kk a G | false => none)
def bk_Mo_stackHeight (kk k : Nat) : Kb := fun _ _ _ _ => none
theorem R_Mo_stackHeight (kk : Nat) (a0 : Int32) (G : GS) : ai_run T_Mo_stackHeight (call_Mo_stackHeight kk) (fun _ => []) 0 (bk_Mo_stackHeight kk kk) 600 0 [some (.inr (0, 50)), some (.inl (.int a0))] [] G 0 = D_Mo_stackHeight kk a0 G := by exact rfl
def T_Mo_pillowAt : Tb := fun pc => match Nat.ble 27 pc with | true => (match Nat.ble 39 pc with | true => (match Nat.ble 47 pc with | true => (match Nat.ble 49 pc with | true => (match Nat.ble 52 pc with | true => (match Nat.beq pc 52 with | true => some (.ireturn, 1, 0, [], false, []) | false => none) | false => (match Nat.beq pc 49 with | true => some (.invokevirtual 92, 3, 2523153, [], false, []) | false => none)) | false => (match Nat.ble 48 pc with | true => (match Nat.beq pc 48 with | true => some (.iconst 2, 1, 0, [], false, []) | false => none) | false => (match Nat.beq pc 47 with | true => some (.aload_n 0, 1, 0, [], false, []) | false => none))) | false => (match Nat.ble 41 pc with | true => (match Nat.ble 44 pc with | true => (match Nat.beq pc 44 with | true => some (.goto (8), 3, 52, [], false, []) | false => none) | false => (match Nat.beq pc 41 with | true => some (.invokevirtual 58, 3, 2654241, [], false, []) | false => none)) | false => (match Nat.ble 40 pc with | true => (match Nat.beq pc 40 with | true => some (.iconst 0, 1, 0, [], false, []) | false => none) | false => (match Nat.beq pc 39 with | true => some (.iload_n 2, 1, 0, [], false, []) | false => none)))) | false => (match Nat.ble 31 pc with | true => (match Nat.ble 37 pc with | true => (match Nat.ble 38 pc with | true => (match Nat.beq pc 38 with | true => some (.iload_n 1, 1, 0, [], false, []) | false => none) | false => (match Nat.beq pc 37 with | true => some (.aload_n 0, 1, 0, [], false, []) | false => none)) | false => (match Nat.ble 34 pc with | true => (match Nat.beq pc 34 with | true => some (.ifCond .eq (13), 3, 47, [], false, []) | false => none) | false => (match Nat.beq pc 31 with | true => some (.invokestatic 54, 3, 2539545, [], false, []) | false => none))) | false => (match Nat.ble 29 pc with | true => (match Nat.ble 30 pc with | true => (match Nat.beq pc 30 with | true => some (.isub, 1, 0, [], false, []) | false => none) | false => (match Nat.beq pc 29 with | true => some (.iconst 1, 1, 0, [], false, []) | false => none)) | false => (match Nat.ble 28 pc with | true => (match Nat.beq pc 28 with | true => some (.iaload, 1, 0, [], false, []) | false => none) | false => (match Nat.beq pc 27 with | true => some (.iadd, 1, 0, [], false, []) | false => none))))) | false => (match Nat.ble 14 pc with | true => (match Nat.ble 20 pc with | true => (match Nat.ble 24 pc with | true => (match Nat.ble 26 pc with | true => (match Nat.beq pc 26 with | true => some (.iload_n 1, 1, 0, [], false, []) | false => none) | false => (match Nat.beq pc 24 with | true => some (.bipush (9), 2, 0, [], false, []) | false => none)) | false => (match Nat.ble 21 pc with | true => (match Nat.beq pc 21 with | true => some (.getfield 13, 3, 450, [], false, []) | false => none) | false => (match Nat.beq pc 20 with | true => some (.aload_n 0, 1, 0, [], false, []) | false => none))) | false => (match Nat.ble 18 pc with | true => (match Nat.ble 19 pc with | true => (match Nat.beq pc 19 with | true => some (.iconst 0, 1, 0, [], false, []) | false => none) | false => (match Nat.beq pc 18 with | true => some (.iload_n 2, 1, 0, [], false, []) | false => none)) | false => (match Nat.ble 17 pc with | true => (match Nat.beq pc 17 with | true => some (.ireturn, 1, 0, [], false, []) | false => none) | false => (match Nat.beq pc 14 with | true => some (.invokevirtual 92, 3, 2523153, [], false, []) | false => none)))) | false => (match Nat.ble 6 pc with | true => (match Nat.ble 12 pc with | true => (match Nat.ble 13 pc with | true => (match Nat.beq pc 13 with | true => some (.iconst 1, 1, 0, [], false, []) | false => none) | false => (match Nat.beq pc 12 with | true => some (.aload_n 0, 1, 0, [], false, []) | false => none)) | false => (match Nat.ble 9 pc with | true => (match Nat.beq pc 9 with | true => some (.ifCond .ne (9), 3, 18, [], false, []) | false => none) | false => (match Nat.beq pc 6 with | true => some (.invokestatic 74, 3, 2637833, [], false, []) | false => none))) | false => (match Nat.ble 2 pc with | true => (match Nat.ble 5 pc with | true => (match Nat.beq pc 5 with | true => some (.iload_n 1, 1, 0, [], false, []) | false => none) | false => (match Nat.beq pc 2 with | true => some (.putfield 1, 3, 448, [], false, []) | false => none)) | false => (match Nat.ble 1 pc with | true => (match Nat.beq pc 1 with | true => some (.iconst 0, 1, 0, [], false, []) | false => none) | false => (match Nat.beq pc 0 with | true => some (.aload_n 0, 1, 0, [], false, []) | false => none)))))
def call_Mo_pillowAt (kk : Nat) : Nat → List AV → GS → Res := fun id a G => match Nat.ble 161 id with | true => (match Nat.ble 162 id with | true => (match Nat.beq id 162 with | true => A_Mo_at kk a G | false => none) | false => (match Nat.beq id 161 with | true => A_Mo_isBay kk a G | false => none)) | false => (match Nat.ble 155 id with | true => (match Nat.beq id 155 with | true => A_Mo_isBetween kk a G | false => none) | false => (match Nat.beq id 154 with | true => A_Mo_fails kk a G | false => none))
def bk_Mo_pillowAt (kk k : Nat) : Kb := fun _ _ _ _ => none
theorem R_Mo_pillowAt (kk : Nat) (a0 : Int32) (a1 : Int32) (G : GS) : ai_run T_Mo_pillowAt (call_Mo_pillowAt kk) (fun _ => []) 0 (bk_Mo_pillowAt kk kk) 600 0 [some (.inr (0, 50)), some (.inl (.int a0)), some (.inl (.int a1))] [] G 0 = D_Mo_pillowAt kk a0 a1 G := by exact rfl
def T_Mo_placeOf : Tb := fun pc => match Nat.ble 25 pc with | true => (match Nat.ble 37 pc with | true => (match Nat.ble 43 pc with | true => (match Nat.ble 49 pc with | true => (match Nat.ble 52 pc with | true => (match Nat.ble 53 pc with | true => (match Nat.beq pc 53 with | true => some (.ireturn, 1, 0, [], false, []) | false => none) | false => (match Nat.beq pc 52 with | true => some (.iconst (-1), 1, 0, [], false, []) | false => none)) | false => (match Nat.beq pc 49 with | true => some (.goto (-47), 3, 2, [], false, []) | false => none)) | false => (match Nat.ble 46 pc with | true => (match Nat.beq pc 46 with | true => some (.iinc 2 (1), 3, 0, [], false, []) | false => none) | false => (match Nat.beq pc 43 with | true => some (.goto (-33), 3, 10, [], false, []) | false => none))) | false => (match Nat.ble 39 pc with | true => (match Nat.ble 40 pc with | true => (match Nat.beq pc 40 with | true => some (.iinc 3 (1), 3, 0, [], false, []) | false => none) | false => (match Nat.beq pc 39 with | true => some (.ireturn, 1, 0, [], false, []) | false => none)) | false => (match Nat.ble 38 pc with | true => (match Nat.beq pc 38 with | true => some (.iadd, 1, 0, [], false, []) | false => none) | false => (match Nat.beq pc 37 with | true => some (.iload_n 3, 1, 0, [], false, []) | false => none)))) | false => (match Nat.ble 31 pc with | true => (match Nat.ble 35 pc with | true => (match Nat.ble 36 pc with | true => (match Nat.beq pc 36 with | true => some (.imul, 1, 0, [], false, []) | false => none) | false => (match Nat.beq pc 35 with | true => some (.iload_n 2, 1, 0, [], false, []) | false => none)) | false => (match Nat.ble 34 pc with | true => (match Nat.beq pc 34 with | true => some (.iconst 5, 1, 0, [], false, []) | false => none) | false => (match Nat.beq pc 31 with | true => some (.if_icmp .ne (9), 3, 40, [], false, []) | false => none))) | false => (match Nat.ble 27 pc with | true => (match Nat.ble 30 pc with | true => (match Nat.beq pc 30 with | true => some (.iload_n 1, 1, 0, [], false, []) | false => none) | false => (match Nat.beq pc 27 with | true => some (.invokevirtual 58, 3, 2654241, [], false, []) | false => none)) | false => (match Nat.ble 26 pc with | true => (match Nat.beq pc 26 with | true => some (.iconst 0, 1, 0, [], false, []) | false => none) | false => (match Nat.beq pc 25 with | true => some (.iload_n 3, 1, 0, [], false, []) | false => none))))) | false => (match Nat.ble 11 pc with | true => (match Nat.ble 18 pc with | true => (match Nat.ble 20 pc with | true => (match Nat.ble 23 pc with | true => (match Nat.ble 24 pc with | true => (match Nat.beq pc 24 with | true => some (.iload_n 2, 1, 0, [], false, []) | false => none) | false => (match Nat.beq pc 23 with | true => some (.aload_n 0, 1, 0, [], false, []) | false => none)) | false => (match Nat.beq pc 20 with | true => some (.if_icmp .ge (26), 3, 46, [], false, []) | false => none)) | false => (match Nat.ble 19 pc with | true => (match Nat.beq pc 19 with | true => some (.iaload, 1, 0, [], false, []) | false => none) | false => (match Nat.beq pc 18 with | true => some (.iadd, 1, 0, [], false, []) | false => none))) | false => (match Nat.ble 15 pc with | true => (match Nat.ble 17 pc with | true => (match Nat.beq pc 17 with | true => some (.iload_n 2, 1, 0, [], false, []) | false => none) | false => (match Nat.beq pc 15 with | true => some (.bipush (9), 2, 0, [], false, []) | false => none)) | false => (match Nat.ble 12 pc with | true => (match Nat.beq pc 12 with | true => some (.getfield 13, 3, 450, [], false, []) | false => none) | false => (match Nat.beq pc 11 with | true => some (.aload_n 0, 1, 0, [], false, []) | false => none)))) | false => (match Nat.ble 5 pc with | true => (match Nat.ble 9 pc with | true => (match Nat.ble 10 pc with | true => (match Nat.beq pc 10 with | true => some (.iload_n 3, 1, 0, [], true, []) | false => none) | false => (match Nat.beq pc 9 with | true => some (.istore_n 3, 1, 0, [], false, []) | false => none)) | false => (match Nat.ble 8 pc with | true => (match Nat.beq pc 8 with | true => some (.iconst 0, 1, 0, [], false, []) | false => none) | false => (match Nat.beq pc 5 with | true => some (.if_icmp .ge (47), 3, 52, [], false, []) | false => none))) | false => (match Nat.ble 2 pc with | true => (match Nat.ble 3 pc with | true => (match Nat.beq pc 3 with | true => some (.bipush (7), 2, 0, [], false, []) | false => none) | false => (match Nat.beq pc 2 with | true => some (.iload_n 2, 1, 0, [3], true, []) | false => none)) | false => (match Nat.ble 1 pc with | true => (match Nat.beq pc 1 with | true => some (.istore_n 2, 1, 0, [], false, []) | false => none) | false => (match Nat.beq pc 0 with | true => some (.iconst 0, 1, 0, [], false, []) | false => none)))))
def call_Mo_placeOf (kk : Nat) : Nat → List AV → GS → Res := fun id a G => match Nat.beq id 162 with | true => A_Mo_at kk a G | false => none
def bk_Mo_placeOf (kk k : Nat) : Kb := fun pc ls st G => match Nat.beq pc 2 with | true => (match ls, st with | [some (.inr (0, 50)), some (.inl (.int x1)), some (.inl (.int x2)), none], [] => (L_Mo_placeOf kk k).1 x1 x2 G | _, _ => none) | false => match Nat.beq pc 10 with | true => (match ls, st with | [some (.inr (0, 50)), some (.inl (.int x1)), some (.inl (.int x2)), some (.inl (.int x3))], [] => (L_Mo_placeOf kk k).2 x1 x2 x3 G | _, _ => none) | false => none
theorem R_Mo_placeOf (kk : Nat) (a0 : Int32) (G : GS) : ai_run T_Mo_placeOf (call_Mo_placeOf kk) (fun _ => []) 0 (bk_Mo_placeOf kk kk) 600 0 [some (.inr (0, 50)), some (.inl (.int a0)), none, none] [] G 0 = D_Mo_placeOf kk a0 G := by exact rfl
theorem R_Mo_placeOf_2 (kk k : Nat) (x1 : Int32) (x2 : Int32) (G : GS) : ai_step T_Mo_placeOf (call_Mo_placeOf kk) (fun _ => []) 0 (ai_run T_Mo_placeOf (call_Mo_placeOf kk) (fun _ => []) 0 (bk_Mo_placeOf kk k) 600) 2 (.iload_n 2, 1, 0, [3], true, []) [some (.inr (0, 50)), some (.inl (.int x1)), some (.inl (.int x2)), none] [] G 0 = (L_Mo_placeOf kk (k + 1)).1 x1 x2 G := by exact rfl
theorem R_Mo_placeOf_10 (kk k : Nat) (x1 : Int32) (x2 : Int32) (x3 : Int32) (G : GS) : ai_step T_Mo_placeOf (call_Mo_placeOf kk) (fun _ => []) 0 (ai_run T_Mo_placeOf (call_Mo_placeOf kk) (fun _ => []) 0 (bk_Mo_placeOf kk k) 600) 10 (.iload_n 3, 1, 0, [], true, []) [some (.inr (0, 50)), some (.inl (.int x1)), some (.inl (.int x2)), some (.inl (.int x3))] [] G 0 = (L_Mo_placeOf kk (k + 1)).2 x1 x2 x3 G := by exact rfl
def T_Mo_asks : Tb := fun pc => match Nat.ble 17 pc with | true => (match Nat.ble 27 pc with | true => (match Nat.ble 30 pc with | true => (match Nat.ble 31 pc with | true => (match Nat.ble 34 pc with | true => (match Nat.beq pc 34 with | true => some (.ireturn, 1, 0, [], false, []) | false => none) | false => (match Nat.beq pc 31 with | true => some (.invokevirtual 58, 3, 2654241, [], false, []) | false => none)) | false => (match Nat.beq pc 30 with | true => some (.iload_n 2, 1, 0, [], false, []) | false => none)) | false => (match Nat.ble 28 pc with | true => (match Nat.ble 29 pc with | true => (match Nat.beq pc 29 with | true => some (.irem, 1, 0, [], false, []) | false => none) | false => (match Nat.beq pc 28 with | true => some (.iconst 5, 1, 0, [], false, []) | false => none)) | false => (match Nat.beq pc 27 with | true => some (.iload_n 3, 1, 0, [], false, []) | false => none))) | false => (match Nat.ble 24 pc with | true => (match Nat.ble 25 pc with | true => (match Nat.ble 26 pc with | true => (match Nat.beq pc 26 with | true => some (.idiv, 1, 0, [], false, []) | false => none) | false => (match Nat.beq pc 25 with | true => some (.iconst 5, 1, 0, [], false, []) | false => none)) | false => (match Nat.beq pc 24 with | true => some (.iload_n 3, 1, 0, [], false, []) | false => none)) | false => (match Nat.ble 20 pc with | true => (match Nat.ble 23 pc with | true => (match Nat.beq pc 23 with | true => some (.aload_n 0, 1, 0, [], false, []) | false => none) | false => (match Nat.beq pc 20 with | true => some (.goto (14), 3, 34, [], false, []) | false => none)) | false => (match Nat.beq pc 17 with | true => some (.invokevirtual 92, 3, 2523153, [], false, []) | false => none)))) | false => (match Nat.ble 7 pc with | true => (match Nat.ble 12 pc with | true => (match Nat.ble 15 pc with | true => (match Nat.ble 16 pc with | true => (match Nat.beq pc 16 with | true => some (.iconst 1, 1, 0, [], false, []) | false => none) | false => (match Nat.beq pc 15 with | true => some (.aload_n 0, 1, 0, [], false, []) | false => none)) | false => (match Nat.beq pc 12 with | true => some (.ifCond .ge (11), 3, 23, [], false, []) | false => none)) | false => (match Nat.ble 10 pc with | true => (match Nat.ble 11 pc with | true => (match Nat.beq pc 11 with | true => some (.iload_n 3, 1, 0, [], false, []) | false => none) | false => (match Nat.beq pc 10 with | true => some (.istore_n 3, 1, 0, [], false, []) | false => none)) | false => (match Nat.beq pc 7 with | true => some (.invokevirtual 147, 3, 3227665, [], false, []) | false => none))) | false => (match Nat.ble 2 pc with | true => (match Nat.ble 5 pc with | true => (match Nat.ble 6 pc with | true => (match Nat.beq pc 6 with | true => some (.iload_n 1, 1, 0, [], false, []) | false => none) | false => (match Nat.beq pc 5 with | true => some (.aload_n 0, 1, 0, [], false, []) | false => none)) | false => (match Nat.beq pc 2 with | true => some (.putfield 1, 3, 448, [], false, []) | false => none)) | false => (match Nat.ble 1 pc with | true => (match Nat.beq pc 1 with | true => some (.iconst 0, 1, 0, [], false, []) | false => none) | false => (match Nat.beq pc 0 with | true => some (.aload_n 0, 1, 0, [], false, []) | false => none))))
def call_Mo_asks (kk : Nat) : Nat → List AV → GS → Res := fun id a G => match Nat.ble 162 id with | true => (match Nat.ble 197 id with | true => (match Nat.beq id 197 with | true => A_Mo_placeOf kk a G | false => none) | false => (match Nat.beq id 162 with | true => A_Mo_at kk a G | false => none)) | false => (match Nat.beq id 154 with | true => A_Mo_fails kk a G | false => none)
def bk_Mo_asks (kk k : Nat) : Kb := fun _ _ _ _ => none
theorem R_Mo_asks (kk : Nat) (a0 : Int32) (a1 : Int32) (G : GS) : ai_run T_Mo_asks (call_Mo_asks kk) (fun _ => []) 0 (bk_Mo_asks kk kk) 600 0 [some (.inr (0, 50)), some (.inl (.int a0)), some (.inl (.int a1)), none] [] G 0 = D_Mo_asks kk a0 a1 G := by exact rfl
def T_Mo_weightOf : Tb := fun pc => match Nat.ble 2 pc with | true => (match Nat.ble 3 pc with | true => (match Nat.ble 6 pc with | true => (match Nat.beq pc 6 with | true => some (.ireturn, 1, 0, [], false, []) | false => none) | false => (match Nat.beq pc 3 with | true => some (.invokevirtual 150, 3, 3244057, [], false, []) | false => none)) | false => (match Nat.beq pc 2 with | true => some (.iconst 1, 1, 0, [], false, []) | false => none)) | false => (match Nat.ble 1 pc with | true => (match Nat.beq pc 1 with | true => some (.iload_n 1, 1, 0, [], false, []) | false => none) | false => (match Nat.beq pc 0 with | true => some (.aload_n 0, 1, 0, [], false, []) | false => none))
def call_Mo_weightOf (kk : Nat) : Nat → List AV → GS → Res := fun id a G => match Nat.beq id 198 with | true => A_Mo_asks kk a G | false => none
def bk_Mo_weightOf (kk k : Nat) : Kb := fun _ _ _ _ => none
theorem R_Mo_weightOf (kk : Nat) (a0 : Int32) (G : GS) : ai_run T_Mo_weightOf (call_Mo_weightOf kk) (fun _ => []) 0 (bk_Mo_weightOf kk kk) 600 0 [some (.inr (0, 50)), some (.inl (.int a0))] [] G 0 = D_Mo_weightOf kk a0 G := by exact rfl
def T_Mo_destinationOf : Tb := fun pc => match Nat.ble 2 pc with | true => (match Nat.ble 3 pc with | true => (match Nat.ble 6 pc with | true => (match Nat.beq pc 6 with | true => some (.ireturn, 1, 0, [], false, []) | false => none) | false => (match Nat.beq pc 3 with | true => some (.invokevirtual 150, 3, 3244057, [], false, []) | false => none)) | false => (match Nat.beq pc 2 with | true => some (.iconst 2, 1, 0, [], false, []) | false => none)) | false => (match Nat.ble 1 pc with | true => (match Nat.beq pc 1 with | true => some (.iload_n 1, 1, 0, [], false, []) | false => none) | false => (match Nat.beq pc 0 with | true => some (.aload_n 0, 1, 0, [], false, []) | false => none))
def call_Mo_destinationOf (kk : Nat) : Nat → List AV → GS → Res := fun id a G => match Nat.beq id 198 with | true => A_Mo_asks kk a G | false => none
def bk_Mo_destinationOf (kk k : Nat) : Kb := fun _ _ _ _ => none
theorem R_Mo_destinationOf (kk : Nat) (a0 : Int32) (G : GS) : ai_run T_Mo_destinationOf (call_Mo_destinationOf kk) (fun _ => []) 0 (bk_Mo_destinationOf kk kk) 600 0 [some (.inr (0, 50)), some (.inl (.int a0))] [] G 0 = D_Mo_destinationOf kk a0 G := by exact rfl
def T_Mo_bayOf : Tb := fun pc => match Nat.ble 12 pc with | true => (match Nat.ble 20 pc with | true => (match Nat.ble 24 pc with | true => (match Nat.ble 25 pc with | true => (match Nat.ble 26 pc with | true => (match Nat.beq pc 26 with | true => some (.ireturn, 1, 0, [], false, []) | false => none) | false => (match Nat.beq pc 25 with | true => some (.idiv, 1, 0, [], false, []) | false => none)) | false => (match Nat.beq pc 24 with | true => some (.iconst 5, 1, 0, [], false, []) | false => none)) | false => (match Nat.ble 23 pc with | true => (match Nat.beq pc 23 with | true => some (.iload_n 2, 1, 0, [], false, []) | false => none) | false => (match Nat.beq pc 20 with | true => some (.goto (6), 3, 26, [], false, []) | false => none))) | false => (match Nat.ble 16 pc with | true => (match Nat.ble 17 pc with | true => (match Nat.beq pc 17 with | true => some (.invokevirtual 92, 3, 2523153, [], false, []) | false => none) | false => (match Nat.beq pc 16 with | true => some (.iconst 1, 1, 0, [], false, []) | false => none)) | false => (match Nat.ble 15 pc with | true => (match Nat.beq pc 15 with | true => some (.aload_n 0, 1, 0, [], false, []) | false => none) | false => (match Nat.beq pc 12 with | true => some (.ifCond .ge (11), 3, 23, [], false, []) | false => none)))) | false => (match Nat.ble 6 pc with | true => (match Nat.ble 10 pc with | true => (match Nat.ble 11 pc with | true => (match Nat.beq pc 11 with | true => some (.iload_n 2, 1, 0, [], false, []) | false => none) | false => (match Nat.beq pc 10 with | true => some (.istore_n 2, 1, 0, [], false, []) | false => none)) | false => (match Nat.ble 7 pc with | true => (match Nat.beq pc 7 with | true => some (.invokevirtual 147, 3, 3227665, [], false, []) | false => none) | false => (match Nat.beq pc 6 with | true => some (.iload_n 1, 1, 0, [], false, []) | false => none))) | false => (match Nat.ble 2 pc with | true => (match Nat.ble 5 pc with | true => (match Nat.beq pc 5 with | true => some (.aload_n 0, 1, 0, [], false, []) | false => none) | false => (match Nat.beq pc 2 with | true => some (.putfield 1, 3, 448, [], false, []) | false => none)) | false => (match Nat.ble 1 pc with | true => (match Nat.beq pc 1 with | true => some (.iconst 0, 1, 0, [], false, []) | false => none) | false => (match Nat.beq pc 0 with | true => some (.aload_n 0, 1, 0, [], false, []) | false => none))))
def call_Mo_bayOf (kk : Nat) : Nat → List AV → GS → Res := fun id a G => match Nat.ble 197 id with | true => (match Nat.beq id 197 with | true => A_Mo_placeOf kk a G | false => none) | false => (match Nat.beq id 154 with | true => A_Mo_fails kk a G | false => none)
def bk_Mo_bayOf (kk k : Nat) : Kb := fun _ _ _ _ => none
theorem R_Mo_bayOf (kk : Nat) (a0 : Int32) (G : GS) : ai_run T_Mo_bayOf (call_Mo_bayOf kk) (fun _ => []) 0 (bk_Mo_bayOf kk kk) 600 0 [some (.inr (0, 50)), some (.inl (.int a0)), none] [] G 0 = D_Mo_bayOf kk a0 G := by exact rfl
def T_Mo_positionOf : Tb := fun pc => match Nat.ble 12 pc with | true => (match Nat.ble 20 pc with | true => (match Nat.ble 24 pc with | true => (match Nat.ble 25 pc with | true => (match Nat.ble 26 pc with | true => (match Nat.beq pc 26 with | true => some (.ireturn, 1, 0, [], false, []) | false => none) | false => (match Nat.beq pc 25 with | true => some (.irem, 1, 0, [], false, []) | false => none)) | false => (match Nat.beq pc 24 with | true => some (.iconst 5, 1, 0, [], false, []) | false => none)) | false => (match Nat.ble 23 pc with | true => (match Nat.beq pc 23 with | true => some (.iload_n 2, 1, 0, [], false, []) | false => none) | false => (match Nat.beq pc 20 with | true => some (.goto (6), 3, 26, [], false, []) | false => none))) | false => (match Nat.ble 16 pc with | true => (match Nat.ble 17 pc with | true => (match Nat.beq pc 17 with | true => some (.invokevirtual 92, 3, 2523153, [], false, []) | false => none) | false => (match Nat.beq pc 16 with | true => some (.iconst 1, 1, 0, [], false, []) | false => none)) | false => (match Nat.ble 15 pc with | true => (match Nat.beq pc 15 with | true => some (.aload_n 0, 1, 0, [], false, []) | false => none) | false => (match Nat.beq pc 12 with | true => some (.ifCond .ge (11), 3, 23, [], false, []) | false => none)))) | false => (match Nat.ble 6 pc with | true => (match Nat.ble 10 pc with | true => (match Nat.ble 11 pc with | true => (match Nat.beq pc 11 with | true => some (.iload_n 2, 1, 0, [], false, []) | false => none) | false => (match Nat.beq pc 10 with | true => some (.istore_n 2, 1, 0, [], false, []) | false => none)) | false => (match Nat.ble 7 pc with | true => (match Nat.beq pc 7 with | true => some (.invokevirtual 147, 3, 3227665, [], false, []) | false => none) | false => (match Nat.beq pc 6 with | true => some (.iload_n 1, 1, 0, [], false, []) | false => none))) | false => (match Nat.ble 2 pc with | true => (match Nat.ble 5 pc with | true => (match Nat.beq pc 5 with | true => some (.aload_n 0, 1, 0, [], false, []) | false => none) | false => (match Nat.beq pc 2 with | true => some (.putfield 1, 3, 448, [], false, []) | false => none)) | false => (match Nat.ble 1 pc with | true => (match Nat.beq pc 1 with | true => some (.iconst 0, 1, 0, [], false, []) | false => none) | false => (match Nat.beq pc 0 with | true => some (.aload_n 0, 1, 0, [], false, []) | false => none))))
def call_Mo_positionOf (kk : Nat) : Nat → List AV → GS → Res := fun id a G => match Nat.ble 197 id with | true => (match Nat.beq id 197 with | true => A_Mo_placeOf kk a G | false => none) | false => (match Nat.beq id 154 with | true => A_Mo_fails kk a G | false => none)
def bk_Mo_positionOf (kk k : Nat) : Kb := fun _ _ _ _ => none
theorem R_Mo_positionOf (kk : Nat) (a0 : Int32) (G : GS) : ai_run T_Mo_positionOf (call_Mo_positionOf kk) (fun _ => []) 0 (bk_Mo_positionOf kk kk) 600 0 [some (.inr (0, 50)), some (.inl (.int a0)), none] [] G 0 = D_Mo_positionOf kk a0 G := by exact rfl
def T_Mo_ageOf : Tb := fun pc => match Nat.ble 14 pc with | true => (match Nat.ble 22 pc with | true => (match Nat.ble 24 pc with | true => (match Nat.ble 25 pc with | true => (match Nat.ble 26 pc with | true => (match Nat.beq pc 26 with | true => some (.ireturn, 1, 0, [], false, []) | false => none) | false => (match Nat.beq pc 25 with | true => some (.isub, 1, 0, [], false, []) | false => none)) | false => (match Nat.beq pc 24 with | true => some (.iload_n 2, 1, 0, [], false, []) | false => none)) | false => (match Nat.ble 23 pc with | true => (match Nat.beq pc 23 with | true => some (.iaload, 1, 0, [], false, []) | false => none) | false => (match Nat.beq pc 22 with | true => some (.iconst 0, 1, 0, [], false, []) | false => none))) | false => (match Nat.ble 18 pc with | true => (match Nat.ble 19 pc with | true => (match Nat.beq pc 19 with | true => some (.getfield 13, 3, 450, [], false, []) | false => none) | false => (match Nat.beq pc 18 with | true => some (.aload_n 0, 1, 0, [], false, []) | false => none)) | false => (match Nat.ble 15 pc with | true => (match Nat.beq pc 15 with | true => some (.goto (11), 3, 26, [], false, []) | false => none) | false => (match Nat.beq pc 14 with | true => some (.iconst 0, 1, 0, [], false, []) | false => none)))) | false => (match Nat.ble 6 pc with | true => (match Nat.ble 8 pc with | true => (match Nat.ble 11 pc with | true => (match Nat.beq pc 11 with | true => some (.ifCond .eq (7), 3, 18, [], false, []) | false => none) | false => (match Nat.beq pc 8 with | true => some (.getfield 1, 3, 448, [], false, []) | false => none)) | false => (match Nat.ble 7 pc with | true => (match Nat.beq pc 7 with | true => some (.aload_n 0, 1, 0, [], false, []) | false => none) | false => (match Nat.beq pc 6 with | true => some (.istore_n 2, 1, 0, [], false, []) | false => none))) | false => (match Nat.ble 2 pc with | true => (match Nat.ble 3 pc with | true => (match Nat.beq pc 3 with | true => some (.invokevirtual 150, 3, 3244057, [], false, []) | false => none) | false => (match Nat.beq pc 2 with | true => some (.iconst 3, 1, 0, [], false, []) | false => none)) | false => (match Nat.ble 1 pc with | true => (match Nat.beq pc 1 with | true => some (.iload_n 1, 1, 0, [], false, []) | false => none) | false => (match Nat.beq pc 0 with | true => some (.aload_n 0, 1, 0, [], false, []) | false => none))))
def call_Mo_ageOf (kk : Nat) : Nat → List AV → GS → Res := fun id a G => match Nat.beq id 198 with | true => A_Mo_asks kk a G | false => none
def bk_Mo_ageOf (kk k : Nat) : Kb := fun _ _ _ _ => none
theorem R_Mo_ageOf (kk : Nat) (a0 : Int32) (G : GS) : ai_run T_Mo_ageOf (call_Mo_ageOf kk) (fun _ => []) 0 (bk_Mo_ageOf kk kk) 600 0 [some (.inr (0, 50)), some (.inl (.int a0)), none] [] G 0 = D_Mo_ageOf kk a0 G := by exact rfl
def T_Mo_moment : Tb := fun pc => match Nat.ble 5 pc with | true => (match Nat.ble 6 pc with | true => (match Nat.ble 9 pc with | true => (match Nat.beq pc 9 with | true => some (.ireturn, 1, 0, [], false, []) | false => none) | false => (match Nat.beq pc 6 with | true => some (.invokevirtual 66, 3, 2719753, [], false, []) | false => none)) | false => (match Nat.beq pc 5 with | true => some (.aload_n 0, 1, 0, [], false, []) | false => none)) | false => (match Nat.ble 1 pc with | true => (match Nat.ble 2 pc with | true => (match Nat.beq pc 2 with | true => some (.putfield 1, 3, 448, [], false, []) | false => none) | false => (match Nat.beq pc 1 with | true => some (.iconst 0, 1, 0, [], false, []) | false => none)) | false => (match Nat.beq pc 0 with | true => some (.aload_n 0, 1, 0, [], false, []) | false => none))
def call_Mo_moment (kk : Nat) : Nat → List AV → GS → Res := fun id a G => match Nat.beq id 166 with | true => A_Mo_momentNow kk a G | false => none
def bk_Mo_moment (kk k : Nat) : Kb := fun _ _ _ _ => none
theorem R_Mo_moment (kk : Nat) (G : GS) : ai_run T_Mo_moment (call_Mo_moment kk) (fun _ => []) 0 (bk_Mo_moment kk kk) 600 0 [some (.inr (0, 50))] [] G 0 = D_Mo_moment kk G := by exact rfl
def T_Mo_momentByBays : Tb := fun pc => match Nat.ble 1 pc with | true => (match Nat.ble 4 pc with | true => (match Nat.beq pc 4 with | true => some (.ireturn, 1, 0, [], false, []) | false => none) | false => (match Nat.beq pc 1 with | true => some (.invokevirtual 153, 3, 3342345, [], false, []) | false => none)) | false => (match Nat.beq pc 0 with | true => some (.aload_n 0, 1, 0, [], false, []) | false => none)
def call_Mo_momentByBays (kk : Nat) : Nat → List AV → GS → Res := fun id a G => match Nat.beq id 204 with | true => A_Mo_moment kk a G | false => none
def bk_Mo_momentByBays (kk k : Nat) : Kb := fun _ _ _ _ => none
theorem R_Mo_momentByBays (kk : Nat) (G : GS) : ai_run T_Mo_momentByBays (call_Mo_momentByBays kk) (fun _ => []) 0 (bk_Mo_momentByBays kk kk) 600 0 [some (.inr (0, 50))] [] G 0 = D_Mo_momentByBays kk G := by exact rfl
def T_Mo_totalWeight : Tb := fun pc => match Nat.ble 5 pc with | true => (match Nat.ble 6 pc with | true => (match Nat.ble 9 pc with | true => (match Nat.beq pc 9 with | true => some (.ireturn, 1, 0, [], false, []) | false => none) | false => (match Nat.beq pc 6 with | true => some (.invokevirtual 156, 3, 2736137, [], false, []) | false => none)) | false => (match Nat.beq pc 5 with | true => some (.aload_n 0, 1, 0, [], false, []) | false => none)) | false => (match Nat.ble 1 pc with | true => (match Nat.ble 2 pc with | true => (match Nat.beq pc 2 with | true => some (.putfield 1, 3, 448, [], false, []) | false => none) | false => (match Nat.beq pc 1 with | true => some (.iconst 0, 1, 0, [], false, []) | false => none)) | false => (match Nat.beq pc 0 with | true => some (.aload_n 0, 1, 0, [], false, []) | false => none))
def call_Mo_totalWeight (kk : Nat) : Nat → List AV → GS → Res := fun id a G => match Nat.beq id 167 with | true => A_Mo_weightAll kk a G | false => none
def bk_Mo_totalWeight (kk k : Nat) : Kb := fun _ _ _ _ => none
theorem R_Mo_totalWeight (kk : Nat) (G : GS) : ai_run T_Mo_totalWeight (call_Mo_totalWeight kk) (fun _ => []) 0 (bk_Mo_totalWeight kk kk) 600 0 [some (.inr (0, 50))] [] G 0 = D_Mo_totalWeight kk G := by exact rfl
def T_Mo_weightFor : Tb := fun pc => match Nat.ble 42 pc with | true => (match Nat.ble 62 pc with | true => (match Nat.ble 73 pc with | true => (match Nat.ble 80 pc with | true => (match Nat.ble 86 pc with | true => (match Nat.ble 87 pc with | true => (match Nat.beq pc 87 with | true => some (.ireturn, 1, 0, [], false, []) | false => none) | false => (match Nat.beq pc 86 with | true => some (.iload_n 2, 1, 0, [], false, []) | false => none)) | false => (match Nat.ble 83 pc with | true => (match Nat.beq pc 83 with | true => some (.goto (-59), 3, 24, [], false, []) | false => none) | false => (match Nat.beq pc 80 with | true => some (.iinc 3 (1), 3, 0, [], false, []) | false => none))) | false => (match Nat.ble 74 pc with | true => (match Nat.ble 77 pc with | true => (match Nat.beq pc 77 with | true => some (.goto (-44), 3, 33, [], false, []) | false => none) | false => (match Nat.beq pc 74 with | true => some (.iinc 4 (1), 3, 0, [], false, []) | false => none)) | false => (match Nat.beq pc 73 with | true => some (.istore_n 2, 1, 0, [], false, []) | false => none))) | false => (match Nat.ble 68 pc with | true => (match Nat.ble 71 pc with | true => (match Nat.ble 72 pc with | true => (match Nat.beq pc 72 with | true => some (.iadd, 1, 0, [], false, []) | false => none) | false => (match Nat.beq pc 71 with | true => some (.iconst 0, 1, 0, [], false, []) | false => none)) | false => (match Nat.beq pc 68 with | true => some (.goto (4), 3, 72, [], false, []) | false => none)) | false => (match Nat.ble 64 pc with | true => (match Nat.ble 65 pc with | true => (match Nat.beq pc 65 with | true => some (.invokevirtual 58, 3, 2654241, [], false, []) | false => none) | false => (match Nat.beq pc 64 with | true => some (.iconst 1, 1, 0, [], false, []) | false => none)) | false => (match Nat.beq pc 62 with | true => some (.iload 4, 2, 0, [], false, []) | false => none)))) | false => (match Nat.ble 50 pc with | true => (match Nat.ble 56 pc with | true => (match Nat.ble 60 pc with | true => (match Nat.ble 61 pc with | true => (match Nat.beq pc 61 with | true => some (.iload_n 3, 1, 0, [], false, []) | false => none) | false => (match Nat.beq pc 60 with | true => some (.aload_n 0, 1, 0, [], false, []) | false => none)) | false => (match Nat.ble 57 pc with | true => (match Nat.beq pc 57 with | true => some (.if_icmp .ne (14), 3, 71, [], false, []) | false => none) | false => (match Nat.beq pc 56 with | true => some (.iload_n 1, 1, 0, [], false, []) | false => none))) | false => (match Nat.ble 52 pc with | true => (match Nat.ble 53 pc with | true => (match Nat.beq pc 53 with | true => some (.invokevirtual 58, 3, 2654241, [], false, []) | false => none) | false => (match Nat.beq pc 52 with | true => some (.iconst 2, 1, 0, [], false, []) | false => none)) | false => (match Nat.beq pc 50 with | true => some (.iload 4, 2, 0, [], false, []) | false => none))) | false => (match Nat.ble 47 pc with | true => (match Nat.ble 48 pc with | true => (match Nat.ble 49 pc with | true => (match Nat.beq pc 49 with | true => some (.iload_n 3, 1, 0, [], false, []) | false => none) | false => (match Nat.beq pc 48 with | true => some (.aload_n 0, 1, 0, [], false, []) | false => none)) | false => (match Nat.beq pc 47 with | true => some (.iload_n 2, 1, 0, [], false, []) | false => none)) | false => (match Nat.ble 43 pc with | true => (match Nat.ble 44 pc with | true => (match Nat.beq pc 44 with | true => some (.if_icmp .ge (36), 3, 80, [], false, []) | false => none) | false => (match Nat.beq pc 43 with | true => some (.iaload, 1, 0, [], false, []) | false => none)) | false => (match Nat.beq pc 42 with | true => some (.iadd, 1, 0, [], false, []) | false => none))))) | false => (match Nat.ble 21 pc with | true => (match Nat.ble 30 pc with | true => (match Nat.ble 35 pc with | true => (match Nat.ble 39 pc with | true => (match Nat.ble 41 pc with | true => (match Nat.beq pc 41 with | true => some (.iload_n 3, 1, 0, [], false, []) | false => none) | false => (match Nat.beq pc 39 with | true => some (.bipush (9), 2, 0, [], false, []) | false => none)) | false => (match Nat.ble 36 pc with | true => (match Nat.beq pc 36 with | true => some (.getfield 13, 3, 450, [], false, []) | false => none) | false => (match Nat.beq pc 35 with | true => some (.aload_n 0, 1, 0, [], false, []) | false => none))) | false => (match Nat.ble 31 pc with | true => (match Nat.ble 33 pc with | true => (match Nat.beq pc 33 with | true => some (.iload 4, 2, 0, [], true, []) | false => none) | false => (match Nat.beq pc 31 with | true => some (.istore 4, 2, 0, [], false, []) | false => none)) | false => (match Nat.beq pc 30 with | true => some (.iconst 0, 1, 0, [], false, []) | false => none))) | false => (match Nat.ble 24 pc with | true => (match Nat.ble 25 pc with | true => (match Nat.ble 27 pc with | true => (match Nat.beq pc 27 with | true => some (.if_icmp .ge (59), 3, 86, [], false, []) | false => none) | false => (match Nat.beq pc 25 with | true => some (.bipush (7), 2, 0, [], false, []) | false => none)) | false => (match Nat.beq pc 24 with | true => some (.iload_n 3, 1, 0, [4], true, []) | false => none)) | false => (match Nat.ble 22 pc with | true => (match Nat.ble 23 pc with | true => (match Nat.beq pc 23 with | true => some (.istore_n 3, 1, 0, [], false, []) | false => none) | false => (match Nat.beq pc 22 with | true => some (.iconst 0, 1, 0, [], false, []) | false => none)) | false => (match Nat.beq pc 21 with | true => some (.istore_n 2, 1, 0, [], false, []) | false => none)))) | false => (match Nat.ble 8 pc with | true => (match Nat.ble 15 pc with | true => (match Nat.ble 19 pc with | true => (match Nat.ble 20 pc with | true => (match Nat.beq pc 20 with | true => some (.iconst 0, 1, 0, [], false, []) | false => none) | false => (match Nat.beq pc 19 with | true => some (.ireturn, 1, 0, [], false, []) | false => none)) | false => (match Nat.ble 16 pc with | true => (match Nat.beq pc 16 with | true => some (.invokevirtual 92, 3, 2523153, [], false, []) | false => none) | false => (match Nat.beq pc 15 with | true => some (.iconst 1, 1, 0, [], false, []) | false => none))) | false => (match Nat.ble 11 pc with | true => (match Nat.ble 14 pc with | true => (match Nat.beq pc 14 with | true => some (.aload_n 0, 1, 0, [], false, []) | false => none) | false => (match Nat.beq pc 11 with | true => some (.ifCond .ne (9), 3, 20, [], false, []) | false => none)) | false => (match Nat.beq pc 8 with | true => some (.invokestatic 54, 3, 2539545, [], false, []) | false => none))) | false => (match Nat.ble 5 pc with | true => (match Nat.ble 6 pc with | true => (match Nat.ble 7 pc with | true => (match Nat.beq pc 7 with | true => some (.iconst 4, 1, 0, [], false, []) | false => none) | false => (match Nat.beq pc 6 with | true => some (.iconst 0, 1, 0, [], false, []) | false => none)) | false => (match Nat.beq pc 5 with | true => some (.iload_n 1, 1, 0, [], false, []) | false => none)) | false => (match Nat.ble 1 pc with | true => (match Nat.ble 2 pc with | true => (match Nat.beq pc 2 with | true => some (.putfield 1, 3, 448, [], false, []) | false => none) | false => (match Nat.beq pc 1 with | true => some (.iconst 0, 1, 0, [], false, []) | false => none)) | false => (match Nat.beq pc 0 with | true => some (.aload_n 0, 1, 0, [], false, []) | false => none)))))
def call_Mo_weightFor (kk : Nat) : Nat → List AV → GS → Res := fun id a G => match Nat.ble 155 id with | true => (match Nat.ble 162 id with | true => (match Nat.beq id 162 with | true => A_Mo_at kk a G | false => none) | false => (match Nat.beq id 155 with | true => A_Mo_isBetween kk a G | false => none)) | false => (match Nat.beq id 154 with | true => A_Mo_fails kk a G | false => none)
def bk_Mo_weightFor (kk k : Nat) : Kb := fun pc ls st G => match Nat.beq pc 24 with | true => (match ls, st with | [some (.inr (0, 50)), some (.inl (.int x1)), some (.inl (.int x2)), some (.inl (.int x3)), none], [] => (L_Mo_weightFor kk k).1 x1 x2 x3 G | _, _ => none) | false => match Nat.beq pc 33 with | true => (match ls, st with | [some (.inr (0, 50)), some (.inl (.int x1)), some (.inl (.int x2)), some (.inl (.int x3)), some (.inl (.int x4))], [] => (L_Mo_weightFor kk k).2 x1 x2 x3 x4 G | _, _ => none) | false => none
theorem R_Mo_weightFor (kk : Nat) (a0 : Int32) (G : GS) : ai_run T_Mo_weightFor (call_Mo_weightFor kk) (fun _ => []) 0 (bk_Mo_weightFor kk kk) 600 0 [some (.inr (0, 50)), some (.inl (.int a0)), none, none, none] [] G 0 = D_Mo_weightFor kk a0 G := by exact rfl
theorem R_Mo_weightFor_24 (kk k : Nat) (x1 : Int32) (x2 : Int32) (x3 : Int32) (G : GS) : ai_step T_Mo_weightFor (call_Mo_weightFor kk) (fun _ => []) 0 (ai_run T_Mo_weightFor (call_Mo_weightFor kk) (fun _ => []) 0 (bk_Mo_weightFor kk k) 600) 24 (.iload_n 3, 1, 0, [4], true, []) [some (.inr (0, 50)), some (.inl (.int x1)), some (.inl (.int x2)), some (.inl (.int x3)), none] [] G 0 = (L_Mo_weightFor kk (k + 1)).1 x1 x2 x3 G := by exact rfl
theorem R_Mo_weightFor_33 (kk k : Nat) (x1 : Int32) (x2 : Int32) (x3 : Int32) (x4 : Int32) (G : GS) : ai_step T_Mo_weightFor (call_Mo_weightFor kk) (fun _ => []) 0 (ai_run T_Mo_weightFor (call_Mo_weightFor kk) (fun _ => []) 0 (bk_Mo_weightFor kk k) 600) 33 (.iload 4, 2, 0, [], true, []) [some (.inr (0, 50)), some (.inl (.int x1)), some (.inl (.int x2)), some (.inl (.int x3)), some (.inl (.int x4))] [] G 0 = (L_Mo_weightFor kk (k + 1)).2 x1 x2 x3 x4 G := by exact rfl
def T_Mo_limit : Tb := fun pc => match Nat.ble 6 pc with | true => (match Nat.ble 10 pc with | true => (match Nat.ble 11 pc with | true => (match Nat.beq pc 11 with | true => some (.ireturn, 1, 0, [], false, []) | false => none) | false => (match Nat.beq pc 10 with | true => some (.iaload, 1, 0, [], false, []) | false => none)) | false => (match Nat.ble 9 pc with | true => (match Nat.beq pc 9 with | true => some (.iconst 3, 1, 0, [], false, []) | false => none) | false => (match Nat.beq pc 6 with | true => some (.getfield 13, 3, 450, [], false, []) | false => none))) | false => (match Nat.ble 2 pc with | true => (match Nat.ble 5 pc with | true => (match Nat.beq pc 5 with | true => some (.aload_n 0, 1, 0, [], false, []) | false => none) | false => (match Nat.beq pc 2 with | true => some (.putfield 1, 3, 448, [], false, []) | false => none)) | false => (match Nat.ble 1 pc with | true => (match Nat.beq pc 1 with | true => some (.iconst 0, 1, 0, [], false, []) | false => none) | false => (match Nat.beq pc 0 with | true => some (.aload_n 0, 1, 0, [], false, []) | false => none)))
def call_Mo_limit (kk : Nat) : Nat → List AV → GS → Res := fun id a G => none
def bk_Mo_limit (kk k : Nat) : Kb := fun _ _ _ _ => none
theorem R_Mo_limit (kk : Nat) (G : GS) : ai_run T_Mo_limit (call_Mo_limit kk) (fun _ => []) 0 (bk_Mo_limit kk kk) 600 0 [some (.inr (0, 50))] [] G 0 = D_Mo_limit kk G := by exact rfl
def T_Mo_listAngle : Tb := fun pc => match Nat.ble 12 pc with | true => (match Nat.ble 19 pc with | true => (match Nat.ble 21 pc with | true => (match Nat.ble 22 pc with | true => (match Nat.beq pc 22 with | true => some (.freturn, 1, 0, [], false, []) | false => none) | false => (match Nat.beq pc 21 with | true => some (.fdiv, 1, 0, [], false, []) | false => none)) | false => (match Nat.ble 20 pc with | true => (match Nat.beq pc 20 with | true => some (.i2f, 1, 0, [], false, []) | false => none) | false => (match Nat.beq pc 19 with | true => some (.iadd, 1, 0, [], false, []) | false => none))) | false => (match Nat.ble 14 pc with | true => (match Nat.ble 17 pc with | true => (match Nat.beq pc 17 with | true => some (.bipush (40), 2, 0, [], false, []) | false => none) | false => (match Nat.beq pc 14 with | true => some (.invokevirtual 156, 3, 2736137, [], false, []) | false => none)) | false => (match Nat.ble 13 pc with | true => (match Nat.beq pc 13 with | true => some (.aload_n 0, 1, 0, [], false, []) | false => none) | false => (match Nat.beq pc 12 with | true => some (.fmul, 1, 0, [], false, []) | false => none)))) | false => (match Nat.ble 5 pc with | true => (match Nat.ble 8 pc with | true => (match Nat.ble 11 pc with | true => (match Nat.beq pc 11 with | true => some (.i2f, 1, 0, [], false, []) | false => none) | false => (match Nat.beq pc 8 with | true => some (.invokevirtual 66, 3, 2719753, [], false, []) | false => none)) | false => (match Nat.ble 7 pc with | true => (match Nat.beq pc 7 with | true => some (.aload_n 0, 1, 0, [], false, []) | false => none) | false => (match Nat.beq pc 5 with | true => some (.ldc 159, 2, 0, [], false, []) | false => none))) | false => (match Nat.ble 1 pc with | true => (match Nat.ble 2 pc with | true => (match Nat.beq pc 2 with | true => some (.putfield 1, 3, 448, [], false, []) | false => none) | false => (match Nat.beq pc 1 with | true => some (.iconst 0, 1, 0, [], false, []) | false => none)) | false => (match Nat.beq pc 0 with | true => some (.aload_n 0, 1, 0, [], false, []) | false => none)))
def call_Mo_listAngle (kk : Nat) : Nat → List AV → GS → Res := fun id a G => match Nat.ble 167 id with | true => (match Nat.beq id 167 with | true => A_Mo_weightAll kk a G | false => none) | false => (match Nat.beq id 166 with | true => A_Mo_momentNow kk a G | false => none)
def bk_Mo_listAngle (kk k : Nat) : Kb := fun _ _ _ _ => none
theorem R_Mo_listAngle (kk : Nat) (G : GS) : ai_run T_Mo_listAngle (call_Mo_listAngle kk) (fun _ => []) 0 (bk_Mo_listAngle kk kk) 600 0 [some (.inr (0, 50))] [] G 0 = D_Mo_listAngle kk G := by exact rfl
def T_Mo_greatestPush : Tb := fun pc => match Nat.ble 9 pc with | true => (match Nat.ble 12 pc with | true => (match Nat.ble 15 pc with | true => (match Nat.ble 16 pc with | true => (match Nat.beq pc 16 with | true => some (.ireturn, 1, 0, [], false, []) | false => none) | false => (match Nat.beq pc 15 with | true => some (.isub, 1, 0, [], false, []) | false => none)) | false => (match Nat.beq pc 12 with | true => some (.invokevirtual 66, 3, 2719753, [], false, []) | false => none)) | false => (match Nat.ble 10 pc with | true => (match Nat.ble 11 pc with | true => (match Nat.beq pc 11 with | true => some (.aload_n 0, 1, 0, [], false, []) | false => none) | false => (match Nat.beq pc 10 with | true => some (.iaload, 1, 0, [], false, []) | false => none)) | false => (match Nat.beq pc 9 with | true => some (.iconst 3, 1, 0, [], false, []) | false => none))) | false => (match Nat.ble 2 pc with | true => (match Nat.ble 5 pc with | true => (match Nat.ble 6 pc with | true => (match Nat.beq pc 6 with | true => some (.getfield 13, 3, 450, [], false, []) | false => none) | false => (match Nat.beq pc 5 with | true => some (.aload_n 0, 1, 0, [], false, []) | false => none)) | false => (match Nat.beq pc 2 with | true => some (.putfield 1, 3, 448, [], false, []) | false => none)) | false => (match Nat.ble 1 pc with | true => (match Nat.beq pc 1 with | true => some (.iconst 0, 1, 0, [], false, []) | false => none) | false => (match Nat.beq pc 0 with | true => some (.aload_n 0, 1, 0, [], false, []) | false => none)))
def call_Mo_greatestPush (kk : Nat) : Nat → List AV → GS → Res := fun id a G => match Nat.beq id 166 with | true => A_Mo_momentNow kk a G | false => none
def bk_Mo_greatestPush (kk k : Nat) : Kb := fun _ _ _ _ => none
theorem R_Mo_greatestPush (kk : Nat) (G : GS) : ai_run T_Mo_greatestPush (call_Mo_greatestPush kk) (fun _ => []) 0 (bk_Mo_greatestPush kk kk) 600 0 [some (.inr (0, 50))] [] G 0 = D_Mo_greatestPush kk G := by exact rfl
def T_Mo_magnitude : Tb := fun pc => match Nat.ble 5 pc with | true => (match Nat.ble 9 pc with | true => (match Nat.ble 10 pc with | true => (match Nat.beq pc 10 with | true => some (.ireturn, 1, 0, [], false, []) | false => none) | false => (match Nat.beq pc 9 with | true => some (.iload_n 0, 1, 0, [], false, []) | false => none)) | false => (match Nat.ble 6 pc with | true => (match Nat.beq pc 6 with | true => some (.goto (4), 3, 10, [], false, []) | false => none) | false => (match Nat.beq pc 5 with | true => some (.ineg, 1, 0, [], false, []) | false => none))) | false => (match Nat.ble 1 pc with | true => (match Nat.ble 4 pc with | true => (match Nat.beq pc 4 with | true => some (.iload_n 0, 1, 0, [], false, []) | false => none) | false => (match Nat.beq pc 1 with | true => some (.ifCond .ge (8), 3, 9, [], false, []) | false => none)) | false => (match Nat.beq pc 0 with | true => some (.iload_n 0, 1, 0, [], false, []) | false => none))
def call_Mo_magnitude (kk : Nat) : Nat → List AV → GS → Res := fun id a G => none
def bk_Mo_magnitude (kk k : Nat) : Kb := fun _ _ _ _ => none
theorem R_Mo_magnitude (kk : Nat) (a0 : Int32) (G : GS) : ai_run T_Mo_magnitude (call_Mo_magnitude kk) (fun _ => []) 0 (bk_Mo_magnitude kk kk) 600 0 [some (.inl (.int a0))] [] G 0 = D_Mo_magnitude kk a0 G := by exact rfl
def T_Mo_isBetter : Tb := fun pc => match Nat.ble 39 pc with | true => (match Nat.ble 56 pc with | true => (match Nat.ble 64 pc with | true => (match Nat.ble 69 pc with | true => (match Nat.ble 72 pc with | true => (match Nat.ble 73 pc with | true => (match Nat.beq pc 73 with | true => some (.ireturn, 1, 0, [], false, []) | false => none) | false => (match Nat.beq pc 72 with | true => some (.iconst 0, 1, 0, [], false, []) | false => none)) | false => (match Nat.beq pc 69 with | true => some (.goto (4), 3, 73, [], false, []) | false => none)) | false => (match Nat.ble 65 pc with | true => (match Nat.ble 68 pc with | true => (match Nat.beq pc 68 with | true => some (.iconst 1, 1, 0, [], false, []) | false => none) | false => (match Nat.beq pc 65 with | true => some (.if_icmp .ge (7), 3, 72, [], false, []) | false => none)) | false => (match Nat.beq pc 64 with | true => some (.iaload, 1, 0, [], false, []) | false => none))) | false => (match Nat.ble 60 pc with | true => (match Nat.ble 62 pc with | true => (match Nat.ble 63 pc with | true => (match Nat.beq pc 63 with | true => some (.iadd, 1, 0, [], false, []) | false => none) | false => (match Nat.beq pc 62 with | true => some (.iload_n 2, 1, 0, [], false, []) | false => none)) | false => (match Nat.beq pc 60 with | true => some (.bipush (9), 2, 0, [], false, []) | false => none)) | false => (match Nat.ble 57 pc with | true => (match Nat.beq pc 57 with | true => some (.getfield 13, 3, 450, [], false, []) | false => none) | false => (match Nat.beq pc 56 with | true => some (.aload_n 0, 1, 0, [], false, []) | false => none)))) | false => (match Nat.ble 48 pc with | true => (match Nat.ble 53 pc with | true => (match Nat.ble 54 pc with | true => (match Nat.ble 55 pc with | true => (match Nat.beq pc 55 with | true => some (.iaload, 1, 0, [], false, []) | false => none) | false => (match Nat.beq pc 54 with | true => some (.iadd, 1, 0, [], false, []) | false => none)) | false => (match Nat.beq pc 53 with | true => some (.iload_n 1, 1, 0, [], false, []) | false => none)) | false => (match Nat.ble 51 pc with | true => (match Nat.beq pc 51 with | true => some (.bipush (9), 2, 0, [], false, []) | false => none) | false => (match Nat.beq pc 48 with | true => some (.getfield 13, 3, 450, [], false, []) | false => none))) | false => (match Nat.ble 43 pc with | true => (match Nat.ble 44 pc with | true => (match Nat.ble 47 pc with | true => (match Nat.beq pc 47 with | true => some (.aload_n 0, 1, 0, [], false, []) | false => none) | false => (match Nat.beq pc 44 with | true => some (.goto (29), 3, 73, [], false, []) | false => none)) | false => (match Nat.beq pc 43 with | true => some (.iconst 0, 1, 0, [], false, []) | false => none)) | false => (match Nat.ble 40 pc with | true => (match Nat.beq pc 40 with | true => some (.goto (33), 3, 73, [], false, []) | false => none) | false => (match Nat.beq pc 39 with | true => some (.iconst 1, 1, 0, [], false, []) | false => none))))) | false => (match Nat.ble 18 pc with | true => (match Nat.ble 27 pc with | true => (match Nat.ble 31 pc with | true => (match Nat.ble 34 pc with | true => (match Nat.ble 36 pc with | true => (match Nat.beq pc 36 with | true => some (.ifCond .le (7), 3, 43, [], false, []) | false => none) | false => (match Nat.beq pc 34 with | true => some (.iload 4, 2, 0, [], false, []) | false => none)) | false => (match Nat.beq pc 31 with | true => some (.ifCond .eq (16), 3, 47, [], false, []) | false => none)) | false => (match Nat.ble 29 pc with | true => (match Nat.beq pc 29 with | true => some (.iload 4, 2, 0, [], false, []) | false => none) | false => (match Nat.beq pc 27 with | true => some (.istore 4, 2, 0, [], false, []) | false => none))) | false => (match Nat.ble 22 pc with | true => (match Nat.ble 23 pc with | true => (match Nat.ble 26 pc with | true => (match Nat.beq pc 26 with | true => some (.isub, 1, 0, [], false, []) | false => none) | false => (match Nat.beq pc 23 with | true => some (.invokestatic 160, 3, 3457033, [], false, []) | false => none)) | false => (match Nat.beq pc 22 with | true => some (.iadd, 1, 0, [], false, []) | false => none)) | false => (match Nat.ble 19 pc with | true => (match Nat.beq pc 19 with | true => some (.invokestatic 78, 3, 2785297, [], false, []) | false => none) | false => (match Nat.beq pc 18 with | true => some (.iload_n 3, 1, 0, [], false, []) | false => none)))) | false => (match Nat.ble 9 pc with | true => (match Nat.ble 13 pc with | true => (match Nat.ble 14 pc with | true => (match Nat.ble 17 pc with | true => (match Nat.beq pc 17 with | true => some (.iload_n 1, 1, 0, [], false, []) | false => none) | false => (match Nat.beq pc 14 with | true => some (.invokevirtual 66, 3, 2719753, [], false, []) | false => none)) | false => (match Nat.beq pc 13 with | true => some (.aload_n 0, 1, 0, [], false, []) | false => none)) | false => (match Nat.ble 10 pc with | true => (match Nat.beq pc 10 with | true => some (.invokestatic 160, 3, 3457033, [], false, []) | false => none) | false => (match Nat.beq pc 9 with | true => some (.iadd, 1, 0, [], false, []) | false => none))) | false => (match Nat.ble 4 pc with | true => (match Nat.ble 5 pc with | true => (match Nat.ble 6 pc with | true => (match Nat.beq pc 6 with | true => some (.invokestatic 78, 3, 2785297, [], false, []) | false => none) | false => (match Nat.beq pc 5 with | true => some (.iload_n 3, 1, 0, [], false, []) | false => none)) | false => (match Nat.beq pc 4 with | true => some (.iload_n 2, 1, 0, [], false, []) | false => none)) | false => (match Nat.ble 1 pc with | true => (match Nat.beq pc 1 with | true => some (.invokevirtual 66, 3, 2719753, [], false, []) | false => none) | false => (match Nat.beq pc 0 with | true => some (.aload_n 0, 1, 0, [], false, []) | false => none)))))
def call_Mo_isBetter (kk : Nat) : Nat → List AV → GS → Res := fun id a G => match Nat.ble 170 id with | true => (match Nat.ble 211 id with | true => (match Nat.beq id 211 with | true => A_Mo_magnitude kk a G | false => none) | false => (match Nat.beq id 170 with | true => A_Mo_lever kk a G | false => none)) | false => (match Nat.beq id 166 with | true => A_Mo_momentNow kk a G | false => none)
def bk_Mo_isBetter (kk k : Nat) : Kb := fun _ _ _ _ => none
theorem R_Mo_isBetter (kk : Nat) (a0 : Int32) (a1 : Int32) (a2 : Int32) (G : GS) : ai_run T_Mo_isBetter (call_Mo_isBetter kk) (fun _ => []) 0 (bk_Mo_isBetter kk kk) 600 0 [some (.inr (0, 50)), some (.inl (.int a0)), some (.inl (.int a1)), some (.inl (.int a2)), none] [] G 0 = D_Mo_isBetter kk a0 a1 a2 G := by exact rfl
def T_Mo_levelingBay : Tb := fun pc => match Nat.ble 44 pc with | true => (match Nat.ble 67 pc with | true => (match Nat.ble 82 pc with | true => (match Nat.ble 87 pc with | true => (match Nat.ble 93 pc with | true => (match Nat.ble 94 pc with | true => (match Nat.beq pc 94 with | true => some (.ireturn, 1, 0, [], false, []) | false => none) | false => (match Nat.beq pc 93 with | true => some (.iload_n 2, 1, 0, [], false, []) | false => none)) | false => (match Nat.ble 90 pc with | true => (match Nat.beq pc 90 with | true => some (.goto (4), 3, 94, [], false, []) | false => none) | false => (match Nat.beq pc 87 with | true => some (.invokevirtual 92, 3, 2523153, [], false, []) | false => none))) | false => (match Nat.ble 85 pc with | true => (match Nat.ble 86 pc with | true => (match Nat.beq pc 86 with | true => some (.iconst 2, 1, 0, [], false, []) | false => none) | false => (match Nat.beq pc 85 with | true => some (.aload_n 0, 1, 0, [], false, []) | false => none)) | false => (match Nat.beq pc 82 with | true => some (.ifCond .ge (11), 3, 93, [], false, []) | false => none))) | false => (match Nat.ble 74 pc with | true => (match Nat.ble 78 pc with | true => (match Nat.ble 81 pc with | true => (match Nat.beq pc 81 with | true => some (.iload_n 2, 1, 0, [], false, []) | false => none) | false => (match Nat.beq pc 78 with | true => some (.goto (-53), 3, 25, [], false, []) | false => none)) | false => (match Nat.ble 75 pc with | true => (match Nat.beq pc 75 with | true => some (.iinc 3 (1), 3, 0, [], false, []) | false => none) | false => (match Nat.beq pc 74 with | true => some (.istore_n 2, 1, 0, [], false, []) | false => none))) | false => (match Nat.ble 70 pc with | true => (match Nat.ble 73 pc with | true => (match Nat.beq pc 73 with | true => some (.iload_n 3, 1, 0, [], false, []) | false => none) | false => (match Nat.beq pc 70 with | true => some (.ifCond .eq (5), 3, 75, [], false, []) | false => none)) | false => (match Nat.beq pc 67 with | true => some (.invokevirtual 163, 3, 3473441, [], false, []) | false => none)))) | false => (match Nat.ble 56 pc with | true => (match Nat.ble 63 pc with | true => (match Nat.ble 65 pc with | true => (match Nat.ble 66 pc with | true => (match Nat.beq pc 66 with | true => some (.iload_n 1, 1, 0, [], false, []) | false => none) | false => (match Nat.beq pc 65 with | true => some (.iload_n 2, 1, 0, [], false, []) | false => none)) | false => (match Nat.ble 64 pc with | true => (match Nat.beq pc 64 with | true => some (.iload_n 3, 1, 0, [], false, []) | false => none) | false => (match Nat.beq pc 63 with | true => some (.aload_n 0, 1, 0, [], false, []) | false => none))) | false => (match Nat.ble 59 pc with | true => (match Nat.ble 60 pc with | true => (match Nat.beq pc 60 with | true => some (.ifCond .lt (13), 3, 73, [], false, []) | false => none) | false => (match Nat.beq pc 59 with | true => some (.iload_n 2, 1, 0, [], false, []) | false => none)) | false => (match Nat.beq pc 56 with | true => some (.goto (19), 3, 75, [], false, []) | false => none))) | false => (match Nat.ble 47 pc with | true => (match Nat.ble 50 pc with | true => (match Nat.ble 53 pc with | true => (match Nat.beq pc 53 with | true => some (.ifCond .eq (6), 3, 59, [], false, []) | false => none) | false => (match Nat.beq pc 50 with | true => some (.invokevirtual 82, 3, 2768913, [], false, []) | false => none)) | false => (match Nat.beq pc 47 with | true => some (.invokestatic 78, 3, 2785297, [], false, []) | false => none)) | false => (match Nat.ble 45 pc with | true => (match Nat.ble 46 pc with | true => (match Nat.beq pc 46 with | true => some (.iload_n 1, 1, 0, [], false, []) | false => none) | false => (match Nat.beq pc 45 with | true => some (.iload_n 3, 1, 0, [], false, []) | false => none)) | false => (match Nat.beq pc 44 with | true => some (.aload_n 0, 1, 0, [], false, []) | false => none))))) | false => (match Nat.ble 22 pc with | true => (match Nat.ble 32 pc with | true => (match Nat.ble 38 pc with | true => (match Nat.ble 40 pc with | true => (match Nat.ble 41 pc with | true => (match Nat.beq pc 41 with | true => some (.if_icmp .eq (34), 3, 75, [], false, []) | false => none) | false => (match Nat.beq pc 40 with | true => some (.iconst 5, 1, 0, [], false, []) | false => none)) | false => (match Nat.ble 39 pc with | true => (match Nat.beq pc 39 with | true => some (.iaload, 1, 0, [], false, []) | false => none) | false => (match Nat.beq pc 38 with | true => some (.iadd, 1, 0, [], false, []) | false => none))) | false => (match Nat.ble 35 pc with | true => (match Nat.ble 37 pc with | true => (match Nat.beq pc 37 with | true => some (.iload_n 3, 1, 0, [], false, []) | false => none) | false => (match Nat.beq pc 35 with | true => some (.bipush (9), 2, 0, [], false, []) | false => none)) | false => (match Nat.beq pc 32 with | true => some (.getfield 13, 3, 450, [], false, []) | false => none))) | false => (match Nat.ble 25 pc with | true => (match Nat.ble 28 pc with | true => (match Nat.ble 31 pc with | true => (match Nat.beq pc 31 with | true => some (.aload_n 0, 1, 0, [], false, []) | false => none) | false => (match Nat.beq pc 28 with | true => some (.if_icmp .ge (53), 3, 81, [], false, []) | false => none)) | false => (match Nat.ble 26 pc with | true => (match Nat.beq pc 26 with | true => some (.bipush (7), 2, 0, [], false, []) | false => none) | false => (match Nat.beq pc 25 with | true => some (.iload_n 3, 1, 0, [], true, []) | false => none))) | false => (match Nat.ble 23 pc with | true => (match Nat.ble 24 pc with | true => (match Nat.beq pc 24 with | true => some (.istore_n 3, 1, 0, [], false, []) | false => none) | false => (match Nat.beq pc 23 with | true => some (.iconst 0, 1, 0, [], false, []) | false => none)) | false => (match Nat.beq pc 22 with | true => some (.istore_n 2, 1, 0, [], false, []) | false => none)))) | false => (match Nat.ble 9 pc with | true => (match Nat.ble 16 pc with | true => (match Nat.ble 20 pc with | true => (match Nat.ble 21 pc with | true => (match Nat.beq pc 21 with | true => some (.iconst (-1), 1, 0, [], false, []) | false => none) | false => (match Nat.beq pc 20 with | true => some (.ireturn, 1, 0, [], false, []) | false => none)) | false => (match Nat.ble 17 pc with | true => (match Nat.beq pc 17 with | true => some (.invokevirtual 92, 3, 2523153, [], false, []) | false => none) | false => (match Nat.beq pc 16 with | true => some (.iconst 1, 1, 0, [], false, []) | false => none))) | false => (match Nat.ble 12 pc with | true => (match Nat.ble 15 pc with | true => (match Nat.beq pc 15 with | true => some (.aload_n 0, 1, 0, [], false, []) | false => none) | false => (match Nat.beq pc 12 with | true => some (.ifCond .ne (9), 3, 21, [], false, []) | false => none)) | false => (match Nat.beq pc 9 with | true => some (.invokestatic 54, 3, 2539545, [], false, []) | false => none))) | false => (match Nat.ble 5 pc with | true => (match Nat.ble 6 pc with | true => (match Nat.ble 7 pc with | true => (match Nat.beq pc 7 with | true => some (.bipush (20), 2, 0, [], false, []) | false => none) | false => (match Nat.beq pc 6 with | true => some (.iconst 1, 1, 0, [], false, []) | false => none)) | false => (match Nat.beq pc 5 with | true => some (.iload_n 1, 1, 0, [], false, []) | false => none)) | false => (match Nat.ble 1 pc with | true => (match Nat.ble 2 pc with | true => (match Nat.beq pc 2 with | true => some (.putfield 1, 3, 448, [], false, []) | false => none) | false => (match Nat.beq pc 1 with | true => some (.iconst 0, 1, 0, [], false, []) | false => none)) | false => (match Nat.beq pc 0 with | true => some (.aload_n 0, 1, 0, [], false, []) | false => none)))))
def call_Mo_levelingBay (kk : Nat) : Nat → List AV → GS → Res := fun id a G => match Nat.ble 169 id with | true => (match Nat.ble 170 id with | true => (match Nat.ble 212 id with | true => (match Nat.beq id 212 with | true => A_Mo_isBetter kk a G | false => none) | false => (match Nat.beq id 170 with | true => A_Mo_lever kk a G | false => none)) | false => (match Nat.beq id 169 with | true => A_Mo_isBeyond kk a G | false => none)) | false => (match Nat.ble 155 id with | true => (match Nat.beq id 155 with | true => A_Mo_isBetween kk a G | false => none) | false => (match Nat.beq id 154 with | true => A_Mo_fails kk a G | false => none))
def bk_Mo_levelingBay (kk k : Nat) : Kb := fun pc ls st G => match Nat.beq pc 25 with | true => (match ls, st with | [some (.inr (0, 50)), some (.inl (.int x1)), some (.inl (.int x2)), some (.inl (.int x3))], [] => (L_Mo_levelingBay kk k) x1 x2 x3 G | _, _ => none) | false => none
theorem R_Mo_levelingBay (kk : Nat) (a0 : Int32) (G : GS) : ai_run T_Mo_levelingBay (call_Mo_levelingBay kk) (fun _ => []) 0 (bk_Mo_levelingBay kk kk) 600 0 [some (.inr (0, 50)), some (.inl (.int a0)), none, none] [] G 0 = D_Mo_levelingBay kk a0 G := by exact rfl
theorem R_Mo_levelingBay_25 (kk k : Nat) (x1 : Int32) (x2 : Int32) (x3 : Int32) (G : GS) : ai_step T_Mo_levelingBay (call_Mo_levelingBay kk) (fun _ => []) 0 (ai_run T_Mo_levelingBay (call_Mo_levelingBay kk) (fun _ => []) 0 (bk_Mo_levelingBay kk k) 600) 25 (.iload_n 3, 1, 0, [], true, []) [some (.inr (0, 50)), some (.inl (.int x1)), some (.inl (.int x2)), some (.inl (.int x3))] [] G 0 = (L_Mo_levelingBay kk (k + 1)) x1 x2 x3 G := by exact rfl
def T_Mo_port : Tb := fun pc => match Nat.ble 6 pc with | true => (match Nat.ble 10 pc with | true => (match Nat.ble 11 pc with | true => (match Nat.beq pc 11 with | true => some (.ireturn, 1, 0, [], false, []) | false => none) | false => (match Nat.beq pc 10 with | true => some (.iaload, 1, 0, [], false, []) | false => none)) | false => (match Nat.ble 9 pc with | true => (match Nat.beq pc 9 with | true => some (.iconst 1, 1, 0, [], false, []) | false => none) | false => (match Nat.beq pc 6 with | true => some (.getfield 13, 3, 450, [], false, []) | false => none))) | false => (match Nat.ble 2 pc with | true => (match Nat.ble 5 pc with | true => (match Nat.beq pc 5 with | true => some (.aload_n 0, 1, 0, [], false, []) | false => none) | false => (match Nat.beq pc 2 with | true => some (.putfield 1, 3, 448, [], false, []) | false => none)) | false => (match Nat.ble 1 pc with | true => (match Nat.beq pc 1 with | true => some (.iconst 0, 1, 0, [], false, []) | false => none) | false => (match Nat.beq pc 0 with | true => some (.aload_n 0, 1, 0, [], false, []) | false => none)))
def call_Mo_port (kk : Nat) : Nat → List AV → GS → Res := fun id a G => none
def bk_Mo_port (kk k : Nat) : Kb := fun _ _ _ _ => none
theorem R_Mo_port (kk : Nat) (G : GS) : ai_run T_Mo_port (call_Mo_port kk) (fun _ => []) 0 (bk_Mo_port kk kk) 600 0 [some (.inr (0, 50))] [] G 0 = D_Mo_port kk G := by exact rfl
def T_Mo_day : Tb := fun pc => match Nat.ble 6 pc with | true => (match Nat.ble 10 pc with | true => (match Nat.ble 11 pc with | true => (match Nat.beq pc 11 with | true => some (.ireturn, 1, 0, [], false, []) | false => none) | false => (match Nat.beq pc 10 with | true => some (.iaload, 1, 0, [], false, []) | false => none)) | false => (match Nat.ble 9 pc with | true => (match Nat.beq pc 9 with | true => some (.iconst 0, 1, 0, [], false, []) | false => none) | false => (match Nat.beq pc 6 with | true => some (.getfield 13, 3, 450, [], false, []) | false => none))) | false => (match Nat.ble 2 pc with | true => (match Nat.ble 5 pc with | true => (match Nat.beq pc 5 with | true => some (.aload_n 0, 1, 0, [], false, []) | false => none) | false => (match Nat.beq pc 2 with | true => some (.putfield 1, 3, 448, [], false, []) | false => none)) | false => (match Nat.ble 1 pc with | true => (match Nat.beq pc 1 with | true => some (.iconst 0, 1, 0, [], false, []) | false => none) | false => (match Nat.beq pc 0 with | true => some (.aload_n 0, 1, 0, [], false, []) | false => none)))
def call_Mo_day (kk : Nat) : Nat → List AV → GS → Res := fun id a G => none
def bk_Mo_day (kk k : Nat) : Kb := fun _ _ _ _ => none
theorem R_Mo_day (kk : Nat) (G : GS) : ai_run T_Mo_day (call_Mo_day kk) (fun _ => []) 0 (bk_Mo_day kk kk) 600 0 [some (.inr (0, 50))] [] G 0 = D_Mo_day kk G := by exact rfl
def T_Mo_isAscending : Tb := fun pc => match Nat.ble 10 pc with | true => (match Nat.ble 15 pc with | true => (match Nat.ble 18 pc with | true => (match Nat.ble 19 pc with | true => (match Nat.beq pc 19 with | true => some (.ireturn, 1, 0, [], false, []) | false => none) | false => (match Nat.beq pc 18 with | true => some (.iconst 0, 1, 0, [], false, []) | false => none)) | false => (match Nat.beq pc 15 with | true => some (.goto (4), 3, 19, [], false, []) | false => none)) | false => (match Nat.ble 11 pc with | true => (match Nat.ble 14 pc with | true => (match Nat.beq pc 14 with | true => some (.iconst 1, 1, 0, [], false, []) | false => none) | false => (match Nat.beq pc 11 with | true => some (.ifCond .ne (7), 3, 18, [], false, []) | false => none)) | false => (match Nat.beq pc 10 with | true => some (.iaload, 1, 0, [], false, []) | false => none))) | false => (match Nat.ble 5 pc with | true => (match Nat.ble 6 pc with | true => (match Nat.ble 9 pc with | true => (match Nat.beq pc 9 with | true => some (.iconst 2, 1, 0, [], false, []) | false => none) | false => (match Nat.beq pc 6 with | true => some (.getfield 13, 3, 450, [], false, []) | false => none)) | false => (match Nat.beq pc 5 with | true => some (.aload_n 0, 1, 0, [], false, []) | false => none)) | false => (match Nat.ble 1 pc with | true => (match Nat.ble 2 pc with | true => (match Nat.beq pc 2 with | true => some (.putfield 1, 3, 448, [], false, []) | false => none) | false => (match Nat.beq pc 1 with | true => some (.iconst 0, 1, 0, [], false, []) | false => none)) | false => (match Nat.beq pc 0 with | true => some (.aload_n 0, 1, 0, [], false, []) | false => none)))
def call_Mo_isAscending (kk : Nat) : Nat → List AV → GS → Res := fun id a G => none
def bk_Mo_isAscending (kk k : Nat) : Kb := fun _ _ _ _ => none
theorem R_Mo_isAscending (kk : Nat) (G : GS) : ai_run T_Mo_isAscending (call_Mo_isAscending kk) (fun _ => []) 0 (bk_Mo_isAscending kk kk) 600 0 [some (.inr (0, 50))] [] G 0 = D_Mo_isAscending kk G := by exact rfl
def T_Mo_legs : Tb := fun pc => match Nat.ble 7 pc with | true => (match Nat.ble 14 pc with | true => (match Nat.ble 17 pc with | true => (match Nat.ble 18 pc with | true => (match Nat.beq pc 18 with | true => some (.ireturn, 1, 0, [], false, []) | false => none) | false => (match Nat.beq pc 17 with | true => some (.iload_n 2, 1, 0, [], false, []) | false => none)) | false => (match Nat.beq pc 14 with | true => some (.goto (-12), 3, 2, [], false, []) | false => none)) | false => (match Nat.ble 8 pc with | true => (match Nat.ble 11 pc with | true => (match Nat.beq pc 11 with | true => some (.iinc 2 (1), 3, 0, [], false, []) | false => none) | false => (match Nat.beq pc 8 with | true => some (.if_icmp .eq (9), 3, 17, [], false, []) | false => none)) | false => (match Nat.beq pc 7 with | true => some (.iload_n 1, 1, 0, [], false, []) | false => none))) | false => (match Nat.ble 2 pc with | true => (match Nat.ble 3 pc with | true => (match Nat.ble 4 pc with | true => (match Nat.beq pc 4 with | true => some (.invokevirtual 120, 3, 2981905, [], false, []) | false => none) | false => (match Nat.beq pc 3 with | true => some (.iload_n 2, 1, 0, [], false, []) | false => none)) | false => (match Nat.beq pc 2 with | true => some (.aload_n 0, 1, 0, [], true, []) | false => none)) | false => (match Nat.ble 1 pc with | true => (match Nat.beq pc 1 with | true => some (.istore_n 2, 1, 0, [], false, []) | false => none) | false => (match Nat.beq pc 0 with | true => some (.iconst 0, 1, 0, [], false, []) | false => none)))
def call_Mo_legs (kk : Nat) : Nat → List AV → GS → Res := fun id a G => match Nat.beq id 182 with | true => A_Mo_portBehind kk a G | false => none
def bk_Mo_legs (kk k : Nat) : Kb := fun pc ls st G => match Nat.beq pc 2 with | true => (match ls, st with | [some (.inr (0, 50)), some (.inl (.int x1)), some (.inl (.int x2))], [] => (L_Mo_legs kk k) x1 x2 G | _, _ => none) | false => none
theorem R_Mo_legs (kk : Nat) (a0 : Int32) (G : GS) : ai_run T_Mo_legs (call_Mo_legs kk) (fun _ => []) 0 (bk_Mo_legs kk kk) 600 0 [some (.inr (0, 50)), some (.inl (.int a0)), none] [] G 0 = D_Mo_legs kk a0 G := by exact rfl
theorem R_Mo_legs_2 (kk k : Nat) (x1 : Int32) (x2 : Int32) (G : GS) : ai_step T_Mo_legs (call_Mo_legs kk) (fun _ => []) 0 (ai_run T_Mo_legs (call_Mo_legs kk) (fun _ => []) 0 (bk_Mo_legs kk k) 600) 2 (.aload_n 0, 1, 0, [], true, []) [some (.inr (0, 50)), some (.inl (.int x1)), some (.inl (.int x2))] [] G 0 = (L_Mo_legs kk (k + 1)) x1 x2 G := by exact rfl
def T_Mo_legsTo : Tb := fun pc => match Nat.ble 14 pc with | true => (match Nat.ble 22 pc with | true => (match Nat.ble 24 pc with | true => (match Nat.ble 27 pc with | true => (match Nat.beq pc 27 with | true => some (.ireturn, 1, 0, [], false, []) | false => none) | false => (match Nat.beq pc 24 with | true => some (.invokevirtual 92, 3, 2523153, [], false, []) | false => none)) | false => (match Nat.ble 23 pc with | true => (match Nat.beq pc 23 with | true => some (.iconst 1, 1, 0, [], false, []) | false => none) | false => (match Nat.beq pc 22 with | true => some (.aload_n 0, 1, 0, [], false, []) | false => none))) | false => (match Nat.ble 16 pc with | true => (match Nat.ble 19 pc with | true => (match Nat.beq pc 19 with | true => some (.goto (8), 3, 27, [], false, []) | false => none) | false => (match Nat.beq pc 16 with | true => some (.invokevirtual 166, 3, 3555345, [], false, []) | false => none)) | false => (match Nat.ble 15 pc with | true => (match Nat.beq pc 15 with | true => some (.iload_n 1, 1, 0, [], false, []) | false => none) | false => (match Nat.beq pc 14 with | true => some (.aload_n 0, 1, 0, [], false, []) | false => none)))) | false => (match Nat.ble 6 pc with | true => (match Nat.ble 8 pc with | true => (match Nat.ble 11 pc with | true => (match Nat.beq pc 11 with | true => some (.ifCond .eq (11), 3, 22, [], false, []) | false => none) | false => (match Nat.beq pc 8 with | true => some (.invokestatic 54, 3, 2539545, [], false, []) | false => none)) | false => (match Nat.ble 7 pc with | true => (match Nat.beq pc 7 with | true => some (.iconst 4, 1, 0, [], false, []) | false => none) | false => (match Nat.beq pc 6 with | true => some (.iconst 0, 1, 0, [], false, []) | false => none))) | false => (match Nat.ble 2 pc with | true => (match Nat.ble 5 pc with | true => (match Nat.beq pc 5 with | true => some (.iload_n 1, 1, 0, [], false, []) | false => none) | false => (match Nat.beq pc 2 with | true => some (.putfield 1, 3, 448, [], false, []) | false => none)) | false => (match Nat.ble 1 pc with | true => (match Nat.beq pc 1 with | true => some (.iconst 0, 1, 0, [], false, []) | false => none) | false => (match Nat.beq pc 0 with | true => some (.aload_n 0, 1, 0, [], false, []) | false => none))))
def call_Mo_legsTo (kk : Nat) : Nat → List AV → GS → Res := fun id a G => match Nat.ble 155 id with | true => (match Nat.ble 217 id with | true => (match Nat.beq id 217 with | true => A_Mo_legs kk a G | false => none) | false => (match Nat.beq id 155 with | true => A_Mo_isBetween kk a G | false => none)) | false => (match Nat.beq id 154 with | true => A_Mo_fails kk a G | false => none)
def bk_Mo_legsTo (kk k : Nat) : Kb := fun _ _ _ _ => none
theorem R_Mo_legsTo (kk : Nat) (a0 : Int32) (G : GS) : ai_run T_Mo_legsTo (call_Mo_legsTo kk) (fun _ => []) 0 (bk_Mo_legsTo kk kk) 600 0 [some (.inr (0, 50)), some (.inl (.int a0))] [] G 0 = D_Mo_legsTo kk a0 G := by exact rfl
def T_Mo_portAfter : Tb := fun pc => match Nat.ble 15 pc with | true => (match Nat.ble 23 pc with | true => (match Nat.ble 25 pc with | true => (match Nat.ble 28 pc with | true => (match Nat.beq pc 28 with | true => some (.ireturn, 1, 0, [], false, []) | false => none) | false => (match Nat.beq pc 25 with | true => some (.invokevirtual 92, 3, 2523153, [], false, []) | false => none)) | false => (match Nat.ble 24 pc with | true => (match Nat.beq pc 24 with | true => some (.iconst 1, 1, 0, [], false, []) | false => none) | false => (match Nat.beq pc 23 with | true => some (.aload_n 0, 1, 0, [], false, []) | false => none))) | false => (match Nat.ble 17 pc with | true => (match Nat.ble 20 pc with | true => (match Nat.beq pc 20 with | true => some (.goto (8), 3, 28, [], false, []) | false => none) | false => (match Nat.beq pc 17 with | true => some (.invokevirtual 120, 3, 2981905, [], false, []) | false => none)) | false => (match Nat.ble 16 pc with | true => (match Nat.beq pc 16 with | true => some (.iload_n 1, 1, 0, [], false, []) | false => none) | false => (match Nat.beq pc 15 with | true => some (.aload_n 0, 1, 0, [], false, []) | false => none)))) | false => (match Nat.ble 6 pc with | true => (match Nat.ble 9 pc with | true => (match Nat.ble 12 pc with | true => (match Nat.beq pc 12 with | true => some (.ifCond .eq (11), 3, 23, [], false, []) | false => none) | false => (match Nat.beq pc 9 with | true => some (.invokestatic 54, 3, 2539545, [], false, []) | false => none)) | false => (match Nat.ble 7 pc with | true => (match Nat.beq pc 7 with | true => some (.bipush (99), 2, 0, [], false, []) | false => none) | false => (match Nat.beq pc 6 with | true => some (.iconst 0, 1, 0, [], false, []) | false => none))) | false => (match Nat.ble 2 pc with | true => (match Nat.ble 5 pc with | true => (match Nat.beq pc 5 with | true => some (.iload_n 1, 1, 0, [], false, []) | false => none) | false => (match Nat.beq pc 2 with | true => some (.putfield 1, 3, 448, [], false, []) | false => none)) | false => (match Nat.ble 1 pc with | true => (match Nat.beq pc 1 with | true => some (.iconst 0, 1, 0, [], false, []) | false => none) | false => (match Nat.beq pc 0 with | true => some (.aload_n 0, 1, 0, [], false, []) | false => none))))
def call_Mo_portAfter (kk : Nat) : Nat → List AV → GS → Res := fun id a G => match Nat.ble 155 id with | true => (match Nat.ble 182 id with | true => (match Nat.beq id 182 with | true => A_Mo_portBehind kk a G | false => none) | false => (match Nat.beq id 155 with | true => A_Mo_isBetween kk a G | false => none)) | false => (match Nat.beq id 154 with | true => A_Mo_fails kk a G | false => none)
def bk_Mo_portAfter (kk k : Nat) : Kb := fun _ _ _ _ => none
theorem R_Mo_portAfter (kk : Nat) (a0 : Int32) (G : GS) : ai_run T_Mo_portAfter (call_Mo_portAfter kk) (fun _ => []) 0 (bk_Mo_portAfter kk kk) 600 0 [some (.inr (0, 50)), some (.inl (.int a0))] [] G 0 = D_Mo_portAfter kk a0 G := by exact rfl
def T_Mo_inTheWay : Tb := fun pc => match Nat.ble 30 pc with | true => (match Nat.ble 48 pc with | true => (match Nat.ble 57 pc with | true => (match Nat.ble 63 pc with | true => (match Nat.ble 66 pc with | true => (match Nat.ble 68 pc with | true => (match Nat.beq pc 68 with | true => some (.ireturn, 1, 0, [], false, []) | false => none) | false => (match Nat.beq pc 66 with | true => some (.iload 4, 2, 0, [], false, []) | false => none)) | false => (match Nat.beq pc 63 with | true => some (.goto (-43), 3, 20, [], false, []) | false => none)) | false => (match Nat.ble 58 pc with | true => (match Nat.ble 60 pc with | true => (match Nat.beq pc 60 with | true => some (.iinc 5 (1), 3, 0, [], false, []) | false => none) | false => (match Nat.beq pc 58 with | true => some (.istore 4, 2, 0, [], false, []) | false => none)) | false => (match Nat.beq pc 57 with | true => some (.iadd, 1, 0, [], false, []) | false => none))) | false => (match Nat.ble 52 pc with | true => (match Nat.ble 53 pc with | true => (match Nat.ble 56 pc with | true => (match Nat.beq pc 56 with | true => some (.iconst 0, 1, 0, [], false, []) | false => none) | false => (match Nat.beq pc 53 with | true => some (.goto (4), 3, 57, [], false, []) | false => none)) | false => (match Nat.beq pc 52 with | true => some (.iconst 1, 1, 0, [], false, []) | false => none)) | false => (match Nat.ble 49 pc with | true => (match Nat.beq pc 49 with | true => some (.if_icmp .le (7), 3, 56, [], false, []) | false => none) | false => (match Nat.beq pc 48 with | true => some (.iload_n 3, 1, 0, [], false, []) | false => none)))) | false => (match Nat.ble 38 pc with | true => (match Nat.ble 41 pc with | true => (match Nat.ble 42 pc with | true => (match Nat.ble 45 pc with | true => (match Nat.beq pc 45 with | true => some (.invokevirtual 166, 3, 3555345, [], false, []) | false => none) | false => (match Nat.beq pc 42 with | true => some (.invokevirtual 58, 3, 2654241, [], false, []) | false => none)) | false => (match Nat.beq pc 41 with | true => some (.iconst 2, 1, 0, [], false, []) | false => none)) | false => (match Nat.ble 39 pc with | true => (match Nat.beq pc 39 with | true => some (.iload 5, 2, 0, [], false, []) | false => none) | false => (match Nat.beq pc 38 with | true => some (.iload_n 1, 1, 0, [], false, []) | false => none))) | false => (match Nat.ble 34 pc with | true => (match Nat.ble 36 pc with | true => (match Nat.ble 37 pc with | true => (match Nat.beq pc 37 with | true => some (.aload_n 0, 1, 0, [], false, []) | false => none) | false => (match Nat.beq pc 36 with | true => some (.aload_n 0, 1, 0, [], false, []) | false => none)) | false => (match Nat.beq pc 34 with | true => some (.iload 4, 2, 0, [], false, []) | false => none)) | false => (match Nat.ble 31 pc with | true => (match Nat.beq pc 31 with | true => some (.if_icmp .ge (35), 3, 66, [], false, []) | false => none) | false => (match Nat.beq pc 30 with | true => some (.iaload, 1, 0, [], false, []) | false => none))))) | false => (match Nat.ble 15 pc with | true => (match Nat.ble 22 pc with | true => (match Nat.ble 26 pc with | true => (match Nat.ble 28 pc with | true => (match Nat.ble 29 pc with | true => (match Nat.beq pc 29 with | true => some (.iadd, 1, 0, [], false, []) | false => none) | false => (match Nat.beq pc 28 with | true => some (.iload_n 1, 1, 0, [], false, []) | false => none)) | false => (match Nat.beq pc 26 with | true => some (.bipush (9), 2, 0, [], false, []) | false => none)) | false => (match Nat.ble 23 pc with | true => (match Nat.beq pc 23 with | true => some (.getfield 13, 3, 450, [], false, []) | false => none) | false => (match Nat.beq pc 22 with | true => some (.aload_n 0, 1, 0, [], false, []) | false => none))) | false => (match Nat.ble 17 pc with | true => (match Nat.ble 18 pc with | true => (match Nat.ble 20 pc with | true => (match Nat.beq pc 20 with | true => some (.iload 5, 2, 0, [2], true, []) | false => none) | false => (match Nat.beq pc 18 with | true => some (.istore 5, 2, 0, [], false, []) | false => none)) | false => (match Nat.beq pc 17 with | true => some (.iadd, 1, 0, [], false, []) | false => none)) | false => (match Nat.ble 16 pc with | true => (match Nat.beq pc 16 with | true => some (.iconst 1, 1, 0, [], false, []) | false => none) | false => (match Nat.beq pc 15 with | true => some (.iload_n 2, 1, 0, [], false, []) | false => none)))) | false => (match Nat.ble 5 pc with | true => (match Nat.ble 11 pc with | true => (match Nat.ble 12 pc with | true => (match Nat.ble 13 pc with | true => (match Nat.beq pc 13 with | true => some (.istore 4, 2, 0, [], false, []) | false => none) | false => (match Nat.beq pc 12 with | true => some (.iconst 0, 1, 0, [], false, []) | false => none)) | false => (match Nat.beq pc 11 with | true => some (.istore_n 3, 1, 0, [], false, []) | false => none)) | false => (match Nat.ble 8 pc with | true => (match Nat.beq pc 8 with | true => some (.invokevirtual 166, 3, 3555345, [], false, []) | false => none) | false => (match Nat.beq pc 5 with | true => some (.invokevirtual 58, 3, 2654241, [], false, []) | false => none))) | false => (match Nat.ble 2 pc with | true => (match Nat.ble 3 pc with | true => (match Nat.ble 4 pc with | true => (match Nat.beq pc 4 with | true => some (.iconst 2, 1, 0, [], false, []) | false => none) | false => (match Nat.beq pc 3 with | true => some (.iload_n 2, 1, 0, [], false, []) | false => none)) | false => (match Nat.beq pc 2 with | true => some (.iload_n 1, 1, 0, [], false, []) | false => none)) | false => (match Nat.ble 1 pc with | true => (match Nat.beq pc 1 with | true => some (.aload_n 0, 1, 0, [], false, []) | false => none) | false => (match Nat.beq pc 0 with | true => some (.aload_n 0, 1, 0, [], false, []) | false => none)))))
def call_Mo_inTheWay (kk : Nat) : Nat → List AV → GS → Res := fun id a G => match Nat.ble 217 id with | true => (match Nat.beq id 217 with | true => A_Mo_legs kk a G | false => none) | false => (match Nat.beq id 162 with | true => A_Mo_at kk a G | false => none)
def bk_Mo_inTheWay (kk k : Nat) : Kb := fun pc ls st G => match Nat.beq pc 20 with | true => (match ls, st with | [some (.inr (0, 50)), some (.inl (.int x1)), none, some (.inl (.int x3)), some (.inl (.int x4)), some (.inl (.int x5))], [] => (L_Mo_inTheWay kk k) x1 x3 x4 x5 G | _, _ => none) | false => none
theorem R_Mo_inTheWay (kk : Nat) (a0 : Int32) (a1 : Int32) (G : GS) : ai_run T_Mo_inTheWay (call_Mo_inTheWay kk) (fun _ => []) 0 (bk_Mo_inTheWay kk kk) 600 0 [some (.inr (0, 50)), some (.inl (.int a0)), some (.inl (.int a1)), none, none, none] [] G 0 = D_Mo_inTheWay kk a0 a1 G := by exact rfl
theorem R_Mo_inTheWay_20 (kk k : Nat) (x1 : Int32) (x3 : Int32) (x4 : Int32) (x5 : Int32) (G : GS) : ai_step T_Mo_inTheWay (call_Mo_inTheWay kk) (fun _ => []) 0 (ai_run T_Mo_inTheWay (call_Mo_inTheWay kk) (fun _ => []) 0 (bk_Mo_inTheWay kk k) 600) 20 (.iload 5, 2, 0, [2], true, []) [some (.inr (0, 50)), some (.inl (.int x1)), none, some (.inl (.int x3)), some (.inl (.int x4)), some (.inl (.int x5))] [] G 0 = (L_Mo_inTheWay kk (k + 1)) x1 x3 x4 x5 G := by exact rfl
def T_Mo_pillowsInTheWay : Tb := fun pc => match Nat.ble 17 pc with | true => (match Nat.ble 26 pc with | true => (match Nat.ble 29 pc with | true => (match Nat.ble 30 pc with | true => (match Nat.ble 33 pc with | true => (match Nat.beq pc 33 with | true => some (.ireturn, 1, 0, [], false, []) | false => none) | false => (match Nat.beq pc 30 with | true => some (.invokevirtual 169, 3, 3604505, [], false, []) | false => none)) | false => (match Nat.beq pc 29 with | true => some (.irem, 1, 0, [], false, []) | false => none)) | false => (match Nat.ble 27 pc with | true => (match Nat.ble 28 pc with | true => (match Nat.beq pc 28 with | true => some (.iconst 5, 1, 0, [], false, []) | false => none) | false => (match Nat.beq pc 27 with | true => some (.iload_n 2, 1, 0, [], false, []) | false => none)) | false => (match Nat.beq pc 26 with | true => some (.idiv, 1, 0, [], false, []) | false => none))) | false => (match Nat.ble 23 pc with | true => (match Nat.ble 24 pc with | true => (match Nat.ble 25 pc with | true => (match Nat.beq pc 25 with | true => some (.iconst 5, 1, 0, [], false, []) | false => none) | false => (match Nat.beq pc 24 with | true => some (.iload_n 2, 1, 0, [], false, []) | false => none)) | false => (match Nat.beq pc 23 with | true => some (.aload_n 0, 1, 0, [], false, []) | false => none)) | false => (match Nat.ble 20 pc with | true => (match Nat.beq pc 20 with | true => some (.goto (13), 3, 33, [], false, []) | false => none) | false => (match Nat.beq pc 17 with | true => some (.invokevirtual 92, 3, 2523153, [], false, []) | false => none)))) | false => (match Nat.ble 7 pc with | true => (match Nat.ble 12 pc with | true => (match Nat.ble 15 pc with | true => (match Nat.ble 16 pc with | true => (match Nat.beq pc 16 with | true => some (.iconst 1, 1, 0, [], false, []) | false => none) | false => (match Nat.beq pc 15 with | true => some (.aload_n 0, 1, 0, [], false, []) | false => none)) | false => (match Nat.beq pc 12 with | true => some (.ifCond .ge (11), 3, 23, [], false, []) | false => none)) | false => (match Nat.ble 10 pc with | true => (match Nat.ble 11 pc with | true => (match Nat.beq pc 11 with | true => some (.iload_n 2, 1, 0, [], false, []) | false => none) | false => (match Nat.beq pc 10 with | true => some (.istore_n 2, 1, 0, [], false, []) | false => none)) | false => (match Nat.beq pc 7 with | true => some (.invokevirtual 147, 3, 3227665, [], false, []) | false => none))) | false => (match Nat.ble 2 pc with | true => (match Nat.ble 5 pc with | true => (match Nat.ble 6 pc with | true => (match Nat.beq pc 6 with | true => some (.iload_n 1, 1, 0, [], false, []) | false => none) | false => (match Nat.beq pc 5 with | true => some (.aload_n 0, 1, 0, [], false, []) | false => none)) | false => (match Nat.beq pc 2 with | true => some (.putfield 1, 3, 448, [], false, []) | false => none)) | false => (match Nat.ble 1 pc with | true => (match Nat.beq pc 1 with | true => some (.iconst 0, 1, 0, [], false, []) | false => none) | false => (match Nat.beq pc 0 with | true => some (.aload_n 0, 1, 0, [], false, []) | false => none))))
def call_Mo_pillowsInTheWay (kk : Nat) : Nat → List AV → GS → Res := fun id a G => match Nat.ble 197 id with | true => (match Nat.ble 220 id with | true => (match Nat.beq id 220 with | true => A_Mo_inTheWay kk a G | false => none) | false => (match Nat.beq id 197 with | true => A_Mo_placeOf kk a G | false => none)) | false => (match Nat.beq id 154 with | true => A_Mo_fails kk a G | false => none)
def bk_Mo_pillowsInTheWay (kk k : Nat) : Kb := fun _ _ _ _ => none
theorem R_Mo_pillowsInTheWay (kk : Nat) (a0 : Int32) (G : GS) : ai_run T_Mo_pillowsInTheWay (call_Mo_pillowsInTheWay kk) (fun _ => []) 0 (bk_Mo_pillowsInTheWay kk kk) 600 0 [some (.inr (0, 50)), some (.inl (.int a0)), none] [] G 0 = D_Mo_pillowsInTheWay kk a0 G := by exact rfl
def T_Mo_pairsInTheWay : Tb := fun pc => match Nat.ble 24 pc with | true => (match Nat.ble 34 pc with | true => (match Nat.ble 42 pc with | true => (match Nat.ble 48 pc with | true => (match Nat.ble 51 pc with | true => (match Nat.ble 52 pc with | true => (match Nat.beq pc 52 with | true => some (.ireturn, 1, 0, [], false, []) | false => none) | false => (match Nat.beq pc 51 with | true => some (.iload_n 1, 1, 0, [], false, []) | false => none)) | false => (match Nat.beq pc 48 with | true => some (.goto (-39), 3, 9, [], false, []) | false => none)) | false => (match Nat.ble 45 pc with | true => (match Nat.beq pc 45 with | true => some (.iinc 2 (1), 3, 0, [], false, []) | false => none) | false => (match Nat.beq pc 42 with | true => some (.goto (-25), 3, 17, [], false, []) | false => none))) | false => (match Nat.ble 38 pc with | true => (match Nat.ble 39 pc with | true => (match Nat.beq pc 39 with | true => some (.iinc 3 (1), 3, 0, [], false, []) | false => none) | false => (match Nat.beq pc 38 with | true => some (.istore_n 1, 1, 0, [], false, []) | false => none)) | false => (match Nat.ble 37 pc with | true => (match Nat.beq pc 37 with | true => some (.iadd, 1, 0, [], false, []) | false => none) | false => (match Nat.beq pc 34 with | true => some (.invokevirtual 169, 3, 3604505, [], false, []) | false => none)))) | false => (match Nat.ble 30 pc with | true => (match Nat.ble 32 pc with | true => (match Nat.ble 33 pc with | true => (match Nat.beq pc 33 with | true => some (.iload_n 3, 1, 0, [], false, []) | false => none) | false => (match Nat.beq pc 32 with | true => some (.iload_n 2, 1, 0, [], false, []) | false => none)) | false => (match Nat.ble 31 pc with | true => (match Nat.beq pc 31 with | true => some (.aload_n 0, 1, 0, [], false, []) | false => none) | false => (match Nat.beq pc 30 with | true => some (.iload_n 1, 1, 0, [], false, []) | false => none))) | false => (match Nat.ble 26 pc with | true => (match Nat.ble 27 pc with | true => (match Nat.beq pc 27 with | true => some (.if_icmp .ge (18), 3, 45, [], false, []) | false => none) | false => (match Nat.beq pc 26 with | true => some (.iaload, 1, 0, [], false, []) | false => none)) | false => (match Nat.ble 25 pc with | true => (match Nat.beq pc 25 with | true => some (.iadd, 1, 0, [], false, []) | false => none) | false => (match Nat.beq pc 24 with | true => some (.iload_n 2, 1, 0, [], false, []) | false => none))))) | false => (match Nat.ble 10 pc with | true => (match Nat.ble 17 pc with | true => (match Nat.ble 19 pc with | true => (match Nat.ble 22 pc with | true => (match Nat.beq pc 22 with | true => some (.bipush (9), 2, 0, [], false, []) | false => none) | false => (match Nat.beq pc 19 with | true => some (.getfield 13, 3, 450, [], false, []) | false => none)) | false => (match Nat.ble 18 pc with | true => (match Nat.beq pc 18 with | true => some (.aload_n 0, 1, 0, [], false, []) | false => none) | false => (match Nat.beq pc 17 with | true => some (.iload_n 3, 1, 0, [], true, []) | false => none))) | false => (match Nat.ble 15 pc with | true => (match Nat.ble 16 pc with | true => (match Nat.beq pc 16 with | true => some (.istore_n 3, 1, 0, [], false, []) | false => none) | false => (match Nat.beq pc 15 with | true => some (.iconst 0, 1, 0, [], false, []) | false => none)) | false => (match Nat.ble 12 pc with | true => (match Nat.beq pc 12 with | true => some (.if_icmp .ge (39), 3, 51, [], false, []) | false => none) | false => (match Nat.beq pc 10 with | true => some (.bipush (7), 2, 0, [], false, []) | false => none)))) | false => (match Nat.ble 6 pc with | true => (match Nat.ble 8 pc with | true => (match Nat.ble 9 pc with | true => (match Nat.beq pc 9 with | true => some (.iload_n 2, 1, 0, [3], true, []) | false => none) | false => (match Nat.beq pc 8 with | true => some (.istore_n 2, 1, 0, [], false, []) | false => none)) | false => (match Nat.ble 7 pc with | true => (match Nat.beq pc 7 with | true => some (.iconst 0, 1, 0, [], false, []) | false => none) | false => (match Nat.beq pc 6 with | true => some (.istore_n 1, 1, 0, [], false, []) | false => none))) | false => (match Nat.ble 2 pc with | true => (match Nat.ble 5 pc with | true => (match Nat.beq pc 5 with | true => some (.iconst 0, 1, 0, [], false, []) | false => none) | false => (match Nat.beq pc 2 with | true => some (.putfield 1, 3, 448, [], false, []) | false => none)) | false => (match Nat.ble 1 pc with | true => (match Nat.beq pc 1 with | true => some (.iconst 0, 1, 0, [], false, []) | false => none) | false => (match Nat.beq pc 0 with | true => some (.aload_n 0, 1, 0, [], false, []) | false => none)))))
def call_Mo_pairsInTheWay (kk : Nat) : Nat → List AV → GS → Res := fun id a G => match Nat.beq id 220 with | true => A_Mo_inTheWay kk a G | false => none
def bk_Mo_pairsInTheWay (kk k : Nat) : Kb := fun pc ls st G => match Nat.beq pc 9 with | true => (match ls, st with | [some (.inr (0, 50)), some (.inl (.int x1)), some (.inl (.int x2)), none], [] => (L_Mo_pairsInTheWay kk k).1 x1 x2 G | _, _ => none) | false => match Nat.beq pc 17 with | true => (match ls, st with | [some (.inr (0, 50)), some (.inl (.int x1)), some (.inl (.int x2)), some (.inl (.int x3))], [] => (L_Mo_pairsInTheWay kk k).2 x1 x2 x3 G | _, _ => none) | false => none
theorem R_Mo_pairsInTheWay (kk : Nat) (G : GS) : ai_run T_Mo_pairsInTheWay (call_Mo_pairsInTheWay kk) (fun _ => []) 0 (bk_Mo_pairsInTheWay kk kk) 600 0 [some (.inr (0, 50)), none, none, none] [] G 0 = D_Mo_pairsInTheWay kk G := by exact rfl
theorem R_Mo_pairsInTheWay_9 (kk k : Nat) (x1 : Int32) (x2 : Int32) (G : GS) : ai_step T_Mo_pairsInTheWay (call_Mo_pairsInTheWay kk) (fun _ => []) 0 (ai_run T_Mo_pairsInTheWay (call_Mo_pairsInTheWay kk) (fun _ => []) 0 (bk_Mo_pairsInTheWay kk k) 600) 9 (.iload_n 2, 1, 0, [3], true, []) [some (.inr (0, 50)), some (.inl (.int x1)), some (.inl (.int x2)), none] [] G 0 = (L_Mo_pairsInTheWay kk (k + 1)).1 x1 x2 G := by exact rfl
theorem R_Mo_pairsInTheWay_17 (kk k : Nat) (x1 : Int32) (x2 : Int32) (x3 : Int32) (G : GS) : ai_step T_Mo_pairsInTheWay (call_Mo_pairsInTheWay kk) (fun _ => []) 0 (ai_run T_Mo_pairsInTheWay (call_Mo_pairsInTheWay kk) (fun _ => []) 0 (bk_Mo_pairsInTheWay kk k) 600) 17 (.iload_n 3, 1, 0, [], true, []) [some (.inr (0, 50)), some (.inl (.int x1)), some (.inl (.int x2)), some (.inl (.int x3))] [] G 0 = (L_Mo_pairsInTheWay kk (k + 1)).2 x1 x2 x3 G := by exact rfl
def T_Mo_pairsInTheWayByStacks : Tb := fun pc => match Nat.ble 1 pc with | true => (match Nat.ble 4 pc with | true => (match Nat.beq pc 4 with | true => some (.ireturn, 1, 0, [], false, []) | false => none) | false => (match Nat.beq pc 1 with | true => some (.invokevirtual 172, 3, 3637257, [], false, []) | false => none)) | false => (match Nat.beq pc 0 with | true => some (.aload_n 0, 1, 0, [], false, []) | false => none)
def call_Mo_pairsInTheWayByStacks (kk : Nat) : Nat → List AV → GS → Res := fun id a G => match Nat.beq id 222 with | true => A_Mo_pairsInTheWay kk a G | false => none
def bk_Mo_pairsInTheWayByStacks (kk k : Nat) : Kb := fun _ _ _ _ => none
theorem R_Mo_pairsInTheWayByStacks (kk : Nat) (G : GS) : ai_run T_Mo_pairsInTheWayByStacks (call_Mo_pairsInTheWayByStacks kk) (fun _ => []) 0 (bk_Mo_pairsInTheWayByStacks kk kk) 600 0 [some (.inr (0, 50))] [] G 0 = D_Mo_pairsInTheWayByStacks kk G := by exact rfl
def T_Mo_isAhead : Tb := fun pc => match Nat.ble 51 pc with | true => (match Nat.ble 91 pc with | true => (match Nat.ble 103 pc with | true => (match Nat.ble 108 pc with | true => (match Nat.ble 115 pc with | true => (match Nat.ble 118 pc with | true => (match Nat.ble 119 pc with | true => (match Nat.beq pc 119 with | true => some (.ireturn, 1, 0, [], false, []) | false => none) | false => (match Nat.beq pc 118 with | true => some (.iconst 0, 1, 0, [], false, []) | false => none)) | false => (match Nat.beq pc 115 with | true => some (.goto (4), 3, 119, [], false, []) | false => none)) | false => (match Nat.ble 111 pc with | true => (match Nat.ble 114 pc with | true => (match Nat.beq pc 114 with | true => some (.iconst 1, 1, 0, [], false, []) | false => none) | false => (match Nat.beq pc 111 with | true => some (.if_icmp .ge (7), 3, 118, [], false, []) | false => none)) | false => (match Nat.beq pc 108 with | true => some (.invokevirtual 58, 3, 2654241, [], false, []) | false => none))) | false => (match Nat.ble 105 pc with | true => (match Nat.ble 106 pc with | true => (match Nat.ble 107 pc with | true => (match Nat.beq pc 107 with | true => some (.iconst 0, 1, 0, [], false, []) | false => none) | false => (match Nat.beq pc 106 with | true => some (.irem, 1, 0, [], false, []) | false => none)) | false => (match Nat.beq pc 105 with | true => some (.iconst 5, 1, 0, [], false, []) | false => none)) | false => (match Nat.ble 104 pc with | true => (match Nat.beq pc 104 with | true => some (.iload_n 2, 1, 0, [], false, []) | false => none) | false => (match Nat.beq pc 103 with | true => some (.idiv, 1, 0, [], false, []) | false => none)))) | false => (match Nat.ble 96 pc with | true => (match Nat.ble 100 pc with | true => (match Nat.ble 101 pc with | true => (match Nat.ble 102 pc with | true => (match Nat.beq pc 102 with | true => some (.iconst 5, 1, 0, [], false, []) | false => none) | false => (match Nat.beq pc 101 with | true => some (.iload_n 2, 1, 0, [], false, []) | false => none)) | false => (match Nat.beq pc 100 with | true => some (.aload_n 0, 1, 0, [], false, []) | false => none)) | false => (match Nat.ble 97 pc with | true => (match Nat.beq pc 97 with | true => some (.invokevirtual 58, 3, 2654241, [], false, []) | false => none) | false => (match Nat.beq pc 96 with | true => some (.iconst 0, 1, 0, [], false, []) | false => none))) | false => (match Nat.ble 93 pc with | true => (match Nat.ble 94 pc with | true => (match Nat.ble 95 pc with | true => (match Nat.beq pc 95 with | true => some (.irem, 1, 0, [], false, []) | false => none) | false => (match Nat.beq pc 94 with | true => some (.iconst 5, 1, 0, [], false, []) | false => none)) | false => (match Nat.beq pc 93 with | true => some (.iload_n 1, 1, 0, [], false, []) | false => none)) | false => (match Nat.ble 92 pc with | true => (match Nat.beq pc 92 with | true => some (.idiv, 1, 0, [], false, []) | false => none) | false => (match Nat.beq pc 91 with | true => some (.iconst 5, 1, 0, [], false, []) | false => none))))) | false => (match Nat.ble 70 pc with | true => (match Nat.ble 81 pc with | true => (match Nat.ble 86 pc with | true => (match Nat.ble 89 pc with | true => (match Nat.ble 90 pc with | true => (match Nat.beq pc 90 with | true => some (.iload_n 1, 1, 0, [], false, []) | false => none) | false => (match Nat.beq pc 89 with | true => some (.aload_n 0, 1, 0, [], false, []) | false => none)) | false => (match Nat.beq pc 86 with | true => some (.goto (33), 3, 119, [], false, []) | false => none)) | false => (match Nat.ble 82 pc with | true => (match Nat.ble 85 pc with | true => (match Nat.beq pc 85 with | true => some (.iconst 0, 1, 0, [], false, []) | false => none) | false => (match Nat.beq pc 82 with | true => some (.goto (37), 3, 119, [], false, []) | false => none)) | false => (match Nat.beq pc 81 with | true => some (.iconst 1, 1, 0, [], false, []) | false => none))) | false => (match Nat.ble 73 pc with | true => (match Nat.ble 76 pc with | true => (match Nat.ble 78 pc with | true => (match Nat.beq pc 78 with | true => some (.ifCond .le (7), 3, 85, [], false, []) | false => none) | false => (match Nat.beq pc 76 with | true => some (.iload 4, 2, 0, [], false, []) | false => none)) | false => (match Nat.beq pc 73 with | true => some (.ifCond .eq (16), 3, 89, [], false, []) | false => none)) | false => (match Nat.ble 71 pc with | true => (match Nat.beq pc 71 with | true => some (.iload 4, 2, 0, [], false, []) | false => none) | false => (match Nat.beq pc 70 with | true => some (.ireturn, 1, 0, [], false, []) | false => none)))) | false => (match Nat.ble 61 pc with | true => (match Nat.ble 65 pc with | true => (match Nat.ble 66 pc with | true => (match Nat.ble 69 pc with | true => (match Nat.beq pc 69 with | true => some (.iconst 0, 1, 0, [], false, []) | false => none) | false => (match Nat.beq pc 66 with | true => some (.goto (4), 3, 70, [], false, []) | false => none)) | false => (match Nat.beq pc 65 with | true => some (.iconst 1, 1, 0, [], false, []) | false => none)) | false => (match Nat.ble 62 pc with | true => (match Nat.beq pc 62 with | true => some (.ifCond .le (7), 3, 69, [], false, []) | false => none) | false => (match Nat.beq pc 61 with | true => some (.iload_n 3, 1, 0, [], false, []) | false => none))) | false => (match Nat.ble 55 pc with | true => (match Nat.ble 57 pc with | true => (match Nat.ble 58 pc with | true => (match Nat.beq pc 58 with | true => some (.ifCond .eq (13), 3, 71, [], false, []) | false => none) | false => (match Nat.beq pc 57 with | true => some (.iload_n 3, 1, 0, [], false, []) | false => none)) | false => (match Nat.beq pc 55 with | true => some (.istore 4, 2, 0, [], false, []) | false => none)) | false => (match Nat.ble 54 pc with | true => (match Nat.beq pc 54 with | true => some (.isub, 1, 0, [], false, []) | false => none) | false => (match Nat.beq pc 51 with | true => some (.invokevirtual 58, 3, 2654241, [], false, []) | false => none)))))) | false => (match Nat.ble 24 pc with | true => (match Nat.ble 38 pc with | true => (match Nat.ble 45 pc with | true => (match Nat.ble 48 pc with | true => (match Nat.ble 49 pc with | true => (match Nat.ble 50 pc with | true => (match Nat.beq pc 50 with | true => some (.iconst 3, 1, 0, [], false, []) | false => none) | false => (match Nat.beq pc 49 with | true => some (.irem, 1, 0, [], false, []) | false => none)) | false => (match Nat.beq pc 48 with | true => some (.iconst 5, 1, 0, [], false, []) | false => none)) | false => (match Nat.ble 46 pc with | true => (match Nat.ble 47 pc with | true => (match Nat.beq pc 47 with | true => some (.iload_n 1, 1, 0, [], false, []) | false => none) | false => (match Nat.beq pc 46 with | true => some (.idiv, 1, 0, [], false, []) | false => none)) | false => (match Nat.beq pc 45 with | true => some (.iconst 5, 1, 0, [], false, []) | false => none))) | false => (match Nat.ble 40 pc with | true => (match Nat.ble 43 pc with | true => (match Nat.ble 44 pc with | true => (match Nat.beq pc 44 with | true => some (.iload_n 1, 1, 0, [], false, []) | false => none) | false => (match Nat.beq pc 43 with | true => some (.aload_n 0, 1, 0, [], false, []) | false => none)) | false => (match Nat.beq pc 40 with | true => some (.invokevirtual 58, 3, 2654241, [], false, []) | false => none)) | false => (match Nat.ble 39 pc with | true => (match Nat.beq pc 39 with | true => some (.iconst 3, 1, 0, [], false, []) | false => none) | false => (match Nat.beq pc 38 with | true => some (.irem, 1, 0, [], false, []) | false => none)))) | false => (match Nat.ble 33 pc with | true => (match Nat.ble 35 pc with | true => (match Nat.ble 36 pc with | true => (match Nat.ble 37 pc with | true => (match Nat.beq pc 37 with | true => some (.iconst 5, 1, 0, [], false, []) | false => none) | false => (match Nat.beq pc 36 with | true => some (.iload_n 2, 1, 0, [], false, []) | false => none)) | false => (match Nat.beq pc 35 with | true => some (.idiv, 1, 0, [], false, []) | false => none)) | false => (match Nat.ble 34 pc with | true => (match Nat.beq pc 34 with | true => some (.iconst 5, 1, 0, [], false, []) | false => none) | false => (match Nat.beq pc 33 with | true => some (.iload_n 2, 1, 0, [], false, []) | false => none))) | false => (match Nat.ble 30 pc with | true => (match Nat.ble 31 pc with | true => (match Nat.ble 32 pc with | true => (match Nat.beq pc 32 with | true => some (.aload_n 0, 1, 0, [], false, []) | false => none) | false => (match Nat.beq pc 31 with | true => some (.istore_n 3, 1, 0, [], false, []) | false => none)) | false => (match Nat.beq pc 30 with | true => some (.isub, 1, 0, [], false, []) | false => none)) | false => (match Nat.ble 27 pc with | true => (match Nat.beq pc 27 with | true => some (.invokevirtual 166, 3, 3555345, [], false, []) | false => none) | false => (match Nat.beq pc 24 with | true => some (.invokevirtual 58, 3, 2654241, [], false, []) | false => none))))) | false => (match Nat.ble 12 pc with | true => (match Nat.ble 19 pc with | true => (match Nat.ble 21 pc with | true => (match Nat.ble 22 pc with | true => (match Nat.ble 23 pc with | true => (match Nat.beq pc 23 with | true => some (.iconst 2, 1, 0, [], false, []) | false => none) | false => (match Nat.beq pc 22 with | true => some (.irem, 1, 0, [], false, []) | false => none)) | false => (match Nat.beq pc 21 with | true => some (.iconst 5, 1, 0, [], false, []) | false => none)) | false => (match Nat.ble 20 pc with | true => (match Nat.beq pc 20 with | true => some (.iload_n 1, 1, 0, [], false, []) | false => none) | false => (match Nat.beq pc 19 with | true => some (.idiv, 1, 0, [], false, []) | false => none))) | false => (match Nat.ble 16 pc with | true => (match Nat.ble 17 pc with | true => (match Nat.ble 18 pc with | true => (match Nat.beq pc 18 with | true => some (.iconst 5, 1, 0, [], false, []) | false => none) | false => (match Nat.beq pc 17 with | true => some (.iload_n 1, 1, 0, [], false, []) | false => none)) | false => (match Nat.beq pc 16 with | true => some (.aload_n 0, 1, 0, [], false, []) | false => none)) | false => (match Nat.ble 15 pc with | true => (match Nat.beq pc 15 with | true => some (.aload_n 0, 1, 0, [], false, []) | false => none) | false => (match Nat.beq pc 12 with | true => some (.invokevirtual 166, 3, 3555345, [], false, []) | false => none)))) | false => (match Nat.ble 5 pc with | true => (match Nat.ble 7 pc with | true => (match Nat.ble 8 pc with | true => (match Nat.ble 9 pc with | true => (match Nat.beq pc 9 with | true => some (.invokevirtual 58, 3, 2654241, [], false, []) | false => none) | false => (match Nat.beq pc 8 with | true => some (.iconst 2, 1, 0, [], false, []) | false => none)) | false => (match Nat.beq pc 7 with | true => some (.irem, 1, 0, [], false, []) | false => none)) | false => (match Nat.ble 6 pc with | true => (match Nat.beq pc 6 with | true => some (.iconst 5, 1, 0, [], false, []) | false => none) | false => (match Nat.beq pc 5 with | true => some (.iload_n 2, 1, 0, [], false, []) | false => none))) | false => (match Nat.ble 2 pc with | true => (match Nat.ble 3 pc with | true => (match Nat.ble 4 pc with | true => (match Nat.beq pc 4 with | true => some (.idiv, 1, 0, [], false, []) | false => none) | false => (match Nat.beq pc 3 with | true => some (.iconst 5, 1, 0, [], false, []) | false => none)) | false => (match Nat.beq pc 2 with | true => some (.iload_n 2, 1, 0, [], false, []) | false => none)) | false => (match Nat.ble 1 pc with | true => (match Nat.beq pc 1 with | true => some (.aload_n 0, 1, 0, [], false, []) | false => none) | false => (match Nat.beq pc 0 with | true => some (.aload_n 0, 1, 0, [], false, []) | false => none))))))
def call_Mo_isAhead (kk : Nat) : Nat → List AV → GS → Res := fun id a G => match Nat.ble 217 id with | true => (match Nat.beq id 217 with | true => A_Mo_legs kk a G | false => none) | false => (match Nat.beq id 162 with | true => A_Mo_at kk a G | false => none)
def bk_Mo_isAhead (kk k : Nat) : Kb := fun _ _ _ _ => none
theorem R_Mo_isAhead (kk : Nat) (a0 : Int32) (a1 : Int32) (G : GS) : ai_run T_Mo_isAhead (call_Mo_isAhead kk) (fun _ => []) 0 (bk_Mo_isAhead kk kk) 600 0 [some (.inr (0, 50)), some (.inl (.int a0)), some (.inl (.int a1)), none, none] [] G 0 = D_Mo_isAhead kk a0 a1 G := by exact rfl
def T_Mo_isTaken : Tb := fun pc => match Nat.ble 11 pc with | true => (match Nat.ble 17 pc with | true => (match Nat.ble 21 pc with | true => (match Nat.ble 22 pc with | true => (match Nat.beq pc 22 with | true => some (.ireturn, 1, 0, [], false, []) | false => none) | false => (match Nat.beq pc 21 with | true => some (.iconst 0, 1, 0, [], false, []) | false => none)) | false => (match Nat.ble 18 pc with | true => (match Nat.beq pc 18 with | true => some (.goto (4), 3, 22, [], false, []) | false => none) | false => (match Nat.beq pc 17 with | true => some (.iconst 1, 1, 0, [], false, []) | false => none))) | false => (match Nat.ble 13 pc with | true => (match Nat.ble 14 pc with | true => (match Nat.beq pc 14 with | true => some (.if_icmp .ge (7), 3, 21, [], false, []) | false => none) | false => (match Nat.beq pc 13 with | true => some (.iaload, 1, 0, [], false, []) | false => none)) | false => (match Nat.ble 12 pc with | true => (match Nat.beq pc 12 with | true => some (.iadd, 1, 0, [], false, []) | false => none) | false => (match Nat.beq pc 11 with | true => some (.idiv, 1, 0, [], false, []) | false => none)))) | false => (match Nat.ble 4 pc with | true => (match Nat.ble 9 pc with | true => (match Nat.ble 10 pc with | true => (match Nat.beq pc 10 with | true => some (.iconst 5, 1, 0, [], false, []) | false => none) | false => (match Nat.beq pc 9 with | true => some (.iload_n 1, 1, 0, [], false, []) | false => none)) | false => (match Nat.ble 7 pc with | true => (match Nat.beq pc 7 with | true => some (.bipush (9), 2, 0, [], false, []) | false => none) | false => (match Nat.beq pc 4 with | true => some (.getfield 13, 3, 450, [], false, []) | false => none))) | false => (match Nat.ble 2 pc with | true => (match Nat.ble 3 pc with | true => (match Nat.beq pc 3 with | true => some (.aload_n 0, 1, 0, [], false, []) | false => none) | false => (match Nat.beq pc 2 with | true => some (.irem, 1, 0, [], false, []) | false => none)) | false => (match Nat.ble 1 pc with | true => (match Nat.beq pc 1 with | true => some (.iconst 5, 1, 0, [], false, []) | false => none) | false => (match Nat.beq pc 0 with | true => some (.iload_n 1, 1, 0, [], false, []) | false => none))))
def call_Mo_isTaken (kk : Nat) : Nat → List AV → GS → Res := fun id a G => none
def bk_Mo_isTaken (kk k : Nat) : Kb := fun _ _ _ _ => none
theorem R_Mo_isTaken (kk : Nat) (a0 : Int32) (G : GS) : ai_run T_Mo_isTaken (call_Mo_isTaken kk) (fun _ => []) 0 (bk_Mo_isTaken kk kk) 600 0 [some (.inr (0, 50)), some (.inl (.int a0))] [] G 0 = D_Mo_isTaken kk a0 G := by exact rfl
def T_Mo_unloadableCount : Tb := fun pc => match Nat.ble 17 pc with | true => (match Nat.ble 29 pc with | true => (match Nat.ble 34 pc with | true => (match Nat.ble 37 pc with | true => (match Nat.ble 38 pc with | true => (match Nat.beq pc 38 with | true => some (.ireturn, 1, 0, [], false, []) | false => none) | false => (match Nat.beq pc 37 with | true => some (.iload_n 1, 1, 0, [], false, []) | false => none)) | false => (match Nat.beq pc 34 with | true => some (.goto (-25), 3, 9, [], false, []) | false => none)) | false => (match Nat.ble 30 pc with | true => (match Nat.ble 31 pc with | true => (match Nat.beq pc 31 with | true => some (.iinc 2 (1), 3, 0, [], false, []) | false => none) | false => (match Nat.beq pc 30 with | true => some (.istore_n 1, 1, 0, [], false, []) | false => none)) | false => (match Nat.beq pc 29 with | true => some (.iadd, 1, 0, [], false, []) | false => none))) | false => (match Nat.ble 24 pc with | true => (match Nat.ble 25 pc with | true => (match Nat.ble 28 pc with | true => (match Nat.beq pc 28 with | true => some (.iconst 0, 1, 0, [], false, []) | false => none) | false => (match Nat.beq pc 25 with | true => some (.goto (4), 3, 29, [], false, []) | false => none)) | false => (match Nat.beq pc 24 with | true => some (.iconst 1, 1, 0, [], false, []) | false => none)) | false => (match Nat.ble 18 pc with | true => (match Nat.ble 21 pc with | true => (match Nat.beq pc 21 with | true => some (.ifCond .ne (7), 3, 28, [], false, []) | false => none) | false => (match Nat.beq pc 18 with | true => some (.invokevirtual 108, 3, 2883601, [], false, []) | false => none)) | false => (match Nat.beq pc 17 with | true => some (.iload_n 2, 1, 0, [], false, []) | false => none)))) | false => (match Nat.ble 8 pc with | true => (match Nat.ble 12 pc with | true => (match Nat.ble 15 pc with | true => (match Nat.ble 16 pc with | true => (match Nat.beq pc 16 with | true => some (.aload_n 0, 1, 0, [], false, []) | false => none) | false => (match Nat.beq pc 15 with | true => some (.iload_n 1, 1, 0, [], false, []) | false => none)) | false => (match Nat.beq pc 12 with | true => some (.if_icmp .ge (25), 3, 37, [], false, []) | false => none)) | false => (match Nat.ble 9 pc with | true => (match Nat.ble 10 pc with | true => (match Nat.beq pc 10 with | true => some (.bipush (7), 2, 0, [], false, []) | false => none) | false => (match Nat.beq pc 9 with | true => some (.iload_n 2, 1, 0, [], true, []) | false => none)) | false => (match Nat.beq pc 8 with | true => some (.istore_n 2, 1, 0, [], false, []) | false => none))) | false => (match Nat.ble 5 pc with | true => (match Nat.ble 6 pc with | true => (match Nat.ble 7 pc with | true => (match Nat.beq pc 7 with | true => some (.iconst 0, 1, 0, [], false, []) | false => none) | false => (match Nat.beq pc 6 with | true => some (.istore_n 1, 1, 0, [], false, []) | false => none)) | false => (match Nat.beq pc 5 with | true => some (.iconst 0, 1, 0, [], false, []) | false => none)) | false => (match Nat.ble 1 pc with | true => (match Nat.ble 2 pc with | true => (match Nat.beq pc 2 with | true => some (.putfield 1, 3, 448, [], false, []) | false => none) | false => (match Nat.beq pc 1 with | true => some (.iconst 0, 1, 0, [], false, []) | false => none)) | false => (match Nat.beq pc 0 with | true => some (.aload_n 0, 1, 0, [], false, []) | false => none))))
def call_Mo_unloadableCount (kk : Nat) : Nat → List AV → GS → Res := fun id a G => match Nat.beq id 176 with | true => A_Mo_notUnload kk a G | false => none
def bk_Mo_unloadableCount (kk k : Nat) : Kb := fun pc ls st G => match Nat.beq pc 9 with | true => (match ls, st with | [some (.inr (0, 50)), some (.inl (.int x1)), some (.inl (.int x2))], [] => (L_Mo_unloadableCount kk k) x1 x2 G | _, _ => none) | false => none
theorem R_Mo_unloadableCount (kk : Nat) (G : GS) : ai_run T_Mo_unloadableCount (call_Mo_unloadableCount kk) (fun _ => []) 0 (bk_Mo_unloadableCount kk kk) 600 0 [some (.inr (0, 50)), none, none] [] G 0 = D_Mo_unloadableCount kk G := by exact rfl
theorem R_Mo_unloadableCount_9 (kk k : Nat) (x1 : Int32) (x2 : Int32) (G : GS) : ai_step T_Mo_unloadableCount (call_Mo_unloadableCount kk) (fun _ => []) 0 (ai_run T_Mo_unloadableCount (call_Mo_unloadableCount kk) (fun _ => []) 0 (bk_Mo_unloadableCount kk k) 600) 9 (.iload_n 2, 1, 0, [], true, []) [some (.inr (0, 50)), some (.inl (.int x1)), some (.inl (.int x2))] [] G 0 = (L_Mo_unloadableCount kk (k + 1)) x1 x2 G := by exact rfl
def T_Mo_oldestIn : Tb := fun pc => match Nat.ble 55 pc with | true => (match Nat.ble 83 pc with | true => (match Nat.ble 98 pc with | true => (match Nat.ble 106 pc with | true => (match Nat.ble 108 pc with | true => (match Nat.ble 109 pc with | true => (match Nat.ble 112 pc with | true => (match Nat.beq pc 112 with | true => some (.ireturn, 1, 0, [], false, []) | false => none) | false => (match Nat.beq pc 109 with | true => some (.invokevirtual 58, 3, 2654241, [], false, []) | false => none)) | false => (match Nat.beq pc 108 with | true => some (.iconst 0, 1, 0, [], false, []) | false => none)) | false => (match Nat.ble 107 pc with | true => (match Nat.beq pc 107 with | true => some (.iload_n 2, 1, 0, [], false, []) | false => none) | false => (match Nat.beq pc 106 with | true => some (.iload_n 1, 1, 0, [], false, []) | false => none))) | false => (match Nat.ble 102 pc with | true => (match Nat.ble 105 pc with | true => (match Nat.beq pc 105 with | true => some (.aload_n 0, 1, 0, [], false, []) | false => none) | false => (match Nat.beq pc 102 with | true => some (.goto (-62), 3, 40, [], false, []) | false => none)) | false => (match Nat.ble 99 pc with | true => (match Nat.beq pc 99 with | true => some (.iinc 3 (1), 3, 0, [], false, []) | false => none) | false => (match Nat.beq pc 98 with | true => some (.istore_n 2, 1, 0, [], false, []) | false => none)))) | false => (match Nat.ble 89 pc with | true => (match Nat.ble 91 pc with | true => (match Nat.ble 94 pc with | true => (match Nat.ble 97 pc with | true => (match Nat.beq pc 97 with | true => some (.iload_n 3, 1, 0, [], false, []) | false => none) | false => (match Nat.beq pc 94 with | true => some (.if_icmp .ge (5), 3, 99, [], false, []) | false => none)) | false => (match Nat.beq pc 91 with | true => some (.invokevirtual 58, 3, 2654241, [], false, []) | false => none)) | false => (match Nat.ble 90 pc with | true => (match Nat.beq pc 90 with | true => some (.iconst 0, 1, 0, [], false, []) | false => none) | false => (match Nat.beq pc 89 with | true => some (.iload_n 2, 1, 0, [], false, []) | false => none))) | false => (match Nat.ble 87 pc with | true => (match Nat.ble 88 pc with | true => (match Nat.beq pc 88 with | true => some (.iload_n 1, 1, 0, [], false, []) | false => none) | false => (match Nat.beq pc 87 with | true => some (.aload_n 0, 1, 0, [], false, []) | false => none)) | false => (match Nat.ble 84 pc with | true => (match Nat.beq pc 84 with | true => some (.invokevirtual 58, 3, 2654241, [], false, []) | false => none) | false => (match Nat.beq pc 83 with | true => some (.iconst 0, 1, 0, [], false, []) | false => none))))) | false => (match Nat.ble 67 pc with | true => (match Nat.ble 75 pc with | true => (match Nat.ble 80 pc with | true => (match Nat.ble 81 pc with | true => (match Nat.ble 82 pc with | true => (match Nat.beq pc 82 with | true => some (.iload_n 3, 1, 0, [], false, []) | false => none) | false => (match Nat.beq pc 81 with | true => some (.iload_n 1, 1, 0, [], false, []) | false => none)) | false => (match Nat.beq pc 80 with | true => some (.aload_n 0, 1, 0, [], false, []) | false => none)) | false => (match Nat.ble 77 pc with | true => (match Nat.beq pc 77 with | true => some (.ifCond .ne (22), 3, 99, [], false, []) | false => none) | false => (match Nat.beq pc 75 with | true => some (.iload 4, 2, 0, [], false, []) | false => none))) | false => (match Nat.ble 70 pc with | true => (match Nat.ble 72 pc with | true => (match Nat.beq pc 72 with | true => some (.ifCond .gt (25), 3, 97, [], false, []) | false => none) | false => (match Nat.beq pc 70 with | true => some (.iload 4, 2, 0, [], false, []) | false => none)) | false => (match Nat.ble 68 pc with | true => (match Nat.beq pc 68 with | true => some (.istore 4, 2, 0, [], false, []) | false => none) | false => (match Nat.beq pc 67 with | true => some (.isub, 1, 0, [], false, []) | false => none)))) | false => (match Nat.ble 61 pc with | true => (match Nat.ble 63 pc with | true => (match Nat.ble 64 pc with | true => (match Nat.beq pc 64 with | true => some (.invokevirtual 58, 3, 2654241, [], false, []) | false => none) | false => (match Nat.beq pc 63 with | true => some (.iconst 3, 1, 0, [], false, []) | false => none)) | false => (match Nat.ble 62 pc with | true => (match Nat.beq pc 62 with | true => some (.iload_n 3, 1, 0, [], false, []) | false => none) | false => (match Nat.beq pc 61 with | true => some (.iload_n 1, 1, 0, [], false, []) | false => none))) | false => (match Nat.ble 57 pc with | true => (match Nat.ble 60 pc with | true => (match Nat.beq pc 60 with | true => some (.aload_n 0, 1, 0, [], false, []) | false => none) | false => (match Nat.beq pc 57 with | true => some (.invokevirtual 58, 3, 2654241, [], false, []) | false => none)) | false => (match Nat.ble 56 pc with | true => (match Nat.beq pc 56 with | true => some (.iconst 3, 1, 0, [], false, []) | false => none) | false => (match Nat.beq pc 55 with | true => some (.iload_n 2, 1, 0, [], false, []) | false => none)))))) | false => (match Nat.ble 30 pc with | true => (match Nat.ble 41 pc with | true => (match Nat.ble 48 pc with | true => (match Nat.ble 50 pc with | true => (match Nat.ble 53 pc with | true => (match Nat.ble 54 pc with | true => (match Nat.beq pc 54 with | true => some (.iload_n 1, 1, 0, [], false, []) | false => none) | false => (match Nat.beq pc 53 with | true => some (.aload_n 0, 1, 0, [], false, []) | false => none)) | false => (match Nat.beq pc 50 with | true => some (.if_icmp .ge (55), 3, 105, [], false, []) | false => none)) | false => (match Nat.ble 49 pc with | true => (match Nat.beq pc 49 with | true => some (.iaload, 1, 0, [], false, []) | false => none) | false => (match Nat.beq pc 48 with | true => some (.iadd, 1, 0, [], false, []) | false => none))) | false => (match Nat.ble 45 pc with | true => (match Nat.ble 47 pc with | true => (match Nat.beq pc 47 with | true => some (.iload_n 1, 1, 0, [], false, []) | false => none) | false => (match Nat.beq pc 45 with | true => some (.bipush (9), 2, 0, [], false, []) | false => none)) | false => (match Nat.ble 42 pc with | true => (match Nat.beq pc 42 with | true => some (.getfield 13, 3, 450, [], false, []) | false => none) | false => (match Nat.beq pc 41 with | true => some (.aload_n 0, 1, 0, [], false, []) | false => none)))) | false => (match Nat.ble 36 pc with | true => (match Nat.ble 38 pc with | true => (match Nat.ble 39 pc with | true => (match Nat.ble 40 pc with | true => (match Nat.beq pc 40 with | true => some (.iload_n 3, 1, 0, [4], true, []) | false => none) | false => (match Nat.beq pc 39 with | true => some (.istore_n 3, 1, 0, [], false, []) | false => none)) | false => (match Nat.beq pc 38 with | true => some (.iconst 1, 1, 0, [], false, []) | false => none)) | false => (match Nat.ble 37 pc with | true => (match Nat.beq pc 37 with | true => some (.istore_n 2, 1, 0, [], false, []) | false => none) | false => (match Nat.beq pc 36 with | true => some (.iconst 0, 1, 0, [], false, []) | false => none))) | false => (match Nat.ble 32 pc with | true => (match Nat.ble 35 pc with | true => (match Nat.beq pc 35 with | true => some (.ireturn, 1, 0, [], false, []) | false => none) | false => (match Nat.beq pc 32 with | true => some (.invokevirtual 92, 3, 2523153, [], false, []) | false => none)) | false => (match Nat.ble 31 pc with | true => (match Nat.beq pc 31 with | true => some (.iconst 2, 1, 0, [], false, []) | false => none) | false => (match Nat.beq pc 30 with | true => some (.aload_n 0, 1, 0, [], false, []) | false => none))))) | false => (match Nat.ble 14 pc with | true => (match Nat.ble 22 pc with | true => (match Nat.ble 25 pc with | true => (match Nat.ble 26 pc with | true => (match Nat.ble 27 pc with | true => (match Nat.beq pc 27 with | true => some (.ifCond .ne (9), 3, 36, [], false, []) | false => none) | false => (match Nat.beq pc 26 with | true => some (.iaload, 1, 0, [], false, []) | false => none)) | false => (match Nat.beq pc 25 with | true => some (.iadd, 1, 0, [], false, []) | false => none)) | false => (match Nat.ble 24 pc with | true => (match Nat.beq pc 24 with | true => some (.iload_n 1, 1, 0, [], false, []) | false => none) | false => (match Nat.beq pc 22 with | true => some (.bipush (9), 2, 0, [], false, []) | false => none))) | false => (match Nat.ble 18 pc with | true => (match Nat.ble 19 pc with | true => (match Nat.beq pc 19 with | true => some (.getfield 13, 3, 450, [], false, []) | false => none) | false => (match Nat.beq pc 18 with | true => some (.aload_n 0, 1, 0, [], false, []) | false => none)) | false => (match Nat.ble 17 pc with | true => (match Nat.beq pc 17 with | true => some (.ireturn, 1, 0, [], false, []) | false => none) | false => (match Nat.beq pc 14 with | true => some (.invokevirtual 92, 3, 2523153, [], false, []) | false => none)))) | false => (match Nat.ble 6 pc with | true => (match Nat.ble 12 pc with | true => (match Nat.ble 13 pc with | true => (match Nat.beq pc 13 with | true => some (.iconst 1, 1, 0, [], false, []) | false => none) | false => (match Nat.beq pc 12 with | true => some (.aload_n 0, 1, 0, [], false, []) | false => none)) | false => (match Nat.ble 9 pc with | true => (match Nat.beq pc 9 with | true => some (.ifCond .ne (9), 3, 18, [], false, []) | false => none) | false => (match Nat.beq pc 6 with | true => some (.invokestatic 74, 3, 2637833, [], false, []) | false => none))) | false => (match Nat.ble 2 pc with | true => (match Nat.ble 5 pc with | true => (match Nat.beq pc 5 with | true => some (.iload_n 1, 1, 0, [], false, []) | false => none) | false => (match Nat.beq pc 2 with | true => some (.putfield 1, 3, 448, [], false, []) | false => none)) | false => (match Nat.ble 1 pc with | true => (match Nat.beq pc 1 with | true => some (.iconst 0, 1, 0, [], false, []) | false => none) | false => (match Nat.beq pc 0 with | true => some (.aload_n 0, 1, 0, [], false, []) | false => none))))))
def call_Mo_oldestIn (kk : Nat) : Nat → List AV → GS → Res := fun id a G => match Nat.ble 161 id with | true => (match Nat.ble 162 id with | true => (match Nat.beq id 162 with | true => A_Mo_at kk a G | false => none) | false => (match Nat.beq id 161 with | true => A_Mo_isBay kk a G | false => none)) | false => (match Nat.beq id 154 with | true => A_Mo_fails kk a G | false => none)
def bk_Mo_oldestIn (kk k : Nat) : Kb := fun pc ls st G => match Nat.beq pc 40 with | true => (match ls, st with | [some (.inr (0, 50)), some (.inl (.int x1)), some (.inl (.int x2)), some (.inl (.int x3)), none], [] => (L_Mo_oldestIn kk k) x1 x2 x3 G | _, _ => none) | false => none
theorem R_Mo_oldestIn (kk : Nat) (a0 : Int32) (G : GS) : ai_run T_Mo_oldestIn (call_Mo_oldestIn kk) (fun _ => []) 0 (bk_Mo_oldestIn kk kk) 600 0 [some (.inr (0, 50)), some (.inl (.int a0)), none, none, none] [] G 0 = D_Mo_oldestIn kk a0 G := by exact rfl
theorem R_Mo_oldestIn_40 (kk k : Nat) (x1 : Int32) (x2 : Int32) (x3 : Int32) (G : GS) : ai_step T_Mo_oldestIn (call_Mo_oldestIn kk) (fun _ => []) 0 (ai_run T_Mo_oldestIn (call_Mo_oldestIn kk) (fun _ => []) 0 (bk_Mo_oldestIn kk k) 600) 40 (.iload_n 3, 1, 0, [4], true, []) [some (.inr (0, 50)), some (.inl (.int x1)), some (.inl (.int x2)), some (.inl (.int x3)), none] [] G 0 = (L_Mo_oldestIn kk (k + 1)) x1 x2 x3 G := by exact rfl
def T_Mo_heaviestPort : Tb := fun pc => match Nat.ble 28 pc with | true => (match Nat.ble 43 pc with | true => (match Nat.ble 54 pc with | true => (match Nat.ble 56 pc with | true => (match Nat.ble 59 pc with | true => (match Nat.ble 60 pc with | true => (match Nat.beq pc 60 with | true => some (.ireturn, 1, 0, [], false, []) | false => none) | false => (match Nat.beq pc 59 with | true => some (.iload_n 1, 1, 0, [], false, []) | false => none)) | false => (match Nat.beq pc 56 with | true => some (.putfield 1, 3, 448, [], false, []) | false => none)) | false => (match Nat.ble 55 pc with | true => (match Nat.beq pc 55 with | true => some (.iconst 0, 1, 0, [], false, []) | false => none) | false => (match Nat.beq pc 54 with | true => some (.aload_n 0, 1, 0, [], false, []) | false => none))) | false => (match Nat.ble 47 pc with | true => (match Nat.ble 48 pc with | true => (match Nat.ble 51 pc with | true => (match Nat.beq pc 51 with | true => some (.goto (-29), 3, 22, [], false, []) | false => none) | false => (match Nat.beq pc 48 with | true => some (.iinc 2 (1), 3, 0, [], false, []) | false => none)) | false => (match Nat.beq pc 47 with | true => some (.istore_n 1, 1, 0, [], false, []) | false => none)) | false => (match Nat.ble 46 pc with | true => (match Nat.beq pc 46 with | true => some (.iload_n 3, 1, 0, [], false, []) | false => none) | false => (match Nat.beq pc 43 with | true => some (.if_icmp .le (5), 3, 48, [], false, []) | false => none)))) | false => (match Nat.ble 34 pc with | true => (match Nat.ble 38 pc with | true => (match Nat.ble 39 pc with | true => (match Nat.ble 40 pc with | true => (match Nat.beq pc 40 with | true => some (.invokevirtual 175, 3, 3391505, [], false, []) | false => none) | false => (match Nat.beq pc 39 with | true => some (.iload_n 1, 1, 0, [], false, []) | false => none)) | false => (match Nat.beq pc 38 with | true => some (.aload_n 0, 1, 0, [], false, []) | false => none)) | false => (match Nat.ble 35 pc with | true => (match Nat.beq pc 35 with | true => some (.invokevirtual 175, 3, 3391505, [], false, []) | false => none) | false => (match Nat.beq pc 34 with | true => some (.iload_n 3, 1, 0, [], false, []) | false => none))) | false => (match Nat.ble 32 pc with | true => (match Nat.ble 33 pc with | true => (match Nat.beq pc 33 with | true => some (.aload_n 0, 1, 0, [], false, []) | false => none) | false => (match Nat.beq pc 32 with | true => some (.istore_n 3, 1, 0, [], false, []) | false => none)) | false => (match Nat.ble 29 pc with | true => (match Nat.beq pc 29 with | true => some (.invokevirtual 120, 3, 2981905, [], false, []) | false => none) | false => (match Nat.beq pc 28 with | true => some (.iload_n 2, 1, 0, [], false, []) | false => none))))) | false => (match Nat.ble 17 pc with | true => (match Nat.ble 21 pc with | true => (match Nat.ble 23 pc with | true => (match Nat.ble 24 pc with | true => (match Nat.ble 27 pc with | true => (match Nat.beq pc 27 with | true => some (.aload_n 0, 1, 0, [], false, []) | false => none) | false => (match Nat.beq pc 24 with | true => some (.if_icmp .ge (30), 3, 54, [], false, []) | false => none)) | false => (match Nat.beq pc 23 with | true => some (.iconst 5, 1, 0, [], false, []) | false => none)) | false => (match Nat.ble 22 pc with | true => (match Nat.beq pc 22 with | true => some (.iload_n 2, 1, 0, [3], true, []) | false => none) | false => (match Nat.beq pc 21 with | true => some (.istore_n 2, 1, 0, [], false, []) | false => none))) | false => (match Nat.ble 19 pc with | true => (match Nat.ble 20 pc with | true => (match Nat.beq pc 20 with | true => some (.iconst 1, 1, 0, [], false, []) | false => none) | false => (match Nat.beq pc 19 with | true => some (.istore_n 1, 1, 0, [], false, []) | false => none)) | false => (match Nat.ble 18 pc with | true => (match Nat.beq pc 18 with | true => some (.iaload, 1, 0, [], false, []) | false => none) | false => (match Nat.beq pc 17 with | true => some (.iconst 1, 1, 0, [], false, []) | false => none)))) | false => (match Nat.ble 8 pc with | true => (match Nat.ble 12 pc with | true => (match Nat.ble 13 pc with | true => (match Nat.ble 14 pc with | true => (match Nat.beq pc 14 with | true => some (.getfield 13, 3, 450, [], false, []) | false => none) | false => (match Nat.beq pc 13 with | true => some (.aload_n 0, 1, 0, [], false, []) | false => none)) | false => (match Nat.beq pc 12 with | true => some (.ireturn, 1, 0, [], false, []) | false => none)) | false => (match Nat.ble 9 pc with | true => (match Nat.beq pc 9 with | true => some (.invokevirtual 92, 3, 2523153, [], false, []) | false => none) | false => (match Nat.beq pc 8 with | true => some (.iconst 1, 1, 0, [], false, []) | false => none))) | false => (match Nat.ble 4 pc with | true => (match Nat.ble 7 pc with | true => (match Nat.beq pc 7 with | true => some (.aload_n 0, 1, 0, [], false, []) | false => none) | false => (match Nat.beq pc 4 with | true => some (.ifCond .ne (9), 3, 13, [], false, []) | false => none)) | false => (match Nat.ble 1 pc with | true => (match Nat.beq pc 1 with | true => some (.invokevirtual 144, 3, 2752521, [], false, []) | false => none) | false => (match Nat.beq pc 0 with | true => some (.aload_n 0, 1, 0, [], false, []) | false => none)))))
def call_Mo_heaviestPort (kk : Nat) : Nat → List AV → GS → Res := fun id a G => match Nat.ble 182 id with | true => (match Nat.ble 207 id with | true => (match Nat.beq id 207 with | true => A_Mo_weightFor kk a G | false => none) | false => (match Nat.beq id 182 with | true => A_Mo_portBehind kk a G | false => none)) | false => (match Nat.ble 168 id with | true => (match Nat.beq id 168 with | true => A_Mo_countAll kk a G | false => none) | false => (match Nat.beq id 154 with | true => A_Mo_fails kk a G | false => none))
def bk_Mo_heaviestPort (kk k : Nat) : Kb := fun pc ls st G => match Nat.beq pc 22 with | true => (match ls, st with | [some (.inr (0, 50)), some (.inl (.int x1)), some (.inl (.int x2)), none], [] => (L_Mo_heaviestPort kk k) x1 x2 G | _, _ => none) | false => none
theorem R_Mo_heaviestPort (kk : Nat) (G : GS) : ai_run T_Mo_heaviestPort (call_Mo_heaviestPort kk) (fun _ => []) 0 (bk_Mo_heaviestPort kk kk) 600 0 [some (.inr (0, 50)), none, none, none] [] G 0 = D_Mo_heaviestPort kk G := by exact rfl
theorem R_Mo_heaviestPort_22 (kk k : Nat) (x1 : Int32) (x2 : Int32) (G : GS) : ai_step T_Mo_heaviestPort (call_Mo_heaviestPort kk) (fun _ => []) 0 (ai_run T_Mo_heaviestPort (call_Mo_heaviestPort kk) (fun _ => []) 0 (bk_Mo_heaviestPort kk k) 600) 22 (.iload_n 2, 1, 0, [3], true, []) [some (.inr (0, 50)), some (.inl (.int x1)), some (.inl (.int x2)), none] [] G 0 = (L_Mo_heaviestPort kk (k + 1)) x1 x2 G := by exact rfl
def T_Mo_possibleShifts : Tb := fun pc => match Nat.ble 24 pc with | true => (match Nat.ble 38 pc with | true => (match Nat.ble 46 pc with | true => (match Nat.ble 52 pc with | true => (match Nat.ble 53 pc with | true => (match Nat.beq pc 53 with | true => some (.ireturn, 1, 0, [], false, []) | false => none) | false => (match Nat.beq pc 52 with | true => some (.iload_n 1, 1, 0, [], false, []) | false => none)) | false => (match Nat.ble 49 pc with | true => (match Nat.beq pc 49 with | true => some (.goto (-40), 3, 9, [], false, []) | false => none) | false => (match Nat.beq pc 46 with | true => some (.iinc 2 (1), 3, 0, [], false, []) | false => none))) | false => (match Nat.ble 40 pc with | true => (match Nat.ble 43 pc with | true => (match Nat.beq pc 43 with | true => some (.goto (-26), 3, 17, [], false, []) | false => none) | false => (match Nat.beq pc 40 with | true => some (.iinc 3 (1), 3, 0, [], false, []) | false => none)) | false => (match Nat.ble 39 pc with | true => (match Nat.beq pc 39 with | true => some (.istore_n 1, 1, 0, [], false, []) | false => none) | false => (match Nat.beq pc 38 with | true => some (.iadd, 1, 0, [], false, []) | false => none)))) | false => (match Nat.ble 30 pc with | true => (match Nat.ble 34 pc with | true => (match Nat.ble 37 pc with | true => (match Nat.beq pc 37 with | true => some (.iconst 0, 1, 0, [], false, []) | false => none) | false => (match Nat.beq pc 34 with | true => some (.goto (4), 3, 38, [], false, []) | false => none)) | false => (match Nat.ble 33 pc with | true => (match Nat.beq pc 33 with | true => some (.iconst 1, 1, 0, [], false, []) | false => none) | false => (match Nat.beq pc 30 with | true => some (.ifCond .ne (7), 3, 37, [], false, []) | false => none))) | false => (match Nat.ble 26 pc with | true => (match Nat.ble 27 pc with | true => (match Nat.beq pc 27 with | true => some (.invokevirtual 114, 3, 2932761, [], false, []) | false => none) | false => (match Nat.beq pc 26 with | true => some (.iload_n 3, 1, 0, [], false, []) | false => none)) | false => (match Nat.ble 25 pc with | true => (match Nat.beq pc 25 with | true => some (.iload_n 2, 1, 0, [], false, []) | false => none) | false => (match Nat.beq pc 24 with | true => some (.aload_n 0, 1, 0, [], false, []) | false => none))))) | false => (match Nat.ble 10 pc with | true => (match Nat.ble 17 pc with | true => (match Nat.ble 20 pc with | true => (match Nat.ble 23 pc with | true => (match Nat.beq pc 23 with | true => some (.iload_n 1, 1, 0, [], false, []) | false => none) | false => (match Nat.beq pc 20 with | true => some (.if_icmp .ge (26), 3, 46, [], false, []) | false => none)) | false => (match Nat.ble 18 pc with | true => (match Nat.beq pc 18 with | true => some (.bipush (7), 2, 0, [], false, []) | false => none) | false => (match Nat.beq pc 17 with | true => some (.iload_n 3, 1, 0, [], true, []) | false => none))) | false => (match Nat.ble 15 pc with | true => (match Nat.ble 16 pc with | true => (match Nat.beq pc 16 with | true => some (.istore_n 3, 1, 0, [], false, []) | false => none) | false => (match Nat.beq pc 15 with | true => some (.iconst 0, 1, 0, [], false, []) | false => none)) | false => (match Nat.ble 12 pc with | true => (match Nat.beq pc 12 with | true => some (.if_icmp .ge (40), 3, 52, [], false, []) | false => none) | false => (match Nat.beq pc 10 with | true => some (.bipush (7), 2, 0, [], false, []) | false => none)))) | false => (match Nat.ble 6 pc with | true => (match Nat.ble 8 pc with | true => (match Nat.ble 9 pc with | true => (match Nat.beq pc 9 with | true => some (.iload_n 2, 1, 0, [3], true, []) | false => none) | false => (match Nat.beq pc 8 with | true => some (.istore_n 2, 1, 0, [], false, []) | false => none)) | false => (match Nat.ble 7 pc with | true => (match Nat.beq pc 7 with | true => some (.iconst 0, 1, 0, [], false, []) | false => none) | false => (match Nat.beq pc 6 with | true => some (.istore_n 1, 1, 0, [], false, []) | false => none))) | false => (match Nat.ble 2 pc with | true => (match Nat.ble 5 pc with | true => (match Nat.beq pc 5 with | true => some (.iconst 0, 1, 0, [], false, []) | false => none) | false => (match Nat.beq pc 2 with | true => some (.putfield 1, 3, 448, [], false, []) | false => none)) | false => (match Nat.ble 1 pc with | true => (match Nat.beq pc 1 with | true => some (.iconst 0, 1, 0, [], false, []) | false => none) | false => (match Nat.beq pc 0 with | true => some (.aload_n 0, 1, 0, [], false, []) | false => none)))))
def call_Mo_possibleShifts (kk : Nat) : Nat → List AV → GS → Res := fun id a G => match Nat.beq id 179 with | true => A_Mo_notShift kk a G | false => none
def bk_Mo_possibleShifts (kk k : Nat) : Kb := fun pc ls st G => match Nat.beq pc 9 with | true => (match ls, st with | [some (.inr (0, 50)), some (.inl (.int x1)), some (.inl (.int x2)), none], [] => (L_Mo_possibleShifts kk k).1 x1 x2 G | _, _ => none) | false => match Nat.beq pc 17 with | true => (match ls, st with | [some (.inr (0, 50)), some (.inl (.int x1)), some (.inl (.int x2)), some (.inl (.int x3))], [] => (L_Mo_possibleShifts kk k).2 x1 x2 x3 G | _, _ => none) | false => none
theorem R_Mo_possibleShifts (kk : Nat) (G : GS) : ai_run T_Mo_possibleShifts (call_Mo_possibleShifts kk) (fun _ => []) 0 (bk_Mo_possibleShifts kk kk) 600 0 [some (.inr (0, 50)), none, none, none] [] G 0 = D_Mo_possibleShifts kk G := by exact rfl
theorem R_Mo_possibleShifts_9 (kk k : Nat) (x1 : Int32) (x2 : Int32) (G : GS) : ai_step T_Mo_possibleShifts (call_Mo_possibleShifts kk) (fun _ => []) 0 (ai_run T_Mo_possibleShifts (call_Mo_possibleShifts kk) (fun _ => []) 0 (bk_Mo_possibleShifts kk k) 600) 9 (.iload_n 2, 1, 0, [3], true, []) [some (.inr (0, 50)), some (.inl (.int x1)), some (.inl (.int x2)), none] [] G 0 = (L_Mo_possibleShifts kk (k + 1)).1 x1 x2 G := by exact rfl
theorem R_Mo_possibleShifts_17 (kk k : Nat) (x1 : Int32) (x2 : Int32) (x3 : Int32) (G : GS) : ai_step T_Mo_possibleShifts (call_Mo_possibleShifts kk) (fun _ => []) 0 (ai_run T_Mo_possibleShifts (call_Mo_possibleShifts kk) (fun _ => []) 0 (bk_Mo_possibleShifts kk k) 600) 17 (.iload_n 3, 1, 0, [], true, []) [some (.inr (0, 50)), some (.inl (.int x1)), some (.inl (.int x2)), some (.inl (.int x3))] [] G 0 = (L_Mo_possibleShifts kk (k + 1)).2 x1 x2 x3 G := by exact rfl
def T_Mo_pillowByTurn : Tb := fun pc => match Nat.ble 50 pc with | true => (match Nat.ble 76 pc with | true => (match Nat.ble 85 pc with | true => (match Nat.ble 92 pc with | true => (match Nat.ble 94 pc with | true => (match Nat.ble 97 pc with | true => (match Nat.beq pc 97 with | true => some (.ireturn, 1, 0, [], false, []) | false => none) | false => (match Nat.beq pc 94 with | true => some (.invokevirtual 92, 3, 2523153, [], false, []) | false => none)) | false => (match Nat.ble 93 pc with | true => (match Nat.beq pc 93 with | true => some (.iconst 1, 1, 0, [], false, []) | false => none) | false => (match Nat.beq pc 92 with | true => some (.aload_n 0, 1, 0, [], false, []) | false => none))) | false => (match Nat.ble 86 pc with | true => (match Nat.ble 89 pc with | true => (match Nat.beq pc 89 with | true => some (.goto (-82), 3, 7, [], false, []) | false => none) | false => (match Nat.beq pc 86 with | true => some (.iinc 2 (1), 3, 0, [], false, []) | false => none)) | false => (match Nat.beq pc 85 with | true => some (.ireturn, 1, 0, [], false, []) | false => none))) | false => (match Nat.ble 79 pc with | true => (match Nat.ble 81 pc with | true => (match Nat.ble 82 pc with | true => (match Nat.beq pc 82 with | true => some (.invokevirtual 58, 3, 2654241, [], false, []) | false => none) | false => (match Nat.beq pc 81 with | true => some (.iconst 0, 1, 0, [], false, []) | false => none)) | false => (match Nat.ble 80 pc with | true => (match Nat.beq pc 80 with | true => some (.irem, 1, 0, [], false, []) | false => none) | false => (match Nat.beq pc 79 with | true => some (.iconst 5, 1, 0, [], false, []) | false => none))) | false => (match Nat.ble 77 pc with | true => (match Nat.ble 78 pc with | true => (match Nat.beq pc 78 with | true => some (.iload_n 2, 1, 0, [], false, []) | false => none) | false => (match Nat.beq pc 77 with | true => some (.idiv, 1, 0, [], false, []) | false => none)) | false => (match Nat.beq pc 76 with | true => some (.iconst 5, 1, 0, [], false, []) | false => none)))) | false => (match Nat.ble 63 pc with | true => (match Nat.ble 70 pc with | true => (match Nat.ble 74 pc with | true => (match Nat.ble 75 pc with | true => (match Nat.beq pc 75 with | true => some (.iload_n 2, 1, 0, [], false, []) | false => none) | false => (match Nat.beq pc 74 with | true => some (.aload_n 0, 1, 0, [], false, []) | false => none)) | false => (match Nat.ble 71 pc with | true => (match Nat.beq pc 71 with | true => some (.if_icmp .ne (15), 3, 86, [], false, []) | false => none) | false => (match Nat.beq pc 70 with | true => some (.iload_n 1, 1, 0, [], false, []) | false => none))) | false => (match Nat.ble 66 pc with | true => (match Nat.ble 69 pc with | true => (match Nat.beq pc 69 with | true => some (.iload_n 3, 1, 0, [], false, []) | false => none) | false => (match Nat.beq pc 66 with | true => some (.goto (-37), 3, 29, [], false, []) | false => none)) | false => (match Nat.beq pc 63 with | true => some (.iinc 4 (1), 3, 0, [], false, []) | false => none))) | false => (match Nat.ble 57 pc with | true => (match Nat.ble 61 pc with | true => (match Nat.ble 62 pc with | true => (match Nat.beq pc 62 with | true => some (.istore_n 3, 1, 0, [], false, []) | false => none) | false => (match Nat.beq pc 61 with | true => some (.iadd, 1, 0, [], false, []) | false => none)) | false => (match Nat.ble 60 pc with | true => (match Nat.beq pc 60 with | true => some (.iconst 0, 1, 0, [], false, []) | false => none) | false => (match Nat.beq pc 57 with | true => some (.goto (4), 3, 61, [], false, []) | false => none))) | false => (match Nat.ble 53 pc with | true => (match Nat.ble 56 pc with | true => (match Nat.beq pc 56 with | true => some (.iconst 1, 1, 0, [], false, []) | false => none) | false => (match Nat.beq pc 53 with | true => some (.ifCond .eq (7), 3, 60, [], false, []) | false => none)) | false => (match Nat.beq pc 50 with | true => some (.invokevirtual 181, 3, 3670041, [], false, []) | false => none))))) | false => (match Nat.ble 25 pc with | true => (match Nat.ble 37 pc with | true => (match Nat.ble 43 pc with | true => (match Nat.ble 47 pc with | true => (match Nat.ble 49 pc with | true => (match Nat.beq pc 49 with | true => some (.iload_n 2, 1, 0, [], false, []) | false => none) | false => (match Nat.beq pc 47 with | true => some (.iload 4, 2, 0, [], false, []) | false => none)) | false => (match Nat.ble 46 pc with | true => (match Nat.beq pc 46 with | true => some (.aload_n 0, 1, 0, [], false, []) | false => none) | false => (match Nat.beq pc 43 with | true => some (.ifCond .eq (17), 3, 60, [], false, []) | false => none))) | false => (match Nat.ble 38 pc with | true => (match Nat.ble 40 pc with | true => (match Nat.beq pc 40 with | true => some (.invokevirtual 178, 3, 3686417, [], false, []) | false => none) | false => (match Nat.beq pc 38 with | true => some (.iload 4, 2, 0, [], false, []) | false => none)) | false => (match Nat.beq pc 37 with | true => some (.aload_n 0, 1, 0, [], false, []) | false => none))) | false => (match Nat.ble 29 pc with | true => (match Nat.ble 33 pc with | true => (match Nat.ble 36 pc with | true => (match Nat.beq pc 36 with | true => some (.iload_n 3, 1, 0, [], false, []) | false => none) | false => (match Nat.beq pc 33 with | true => some (.if_icmp .ge (36), 3, 69, [], false, []) | false => none)) | false => (match Nat.ble 31 pc with | true => (match Nat.beq pc 31 with | true => some (.bipush (35), 2, 0, [], false, []) | false => none) | false => (match Nat.beq pc 29 with | true => some (.iload 4, 2, 0, [], true, []) | false => none))) | false => (match Nat.ble 26 pc with | true => (match Nat.ble 27 pc with | true => (match Nat.beq pc 27 with | true => some (.istore 4, 2, 0, [], false, []) | false => none) | false => (match Nat.beq pc 26 with | true => some (.iconst 0, 1, 0, [], false, []) | false => none)) | false => (match Nat.beq pc 25 with | true => some (.istore_n 3, 1, 0, [], false, []) | false => none)))) | false => (match Nat.ble 10 pc with | true => (match Nat.ble 15 pc with | true => (match Nat.ble 21 pc with | true => (match Nat.ble 24 pc with | true => (match Nat.beq pc 24 with | true => some (.iconst 0, 1, 0, [], false, []) | false => none) | false => (match Nat.beq pc 21 with | true => some (.goto (65), 3, 86, [], false, []) | false => none)) | false => (match Nat.ble 18 pc with | true => (match Nat.beq pc 18 with | true => some (.ifCond .ne (6), 3, 24, [], false, []) | false => none) | false => (match Nat.beq pc 15 with | true => some (.invokevirtual 178, 3, 3686417, [], false, []) | false => none))) | false => (match Nat.ble 13 pc with | true => (match Nat.ble 14 pc with | true => (match Nat.beq pc 14 with | true => some (.iload_n 2, 1, 0, [], false, []) | false => none) | false => (match Nat.beq pc 13 with | true => some (.aload_n 0, 1, 0, [], false, []) | false => none)) | false => (match Nat.beq pc 10 with | true => some (.if_icmp .ge (82), 3, 92, [], false, []) | false => none))) | false => (match Nat.ble 5 pc with | true => (match Nat.ble 7 pc with | true => (match Nat.ble 8 pc with | true => (match Nat.beq pc 8 with | true => some (.bipush (35), 2, 0, [], false, []) | false => none) | false => (match Nat.beq pc 7 with | true => some (.iload_n 2, 1, 0, [3, 4], true, []) | false => none)) | false => (match Nat.ble 6 pc with | true => (match Nat.beq pc 6 with | true => some (.istore_n 2, 1, 0, [], false, []) | false => none) | false => (match Nat.beq pc 5 with | true => some (.iconst 0, 1, 0, [], false, []) | false => none))) | false => (match Nat.ble 1 pc with | true => (match Nat.ble 2 pc with | true => (match Nat.beq pc 2 with | true => some (.putfield 1, 3, 448, [], false, []) | false => none) | false => (match Nat.beq pc 1 with | true => some (.iconst 0, 1, 0, [], false, []) | false => none)) | false => (match Nat.beq pc 0 with | true => some (.aload_n 0, 1, 0, [], false, []) | false => none)))))
def call_Mo_pillowByTurn (kk : Nat) : Nat → List AV → GS → Res := fun id a G => match Nat.ble 224 id with | true => (match Nat.ble 225 id with | true => (match Nat.beq id 225 with | true => A_Mo_isTaken kk a G | false => none) | false => (match Nat.beq id 224 with | true => A_Mo_isAhead kk a G | false => none)) | false => (match Nat.ble 162 id with | true => (match Nat.beq id 162 with | true => A_Mo_at kk a G | false => none) | false => (match Nat.beq id 154 with | true => A_Mo_fails kk a G | false => none))
def bk_Mo_pillowByTurn (kk k : Nat) : Kb := fun pc ls st G => match Nat.beq pc 7 with | true => (match ls, st with | [some (.inr (0, 50)), some (.inl (.int x1)), some (.inl (.int x2)), none, none], [] => (L_Mo_pillowByTurn kk k).1 x1 x2 G | _, _ => none) | false => match Nat.beq pc 29 with | true => (match ls, st with | [some (.inr (0, 50)), some (.inl (.int x1)), some (.inl (.int x2)), some (.inl (.int x3)), some (.inl (.int x4))], [] => (L_Mo_pillowByTurn kk k).2 x1 x2 x3 x4 G | _, _ => none) | false => none
theorem R_Mo_pillowByTurn (kk : Nat) (a0 : Int32) (G : GS) : ai_run T_Mo_pillowByTurn (call_Mo_pillowByTurn kk) (fun _ => []) 0 (bk_Mo_pillowByTurn kk kk) 600 0 [some (.inr (0, 50)), some (.inl (.int a0)), none, none, none] [] G 0 = D_Mo_pillowByTurn kk a0 G := by exact rfl
theorem R_Mo_pillowByTurn_7 (kk k : Nat) (x1 : Int32) (x2 : Int32) (G : GS) : ai_step T_Mo_pillowByTurn (call_Mo_pillowByTurn kk) (fun _ => []) 0 (ai_run T_Mo_pillowByTurn (call_Mo_pillowByTurn kk) (fun _ => []) 0 (bk_Mo_pillowByTurn kk k) 600) 7 (.iload_n 2, 1, 0, [3, 4], true, []) [some (.inr (0, 50)), some (.inl (.int x1)), some (.inl (.int x2)), none, none] [] G 0 = (L_Mo_pillowByTurn kk (k + 1)).1 x1 x2 G := by exact rfl
theorem R_Mo_pillowByTurn_29 (kk k : Nat) (x1 : Int32) (x2 : Int32) (x3 : Int32) (x4 : Int32) (G : GS) : ai_step T_Mo_pillowByTurn (call_Mo_pillowByTurn kk) (fun _ => []) 0 (ai_run T_Mo_pillowByTurn (call_Mo_pillowByTurn kk) (fun _ => []) 0 (bk_Mo_pillowByTurn kk k) 600) 29 (.iload 4, 2, 0, [], true, []) [some (.inr (0, 50)), some (.inl (.int x1)), some (.inl (.int x2)), some (.inl (.int x3)), some (.inl (.int x4))] [] G 0 = (L_Mo_pillowByTurn kk (k + 1)).2 x1 x2 x3 x4 G := by exact rfl
def T_Mo_bayByWeight : Tb := fun pc => match Nat.ble 40 pc with | true => (match Nat.ble 63 pc with | true => (match Nat.ble 75 pc with | true => (match Nat.ble 82 pc with | true => (match Nat.ble 84 pc with | true => (match Nat.ble 87 pc with | true => (match Nat.beq pc 87 with | true => some (.ireturn, 1, 0, [], false, []) | false => none) | false => (match Nat.beq pc 84 with | true => some (.invokevirtual 92, 3, 2523153, [], false, []) | false => none)) | false => (match Nat.ble 83 pc with | true => (match Nat.beq pc 83 with | true => some (.iconst 1, 1, 0, [], false, []) | false => none) | false => (match Nat.beq pc 82 with | true => some (.aload_n 0, 1, 0, [], false, []) | false => none))) | false => (match Nat.ble 76 pc with | true => (match Nat.ble 79 pc with | true => (match Nat.beq pc 79 with | true => some (.goto (-72), 3, 7, [], false, []) | false => none) | false => (match Nat.beq pc 76 with | true => some (.iinc 2 (1), 3, 0, [], false, []) | false => none)) | false => (match Nat.beq pc 75 with | true => some (.ireturn, 1, 0, [], false, []) | false => none))) | false => (match Nat.ble 70 pc with | true => (match Nat.ble 71 pc with | true => (match Nat.ble 74 pc with | true => (match Nat.beq pc 74 with | true => some (.iload_n 2, 1, 0, [], false, []) | false => none) | false => (match Nat.beq pc 71 with | true => some (.if_icmp .ne (5), 3, 76, [], false, []) | false => none)) | false => (match Nat.beq pc 70 with | true => some (.iload_n 1, 1, 0, [], false, []) | false => none)) | false => (match Nat.ble 66 pc with | true => (match Nat.ble 69 pc with | true => (match Nat.beq pc 69 with | true => some (.iload_n 3, 1, 0, [], false, []) | false => none) | false => (match Nat.beq pc 66 with | true => some (.goto (-48), 3, 18, [], false, []) | false => none)) | false => (match Nat.beq pc 63 with | true => some (.iinc 4 (1), 3, 0, [], false, []) | false => none)))) | false => (match Nat.ble 53 pc with | true => (match Nat.ble 60 pc with | true => (match Nat.ble 61 pc with | true => (match Nat.ble 62 pc with | true => (match Nat.beq pc 62 with | true => some (.istore_n 3, 1, 0, [], false, []) | false => none) | false => (match Nat.beq pc 61 with | true => some (.iadd, 1, 0, [], false, []) | false => none)) | false => (match Nat.beq pc 60 with | true => some (.iconst 0, 1, 0, [], false, []) | false => none)) | false => (match Nat.ble 56 pc with | true => (match Nat.ble 57 pc with | true => (match Nat.beq pc 57 with | true => some (.goto (4), 3, 61, [], false, []) | false => none) | false => (match Nat.beq pc 56 with | true => some (.iconst 1, 1, 0, [], false, []) | false => none)) | false => (match Nat.beq pc 53 with | true => some (.if_icmp .ge (7), 3, 60, [], false, []) | false => none))) | false => (match Nat.ble 47 pc with | true => (match Nat.ble 50 pc with | true => (match Nat.ble 52 pc with | true => (match Nat.beq pc 52 with | true => some (.iload_n 2, 1, 0, [], false, []) | false => none) | false => (match Nat.beq pc 50 with | true => some (.iload 4, 2, 0, [], false, []) | false => none)) | false => (match Nat.beq pc 47 with | true => some (.ifCond .ne (13), 3, 60, [], false, []) | false => none)) | false => (match Nat.ble 42 pc with | true => (match Nat.ble 45 pc with | true => (match Nat.beq pc 45 with | true => some (.iload 5, 2, 0, [], false, []) | false => none) | false => (match Nat.beq pc 42 with | true => some (.ifCond .gt (14), 3, 56, [], false, []) | false => none)) | false => (match Nat.beq pc 40 with | true => some (.iload 5, 2, 0, [], false, []) | false => none))))) | false => (match Nat.ble 18 pc with | true => (match Nat.ble 31 pc with | true => (match Nat.ble 36 pc with | true => (match Nat.ble 37 pc with | true => (match Nat.ble 39 pc with | true => (match Nat.beq pc 39 with | true => some (.iload_n 3, 1, 0, [], false, []) | false => none) | false => (match Nat.beq pc 37 with | true => some (.istore 5, 2, 0, [], false, []) | false => none)) | false => (match Nat.beq pc 36 with | true => some (.isub, 1, 0, [], false, []) | false => none)) | false => (match Nat.ble 32 pc with | true => (match Nat.ble 33 pc with | true => (match Nat.beq pc 33 with | true => some (.invokevirtual 62, 3, 2703377, [], false, []) | false => none) | false => (match Nat.beq pc 32 with | true => some (.iload_n 2, 1, 0, [], false, []) | false => none)) | false => (match Nat.beq pc 31 with | true => some (.aload_n 0, 1, 0, [], false, []) | false => none))) | false => (match Nat.ble 25 pc with | true => (match Nat.ble 26 pc with | true => (match Nat.ble 28 pc with | true => (match Nat.beq pc 28 with | true => some (.invokevirtual 62, 3, 2703377, [], false, []) | false => none) | false => (match Nat.beq pc 26 with | true => some (.iload 4, 2, 0, [], false, []) | false => none)) | false => (match Nat.beq pc 25 with | true => some (.aload_n 0, 1, 0, [], false, []) | false => none)) | false => (match Nat.ble 20 pc with | true => (match Nat.ble 22 pc with | true => (match Nat.beq pc 22 with | true => some (.if_icmp .ge (47), 3, 69, [], false, []) | false => none) | false => (match Nat.beq pc 20 with | true => some (.bipush (7), 2, 0, [], false, []) | false => none)) | false => (match Nat.beq pc 18 with | true => some (.iload 4, 2, 0, [5], true, []) | false => none)))) | false => (match Nat.ble 8 pc with | true => (match Nat.ble 14 pc with | true => (match Nat.ble 15 pc with | true => (match Nat.ble 16 pc with | true => (match Nat.beq pc 16 with | true => some (.istore 4, 2, 0, [], false, []) | false => none) | false => (match Nat.beq pc 15 with | true => some (.iconst 0, 1, 0, [], false, []) | false => none)) | false => (match Nat.beq pc 14 with | true => some (.istore_n 3, 1, 0, [], false, []) | false => none)) | false => (match Nat.ble 10 pc with | true => (match Nat.ble 13 pc with | true => (match Nat.beq pc 13 with | true => some (.iconst 0, 1, 0, [], false, []) | false => none) | false => (match Nat.beq pc 10 with | true => some (.if_icmp .ge (72), 3, 82, [], false, []) | false => none)) | false => (match Nat.beq pc 8 with | true => some (.bipush (7), 2, 0, [], false, []) | false => none))) | false => (match Nat.ble 5 pc with | true => (match Nat.ble 6 pc with | true => (match Nat.ble 7 pc with | true => (match Nat.beq pc 7 with | true => some (.iload_n 2, 1, 0, [3, 4, 5], true, []) | false => none) | false => (match Nat.beq pc 6 with | true => some (.istore_n 2, 1, 0, [], false, []) | false => none)) | false => (match Nat.beq pc 5 with | true => some (.iconst 0, 1, 0, [], false, []) | false => none)) | false => (match Nat.ble 1 pc with | true => (match Nat.ble 2 pc with | true => (match Nat.beq pc 2 with | true => some (.putfield 1, 3, 448, [], false, []) | false => none) | false => (match Nat.beq pc 1 with | true => some (.iconst 0, 1, 0, [], false, []) | false => none)) | false => (match Nat.beq pc 0 with | true => some (.aload_n 0, 1, 0, [], false, []) | false => none)))))
def call_Mo_bayByWeight (kk : Nat) : Nat → List AV → GS → Res := fun id a G => match Nat.ble 165 id with | true => (match Nat.beq id 165 with | true => A_Mo_weightOfBay kk a G | false => none) | false => (match Nat.beq id 154 with | true => A_Mo_fails kk a G | false => none)
def bk_Mo_bayByWeight (kk k : Nat) : Kb := fun pc ls st G => match Nat.beq pc 7 with | true => (match ls, st with | [some (.inr (0, 50)), some (.inl (.int x1)), some (.inl (.int x2)), none, none, none], [] => (L_Mo_bayByWeight kk k).1 x1 x2 G | _, _ => none) | false => match Nat.beq pc 18 with | true => (match ls, st with | [some (.inr (0, 50)), some (.inl (.int x1)), some (.inl (.int x2)), some (.inl (.int x3)), some (.inl (.int x4)), none], [] => (L_Mo_bayByWeight kk k).2 x1 x2 x3 x4 G | _, _ => none) | false => none
theorem R_Mo_bayByWeight (kk : Nat) (a0 : Int32) (G : GS) : ai_run T_Mo_bayByWeight (call_Mo_bayByWeight kk) (fun _ => []) 0 (bk_Mo_bayByWeight kk kk) 600 0 [some (.inr (0, 50)), some (.inl (.int a0)), none, none, none, none] [] G 0 = D_Mo_bayByWeight kk a0 G := by exact rfl
theorem R_Mo_bayByWeight_7 (kk k : Nat) (x1 : Int32) (x2 : Int32) (G : GS) : ai_step T_Mo_bayByWeight (call_Mo_bayByWeight kk) (fun _ => []) 0 (ai_run T_Mo_bayByWeight (call_Mo_bayByWeight kk) (fun _ => []) 0 (bk_Mo_bayByWeight kk k) 600) 7 (.iload_n 2, 1, 0, [3, 4, 5], true, []) [some (.inr (0, 50)), some (.inl (.int x1)), some (.inl (.int x2)), none, none, none] [] G 0 = (L_Mo_bayByWeight kk (k + 1)).1 x1 x2 G := by exact rfl
theorem R_Mo_bayByWeight_18 (kk k : Nat) (x1 : Int32) (x2 : Int32) (x3 : Int32) (x4 : Int32) (G : GS) : ai_step T_Mo_bayByWeight (call_Mo_bayByWeight kk) (fun _ => []) 0 (ai_run T_Mo_bayByWeight (call_Mo_bayByWeight kk) (fun _ => []) 0 (bk_Mo_bayByWeight kk k) 600) 18 (.iload 4, 2, 0, [5], true, []) [some (.inr (0, 50)), some (.inl (.int x1)), some (.inl (.int x2)), some (.inl (.int x3)), some (.inl (.int x4)), none] [] G 0 = (L_Mo_bayByWeight kk (k + 1)).2 x1 x2 x3 x4 G := by exact rfl
def T_Mo_loadedTotal : Tb := fun pc => match Nat.ble 6 pc with | true => (match Nat.ble 10 pc with | true => (match Nat.ble 11 pc with | true => (match Nat.beq pc 11 with | true => some (.ireturn, 1, 0, [], false, []) | false => none) | false => (match Nat.beq pc 10 with | true => some (.iaload, 1, 0, [], false, []) | false => none)) | false => (match Nat.ble 9 pc with | true => (match Nat.beq pc 9 with | true => some (.iconst 4, 1, 0, [], false, []) | false => none) | false => (match Nat.beq pc 6 with | true => some (.getfield 13, 3, 450, [], false, []) | false => none))) | false => (match Nat.ble 2 pc with | true => (match Nat.ble 5 pc with | true => (match Nat.beq pc 5 with | true => some (.aload_n 0, 1, 0, [], false, []) | false => none) | false => (match Nat.beq pc 2 with | true => some (.putfield 1, 3, 448, [], false, []) | false => none)) | false => (match Nat.ble 1 pc with | true => (match Nat.beq pc 1 with | true => some (.iconst 0, 1, 0, [], false, []) | false => none) | false => (match Nat.beq pc 0 with | true => some (.aload_n 0, 1, 0, [], false, []) | false => none)))
def call_Mo_loadedTotal (kk : Nat) : Nat → List AV → GS → Res := fun id a G => none
def bk_Mo_loadedTotal (kk k : Nat) : Kb := fun _ _ _ _ => none
theorem R_Mo_loadedTotal (kk : Nat) (G : GS) : ai_run T_Mo_loadedTotal (call_Mo_loadedTotal kk) (fun _ => []) 0 (bk_Mo_loadedTotal kk kk) 600 0 [some (.inr (0, 50))] [] G 0 = D_Mo_loadedTotal kk G := by exact rfl
def T_Mo_deliveredTotal : Tb := fun pc => match Nat.ble 6 pc with | true => (match Nat.ble 10 pc with | true => (match Nat.ble 11 pc with | true => (match Nat.beq pc 11 with | true => some (.ireturn, 1, 0, [], false, []) | false => none) | false => (match Nat.beq pc 10 with | true => some (.iaload, 1, 0, [], false, []) | false => none)) | false => (match Nat.ble 9 pc with | true => (match Nat.beq pc 9 with | true => some (.iconst 5, 1, 0, [], false, []) | false => none) | false => (match Nat.beq pc 6 with | true => some (.getfield 13, 3, 450, [], false, []) | false => none))) | false => (match Nat.ble 2 pc with | true => (match Nat.ble 5 pc with | true => (match Nat.beq pc 5 with | true => some (.aload_n 0, 1, 0, [], false, []) | false => none) | false => (match Nat.beq pc 2 with | true => some (.putfield 1, 3, 448, [], false, []) | false => none)) | false => (match Nat.ble 1 pc with | true => (match Nat.beq pc 1 with | true => some (.iconst 0, 1, 0, [], false, []) | false => none) | false => (match Nat.beq pc 0 with | true => some (.aload_n 0, 1, 0, [], false, []) | false => none)))
def call_Mo_deliveredTotal (kk : Nat) : Nat → List AV → GS → Res := fun id a G => none
def bk_Mo_deliveredTotal (kk k : Nat) : Kb := fun _ _ _ _ => none
theorem R_Mo_deliveredTotal (kk : Nat) (G : GS) : ai_run T_Mo_deliveredTotal (call_Mo_deliveredTotal kk) (fun _ => []) 0 (bk_Mo_deliveredTotal kk kk) 600 0 [some (.inr (0, 50))] [] G 0 = D_Mo_deliveredTotal kk G := by exact rfl
def T_Mo_deliveredWeight : Tb := fun pc => match Nat.ble 6 pc with | true => (match Nat.ble 11 pc with | true => (match Nat.ble 12 pc with | true => (match Nat.beq pc 12 with | true => some (.ireturn, 1, 0, [], false, []) | false => none) | false => (match Nat.beq pc 11 with | true => some (.iaload, 1, 0, [], false, []) | false => none)) | false => (match Nat.ble 9 pc with | true => (match Nat.beq pc 9 with | true => some (.bipush (6), 2, 0, [], false, []) | false => none) | false => (match Nat.beq pc 6 with | true => some (.getfield 13, 3, 450, [], false, []) | false => none))) | false => (match Nat.ble 2 pc with | true => (match Nat.ble 5 pc with | true => (match Nat.beq pc 5 with | true => some (.aload_n 0, 1, 0, [], false, []) | false => none) | false => (match Nat.beq pc 2 with | true => some (.putfield 1, 3, 448, [], false, []) | false => none)) | false => (match Nat.ble 1 pc with | true => (match Nat.beq pc 1 with | true => some (.iconst 0, 1, 0, [], false, []) | false => none) | false => (match Nat.beq pc 0 with | true => some (.aload_n 0, 1, 0, [], false, []) | false => none)))
def call_Mo_deliveredWeight (kk : Nat) : Nat → List AV → GS → Res := fun id a G => none
def bk_Mo_deliveredWeight (kk k : Nat) : Kb := fun _ _ _ _ => none
theorem R_Mo_deliveredWeight (kk : Nat) (G : GS) : ai_run T_Mo_deliveredWeight (call_Mo_deliveredWeight kk) (fun _ => []) 0 (bk_Mo_deliveredWeight kk kk) 600 0 [some (.inr (0, 50))] [] G 0 = D_Mo_deliveredWeight kk G := by exact rfl
def T_Mo_drillTotal : Tb := fun pc => match Nat.ble 6 pc with | true => (match Nat.ble 11 pc with | true => (match Nat.ble 12 pc with | true => (match Nat.beq pc 12 with | true => some (.ireturn, 1, 0, [], false, []) | false => none) | false => (match Nat.beq pc 11 with | true => some (.iaload, 1, 0, [], false, []) | false => none)) | false => (match Nat.ble 9 pc with | true => (match Nat.beq pc 9 with | true => some (.bipush (7), 2, 0, [], false, []) | false => none) | false => (match Nat.beq pc 6 with | true => some (.getfield 13, 3, 450, [], false, []) | false => none))) | false => (match Nat.ble 2 pc with | true => (match Nat.ble 5 pc with | true => (match Nat.beq pc 5 with | true => some (.aload_n 0, 1, 0, [], false, []) | false => none) | false => (match Nat.beq pc 2 with | true => some (.putfield 1, 3, 448, [], false, []) | false => none)) | false => (match Nat.ble 1 pc with | true => (match Nat.beq pc 1 with | true => some (.iconst 0, 1, 0, [], false, []) | false => none) | false => (match Nat.beq pc 0 with | true => some (.aload_n 0, 1, 0, [], false, []) | false => none)))
def call_Mo_drillTotal (kk : Nat) : Nat → List AV → GS → Res := fun id a G => none
def bk_Mo_drillTotal (kk k : Nat) : Kb := fun _ _ _ _ => none
theorem R_Mo_drillTotal (kk : Nat) (G : GS) : ai_run T_Mo_drillTotal (call_Mo_drillTotal kk) (fun _ => []) 0 (bk_Mo_drillTotal kk kk) 600 0 [some (.inr (0, 50))] [] G 0 = D_Mo_drillTotal kk G := by exact rfl
def T_Mo_capsizedTotal : Tb := fun pc => match Nat.ble 6 pc with | true => (match Nat.ble 11 pc with | true => (match Nat.ble 12 pc with | true => (match Nat.beq pc 12 with | true => some (.ireturn, 1, 0, [], false, []) | false => none) | false => (match Nat.beq pc 11 with | true => some (.iaload, 1, 0, [], false, []) | false => none)) | false => (match Nat.ble 9 pc with | true => (match Nat.beq pc 9 with | true => some (.bipush (8), 2, 0, [], false, []) | false => none) | false => (match Nat.beq pc 6 with | true => some (.getfield 13, 3, 450, [], false, []) | false => none))) | false => (match Nat.ble 2 pc with | true => (match Nat.ble 5 pc with | true => (match Nat.beq pc 5 with | true => some (.aload_n 0, 1, 0, [], false, []) | false => none) | false => (match Nat.beq pc 2 with | true => some (.putfield 1, 3, 448, [], false, []) | false => none)) | false => (match Nat.ble 1 pc with | true => (match Nat.beq pc 1 with | true => some (.iconst 0, 1, 0, [], false, []) | false => none) | false => (match Nat.beq pc 0 with | true => some (.aload_n 0, 1, 0, [], false, []) | false => none)))
def call_Mo_capsizedTotal (kk : Nat) : Nat → List AV → GS → Res := fun id a G => none
def bk_Mo_capsizedTotal (kk k : Nat) : Kb := fun _ _ _ _ => none
theorem R_Mo_capsizedTotal (kk : Nat) (G : GS) : ai_run T_Mo_capsizedTotal (call_Mo_capsizedTotal kk) (fun _ => []) 0 (bk_Mo_capsizedTotal kk kk) 600 0 [some (.inr (0, 50))] [] G 0 = D_Mo_capsizedTotal kk G := by exact rfl
def T_Mo_meanAge : Tb := fun pc => match Nat.ble 39 pc with | true => (match Nat.ble 55 pc with | true => (match Nat.ble 65 pc with | true => (match Nat.ble 70 pc with | true => (match Nat.ble 71 pc with | true => (match Nat.ble 72 pc with | true => (match Nat.beq pc 72 with | true => some (.dreturn, 1, 0, [], false, []) | false => none) | false => (match Nat.beq pc 71 with | true => some (.ddiv, 1, 0, [], false, []) | false => none)) | false => (match Nat.beq pc 70 with | true => some (.i2d, 1, 0, [], false, []) | false => none)) | false => (match Nat.ble 66 pc with | true => (match Nat.ble 67 pc with | true => (match Nat.beq pc 67 with | true => some (.invokevirtual 144, 3, 2752521, [], false, []) | false => none) | false => (match Nat.beq pc 66 with | true => some (.aload_n 0, 1, 0, [], false, []) | false => none)) | false => (match Nat.beq pc 65 with | true => some (.i2d, 1, 0, [], false, []) | false => none))) | false => (match Nat.ble 58 pc with | true => (match Nat.ble 61 pc with | true => (match Nat.ble 64 pc with | true => (match Nat.beq pc 64 with | true => some (.iload_n 1, 1, 0, [], false, []) | false => none) | false => (match Nat.beq pc 61 with | true => some (.goto (-38), 3, 23, [], false, []) | false => none)) | false => (match Nat.beq pc 58 with | true => some (.iinc 2 (1), 3, 0, [], false, []) | false => none)) | false => (match Nat.ble 56 pc with | true => (match Nat.ble 57 pc with | true => (match Nat.beq pc 57 with | true => some (.istore_n 1, 1, 0, [], false, []) | false => none) | false => (match Nat.beq pc 56 with | true => some (.iadd, 1, 0, [], false, []) | false => none)) | false => (match Nat.beq pc 55 with | true => some (.isub, 1, 0, [], false, []) | false => none)))) | false => (match Nat.ble 47 pc with | true => (match Nat.ble 50 pc with | true => (match Nat.ble 51 pc with | true => (match Nat.ble 52 pc with | true => (match Nat.beq pc 52 with | true => some (.invokevirtual 58, 3, 2654241, [], false, []) | false => none) | false => (match Nat.beq pc 51 with | true => some (.iconst 3, 1, 0, [], false, []) | false => none)) | false => (match Nat.beq pc 50 with | true => some (.irem, 1, 0, [], false, []) | false => none)) | false => (match Nat.ble 48 pc with | true => (match Nat.ble 49 pc with | true => (match Nat.beq pc 49 with | true => some (.iconst 5, 1, 0, [], false, []) | false => none) | false => (match Nat.beq pc 48 with | true => some (.iload_n 2, 1, 0, [], false, []) | false => none)) | false => (match Nat.beq pc 47 with | true => some (.idiv, 1, 0, [], false, []) | false => none))) | false => (match Nat.ble 44 pc with | true => (match Nat.ble 45 pc with | true => (match Nat.ble 46 pc with | true => (match Nat.beq pc 46 with | true => some (.iconst 5, 1, 0, [], false, []) | false => none) | false => (match Nat.beq pc 45 with | true => some (.iload_n 2, 1, 0, [], false, []) | false => none)) | false => (match Nat.beq pc 44 with | true => some (.aload_n 0, 1, 0, [], false, []) | false => none)) | false => (match Nat.ble 42 pc with | true => (match Nat.ble 43 pc with | true => (match Nat.beq pc 43 with | true => some (.iaload, 1, 0, [], false, []) | false => none) | false => (match Nat.beq pc 42 with | true => some (.iconst 0, 1, 0, [], false, []) | false => none)) | false => (match Nat.beq pc 39 with | true => some (.getfield 13, 3, 450, [], false, []) | false => none))))) | false => (match Nat.ble 20 pc with | true => (match Nat.ble 29 pc with | true => (match Nat.ble 34 pc with | true => (match Nat.ble 37 pc with | true => (match Nat.ble 38 pc with | true => (match Nat.beq pc 38 with | true => some (.aload_n 0, 1, 0, [], false, []) | false => none) | false => (match Nat.beq pc 37 with | true => some (.iload_n 1, 1, 0, [], false, []) | false => none)) | false => (match Nat.beq pc 34 with | true => some (.ifCond .eq (24), 3, 58, [], false, []) | false => none)) | false => (match Nat.ble 30 pc with | true => (match Nat.ble 31 pc with | true => (match Nat.beq pc 31 with | true => some (.invokevirtual 178, 3, 3686417, [], false, []) | false => none) | false => (match Nat.beq pc 30 with | true => some (.iload_n 2, 1, 0, [], false, []) | false => none)) | false => (match Nat.beq pc 29 with | true => some (.aload_n 0, 1, 0, [], false, []) | false => none))) | false => (match Nat.ble 23 pc with | true => (match Nat.ble 24 pc with | true => (match Nat.ble 26 pc with | true => (match Nat.beq pc 26 with | true => some (.if_icmp .ge (38), 3, 64, [], false, []) | false => none) | false => (match Nat.beq pc 24 with | true => some (.bipush (35), 2, 0, [], false, []) | false => none)) | false => (match Nat.beq pc 23 with | true => some (.iload_n 2, 1, 0, [], true, []) | false => none)) | false => (match Nat.ble 21 pc with | true => (match Nat.ble 22 pc with | true => (match Nat.beq pc 22 with | true => some (.istore_n 2, 1, 0, [], false, []) | false => none) | false => (match Nat.beq pc 21 with | true => some (.iconst 0, 1, 0, [], false, []) | false => none)) | false => (match Nat.beq pc 20 with | true => some (.istore_n 1, 1, 0, [], false, []) | false => none)))) | false => (match Nat.ble 12 pc with | true => (match Nat.ble 17 pc with | true => (match Nat.ble 18 pc with | true => (match Nat.ble 19 pc with | true => (match Nat.beq pc 19 with | true => some (.iconst 0, 1, 0, [], false, []) | false => none) | false => (match Nat.beq pc 18 with | true => some (.dreturn, 1, 0, [], false, []) | false => none)) | false => (match Nat.beq pc 17 with | true => some (.i2d, 1, 0, [], false, []) | false => none)) | false => (match Nat.ble 13 pc with | true => (match Nat.ble 14 pc with | true => (match Nat.beq pc 14 with | true => some (.invokevirtual 92, 3, 2523153, [], false, []) | false => none) | false => (match Nat.beq pc 13 with | true => some (.iconst 1, 1, 0, [], false, []) | false => none)) | false => (match Nat.beq pc 12 with | true => some (.aload_n 0, 1, 0, [], false, []) | false => none))) | false => (match Nat.ble 5 pc with | true => (match Nat.ble 6 pc with | true => (match Nat.ble 9 pc with | true => (match Nat.beq pc 9 with | true => some (.ifCond .ne (10), 3, 19, [], false, []) | false => none) | false => (match Nat.beq pc 6 with | true => some (.invokevirtual 144, 3, 2752521, [], false, []) | false => none)) | false => (match Nat.beq pc 5 with | true => some (.aload_n 0, 1, 0, [], false, []) | false => none)) | false => (match Nat.ble 1 pc with | true => (match Nat.ble 2 pc with | true => (match Nat.beq pc 2 with | true => some (.putfield 1, 3, 448, [], false, []) | false => none) | false => (match Nat.beq pc 1 with | true => some (.iconst 0, 1, 0, [], false, []) | false => none)) | false => (match Nat.beq pc 0 with | true => some (.aload_n 0, 1, 0, [], false, []) | false => none)))))
def call_Mo_meanAge (kk : Nat) : Nat → List AV → GS → Res := fun id a G => match Nat.ble 168 id with | true => (match Nat.ble 225 id with | true => (match Nat.beq id 225 with | true => A_Mo_isTaken kk a G | false => none) | false => (match Nat.beq id 168 with | true => A_Mo_countAll kk a G | false => none)) | false => (match Nat.ble 162 id with | true => (match Nat.beq id 162 with | true => A_Mo_at kk a G | false => none) | false => (match Nat.beq id 154 with | true => A_Mo_fails kk a G | false => none))
def bk_Mo_meanAge (kk k : Nat) : Kb := fun pc ls st G => match Nat.beq pc 23 with | true => (match ls, st with | [some (.inr (0, 50)), some (.inl (.int x1)), some (.inl (.int x2))], [] => (L_Mo_meanAge kk k) x1 x2 G | _, _ => none) | false => none
theorem R_Mo_meanAge (kk : Nat) (G : GS) : ai_run T_Mo_meanAge (call_Mo_meanAge kk) (fun _ => []) 0 (bk_Mo_meanAge kk kk) 600 0 [some (.inr (0, 50)), none, none] [] G 0 = D_Mo_meanAge kk G := by exact rfl
theorem R_Mo_meanAge_23 (kk k : Nat) (x1 : Int32) (x2 : Int32) (G : GS) : ai_step T_Mo_meanAge (call_Mo_meanAge kk) (fun _ => []) 0 (ai_run T_Mo_meanAge (call_Mo_meanAge kk) (fun _ => []) 0 (bk_Mo_meanAge kk k) 600) 23 (.iload_n 2, 1, 0, [], true, []) [some (.inr (0, 50)), some (.inl (.int x1)), some (.inl (.int x2))] [] G 0 = (L_Mo_meanAge kk (k + 1)) x1 x2 G := by exact rfl
def T_Mo_capsizedShare : Tb := fun pc => match Nat.ble 21 pc with | true => (match Nat.ble 32 pc with | true => (match Nat.ble 38 pc with | true => (match Nat.ble 40 pc with | true => (match Nat.ble 41 pc with | true => (match Nat.beq pc 41 with | true => some (.freturn, 1, 0, [], false, []) | false => none) | false => (match Nat.beq pc 40 with | true => some (.fdiv, 1, 0, [], false, []) | false => none)) | false => (match Nat.ble 39 pc with | true => (match Nat.beq pc 39 with | true => some (.i2f, 1, 0, [], false, []) | false => none) | false => (match Nat.beq pc 38 with | true => some (.iaload, 1, 0, [], false, []) | false => none))) | false => (match Nat.ble 33 pc with | true => (match Nat.ble 36 pc with | true => (match Nat.beq pc 36 with | true => some (.bipush (7), 2, 0, [], false, []) | false => none) | false => (match Nat.beq pc 33 with | true => some (.getfield 13, 3, 450, [], false, []) | false => none)) | false => (match Nat.beq pc 32 with | true => some (.aload_n 0, 1, 0, [], false, []) | false => none))) | false => (match Nat.ble 28 pc with | true => (match Nat.ble 30 pc with | true => (match Nat.ble 31 pc with | true => (match Nat.beq pc 31 with | true => some (.i2f, 1, 0, [], false, []) | false => none) | false => (match Nat.beq pc 30 with | true => some (.iaload, 1, 0, [], false, []) | false => none)) | false => (match Nat.beq pc 28 with | true => some (.bipush (8), 2, 0, [], false, []) | false => none)) | false => (match Nat.ble 24 pc with | true => (match Nat.ble 25 pc with | true => (match Nat.beq pc 25 with | true => some (.getfield 13, 3, 450, [], false, []) | false => none) | false => (match Nat.beq pc 24 with | true => some (.aload_n 0, 1, 0, [], false, []) | false => none)) | false => (match Nat.beq pc 21 with | true => some (.goto (20), 3, 41, [], false, []) | false => none)))) | false => (match Nat.ble 11 pc with | true => (match Nat.ble 16 pc with | true => (match Nat.ble 17 pc with | true => (match Nat.ble 20 pc with | true => (match Nat.beq pc 20 with | true => some (.i2f, 1, 0, [], false, []) | false => none) | false => (match Nat.beq pc 17 with | true => some (.invokevirtual 92, 3, 2523153, [], false, []) | false => none)) | false => (match Nat.beq pc 16 with | true => some (.iconst 1, 1, 0, [], false, []) | false => none)) | false => (match Nat.ble 12 pc with | true => (match Nat.ble 15 pc with | true => (match Nat.beq pc 15 with | true => some (.aload_n 0, 1, 0, [], false, []) | false => none) | false => (match Nat.beq pc 12 with | true => some (.ifCond .ne (12), 3, 24, [], false, []) | false => none)) | false => (match Nat.beq pc 11 with | true => some (.iaload, 1, 0, [], false, []) | false => none))) | false => (match Nat.ble 5 pc with | true => (match Nat.ble 6 pc with | true => (match Nat.ble 9 pc with | true => (match Nat.beq pc 9 with | true => some (.bipush (7), 2, 0, [], false, []) | false => none) | false => (match Nat.beq pc 6 with | true => some (.getfield 13, 3, 450, [], false, []) | false => none)) | false => (match Nat.beq pc 5 with | true => some (.aload_n 0, 1, 0, [], false, []) | false => none)) | false => (match Nat.ble 1 pc with | true => (match Nat.ble 2 pc with | true => (match Nat.beq pc 2 with | true => some (.putfield 1, 3, 448, [], false, []) | false => none) | false => (match Nat.beq pc 1 with | true => some (.iconst 0, 1, 0, [], false, []) | false => none)) | false => (match Nat.beq pc 0 with | true => some (.aload_n 0, 1, 0, [], false, []) | false => none))))
def call_Mo_capsizedShare (kk : Nat) : Nat → List AV → GS → Res := fun id a G => match Nat.beq id 154 with | true => A_Mo_fails kk a G | false => none
def bk_Mo_capsizedShare (kk k : Nat) : Kb := fun _ _ _ _ => none
theorem R_Mo_capsizedShare (kk : Nat) (G : GS) : ai_run T_Mo_capsizedShare (call_Mo_capsizedShare kk) (fun _ => []) 0 (bk_Mo_capsizedShare kk kk) 600 0 [some (.inr (0, 50))] [] G 0 = D_Mo_capsizedShare kk G := by exact rfl
def T_Mo_isConsistent : Tb := fun pc => match Nat.ble 19 pc with | true => (match Nat.ble 29 pc with | true => (match Nat.ble 34 pc with | true => (match Nat.ble 37 pc with | true => (match Nat.ble 38 pc with | true => (match Nat.beq pc 38 with | true => some (.ireturn, 1, 0, [], false, []) | false => none) | false => (match Nat.beq pc 37 with | true => some (.iconst 0, 1, 0, [], false, []) | false => none)) | false => (match Nat.beq pc 34 with | true => some (.goto (4), 3, 38, [], false, []) | false => none)) | false => (match Nat.ble 30 pc with | true => (match Nat.ble 33 pc with | true => (match Nat.beq pc 33 with | true => some (.iconst 1, 1, 0, [], false, []) | false => none) | false => (match Nat.beq pc 30 with | true => some (.if_icmp .ne (7), 3, 37, [], false, []) | false => none)) | false => (match Nat.beq pc 29 with | true => some (.iadd, 1, 0, [], false, []) | false => none))) | false => (match Nat.ble 24 pc with | true => (match Nat.ble 25 pc with | true => (match Nat.ble 26 pc with | true => (match Nat.beq pc 26 with | true => some (.invokevirtual 144, 3, 2752521, [], false, []) | false => none) | false => (match Nat.beq pc 25 with | true => some (.aload_n 0, 1, 0, [], false, []) | false => none)) | false => (match Nat.beq pc 24 with | true => some (.iaload, 1, 0, [], false, []) | false => none)) | false => (match Nat.ble 20 pc with | true => (match Nat.ble 23 pc with | true => (match Nat.beq pc 23 with | true => some (.iconst 5, 1, 0, [], false, []) | false => none) | false => (match Nat.beq pc 20 with | true => some (.getfield 13, 3, 450, [], false, []) | false => none)) | false => (match Nat.beq pc 19 with | true => some (.aload_n 0, 1, 0, [], false, []) | false => none)))) | false => (match Nat.ble 7 pc with | true => (match Nat.ble 14 pc with | true => (match Nat.ble 17 pc with | true => (match Nat.ble 18 pc with | true => (match Nat.beq pc 18 with | true => some (.iaload, 1, 0, [], false, []) | false => none) | false => (match Nat.beq pc 17 with | true => some (.iconst 4, 1, 0, [], false, []) | false => none)) | false => (match Nat.beq pc 14 with | true => some (.getfield 13, 3, 450, [], false, []) | false => none)) | false => (match Nat.ble 10 pc with | true => (match Nat.ble 13 pc with | true => (match Nat.beq pc 13 with | true => some (.aload_n 0, 1, 0, [], false, []) | false => none) | false => (match Nat.beq pc 10 with | true => some (.ifCond .ne (27), 3, 37, [], false, []) | false => none)) | false => (match Nat.beq pc 7 with | true => some (.invokevirtual 82, 3, 2768913, [], false, []) | false => none))) | false => (match Nat.ble 2 pc with | true => (match Nat.ble 5 pc with | true => (match Nat.ble 6 pc with | true => (match Nat.beq pc 6 with | true => some (.iconst 0, 1, 0, [], false, []) | false => none) | false => (match Nat.beq pc 5 with | true => some (.aload_n 0, 1, 0, [], false, []) | false => none)) | false => (match Nat.beq pc 2 with | true => some (.putfield 1, 3, 448, [], false, []) | false => none)) | false => (match Nat.ble 1 pc with | true => (match Nat.beq pc 1 with | true => some (.iconst 0, 1, 0, [], false, []) | false => none) | false => (match Nat.beq pc 0 with | true => some (.aload_n 0, 1, 0, [], false, []) | false => none))))
def call_Mo_isConsistent (kk : Nat) : Nat → List AV → GS → Res := fun id a G => match Nat.ble 169 id with | true => (match Nat.beq id 169 with | true => A_Mo_isBeyond kk a G | false => none) | false => (match Nat.beq id 168 with | true => A_Mo_countAll kk a G | false => none)
def bk_Mo_isConsistent (kk k : Nat) : Kb := fun _ _ _ _ => none
theorem R_Mo_isConsistent (kk : Nat) (G : GS) : ai_run T_Mo_isConsistent (call_Mo_isConsistent kk) (fun _ => []) 0 (bk_Mo_isConsistent kk kk) 600 0 [some (.inr (0, 50))] [] G 0 = D_Mo_isConsistent kk G := by exact rfl
def T_Mo_writes : Tb := fun pc => match Nat.ble 11 pc with | true => (match Nat.ble 16 pc with | true => (match Nat.ble 18 pc with | true => (match Nat.ble 21 pc with | true => (match Nat.beq pc 21 with | true => some (.return_, 1, 0, [], false, []) | false => none) | false => (match Nat.beq pc 18 with | true => some (.putfield 185, 3, 466, [], false, []) | false => none)) | false => (match Nat.ble 17 pc with | true => (match Nat.beq pc 17 with | true => some (.iadd, 1, 0, [], false, []) | false => none) | false => (match Nat.beq pc 16 with | true => some (.iconst 1, 1, 0, [], false, []) | false => none))) | false => (match Nat.ble 12 pc with | true => (match Nat.ble 13 pc with | true => (match Nat.beq pc 13 with | true => some (.getfield 185, 3, 466, [], false, []) | false => none) | false => (match Nat.beq pc 12 with | true => some (.dup, 1, 0, [], false, []) | false => none)) | false => (match Nat.beq pc 11 with | true => some (.aload_n 0, 1, 0, [], false, []) | false => none))) | false => (match Nat.ble 5 pc with | true => (match Nat.ble 9 pc with | true => (match Nat.ble 10 pc with | true => (match Nat.beq pc 10 with | true => some (.castore, 1, 0, [], false, []) | false => none) | false => (match Nat.beq pc 9 with | true => some (.i2c, 1, 0, [], false, []) | false => none)) | false => (match Nat.ble 8 pc with | true => (match Nat.beq pc 8 with | true => some (.iload_n 1, 1, 0, [], false, []) | false => none) | false => (match Nat.beq pc 5 with | true => some (.getfield 185, 3, 466, [], false, []) | false => none))) | false => (match Nat.ble 1 pc with | true => (match Nat.ble 4 pc with | true => (match Nat.beq pc 4 with | true => some (.aload_n 0, 1, 0, [], false, []) | false => none) | false => (match Nat.beq pc 1 with | true => some (.getfield 26, 3, 464, [], false, []) | false => none)) | false => (match Nat.beq pc 0 with | true => some (.aload_n 0, 1, 0, [], false, []) | false => none)))
def call_Mo_writes (kk : Nat) : Nat → List AV → GS → Res := fun id a G => none
def bk_Mo_writes (kk k : Nat) : Kb := fun _ _ _ _ => none
theorem R_Mo_writes (kk : Nat) (a0 : Int32) (G : GS) : ai_run T_Mo_writes (call_Mo_writes kk) (fun _ => []) 0 (bk_Mo_writes kk kk) 600 0 [some (.inr (0, 50)), some (.inl (.int a0))] [] G 0 = D_Mo_writes kk a0 G := by exact rfl
def T_Mo_writesNumber : Tb := fun pc => match Nat.ble 30 pc with | true => (match Nat.ble 48 pc with | true => (match Nat.ble 57 pc with | true => (match Nat.ble 60 pc with | true => (match Nat.ble 62 pc with | true => (match Nat.ble 65 pc with | true => (match Nat.beq pc 65 with | true => some (.return_, 1, 0, [], false, []) | false => none) | false => (match Nat.beq pc 62 with | true => some (.goto (-26), 3, 36, [], false, []) | false => none)) | false => (match Nat.beq pc 60 with | true => some (.istore 4, 2, 0, [], false, []) | false => none)) | false => (match Nat.ble 59 pc with | true => (match Nat.beq pc 59 with | true => some (.idiv, 1, 0, [], false, []) | false => none) | false => (match Nat.beq pc 57 with | true => some (.bipush (10), 2, 0, [], false, []) | false => none))) | false => (match Nat.ble 51 pc with | true => (match Nat.ble 52 pc with | true => (match Nat.ble 55 pc with | true => (match Nat.beq pc 55 with | true => some (.iload 4, 2, 0, [], false, []) | false => none) | false => (match Nat.beq pc 52 with | true => some (.invokevirtual 188, 3, 3932176, [], false, []) | false => none)) | false => (match Nat.beq pc 51 with | true => some (.iadd, 1, 0, [], false, []) | false => none)) | false => (match Nat.ble 50 pc with | true => (match Nat.beq pc 50 with | true => some (.irem, 1, 0, [], false, []) | false => none) | false => (match Nat.beq pc 48 with | true => some (.bipush (10), 2, 0, [], false, []) | false => none)))) | false => (match Nat.ble 41 pc with | true => (match Nat.ble 44 pc with | true => (match Nat.ble 45 pc with | true => (match Nat.ble 47 pc with | true => (match Nat.beq pc 47 with | true => some (.idiv, 1, 0, [], false, []) | false => none) | false => (match Nat.beq pc 45 with | true => some (.iload 4, 2, 0, [], false, []) | false => none)) | false => (match Nat.beq pc 44 with | true => some (.iload_n 2, 1, 0, [], false, []) | false => none)) | false => (match Nat.ble 42 pc with | true => (match Nat.beq pc 42 with | true => some (.bipush (48), 2, 0, [], false, []) | false => none) | false => (match Nat.beq pc 41 with | true => some (.aload_n 0, 1, 0, [], false, []) | false => none))) | false => (match Nat.ble 34 pc with | true => (match Nat.ble 36 pc with | true => (match Nat.ble 38 pc with | true => (match Nat.beq pc 38 with | true => some (.ifCond .le (27), 3, 65, [], false, []) | false => none) | false => (match Nat.beq pc 36 with | true => some (.iload 4, 2, 0, [1, 3], true, []) | false => none)) | false => (match Nat.beq pc 34 with | true => some (.istore 4, 2, 0, [], false, []) | false => none)) | false => (match Nat.ble 33 pc with | true => (match Nat.beq pc 33 with | true => some (.iload_n 3, 1, 0, [], false, []) | false => none) | false => (match Nat.beq pc 30 with | true => some (.goto (-13), 3, 17, [], false, []) | false => none))))) | false => (match Nat.ble 16 pc with | true => (match Nat.ble 22 pc with | true => (match Nat.ble 26 pc with | true => (match Nat.ble 28 pc with | true => (match Nat.ble 29 pc with | true => (match Nat.beq pc 29 with | true => some (.istore_n 3, 1, 0, [], false, []) | false => none) | false => (match Nat.beq pc 28 with | true => some (.imul, 1, 0, [], false, []) | false => none)) | false => (match Nat.beq pc 26 with | true => some (.bipush (10), 2, 0, [], false, []) | false => none)) | false => (match Nat.ble 25 pc with | true => (match Nat.beq pc 25 with | true => some (.iload_n 3, 1, 0, [], false, []) | false => none) | false => (match Nat.beq pc 22 with | true => some (.if_icmp .le (11), 3, 33, [], false, []) | false => none))) | false => (match Nat.ble 18 pc with | true => (match Nat.ble 19 pc with | true => (match Nat.ble 20 pc with | true => (match Nat.beq pc 20 with | true => some (.bipush (9), 2, 0, [], false, []) | false => none) | false => (match Nat.beq pc 19 with | true => some (.idiv, 1, 0, [], false, []) | false => none)) | false => (match Nat.beq pc 18 with | true => some (.iload_n 3, 1, 0, [], false, []) | false => none)) | false => (match Nat.ble 17 pc with | true => (match Nat.beq pc 17 with | true => some (.iload_n 2, 1, 0, [1, 4], true, []) | false => none) | false => (match Nat.beq pc 16 with | true => some (.istore_n 3, 1, 0, [], false, []) | false => none)))) | false => (match Nat.ble 7 pc with | true => (match Nat.ble 11 pc with | true => (match Nat.ble 14 pc with | true => (match Nat.ble 15 pc with | true => (match Nat.beq pc 15 with | true => some (.iconst 1, 1, 0, [], false, []) | false => none) | false => (match Nat.beq pc 14 with | true => some (.istore_n 2, 1, 0, [], false, []) | false => none)) | false => (match Nat.beq pc 11 with | true => some (.invokestatic 160, 3, 3457033, [], false, []) | false => none)) | false => (match Nat.ble 10 pc with | true => (match Nat.beq pc 10 with | true => some (.iload_n 1, 1, 0, [], false, []) | false => none) | false => (match Nat.beq pc 7 with | true => some (.invokevirtual 188, 3, 3932176, [], false, []) | false => none))) | false => (match Nat.ble 4 pc with | true => (match Nat.ble 5 pc with | true => (match Nat.beq pc 5 with | true => some (.bipush (45), 2, 0, [], false, []) | false => none) | false => (match Nat.beq pc 4 with | true => some (.aload_n 0, 1, 0, [], false, []) | false => none)) | false => (match Nat.ble 1 pc with | true => (match Nat.beq pc 1 with | true => some (.ifCond .ge (9), 3, 10, [], false, []) | false => none) | false => (match Nat.beq pc 0 with | true => some (.iload_n 1, 1, 0, [], false, []) | false => none)))))
def call_Mo_writesNumber (kk : Nat) : Nat → List AV → GS → Res := fun id a G => match Nat.ble 240 id with | true => (match Nat.beq id 240 with | true => A_Mo_writes kk a G | false => none) | false => (match Nat.beq id 211 with | true => A_Mo_magnitude kk a G | false => none)
def bk_Mo_writesNumber (kk k : Nat) : Kb := fun pc ls st G => match Nat.beq pc 17 with | true => (match ls, st with | [some (.inr (0, 50)), none, some (.inl (.int x2)), some (.inl (.int x3)), none], [] => (L_Mo_writesNumber kk k).1 x2 x3 G | _, _ => none) | false => match Nat.beq pc 36 with | true => (match ls, st with | [some (.inr (0, 50)), none, some (.inl (.int x2)), none, some (.inl (.int x4))], [] => (L_Mo_writesNumber kk k).2 x2 x4 G | _, _ => none) | false => none
theorem R_Mo_writesNumber (kk : Nat) (a0 : Int32) (G : GS) : ai_run T_Mo_writesNumber (call_Mo_writesNumber kk) (fun _ => []) 0 (bk_Mo_writesNumber kk kk) 600 0 [some (.inr (0, 50)), some (.inl (.int a0)), none, none, none] [] G 0 = D_Mo_writesNumber kk a0 G := by exact rfl
theorem R_Mo_writesNumber_17 (kk k : Nat) (x2 : Int32) (x3 : Int32) (G : GS) : ai_step T_Mo_writesNumber (call_Mo_writesNumber kk) (fun _ => []) 0 (ai_run T_Mo_writesNumber (call_Mo_writesNumber kk) (fun _ => []) 0 (bk_Mo_writesNumber kk k) 600) 17 (.iload_n 2, 1, 0, [1, 4], true, []) [some (.inr (0, 50)), none, some (.inl (.int x2)), some (.inl (.int x3)), none] [] G 0 = (L_Mo_writesNumber kk (k + 1)).1 x2 x3 G := by exact rfl
theorem R_Mo_writesNumber_36 (kk k : Nat) (x2 : Int32) (x4 : Int32) (G : GS) : ai_step T_Mo_writesNumber (call_Mo_writesNumber kk) (fun _ => []) 0 (ai_run T_Mo_writesNumber (call_Mo_writesNumber kk) (fun _ => []) 0 (bk_Mo_writesNumber kk k) 600) 36 (.iload 4, 2, 0, [1, 3], true, []) [some (.inr (0, 50)), none, some (.inl (.int x2)), none, some (.inl (.int x4))] [] G 0 = (L_Mo_writesNumber kk (k + 1)).2 x2 x4 G := by exact rfl
def T_Mo_renderStack : Tb := fun pc => match Nat.ble 50 pc with | true => (match Nat.ble 76 pc with | true => (match Nat.ble 86 pc with | true => (match Nat.ble 96 pc with | true => (match Nat.ble 100 pc with | true => (match Nat.ble 103 pc with | true => (match Nat.beq pc 103 with | true => some (.ireturn, 1, 0, [], false, []) | false => none) | false => (match Nat.beq pc 100 with | true => some (.getfield 185, 3, 466, [], false, []) | false => none)) | false => (match Nat.ble 99 pc with | true => (match Nat.beq pc 99 with | true => some (.aload_n 0, 1, 0, [], false, []) | false => none) | false => (match Nat.beq pc 96 with | true => some (.goto (-71), 3, 25, [], false, []) | false => none))) | false => (match Nat.ble 90 pc with | true => (match Nat.ble 93 pc with | true => (match Nat.beq pc 93 with | true => some (.iinc 2 (1), 3, 0, [], false, []) | false => none) | false => (match Nat.beq pc 90 with | true => some (.invokevirtual 191, 3, 3948560, [], false, []) | false => none)) | false => (match Nat.ble 87 pc with | true => (match Nat.beq pc 87 with | true => some (.invokevirtual 58, 3, 2654241, [], false, []) | false => none) | false => (match Nat.beq pc 86 with | true => some (.iconst 2, 1, 0, [], false, []) | false => none)))) | false => (match Nat.ble 82 pc with | true => (match Nat.ble 84 pc with | true => (match Nat.ble 85 pc with | true => (match Nat.beq pc 85 with | true => some (.iload_n 2, 1, 0, [], false, []) | false => none) | false => (match Nat.beq pc 84 with | true => some (.iload_n 1, 1, 0, [], false, []) | false => none)) | false => (match Nat.ble 83 pc with | true => (match Nat.beq pc 83 with | true => some (.aload_n 0, 1, 0, [], false, []) | false => none) | false => (match Nat.beq pc 82 with | true => some (.aload_n 0, 1, 0, [], false, []) | false => none))) | false => (match Nat.ble 77 pc with | true => (match Nat.ble 79 pc with | true => (match Nat.beq pc 79 with | true => some (.invokevirtual 188, 3, 3932176, [], false, []) | false => none) | false => (match Nat.beq pc 77 with | true => some (.bipush (112), 2, 0, [], false, []) | false => none)) | false => (match Nat.beq pc 76 with | true => some (.aload_n 0, 1, 0, [], false, []) | false => none)))) | false => (match Nat.ble 62 pc with | true => (match Nat.ble 68 pc with | true => (match Nat.ble 70 pc with | true => (match Nat.ble 73 pc with | true => (match Nat.beq pc 73 with | true => some (.invokevirtual 191, 3, 3948560, [], false, []) | false => none) | false => (match Nat.beq pc 70 with | true => some (.invokevirtual 58, 3, 2654241, [], false, []) | false => none)) | false => (match Nat.ble 69 pc with | true => (match Nat.beq pc 69 with | true => some (.iconst 1, 1, 0, [], false, []) | false => none) | false => (match Nat.beq pc 68 with | true => some (.iload_n 2, 1, 0, [], false, []) | false => none))) | false => (match Nat.ble 66 pc with | true => (match Nat.ble 67 pc with | true => (match Nat.beq pc 67 with | true => some (.iload_n 1, 1, 0, [], false, []) | false => none) | false => (match Nat.beq pc 66 with | true => some (.aload_n 0, 1, 0, [], false, []) | false => none)) | false => (match Nat.ble 65 pc with | true => (match Nat.beq pc 65 with | true => some (.aload_n 0, 1, 0, [], false, []) | false => none) | false => (match Nat.beq pc 62 with | true => some (.invokevirtual 188, 3, 3932176, [], false, []) | false => none)))) | false => (match Nat.ble 53 pc with | true => (match Nat.ble 59 pc with | true => (match Nat.ble 60 pc with | true => (match Nat.beq pc 60 with | true => some (.bipush (119), 2, 0, [], false, []) | false => none) | false => (match Nat.beq pc 59 with | true => some (.aload_n 0, 1, 0, [], false, []) | false => none)) | false => (match Nat.ble 56 pc with | true => (match Nat.beq pc 56 with | true => some (.invokevirtual 191, 3, 3948560, [], false, []) | false => none) | false => (match Nat.beq pc 53 with | true => some (.invokevirtual 58, 3, 2654241, [], false, []) | false => none))) | false => (match Nat.ble 51 pc with | true => (match Nat.ble 52 pc with | true => (match Nat.beq pc 52 with | true => some (.iconst 0, 1, 0, [], false, []) | false => none) | false => (match Nat.beq pc 51 with | true => some (.iload_n 2, 1, 0, [], false, []) | false => none)) | false => (match Nat.beq pc 50 with | true => some (.iload_n 1, 1, 0, [], false, []) | false => none))))) | false => (match Nat.ble 25 pc with | true => (match Nat.ble 35 pc with | true => (match Nat.ble 43 pc with | true => (match Nat.ble 48 pc with | true => (match Nat.ble 49 pc with | true => (match Nat.beq pc 49 with | true => some (.aload_n 0, 1, 0, [], false, []) | false => none) | false => (match Nat.beq pc 48 with | true => some (.aload_n 0, 1, 0, [], true, []) | false => none)) | false => (match Nat.ble 45 pc with | true => (match Nat.beq pc 45 with | true => some (.invokevirtual 188, 3, 3932176, [], false, []) | false => none) | false => (match Nat.beq pc 43 with | true => some (.bipush (32), 2, 0, [], false, []) | false => none))) | false => (match Nat.ble 39 pc with | true => (match Nat.ble 42 pc with | true => (match Nat.beq pc 42 with | true => some (.aload_n 0, 1, 0, [], false, []) | false => none) | false => (match Nat.beq pc 39 with | true => some (.ifCond .le (9), 3, 48, [], false, []) | false => none)) | false => (match Nat.ble 38 pc with | true => (match Nat.beq pc 38 with | true => some (.iload_n 2, 1, 0, [], false, []) | false => none) | false => (match Nat.beq pc 35 with | true => some (.if_icmp .ge (64), 3, 99, [], false, []) | false => none)))) | false => (match Nat.ble 30 pc with | true => (match Nat.ble 33 pc with | true => (match Nat.ble 34 pc with | true => (match Nat.beq pc 34 with | true => some (.iaload, 1, 0, [], false, []) | false => none) | false => (match Nat.beq pc 33 with | true => some (.iadd, 1, 0, [], false, []) | false => none)) | false => (match Nat.ble 32 pc with | true => (match Nat.beq pc 32 with | true => some (.iload_n 1, 1, 0, [], false, []) | false => none) | false => (match Nat.beq pc 30 with | true => some (.bipush (9), 2, 0, [], false, []) | false => none))) | false => (match Nat.ble 26 pc with | true => (match Nat.ble 27 pc with | true => (match Nat.beq pc 27 with | true => some (.getfield 13, 3, 450, [], false, []) | false => none) | false => (match Nat.beq pc 26 with | true => some (.aload_n 0, 1, 0, [], false, []) | false => none)) | false => (match Nat.beq pc 25 with | true => some (.iload_n 2, 1, 0, [], true, []) | false => none)))) | false => (match Nat.ble 13 pc with | true => (match Nat.ble 19 pc with | true => (match Nat.ble 23 pc with | true => (match Nat.ble 24 pc with | true => (match Nat.beq pc 24 with | true => some (.istore_n 2, 1, 0, [], false, []) | false => none) | false => (match Nat.beq pc 23 with | true => some (.iconst 0, 1, 0, [], false, []) | false => none)) | false => (match Nat.ble 20 pc with | true => (match Nat.beq pc 20 with | true => some (.putfield 185, 3, 466, [], false, []) | false => none) | false => (match Nat.beq pc 19 with | true => some (.iconst 0, 1, 0, [], false, []) | false => none))) | false => (match Nat.ble 17 pc with | true => (match Nat.ble 18 pc with | true => (match Nat.beq pc 18 with | true => some (.aload_n 0, 1, 0, [], false, []) | false => none) | false => (match Nat.beq pc 17 with | true => some (.ireturn, 1, 0, [], false, []) | false => none)) | false => (match Nat.ble 14 pc with | true => (match Nat.beq pc 14 with | true => some (.invokevirtual 92, 3, 2523153, [], false, []) | false => none) | false => (match Nat.beq pc 13 with | true => some (.iconst 1, 1, 0, [], false, []) | false => none)))) | false => (match Nat.ble 5 pc with | true => (match Nat.ble 9 pc with | true => (match Nat.ble 12 pc with | true => (match Nat.beq pc 12 with | true => some (.aload_n 0, 1, 0, [], false, []) | false => none) | false => (match Nat.beq pc 9 with | true => some (.ifCond .ne (9), 3, 18, [], false, []) | false => none)) | false => (match Nat.ble 6 pc with | true => (match Nat.beq pc 6 with | true => some (.invokestatic 74, 3, 2637833, [], false, []) | false => none) | false => (match Nat.beq pc 5 with | true => some (.iload_n 1, 1, 0, [], false, []) | false => none))) | false => (match Nat.ble 1 pc with | true => (match Nat.ble 2 pc with | true => (match Nat.beq pc 2 with | true => some (.putfield 1, 3, 448, [], false, []) | false => none) | false => (match Nat.beq pc 1 with | true => some (.iconst 0, 1, 0, [], false, []) | false => none)) | false => (match Nat.beq pc 0 with | true => some (.aload_n 0, 1, 0, [], false, []) | false => none)))))
def call_Mo_renderStack (kk : Nat) : Nat → List AV → GS → Res := fun id a G => match Nat.ble 162 id with | true => (match Nat.ble 240 id with | true => (match Nat.ble 241 id with | true => (match Nat.beq id 241 with | true => A_Mo_writesNumber kk a G | false => none) | false => (match Nat.beq id 240 with | true => A_Mo_writes kk a G | false => none)) | false => (match Nat.beq id 162 with | true => A_Mo_at kk a G | false => none)) | false => (match Nat.ble 161 id with | true => (match Nat.beq id 161 with | true => A_Mo_isBay kk a G | false => none) | false => (match Nat.beq id 154 with | true => A_Mo_fails kk a G | false => none))
def bk_Mo_renderStack (kk k : Nat) : Kb := fun pc ls st G => match Nat.beq pc 25 with | true => (match ls, st with | [some (.inr (0, 50)), some (.inl (.int x1)), some (.inl (.int x2))], [] => (L_Mo_renderStack kk k).1 x1 x2 G | _, _ => none) | false => match Nat.beq pc 48 with | true => (match ls, st with | [some (.inr (0, 50)), some (.inl (.int x1)), some (.inl (.int x2))], [] => (L_Mo_renderStack kk k).2 x1 x2 G | _, _ => none) | false => none
theorem R_Mo_renderStack (kk : Nat) (a0 : Int32) (G : GS) : ai_run T_Mo_renderStack (call_Mo_renderStack kk) (fun _ => []) 0 (bk_Mo_renderStack kk kk) 600 0 [some (.inr (0, 50)), some (.inl (.int a0)), none] [] G 0 = D_Mo_renderStack kk a0 G := by exact rfl
theorem R_Mo_renderStack_25 (kk k : Nat) (x1 : Int32) (x2 : Int32) (G : GS) : ai_step T_Mo_renderStack (call_Mo_renderStack kk) (fun _ => []) 0 (ai_run T_Mo_renderStack (call_Mo_renderStack kk) (fun _ => []) 0 (bk_Mo_renderStack kk k) 600) 25 (.iload_n 2, 1, 0, [], true, []) [some (.inr (0, 50)), some (.inl (.int x1)), some (.inl (.int x2))] [] G 0 = (L_Mo_renderStack kk (k + 1)).1 x1 x2 G := by exact rfl
theorem R_Mo_renderStack_48 (kk k : Nat) (x1 : Int32) (x2 : Int32) (G : GS) : ai_step T_Mo_renderStack (call_Mo_renderStack kk) (fun _ => []) 0 (ai_run T_Mo_renderStack (call_Mo_renderStack kk) (fun _ => []) 0 (bk_Mo_renderStack kk k) 600) 48 (.aload_n 0, 1, 0, [], true, []) [some (.inr (0, 50)), some (.inl (.int x1)), some (.inl (.int x2))] [] G 0 = (L_Mo_renderStack kk (k + 1)).2 x1 x2 G := by exact rfl
def T_Mo_renderBarge : Tb := fun pc => match Nat.ble 28 pc with | true => (match Nat.ble 44 pc with | true => (match Nat.ble 51 pc with | true => (match Nat.ble 57 pc with | true => (match Nat.ble 58 pc with | true => (match Nat.ble 61 pc with | true => (match Nat.beq pc 61 with | true => some (.ireturn, 1, 0, [], false, []) | false => none) | false => (match Nat.beq pc 58 with | true => some (.getfield 185, 3, 466, [], false, []) | false => none)) | false => (match Nat.beq pc 57 with | true => some (.aload_n 0, 1, 0, [], false, []) | false => none)) | false => (match Nat.ble 54 pc with | true => (match Nat.beq pc 54 with | true => some (.invokevirtual 191, 3, 3948560, [], false, []) | false => none) | false => (match Nat.beq pc 51 with | true => some (.invokevirtual 66, 3, 2719753, [], false, []) | false => none))) | false => (match Nat.ble 49 pc with | true => (match Nat.ble 50 pc with | true => (match Nat.beq pc 50 with | true => some (.aload_n 0, 1, 0, [], false, []) | false => none) | false => (match Nat.beq pc 49 with | true => some (.aload_n 0, 1, 0, [], false, []) | false => none)) | false => (match Nat.ble 46 pc with | true => (match Nat.beq pc 46 with | true => some (.invokevirtual 188, 3, 3932176, [], false, []) | false => none) | false => (match Nat.beq pc 44 with | true => some (.bipush (61), 2, 0, [], false, []) | false => none)))) | false => (match Nat.ble 34 pc with | true => (match Nat.ble 40 pc with | true => (match Nat.ble 43 pc with | true => (match Nat.beq pc 43 with | true => some (.aload_n 0, 1, 0, [], false, []) | false => none) | false => (match Nat.beq pc 40 with | true => some (.goto (-28), 3, 12, [], false, []) | false => none)) | false => (match Nat.ble 37 pc with | true => (match Nat.beq pc 37 with | true => some (.iinc 1 (1), 3, 0, [], false, []) | false => none) | false => (match Nat.beq pc 34 with | true => some (.invokevirtual 191, 3, 3948560, [], false, []) | false => none))) | false => (match Nat.ble 30 pc with | true => (match Nat.ble 31 pc with | true => (match Nat.beq pc 31 with | true => some (.invokevirtual 62, 3, 2703377, [], false, []) | false => none) | false => (match Nat.beq pc 30 with | true => some (.iload_n 1, 1, 0, [], false, []) | false => none)) | false => (match Nat.ble 29 pc with | true => (match Nat.beq pc 29 with | true => some (.aload_n 0, 1, 0, [], false, []) | false => none) | false => (match Nat.beq pc 28 with | true => some (.aload_n 0, 1, 0, [], false, []) | false => none))))) | false => (match Nat.ble 12 pc with | true => (match Nat.ble 19 pc with | true => (match Nat.ble 23 pc with | true => (match Nat.ble 25 pc with | true => (match Nat.beq pc 25 with | true => some (.invokevirtual 188, 3, 3932176, [], false, []) | false => none) | false => (match Nat.beq pc 23 with | true => some (.bipush (32), 2, 0, [], false, []) | false => none)) | false => (match Nat.ble 22 pc with | true => (match Nat.beq pc 22 with | true => some (.aload_n 0, 1, 0, [], false, []) | false => none) | false => (match Nat.beq pc 19 with | true => some (.ifCond .le (9), 3, 28, [], false, []) | false => none))) | false => (match Nat.ble 15 pc with | true => (match Nat.ble 18 pc with | true => (match Nat.beq pc 18 with | true => some (.iload_n 1, 1, 0, [], false, []) | false => none) | false => (match Nat.beq pc 15 with | true => some (.if_icmp .ge (28), 3, 43, [], false, []) | false => none)) | false => (match Nat.ble 13 pc with | true => (match Nat.beq pc 13 with | true => some (.bipush (7), 2, 0, [], false, []) | false => none) | false => (match Nat.beq pc 12 with | true => some (.iload_n 1, 1, 0, [], true, []) | false => none)))) | false => (match Nat.ble 6 pc with | true => (match Nat.ble 10 pc with | true => (match Nat.ble 11 pc with | true => (match Nat.beq pc 11 with | true => some (.istore_n 1, 1, 0, [], false, []) | false => none) | false => (match Nat.beq pc 10 with | true => some (.iconst 0, 1, 0, [], false, []) | false => none)) | false => (match Nat.ble 7 pc with | true => (match Nat.beq pc 7 with | true => some (.putfield 185, 3, 466, [], false, []) | false => none) | false => (match Nat.beq pc 6 with | true => some (.iconst 0, 1, 0, [], false, []) | false => none))) | false => (match Nat.ble 2 pc with | true => (match Nat.ble 5 pc with | true => (match Nat.beq pc 5 with | true => some (.aload_n 0, 1, 0, [], false, []) | false => none) | false => (match Nat.beq pc 2 with | true => some (.putfield 1, 3, 448, [], false, []) | false => none)) | false => (match Nat.ble 1 pc with | true => (match Nat.beq pc 1 with | true => some (.iconst 0, 1, 0, [], false, []) | false => none) | false => (match Nat.beq pc 0 with | true => some (.aload_n 0, 1, 0, [], false, []) | false => none)))))
def call_Mo_renderBarge (kk : Nat) : Nat → List AV → GS → Res := fun id a G => match Nat.ble 240 id with | true => (match Nat.ble 241 id with | true => (match Nat.beq id 241 with | true => A_Mo_writesNumber kk a G | false => none) | false => (match Nat.beq id 240 with | true => A_Mo_writes kk a G | false => none)) | false => (match Nat.ble 166 id with | true => (match Nat.beq id 166 with | true => A_Mo_momentNow kk a G | false => none) | false => (match Nat.beq id 165 with | true => A_Mo_weightOfBay kk a G | false => none))
def bk_Mo_renderBarge (kk k : Nat) : Kb := fun pc ls st G => match Nat.beq pc 12 with | true => (match ls, st with | [some (.inr (0, 50)), some (.inl (.int x1))], [] => (L_Mo_renderBarge kk k) x1 G | _, _ => none) | false => none
theorem R_Mo_renderBarge (kk : Nat) (G : GS) : ai_run T_Mo_renderBarge (call_Mo_renderBarge kk) (fun _ => []) 0 (bk_Mo_renderBarge kk kk) 600 0 [some (.inr (0, 50)), none] [] G 0 = D_Mo_renderBarge kk G := by exact rfl
theorem R_Mo_renderBarge_12 (kk k : Nat) (x1 : Int32) (G : GS) : ai_step T_Mo_renderBarge (call_Mo_renderBarge kk) (fun _ => []) 0 (ai_run T_Mo_renderBarge (call_Mo_renderBarge kk) (fun _ => []) 0 (bk_Mo_renderBarge kk k) 600) 12 (.iload_n 1, 1, 0, [], true, []) [some (.inr (0, 50)), some (.inl (.int x1))] [] G 0 = (L_Mo_renderBarge kk (k + 1)) x1 G := by exact rfl
def T_Mo_outputAt : Tb := fun pc => match Nat.ble 16 pc with | true => (match Nat.ble 25 pc with | true => (match Nat.ble 28 pc with | true => (match Nat.ble 31 pc with | true => (match Nat.ble 32 pc with | true => (match Nat.beq pc 32 with | true => some (.ireturn, 1, 0, [], false, []) | false => none) | false => (match Nat.beq pc 31 with | true => some (.i2c, 1, 0, [], false, []) | false => none)) | false => (match Nat.beq pc 28 with | true => some (.invokevirtual 92, 3, 2523153, [], false, []) | false => none)) | false => (match Nat.ble 26 pc with | true => (match Nat.ble 27 pc with | true => (match Nat.beq pc 27 with | true => some (.iconst 1, 1, 0, [], false, []) | false => none) | false => (match Nat.beq pc 26 with | true => some (.aload_n 0, 1, 0, [], false, []) | false => none)) | false => (match Nat.beq pc 25 with | true => some (.ireturn, 1, 0, [], false, []) | false => none))) | false => (match Nat.ble 20 pc with | true => (match Nat.ble 23 pc with | true => (match Nat.ble 24 pc with | true => (match Nat.beq pc 24 with | true => some (.caload, 1, 0, [], false, []) | false => none) | false => (match Nat.beq pc 23 with | true => some (.iload_n 1, 1, 0, [], false, []) | false => none)) | false => (match Nat.beq pc 20 with | true => some (.getfield 26, 3, 464, [], false, []) | false => none)) | false => (match Nat.ble 19 pc with | true => (match Nat.beq pc 19 with | true => some (.aload_n 0, 1, 0, [], false, []) | false => none) | false => (match Nat.beq pc 16 with | true => some (.ifCond .eq (10), 3, 26, [], false, []) | false => none)))) | false => (match Nat.ble 7 pc with | true => (match Nat.ble 11 pc with | true => (match Nat.ble 12 pc with | true => (match Nat.ble 13 pc with | true => (match Nat.beq pc 13 with | true => some (.invokestatic 54, 3, 2539545, [], false, []) | false => none) | false => (match Nat.beq pc 12 with | true => some (.isub, 1, 0, [], false, []) | false => none)) | false => (match Nat.beq pc 11 with | true => some (.iconst 1, 1, 0, [], false, []) | false => none)) | false => (match Nat.ble 8 pc with | true => (match Nat.beq pc 8 with | true => some (.getfield 185, 3, 466, [], false, []) | false => none) | false => (match Nat.beq pc 7 with | true => some (.aload_n 0, 1, 0, [], false, []) | false => none))) | false => (match Nat.ble 2 pc with | true => (match Nat.ble 5 pc with | true => (match Nat.ble 6 pc with | true => (match Nat.beq pc 6 with | true => some (.iconst 0, 1, 0, [], false, []) | false => none) | false => (match Nat.beq pc 5 with | true => some (.iload_n 1, 1, 0, [], false, []) | false => none)) | false => (match Nat.beq pc 2 with | true => some (.putfield 1, 3, 448, [], false, []) | false => none)) | false => (match Nat.ble 1 pc with | true => (match Nat.beq pc 1 with | true => some (.iconst 0, 1, 0, [], false, []) | false => none) | false => (match Nat.beq pc 0 with | true => some (.aload_n 0, 1, 0, [], false, []) | false => none))))
def call_Mo_outputAt (kk : Nat) : Nat → List AV → GS → Res := fun id a G => match Nat.ble 155 id with | true => (match Nat.beq id 155 with | true => A_Mo_isBetween kk a G | false => none) | false => (match Nat.beq id 154 with | true => A_Mo_fails kk a G | false => none)
def bk_Mo_outputAt (kk k : Nat) : Kb := fun _ _ _ _ => none
theorem R_Mo_outputAt (kk : Nat) (a0 : Int32) (G : GS) : ai_run T_Mo_outputAt (call_Mo_outputAt kk) (fun _ => []) 0 (bk_Mo_outputAt kk kk) 600 0 [some (.inr (0, 50)), some (.inl (.int a0))] [] G 0 = D_Mo_outputAt kk a0 G := by exact rfl
def T_Mo_type : Tb := fun pc => match Nat.ble 32 pc with | true => (match Nat.ble 47 pc with | true => (match Nat.ble 53 pc with | true => (match Nat.ble 57 pc with | true => (match Nat.ble 58 pc with | true => (match Nat.ble 61 pc with | true => (match Nat.beq pc 61 with | true => some (.ireturn, 1, 0, [], false, []) | false => none) | false => (match Nat.beq pc 58 with | true => some (.getfield 194, 3, 470, [], false, []) | false => none)) | false => (match Nat.beq pc 57 with | true => some (.aload_n 0, 1, 0, [], false, []) | false => none)) | false => (match Nat.ble 54 pc with | true => (match Nat.beq pc 54 with | true => some (.putfield 194, 3, 470, [], false, []) | false => none) | false => (match Nat.beq pc 53 with | true => some (.iadd, 1, 0, [], false, []) | false => none))) | false => (match Nat.ble 49 pc with | true => (match Nat.ble 52 pc with | true => (match Nat.beq pc 52 with | true => some (.iconst 1, 1, 0, [], false, []) | false => none) | false => (match Nat.beq pc 49 with | true => some (.getfield 194, 3, 470, [], false, []) | false => none)) | false => (match Nat.ble 48 pc with | true => (match Nat.beq pc 48 with | true => some (.dup, 1, 0, [], false, []) | false => none) | false => (match Nat.beq pc 47 with | true => some (.aload_n 0, 1, 0, [], false, []) | false => none)))) | false => (match Nat.ble 38 pc with | true => (match Nat.ble 42 pc with | true => (match Nat.ble 45 pc with | true => (match Nat.ble 46 pc with | true => (match Nat.beq pc 46 with | true => some (.castore, 1, 0, [], false, []) | false => none) | false => (match Nat.beq pc 45 with | true => some (.iload_n 1, 1, 0, [], false, []) | false => none)) | false => (match Nat.beq pc 42 with | true => some (.getfield 194, 3, 470, [], false, []) | false => none)) | false => (match Nat.ble 41 pc with | true => (match Nat.beq pc 41 with | true => some (.aload_n 0, 1, 0, [], false, []) | false => none) | false => (match Nat.beq pc 38 with | true => some (.getfield 30, 3, 468, [], false, []) | false => none))) | false => (match Nat.ble 36 pc with | true => (match Nat.ble 37 pc with | true => (match Nat.beq pc 37 with | true => some (.aload_n 0, 1, 0, [], false, []) | false => none) | false => (match Nat.beq pc 36 with | true => some (.ireturn, 1, 0, [], false, []) | false => none)) | false => (match Nat.ble 33 pc with | true => (match Nat.beq pc 33 with | true => some (.invokevirtual 92, 3, 2523153, [], false, []) | false => none) | false => (match Nat.beq pc 32 with | true => some (.iconst 2, 1, 0, [], false, []) | false => none))))) | false => (match Nat.ble 16 pc with | true => (match Nat.ble 22 pc with | true => (match Nat.ble 26 pc with | true => (match Nat.ble 28 pc with | true => (match Nat.ble 31 pc with | true => (match Nat.beq pc 31 with | true => some (.aload_n 0, 1, 0, [], false, []) | false => none) | false => (match Nat.beq pc 28 with | true => some (.if_icmp .ne (9), 3, 37, [], false, []) | false => none)) | false => (match Nat.beq pc 26 with | true => some (.bipush (60), 2, 0, [], false, []) | false => none)) | false => (match Nat.ble 23 pc with | true => (match Nat.beq pc 23 with | true => some (.getfield 194, 3, 470, [], false, []) | false => none) | false => (match Nat.beq pc 22 with | true => some (.aload_n 0, 1, 0, [], false, []) | false => none))) | false => (match Nat.ble 18 pc with | true => (match Nat.ble 21 pc with | true => (match Nat.beq pc 21 with | true => some (.ireturn, 1, 0, [], false, []) | false => none) | false => (match Nat.beq pc 18 with | true => some (.invokevirtual 92, 3, 2523153, [], false, []) | false => none)) | false => (match Nat.ble 17 pc with | true => (match Nat.beq pc 17 with | true => some (.iconst 1, 1, 0, [], false, []) | false => none) | false => (match Nat.beq pc 16 with | true => some (.aload_n 0, 1, 0, [], false, []) | false => none)))) | false => (match Nat.ble 6 pc with | true => (match Nat.ble 10 pc with | true => (match Nat.ble 13 pc with | true => (match Nat.beq pc 13 with | true => some (.ifCond .ne (9), 3, 22, [], false, []) | false => none) | false => (match Nat.beq pc 10 with | true => some (.invokestatic 54, 3, 2539545, [], false, []) | false => none)) | false => (match Nat.ble 8 pc with | true => (match Nat.beq pc 8 with | true => some (.bipush (126), 2, 0, [], false, []) | false => none) | false => (match Nat.beq pc 6 with | true => some (.bipush (32), 2, 0, [], false, []) | false => none))) | false => (match Nat.ble 2 pc with | true => (match Nat.ble 5 pc with | true => (match Nat.beq pc 5 with | true => some (.iload_n 1, 1, 0, [], false, []) | false => none) | false => (match Nat.beq pc 2 with | true => some (.putfield 1, 3, 448, [], false, []) | false => none)) | false => (match Nat.ble 1 pc with | true => (match Nat.beq pc 1 with | true => some (.iconst 0, 1, 0, [], false, []) | false => none) | false => (match Nat.beq pc 0 with | true => some (.aload_n 0, 1, 0, [], false, []) | false => none)))))
def call_Mo_type (kk : Nat) : Nat → List AV → GS → Res := fun id a G => match Nat.ble 155 id with | true => (match Nat.beq id 155 with | true => A_Mo_isBetween kk a G | false => none) | false => (match Nat.beq id 154 with | true => A_Mo_fails kk a G | false => none)
def bk_Mo_type (kk k : Nat) : Kb := fun _ _ _ _ => none
theorem R_Mo_type (kk : Nat) (a0 : Int32) (G : GS) : ai_run T_Mo_type (call_Mo_type kk) (fun _ => []) 0 (bk_Mo_type kk kk) 600 0 [some (.inr (0, 50)), some (.inl (.int a0))] [] G 0 = D_Mo_type kk a0 G := by exact rfl
def T_Mo_nextChar : Tb := fun pc => match Nat.ble 12 pc with | true => (match Nat.ble 19 pc with | true => (match Nat.ble 23 pc with | true => (match Nat.ble 24 pc with | true => (match Nat.beq pc 24 with | true => some (.ireturn, 1, 0, [], false, []) | false => none) | false => (match Nat.beq pc 23 with | true => some (.iconst (-1), 1, 0, [], false, []) | false => none)) | false => (match Nat.ble 20 pc with | true => (match Nat.beq pc 20 with | true => some (.goto (4), 3, 24, [], false, []) | false => none) | false => (match Nat.beq pc 19 with | true => some (.caload, 1, 0, [], false, []) | false => none))) | false => (match Nat.ble 15 pc with | true => (match Nat.ble 16 pc with | true => (match Nat.beq pc 16 with | true => some (.getfield 197, 3, 472, [], false, []) | false => none) | false => (match Nat.beq pc 15 with | true => some (.aload_n 0, 1, 0, [], false, []) | false => none)) | false => (match Nat.beq pc 12 with | true => some (.getfield 30, 3, 468, [], false, []) | false => none))) | false => (match Nat.ble 5 pc with | true => (match Nat.ble 8 pc with | true => (match Nat.ble 11 pc with | true => (match Nat.beq pc 11 with | true => some (.aload_n 0, 1, 0, [], false, []) | false => none) | false => (match Nat.beq pc 8 with | true => some (.if_icmp .ge (15), 3, 23, [], false, []) | false => none)) | false => (match Nat.beq pc 5 with | true => some (.getfield 194, 3, 470, [], false, []) | false => none)) | false => (match Nat.ble 1 pc with | true => (match Nat.ble 4 pc with | true => (match Nat.beq pc 4 with | true => some (.aload_n 0, 1, 0, [], false, []) | false => none) | false => (match Nat.beq pc 1 with | true => some (.getfield 197, 3, 472, [], false, []) | false => none)) | false => (match Nat.beq pc 0 with | true => some (.aload_n 0, 1, 0, [], false, []) | false => none)))
def call_Mo_nextChar (kk : Nat) : Nat → List AV → GS → Res := fun id a G => none
def bk_Mo_nextChar (kk k : Nat) : Kb := fun _ _ _ _ => none
theorem R_Mo_nextChar (kk : Nat) (G : GS) : ai_run T_Mo_nextChar (call_Mo_nextChar kk) (fun _ => []) 0 (bk_Mo_nextChar kk kk) 600 0 [some (.inr (0, 50))] [] G 0 = D_Mo_nextChar kk G := by exact rfl
def T_Mo_reads : Tb := fun pc => match Nat.ble 11 pc with | true => (match Nat.ble 16 pc with | true => (match Nat.ble 20 pc with | true => (match Nat.ble 21 pc with | true => (match Nat.beq pc 21 with | true => some (.ireturn, 1, 0, [], false, []) | false => none) | false => (match Nat.beq pc 20 with | true => some (.iconst 1, 1, 0, [], false, []) | false => none)) | false => (match Nat.ble 17 pc with | true => (match Nat.beq pc 17 with | true => some (.putfield 197, 3, 472, [], false, []) | false => none) | false => (match Nat.beq pc 16 with | true => some (.iadd, 1, 0, [], false, []) | false => none))) | false => (match Nat.ble 12 pc with | true => (match Nat.ble 15 pc with | true => (match Nat.beq pc 15 with | true => some (.iconst 1, 1, 0, [], false, []) | false => none) | false => (match Nat.beq pc 12 with | true => some (.getfield 197, 3, 472, [], false, []) | false => none)) | false => (match Nat.beq pc 11 with | true => some (.dup, 1, 0, [], false, []) | false => none))) | false => (match Nat.ble 5 pc with | true => (match Nat.ble 9 pc with | true => (match Nat.ble 10 pc with | true => (match Nat.beq pc 10 with | true => some (.aload_n 0, 1, 0, [], false, []) | false => none) | false => (match Nat.beq pc 9 with | true => some (.ireturn, 1, 0, [], false, []) | false => none)) | false => (match Nat.ble 8 pc with | true => (match Nat.beq pc 8 with | true => some (.iconst 0, 1, 0, [], false, []) | false => none) | false => (match Nat.beq pc 5 with | true => some (.if_icmp .eq (5), 3, 10, [], false, []) | false => none))) | false => (match Nat.ble 1 pc with | true => (match Nat.ble 4 pc with | true => (match Nat.beq pc 4 with | true => some (.iload_n 1, 1, 0, [], false, []) | false => none) | false => (match Nat.beq pc 1 with | true => some (.invokevirtual 200, 3, 4030473, [], false, []) | false => none)) | false => (match Nat.beq pc 0 with | true => some (.aload_n 0, 1, 0, [], false, []) | false => none)))
def call_Mo_reads (kk : Nat) : Nat → List AV → GS → Res := fun id a G => match Nat.beq id 246 with | true => A_Mo_nextChar kk a G | false => none
def bk_Mo_reads (kk k : Nat) : Kb := fun _ _ _ _ => none
theorem R_Mo_reads (kk : Nat) (a0 : Int32) (G : GS) : ai_run T_Mo_reads (call_Mo_reads kk) (fun _ => []) 0 (bk_Mo_reads kk kk) 600 0 [some (.inr (0, 50)), some (.inl (.int a0))] [] G 0 = D_Mo_reads kk a0 G := by exact rfl
def T_Mo_readsDigit : Tb := fun pc => match Nat.ble 22 pc with | true => (match Nat.ble 31 pc with | true => (match Nat.ble 36 pc with | true => (match Nat.ble 39 pc with | true => (match Nat.ble 40 pc with | true => (match Nat.beq pc 40 with | true => some (.ireturn, 1, 0, [], false, []) | false => none) | false => (match Nat.beq pc 39 with | true => some (.iconst 1, 1, 0, [], false, []) | false => none)) | false => (match Nat.beq pc 36 with | true => some (.putfield 197, 3, 472, [], false, []) | false => none)) | false => (match Nat.ble 34 pc with | true => (match Nat.ble 35 pc with | true => (match Nat.beq pc 35 with | true => some (.iadd, 1, 0, [], false, []) | false => none) | false => (match Nat.beq pc 34 with | true => some (.iconst 1, 1, 0, [], false, []) | false => none)) | false => (match Nat.beq pc 31 with | true => some (.getfield 197, 3, 472, [], false, []) | false => none))) | false => (match Nat.ble 28 pc with | true => (match Nat.ble 29 pc with | true => (match Nat.ble 30 pc with | true => (match Nat.beq pc 30 with | true => some (.dup, 1, 0, [], false, []) | false => none) | false => (match Nat.beq pc 29 with | true => some (.aload_n 0, 1, 0, [], false, []) | false => none)) | false => (match Nat.beq pc 28 with | true => some (.iastore, 1, 0, [], false, []) | false => none)) | false => (match Nat.ble 25 pc with | true => (match Nat.ble 27 pc with | true => (match Nat.beq pc 27 with | true => some (.isub, 1, 0, [], false, []) | false => none) | false => (match Nat.beq pc 25 with | true => some (.bipush (48), 2, 0, [], false, []) | false => none)) | false => (match Nat.beq pc 22 with | true => some (.invokevirtual 200, 3, 4030473, [], false, []) | false => none)))) | false => (match Nat.ble 14 pc with | true => (match Nat.ble 17 pc with | true => (match Nat.ble 20 pc with | true => (match Nat.ble 21 pc with | true => (match Nat.beq pc 21 with | true => some (.aload_n 0, 1, 0, [], false, []) | false => none) | false => (match Nat.beq pc 20 with | true => some (.iload_n 1, 1, 0, [], false, []) | false => none)) | false => (match Nat.beq pc 17 with | true => some (.getfield 39, 3, 478, [], false, []) | false => none)) | false => (match Nat.ble 15 pc with | true => (match Nat.ble 16 pc with | true => (match Nat.beq pc 16 with | true => some (.aload_n 0, 1, 0, [], false, []) | false => none) | false => (match Nat.beq pc 15 with | true => some (.ireturn, 1, 0, [], false, []) | false => none)) | false => (match Nat.beq pc 14 with | true => some (.iconst 0, 1, 0, [], false, []) | false => none))) | false => (match Nat.ble 6 pc with | true => (match Nat.ble 8 pc with | true => (match Nat.ble 11 pc with | true => (match Nat.beq pc 11 with | true => some (.ifCond .ne (5), 3, 16, [], false, []) | false => none) | false => (match Nat.beq pc 8 with | true => some (.invokestatic 54, 3, 2539545, [], false, []) | false => none)) | false => (match Nat.beq pc 6 with | true => some (.bipush (57), 2, 0, [], false, []) | false => none)) | false => (match Nat.ble 1 pc with | true => (match Nat.ble 4 pc with | true => (match Nat.beq pc 4 with | true => some (.bipush (48), 2, 0, [], false, []) | false => none) | false => (match Nat.beq pc 1 with | true => some (.invokevirtual 200, 3, 4030473, [], false, []) | false => none)) | false => (match Nat.beq pc 0 with | true => some (.aload_n 0, 1, 0, [], false, []) | false => none))))
def call_Mo_readsDigit (kk : Nat) : Nat → List AV → GS → Res := fun id a G => match Nat.ble 246 id with | true => (match Nat.beq id 246 with | true => A_Mo_nextChar kk a G | false => none) | false => (match Nat.beq id 155 with | true => A_Mo_isBetween kk a G | false => none)
def bk_Mo_readsDigit (kk k : Nat) : Kb := fun _ _ _ _ => none
theorem R_Mo_readsDigit (kk : Nat) (a0 : Int32) (G : GS) : ai_run T_Mo_readsDigit (call_Mo_readsDigit kk) (fun _ => []) 0 (bk_Mo_readsDigit kk kk) 600 0 [some (.inr (0, 50)), some (.inl (.int a0))] [] G 0 = D_Mo_readsDigit kk a0 G := by exact rfl
def T_Mo_readsNumber : Tb := fun pc => match Nat.ble 33 pc with | true => (match Nat.ble 47 pc with | true => (match Nat.ble 54 pc with | true => (match Nat.ble 56 pc with | true => (match Nat.ble 59 pc with | true => (match Nat.ble 60 pc with | true => (match Nat.beq pc 60 with | true => some (.ireturn, 1, 0, [], false, []) | false => none) | false => (match Nat.beq pc 59 with | true => some (.iconst 1, 1, 0, [], false, []) | false => none)) | false => (match Nat.beq pc 56 with | true => some (.putfield 197, 3, 472, [], false, []) | false => none)) | false => (match Nat.ble 55 pc with | true => (match Nat.beq pc 55 with | true => some (.iadd, 1, 0, [], false, []) | false => none) | false => (match Nat.beq pc 54 with | true => some (.iconst 1, 1, 0, [], false, []) | false => none))) | false => (match Nat.ble 49 pc with | true => (match Nat.ble 50 pc with | true => (match Nat.ble 51 pc with | true => (match Nat.beq pc 51 with | true => some (.getfield 197, 3, 472, [], false, []) | false => none) | false => (match Nat.beq pc 50 with | true => some (.dup, 1, 0, [], false, []) | false => none)) | false => (match Nat.beq pc 49 with | true => some (.aload_n 0, 1, 0, [], false, []) | false => none)) | false => (match Nat.ble 48 pc with | true => (match Nat.beq pc 48 with | true => some (.iastore, 1, 0, [], false, []) | false => none) | false => (match Nat.beq pc 47 with | true => some (.isub, 1, 0, [], false, []) | false => none)))) | false => (match Nat.ble 39 pc with | true => (match Nat.ble 41 pc with | true => (match Nat.ble 44 pc with | true => (match Nat.ble 45 pc with | true => (match Nat.beq pc 45 with | true => some (.bipush (48), 2, 0, [], false, []) | false => none) | false => (match Nat.beq pc 44 with | true => some (.iadd, 1, 0, [], false, []) | false => none)) | false => (match Nat.beq pc 41 with | true => some (.invokevirtual 200, 3, 4030473, [], false, []) | false => none)) | false => (match Nat.ble 40 pc with | true => (match Nat.beq pc 40 with | true => some (.aload_n 0, 1, 0, [], false, []) | false => none) | false => (match Nat.beq pc 39 with | true => some (.imul, 1, 0, [], false, []) | false => none))) | false => (match Nat.ble 37 pc with | true => (match Nat.ble 38 pc with | true => (match Nat.beq pc 38 with | true => some (.iaload, 1, 0, [], false, []) | false => none) | false => (match Nat.beq pc 37 with | true => some (.iload_n 1, 1, 0, [], false, []) | false => none)) | false => (match Nat.ble 34 pc with | true => (match Nat.beq pc 34 with | true => some (.getfield 39, 3, 478, [], false, []) | false => none) | false => (match Nat.beq pc 33 with | true => some (.aload_n 0, 1, 0, [], false, []) | false => none))))) | false => (match Nat.ble 16 pc with | true => (match Nat.ble 25 pc with | true => (match Nat.ble 27 pc with | true => (match Nat.ble 30 pc with | true => (match Nat.ble 31 pc with | true => (match Nat.beq pc 31 with | true => some (.bipush (10), 2, 0, [], false, []) | false => none) | false => (match Nat.beq pc 30 with | true => some (.iload_n 1, 1, 0, [], false, []) | false => none)) | false => (match Nat.beq pc 27 with | true => some (.getfield 39, 3, 478, [], false, []) | false => none)) | false => (match Nat.ble 26 pc with | true => (match Nat.beq pc 26 with | true => some (.aload_n 0, 1, 0, [], false, []) | false => none) | false => (match Nat.beq pc 25 with | true => some (.ireturn, 1, 0, [], false, []) | false => none))) | false => (match Nat.ble 21 pc with | true => (match Nat.ble 24 pc with | true => (match Nat.beq pc 24 with | true => some (.iconst 1, 1, 0, [], false, []) | false => none) | false => (match Nat.beq pc 21 with | true => some (.ifCond .ne (5), 3, 26, [], false, []) | false => none)) | false => (match Nat.ble 18 pc with | true => (match Nat.beq pc 18 with | true => some (.invokestatic 54, 3, 2539545, [], false, []) | false => none) | false => (match Nat.beq pc 16 with | true => some (.bipush (57), 2, 0, [], false, []) | false => none)))) | false => (match Nat.ble 8 pc with | true => (match Nat.ble 10 pc with | true => (match Nat.ble 11 pc with | true => (match Nat.ble 14 pc with | true => (match Nat.beq pc 14 with | true => some (.bipush (48), 2, 0, [], false, []) | false => none) | false => (match Nat.beq pc 11 with | true => some (.invokevirtual 200, 3, 4030473, [], false, []) | false => none)) | false => (match Nat.beq pc 10 with | true => some (.aload_n 0, 1, 0, [], false, []) | false => none)) | false => (match Nat.ble 9 pc with | true => (match Nat.beq pc 9 with | true => some (.ireturn, 1, 0, [], false, []) | false => none) | false => (match Nat.beq pc 8 with | true => some (.iconst 0, 1, 0, [], false, []) | false => none))) | false => (match Nat.ble 2 pc with | true => (match Nat.ble 5 pc with | true => (match Nat.beq pc 5 with | true => some (.ifCond .ne (5), 3, 10, [], false, []) | false => none) | false => (match Nat.beq pc 2 with | true => some (.invokevirtual 203, 3, 4063249, [], false, []) | false => none)) | false => (match Nat.ble 1 pc with | true => (match Nat.beq pc 1 with | true => some (.iload_n 1, 1, 0, [], false, []) | false => none) | false => (match Nat.beq pc 0 with | true => some (.aload_n 0, 1, 0, [], false, []) | false => none)))))
def call_Mo_readsNumber (kk : Nat) : Nat → List AV → GS → Res := fun id a G => match Nat.ble 246 id with | true => (match Nat.ble 248 id with | true => (match Nat.beq id 248 with | true => A_Mo_readsDigit kk a G | false => none) | false => (match Nat.beq id 246 with | true => A_Mo_nextChar kk a G | false => none)) | false => (match Nat.beq id 155 with | true => A_Mo_isBetween kk a G | false => none)
def bk_Mo_readsNumber (kk k : Nat) : Kb := fun _ _ _ _ => none
theorem R_Mo_readsNumber (kk : Nat) (a0 : Int32) (G : GS) : ai_run T_Mo_readsNumber (call_Mo_readsNumber kk) (fun _ => []) 0 (bk_Mo_readsNumber kk kk) 600 0 [some (.inr (0, 50)), some (.inl (.int a0))] [] G 0 = D_Mo_readsNumber kk a0 G := by exact rfl
def T_Mo_readsL : Tb := fun pc => match Nat.ble 75 pc with | true => (match Nat.ble 111 pc with | true => (match Nat.ble 132 pc with | true => (match Nat.ble 140 pc with | true => (match Nat.ble 144 pc with | true => (match Nat.ble 147 pc with | true => (match Nat.ble 148 pc with | true => (match Nat.beq pc 148 with | true => some (.ireturn, 1, 0, [], false, []) | false => none) | false => (match Nat.beq pc 147 with | true => some (.iconst 0, 1, 0, [], false, []) | false => none)) | false => (match Nat.beq pc 144 with | true => some (.goto (4), 3, 148, [], false, []) | false => none)) | false => (match Nat.ble 143 pc with | true => (match Nat.beq pc 143 with | true => some (.iconst 1, 1, 0, [], false, []) | false => none) | false => (match Nat.beq pc 140 with | true => some (.ifCond .eq (7), 3, 147, [], false, []) | false => none))) | false => (match Nat.ble 136 pc with | true => (match Nat.ble 137 pc with | true => (match Nat.beq pc 137 with | true => some (.invokevirtual 209, 3, 4079633, [], false, []) | false => none) | false => (match Nat.beq pc 136 with | true => some (.iconst 0, 1, 0, [], false, []) | false => none)) | false => (match Nat.ble 135 pc with | true => (match Nat.beq pc 135 with | true => some (.aload_n 0, 1, 0, [], false, []) | false => none) | false => (match Nat.beq pc 132 with | true => some (.ifCond .eq (15), 3, 147, [], false, []) | false => none)))) | false => (match Nat.ble 120 pc with | true => (match Nat.ble 126 pc with | true => (match Nat.ble 127 pc with | true => (match Nat.ble 129 pc with | true => (match Nat.beq pc 129 with | true => some (.invokevirtual 206, 3, 4046865, [], false, []) | false => none) | false => (match Nat.beq pc 127 with | true => some (.bipush (32), 2, 0, [], false, []) | false => none)) | false => (match Nat.beq pc 126 with | true => some (.aload_n 0, 1, 0, [], false, []) | false => none)) | false => (match Nat.ble 123 pc with | true => (match Nat.beq pc 123 with | true => some (.ifCond .eq (24), 3, 147, [], false, []) | false => none) | false => (match Nat.beq pc 120 with | true => some (.invokevirtual 206, 3, 4046865, [], false, []) | false => none))) | false => (match Nat.ble 117 pc with | true => (match Nat.ble 118 pc with | true => (match Nat.beq pc 118 with | true => some (.bipush (116), 2, 0, [], false, []) | false => none) | false => (match Nat.beq pc 117 with | true => some (.aload_n 0, 1, 0, [], false, []) | false => none)) | false => (match Nat.ble 114 pc with | true => (match Nat.beq pc 114 with | true => some (.ifCond .eq (33), 3, 147, [], false, []) | false => none) | false => (match Nat.beq pc 111 with | true => some (.invokevirtual 206, 3, 4046865, [], false, []) | false => none))))) | false => (match Nat.ble 91 pc with | true => (match Nat.ble 100 pc with | true => (match Nat.ble 105 pc with | true => (match Nat.ble 108 pc with | true => (match Nat.ble 109 pc with | true => (match Nat.beq pc 109 with | true => some (.bipush (105), 2, 0, [], false, []) | false => none) | false => (match Nat.beq pc 108 with | true => some (.aload_n 0, 1, 0, [], false, []) | false => none)) | false => (match Nat.beq pc 105 with | true => some (.ifCond .eq (42), 3, 147, [], false, []) | false => none)) | false => (match Nat.ble 102 pc with | true => (match Nat.beq pc 102 with | true => some (.invokevirtual 206, 3, 4046865, [], false, []) | false => none) | false => (match Nat.beq pc 100 with | true => some (.bipush (109), 2, 0, [], false, []) | false => none))) | false => (match Nat.ble 96 pc with | true => (match Nat.ble 99 pc with | true => (match Nat.beq pc 99 with | true => some (.aload_n 0, 1, 0, [], false, []) | false => none) | false => (match Nat.beq pc 96 with | true => some (.ifCond .eq (51), 3, 147, [], false, []) | false => none)) | false => (match Nat.ble 93 pc with | true => (match Nat.beq pc 93 with | true => some (.invokevirtual 206, 3, 4046865, [], false, []) | false => none) | false => (match Nat.beq pc 91 with | true => some (.bipush (105), 2, 0, [], false, []) | false => none)))) | false => (match Nat.ble 83 pc with | true => (match Nat.ble 85 pc with | true => (match Nat.ble 87 pc with | true => (match Nat.ble 90 pc with | true => (match Nat.beq pc 90 with | true => some (.aload_n 0, 1, 0, [], false, []) | false => none) | false => (match Nat.beq pc 87 with | true => some (.putfield 212, 3, 480, [], false, []) | false => none)) | false => (match Nat.beq pc 85 with | true => some (.bipush (109), 2, 0, [], false, []) | false => none)) | false => (match Nat.ble 84 pc with | true => (match Nat.beq pc 84 with | true => some (.aload_n 0, 1, 0, [], false, []) | false => none) | false => (match Nat.beq pc 83 with | true => some (.ireturn, 1, 0, [], false, []) | false => none))) | false => (match Nat.ble 79 pc with | true => (match Nat.ble 82 pc with | true => (match Nat.beq pc 82 with | true => some (.iconst 0, 1, 0, [], false, []) | false => none) | false => (match Nat.beq pc 79 with | true => some (.goto (4), 3, 83, [], false, []) | false => none)) | false => (match Nat.ble 78 pc with | true => (match Nat.beq pc 78 with | true => some (.iconst 1, 1, 0, [], false, []) | false => none) | false => (match Nat.beq pc 75 with | true => some (.ifCond .eq (7), 3, 82, [], false, []) | false => none)))))) | false => (match Nat.ble 37 pc with | true => (match Nat.ble 55 pc with | true => (match Nat.ble 64 pc with | true => (match Nat.ble 70 pc with | true => (match Nat.ble 71 pc with | true => (match Nat.ble 72 pc with | true => (match Nat.beq pc 72 with | true => some (.invokevirtual 203, 3, 4063249, [], false, []) | false => none) | false => (match Nat.beq pc 71 with | true => some (.iconst 2, 1, 0, [], false, []) | false => none)) | false => (match Nat.beq pc 70 with | true => some (.aload_n 0, 1, 0, [], false, []) | false => none)) | false => (match Nat.ble 67 pc with | true => (match Nat.beq pc 67 with | true => some (.ifCond .eq (15), 3, 82, [], false, []) | false => none) | false => (match Nat.beq pc 64 with | true => some (.invokevirtual 206, 3, 4046865, [], false, []) | false => none))) | false => (match Nat.ble 61 pc with | true => (match Nat.ble 62 pc with | true => (match Nat.beq pc 62 with | true => some (.bipush (32), 2, 0, [], false, []) | false => none) | false => (match Nat.beq pc 61 with | true => some (.aload_n 0, 1, 0, [], false, []) | false => none)) | false => (match Nat.ble 58 pc with | true => (match Nat.beq pc 58 with | true => some (.ifCond .eq (24), 3, 82, [], false, []) | false => none) | false => (match Nat.beq pc 55 with | true => some (.invokevirtual 209, 3, 4079633, [], false, []) | false => none)))) | false => (match Nat.ble 45 pc with | true => (match Nat.ble 50 pc with | true => (match Nat.ble 53 pc with | true => (match Nat.ble 54 pc with | true => (match Nat.beq pc 54 with | true => some (.iconst 1, 1, 0, [], false, []) | false => none) | false => (match Nat.beq pc 53 with | true => some (.aload_n 0, 1, 0, [], false, []) | false => none)) | false => (match Nat.beq pc 50 with | true => some (.ifCond .eq (32), 3, 82, [], false, []) | false => none)) | false => (match Nat.ble 47 pc with | true => (match Nat.beq pc 47 with | true => some (.invokevirtual 206, 3, 4046865, [], false, []) | false => none) | false => (match Nat.beq pc 45 with | true => some (.bipush (32), 2, 0, [], false, []) | false => none))) | false => (match Nat.ble 41 pc with | true => (match Nat.ble 44 pc with | true => (match Nat.beq pc 44 with | true => some (.aload_n 0, 1, 0, [], false, []) | false => none) | false => (match Nat.beq pc 41 with | true => some (.ifCond .eq (41), 3, 82, [], false, []) | false => none)) | false => (match Nat.ble 38 pc with | true => (match Nat.beq pc 38 with | true => some (.invokevirtual 203, 3, 4063249, [], false, []) | false => none) | false => (match Nat.beq pc 37 with | true => some (.iconst 0, 1, 0, [], false, []) | false => none))))) | false => (match Nat.ble 18 pc with | true => (match Nat.ble 27 pc with | true => (match Nat.ble 30 pc with | true => (match Nat.ble 33 pc with | true => (match Nat.ble 36 pc with | true => (match Nat.beq pc 36 with | true => some (.aload_n 0, 1, 0, [], false, []) | false => none) | false => (match Nat.beq pc 33 with | true => some (.ifCond .eq (49), 3, 82, [], false, []) | false => none)) | false => (match Nat.beq pc 30 with | true => some (.invokevirtual 206, 3, 4046865, [], false, []) | false => none)) | false => (match Nat.ble 28 pc with | true => (match Nat.beq pc 28 with | true => some (.bipush (32), 2, 0, [], false, []) | false => none) | false => (match Nat.beq pc 27 with | true => some (.aload_n 0, 1, 0, [], false, []) | false => none))) | false => (match Nat.ble 21 pc with | true => (match Nat.ble 24 pc with | true => (match Nat.beq pc 24 with | true => some (.ifCond .eq (58), 3, 82, [], false, []) | false => none) | false => (match Nat.beq pc 21 with | true => some (.invokevirtual 206, 3, 4046865, [], false, []) | false => none)) | false => (match Nat.ble 19 pc with | true => (match Nat.beq pc 19 with | true => some (.bipush (100), 2, 0, [], false, []) | false => none) | false => (match Nat.beq pc 18 with | true => some (.aload_n 0, 1, 0, [], false, []) | false => none)))) | false => (match Nat.ble 9 pc with | true => (match Nat.ble 12 pc with | true => (match Nat.ble 15 pc with | true => (match Nat.beq pc 15 with | true => some (.ifCond .eq (67), 3, 82, [], false, []) | false => none) | false => (match Nat.beq pc 12 with | true => some (.invokevirtual 206, 3, 4046865, [], false, []) | false => none)) | false => (match Nat.ble 10 pc with | true => (match Nat.beq pc 10 with | true => some (.bipush (97), 2, 0, [], false, []) | false => none) | false => (match Nat.beq pc 9 with | true => some (.aload_n 0, 1, 0, [], false, []) | false => none))) | false => (match Nat.ble 3 pc with | true => (match Nat.ble 6 pc with | true => (match Nat.beq pc 6 with | true => some (.ifCond .eq (78), 3, 84, [], false, []) | false => none) | false => (match Nat.beq pc 3 with | true => some (.invokevirtual 206, 3, 4046865, [], false, []) | false => none)) | false => (match Nat.ble 1 pc with | true => (match Nat.beq pc 1 with | true => some (.bipush (111), 2, 0, [], false, []) | false => none) | false => (match Nat.beq pc 0 with | true => some (.aload_n 0, 1, 0, [], false, []) | false => none))))))
def call_Mo_readsL (kk : Nat) : Nat → List AV → GS → Res := fun id a G => match Nat.ble 248 id with | true => (match Nat.ble 249 id with | true => (match Nat.beq id 249 with | true => A_Mo_readsNumber kk a G | false => none) | false => (match Nat.beq id 248 with | true => A_Mo_readsDigit kk a G | false => none)) | false => (match Nat.beq id 247 with | true => A_Mo_reads kk a G | false => none)
def bk_Mo_readsL (kk k : Nat) : Kb := fun _ _ _ _ => none
theorem R_Mo_readsL (kk : Nat) (G : GS) : ai_run T_Mo_readsL (call_Mo_readsL kk) (fun _ => []) 0 (bk_Mo_readsL kk kk) 600 0 [some (.inr (0, 50))] [] G 0 = D_Mo_readsL kk G := by exact rfl
def T_Mo_readsS : Tb := fun pc => match Nat.ble 75 pc with | true => (match Nat.ble 110 pc with | true => (match Nat.ble 124 pc with | true => (match Nat.ble 132 pc with | true => (match Nat.ble 136 pc with | true => (match Nat.ble 139 pc with | true => (match Nat.ble 140 pc with | true => (match Nat.beq pc 140 with | true => some (.ireturn, 1, 0, [], false, []) | false => none) | false => (match Nat.beq pc 139 with | true => some (.iconst 0, 1, 0, [], false, []) | false => none)) | false => (match Nat.beq pc 136 with | true => some (.goto (4), 3, 140, [], false, []) | false => none)) | false => (match Nat.ble 135 pc with | true => (match Nat.beq pc 135 with | true => some (.iconst 1, 1, 0, [], false, []) | false => none) | false => (match Nat.beq pc 132 with | true => some (.ifCond .eq (7), 3, 139, [], false, []) | false => none))) | false => (match Nat.ble 128 pc with | true => (match Nat.ble 129 pc with | true => (match Nat.beq pc 129 with | true => some (.invokevirtual 209, 3, 4079633, [], false, []) | false => none) | false => (match Nat.beq pc 128 with | true => some (.iconst 0, 1, 0, [], false, []) | false => none)) | false => (match Nat.ble 127 pc with | true => (match Nat.beq pc 127 with | true => some (.aload_n 0, 1, 0, [], false, []) | false => none) | false => (match Nat.beq pc 124 with | true => some (.ifCond .eq (11), 3, 135, [], false, []) | false => none)))) | false => (match Nat.ble 116 pc with | true => (match Nat.ble 118 pc with | true => (match Nat.ble 119 pc with | true => (match Nat.ble 121 pc with | true => (match Nat.beq pc 121 with | true => some (.invokevirtual 206, 3, 4046865, [], false, []) | false => none) | false => (match Nat.beq pc 119 with | true => some (.bipush (32), 2, 0, [], false, []) | false => none)) | false => (match Nat.beq pc 118 with | true => some (.aload_n 0, 1, 0, [], false, []) | false => none)) | false => (match Nat.ble 117 pc with | true => (match Nat.beq pc 117 with | true => some (.iastore, 1, 0, [], false, []) | false => none) | false => (match Nat.beq pc 116 with | true => some (.iconst 1, 1, 0, [], false, []) | false => none))) | false => (match Nat.ble 112 pc with | true => (match Nat.ble 115 pc with | true => (match Nat.beq pc 115 with | true => some (.iconst 0, 1, 0, [], false, []) | false => none) | false => (match Nat.beq pc 112 with | true => some (.getfield 39, 3, 478, [], false, []) | false => none)) | false => (match Nat.ble 111 pc with | true => (match Nat.beq pc 111 with | true => some (.aload_n 0, 1, 0, [], false, []) | false => none) | false => (match Nat.beq pc 110 with | true => some (.ireturn, 1, 0, [], false, []) | false => none))))) | false => (match Nat.ble 91 pc with | true => (match Nat.ble 100 pc with | true => (match Nat.ble 103 pc with | true => (match Nat.ble 106 pc with | true => (match Nat.ble 109 pc with | true => (match Nat.beq pc 109 with | true => some (.iconst 0, 1, 0, [], false, []) | false => none) | false => (match Nat.beq pc 106 with | true => some (.ifCond .ne (5), 3, 111, [], false, []) | false => none)) | false => (match Nat.beq pc 103 with | true => some (.invokevirtual 206, 3, 4046865, [], false, []) | false => none)) | false => (match Nat.ble 101 pc with | true => (match Nat.beq pc 101 with | true => some (.bipush (108), 2, 0, [], false, []) | false => none) | false => (match Nat.beq pc 100 with | true => some (.aload_n 0, 1, 0, [], false, []) | false => none))) | false => (match Nat.ble 94 pc with | true => (match Nat.ble 97 pc with | true => (match Nat.beq pc 97 with | true => some (.ifCond .eq (12), 3, 109, [], false, []) | false => none) | false => (match Nat.beq pc 94 with | true => some (.invokevirtual 206, 3, 4046865, [], false, []) | false => none)) | false => (match Nat.ble 92 pc with | true => (match Nat.beq pc 92 with | true => some (.bipush (105), 2, 0, [], false, []) | false => none) | false => (match Nat.beq pc 91 with | true => some (.aload_n 0, 1, 0, [], false, []) | false => none)))) | false => (match Nat.ble 82 pc with | true => (match Nat.ble 85 pc with | true => (match Nat.ble 88 pc with | true => (match Nat.beq pc 88 with | true => some (.ifCond .eq (21), 3, 109, [], false, []) | false => none) | false => (match Nat.beq pc 85 with | true => some (.invokevirtual 206, 3, 4046865, [], false, []) | false => none)) | false => (match Nat.ble 83 pc with | true => (match Nat.beq pc 83 with | true => some (.bipush (97), 2, 0, [], false, []) | false => none) | false => (match Nat.beq pc 82 with | true => some (.aload_n 0, 1, 0, [], false, []) | false => none))) | false => (match Nat.ble 77 pc with | true => (match Nat.ble 79 pc with | true => (match Nat.beq pc 79 with | true => some (.putfield 212, 3, 480, [], false, []) | false => none) | false => (match Nat.beq pc 77 with | true => some (.bipush (97), 2, 0, [], false, []) | false => none)) | false => (match Nat.ble 76 pc with | true => (match Nat.beq pc 76 with | true => some (.aload_n 0, 1, 0, [], false, []) | false => none) | false => (match Nat.beq pc 75 with | true => some (.ireturn, 1, 0, [], false, []) | false => none)))))) | false => (match Nat.ble 37 pc with | true => (match Nat.ble 56 pc with | true => (match Nat.ble 64 pc with | true => (match Nat.ble 70 pc with | true => (match Nat.ble 71 pc with | true => (match Nat.ble 74 pc with | true => (match Nat.beq pc 74 with | true => some (.iconst 0, 1, 0, [], false, []) | false => none) | false => (match Nat.beq pc 71 with | true => some (.goto (4), 3, 75, [], false, []) | false => none)) | false => (match Nat.beq pc 70 with | true => some (.iconst 1, 1, 0, [], false, []) | false => none)) | false => (match Nat.ble 67 pc with | true => (match Nat.beq pc 67 with | true => some (.ifCond .eq (7), 3, 74, [], false, []) | false => none) | false => (match Nat.beq pc 64 with | true => some (.invokevirtual 203, 3, 4063249, [], false, []) | false => none))) | false => (match Nat.ble 62 pc with | true => (match Nat.ble 63 pc with | true => (match Nat.beq pc 63 with | true => some (.iconst 1, 1, 0, [], false, []) | false => none) | false => (match Nat.beq pc 62 with | true => some (.aload_n 0, 1, 0, [], false, []) | false => none)) | false => (match Nat.ble 59 pc with | true => (match Nat.beq pc 59 with | true => some (.ifCond .eq (15), 3, 74, [], false, []) | false => none) | false => (match Nat.beq pc 56 with | true => some (.invokevirtual 206, 3, 4046865, [], false, []) | false => none)))) | false => (match Nat.ble 46 pc with | true => (match Nat.ble 50 pc with | true => (match Nat.ble 53 pc with | true => (match Nat.ble 54 pc with | true => (match Nat.beq pc 54 with | true => some (.bipush (32), 2, 0, [], false, []) | false => none) | false => (match Nat.beq pc 53 with | true => some (.aload_n 0, 1, 0, [], false, []) | false => none)) | false => (match Nat.beq pc 50 with | true => some (.ifCond .eq (24), 3, 74, [], false, []) | false => none)) | false => (match Nat.ble 47 pc with | true => (match Nat.beq pc 47 with | true => some (.invokevirtual 203, 3, 4063249, [], false, []) | false => none) | false => (match Nat.beq pc 46 with | true => some (.iconst 0, 1, 0, [], false, []) | false => none))) | false => (match Nat.ble 42 pc with | true => (match Nat.ble 45 pc with | true => (match Nat.beq pc 45 with | true => some (.aload_n 0, 1, 0, [], false, []) | false => none) | false => (match Nat.beq pc 42 with | true => some (.ifCond .eq (32), 3, 74, [], false, []) | false => none)) | false => (match Nat.ble 39 pc with | true => (match Nat.beq pc 39 with | true => some (.invokevirtual 206, 3, 4046865, [], false, []) | false => none) | false => (match Nat.beq pc 37 with | true => some (.bipush (32), 2, 0, [], false, []) | false => none))))) | false => (match Nat.ble 18 pc with | true => (match Nat.ble 27 pc with | true => (match Nat.ble 30 pc with | true => (match Nat.ble 33 pc with | true => (match Nat.ble 36 pc with | true => (match Nat.beq pc 36 with | true => some (.aload_n 0, 1, 0, [], false, []) | false => none) | false => (match Nat.beq pc 33 with | true => some (.ifCond .eq (41), 3, 74, [], false, []) | false => none)) | false => (match Nat.beq pc 30 with | true => some (.invokevirtual 206, 3, 4046865, [], false, []) | false => none)) | false => (match Nat.ble 28 pc with | true => (match Nat.beq pc 28 with | true => some (.bipush (116), 2, 0, [], false, []) | false => none) | false => (match Nat.beq pc 27 with | true => some (.aload_n 0, 1, 0, [], false, []) | false => none))) | false => (match Nat.ble 21 pc with | true => (match Nat.ble 24 pc with | true => (match Nat.beq pc 24 with | true => some (.ifCond .eq (50), 3, 74, [], false, []) | false => none) | false => (match Nat.beq pc 21 with | true => some (.invokevirtual 206, 3, 4046865, [], false, []) | false => none)) | false => (match Nat.ble 19 pc with | true => (match Nat.beq pc 19 with | true => some (.bipush (102), 2, 0, [], false, []) | false => none) | false => (match Nat.beq pc 18 with | true => some (.aload_n 0, 1, 0, [], false, []) | false => none)))) | false => (match Nat.ble 9 pc with | true => (match Nat.ble 12 pc with | true => (match Nat.ble 15 pc with | true => (match Nat.beq pc 15 with | true => some (.ifCond .eq (59), 3, 74, [], false, []) | false => none) | false => (match Nat.beq pc 12 with | true => some (.invokevirtual 206, 3, 4046865, [], false, []) | false => none)) | false => (match Nat.ble 10 pc with | true => (match Nat.beq pc 10 with | true => some (.bipush (105), 2, 0, [], false, []) | false => none) | false => (match Nat.beq pc 9 with | true => some (.aload_n 0, 1, 0, [], false, []) | false => none))) | false => (match Nat.ble 3 pc with | true => (match Nat.ble 6 pc with | true => (match Nat.beq pc 6 with | true => some (.ifCond .eq (70), 3, 76, [], false, []) | false => none) | false => (match Nat.beq pc 3 with | true => some (.invokevirtual 206, 3, 4046865, [], false, []) | false => none)) | false => (match Nat.ble 1 pc with | true => (match Nat.beq pc 1 with | true => some (.bipush (104), 2, 0, [], false, []) | false => none) | false => (match Nat.beq pc 0 with | true => some (.aload_n 0, 1, 0, [], false, []) | false => none))))))
def call_Mo_readsS (kk : Nat) : Nat → List AV → GS → Res := fun id a G => match Nat.ble 248 id with | true => (match Nat.ble 249 id with | true => (match Nat.beq id 249 with | true => A_Mo_readsNumber kk a G | false => none) | false => (match Nat.beq id 248 with | true => A_Mo_readsDigit kk a G | false => none)) | false => (match Nat.beq id 247 with | true => A_Mo_reads kk a G | false => none)
def bk_Mo_readsS (kk k : Nat) : Kb := fun _ _ _ _ => none
theorem R_Mo_readsS (kk : Nat) (G : GS) : ai_run T_Mo_readsS (call_Mo_readsS kk) (fun _ => []) 0 (bk_Mo_readsS kk kk) 600 0 [some (.inr (0, 50))] [] G 0 = D_Mo_readsS kk G := by exact rfl
def T_Mo_readsDrill : Tb := fun pc => match Nat.ble 47 pc with | true => (match Nat.ble 65 pc with | true => (match Nat.ble 77 pc with | true => (match Nat.ble 80 pc with | true => (match Nat.ble 81 pc with | true => (match Nat.ble 82 pc with | true => (match Nat.beq pc 82 with | true => some (.ireturn, 1, 0, [], false, []) | false => none) | false => (match Nat.beq pc 81 with | true => some (.iconst 1, 1, 0, [], false, []) | false => none)) | false => (match Nat.beq pc 80 with | true => some (.iastore, 1, 0, [], false, []) | false => none)) | false => (match Nat.ble 78 pc with | true => (match Nat.ble 79 pc with | true => (match Nat.beq pc 79 with | true => some (.ineg, 1, 0, [], false, []) | false => none) | false => (match Nat.beq pc 78 with | true => some (.iaload, 1, 0, [], false, []) | false => none)) | false => (match Nat.beq pc 77 with | true => some (.iconst 0, 1, 0, [], false, []) | false => none))) | false => (match Nat.ble 72 pc with | true => (match Nat.ble 73 pc with | true => (match Nat.ble 74 pc with | true => (match Nat.beq pc 74 with | true => some (.getfield 39, 3, 478, [], false, []) | false => none) | false => (match Nat.beq pc 73 with | true => some (.aload_n 0, 1, 0, [], false, []) | false => none)) | false => (match Nat.beq pc 72 with | true => some (.iconst 0, 1, 0, [], false, []) | false => none)) | false => (match Nat.ble 68 pc with | true => (match Nat.ble 69 pc with | true => (match Nat.beq pc 69 with | true => some (.getfield 39, 3, 478, [], false, []) | false => none) | false => (match Nat.beq pc 68 with | true => some (.aload_n 0, 1, 0, [], false, []) | false => none)) | false => (match Nat.beq pc 65 with | true => some (.ifCond .eq (16), 3, 81, [], false, []) | false => none)))) | false => (match Nat.ble 55 pc with | true => (match Nat.ble 62 pc with | true => (match Nat.ble 63 pc with | true => (match Nat.ble 64 pc with | true => (match Nat.beq pc 64 with | true => some (.iload_n 1, 1, 0, [], false, []) | false => none) | false => (match Nat.beq pc 63 with | true => some (.ireturn, 1, 0, [], false, []) | false => none)) | false => (match Nat.beq pc 62 with | true => some (.iconst 0, 1, 0, [], false, []) | false => none)) | false => (match Nat.ble 56 pc with | true => (match Nat.ble 59 pc with | true => (match Nat.beq pc 59 with | true => some (.ifCond .ne (5), 3, 64, [], false, []) | false => none) | false => (match Nat.beq pc 56 with | true => some (.invokevirtual 209, 3, 4079633, [], false, []) | false => none)) | false => (match Nat.beq pc 55 with | true => some (.iconst 0, 1, 0, [], false, []) | false => none))) | false => (match Nat.ble 50 pc with | true => (match Nat.ble 53 pc with | true => (match Nat.ble 54 pc with | true => (match Nat.beq pc 54 with | true => some (.aload_n 0, 1, 0, [], false, []) | false => none) | false => (match Nat.beq pc 53 with | true => some (.istore_n 1, 1, 0, [], false, []) | false => none)) | false => (match Nat.beq pc 50 with | true => some (.invokevirtual 206, 3, 4046865, [], false, []) | false => none)) | false => (match Nat.ble 48 pc with | true => (match Nat.beq pc 48 with | true => some (.bipush (45), 2, 0, [], false, []) | false => none) | false => (match Nat.beq pc 47 with | true => some (.aload_n 0, 1, 0, [], false, []) | false => none))))) | false => (match Nat.ble 24 pc with | true => (match Nat.ble 36 pc with | true => (match Nat.ble 42 pc with | true => (match Nat.ble 45 pc with | true => (match Nat.ble 46 pc with | true => (match Nat.beq pc 46 with | true => some (.ireturn, 1, 0, [], false, []) | false => none) | false => (match Nat.beq pc 45 with | true => some (.iconst 0, 1, 0, [], false, []) | false => none)) | false => (match Nat.beq pc 42 with | true => some (.ifCond .ne (5), 3, 47, [], false, []) | false => none)) | false => (match Nat.ble 37 pc with | true => (match Nat.ble 39 pc with | true => (match Nat.beq pc 39 with | true => some (.invokevirtual 206, 3, 4046865, [], false, []) | false => none) | false => (match Nat.beq pc 37 with | true => some (.bipush (32), 2, 0, [], false, []) | false => none)) | false => (match Nat.beq pc 36 with | true => some (.aload_n 0, 1, 0, [], false, []) | false => none))) | false => (match Nat.ble 28 pc with | true => (match Nat.ble 30 pc with | true => (match Nat.ble 33 pc with | true => (match Nat.beq pc 33 with | true => some (.ifCond .eq (12), 3, 45, [], false, []) | false => none) | false => (match Nat.beq pc 30 with | true => some (.invokevirtual 206, 3, 4046865, [], false, []) | false => none)) | false => (match Nat.beq pc 28 with | true => some (.bipush (108), 2, 0, [], false, []) | false => none)) | false => (match Nat.ble 27 pc with | true => (match Nat.beq pc 27 with | true => some (.aload_n 0, 1, 0, [], false, []) | false => none) | false => (match Nat.beq pc 24 with | true => some (.ifCond .eq (21), 3, 45, [], false, []) | false => none)))) | false => (match Nat.ble 10 pc with | true => (match Nat.ble 18 pc with | true => (match Nat.ble 19 pc with | true => (match Nat.ble 21 pc with | true => (match Nat.beq pc 21 with | true => some (.invokevirtual 206, 3, 4046865, [], false, []) | false => none) | false => (match Nat.beq pc 19 with | true => some (.bipush (108), 2, 0, [], false, []) | false => none)) | false => (match Nat.beq pc 18 with | true => some (.aload_n 0, 1, 0, [], false, []) | false => none)) | false => (match Nat.ble 12 pc with | true => (match Nat.ble 15 pc with | true => (match Nat.beq pc 15 with | true => some (.ifCond .eq (30), 3, 45, [], false, []) | false => none) | false => (match Nat.beq pc 12 with | true => some (.invokevirtual 206, 3, 4046865, [], false, []) | false => none)) | false => (match Nat.beq pc 10 with | true => some (.bipush (105), 2, 0, [], false, []) | false => none))) | false => (match Nat.ble 3 pc with | true => (match Nat.ble 6 pc with | true => (match Nat.ble 9 pc with | true => (match Nat.beq pc 9 with | true => some (.aload_n 0, 1, 0, [], false, []) | false => none) | false => (match Nat.beq pc 6 with | true => some (.ifCond .eq (39), 3, 45, [], false, []) | false => none)) | false => (match Nat.beq pc 3 with | true => some (.invokevirtual 206, 3, 4046865, [], false, []) | false => none)) | false => (match Nat.ble 1 pc with | true => (match Nat.beq pc 1 with | true => some (.bipush (114), 2, 0, [], false, []) | false => none) | false => (match Nat.beq pc 0 with | true => some (.aload_n 0, 1, 0, [], false, []) | false => none)))))
def call_Mo_readsDrill (kk : Nat) : Nat → List AV → GS → Res := fun id a G => match Nat.ble 249 id with | true => (match Nat.beq id 249 with | true => A_Mo_readsNumber kk a G | false => none) | false => (match Nat.beq id 247 with | true => A_Mo_reads kk a G | false => none)
def bk_Mo_readsDrill (kk k : Nat) : Kb := fun _ _ _ _ => none
theorem R_Mo_readsDrill (kk : Nat) (G : GS) : ai_run T_Mo_readsDrill (call_Mo_readsDrill kk) (fun _ => []) 0 (bk_Mo_readsDrill kk kk) 600 0 [some (.inr (0, 50)), none] [] G 0 = D_Mo_readsDrill kk G := by exact rfl
def T_Mo_readsCommand : Tb := fun pc => match Nat.ble 86 pc with | true => (match Nat.ble 126 pc with | true => (match Nat.ble 146 pc with | true => (match Nat.ble 157 pc with | true => (match Nat.ble 164 pc with | true => (match Nat.ble 167 pc with | true => (match Nat.ble 168 pc with | true => (match Nat.beq pc 168 with | true => some (.ireturn, 1, 0, [], false, []) | false => none) | false => (match Nat.beq pc 167 with | true => some (.iconst 0, 1, 0, [], false, []) | false => none)) | false => (match Nat.beq pc 164 with | true => some (.goto (4), 3, 168, [], false, []) | false => none)) | false => (match Nat.ble 160 pc with | true => (match Nat.ble 163 pc with | true => (match Nat.beq pc 163 with | true => some (.iconst 1, 1, 0, [], false, []) | false => none) | false => (match Nat.beq pc 160 with | true => some (.ifCond .eq (7), 3, 167, [], false, []) | false => none)) | false => (match Nat.beq pc 157 with | true => some (.invokevirtual 206, 3, 4046865, [], false, []) | false => none))) | false => (match Nat.ble 151 pc with | true => (match Nat.ble 154 pc with | true => (match Nat.ble 155 pc with | true => (match Nat.beq pc 155 with | true => some (.bipush (110), 2, 0, [], false, []) | false => none) | false => (match Nat.beq pc 154 with | true => some (.aload_n 0, 1, 0, [], false, []) | false => none)) | false => (match Nat.beq pc 151 with | true => some (.ifCond .eq (16), 3, 167, [], false, []) | false => none)) | false => (match Nat.ble 148 pc with | true => (match Nat.beq pc 148 with | true => some (.invokevirtual 206, 3, 4046865, [], false, []) | false => none) | false => (match Nat.beq pc 146 with | true => some (.bipush (114), 2, 0, [], false, []) | false => none)))) | false => (match Nat.ble 136 pc with | true => (match Nat.ble 139 pc with | true => (match Nat.ble 142 pc with | true => (match Nat.ble 145 pc with | true => (match Nat.beq pc 145 with | true => some (.aload_n 0, 1, 0, [], false, []) | false => none) | false => (match Nat.beq pc 142 with | true => some (.ifCond .eq (25), 3, 167, [], false, []) | false => none)) | false => (match Nat.beq pc 139 with | true => some (.invokevirtual 206, 3, 4046865, [], false, []) | false => none)) | false => (match Nat.ble 137 pc with | true => (match Nat.beq pc 137 with | true => some (.bipush (117), 2, 0, [], false, []) | false => none) | false => (match Nat.beq pc 136 with | true => some (.aload_n 0, 1, 0, [], false, []) | false => none))) | false => (match Nat.ble 128 pc with | true => (match Nat.ble 130 pc with | true => (match Nat.ble 133 pc with | true => (match Nat.beq pc 133 with | true => some (.ifCond .eq (34), 3, 167, [], false, []) | false => none) | false => (match Nat.beq pc 130 with | true => some (.invokevirtual 206, 3, 4046865, [], false, []) | false => none)) | false => (match Nat.beq pc 128 with | true => some (.bipush (116), 2, 0, [], false, []) | false => none)) | false => (match Nat.ble 127 pc with | true => (match Nat.beq pc 127 with | true => some (.aload_n 0, 1, 0, [], false, []) | false => none) | false => (match Nat.beq pc 126 with | true => some (.ireturn, 1, 0, [], false, []) | false => none))))) | false => (match Nat.ble 105 pc with | true => (match Nat.ble 114 pc with | true => (match Nat.ble 119 pc with | true => (match Nat.ble 122 pc with | true => (match Nat.ble 123 pc with | true => (match Nat.beq pc 123 with | true => some (.invokevirtual 222, 3, 4128777, [], false, []) | false => none) | false => (match Nat.beq pc 122 with | true => some (.aload_n 0, 1, 0, [], false, []) | false => none)) | false => (match Nat.beq pc 119 with | true => some (.ifCond .eq (8), 3, 127, [], false, []) | false => none)) | false => (match Nat.ble 116 pc with | true => (match Nat.beq pc 116 with | true => some (.invokevirtual 206, 3, 4046865, [], false, []) | false => none) | false => (match Nat.beq pc 114 with | true => some (.bipush (100), 2, 0, [], false, []) | false => none))) | false => (match Nat.ble 109 pc with | true => (match Nat.ble 112 pc with | true => (match Nat.ble 113 pc with | true => (match Nat.beq pc 113 with | true => some (.aload_n 0, 1, 0, [], false, []) | false => none) | false => (match Nat.beq pc 112 with | true => some (.ireturn, 1, 0, [], false, []) | false => none)) | false => (match Nat.beq pc 109 with | true => some (.invokevirtual 219, 3, 4112393, [], false, []) | false => none)) | false => (match Nat.ble 108 pc with | true => (match Nat.beq pc 108 with | true => some (.aload_n 0, 1, 0, [], false, []) | false => none) | false => (match Nat.beq pc 105 with | true => some (.ifCond .eq (8), 3, 113, [], false, []) | false => none)))) | false => (match Nat.ble 97 pc with | true => (match Nat.ble 99 pc with | true => (match Nat.ble 100 pc with | true => (match Nat.ble 102 pc with | true => (match Nat.beq pc 102 with | true => some (.invokevirtual 206, 3, 4046865, [], false, []) | false => none) | false => (match Nat.beq pc 100 with | true => some (.bipush (115), 2, 0, [], false, []) | false => none)) | false => (match Nat.beq pc 99 with | true => some (.aload_n 0, 1, 0, [], false, []) | false => none)) | false => (match Nat.ble 98 pc with | true => (match Nat.beq pc 98 with | true => some (.ireturn, 1, 0, [], false, []) | false => none) | false => (match Nat.beq pc 97 with | true => some (.iconst 0, 1, 0, [], false, []) | false => none))) | false => (match Nat.ble 90 pc with | true => (match Nat.ble 93 pc with | true => (match Nat.ble 94 pc with | true => (match Nat.beq pc 94 with | true => some (.goto (4), 3, 98, [], false, []) | false => none) | false => (match Nat.beq pc 93 with | true => some (.iconst 1, 1, 0, [], false, []) | false => none)) | false => (match Nat.beq pc 90 with | true => some (.ifCond .eq (7), 3, 97, [], false, []) | false => none)) | false => (match Nat.ble 87 pc with | true => (match Nat.beq pc 87 with | true => some (.invokevirtual 203, 3, 4063249, [], false, []) | false => none) | false => (match Nat.beq pc 86 with | true => some (.iconst 0, 1, 0, [], false, []) | false => none)))))) | false => (match Nat.ble 41 pc with | true => (match Nat.ble 64 pc with | true => (match Nat.ble 76 pc with | true => (match Nat.ble 79 pc with | true => (match Nat.ble 82 pc with | true => (match Nat.ble 85 pc with | true => (match Nat.beq pc 85 with | true => some (.aload_n 0, 1, 0, [], false, []) | false => none) | false => (match Nat.beq pc 82 with | true => some (.ifCond .eq (15), 3, 97, [], false, []) | false => none)) | false => (match Nat.beq pc 79 with | true => some (.invokevirtual 206, 3, 4046865, [], false, []) | false => none)) | false => (match Nat.ble 77 pc with | true => (match Nat.beq pc 77 with | true => some (.bipush (32), 2, 0, [], false, []) | false => none) | false => (match Nat.beq pc 76 with | true => some (.aload_n 0, 1, 0, [], false, []) | false => none))) | false => (match Nat.ble 68 pc with | true => (match Nat.ble 70 pc with | true => (match Nat.ble 73 pc with | true => (match Nat.beq pc 73 with | true => some (.ifCond .eq (24), 3, 97, [], false, []) | false => none) | false => (match Nat.beq pc 70 with | true => some (.invokevirtual 206, 3, 4046865, [], false, []) | false => none)) | false => (match Nat.beq pc 68 with | true => some (.bipush (100), 2, 0, [], false, []) | false => none)) | false => (match Nat.ble 67 pc with | true => (match Nat.beq pc 67 with | true => some (.aload_n 0, 1, 0, [], false, []) | false => none) | false => (match Nat.beq pc 64 with | true => some (.ifCond .eq (33), 3, 97, [], false, []) | false => none)))) | false => (match Nat.ble 52 pc with | true => (match Nat.ble 58 pc with | true => (match Nat.ble 59 pc with | true => (match Nat.ble 61 pc with | true => (match Nat.beq pc 61 with | true => some (.invokevirtual 206, 3, 4046865, [], false, []) | false => none) | false => (match Nat.beq pc 59 with | true => some (.bipush (97), 2, 0, [], false, []) | false => none)) | false => (match Nat.beq pc 58 with | true => some (.aload_n 0, 1, 0, [], false, []) | false => none)) | false => (match Nat.ble 55 pc with | true => (match Nat.beq pc 55 with | true => some (.ifCond .eq (42), 3, 97, [], false, []) | false => none) | false => (match Nat.beq pc 52 with | true => some (.invokevirtual 206, 3, 4046865, [], false, []) | false => none))) | false => (match Nat.ble 46 pc with | true => (match Nat.ble 49 pc with | true => (match Nat.ble 50 pc with | true => (match Nat.beq pc 50 with | true => some (.bipush (111), 2, 0, [], false, []) | false => none) | false => (match Nat.beq pc 49 with | true => some (.aload_n 0, 1, 0, [], false, []) | false => none)) | false => (match Nat.beq pc 46 with | true => some (.ifCond .eq (51), 3, 97, [], false, []) | false => none)) | false => (match Nat.ble 43 pc with | true => (match Nat.beq pc 43 with | true => some (.invokevirtual 206, 3, 4046865, [], false, []) | false => none) | false => (match Nat.beq pc 41 with | true => some (.bipush (108), 2, 0, [], false, []) | false => none))))) | false => (match Nat.ble 21 pc with | true => (match Nat.ble 31 pc with | true => (match Nat.ble 34 pc with | true => (match Nat.ble 37 pc with | true => (match Nat.ble 40 pc with | true => (match Nat.beq pc 40 with | true => some (.aload_n 0, 1, 0, [], false, []) | false => none) | false => (match Nat.beq pc 37 with | true => some (.ifCond .eq (60), 3, 97, [], false, []) | false => none)) | false => (match Nat.beq pc 34 with | true => some (.invokevirtual 206, 3, 4046865, [], false, []) | false => none)) | false => (match Nat.ble 32 pc with | true => (match Nat.beq pc 32 with | true => some (.bipush (110), 2, 0, [], false, []) | false => none) | false => (match Nat.beq pc 31 with | true => some (.aload_n 0, 1, 0, [], false, []) | false => none))) | false => (match Nat.ble 23 pc with | true => (match Nat.ble 25 pc with | true => (match Nat.ble 28 pc with | true => (match Nat.beq pc 28 with | true => some (.ifCond .eq (71), 3, 99, [], false, []) | false => none) | false => (match Nat.beq pc 25 with | true => some (.invokevirtual 206, 3, 4046865, [], false, []) | false => none)) | false => (match Nat.beq pc 23 with | true => some (.bipush (117), 2, 0, [], false, []) | false => none)) | false => (match Nat.ble 22 pc with | true => (match Nat.beq pc 22 with | true => some (.aload_n 0, 1, 0, [], false, []) | false => none) | false => (match Nat.beq pc 21 with | true => some (.ireturn, 1, 0, [], false, []) | false => none)))) | false => (match Nat.ble 9 pc with | true => (match Nat.ble 14 pc with | true => (match Nat.ble 17 pc with | true => (match Nat.ble 18 pc with | true => (match Nat.beq pc 18 with | true => some (.invokevirtual 215, 3, 4096009, [], false, []) | false => none) | false => (match Nat.beq pc 17 with | true => some (.aload_n 0, 1, 0, [], false, []) | false => none)) | false => (match Nat.beq pc 14 with | true => some (.ifCond .eq (8), 3, 22, [], false, []) | false => none)) | false => (match Nat.ble 11 pc with | true => (match Nat.beq pc 11 with | true => some (.invokevirtual 206, 3, 4046865, [], false, []) | false => none) | false => (match Nat.beq pc 9 with | true => some (.bipush (108), 2, 0, [], false, []) | false => none))) | false => (match Nat.ble 2 pc with | true => (match Nat.ble 5 pc with | true => (match Nat.ble 8 pc with | true => (match Nat.beq pc 8 with | true => some (.aload_n 0, 1, 0, [], false, []) | false => none) | false => (match Nat.beq pc 5 with | true => some (.putfield 212, 3, 480, [], false, []) | false => none)) | false => (match Nat.beq pc 2 with | true => some (.invokevirtual 200, 3, 4030473, [], false, []) | false => none)) | false => (match Nat.ble 1 pc with | true => (match Nat.beq pc 1 with | true => some (.aload_n 0, 1, 0, [], false, []) | false => none) | false => (match Nat.beq pc 0 with | true => some (.aload_n 0, 1, 0, [], false, []) | false => none))))))
def call_Mo_readsCommand (kk : Nat) : Nat → List AV → GS → Res := fun id a G => match Nat.ble 250 id with | true => (match Nat.ble 251 id with | true => (match Nat.ble 252 id with | true => (match Nat.beq id 252 with | true => A_Mo_readsDrill kk a G | false => none) | false => (match Nat.beq id 251 with | true => A_Mo_readsS kk a G | false => none)) | false => (match Nat.beq id 250 with | true => A_Mo_readsL kk a G | false => none)) | false => (match Nat.ble 247 id with | true => (match Nat.ble 248 id with | true => (match Nat.beq id 248 with | true => A_Mo_readsDigit kk a G | false => none) | false => (match Nat.beq id 247 with | true => A_Mo_reads kk a G | false => none)) | false => (match Nat.beq id 246 with | true => A_Mo_nextChar kk a G | false => none))
def bk_Mo_readsCommand (kk k : Nat) : Kb := fun _ _ _ _ => none
theorem R_Mo_readsCommand (kk : Nat) (G : GS) : ai_run T_Mo_readsCommand (call_Mo_readsCommand kk) (fun _ => []) 0 (bk_Mo_readsCommand kk kk) 600 0 [some (.inr (0, 50))] [] G 0 = D_Mo_readsCommand kk G := by exact rfl
def T_Mo_readsAll : Tb := fun pc => match Nat.ble 21 pc with | true => (match Nat.ble 34 pc with | true => (match Nat.ble 41 pc with | true => (match Nat.ble 45 pc with | true => (match Nat.ble 46 pc with | true => (match Nat.beq pc 46 with | true => some (.ireturn, 1, 0, [], false, []) | false => none) | false => (match Nat.beq pc 45 with | true => some (.iconst 0, 1, 0, [], false, []) | false => none)) | false => (match Nat.ble 42 pc with | true => (match Nat.beq pc 42 with | true => some (.goto (4), 3, 46, [], false, []) | false => none) | false => (match Nat.beq pc 41 with | true => some (.iconst 1, 1, 0, [], false, []) | false => none))) | false => (match Nat.ble 35 pc with | true => (match Nat.ble 38 pc with | true => (match Nat.beq pc 38 with | true => some (.if_icmp .ne (7), 3, 45, [], false, []) | false => none) | false => (match Nat.beq pc 35 with | true => some (.getfield 194, 3, 470, [], false, []) | false => none)) | false => (match Nat.beq pc 34 with | true => some (.aload_n 0, 1, 0, [], false, []) | false => none))) | false => (match Nat.ble 27 pc with | true => (match Nat.ble 30 pc with | true => (match Nat.ble 31 pc with | true => (match Nat.beq pc 31 with | true => some (.getfield 197, 3, 472, [], false, []) | false => none) | false => (match Nat.beq pc 30 with | true => some (.aload_n 0, 1, 0, [], false, []) | false => none)) | false => (match Nat.beq pc 27 with | true => some (.goto (-20), 3, 7, [], false, []) | false => none)) | false => (match Nat.ble 23 pc with | true => (match Nat.ble 26 pc with | true => (match Nat.beq pc 26 with | true => some (.istore_n 1, 1, 0, [], false, []) | false => none) | false => (match Nat.beq pc 23 with | true => some (.invokevirtual 206, 3, 4046865, [], false, []) | false => none)) | false => (match Nat.beq pc 21 with | true => some (.bipush (59), 2, 0, [], false, []) | false => none)))) | false => (match Nat.ble 8 pc with | true => (match Nat.ble 15 pc with | true => (match Nat.ble 19 pc with | true => (match Nat.ble 20 pc with | true => (match Nat.beq pc 20 with | true => some (.aload_n 0, 1, 0, [], false, []) | false => none) | false => (match Nat.beq pc 19 with | true => some (.ireturn, 1, 0, [], false, []) | false => none)) | false => (match Nat.ble 18 pc with | true => (match Nat.beq pc 18 with | true => some (.iconst 0, 1, 0, [], false, []) | false => none) | false => (match Nat.beq pc 15 with | true => some (.ifCond .ne (5), 3, 20, [], false, []) | false => none))) | false => (match Nat.ble 11 pc with | true => (match Nat.ble 12 pc with | true => (match Nat.beq pc 12 with | true => some (.invokevirtual 225, 3, 4145161, [], false, []) | false => none) | false => (match Nat.beq pc 11 with | true => some (.aload_n 0, 1, 0, [], false, []) | false => none)) | false => (match Nat.beq pc 8 with | true => some (.ifCond .eq (22), 3, 30, [], false, []) | false => none))) | false => (match Nat.ble 5 pc with | true => (match Nat.ble 6 pc with | true => (match Nat.ble 7 pc with | true => (match Nat.beq pc 7 with | true => some (.iload_n 1, 1, 0, [], true, []) | false => none) | false => (match Nat.beq pc 6 with | true => some (.istore_n 1, 1, 0, [], false, []) | false => none)) | false => (match Nat.beq pc 5 with | true => some (.iconst 1, 1, 0, [], false, []) | false => none)) | false => (match Nat.ble 1 pc with | true => (match Nat.ble 2 pc with | true => (match Nat.beq pc 2 with | true => some (.putfield 197, 3, 472, [], false, []) | false => none) | false => (match Nat.beq pc 1 with | true => some (.iconst 0, 1, 0, [], false, []) | false => none)) | false => (match Nat.beq pc 0 with | true => some (.aload_n 0, 1, 0, [], false, []) | false => none))))
def call_Mo_readsAll (kk : Nat) : Nat → List AV → GS → Res := fun id a G => match Nat.ble 253 id with | true => (match Nat.beq id 253 with | true => A_Mo_readsCommand kk a G | false => none) | false => (match Nat.beq id 247 with | true => A_Mo_reads kk a G | false => none)
def bk_Mo_readsAll (kk k : Nat) : Kb := fun pc ls st G => match Nat.beq pc 7 with | true => (match ls, st with | [some (.inr (0, 50)), some (.inl (.int x1))], [] => (L_Mo_readsAll kk k) x1 G | _, _ => none) | false => none
theorem R_Mo_readsAll (kk : Nat) (G : GS) : ai_run T_Mo_readsAll (call_Mo_readsAll kk) (fun _ => []) 0 (bk_Mo_readsAll kk kk) 600 0 [some (.inr (0, 50)), none] [] G 0 = D_Mo_readsAll kk G := by exact rfl
theorem R_Mo_readsAll_7 (kk k : Nat) (x1 : Int32) (G : GS) : ai_step T_Mo_readsAll (call_Mo_readsAll kk) (fun _ => []) 0 (ai_run T_Mo_readsAll (call_Mo_readsAll kk) (fun _ => []) 0 (bk_Mo_readsAll kk k) 600) 7 (.iload_n 1, 1, 0, [], true, []) [some (.inr (0, 50)), some (.inl (.int x1))] [] G 0 = (L_Mo_readsAll kk (k + 1)) x1 G := by exact rfl
def T_Mo_notNow : Tb := fun pc => match Nat.ble 88 pc with | true => (match Nat.ble 105 pc with | true => (match Nat.ble 114 pc with | true => (match Nat.ble 119 pc with | true => (match Nat.ble 120 pc with | true => (match Nat.ble 121 pc with | true => (match Nat.beq pc 121 with | true => some (.ireturn, 1, 0, [], false, []) | false => none) | false => (match Nat.beq pc 120 with | true => some (.iconst 0, 1, 0, [], false, []) | false => none)) | false => (match Nat.beq pc 119 with | true => some (.ireturn, 1, 0, [], false, []) | false => none)) | false => (match Nat.ble 115 pc with | true => (match Nat.ble 116 pc with | true => (match Nat.beq pc 116 with | true => some (.invokestatic 138, 3, 3129353, [], false, []) | false => none) | false => (match Nat.beq pc 115 with | true => some (.iload_n 1, 1, 0, [], false, []) | false => none)) | false => (match Nat.beq pc 114 with | true => some (.ireturn, 1, 0, [], false, []) | false => none))) | false => (match Nat.ble 109 pc with | true => (match Nat.ble 110 pc with | true => (match Nat.ble 111 pc with | true => (match Nat.beq pc 111 with | true => some (.invokevirtual 132, 3, 3080209, [], false, []) | false => none) | false => (match Nat.beq pc 110 with | true => some (.iload_n 1, 1, 0, [], false, []) | false => none)) | false => (match Nat.beq pc 109 with | true => some (.aload_n 0, 1, 0, [], false, []) | false => none)) | false => (match Nat.ble 108 pc with | true => (match Nat.beq pc 108 with | true => some (.ireturn, 1, 0, [], false, []) | false => none) | false => (match Nat.beq pc 105 with | true => some (.invokestatic 123, 3, 2998281, [], false, []) | false => none)))) | false => (match Nat.ble 95 pc with | true => (match Nat.ble 100 pc with | true => (match Nat.ble 103 pc with | true => (match Nat.ble 104 pc with | true => (match Nat.beq pc 104 with | true => some (.iload_n 1, 1, 0, [], false, []) | false => none) | false => (match Nat.beq pc 103 with | true => some (.ireturn, 1, 0, [], false, []) | false => none)) | false => (match Nat.beq pc 100 with | true => some (.invokevirtual 114, 3, 2932761, [], false, []) | false => none)) | false => (match Nat.ble 98 pc with | true => (match Nat.ble 99 pc with | true => (match Nat.beq pc 99 with | true => some (.iaload, 1, 0, [], false, []) | false => none) | false => (match Nat.beq pc 98 with | true => some (.iconst 1, 1, 0, [], false, []) | false => none)) | false => (match Nat.beq pc 95 with | true => some (.getfield 39, 3, 478, [], false, []) | false => none))) | false => (match Nat.ble 92 pc with | true => (match Nat.ble 93 pc with | true => (match Nat.ble 94 pc with | true => (match Nat.beq pc 94 with | true => some (.aload_n 0, 1, 0, [], false, []) | false => none) | false => (match Nat.beq pc 93 with | true => some (.iload_n 1, 1, 0, [], false, []) | false => none)) | false => (match Nat.beq pc 92 with | true => some (.aload_n 0, 1, 0, [], false, []) | false => none)) | false => (match Nat.ble 91 pc with | true => (match Nat.beq pc 91 with | true => some (.ireturn, 1, 0, [], false, []) | false => none) | false => (match Nat.beq pc 88 with | true => some (.invokevirtual 108, 3, 2883601, [], false, []) | false => none))))) | false => (match Nat.ble 71 pc with | true => (match Nat.ble 80 pc with | true => (match Nat.ble 85 pc with | true => (match Nat.ble 86 pc with | true => (match Nat.ble 87 pc with | true => (match Nat.beq pc 87 with | true => some (.iload_n 1, 1, 0, [], false, []) | false => none) | false => (match Nat.beq pc 86 with | true => some (.aload_n 0, 1, 0, [], false, []) | false => none)) | false => (match Nat.beq pc 85 with | true => some (.ireturn, 1, 0, [], false, []) | false => none)) | false => (match Nat.ble 81 pc with | true => (match Nat.ble 82 pc with | true => (match Nat.beq pc 82 with | true => some (.invokevirtual 89, 3, 2834465, [], false, []) | false => none) | false => (match Nat.beq pc 81 with | true => some (.iaload, 1, 0, [], false, []) | false => none)) | false => (match Nat.beq pc 80 with | true => some (.iconst 2, 1, 0, [], false, []) | false => none))) | false => (match Nat.ble 75 pc with | true => (match Nat.ble 76 pc with | true => (match Nat.ble 77 pc with | true => (match Nat.beq pc 77 with | true => some (.getfield 39, 3, 478, [], false, []) | false => none) | false => (match Nat.beq pc 76 with | true => some (.aload_n 0, 1, 0, [], false, []) | false => none)) | false => (match Nat.beq pc 75 with | true => some (.iaload, 1, 0, [], false, []) | false => none)) | false => (match Nat.ble 74 pc with | true => (match Nat.beq pc 74 with | true => some (.iconst 1, 1, 0, [], false, []) | false => none) | false => (match Nat.beq pc 71 with | true => some (.getfield 39, 3, 478, [], false, []) | false => none)))) | false => (match Nat.ble 7 pc with | true => (match Nat.ble 68 pc with | true => (match Nat.ble 69 pc with | true => (match Nat.ble 70 pc with | true => (match Nat.beq pc 70 with | true => some (.aload_n 0, 1, 0, [], false, []) | false => none) | false => (match Nat.beq pc 69 with | true => some (.iload_n 1, 1, 0, [], false, []) | false => none)) | false => (match Nat.beq pc 68 with | true => some (.aload_n 0, 1, 0, [], false, []) | false => none)) | false => (match Nat.ble 8 pc with | true => (match Nat.ble 11 pc with | true => (match Nat.beq pc 11 with | true => some (.lookupswitch (109) #[(97, 93), (100, 104), (108, 57), (109, 98), (115, 81), (117, 75)], 57, 120, [], false, [((97 : Int32), 104), ((100 : Int32), 115), ((108 : Int32), 68), ((109 : Int32), 109), ((115 : Int32), 92), ((117 : Int32), 86)]) | false => none) | false => (match Nat.beq pc 8 with | true => some (.getfield 212, 3, 480, [], false, []) | false => none)) | false => (match Nat.beq pc 7 with | true => some (.aload_n 0, 1, 0, [], false, []) | false => none))) | false => (match Nat.ble 4 pc with | true => (match Nat.ble 5 pc with | true => (match Nat.ble 6 pc with | true => (match Nat.beq pc 6 with | true => some (.istore_n 1, 1, 0, [], false, []) | false => none) | false => (match Nat.beq pc 5 with | true => some (.iaload, 1, 0, [], false, []) | false => none)) | false => (match Nat.beq pc 4 with | true => some (.iconst 0, 1, 0, [], false, []) | false => none)) | false => (match Nat.ble 1 pc with | true => (match Nat.beq pc 1 with | true => some (.getfield 39, 3, 478, [], false, []) | false => none) | false => (match Nat.beq pc 0 with | true => some (.aload_n 0, 1, 0, [], false, []) | false => none)))))
def call_Mo_notNow (kk : Nat) : Nat → List AV → GS → Res := fun id a G => match Nat.ble 183 id with | true => (match Nat.ble 188 id with | true => (match Nat.ble 191 id with | true => (match Nat.beq id 191 with | true => A_Mo_notDrill kk a G | false => none) | false => (match Nat.beq id 188 with | true => A_Mo_notLimit kk a G | false => none)) | false => (match Nat.beq id 183 with | true => A_Mo_notSail kk a G | false => none)) | false => (match Nat.ble 176 id with | true => (match Nat.ble 179 id with | true => (match Nat.beq id 179 with | true => A_Mo_notShift kk a G | false => none) | false => (match Nat.beq id 176 with | true => A_Mo_notUnload kk a G | false => none)) | false => (match Nat.beq id 173 with | true => A_Mo_notLoad kk a G | false => none))
def bk_Mo_notNow (kk k : Nat) : Kb := fun _ _ _ _ => none
theorem R_Mo_notNow (kk : Nat) (G : GS) : ai_run T_Mo_notNow (call_Mo_notNow kk) (fun _ => []) 0 (bk_Mo_notNow kk kk) 600 0 [some (.inr (0, 50)), none] [] G 0 = D_Mo_notNow kk G := by exact rfl
def T_Mo_doesNow : Tb := fun pc => match Nat.ble 91 pc with | true => (match Nat.ble 109 pc with | true => (match Nat.ble 117 pc with | true => (match Nat.ble 122 pc with | true => (match Nat.ble 123 pc with | true => (match Nat.ble 126 pc with | true => (match Nat.beq pc 126 with | true => some (.ireturn, 1, 0, [], false, []) | false => none) | false => (match Nat.beq pc 123 with | true => some (.invokevirtual 129, 3, 3047433, [], false, []) | false => none)) | false => (match Nat.beq pc 122 with | true => some (.aload_n 0, 1, 0, [], false, []) | false => none)) | false => (match Nat.ble 118 pc with | true => (match Nat.ble 121 pc with | true => (match Nat.beq pc 121 with | true => some (.ireturn, 1, 0, [], false, []) | false => none) | false => (match Nat.beq pc 118 with | true => some (.invokevirtual 141, 3, 3145745, [], false, []) | false => none)) | false => (match Nat.beq pc 117 with | true => some (.iload_n 1, 1, 0, [], false, []) | false => none))) | false => (match Nat.ble 112 pc with | true => (match Nat.ble 115 pc with | true => (match Nat.ble 116 pc with | true => (match Nat.beq pc 116 with | true => some (.aload_n 0, 1, 0, [], false, []) | false => none) | false => (match Nat.beq pc 115 with | true => some (.ireturn, 1, 0, [], false, []) | false => none)) | false => (match Nat.beq pc 112 with | true => some (.invokevirtual 135, 3, 3096593, [], false, []) | false => none)) | false => (match Nat.ble 110 pc with | true => (match Nat.ble 111 pc with | true => (match Nat.beq pc 111 with | true => some (.iload_n 1, 1, 0, [], false, []) | false => none) | false => (match Nat.beq pc 110 with | true => some (.aload_n 0, 1, 0, [], false, []) | false => none)) | false => (match Nat.beq pc 109 with | true => some (.ireturn, 1, 0, [], false, []) | false => none)))) | false => (match Nat.ble 99 pc with | true => (match Nat.ble 104 pc with | true => (match Nat.ble 105 pc with | true => (match Nat.ble 106 pc with | true => (match Nat.beq pc 106 with | true => some (.invokevirtual 126, 3, 3014673, [], false, []) | false => none) | false => (match Nat.beq pc 105 with | true => some (.iload_n 1, 1, 0, [], false, []) | false => none)) | false => (match Nat.beq pc 104 with | true => some (.aload_n 0, 1, 0, [], false, []) | false => none)) | false => (match Nat.ble 100 pc with | true => (match Nat.ble 103 pc with | true => (match Nat.beq pc 103 with | true => some (.ireturn, 1, 0, [], false, []) | false => none) | false => (match Nat.beq pc 100 with | true => some (.invokevirtual 117, 3, 2949145, [], false, []) | false => none)) | false => (match Nat.beq pc 99 with | true => some (.iaload, 1, 0, [], false, []) | false => none))) | false => (match Nat.ble 94 pc with | true => (match Nat.ble 95 pc with | true => (match Nat.ble 98 pc with | true => (match Nat.beq pc 98 with | true => some (.iconst 1, 1, 0, [], false, []) | false => none) | false => (match Nat.beq pc 95 with | true => some (.getfield 39, 3, 478, [], false, []) | false => none)) | false => (match Nat.beq pc 94 with | true => some (.aload_n 0, 1, 0, [], false, []) | false => none)) | false => (match Nat.ble 92 pc with | true => (match Nat.ble 93 pc with | true => (match Nat.beq pc 93 with | true => some (.iload_n 1, 1, 0, [], false, []) | false => none) | false => (match Nat.beq pc 92 with | true => some (.aload_n 0, 1, 0, [], false, []) | false => none)) | false => (match Nat.beq pc 91 with | true => some (.ireturn, 1, 0, [], false, []) | false => none))))) | false => (match Nat.ble 71 pc with | true => (match Nat.ble 81 pc with | true => (match Nat.ble 86 pc with | true => (match Nat.ble 87 pc with | true => (match Nat.ble 88 pc with | true => (match Nat.beq pc 88 with | true => some (.invokevirtual 111, 3, 2899985, [], false, []) | false => none) | false => (match Nat.beq pc 87 with | true => some (.iload_n 1, 1, 0, [], false, []) | false => none)) | false => (match Nat.beq pc 86 with | true => some (.aload_n 0, 1, 0, [], false, []) | false => none)) | false => (match Nat.ble 82 pc with | true => (match Nat.ble 85 pc with | true => (match Nat.beq pc 85 with | true => some (.ireturn, 1, 0, [], false, []) | false => none) | false => (match Nat.beq pc 82 with | true => some (.invokevirtual 98, 3, 2850849, [], false, []) | false => none)) | false => (match Nat.beq pc 81 with | true => some (.iaload, 1, 0, [], false, []) | false => none))) | false => (match Nat.ble 76 pc with | true => (match Nat.ble 77 pc with | true => (match Nat.ble 80 pc with | true => (match Nat.beq pc 80 with | true => some (.iconst 2, 1, 0, [], false, []) | false => none) | false => (match Nat.beq pc 77 with | true => some (.getfield 39, 3, 478, [], false, []) | false => none)) | false => (match Nat.beq pc 76 with | true => some (.aload_n 0, 1, 0, [], false, []) | false => none)) | false => (match Nat.ble 74 pc with | true => (match Nat.ble 75 pc with | true => (match Nat.beq pc 75 with | true => some (.iaload, 1, 0, [], false, []) | false => none) | false => (match Nat.beq pc 74 with | true => some (.iconst 1, 1, 0, [], false, []) | false => none)) | false => (match Nat.beq pc 71 with | true => some (.getfield 39, 3, 478, [], false, []) | false => none)))) | false => (match Nat.ble 7 pc with | true => (match Nat.ble 68 pc with | true => (match Nat.ble 69 pc with | true => (match Nat.ble 70 pc with | true => (match Nat.beq pc 70 with | true => some (.aload_n 0, 1, 0, [], false, []) | false => none) | false => (match Nat.beq pc 69 with | true => some (.iload_n 1, 1, 0, [], false, []) | false => none)) | false => (match Nat.beq pc 68 with | true => some (.aload_n 0, 1, 0, [], false, []) | false => none)) | false => (match Nat.ble 8 pc with | true => (match Nat.ble 11 pc with | true => (match Nat.beq pc 11 with | true => some (.lookupswitch (111) #[(97, 93), (100, 105), (108, 57), (109, 99), (115, 81), (117, 75)], 57, 122, [], false, [((97 : Int32), 104), ((100 : Int32), 116), ((108 : Int32), 68), ((109 : Int32), 110), ((115 : Int32), 92), ((117 : Int32), 86)]) | false => none) | false => (match Nat.beq pc 8 with | true => some (.getfield 212, 3, 480, [], false, []) | false => none)) | false => (match Nat.beq pc 7 with | true => some (.aload_n 0, 1, 0, [], false, []) | false => none))) | false => (match Nat.ble 4 pc with | true => (match Nat.ble 5 pc with | true => (match Nat.ble 6 pc with | true => (match Nat.beq pc 6 with | true => some (.istore_n 1, 1, 0, [], false, []) | false => none) | false => (match Nat.beq pc 5 with | true => some (.iaload, 1, 0, [], false, []) | false => none)) | false => (match Nat.beq pc 4 with | true => some (.iconst 0, 1, 0, [], false, []) | false => none)) | false => (match Nat.ble 1 pc with | true => (match Nat.beq pc 1 with | true => some (.getfield 39, 3, 478, [], false, []) | false => none) | false => (match Nat.beq pc 0 with | true => some (.aload_n 0, 1, 0, [], false, []) | false => none)))))
def call_Mo_doesNow (kk : Nat) : Nat → List AV → GS → Res := fun id a G => match Nat.ble 184 id with | true => (match Nat.ble 189 id with | true => (match Nat.ble 192 id with | true => (match Nat.beq id 192 with | true => A_Mo_drills kk a G | false => none) | false => (match Nat.beq id 189 with | true => A_Mo_setsLimit kk a G | false => none)) | false => (match Nat.ble 186 id with | true => (match Nat.beq id 186 with | true => A_Mo_turns kk a G | false => none) | false => (match Nat.beq id 184 with | true => A_Mo_sails kk a G | false => none))) | false => (match Nat.ble 177 id with | true => (match Nat.ble 180 id with | true => (match Nat.beq id 180 with | true => A_Mo_shifts kk a G | false => none) | false => (match Nat.beq id 177 with | true => A_Mo_unloads kk a G | false => none)) | false => (match Nat.beq id 174 with | true => A_Mo_loads kk a G | false => none))
def bk_Mo_doesNow (kk k : Nat) : Kb := fun _ _ _ _ => none
theorem R_Mo_doesNow (kk : Nat) (G : GS) : ai_run T_Mo_doesNow (call_Mo_doesNow kk) (fun _ => []) 0 (bk_Mo_doesNow kk kk) 600 0 [some (.inr (0, 50)), none] [] G 0 = D_Mo_doesNow kk G := by exact rfl
def T_Mo_doesAll : Tb := fun pc => match Nat.ble 29 pc with | true => (match Nat.ble 41 pc with | true => (match Nat.ble 48 pc with | true => (match Nat.ble 52 pc with | true => (match Nat.ble 55 pc with | true => (match Nat.ble 56 pc with | true => (match Nat.beq pc 56 with | true => some (.ireturn, 1, 0, [], false, []) | false => none) | false => (match Nat.beq pc 55 with | true => some (.iconst 1, 1, 0, [], false, []) | false => none)) | false => (match Nat.beq pc 52 with | true => some (.goto (-40), 3, 12, [], false, []) | false => none)) | false => (match Nat.ble 51 pc with | true => (match Nat.beq pc 51 with | true => some (.istore_n 1, 1, 0, [], false, []) | false => none) | false => (match Nat.beq pc 48 with | true => some (.invokevirtual 206, 3, 4046865, [], false, []) | false => none))) | false => (match Nat.ble 45 pc with | true => (match Nat.ble 46 pc with | true => (match Nat.beq pc 46 with | true => some (.bipush (59), 2, 0, [], false, []) | false => none) | false => (match Nat.beq pc 45 with | true => some (.aload_n 0, 1, 0, [], false, []) | false => none)) | false => (match Nat.ble 42 pc with | true => (match Nat.beq pc 42 with | true => some (.putfield 228, 3, 482, [], false, []) | false => none) | false => (match Nat.beq pc 41 with | true => some (.iadd, 1, 0, [], false, []) | false => none)))) | false => (match Nat.ble 35 pc with | true => (match Nat.ble 37 pc with | true => (match Nat.ble 40 pc with | true => (match Nat.beq pc 40 with | true => some (.iconst 1, 1, 0, [], false, []) | false => none) | false => (match Nat.beq pc 37 with | true => some (.getfield 228, 3, 482, [], false, []) | false => none)) | false => (match Nat.ble 36 pc with | true => (match Nat.beq pc 36 with | true => some (.dup, 1, 0, [], false, []) | false => none) | false => (match Nat.beq pc 35 with | true => some (.aload_n 0, 1, 0, [], false, []) | false => none))) | false => (match Nat.ble 31 pc with | true => (match Nat.ble 34 pc with | true => (match Nat.beq pc 34 with | true => some (.pop, 1, 0, [], false, []) | false => none) | false => (match Nat.beq pc 31 with | true => some (.invokevirtual 234, 3, 4194313, [], false, []) | false => none)) | false => (match Nat.ble 30 pc with | true => (match Nat.beq pc 30 with | true => some (.aload_n 0, 1, 0, [], false, []) | false => none) | false => (match Nat.beq pc 29 with | true => some (.ireturn, 1, 0, [], false, []) | false => none))))) | false => (match Nat.ble 12 pc with | true => (match Nat.ble 20 pc with | true => (match Nat.ble 22 pc with | true => (match Nat.ble 25 pc with | true => (match Nat.ble 28 pc with | true => (match Nat.beq pc 28 with | true => some (.iconst 0, 1, 0, [], false, []) | false => none) | false => (match Nat.beq pc 25 with | true => some (.ifCond .eq (5), 3, 30, [], false, []) | false => none)) | false => (match Nat.beq pc 22 with | true => some (.invokevirtual 231, 3, 4177929, [], false, []) | false => none)) | false => (match Nat.ble 21 pc with | true => (match Nat.beq pc 21 with | true => some (.aload_n 0, 1, 0, [], false, []) | false => none) | false => (match Nat.beq pc 20 with | true => some (.pop, 1, 0, [], false, []) | false => none))) | false => (match Nat.ble 16 pc with | true => (match Nat.ble 17 pc with | true => (match Nat.beq pc 17 with | true => some (.invokevirtual 225, 3, 4145161, [], false, []) | false => none) | false => (match Nat.beq pc 16 with | true => some (.aload_n 0, 1, 0, [], false, []) | false => none)) | false => (match Nat.ble 13 pc with | true => (match Nat.beq pc 13 with | true => some (.ifCond .eq (42), 3, 55, [], false, []) | false => none) | false => (match Nat.beq pc 12 with | true => some (.iload_n 1, 1, 0, [], true, []) | false => none)))) | false => (match Nat.ble 6 pc with | true => (match Nat.ble 10 pc with | true => (match Nat.ble 11 pc with | true => (match Nat.beq pc 11 with | true => some (.istore_n 1, 1, 0, [], false, []) | false => none) | false => (match Nat.beq pc 10 with | true => some (.iconst 1, 1, 0, [], false, []) | false => none)) | false => (match Nat.ble 7 pc with | true => (match Nat.beq pc 7 with | true => some (.putfield 197, 3, 472, [], false, []) | false => none) | false => (match Nat.beq pc 6 with | true => some (.iconst 0, 1, 0, [], false, []) | false => none))) | false => (match Nat.ble 2 pc with | true => (match Nat.ble 5 pc with | true => (match Nat.beq pc 5 with | true => some (.aload_n 0, 1, 0, [], false, []) | false => none) | false => (match Nat.beq pc 2 with | true => some (.putfield 228, 3, 482, [], false, []) | false => none)) | false => (match Nat.ble 1 pc with | true => (match Nat.beq pc 1 with | true => some (.iconst 0, 1, 0, [], false, []) | false => none) | false => (match Nat.beq pc 0 with | true => some (.aload_n 0, 1, 0, [], false, []) | false => none)))))
def call_Mo_doesAll (kk : Nat) : Nat → List AV → GS → Res := fun id a G => match Nat.ble 255 id with | true => (match Nat.ble 256 id with | true => (match Nat.beq id 256 with | true => A_Mo_doesNow kk a G | false => none) | false => (match Nat.beq id 255 with | true => A_Mo_notNow kk a G | false => none)) | false => (match Nat.ble 253 id with | true => (match Nat.beq id 253 with | true => A_Mo_readsCommand kk a G | false => none) | false => (match Nat.beq id 247 with | true => A_Mo_reads kk a G | false => none))
def bk_Mo_doesAll (kk k : Nat) : Kb := fun pc ls st G => match Nat.beq pc 12 with | true => (match ls, st with | [some (.inr (0, 50)), some (.inl (.int x1))], [] => (L_Mo_doesAll kk k) x1 G | _, _ => none) | false => none
theorem R_Mo_doesAll (kk : Nat) (G : GS) : ai_run T_Mo_doesAll (call_Mo_doesAll kk) (fun _ => []) 0 (bk_Mo_doesAll kk kk) 600 0 [some (.inr (0, 50)), none] [] G 0 = D_Mo_doesAll kk G := by exact rfl
theorem R_Mo_doesAll_12 (kk k : Nat) (x1 : Int32) (G : GS) : ai_step T_Mo_doesAll (call_Mo_doesAll kk) (fun _ => []) 0 (ai_run T_Mo_doesAll (call_Mo_doesAll kk) (fun _ => []) 0 (bk_Mo_doesAll kk k) 600) 12 (.iload_n 1, 1, 0, [], true, []) [some (.inr (0, 50)), some (.inl (.int x1))] [] G 0 = (L_Mo_doesAll kk (k + 1)) x1 G := by exact rfl
def T_Mo_runScript : Tb := fun pc => match Nat.ble 39 pc with | true => (match Nat.ble 57 pc with | true => (match Nat.ble 64 pc with | true => (match Nat.ble 71 pc with | true => (match Nat.ble 72 pc with | true => (match Nat.ble 75 pc with | true => (match Nat.beq pc 75 with | true => some (.ireturn, 1, 0, [], false, []) | false => none) | false => (match Nat.beq pc 72 with | true => some (.invokevirtual 92, 3, 2523153, [], false, []) | false => none)) | false => (match Nat.beq pc 71 with | true => some (.iconst 2, 1, 0, [], false, []) | false => none)) | false => (match Nat.ble 67 pc with | true => (match Nat.ble 70 pc with | true => (match Nat.beq pc 70 with | true => some (.aload_n 0, 1, 0, [], false, []) | false => none) | false => (match Nat.beq pc 67 with | true => some (.putfield 36, 3, 476, [], false, []) | false => none)) | false => (match Nat.beq pc 64 with | true => some (.getfield 228, 3, 482, [], false, []) | false => none))) | false => (match Nat.ble 59 pc with | true => (match Nat.ble 62 pc with | true => (match Nat.ble 63 pc with | true => (match Nat.beq pc 63 with | true => some (.aload_n 0, 1, 0, [], false, []) | false => none) | false => (match Nat.beq pc 62 with | true => some (.aload_n 0, 1, 0, [], false, []) | false => none)) | false => (match Nat.beq pc 59 with | true => some (.invokevirtual 243, 3, 2588680, [], false, []) | false => none)) | false => (match Nat.ble 58 pc with | true => (match Nat.beq pc 58 with | true => some (.aload_n 0, 1, 0, [], false, []) | false => none) | false => (match Nat.beq pc 57 with | true => some (.ireturn, 1, 0, [], false, []) | false => none)))) | false => (match Nat.ble 46 pc with | true => (match Nat.ble 50 pc with | true => (match Nat.ble 53 pc with | true => (match Nat.ble 54 pc with | true => (match Nat.beq pc 54 with | true => some (.getfield 228, 3, 482, [], false, []) | false => none) | false => (match Nat.beq pc 53 with | true => some (.aload_n 0, 1, 0, [], false, []) | false => none)) | false => (match Nat.beq pc 50 with | true => some (.invokevirtual 51, 3, 2605064, [], false, []) | false => none)) | false => (match Nat.ble 49 pc with | true => (match Nat.beq pc 49 with | true => some (.aload_n 0, 1, 0, [], false, []) | false => none) | false => (match Nat.beq pc 46 with | true => some (.ifCond .eq (12), 3, 58, [], false, []) | false => none))) | false => (match Nat.ble 41 pc with | true => (match Nat.ble 42 pc with | true => (match Nat.ble 45 pc with | true => (match Nat.beq pc 45 with | true => some (.iload_n 1, 1, 0, [], false, []) | false => none) | false => (match Nat.beq pc 42 with | true => some (.putfield 194, 3, 470, [], false, []) | false => none)) | false => (match Nat.beq pc 41 with | true => some (.iconst 0, 1, 0, [], false, []) | false => none)) | false => (match Nat.ble 40 pc with | true => (match Nat.beq pc 40 with | true => some (.aload_n 0, 1, 0, [], false, []) | false => none) | false => (match Nat.beq pc 39 with | true => some (.istore_n 1, 1, 0, [], false, []) | false => none))))) | false => (match Nat.ble 20 pc with | true => (match Nat.ble 27 pc with | true => (match Nat.ble 32 pc with | true => (match Nat.ble 35 pc with | true => (match Nat.ble 36 pc with | true => (match Nat.beq pc 36 with | true => some (.invokevirtual 240, 3, 4210697, [], false, []) | false => none) | false => (match Nat.beq pc 35 with | true => some (.aload_n 0, 1, 0, [], false, []) | false => none)) | false => (match Nat.beq pc 32 with | true => some (.invokevirtual 48, 3, 2572296, [], false, []) | false => none)) | false => (match Nat.ble 30 pc with | true => (match Nat.ble 31 pc with | true => (match Nat.beq pc 31 with | true => some (.aload_n 0, 1, 0, [], false, []) | false => none) | false => (match Nat.beq pc 30 with | true => some (.ireturn, 1, 0, [], false, []) | false => none)) | false => (match Nat.beq pc 27 with | true => some (.invokevirtual 92, 3, 2523153, [], false, []) | false => none))) | false => (match Nat.ble 22 pc with | true => (match Nat.ble 25 pc with | true => (match Nat.ble 26 pc with | true => (match Nat.beq pc 26 with | true => some (.iconst 1, 1, 0, [], false, []) | false => none) | false => (match Nat.beq pc 25 with | true => some (.aload_n 0, 1, 0, [], false, []) | false => none)) | false => (match Nat.beq pc 22 with | true => some (.putfield 194, 3, 470, [], false, []) | false => none)) | false => (match Nat.ble 21 pc with | true => (match Nat.beq pc 21 with | true => some (.iconst 0, 1, 0, [], false, []) | false => none) | false => (match Nat.beq pc 20 with | true => some (.aload_n 0, 1, 0, [], false, []) | false => none)))) | false => (match Nat.ble 9 pc with | true => (match Nat.ble 13 pc with | true => (match Nat.ble 14 pc with | true => (match Nat.ble 17 pc with | true => (match Nat.beq pc 17 with | true => some (.putfield 33, 3, 474, [], false, []) | false => none) | false => (match Nat.beq pc 14 with | true => some (.getfield 197, 3, 472, [], false, []) | false => none)) | false => (match Nat.beq pc 13 with | true => some (.aload_n 0, 1, 0, [], false, []) | false => none)) | false => (match Nat.ble 12 pc with | true => (match Nat.beq pc 12 with | true => some (.aload_n 0, 1, 0, [], false, []) | false => none) | false => (match Nat.beq pc 9 with | true => some (.ifCond .ne (22), 3, 31, [], false, []) | false => none))) | false => (match Nat.ble 2 pc with | true => (match Nat.ble 5 pc with | true => (match Nat.ble 6 pc with | true => (match Nat.beq pc 6 with | true => some (.invokevirtual 237, 3, 4161545, [], false, []) | false => none) | false => (match Nat.beq pc 5 with | true => some (.aload_n 0, 1, 0, [], false, []) | false => none)) | false => (match Nat.beq pc 2 with | true => some (.putfield 1, 3, 448, [], false, []) | false => none)) | false => (match Nat.ble 1 pc with | true => (match Nat.beq pc 1 with | true => some (.iconst 0, 1, 0, [], false, []) | false => none) | false => (match Nat.beq pc 0 with | true => some (.aload_n 0, 1, 0, [], false, []) | false => none)))))
def call_Mo_runScript (kk : Nat) : Nat → List AV → GS → Res := fun id a G => match Nat.ble 159 id with | true => (match Nat.ble 254 id with | true => (match Nat.ble 257 id with | true => (match Nat.beq id 257 with | true => A_Mo_doesAll kk a G | false => none) | false => (match Nat.beq id 254 with | true => A_Mo_readsAll kk a G | false => none)) | false => (match Nat.beq id 159 with | true => A_Mo_keeps kk a G | false => none)) | false => (match Nat.ble 157 id with | true => (match Nat.ble 158 id with | true => (match Nat.beq id 158 with | true => A_Mo_goesBack kk a G | false => none) | false => (match Nat.beq id 157 with | true => A_Mo_copies kk a G | false => none)) | false => (match Nat.beq id 154 with | true => A_Mo_fails kk a G | false => none))
def bk_Mo_runScript (kk k : Nat) : Kb := fun _ _ _ _ => none
theorem R_Mo_runScript (kk : Nat) (G : GS) : ai_run T_Mo_runScript (call_Mo_runScript kk) (fun _ => []) 0 (bk_Mo_runScript kk kk) 600 0 [some (.inr (0, 50)), none] [] G 0 = D_Mo_runScript kk G := by exact rfl
def T_Mo_errorPosition : Tb := fun pc => match Nat.ble 12 pc with | true => (match Nat.ble 17 pc with | true => (match Nat.ble 21 pc with | true => (match Nat.ble 24 pc with | true => (match Nat.beq pc 24 with | true => some (.ireturn, 1, 0, [], false, []) | false => none) | false => (match Nat.beq pc 21 with | true => some (.getfield 33, 3, 474, [], false, []) | false => none)) | false => (match Nat.ble 20 pc with | true => (match Nat.beq pc 20 with | true => some (.aload_n 0, 1, 0, [], false, []) | false => none) | false => (match Nat.beq pc 17 with | true => some (.goto (7), 3, 24, [], false, []) | false => none))) | false => (match Nat.ble 13 pc with | true => (match Nat.ble 14 pc with | true => (match Nat.beq pc 14 with | true => some (.invokevirtual 92, 3, 2523153, [], false, []) | false => none) | false => (match Nat.beq pc 13 with | true => some (.iconst 1, 1, 0, [], false, []) | false => none)) | false => (match Nat.beq pc 12 with | true => some (.aload_n 0, 1, 0, [], false, []) | false => none))) | false => (match Nat.ble 5 pc with | true => (match Nat.ble 6 pc with | true => (match Nat.ble 9 pc with | true => (match Nat.beq pc 9 with | true => some (.ifCond .ge (11), 3, 20, [], false, []) | false => none) | false => (match Nat.beq pc 6 with | true => some (.getfield 33, 3, 474, [], false, []) | false => none)) | false => (match Nat.beq pc 5 with | true => some (.aload_n 0, 1, 0, [], false, []) | false => none)) | false => (match Nat.ble 1 pc with | true => (match Nat.ble 2 pc with | true => (match Nat.beq pc 2 with | true => some (.putfield 1, 3, 448, [], false, []) | false => none) | false => (match Nat.beq pc 1 with | true => some (.iconst 0, 1, 0, [], false, []) | false => none)) | false => (match Nat.beq pc 0 with | true => some (.aload_n 0, 1, 0, [], false, []) | false => none)))
def call_Mo_errorPosition (kk : Nat) : Nat → List AV → GS → Res := fun id a G => match Nat.beq id 154 with | true => A_Mo_fails kk a G | false => none
def bk_Mo_errorPosition (kk k : Nat) : Kb := fun _ _ _ _ => none
theorem R_Mo_errorPosition (kk : Nat) (G : GS) : ai_run T_Mo_errorPosition (call_Mo_errorPosition kk) (fun _ => []) 0 (bk_Mo_errorPosition kk kk) 600 0 [some (.inr (0, 50))] [] G 0 = D_Mo_errorPosition kk G := by exact rfl
def T_Mo_failedCommand : Tb := fun pc => match Nat.ble 12 pc with | true => (match Nat.ble 17 pc with | true => (match Nat.ble 21 pc with | true => (match Nat.ble 24 pc with | true => (match Nat.beq pc 24 with | true => some (.ireturn, 1, 0, [], false, []) | false => none) | false => (match Nat.beq pc 21 with | true => some (.getfield 36, 3, 476, [], false, []) | false => none)) | false => (match Nat.ble 20 pc with | true => (match Nat.beq pc 20 with | true => some (.aload_n 0, 1, 0, [], false, []) | false => none) | false => (match Nat.beq pc 17 with | true => some (.goto (7), 3, 24, [], false, []) | false => none))) | false => (match Nat.ble 13 pc with | true => (match Nat.ble 14 pc with | true => (match Nat.beq pc 14 with | true => some (.invokevirtual 92, 3, 2523153, [], false, []) | false => none) | false => (match Nat.beq pc 13 with | true => some (.iconst 1, 1, 0, [], false, []) | false => none)) | false => (match Nat.beq pc 12 with | true => some (.aload_n 0, 1, 0, [], false, []) | false => none))) | false => (match Nat.ble 5 pc with | true => (match Nat.ble 6 pc with | true => (match Nat.ble 9 pc with | true => (match Nat.beq pc 9 with | true => some (.ifCond .ge (11), 3, 20, [], false, []) | false => none) | false => (match Nat.beq pc 6 with | true => some (.getfield 36, 3, 476, [], false, []) | false => none)) | false => (match Nat.beq pc 5 with | true => some (.aload_n 0, 1, 0, [], false, []) | false => none)) | false => (match Nat.ble 1 pc with | true => (match Nat.ble 2 pc with | true => (match Nat.beq pc 2 with | true => some (.putfield 1, 3, 448, [], false, []) | false => none) | false => (match Nat.beq pc 1 with | true => some (.iconst 0, 1, 0, [], false, []) | false => none)) | false => (match Nat.beq pc 0 with | true => some (.aload_n 0, 1, 0, [], false, []) | false => none)))
def call_Mo_failedCommand (kk : Nat) : Nat → List AV → GS → Res := fun id a G => match Nat.beq id 154 with | true => A_Mo_fails kk a G | false => none
def bk_Mo_failedCommand (kk k : Nat) : Kb := fun _ _ _ _ => none
theorem R_Mo_failedCommand (kk : Nat) (G : GS) : ai_run T_Mo_failedCommand (call_Mo_failedCommand kk) (fun _ => []) 0 (bk_Mo_failedCommand kk kk) 600 0 [some (.inr (0, 50))] [] G 0 = D_Mo_failedCommand kk G := by exact rfl
def T_Mo_undo : Tb := fun pc => match Nat.ble 40 pc with | true => (match Nat.ble 59 pc with | true => (match Nat.ble 67 pc with | true => (match Nat.ble 74 pc with | true => (match Nat.ble 75 pc with | true => (match Nat.ble 78 pc with | true => (match Nat.beq pc 78 with | true => some (.ireturn, 1, 0, [], false, []) | false => none) | false => (match Nat.beq pc 75 with | true => some (.getfield 42, 3, 458, [], false, []) | false => none)) | false => (match Nat.beq pc 74 with | true => some (.aload_n 0, 1, 0, [], false, []) | false => none)) | false => (match Nat.ble 68 pc with | true => (match Nat.ble 71 pc with | true => (match Nat.beq pc 71 with | true => some (.goto (-28), 3, 43, [], false, []) | false => none) | false => (match Nat.beq pc 68 with | true => some (.iinc 2 (1), 3, 0, [], false, []) | false => none)) | false => (match Nat.beq pc 67 with | true => some (.iastore, 1, 0, [], false, []) | false => none))) | false => (match Nat.ble 64 pc with | true => (match Nat.ble 65 pc with | true => (match Nat.ble 66 pc with | true => (match Nat.beq pc 66 with | true => some (.iaload, 1, 0, [], false, []) | false => none) | false => (match Nat.beq pc 65 with | true => some (.iadd, 1, 0, [], false, []) | false => none)) | false => (match Nat.beq pc 64 with | true => some (.iload_n 2, 1, 0, [], false, []) | false => none)) | false => (match Nat.ble 62 pc with | true => (match Nat.ble 63 pc with | true => (match Nat.beq pc 63 with | true => some (.imul, 1, 0, [], false, []) | false => none) | false => (match Nat.beq pc 62 with | true => some (.iload_n 1, 1, 0, [], false, []) | false => none)) | false => (match Nat.beq pc 59 with | true => some (.sipush (156), 3, 0, [], false, []) | false => none)))) | false => (match Nat.ble 47 pc with | true => (match Nat.ble 54 pc with | true => (match Nat.ble 55 pc with | true => (match Nat.ble 56 pc with | true => (match Nat.beq pc 56 with | true => some (.getfield 17, 3, 452, [], false, []) | false => none) | false => (match Nat.beq pc 55 with | true => some (.aload_n 0, 1, 0, [], false, []) | false => none)) | false => (match Nat.beq pc 54 with | true => some (.iload_n 2, 1, 0, [], false, []) | false => none)) | false => (match Nat.ble 50 pc with | true => (match Nat.ble 51 pc with | true => (match Nat.beq pc 51 with | true => some (.getfield 13, 3, 450, [], false, []) | false => none) | false => (match Nat.beq pc 50 with | true => some (.aload_n 0, 1, 0, [], false, []) | false => none)) | false => (match Nat.beq pc 47 with | true => some (.if_icmp .ge (27), 3, 74, [], false, []) | false => none))) | false => (match Nat.ble 42 pc with | true => (match Nat.ble 43 pc with | true => (match Nat.ble 44 pc with | true => (match Nat.beq pc 44 with | true => some (.sipush (156), 3, 0, [], false, []) | false => none) | false => (match Nat.beq pc 43 with | true => some (.iload_n 2, 1, 0, [], true, []) | false => none)) | false => (match Nat.beq pc 42 with | true => some (.istore_n 2, 1, 0, [], false, []) | false => none)) | false => (match Nat.ble 41 pc with | true => (match Nat.beq pc 41 with | true => some (.iconst 0, 1, 0, [], false, []) | false => none) | false => (match Nat.beq pc 40 with | true => some (.istore_n 1, 1, 0, [], false, []) | false => none))))) | false => (match Nat.ble 19 pc with | true => (match Nat.ble 29 pc with | true => (match Nat.ble 36 pc with | true => (match Nat.ble 37 pc with | true => (match Nat.ble 39 pc with | true => (match Nat.beq pc 39 with | true => some (.irem, 1, 0, [], false, []) | false => none) | false => (match Nat.beq pc 37 with | true => some (.bipush (8), 2, 0, [], false, []) | false => none)) | false => (match Nat.beq pc 36 with | true => some (.iadd, 1, 0, [], false, []) | false => none)) | false => (match Nat.ble 32 pc with | true => (match Nat.ble 33 pc with | true => (match Nat.beq pc 33 with | true => some (.getfield 42, 3, 458, [], false, []) | false => none) | false => (match Nat.beq pc 32 with | true => some (.aload_n 0, 1, 0, [], false, []) | false => none)) | false => (match Nat.beq pc 29 with | true => some (.getfield 45, 3, 460, [], false, []) | false => none))) | false => (match Nat.ble 24 pc with | true => (match Nat.ble 25 pc with | true => (match Nat.ble 28 pc with | true => (match Nat.beq pc 28 with | true => some (.aload_n 0, 1, 0, [], false, []) | false => none) | false => (match Nat.beq pc 25 with | true => some (.putfield 42, 3, 458, [], false, []) | false => none)) | false => (match Nat.beq pc 24 with | true => some (.isub, 1, 0, [], false, []) | false => none)) | false => (match Nat.ble 20 pc with | true => (match Nat.ble 23 pc with | true => (match Nat.beq pc 23 with | true => some (.iconst 1, 1, 0, [], false, []) | false => none) | false => (match Nat.beq pc 20 with | true => some (.getfield 42, 3, 458, [], false, []) | false => none)) | false => (match Nat.beq pc 19 with | true => some (.dup, 1, 0, [], false, []) | false => none)))) | false => (match Nat.ble 9 pc with | true => (match Nat.ble 14 pc with | true => (match Nat.ble 17 pc with | true => (match Nat.ble 18 pc with | true => (match Nat.beq pc 18 with | true => some (.aload_n 0, 1, 0, [], false, []) | false => none) | false => (match Nat.beq pc 17 with | true => some (.ireturn, 1, 0, [], false, []) | false => none)) | false => (match Nat.beq pc 14 with | true => some (.invokevirtual 92, 3, 2523153, [], false, []) | false => none)) | false => (match Nat.ble 12 pc with | true => (match Nat.ble 13 pc with | true => (match Nat.beq pc 13 with | true => some (.iconst 1, 1, 0, [], false, []) | false => none) | false => (match Nat.beq pc 12 with | true => some (.aload_n 0, 1, 0, [], false, []) | false => none)) | false => (match Nat.beq pc 9 with | true => some (.ifCond .ne (9), 3, 18, [], false, []) | false => none))) | false => (match Nat.ble 2 pc with | true => (match Nat.ble 5 pc with | true => (match Nat.ble 6 pc with | true => (match Nat.beq pc 6 with | true => some (.getfield 42, 3, 458, [], false, []) | false => none) | false => (match Nat.beq pc 5 with | true => some (.aload_n 0, 1, 0, [], false, []) | false => none)) | false => (match Nat.beq pc 2 with | true => some (.putfield 1, 3, 448, [], false, []) | false => none)) | false => (match Nat.ble 1 pc with | true => (match Nat.beq pc 1 with | true => some (.iconst 0, 1, 0, [], false, []) | false => none) | false => (match Nat.beq pc 0 with | true => some (.aload_n 0, 1, 0, [], false, []) | false => none)))))
def call_Mo_undo (kk : Nat) : Nat → List AV → GS → Res := fun id a G => match Nat.beq id 154 with | true => A_Mo_fails kk a G | false => none
def bk_Mo_undo (kk k : Nat) : Kb := fun pc ls st G => match Nat.beq pc 43 with | true => (match ls, st with | [some (.inr (0, 50)), some (.inl (.int x1)), some (.inl (.int x2))], [] => (L_Mo_undo kk k) x1 x2 G | _, _ => none) | false => none
theorem R_Mo_undo (kk : Nat) (G : GS) : ai_run T_Mo_undo (call_Mo_undo kk) (fun _ => []) 0 (bk_Mo_undo kk kk) 600 0 [some (.inr (0, 50)), none, none] [] G 0 = D_Mo_undo kk G := by exact rfl
theorem R_Mo_undo_43 (kk k : Nat) (x1 : Int32) (x2 : Int32) (G : GS) : ai_step T_Mo_undo (call_Mo_undo kk) (fun _ => []) 0 (ai_run T_Mo_undo (call_Mo_undo kk) (fun _ => []) 0 (bk_Mo_undo kk k) 600) 43 (.iload_n 2, 1, 0, [], true, []) [some (.inr (0, 50)), some (.inl (.int x1)), some (.inl (.int x2))] [] G 0 = (L_Mo_undo kk (k + 1)) x1 x2 G := by exact rfl
def T_Mo_save : Tb := fun pc => match Nat.ble 20 pc with | true => (match Nat.ble 32 pc with | true => (match Nat.ble 37 pc with | true => (match Nat.ble 38 pc with | true => (match Nat.ble 41 pc with | true => (match Nat.beq pc 41 with | true => some (.ireturn, 1, 0, [], false, []) | false => none) | false => (match Nat.beq pc 38 with | true => some (.invokevirtual 144, 3, 2752521, [], false, []) | false => none)) | false => (match Nat.beq pc 37 with | true => some (.aload_n 0, 1, 0, [], false, []) | false => none)) | false => (match Nat.ble 33 pc with | true => (match Nat.ble 34 pc with | true => (match Nat.beq pc 34 with | true => some (.putfield 246, 3, 463, [], false, []) | false => none) | false => (match Nat.beq pc 33 with | true => some (.iconst 1, 1, 0, [], false, []) | false => none)) | false => (match Nat.beq pc 32 with | true => some (.aload_n 0, 1, 0, [], false, []) | false => none))) | false => (match Nat.ble 25 pc with | true => (match Nat.ble 26 pc with | true => (match Nat.ble 29 pc with | true => (match Nat.beq pc 29 with | true => some (.goto (-22), 3, 7, [], false, []) | false => none) | false => (match Nat.beq pc 26 with | true => some (.iinc 1 (1), 3, 0, [], false, []) | false => none)) | false => (match Nat.beq pc 25 with | true => some (.iastore, 1, 0, [], false, []) | false => none)) | false => (match Nat.ble 23 pc with | true => (match Nat.ble 24 pc with | true => (match Nat.beq pc 24 with | true => some (.iaload, 1, 0, [], false, []) | false => none) | false => (match Nat.beq pc 23 with | true => some (.iload_n 1, 1, 0, [], false, []) | false => none)) | false => (match Nat.beq pc 20 with | true => some (.getfield 13, 3, 450, [], false, []) | false => none)))) | false => (match Nat.ble 8 pc with | true => (match Nat.ble 15 pc with | true => (match Nat.ble 18 pc with | true => (match Nat.ble 19 pc with | true => (match Nat.beq pc 19 with | true => some (.aload_n 0, 1, 0, [], false, []) | false => none) | false => (match Nat.beq pc 18 with | true => some (.iload_n 1, 1, 0, [], false, []) | false => none)) | false => (match Nat.beq pc 15 with | true => some (.getfield 20, 3, 454, [], false, []) | false => none)) | false => (match Nat.ble 11 pc with | true => (match Nat.ble 14 pc with | true => (match Nat.beq pc 14 with | true => some (.aload_n 0, 1, 0, [], false, []) | false => none) | false => (match Nat.beq pc 11 with | true => some (.if_icmp .ge (21), 3, 32, [], false, []) | false => none)) | false => (match Nat.beq pc 8 with | true => some (.sipush (156), 3, 0, [], false, []) | false => none))) | false => (match Nat.ble 5 pc with | true => (match Nat.ble 6 pc with | true => (match Nat.ble 7 pc with | true => (match Nat.beq pc 7 with | true => some (.iload_n 1, 1, 0, [], true, []) | false => none) | false => (match Nat.beq pc 6 with | true => some (.istore_n 1, 1, 0, [], false, []) | false => none)) | false => (match Nat.beq pc 5 with | true => some (.iconst 0, 1, 0, [], false, []) | false => none)) | false => (match Nat.ble 1 pc with | true => (match Nat.ble 2 pc with | true => (match Nat.beq pc 2 with | true => some (.putfield 1, 3, 448, [], false, []) | false => none) | false => (match Nat.beq pc 1 with | true => some (.iconst 0, 1, 0, [], false, []) | false => none)) | false => (match Nat.beq pc 0 with | true => some (.aload_n 0, 1, 0, [], false, []) | false => none))))
def call_Mo_save (kk : Nat) : Nat → List AV → GS → Res := fun id a G => match Nat.beq id 168 with | true => A_Mo_countAll kk a G | false => none
def bk_Mo_save (kk k : Nat) : Kb := fun pc ls st G => match Nat.beq pc 7 with | true => (match ls, st with | [some (.inr (0, 50)), some (.inl (.int x1))], [] => (L_Mo_save kk k) x1 G | _, _ => none) | false => none
theorem R_Mo_save (kk : Nat) (G : GS) : ai_run T_Mo_save (call_Mo_save kk) (fun _ => []) 0 (bk_Mo_save kk kk) 600 0 [some (.inr (0, 50)), none] [] G 0 = D_Mo_save kk G := by exact rfl
theorem R_Mo_save_7 (kk k : Nat) (x1 : Int32) (G : GS) : ai_step T_Mo_save (call_Mo_save kk) (fun _ => []) 0 (ai_run T_Mo_save (call_Mo_save kk) (fun _ => []) 0 (bk_Mo_save kk k) 600) 7 (.iload_n 1, 1, 0, [], true, []) [some (.inr (0, 50)), some (.inl (.int x1))] [] G 0 = (L_Mo_save kk (k + 1)) x1 G := by exact rfl
def T_Mo_restore : Tb := fun pc => match Nat.ble 31 pc with | true => (match Nat.ble 45 pc with | true => (match Nat.ble 51 pc with | true => (match Nat.ble 55 pc with | true => (match Nat.ble 56 pc with | true => (match Nat.ble 59 pc with | true => (match Nat.beq pc 59 with | true => some (.ireturn, 1, 0, [], false, []) | false => none) | false => (match Nat.beq pc 56 with | true => some (.invokevirtual 144, 3, 2752521, [], false, []) | false => none)) | false => (match Nat.beq pc 55 with | true => some (.aload_n 0, 1, 0, [], false, []) | false => none)) | false => (match Nat.ble 52 pc with | true => (match Nat.beq pc 52 with | true => some (.putfield 45, 3, 460, [], false, []) | false => none) | false => (match Nat.beq pc 51 with | true => some (.iconst 0, 1, 0, [], false, []) | false => none))) | false => (match Nat.ble 47 pc with | true => (match Nat.ble 50 pc with | true => (match Nat.beq pc 50 with | true => some (.aload_n 0, 1, 0, [], false, []) | false => none) | false => (match Nat.beq pc 47 with | true => some (.putfield 42, 3, 458, [], false, []) | false => none)) | false => (match Nat.ble 46 pc with | true => (match Nat.beq pc 46 with | true => some (.iconst 0, 1, 0, [], false, []) | false => none) | false => (match Nat.beq pc 45 with | true => some (.aload_n 0, 1, 0, [], false, []) | false => none)))) | false => (match Nat.ble 37 pc with | true => (match Nat.ble 39 pc with | true => (match Nat.ble 42 pc with | true => (match Nat.beq pc 42 with | true => some (.goto (-22), 3, 20, [], false, []) | false => none) | false => (match Nat.beq pc 39 with | true => some (.iinc 1 (1), 3, 0, [], false, []) | false => none)) | false => (match Nat.ble 38 pc with | true => (match Nat.beq pc 38 with | true => some (.iastore, 1, 0, [], false, []) | false => none) | false => (match Nat.beq pc 37 with | true => some (.iaload, 1, 0, [], false, []) | false => none))) | false => (match Nat.ble 33 pc with | true => (match Nat.ble 36 pc with | true => (match Nat.beq pc 36 with | true => some (.iload_n 1, 1, 0, [], false, []) | false => none) | false => (match Nat.beq pc 33 with | true => some (.getfield 20, 3, 454, [], false, []) | false => none)) | false => (match Nat.ble 32 pc with | true => (match Nat.beq pc 32 with | true => some (.aload_n 0, 1, 0, [], false, []) | false => none) | false => (match Nat.beq pc 31 with | true => some (.iload_n 1, 1, 0, [], false, []) | false => none))))) | false => (match Nat.ble 14 pc with | true => (match Nat.ble 20 pc with | true => (match Nat.ble 24 pc with | true => (match Nat.ble 27 pc with | true => (match Nat.ble 28 pc with | true => (match Nat.beq pc 28 with | true => some (.getfield 13, 3, 450, [], false, []) | false => none) | false => (match Nat.beq pc 27 with | true => some (.aload_n 0, 1, 0, [], false, []) | false => none)) | false => (match Nat.beq pc 24 with | true => some (.if_icmp .ge (21), 3, 45, [], false, []) | false => none)) | false => (match Nat.ble 21 pc with | true => (match Nat.beq pc 21 with | true => some (.sipush (156), 3, 0, [], false, []) | false => none) | false => (match Nat.beq pc 20 with | true => some (.iload_n 1, 1, 0, [], true, []) | false => none))) | false => (match Nat.ble 18 pc with | true => (match Nat.ble 19 pc with | true => (match Nat.beq pc 19 with | true => some (.istore_n 1, 1, 0, [], false, []) | false => none) | false => (match Nat.beq pc 18 with | true => some (.iconst 0, 1, 0, [], false, []) | false => none)) | false => (match Nat.ble 17 pc with | true => (match Nat.beq pc 17 with | true => some (.ireturn, 1, 0, [], false, []) | false => none) | false => (match Nat.beq pc 14 with | true => some (.invokevirtual 92, 3, 2523153, [], false, []) | false => none)))) | false => (match Nat.ble 6 pc with | true => (match Nat.ble 12 pc with | true => (match Nat.ble 13 pc with | true => (match Nat.beq pc 13 with | true => some (.iconst 1, 1, 0, [], false, []) | false => none) | false => (match Nat.beq pc 12 with | true => some (.aload_n 0, 1, 0, [], false, []) | false => none)) | false => (match Nat.ble 9 pc with | true => (match Nat.beq pc 9 with | true => some (.ifCond .ne (9), 3, 18, [], false, []) | false => none) | false => (match Nat.beq pc 6 with | true => some (.getfield 246, 3, 463, [], false, []) | false => none))) | false => (match Nat.ble 2 pc with | true => (match Nat.ble 5 pc with | true => (match Nat.beq pc 5 with | true => some (.aload_n 0, 1, 0, [], false, []) | false => none) | false => (match Nat.beq pc 2 with | true => some (.putfield 1, 3, 448, [], false, []) | false => none)) | false => (match Nat.ble 1 pc with | true => (match Nat.beq pc 1 with | true => some (.iconst 0, 1, 0, [], false, []) | false => none) | false => (match Nat.beq pc 0 with | true => some (.aload_n 0, 1, 0, [], false, []) | false => none)))))
def call_Mo_restore (kk : Nat) : Nat → List AV → GS → Res := fun id a G => match Nat.ble 168 id with | true => (match Nat.beq id 168 with | true => A_Mo_countAll kk a G | false => none) | false => (match Nat.beq id 154 with | true => A_Mo_fails kk a G | false => none)
def bk_Mo_restore (kk k : Nat) : Kb := fun pc ls st G => match Nat.beq pc 20 with | true => (match ls, st with | [some (.inr (0, 50)), some (.inl (.int x1))], [] => (L_Mo_restore kk k) x1 G | _, _ => none) | false => none
theorem R_Mo_restore (kk : Nat) (G : GS) : ai_run T_Mo_restore (call_Mo_restore kk) (fun _ => []) 0 (bk_Mo_restore kk kk) 600 0 [some (.inr (0, 50)), none] [] G 0 = D_Mo_restore kk G := by exact rfl
theorem R_Mo_restore_20 (kk k : Nat) (x1 : Int32) (G : GS) : ai_step T_Mo_restore (call_Mo_restore kk) (fun _ => []) 0 (ai_run T_Mo_restore (call_Mo_restore kk) (fun _ => []) 0 (bk_Mo_restore kk k) 600) 20 (.iload_n 1, 1, 0, [], true, []) [some (.inr (0, 50)), some (.inl (.int x1))] [] G 0 = (L_Mo_restore kk (k + 1)) x1 G := by exact rfl
def T_Law_load : Tb := fun pc => match Nat.ble 18 pc with | true => (match Nat.ble 26 pc with | true => (match Nat.ble 30 pc with | true => (match Nat.ble 31 pc with | true => (match Nat.ble 32 pc with | true => (match Nat.beq pc 32 with | true => some (.ireturn, 1, 0, [], false, []) | false => none) | false => (match Nat.beq pc 31 with | true => some (.iconst 0, 1, 0, [], false, []) | false => none)) | false => (match Nat.beq pc 30 with | true => some (.ireturn, 1, 0, [], false, []) | false => none)) | false => (match Nat.ble 27 pc with | true => (match Nat.ble 29 pc with | true => (match Nat.beq pc 29 with | true => some (.iconst 4, 1, 0, [], false, []) | false => none) | false => (match Nat.beq pc 27 with | true => some (.astore 5, 2, 0, [], false, []) | false => none)) | false => (match Nat.beq pc 26 with | true => some (.ireturn, 1, 0, [], false, []) | false => none))) | false => (match Nat.ble 22 pc with | true => (match Nat.ble 23 pc with | true => (match Nat.ble 25 pc with | true => (match Nat.beq pc 25 with | true => some (.iconst 3, 1, 0, [], false, []) | false => none) | false => (match Nat.beq pc 23 with | true => some (.astore 5, 2, 0, [], false, []) | false => none)) | false => (match Nat.beq pc 22 with | true => some (.ireturn, 1, 0, [], false, []) | false => none)) | false => (match Nat.ble 19 pc with | true => (match Nat.ble 21 pc with | true => (match Nat.beq pc 21 with | true => some (.iconst 2, 1, 0, [], false, []) | false => none) | false => (match Nat.beq pc 19 with | true => some (.astore 5, 2, 0, [], false, []) | false => none)) | false => (match Nat.beq pc 18 with | true => some (.ireturn, 1, 0, [], false, []) | false => none)))) | false => (match Nat.ble 7 pc with | true => (match Nat.ble 12 pc with | true => (match Nat.ble 15 pc with | true => (match Nat.ble 17 pc with | true => (match Nat.beq pc 17 with | true => some (.iconst 1, 1, 0, [], false, []) | false => none) | false => (match Nat.beq pc 15 with | true => some (.astore 5, 2, 0, [], false, []) | false => none)) | false => (match Nat.beq pc 12 with | true => some (.goto (19), 3, 31, [], false, []) | false => none)) | false => (match Nat.ble 10 pc with | true => (match Nat.ble 11 pc with | true => (match Nat.beq pc 11 with | true => some (.lastore, 1, 0, [], false, []) | false => none) | false => (match Nat.beq pc 10 with | true => some (.i2l, 1, 0, [], false, []) | false => none)) | false => (match Nat.beq pc 7 with | true => some (.invokevirtual 7, 3, 1163361, [], false, []) | false => none))) | false => (match Nat.ble 4 pc with | true => (match Nat.ble 5 pc with | true => (match Nat.ble 6 pc with | true => (match Nat.beq pc 6 with | true => some (.iload_n 3, 1, 0, [], false, []) | false => none) | false => (match Nat.beq pc 5 with | true => some (.iload_n 2, 1, 0, [], false, []) | false => none)) | false => (match Nat.beq pc 4 with | true => some (.iload_n 1, 1, 0, [], false, []) | false => none)) | false => (match Nat.ble 2 pc with | true => (match Nat.ble 3 pc with | true => (match Nat.beq pc 3 with | true => some (.aload_n 0, 1, 0, [], false, []) | false => none) | false => (match Nat.beq pc 2 with | true => some (.iconst 0, 1, 0, [], false, []) | false => none)) | false => (match Nat.beq pc 0 with | true => some (.aload 4, 2, 0, [], false, []) | false => none))))
def call_Law_load (kk : Nat) : Nat → List AV → GS → Res := fun id a G => match Nat.beq id 71 with | true => A_PB_load kk a G | false => none
def hd_Law_load : Nat → Hd := fun pc => match Nat.beq pc 7 with | true => [(1, 15, 2, 5), (2, 19, 2, 5), (4, 23, 2, 5), (5, 27, 2, 5)] | false => []
def bk_Law_load (kk k : Nat) : Kb := fun _ _ _ _ => none
theorem R_Law_load (kk : Nat) (a1 : Int32) (a2 : Int32) (a3 : Int32) (G : GS) : ai_run T_Law_load (call_Law_load kk) hd_Law_load 1 (bk_Law_load kk kk) 600 0 [some (.inr (0, 0)), some (.inl (.int a1)), some (.inl (.int a2)), some (.inl (.int a3)), some (.inr (0, 18)), none] [] G 0 = D_Law_load kk a1 a2 a3 G := by exact rfl
def T_Law_unload : Tb := fun pc => match Nat.ble 15 pc with | true => (match Nat.ble 20 pc with | true => (match Nat.ble 23 pc with | true => (match Nat.ble 24 pc with | true => (match Nat.ble 25 pc with | true => (match Nat.beq pc 25 with | true => some (.ireturn, 1, 0, [], false, []) | false => none) | false => (match Nat.beq pc 24 with | true => some (.iconst 0, 1, 0, [], false, []) | false => none)) | false => (match Nat.beq pc 23 with | true => some (.ireturn, 1, 0, [], false, []) | false => none)) | false => (match Nat.ble 21 pc with | true => (match Nat.ble 22 pc with | true => (match Nat.beq pc 22 with | true => some (.iconst 4, 1, 0, [], false, []) | false => none) | false => (match Nat.beq pc 21 with | true => some (.astore_n 3, 1, 0, [], false, []) | false => none)) | false => (match Nat.beq pc 20 with | true => some (.ireturn, 1, 0, [], false, []) | false => none))) | false => (match Nat.ble 17 pc with | true => (match Nat.ble 18 pc with | true => (match Nat.ble 19 pc with | true => (match Nat.beq pc 19 with | true => some (.iconst 3, 1, 0, [], false, []) | false => none) | false => (match Nat.beq pc 18 with | true => some (.astore_n 3, 1, 0, [], false, []) | false => none)) | false => (match Nat.beq pc 17 with | true => some (.ireturn, 1, 0, [], false, []) | false => none)) | false => (match Nat.ble 16 pc with | true => (match Nat.beq pc 16 with | true => some (.iconst 2, 1, 0, [], false, []) | false => none) | false => (match Nat.beq pc 15 with | true => some (.astore_n 3, 1, 0, [], false, []) | false => none)))) | false => (match Nat.ble 7 pc with | true => (match Nat.ble 12 pc with | true => (match Nat.ble 13 pc with | true => (match Nat.ble 14 pc with | true => (match Nat.beq pc 14 with | true => some (.ireturn, 1, 0, [], false, []) | false => none) | false => (match Nat.beq pc 13 with | true => some (.iconst 1, 1, 0, [], false, []) | false => none)) | false => (match Nat.beq pc 12 with | true => some (.astore_n 3, 1, 0, [], false, []) | false => none)) | false => (match Nat.ble 8 pc with | true => (match Nat.ble 9 pc with | true => (match Nat.beq pc 9 with | true => some (.goto (15), 3, 24, [], false, []) | false => none) | false => (match Nat.beq pc 8 with | true => some (.lastore, 1, 0, [], false, []) | false => none)) | false => (match Nat.beq pc 7 with | true => some (.i2l, 1, 0, [], false, []) | false => none))) | false => (match Nat.ble 2 pc with | true => (match Nat.ble 3 pc with | true => (match Nat.ble 4 pc with | true => (match Nat.beq pc 4 with | true => some (.invokevirtual 21, 3, 1179729, [], false, []) | false => none) | false => (match Nat.beq pc 3 with | true => some (.iload_n 1, 1, 0, [], false, []) | false => none)) | false => (match Nat.beq pc 2 with | true => some (.aload_n 0, 1, 0, [], false, []) | false => none)) | false => (match Nat.ble 1 pc with | true => (match Nat.beq pc 1 with | true => some (.iconst 0, 1, 0, [], false, []) | false => none) | false => (match Nat.beq pc 0 with | true => some (.aload_n 2, 1, 0, [], false, []) | false => none))))
def call_Law_unload (kk : Nat) : Nat → List AV → GS → Res := fun id a G => match Nat.beq id 72 with | true => A_PB_unload kk a G | false => none
def hd_Law_unload : Nat → Hd := fun pc => match Nat.beq pc 4 with | true => [(1, 12, 1, 3), (3, 15, 1, 3), (4, 18, 1, 3), (5, 21, 1, 3)] | false => []
def bk_Law_unload (kk k : Nat) : Kb := fun _ _ _ _ => none
theorem R_Law_unload (kk : Nat) (a1 : Int32) (G : GS) : ai_run T_Law_unload (call_Law_unload kk) hd_Law_unload 1 (bk_Law_unload kk kk) 600 0 [some (.inr (0, 0)), some (.inl (.int a1)), some (.inr (0, 18)), none] [] G 0 = D_Law_unload kk a1 G := by exact rfl
def T_Law_shift : Tb := fun pc => match Nat.ble 19 pc with | true => (match Nat.ble 27 pc with | true => (match Nat.ble 31 pc with | true => (match Nat.ble 33 pc with | true => (match Nat.ble 34 pc with | true => (match Nat.beq pc 34 with | true => some (.ireturn, 1, 0, [], false, []) | false => none) | false => (match Nat.beq pc 33 with | true => some (.iconst 0, 1, 0, [], false, []) | false => none)) | false => (match Nat.ble 32 pc with | true => (match Nat.beq pc 32 with | true => some (.ireturn, 1, 0, [], false, []) | false => none) | false => (match Nat.beq pc 31 with | true => some (.iconst 5, 1, 0, [], false, []) | false => none))) | false => (match Nat.ble 28 pc with | true => (match Nat.ble 29 pc with | true => (match Nat.beq pc 29 with | true => some (.astore 4, 2, 0, [], false, []) | false => none) | false => (match Nat.beq pc 28 with | true => some (.ireturn, 1, 0, [], false, []) | false => none)) | false => (match Nat.beq pc 27 with | true => some (.iconst 4, 1, 0, [], false, []) | false => none))) | false => (match Nat.ble 23 pc with | true => (match Nat.ble 24 pc with | true => (match Nat.ble 25 pc with | true => (match Nat.beq pc 25 with | true => some (.astore 4, 2, 0, [], false, []) | false => none) | false => (match Nat.beq pc 24 with | true => some (.ireturn, 1, 0, [], false, []) | false => none)) | false => (match Nat.beq pc 23 with | true => some (.iconst 3, 1, 0, [], false, []) | false => none)) | false => (match Nat.ble 20 pc with | true => (match Nat.ble 21 pc with | true => (match Nat.beq pc 21 with | true => some (.astore 4, 2, 0, [], false, []) | false => none) | false => (match Nat.beq pc 20 with | true => some (.ireturn, 1, 0, [], false, []) | false => none)) | false => (match Nat.beq pc 19 with | true => some (.iconst 2, 1, 0, [], false, []) | false => none)))) | false => (match Nat.ble 8 pc with | true => (match Nat.ble 13 pc with | true => (match Nat.ble 16 pc with | true => (match Nat.ble 17 pc with | true => (match Nat.beq pc 17 with | true => some (.astore 4, 2, 0, [], false, []) | false => none) | false => (match Nat.beq pc 16 with | true => some (.ireturn, 1, 0, [], false, []) | false => none)) | false => (match Nat.ble 15 pc with | true => (match Nat.beq pc 15 with | true => some (.iconst 1, 1, 0, [], false, []) | false => none) | false => (match Nat.beq pc 13 with | true => some (.astore 4, 2, 0, [], false, []) | false => none))) | false => (match Nat.ble 9 pc with | true => (match Nat.ble 10 pc with | true => (match Nat.beq pc 10 with | true => some (.goto (23), 3, 33, [], false, []) | false => none) | false => (match Nat.beq pc 9 with | true => some (.lastore, 1, 0, [], false, []) | false => none)) | false => (match Nat.beq pc 8 with | true => some (.i2l, 1, 0, [], false, []) | false => none))) | false => (match Nat.ble 3 pc with | true => (match Nat.ble 4 pc with | true => (match Nat.ble 5 pc with | true => (match Nat.beq pc 5 with | true => some (.invokevirtual 27, 3, 1196121, [], false, []) | false => none) | false => (match Nat.beq pc 4 with | true => some (.iload_n 2, 1, 0, [], false, []) | false => none)) | false => (match Nat.beq pc 3 with | true => some (.iload_n 1, 1, 0, [], false, []) | false => none)) | false => (match Nat.ble 1 pc with | true => (match Nat.ble 2 pc with | true => (match Nat.beq pc 2 with | true => some (.aload_n 0, 1, 0, [], false, []) | false => none) | false => (match Nat.beq pc 1 with | true => some (.iconst 0, 1, 0, [], false, []) | false => none)) | false => (match Nat.beq pc 0 with | true => some (.aload_n 3, 1, 0, [], false, []) | false => none))))
def call_Law_shift (kk : Nat) : Nat → List AV → GS → Res := fun id a G => match Nat.beq id 73 with | true => A_PB_shift kk a G | false => none
def hd_Law_shift : Nat → Hd := fun pc => match Nat.beq pc 5 with | true => [(1, 13, 2, 4), (2, 17, 2, 4), (3, 21, 2, 4), (4, 25, 2, 4), (5, 29, 2, 4)] | false => []
def bk_Law_shift (kk k : Nat) : Kb := fun _ _ _ _ => none
theorem R_Law_shift (kk : Nat) (a1 : Int32) (a2 : Int32) (G : GS) : ai_run T_Law_shift (call_Law_shift kk) hd_Law_shift 1 (bk_Law_shift kk kk) 600 0 [some (.inr (0, 0)), some (.inl (.int a1)), some (.inl (.int a2)), some (.inr (0, 18)), none] [] G 0 = D_Law_shift kk a1 a2 G := by exact rfl
def T_Law_sail : Tb := fun pc => match Nat.ble 8 pc with | true => (match Nat.ble 13 pc with | true => (match Nat.ble 15 pc with | true => (match Nat.ble 16 pc with | true => (match Nat.beq pc 16 with | true => some (.ireturn, 1, 0, [], false, []) | false => none) | false => (match Nat.beq pc 15 with | true => some (.iconst 0, 1, 0, [], false, []) | false => none)) | false => (match Nat.ble 14 pc with | true => (match Nat.beq pc 14 with | true => some (.ireturn, 1, 0, [], false, []) | false => none) | false => (match Nat.beq pc 13 with | true => some (.iconst 1, 1, 0, [], false, []) | false => none))) | false => (match Nat.ble 9 pc with | true => (match Nat.ble 12 pc with | true => (match Nat.beq pc 12 with | true => some (.astore_n 3, 1, 0, [], false, []) | false => none) | false => (match Nat.beq pc 9 with | true => some (.goto (6), 3, 15, [], false, []) | false => none)) | false => (match Nat.beq pc 8 with | true => some (.lastore, 1, 0, [], false, []) | false => none))) | false => (match Nat.ble 3 pc with | true => (match Nat.ble 4 pc with | true => (match Nat.ble 7 pc with | true => (match Nat.beq pc 7 with | true => some (.i2l, 1, 0, [], false, []) | false => none) | false => (match Nat.beq pc 4 with | true => some (.invokevirtual 31, 3, 1212497, [], false, []) | false => none)) | false => (match Nat.beq pc 3 with | true => some (.iload_n 1, 1, 0, [], false, []) | false => none)) | false => (match Nat.ble 1 pc with | true => (match Nat.ble 2 pc with | true => (match Nat.beq pc 2 with | true => some (.aload_n 0, 1, 0, [], false, []) | false => none) | false => (match Nat.beq pc 1 with | true => some (.iconst 0, 1, 0, [], false, []) | false => none)) | false => (match Nat.beq pc 0 with | true => some (.aload_n 2, 1, 0, [], false, []) | false => none)))
def call_Law_sail (kk : Nat) : Nat → List AV → GS → Res := fun id a G => match Nat.beq id 74 with | true => A_PB_sail kk a G | false => none
def hd_Law_sail : Nat → Hd := fun pc => match Nat.beq pc 4 with | true => [(2, 12, 1, 3)] | false => []
def bk_Law_sail (kk k : Nat) : Kb := fun _ _ _ _ => none
theorem R_Law_sail (kk : Nat) (a1 : Int32) (G : GS) : ai_run T_Law_sail (call_Law_sail kk) hd_Law_sail 1 (bk_Law_sail kk kk) 600 0 [some (.inr (0, 0)), some (.inl (.int a1)), some (.inr (0, 18)), none] [] G 0 = D_Law_sail kk a1 G := by exact rfl
def T_Law_setLimit : Tb := fun pc => match Nat.ble 12 pc with | true => (match Nat.ble 16 pc with | true => (match Nat.ble 18 pc with | true => (match Nat.ble 19 pc with | true => (match Nat.beq pc 19 with | true => some (.ireturn, 1, 0, [], false, []) | false => none) | false => (match Nat.beq pc 18 with | true => some (.iconst 0, 1, 0, [], false, []) | false => none)) | false => (match Nat.ble 17 pc with | true => (match Nat.beq pc 17 with | true => some (.ireturn, 1, 0, [], false, []) | false => none) | false => (match Nat.beq pc 16 with | true => some (.iconst 2, 1, 0, [], false, []) | false => none))) | false => (match Nat.ble 14 pc with | true => (match Nat.ble 15 pc with | true => (match Nat.beq pc 15 with | true => some (.astore_n 3, 1, 0, [], false, []) | false => none) | false => (match Nat.beq pc 14 with | true => some (.ireturn, 1, 0, [], false, []) | false => none)) | false => (match Nat.ble 13 pc with | true => (match Nat.beq pc 13 with | true => some (.iconst 1, 1, 0, [], false, []) | false => none) | false => (match Nat.beq pc 12 with | true => some (.astore_n 3, 1, 0, [], false, []) | false => none)))) | false => (match Nat.ble 4 pc with | true => (match Nat.ble 8 pc with | true => (match Nat.ble 9 pc with | true => (match Nat.beq pc 9 with | true => some (.goto (9), 3, 18, [], false, []) | false => none) | false => (match Nat.beq pc 8 with | true => some (.lastore, 1, 0, [], false, []) | false => none)) | false => (match Nat.ble 7 pc with | true => (match Nat.beq pc 7 with | true => some (.i2l, 1, 0, [], false, []) | false => none) | false => (match Nat.beq pc 4 with | true => some (.invokevirtual 34, 3, 1245265, [], false, []) | false => none))) | false => (match Nat.ble 2 pc with | true => (match Nat.ble 3 pc with | true => (match Nat.beq pc 3 with | true => some (.iload_n 1, 1, 0, [], false, []) | false => none) | false => (match Nat.beq pc 2 with | true => some (.aload_n 0, 1, 0, [], false, []) | false => none)) | false => (match Nat.ble 1 pc with | true => (match Nat.beq pc 1 with | true => some (.iconst 0, 1, 0, [], false, []) | false => none) | false => (match Nat.beq pc 0 with | true => some (.aload_n 2, 1, 0, [], false, []) | false => none))))
def call_Law_setLimit (kk : Nat) : Nat → List AV → GS → Res := fun id a G => match Nat.beq id 76 with | true => A_PB_setLimit kk a G | false => none
def hd_Law_setLimit : Nat → Hd := fun pc => match Nat.beq pc 4 with | true => [(2, 12, 1, 3), (5, 15, 1, 3)] | false => []
def bk_Law_setLimit (kk k : Nat) : Kb := fun _ _ _ _ => none
theorem R_Law_setLimit (kk : Nat) (a1 : Int32) (G : GS) : ai_run T_Law_setLimit (call_Law_setLimit kk) hd_Law_setLimit 1 (bk_Law_setLimit kk kk) 600 0 [some (.inr (0, 0)), some (.inl (.int a1)), some (.inr (0, 18)), none] [] G 0 = D_Law_setLimit kk a1 G := by exact rfl
def T_Law_drill : Tb := fun pc => match Nat.ble 14 pc with | true => (match Nat.ble 20 pc with | true => (match Nat.ble 22 pc with | true => (match Nat.ble 23 pc with | true => (match Nat.beq pc 23 with | true => some (.ireturn, 1, 0, [], false, []) | false => none) | false => (match Nat.beq pc 22 with | true => some (.iconst 0, 1, 0, [], false, []) | false => none)) | false => (match Nat.ble 21 pc with | true => (match Nat.beq pc 21 with | true => some (.ireturn, 1, 0, [], false, []) | false => none) | false => (match Nat.beq pc 20 with | true => some (.iconst 1, 1, 0, [], false, []) | false => none))) | false => (match Nat.ble 16 pc with | true => (match Nat.ble 19 pc with | true => (match Nat.beq pc 19 with | true => some (.astore_n 3, 1, 0, [], false, []) | false => none) | false => (match Nat.beq pc 16 with | true => some (.goto (6), 3, 22, [], false, []) | false => none)) | false => (match Nat.ble 15 pc with | true => (match Nat.beq pc 15 with | true => some (.lastore, 1, 0, [], false, []) | false => none) | false => (match Nat.beq pc 14 with | true => some (.lconst 0, 1, 0, [], false, []) | false => none)))) | false => (match Nat.ble 4 pc with | true => (match Nat.ble 10 pc with | true => (match Nat.ble 11 pc with | true => (match Nat.beq pc 11 with | true => some (.goto (4), 3, 15, [], false, []) | false => none) | false => (match Nat.beq pc 10 with | true => some (.lconst 1, 1, 0, [], false, []) | false => none)) | false => (match Nat.ble 7 pc with | true => (match Nat.beq pc 7 with | true => some (.ifCond .eq (7), 3, 14, [], false, []) | false => none) | false => (match Nat.beq pc 4 with | true => some (.invokevirtual 37, 3, 1261649, [], false, []) | false => none))) | false => (match Nat.ble 2 pc with | true => (match Nat.ble 3 pc with | true => (match Nat.beq pc 3 with | true => some (.iload_n 1, 1, 0, [], false, []) | false => none) | false => (match Nat.beq pc 2 with | true => some (.aload_n 0, 1, 0, [], false, []) | false => none)) | false => (match Nat.ble 1 pc with | true => (match Nat.beq pc 1 with | true => some (.iconst 0, 1, 0, [], false, []) | false => none) | false => (match Nat.beq pc 0 with | true => some (.aload_n 2, 1, 0, [], false, []) | false => none))))
def call_Law_drill (kk : Nat) : Nat → List AV → GS → Res := fun id a G => match Nat.beq id 77 with | true => A_PB_drill kk a G | false => none
def hd_Law_drill : Nat → Hd := fun pc => match Nat.beq pc 4 with | true => [(2, 19, 1, 3)] | false => []
def bk_Law_drill (kk k : Nat) : Kb := fun _ _ _ _ => none
theorem R_Law_drill (kk : Nat) (a1 : Int32) (G : GS) : ai_run T_Law_drill (call_Law_drill kk) hd_Law_drill 1 (bk_Law_drill kk kk) 600 0 [some (.inr (0, 0)), some (.inl (.int a1)), some (.inr (0, 18)), none] [] G 0 = D_Law_drill kk a1 G := by exact rfl
def T_Law_stackHeight : Tb := fun pc => match Nat.ble 8 pc with | true => (match Nat.ble 13 pc with | true => (match Nat.ble 15 pc with | true => (match Nat.ble 16 pc with | true => (match Nat.beq pc 16 with | true => some (.ireturn, 1, 0, [], false, []) | false => none) | false => (match Nat.beq pc 15 with | true => some (.iconst 0, 1, 0, [], false, []) | false => none)) | false => (match Nat.ble 14 pc with | true => (match Nat.beq pc 14 with | true => some (.ireturn, 1, 0, [], false, []) | false => none) | false => (match Nat.beq pc 13 with | true => some (.iconst 1, 1, 0, [], false, []) | false => none))) | false => (match Nat.ble 9 pc with | true => (match Nat.ble 12 pc with | true => (match Nat.beq pc 12 with | true => some (.astore_n 3, 1, 0, [], false, []) | false => none) | false => (match Nat.beq pc 9 with | true => some (.goto (6), 3, 15, [], false, []) | false => none)) | false => (match Nat.beq pc 8 with | true => some (.lastore, 1, 0, [], false, []) | false => none))) | false => (match Nat.ble 3 pc with | true => (match Nat.ble 4 pc with | true => (match Nat.ble 7 pc with | true => (match Nat.beq pc 7 with | true => some (.i2l, 1, 0, [], false, []) | false => none) | false => (match Nat.beq pc 4 with | true => some (.invokevirtual 41, 3, 1327185, [], false, []) | false => none)) | false => (match Nat.beq pc 3 with | true => some (.iload_n 1, 1, 0, [], false, []) | false => none)) | false => (match Nat.ble 1 pc with | true => (match Nat.ble 2 pc with | true => (match Nat.beq pc 2 with | true => some (.aload_n 0, 1, 0, [], false, []) | false => none) | false => (match Nat.beq pc 1 with | true => some (.iconst 0, 1, 0, [], false, []) | false => none)) | false => (match Nat.beq pc 0 with | true => some (.aload_n 2, 1, 0, [], false, []) | false => none)))
def call_Law_stackHeight (kk : Nat) : Nat → List AV → GS → Res := fun id a G => match Nat.beq id 81 with | true => A_PB_stackHeight kk a G | false => none
def hd_Law_stackHeight : Nat → Hd := fun pc => match Nat.beq pc 4 with | true => [(1, 12, 1, 3)] | false => []
def bk_Law_stackHeight (kk k : Nat) : Kb := fun _ _ _ _ => none
theorem R_Law_stackHeight (kk : Nat) (a1 : Int32) (G : GS) : ai_run T_Law_stackHeight (call_Law_stackHeight kk) hd_Law_stackHeight 1 (bk_Law_stackHeight kk kk) 600 0 [some (.inr (0, 0)), some (.inl (.int a1)), some (.inr (0, 18)), none] [] G 0 = D_Law_stackHeight kk a1 G := by exact rfl
def T_Law_pillowAt : Tb := fun pc => match Nat.ble 10 pc with | true => (match Nat.ble 17 pc with | true => (match Nat.ble 20 pc with | true => (match Nat.ble 21 pc with | true => (match Nat.ble 22 pc with | true => (match Nat.beq pc 22 with | true => some (.ireturn, 1, 0, [], false, []) | false => none) | false => (match Nat.beq pc 21 with | true => some (.iconst 0, 1, 0, [], false, []) | false => none)) | false => (match Nat.beq pc 20 with | true => some (.ireturn, 1, 0, [], false, []) | false => none)) | false => (match Nat.ble 19 pc with | true => (match Nat.beq pc 19 with | true => some (.iconst 2, 1, 0, [], false, []) | false => none) | false => (match Nat.beq pc 17 with | true => some (.astore 4, 2, 0, [], false, []) | false => none))) | false => (match Nat.ble 15 pc with | true => (match Nat.ble 16 pc with | true => (match Nat.beq pc 16 with | true => some (.ireturn, 1, 0, [], false, []) | false => none) | false => (match Nat.beq pc 15 with | true => some (.iconst 1, 1, 0, [], false, []) | false => none)) | false => (match Nat.ble 13 pc with | true => (match Nat.beq pc 13 with | true => some (.astore 4, 2, 0, [], false, []) | false => none) | false => (match Nat.beq pc 10 with | true => some (.goto (11), 3, 21, [], false, []) | false => none)))) | false => (match Nat.ble 4 pc with | true => (match Nat.ble 8 pc with | true => (match Nat.ble 9 pc with | true => (match Nat.beq pc 9 with | true => some (.lastore, 1, 0, [], false, []) | false => none) | false => (match Nat.beq pc 8 with | true => some (.i2l, 1, 0, [], false, []) | false => none)) | false => (match Nat.ble 5 pc with | true => (match Nat.beq pc 5 with | true => some (.invokevirtual 44, 3, 1343641, [], false, []) | false => none) | false => (match Nat.beq pc 4 with | true => some (.iload_n 2, 1, 0, [], false, []) | false => none))) | false => (match Nat.ble 2 pc with | true => (match Nat.ble 3 pc with | true => (match Nat.beq pc 3 with | true => some (.iload_n 1, 1, 0, [], false, []) | false => none) | false => (match Nat.beq pc 2 with | true => some (.aload_n 0, 1, 0, [], false, []) | false => none)) | false => (match Nat.ble 1 pc with | true => (match Nat.beq pc 1 with | true => some (.iconst 0, 1, 0, [], false, []) | false => none) | false => (match Nat.beq pc 0 with | true => some (.aload_n 3, 1, 0, [], false, []) | false => none))))
def call_Law_pillowAt (kk : Nat) : Nat → List AV → GS → Res := fun id a G => match Nat.beq id 82 with | true => A_PB_pillowAt kk a G | false => none
def hd_Law_pillowAt : Nat → Hd := fun pc => match Nat.beq pc 5 with | true => [(1, 13, 2, 4), (3, 17, 2, 4)] | false => []
def bk_Law_pillowAt (kk k : Nat) : Kb := fun _ _ _ _ => none
theorem R_Law_pillowAt (kk : Nat) (a1 : Int32) (a2 : Int32) (G : GS) : ai_run T_Law_pillowAt (call_Law_pillowAt kk) hd_Law_pillowAt 2 (bk_Law_pillowAt kk kk) 600 0 [some (.inr (0, 0)), some (.inl (.int a1)), some (.inl (.int a2)), some (.inr (0, 18)), none] [] G 0 = D_Law_pillowAt kk a1 a2 G := by exact rfl
def T_Law_weightOf : Tb := fun pc => match Nat.ble 8 pc with | true => (match Nat.ble 13 pc with | true => (match Nat.ble 15 pc with | true => (match Nat.ble 16 pc with | true => (match Nat.beq pc 16 with | true => some (.ireturn, 1, 0, [], false, []) | false => none) | false => (match Nat.beq pc 15 with | true => some (.iconst 0, 1, 0, [], false, []) | false => none)) | false => (match Nat.ble 14 pc with | true => (match Nat.beq pc 14 with | true => some (.ireturn, 1, 0, [], false, []) | false => none) | false => (match Nat.beq pc 13 with | true => some (.iconst 1, 1, 0, [], false, []) | false => none))) | false => (match Nat.ble 9 pc with | true => (match Nat.ble 12 pc with | true => (match Nat.beq pc 12 with | true => some (.astore_n 3, 1, 0, [], false, []) | false => none) | false => (match Nat.beq pc 9 with | true => some (.goto (6), 3, 15, [], false, []) | false => none)) | false => (match Nat.beq pc 8 with | true => some (.lastore, 1, 0, [], false, []) | false => none))) | false => (match Nat.ble 3 pc with | true => (match Nat.ble 4 pc with | true => (match Nat.ble 7 pc with | true => (match Nat.beq pc 7 with | true => some (.i2l, 1, 0, [], false, []) | false => none) | false => (match Nat.beq pc 4 with | true => some (.invokevirtual 47, 3, 1359953, [], false, []) | false => none)) | false => (match Nat.beq pc 3 with | true => some (.iload_n 1, 1, 0, [], false, []) | false => none)) | false => (match Nat.ble 1 pc with | true => (match Nat.ble 2 pc with | true => (match Nat.beq pc 2 with | true => some (.aload_n 0, 1, 0, [], false, []) | false => none) | false => (match Nat.beq pc 1 with | true => some (.iconst 0, 1, 0, [], false, []) | false => none)) | false => (match Nat.beq pc 0 with | true => some (.aload_n 2, 1, 0, [], false, []) | false => none)))
def call_Law_weightOf (kk : Nat) : Nat → List AV → GS → Res := fun id a G => match Nat.beq id 83 with | true => A_PB_weightOf kk a G | false => none
def hd_Law_weightOf : Nat → Hd := fun pc => match Nat.beq pc 4 with | true => [(3, 12, 1, 3)] | false => []
def bk_Law_weightOf (kk k : Nat) : Kb := fun _ _ _ _ => none
theorem R_Law_weightOf (kk : Nat) (a1 : Int32) (G : GS) : ai_run T_Law_weightOf (call_Law_weightOf kk) hd_Law_weightOf 1 (bk_Law_weightOf kk kk) 600 0 [some (.inr (0, 0)), some (.inl (.int a1)), some (.inr (0, 18)), none] [] G 0 = D_Law_weightOf kk a1 G := by exact rfl
def T_Law_destinationOf : Tb := fun pc => match Nat.ble 8 pc with | true => (match Nat.ble 13 pc with | true => (match Nat.ble 15 pc with | true => (match Nat.ble 16 pc with | true => (match Nat.beq pc 16 with | true => some (.ireturn, 1, 0, [], false, []) | false => none) | false => (match Nat.beq pc 15 with | true => some (.iconst 0, 1, 0, [], false, []) | false => none)) | false => (match Nat.ble 14 pc with | true => (match Nat.beq pc 14 with | true => some (.ireturn, 1, 0, [], false, []) | false => none) | false => (match Nat.beq pc 13 with | true => some (.iconst 1, 1, 0, [], false, []) | false => none))) | false => (match Nat.ble 9 pc with | true => (match Nat.ble 12 pc with | true => (match Nat.beq pc 12 with | true => some (.astore_n 3, 1, 0, [], false, []) | false => none) | false => (match Nat.beq pc 9 with | true => some (.goto (6), 3, 15, [], false, []) | false => none)) | false => (match Nat.beq pc 8 with | true => some (.lastore, 1, 0, [], false, []) | false => none))) | false => (match Nat.ble 3 pc with | true => (match Nat.ble 4 pc with | true => (match Nat.ble 7 pc with | true => (match Nat.beq pc 7 with | true => some (.i2l, 1, 0, [], false, []) | false => none) | false => (match Nat.beq pc 4 with | true => some (.invokevirtual 50, 3, 1376337, [], false, []) | false => none)) | false => (match Nat.beq pc 3 with | true => some (.iload_n 1, 1, 0, [], false, []) | false => none)) | false => (match Nat.ble 1 pc with | true => (match Nat.ble 2 pc with | true => (match Nat.beq pc 2 with | true => some (.aload_n 0, 1, 0, [], false, []) | false => none) | false => (match Nat.beq pc 1 with | true => some (.iconst 0, 1, 0, [], false, []) | false => none)) | false => (match Nat.beq pc 0 with | true => some (.aload_n 2, 1, 0, [], false, []) | false => none)))
def call_Law_destinationOf (kk : Nat) : Nat → List AV → GS → Res := fun id a G => match Nat.beq id 84 with | true => A_PB_destinationOf kk a G | false => none
def hd_Law_destinationOf : Nat → Hd := fun pc => match Nat.beq pc 4 with | true => [(3, 12, 1, 3)] | false => []
def bk_Law_destinationOf (kk k : Nat) : Kb := fun _ _ _ _ => none
theorem R_Law_destinationOf (kk : Nat) (a1 : Int32) (G : GS) : ai_run T_Law_destinationOf (call_Law_destinationOf kk) hd_Law_destinationOf 1 (bk_Law_destinationOf kk kk) 600 0 [some (.inr (0, 0)), some (.inl (.int a1)), some (.inr (0, 18)), none] [] G 0 = D_Law_destinationOf kk a1 G := by exact rfl
def T_Law_bayOf : Tb := fun pc => match Nat.ble 8 pc with | true => (match Nat.ble 13 pc with | true => (match Nat.ble 15 pc with | true => (match Nat.ble 16 pc with | true => (match Nat.beq pc 16 with | true => some (.ireturn, 1, 0, [], false, []) | false => none) | false => (match Nat.beq pc 15 with | true => some (.iconst 0, 1, 0, [], false, []) | false => none)) | false => (match Nat.ble 14 pc with | true => (match Nat.beq pc 14 with | true => some (.ireturn, 1, 0, [], false, []) | false => none) | false => (match Nat.beq pc 13 with | true => some (.iconst 1, 1, 0, [], false, []) | false => none))) | false => (match Nat.ble 9 pc with | true => (match Nat.ble 12 pc with | true => (match Nat.beq pc 12 with | true => some (.astore_n 3, 1, 0, [], false, []) | false => none) | false => (match Nat.beq pc 9 with | true => some (.goto (6), 3, 15, [], false, []) | false => none)) | false => (match Nat.beq pc 8 with | true => some (.lastore, 1, 0, [], false, []) | false => none))) | false => (match Nat.ble 3 pc with | true => (match Nat.ble 4 pc with | true => (match Nat.ble 7 pc with | true => (match Nat.beq pc 7 with | true => some (.i2l, 1, 0, [], false, []) | false => none) | false => (match Nat.beq pc 4 with | true => some (.invokevirtual 53, 3, 1392721, [], false, []) | false => none)) | false => (match Nat.beq pc 3 with | true => some (.iload_n 1, 1, 0, [], false, []) | false => none)) | false => (match Nat.ble 1 pc with | true => (match Nat.ble 2 pc with | true => (match Nat.beq pc 2 with | true => some (.aload_n 0, 1, 0, [], false, []) | false => none) | false => (match Nat.beq pc 1 with | true => some (.iconst 0, 1, 0, [], false, []) | false => none)) | false => (match Nat.beq pc 0 with | true => some (.aload_n 2, 1, 0, [], false, []) | false => none)))
def call_Law_bayOf (kk : Nat) : Nat → List AV → GS → Res := fun id a G => match Nat.beq id 85 with | true => A_PB_bayOf kk a G | false => none
def hd_Law_bayOf : Nat → Hd := fun pc => match Nat.beq pc 4 with | true => [(3, 12, 1, 3)] | false => []
def bk_Law_bayOf (kk k : Nat) : Kb := fun _ _ _ _ => none
theorem R_Law_bayOf (kk : Nat) (a1 : Int32) (G : GS) : ai_run T_Law_bayOf (call_Law_bayOf kk) hd_Law_bayOf 1 (bk_Law_bayOf kk kk) 600 0 [some (.inr (0, 0)), some (.inl (.int a1)), some (.inr (0, 18)), none] [] G 0 = D_Law_bayOf kk a1 G := by exact rfl
def T_Law_positionOf : Tb := fun pc => match Nat.ble 8 pc with | true => (match Nat.ble 13 pc with | true => (match Nat.ble 15 pc with | true => (match Nat.ble 16 pc with | true => (match Nat.beq pc 16 with | true => some (.ireturn, 1, 0, [], false, []) | false => none) | false => (match Nat.beq pc 15 with | true => some (.iconst 0, 1, 0, [], false, []) | false => none)) | false => (match Nat.ble 14 pc with | true => (match Nat.beq pc 14 with | true => some (.ireturn, 1, 0, [], false, []) | false => none) | false => (match Nat.beq pc 13 with | true => some (.iconst 1, 1, 0, [], false, []) | false => none))) | false => (match Nat.ble 9 pc with | true => (match Nat.ble 12 pc with | true => (match Nat.beq pc 12 with | true => some (.astore_n 3, 1, 0, [], false, []) | false => none) | false => (match Nat.beq pc 9 with | true => some (.goto (6), 3, 15, [], false, []) | false => none)) | false => (match Nat.beq pc 8 with | true => some (.lastore, 1, 0, [], false, []) | false => none))) | false => (match Nat.ble 3 pc with | true => (match Nat.ble 4 pc with | true => (match Nat.ble 7 pc with | true => (match Nat.beq pc 7 with | true => some (.i2l, 1, 0, [], false, []) | false => none) | false => (match Nat.beq pc 4 with | true => some (.invokevirtual 56, 3, 1409105, [], false, []) | false => none)) | false => (match Nat.beq pc 3 with | true => some (.iload_n 1, 1, 0, [], false, []) | false => none)) | false => (match Nat.ble 1 pc with | true => (match Nat.ble 2 pc with | true => (match Nat.beq pc 2 with | true => some (.aload_n 0, 1, 0, [], false, []) | false => none) | false => (match Nat.beq pc 1 with | true => some (.iconst 0, 1, 0, [], false, []) | false => none)) | false => (match Nat.beq pc 0 with | true => some (.aload_n 2, 1, 0, [], false, []) | false => none)))
def call_Law_positionOf (kk : Nat) : Nat → List AV → GS → Res := fun id a G => match Nat.beq id 86 with | true => A_PB_positionOf kk a G | false => none
def hd_Law_positionOf : Nat → Hd := fun pc => match Nat.beq pc 4 with | true => [(3, 12, 1, 3)] | false => []
def bk_Law_positionOf (kk k : Nat) : Kb := fun _ _ _ _ => none
theorem R_Law_positionOf (kk : Nat) (a1 : Int32) (G : GS) : ai_run T_Law_positionOf (call_Law_positionOf kk) hd_Law_positionOf 1 (bk_Law_positionOf kk kk) 600 0 [some (.inr (0, 0)), some (.inl (.int a1)), some (.inr (0, 18)), none] [] G 0 = D_Law_positionOf kk a1 G := by exact rfl
def T_Law_ageOf : Tb := fun pc => match Nat.ble 8 pc with | true => (match Nat.ble 13 pc with | true => (match Nat.ble 15 pc with | true => (match Nat.ble 16 pc with | true => (match Nat.beq pc 16 with | true => some (.ireturn, 1, 0, [], false, []) | false => none) | false => (match Nat.beq pc 15 with | true => some (.iconst 0, 1, 0, [], false, []) | false => none)) | false => (match Nat.ble 14 pc with | true => (match Nat.beq pc 14 with | true => some (.ireturn, 1, 0, [], false, []) | false => none) | false => (match Nat.beq pc 13 with | true => some (.iconst 1, 1, 0, [], false, []) | false => none))) | false => (match Nat.ble 9 pc with | true => (match Nat.ble 12 pc with | true => (match Nat.beq pc 12 with | true => some (.astore_n 3, 1, 0, [], false, []) | false => none) | false => (match Nat.beq pc 9 with | true => some (.goto (6), 3, 15, [], false, []) | false => none)) | false => (match Nat.beq pc 8 with | true => some (.lastore, 1, 0, [], false, []) | false => none))) | false => (match Nat.ble 3 pc with | true => (match Nat.ble 4 pc with | true => (match Nat.ble 7 pc with | true => (match Nat.beq pc 7 with | true => some (.i2l, 1, 0, [], false, []) | false => none) | false => (match Nat.beq pc 4 with | true => some (.invokevirtual 59, 3, 1425489, [], false, []) | false => none)) | false => (match Nat.beq pc 3 with | true => some (.iload_n 1, 1, 0, [], false, []) | false => none)) | false => (match Nat.ble 1 pc with | true => (match Nat.ble 2 pc with | true => (match Nat.beq pc 2 with | true => some (.aload_n 0, 1, 0, [], false, []) | false => none) | false => (match Nat.beq pc 1 with | true => some (.iconst 0, 1, 0, [], false, []) | false => none)) | false => (match Nat.beq pc 0 with | true => some (.aload_n 2, 1, 0, [], false, []) | false => none)))
def call_Law_ageOf (kk : Nat) : Nat → List AV → GS → Res := fun id a G => match Nat.beq id 87 with | true => A_PB_ageOf kk a G | false => none
def hd_Law_ageOf : Nat → Hd := fun pc => match Nat.beq pc 4 with | true => [(3, 12, 1, 3)] | false => []
def bk_Law_ageOf (kk k : Nat) : Kb := fun _ _ _ _ => none
theorem R_Law_ageOf (kk : Nat) (a1 : Int32) (G : GS) : ai_run T_Law_ageOf (call_Law_ageOf kk) hd_Law_ageOf 1 (bk_Law_ageOf kk kk) 600 0 [some (.inr (0, 0)), some (.inl (.int a1)), some (.inr (0, 18)), none] [] G 0 = D_Law_ageOf kk a1 G := by exact rfl
def T_Law_weightFor : Tb := fun pc => match Nat.ble 8 pc with | true => (match Nat.ble 13 pc with | true => (match Nat.ble 15 pc with | true => (match Nat.ble 16 pc with | true => (match Nat.beq pc 16 with | true => some (.ireturn, 1, 0, [], false, []) | false => none) | false => (match Nat.beq pc 15 with | true => some (.iconst 0, 1, 0, [], false, []) | false => none)) | false => (match Nat.ble 14 pc with | true => (match Nat.beq pc 14 with | true => some (.ireturn, 1, 0, [], false, []) | false => none) | false => (match Nat.beq pc 13 with | true => some (.iconst 1, 1, 0, [], false, []) | false => none))) | false => (match Nat.ble 9 pc with | true => (match Nat.ble 12 pc with | true => (match Nat.beq pc 12 with | true => some (.astore_n 3, 1, 0, [], false, []) | false => none) | false => (match Nat.beq pc 9 with | true => some (.goto (6), 3, 15, [], false, []) | false => none)) | false => (match Nat.beq pc 8 with | true => some (.lastore, 1, 0, [], false, []) | false => none))) | false => (match Nat.ble 3 pc with | true => (match Nat.ble 4 pc with | true => (match Nat.ble 7 pc with | true => (match Nat.beq pc 7 with | true => some (.i2l, 1, 0, [], false, []) | false => none) | false => (match Nat.beq pc 4 with | true => some (.invokevirtual 62, 3, 1540177, [], false, []) | false => none)) | false => (match Nat.beq pc 3 with | true => some (.iload_n 1, 1, 0, [], false, []) | false => none)) | false => (match Nat.ble 1 pc with | true => (match Nat.ble 2 pc with | true => (match Nat.beq pc 2 with | true => some (.aload_n 0, 1, 0, [], false, []) | false => none) | false => (match Nat.beq pc 1 with | true => some (.iconst 0, 1, 0, [], false, []) | false => none)) | false => (match Nat.beq pc 0 with | true => some (.aload_n 2, 1, 0, [], false, []) | false => none)))
def call_Law_weightFor (kk : Nat) : Nat → List AV → GS → Res := fun id a G => match Nat.beq id 94 with | true => A_PB_weightFor kk a G | false => none
def hd_Law_weightFor : Nat → Hd := fun pc => match Nat.beq pc 4 with | true => [(1, 12, 1, 3)] | false => []
def bk_Law_weightFor (kk k : Nat) : Kb := fun _ _ _ _ => none
theorem R_Law_weightFor (kk : Nat) (a1 : Int32) (G : GS) : ai_run T_Law_weightFor (call_Law_weightFor kk) hd_Law_weightFor 1 (bk_Law_weightFor kk kk) 600 0 [some (.inr (0, 0)), some (.inl (.int a1)), some (.inr (0, 18)), none] [] G 0 = D_Law_weightFor kk a1 G := by exact rfl
def T_Law_levelingBay : Tb := fun pc => match Nat.ble 12 pc with | true => (match Nat.ble 16 pc with | true => (match Nat.ble 18 pc with | true => (match Nat.ble 19 pc with | true => (match Nat.beq pc 19 with | true => some (.ireturn, 1, 0, [], false, []) | false => none) | false => (match Nat.beq pc 18 with | true => some (.iconst 0, 1, 0, [], false, []) | false => none)) | false => (match Nat.ble 17 pc with | true => (match Nat.beq pc 17 with | true => some (.ireturn, 1, 0, [], false, []) | false => none) | false => (match Nat.beq pc 16 with | true => some (.iconst 2, 1, 0, [], false, []) | false => none))) | false => (match Nat.ble 14 pc with | true => (match Nat.ble 15 pc with | true => (match Nat.beq pc 15 with | true => some (.astore_n 3, 1, 0, [], false, []) | false => none) | false => (match Nat.beq pc 14 with | true => some (.ireturn, 1, 0, [], false, []) | false => none)) | false => (match Nat.ble 13 pc with | true => (match Nat.beq pc 13 with | true => some (.iconst 1, 1, 0, [], false, []) | false => none) | false => (match Nat.beq pc 12 with | true => some (.astore_n 3, 1, 0, [], false, []) | false => none)))) | false => (match Nat.ble 4 pc with | true => (match Nat.ble 8 pc with | true => (match Nat.ble 9 pc with | true => (match Nat.beq pc 9 with | true => some (.goto (9), 3, 18, [], false, []) | false => none) | false => (match Nat.beq pc 8 with | true => some (.lastore, 1, 0, [], false, []) | false => none)) | false => (match Nat.ble 7 pc with | true => (match Nat.beq pc 7 with | true => some (.i2l, 1, 0, [], false, []) | false => none) | false => (match Nat.beq pc 4 with | true => some (.invokevirtual 65, 3, 1605713, [], false, []) | false => none))) | false => (match Nat.ble 2 pc with | true => (match Nat.ble 3 pc with | true => (match Nat.beq pc 3 with | true => some (.iload_n 1, 1, 0, [], false, []) | false => none) | false => (match Nat.beq pc 2 with | true => some (.aload_n 0, 1, 0, [], false, []) | false => none)) | false => (match Nat.ble 1 pc with | true => (match Nat.beq pc 1 with | true => some (.iconst 0, 1, 0, [], false, []) | false => none) | false => (match Nat.beq pc 0 with | true => some (.aload_n 2, 1, 0, [], false, []) | false => none))))
def call_Law_levelingBay (kk : Nat) : Nat → List AV → GS → Res := fun id a G => match Nat.beq id 98 with | true => A_PB_levelingBay kk a G | false => none
def hd_Law_levelingBay : Nat → Hd := fun pc => match Nat.beq pc 4 with | true => [(2, 12, 1, 3), (3, 15, 1, 3)] | false => []
def bk_Law_levelingBay (kk k : Nat) : Kb := fun _ _ _ _ => none
theorem R_Law_levelingBay (kk : Nat) (a1 : Int32) (G : GS) : ai_run T_Law_levelingBay (call_Law_levelingBay kk) hd_Law_levelingBay 1 (bk_Law_levelingBay kk kk) 600 0 [some (.inr (0, 0)), some (.inl (.int a1)), some (.inr (0, 18)), none] [] G 0 = D_Law_levelingBay kk a1 G := by exact rfl
def T_Law_legsTo : Tb := fun pc => match Nat.ble 8 pc with | true => (match Nat.ble 13 pc with | true => (match Nat.ble 15 pc with | true => (match Nat.ble 16 pc with | true => (match Nat.beq pc 16 with | true => some (.ireturn, 1, 0, [], false, []) | false => none) | false => (match Nat.beq pc 15 with | true => some (.iconst 0, 1, 0, [], false, []) | false => none)) | false => (match Nat.ble 14 pc with | true => (match Nat.beq pc 14 with | true => some (.ireturn, 1, 0, [], false, []) | false => none) | false => (match Nat.beq pc 13 with | true => some (.iconst 1, 1, 0, [], false, []) | false => none))) | false => (match Nat.ble 9 pc with | true => (match Nat.ble 12 pc with | true => (match Nat.beq pc 12 with | true => some (.astore_n 3, 1, 0, [], false, []) | false => none) | false => (match Nat.beq pc 9 with | true => some (.goto (6), 3, 15, [], false, []) | false => none)) | false => (match Nat.beq pc 8 with | true => some (.lastore, 1, 0, [], false, []) | false => none))) | false => (match Nat.ble 3 pc with | true => (match Nat.ble 4 pc with | true => (match Nat.ble 7 pc with | true => (match Nat.beq pc 7 with | true => some (.i2l, 1, 0, [], false, []) | false => none) | false => (match Nat.beq pc 4 with | true => some (.invokevirtual 68, 3, 1704017, [], false, []) | false => none)) | false => (match Nat.beq pc 3 with | true => some (.iload_n 1, 1, 0, [], false, []) | false => none)) | false => (match Nat.ble 1 pc with | true => (match Nat.ble 2 pc with | true => (match Nat.beq pc 2 with | true => some (.aload_n 0, 1, 0, [], false, []) | false => none) | false => (match Nat.beq pc 1 with | true => some (.iconst 0, 1, 0, [], false, []) | false => none)) | false => (match Nat.beq pc 0 with | true => some (.aload_n 2, 1, 0, [], false, []) | false => none)))
def call_Law_legsTo (kk : Nat) : Nat → List AV → GS → Res := fun id a G => match Nat.beq id 104 with | true => A_PB_legsTo kk a G | false => none
def hd_Law_legsTo : Nat → Hd := fun pc => match Nat.beq pc 4 with | true => [(1, 12, 1, 3)] | false => []
def bk_Law_legsTo (kk k : Nat) : Kb := fun _ _ _ _ => none
theorem R_Law_legsTo (kk : Nat) (a1 : Int32) (G : GS) : ai_run T_Law_legsTo (call_Law_legsTo kk) hd_Law_legsTo 1 (bk_Law_legsTo kk kk) 600 0 [some (.inr (0, 0)), some (.inl (.int a1)), some (.inr (0, 18)), none] [] G 0 = D_Law_legsTo kk a1 G := by exact rfl
def T_Law_portAfter : Tb := fun pc => match Nat.ble 8 pc with | true => (match Nat.ble 13 pc with | true => (match Nat.ble 15 pc with | true => (match Nat.ble 16 pc with | true => (match Nat.beq pc 16 with | true => some (.ireturn, 1, 0, [], false, []) | false => none) | false => (match Nat.beq pc 15 with | true => some (.iconst 0, 1, 0, [], false, []) | false => none)) | false => (match Nat.ble 14 pc with | true => (match Nat.beq pc 14 with | true => some (.ireturn, 1, 0, [], false, []) | false => none) | false => (match Nat.beq pc 13 with | true => some (.iconst 1, 1, 0, [], false, []) | false => none))) | false => (match Nat.ble 9 pc with | true => (match Nat.ble 12 pc with | true => (match Nat.beq pc 12 with | true => some (.astore_n 3, 1, 0, [], false, []) | false => none) | false => (match Nat.beq pc 9 with | true => some (.goto (6), 3, 15, [], false, []) | false => none)) | false => (match Nat.beq pc 8 with | true => some (.lastore, 1, 0, [], false, []) | false => none))) | false => (match Nat.ble 3 pc with | true => (match Nat.ble 4 pc with | true => (match Nat.ble 7 pc with | true => (match Nat.beq pc 7 with | true => some (.i2l, 1, 0, [], false, []) | false => none) | false => (match Nat.beq pc 4 with | true => some (.invokevirtual 71, 3, 1720401, [], false, []) | false => none)) | false => (match Nat.beq pc 3 with | true => some (.iload_n 1, 1, 0, [], false, []) | false => none)) | false => (match Nat.ble 1 pc with | true => (match Nat.ble 2 pc with | true => (match Nat.beq pc 2 with | true => some (.aload_n 0, 1, 0, [], false, []) | false => none) | false => (match Nat.beq pc 1 with | true => some (.iconst 0, 1, 0, [], false, []) | false => none)) | false => (match Nat.beq pc 0 with | true => some (.aload_n 2, 1, 0, [], false, []) | false => none)))
def call_Law_portAfter (kk : Nat) : Nat → List AV → GS → Res := fun id a G => match Nat.beq id 105 with | true => A_PB_portAfter kk a G | false => none
def hd_Law_portAfter : Nat → Hd := fun pc => match Nat.beq pc 4 with | true => [(2, 12, 1, 3)] | false => []
def bk_Law_portAfter (kk k : Nat) : Kb := fun _ _ _ _ => none
theorem R_Law_portAfter (kk : Nat) (a1 : Int32) (G : GS) : ai_run T_Law_portAfter (call_Law_portAfter kk) hd_Law_portAfter 1 (bk_Law_portAfter kk kk) 600 0 [some (.inr (0, 0)), some (.inl (.int a1)), some (.inr (0, 18)), none] [] G 0 = D_Law_portAfter kk a1 G := by exact rfl
def T_Law_pillowsInTheWay : Tb := fun pc => match Nat.ble 8 pc with | true => (match Nat.ble 13 pc with | true => (match Nat.ble 15 pc with | true => (match Nat.ble 16 pc with | true => (match Nat.beq pc 16 with | true => some (.ireturn, 1, 0, [], false, []) | false => none) | false => (match Nat.beq pc 15 with | true => some (.iconst 0, 1, 0, [], false, []) | false => none)) | false => (match Nat.ble 14 pc with | true => (match Nat.beq pc 14 with | true => some (.ireturn, 1, 0, [], false, []) | false => none) | false => (match Nat.beq pc 13 with | true => some (.iconst 1, 1, 0, [], false, []) | false => none))) | false => (match Nat.ble 9 pc with | true => (match Nat.ble 12 pc with | true => (match Nat.beq pc 12 with | true => some (.astore_n 3, 1, 0, [], false, []) | false => none) | false => (match Nat.beq pc 9 with | true => some (.goto (6), 3, 15, [], false, []) | false => none)) | false => (match Nat.beq pc 8 with | true => some (.lastore, 1, 0, [], false, []) | false => none))) | false => (match Nat.ble 3 pc with | true => (match Nat.ble 4 pc with | true => (match Nat.ble 7 pc with | true => (match Nat.beq pc 7 with | true => some (.i2l, 1, 0, [], false, []) | false => none) | false => (match Nat.beq pc 4 with | true => some (.invokevirtual 74, 3, 1753169, [], false, []) | false => none)) | false => (match Nat.beq pc 3 with | true => some (.iload_n 1, 1, 0, [], false, []) | false => none)) | false => (match Nat.ble 1 pc with | true => (match Nat.ble 2 pc with | true => (match Nat.beq pc 2 with | true => some (.aload_n 0, 1, 0, [], false, []) | false => none) | false => (match Nat.beq pc 1 with | true => some (.iconst 0, 1, 0, [], false, []) | false => none)) | false => (match Nat.beq pc 0 with | true => some (.aload_n 2, 1, 0, [], false, []) | false => none)))
def call_Law_pillowsInTheWay (kk : Nat) : Nat → List AV → GS → Res := fun id a G => match Nat.beq id 107 with | true => A_PB_pillowsInTheWay kk a G | false => none
def hd_Law_pillowsInTheWay : Nat → Hd := fun pc => match Nat.beq pc 4 with | true => [(3, 12, 1, 3)] | false => []
def bk_Law_pillowsInTheWay (kk k : Nat) : Kb := fun _ _ _ _ => none
theorem R_Law_pillowsInTheWay (kk : Nat) (a1 : Int32) (G : GS) : ai_run T_Law_pillowsInTheWay (call_Law_pillowsInTheWay kk) hd_Law_pillowsInTheWay 1 (bk_Law_pillowsInTheWay kk kk) 600 0 [some (.inr (0, 0)), some (.inl (.int a1)), some (.inr (0, 18)), none] [] G 0 = D_Law_pillowsInTheWay kk a1 G := by exact rfl
def T_Law_oldestIn : Tb := fun pc => match Nat.ble 12 pc with | true => (match Nat.ble 16 pc with | true => (match Nat.ble 18 pc with | true => (match Nat.ble 19 pc with | true => (match Nat.beq pc 19 with | true => some (.ireturn, 1, 0, [], false, []) | false => none) | false => (match Nat.beq pc 18 with | true => some (.iconst 0, 1, 0, [], false, []) | false => none)) | false => (match Nat.ble 17 pc with | true => (match Nat.beq pc 17 with | true => some (.ireturn, 1, 0, [], false, []) | false => none) | false => (match Nat.beq pc 16 with | true => some (.iconst 2, 1, 0, [], false, []) | false => none))) | false => (match Nat.ble 14 pc with | true => (match Nat.ble 15 pc with | true => (match Nat.beq pc 15 with | true => some (.astore_n 3, 1, 0, [], false, []) | false => none) | false => (match Nat.beq pc 14 with | true => some (.ireturn, 1, 0, [], false, []) | false => none)) | false => (match Nat.ble 13 pc with | true => (match Nat.beq pc 13 with | true => some (.iconst 1, 1, 0, [], false, []) | false => none) | false => (match Nat.beq pc 12 with | true => some (.astore_n 3, 1, 0, [], false, []) | false => none)))) | false => (match Nat.ble 4 pc with | true => (match Nat.ble 8 pc with | true => (match Nat.ble 9 pc with | true => (match Nat.beq pc 9 with | true => some (.goto (9), 3, 18, [], false, []) | false => none) | false => (match Nat.beq pc 8 with | true => some (.lastore, 1, 0, [], false, []) | false => none)) | false => (match Nat.ble 7 pc with | true => (match Nat.beq pc 7 with | true => some (.i2l, 1, 0, [], false, []) | false => none) | false => (match Nat.beq pc 4 with | true => some (.invokevirtual 77, 3, 1441937, [], false, []) | false => none))) | false => (match Nat.ble 2 pc with | true => (match Nat.ble 3 pc with | true => (match Nat.beq pc 3 with | true => some (.iload_n 1, 1, 0, [], false, []) | false => none) | false => (match Nat.beq pc 2 with | true => some (.aload_n 0, 1, 0, [], false, []) | false => none)) | false => (match Nat.ble 1 pc with | true => (match Nat.beq pc 1 with | true => some (.iconst 0, 1, 0, [], false, []) | false => none) | false => (match Nat.beq pc 0 with | true => some (.aload_n 2, 1, 0, [], false, []) | false => none))))
def call_Law_oldestIn (kk : Nat) : Nat → List AV → GS → Res := fun id a G => match Nat.beq id 88 with | true => A_PB_oldestIn kk a G | false => none
def hd_Law_oldestIn : Nat → Hd := fun pc => match Nat.beq pc 4 with | true => [(1, 12, 1, 3), (3, 15, 1, 3)] | false => []
def bk_Law_oldestIn (kk k : Nat) : Kb := fun _ _ _ _ => none
theorem R_Law_oldestIn (kk : Nat) (a1 : Int32) (G : GS) : ai_run T_Law_oldestIn (call_Law_oldestIn kk) hd_Law_oldestIn 2 (bk_Law_oldestIn kk kk) 600 0 [some (.inr (0, 0)), some (.inl (.int a1)), some (.inr (0, 18)), none] [] G 0 = D_Law_oldestIn kk a1 G := by exact rfl
def T_Law_heaviestPort : Tb := fun pc => match Nat.ble 8 pc with | true => (match Nat.ble 13 pc with | true => (match Nat.ble 14 pc with | true => (match Nat.ble 15 pc with | true => (match Nat.beq pc 15 with | true => some (.ireturn, 1, 0, [], false, []) | false => none) | false => (match Nat.beq pc 14 with | true => some (.iconst 0, 1, 0, [], false, []) | false => none)) | false => (match Nat.beq pc 13 with | true => some (.ireturn, 1, 0, [], false, []) | false => none)) | false => (match Nat.ble 11 pc with | true => (match Nat.ble 12 pc with | true => (match Nat.beq pc 12 with | true => some (.iconst 1, 1, 0, [], false, []) | false => none) | false => (match Nat.beq pc 11 with | true => some (.astore_n 2, 1, 0, [], false, []) | false => none)) | false => (match Nat.beq pc 8 with | true => some (.goto (6), 3, 14, [], false, []) | false => none))) | false => (match Nat.ble 3 pc with | true => (match Nat.ble 6 pc with | true => (match Nat.ble 7 pc with | true => (match Nat.beq pc 7 with | true => some (.lastore, 1, 0, [], false, []) | false => none) | false => (match Nat.beq pc 6 with | true => some (.i2l, 1, 0, [], false, []) | false => none)) | false => (match Nat.beq pc 3 with | true => some (.invokevirtual 80, 3, 1737289, [], false, []) | false => none)) | false => (match Nat.ble 1 pc with | true => (match Nat.ble 2 pc with | true => (match Nat.beq pc 2 with | true => some (.aload_n 0, 1, 0, [], false, []) | false => none) | false => (match Nat.beq pc 1 with | true => some (.iconst 0, 1, 0, [], false, []) | false => none)) | false => (match Nat.beq pc 0 with | true => some (.aload_n 1, 1, 0, [], false, []) | false => none)))
def call_Law_heaviestPort (kk : Nat) : Nat → List AV → GS → Res := fun id a G => match Nat.beq id 106 with | true => A_PB_heaviestPort kk a G | false => none
def hd_Law_heaviestPort : Nat → Hd := fun pc => match Nat.beq pc 3 with | true => [(3, 11, 1, 2)] | false => []
def bk_Law_heaviestPort (kk k : Nat) : Kb := fun _ _ _ _ => none
theorem R_Law_heaviestPort (kk : Nat) (G : GS) : ai_run T_Law_heaviestPort (call_Law_heaviestPort kk) hd_Law_heaviestPort 9 (bk_Law_heaviestPort kk kk) 600 0 [some (.inr (0, 0)), some (.inr (0, 18)), none] [] G 0 = D_Law_heaviestPort kk G := by exact rfl
def T_Law_pillowByTurn : Tb := fun pc => match Nat.ble 8 pc with | true => (match Nat.ble 13 pc with | true => (match Nat.ble 15 pc with | true => (match Nat.ble 16 pc with | true => (match Nat.beq pc 16 with | true => some (.ireturn, 1, 0, [], false, []) | false => none) | false => (match Nat.beq pc 15 with | true => some (.iconst 0, 1, 0, [], false, []) | false => none)) | false => (match Nat.ble 14 pc with | true => (match Nat.beq pc 14 with | true => some (.ireturn, 1, 0, [], false, []) | false => none) | false => (match Nat.beq pc 13 with | true => some (.iconst 1, 1, 0, [], false, []) | false => none))) | false => (match Nat.ble 9 pc with | true => (match Nat.ble 12 pc with | true => (match Nat.beq pc 12 with | true => some (.astore_n 3, 1, 0, [], false, []) | false => none) | false => (match Nat.beq pc 9 with | true => some (.goto (6), 3, 15, [], false, []) | false => none)) | false => (match Nat.beq pc 8 with | true => some (.lastore, 1, 0, [], false, []) | false => none))) | false => (match Nat.ble 3 pc with | true => (match Nat.ble 4 pc with | true => (match Nat.ble 7 pc with | true => (match Nat.beq pc 7 with | true => some (.i2l, 1, 0, [], false, []) | false => none) | false => (match Nat.beq pc 4 with | true => some (.invokevirtual 84, 3, 1919569, [], false, []) | false => none)) | false => (match Nat.beq pc 3 with | true => some (.iload_n 1, 1, 0, [], false, []) | false => none)) | false => (match Nat.ble 1 pc with | true => (match Nat.ble 2 pc with | true => (match Nat.beq pc 2 with | true => some (.aload_n 0, 1, 0, [], false, []) | false => none) | false => (match Nat.beq pc 1 with | true => some (.iconst 0, 1, 0, [], false, []) | false => none)) | false => (match Nat.beq pc 0 with | true => some (.aload_n 2, 1, 0, [], false, []) | false => none)))
def call_Law_pillowByTurn (kk : Nat) : Nat → List AV → GS → Res := fun id a G => match Nat.beq id 117 with | true => A_PB_pillowByTurn kk a G | false => none
def hd_Law_pillowByTurn : Nat → Hd := fun pc => match Nat.beq pc 4 with | true => [(3, 12, 1, 3)] | false => []
def bk_Law_pillowByTurn (kk k : Nat) : Kb := fun _ _ _ _ => none
theorem R_Law_pillowByTurn (kk : Nat) (a1 : Int32) (G : GS) : ai_run T_Law_pillowByTurn (call_Law_pillowByTurn kk) hd_Law_pillowByTurn 41 (bk_Law_pillowByTurn kk kk) 600 0 [some (.inr (0, 0)), some (.inl (.int a1)), some (.inr (0, 18)), none] [] G 0 = D_Law_pillowByTurn kk a1 G := by exact rfl
def T_Law_bayByWeight : Tb := fun pc => match Nat.ble 8 pc with | true => (match Nat.ble 13 pc with | true => (match Nat.ble 15 pc with | true => (match Nat.ble 16 pc with | true => (match Nat.beq pc 16 with | true => some (.ireturn, 1, 0, [], false, []) | false => none) | false => (match Nat.beq pc 15 with | true => some (.iconst 0, 1, 0, [], false, []) | false => none)) | false => (match Nat.ble 14 pc with | true => (match Nat.beq pc 14 with | true => some (.ireturn, 1, 0, [], false, []) | false => none) | false => (match Nat.beq pc 13 with | true => some (.iconst 1, 1, 0, [], false, []) | false => none))) | false => (match Nat.ble 9 pc with | true => (match Nat.ble 12 pc with | true => (match Nat.beq pc 12 with | true => some (.astore_n 3, 1, 0, [], false, []) | false => none) | false => (match Nat.beq pc 9 with | true => some (.goto (6), 3, 15, [], false, []) | false => none)) | false => (match Nat.beq pc 8 with | true => some (.lastore, 1, 0, [], false, []) | false => none))) | false => (match Nat.ble 3 pc with | true => (match Nat.ble 4 pc with | true => (match Nat.ble 7 pc with | true => (match Nat.beq pc 7 with | true => some (.i2l, 1, 0, [], false, []) | false => none) | false => (match Nat.beq pc 4 with | true => some (.invokevirtual 87, 3, 1966801, [], false, []) | false => none)) | false => (match Nat.beq pc 3 with | true => some (.iload_n 1, 1, 0, [], false, []) | false => none)) | false => (match Nat.ble 1 pc with | true => (match Nat.ble 2 pc with | true => (match Nat.beq pc 2 with | true => some (.aload_n 0, 1, 0, [], false, []) | false => none) | false => (match Nat.beq pc 1 with | true => some (.iconst 0, 1, 0, [], false, []) | false => none)) | false => (match Nat.beq pc 0 with | true => some (.aload_n 2, 1, 0, [], false, []) | false => none)))
def call_Law_bayByWeight (kk : Nat) : Nat → List AV → GS → Res := fun id a G => match Nat.beq id 120 with | true => A_PB_bayByWeight kk a G | false => none
def hd_Law_bayByWeight : Nat → Hd := fun pc => match Nat.beq pc 4 with | true => [(3, 12, 1, 3)] | false => []
def bk_Law_bayByWeight (kk k : Nat) : Kb := fun _ _ _ _ => none
theorem R_Law_bayByWeight (kk : Nat) (a1 : Int32) (G : GS) : ai_run T_Law_bayByWeight (call_Law_bayByWeight kk) hd_Law_bayByWeight 11 (bk_Law_bayByWeight kk kk) 600 0 [some (.inr (0, 0)), some (.inl (.int a1)), some (.inr (0, 18)), none] [] G 0 = D_Law_bayByWeight kk a1 G := by exact rfl
def T_Law_meanAge : Tb := fun pc => match Nat.ble 7 pc with | true => (match Nat.ble 12 pc with | true => (match Nat.ble 13 pc with | true => (match Nat.ble 14 pc with | true => (match Nat.beq pc 14 with | true => some (.ireturn, 1, 0, [], false, []) | false => none) | false => (match Nat.beq pc 13 with | true => some (.iconst 0, 1, 0, [], false, []) | false => none)) | false => (match Nat.beq pc 12 with | true => some (.ireturn, 1, 0, [], false, []) | false => none)) | false => (match Nat.ble 10 pc with | true => (match Nat.ble 11 pc with | true => (match Nat.beq pc 11 with | true => some (.iconst 1, 1, 0, [], false, []) | false => none) | false => (match Nat.beq pc 10 with | true => some (.astore_n 2, 1, 0, [], false, []) | false => none)) | false => (match Nat.beq pc 7 with | true => some (.goto (6), 3, 13, [], false, []) | false => none))) | false => (match Nat.ble 2 pc with | true => (match Nat.ble 3 pc with | true => (match Nat.ble 6 pc with | true => (match Nat.beq pc 6 with | true => some (.dastore, 1, 0, [], false, []) | false => none) | false => (match Nat.beq pc 3 with | true => some (.invokevirtual 90, 3, 2080843, [], false, []) | false => none)) | false => (match Nat.beq pc 2 with | true => some (.aload_n 0, 1, 0, [], false, []) | false => none)) | false => (match Nat.ble 1 pc with | true => (match Nat.beq pc 1 with | true => some (.iconst 0, 1, 0, [], false, []) | false => none) | false => (match Nat.beq pc 0 with | true => some (.aload_n 1, 1, 0, [], false, []) | false => none)))
def call_Law_meanAge (kk : Nat) : Nat → List AV → GS → Res := fun id a G => match Nat.beq id 127 with | true => A_PB_meanAge kk a G | false => none
def hd_Law_meanAge : Nat → Hd := fun pc => match Nat.beq pc 3 with | true => [(6, 10, 1, 2)] | false => []
def bk_Law_meanAge (kk k : Nat) : Kb := fun _ _ _ _ => none
theorem R_Law_meanAge (kk : Nat) (G : GS) : ai_run T_Law_meanAge (call_Law_meanAge kk) hd_Law_meanAge 1 (bk_Law_meanAge kk kk) 600 0 [some (.inr (0, 0)), some (.inr (0, 19)), none] [] G 0 = D_Law_meanAge kk G := by exact rfl
def T_Law_capsizedShare : Tb := fun pc => match Nat.ble 8 pc with | true => (match Nat.ble 13 pc with | true => (match Nat.ble 14 pc with | true => (match Nat.ble 15 pc with | true => (match Nat.beq pc 15 with | true => some (.ireturn, 1, 0, [], false, []) | false => none) | false => (match Nat.beq pc 14 with | true => some (.iconst 0, 1, 0, [], false, []) | false => none)) | false => (match Nat.beq pc 13 with | true => some (.ireturn, 1, 0, [], false, []) | false => none)) | false => (match Nat.ble 11 pc with | true => (match Nat.ble 12 pc with | true => (match Nat.beq pc 12 with | true => some (.iconst 1, 1, 0, [], false, []) | false => none) | false => (match Nat.beq pc 11 with | true => some (.astore_n 2, 1, 0, [], false, []) | false => none)) | false => (match Nat.beq pc 8 with | true => some (.goto (6), 3, 14, [], false, []) | false => none))) | false => (match Nat.ble 3 pc with | true => (match Nat.ble 6 pc with | true => (match Nat.ble 7 pc with | true => (match Nat.beq pc 7 with | true => some (.dastore, 1, 0, [], false, []) | false => none) | false => (match Nat.beq pc 6 with | true => some (.f2d, 1, 0, [], false, []) | false => none)) | false => (match Nat.beq pc 3 with | true => some (.invokevirtual 96, 3, 2113610, [], false, []) | false => none)) | false => (match Nat.ble 1 pc with | true => (match Nat.ble 2 pc with | true => (match Nat.beq pc 2 with | true => some (.aload_n 0, 1, 0, [], false, []) | false => none) | false => (match Nat.beq pc 1 with | true => some (.iconst 0, 1, 0, [], false, []) | false => none)) | false => (match Nat.beq pc 0 with | true => some (.aload_n 1, 1, 0, [], false, []) | false => none)))
def call_Law_capsizedShare (kk : Nat) : Nat → List AV → GS → Res := fun id a G => match Nat.beq id 129 with | true => A_PB_capsizedShare kk a G | false => none
def hd_Law_capsizedShare : Nat → Hd := fun pc => match Nat.beq pc 3 with | true => [(6, 11, 1, 2)] | false => []
def bk_Law_capsizedShare (kk k : Nat) : Kb := fun _ _ _ _ => none
theorem R_Law_capsizedShare (kk : Nat) (G : GS) : ai_run T_Law_capsizedShare (call_Law_capsizedShare kk) hd_Law_capsizedShare 1 (bk_Law_capsizedShare kk kk) 600 0 [some (.inr (0, 0)), some (.inr (0, 19)), none] [] G 0 = D_Law_capsizedShare kk G := by exact rfl
def T_Law_renderStack : Tb := fun pc => match Nat.ble 8 pc with | true => (match Nat.ble 13 pc with | true => (match Nat.ble 15 pc with | true => (match Nat.ble 16 pc with | true => (match Nat.beq pc 16 with | true => some (.ireturn, 1, 0, [], false, []) | false => none) | false => (match Nat.beq pc 15 with | true => some (.iconst 0, 1, 0, [], false, []) | false => none)) | false => (match Nat.ble 14 pc with | true => (match Nat.beq pc 14 with | true => some (.ireturn, 1, 0, [], false, []) | false => none) | false => (match Nat.beq pc 13 with | true => some (.iconst 1, 1, 0, [], false, []) | false => none))) | false => (match Nat.ble 9 pc with | true => (match Nat.ble 12 pc with | true => (match Nat.beq pc 12 with | true => some (.astore_n 3, 1, 0, [], false, []) | false => none) | false => (match Nat.beq pc 9 with | true => some (.goto (6), 3, 15, [], false, []) | false => none)) | false => (match Nat.beq pc 8 with | true => some (.lastore, 1, 0, [], false, []) | false => none))) | false => (match Nat.ble 3 pc with | true => (match Nat.ble 4 pc with | true => (match Nat.ble 7 pc with | true => (match Nat.beq pc 7 with | true => some (.i2l, 1, 0, [], false, []) | false => none) | false => (match Nat.beq pc 4 with | true => some (.invokevirtual 100, 3, 2152081, [], false, []) | false => none)) | false => (match Nat.beq pc 3 with | true => some (.iload_n 1, 1, 0, [], false, []) | false => none)) | false => (match Nat.ble 1 pc with | true => (match Nat.ble 2 pc with | true => (match Nat.beq pc 2 with | true => some (.aload_n 0, 1, 0, [], false, []) | false => none) | false => (match Nat.beq pc 1 with | true => some (.iconst 0, 1, 0, [], false, []) | false => none)) | false => (match Nat.beq pc 0 with | true => some (.aload_n 2, 1, 0, [], false, []) | false => none)))
def call_Law_renderStack (kk : Nat) : Nat → List AV → GS → Res := fun id a G => match Nat.beq id 131 with | true => A_PB_renderStack kk a G | false => none
def hd_Law_renderStack : Nat → Hd := fun pc => match Nat.beq pc 4 with | true => [(1, 12, 1, 3)] | false => []
def bk_Law_renderStack (kk k : Nat) : Kb := fun _ _ _ _ => none
theorem R_Law_renderStack (kk : Nat) (a1 : Int32) (G : GS) : ai_run T_Law_renderStack (call_Law_renderStack kk) hd_Law_renderStack 90 (bk_Law_renderStack kk kk) 600 0 [some (.inr (0, 0)), some (.inl (.int a1)), some (.inr (0, 18)), none] [] G 0 = D_Law_renderStack kk a1 G := by exact rfl
def T_Law_outputAt : Tb := fun pc => match Nat.ble 8 pc with | true => (match Nat.ble 13 pc with | true => (match Nat.ble 15 pc with | true => (match Nat.ble 16 pc with | true => (match Nat.beq pc 16 with | true => some (.ireturn, 1, 0, [], false, []) | false => none) | false => (match Nat.beq pc 15 with | true => some (.iconst 0, 1, 0, [], false, []) | false => none)) | false => (match Nat.ble 14 pc with | true => (match Nat.beq pc 14 with | true => some (.ireturn, 1, 0, [], false, []) | false => none) | false => (match Nat.beq pc 13 with | true => some (.iconst 1, 1, 0, [], false, []) | false => none))) | false => (match Nat.ble 9 pc with | true => (match Nat.ble 12 pc with | true => (match Nat.beq pc 12 with | true => some (.astore_n 3, 1, 0, [], false, []) | false => none) | false => (match Nat.beq pc 9 with | true => some (.goto (6), 3, 15, [], false, []) | false => none)) | false => (match Nat.beq pc 8 with | true => some (.lastore, 1, 0, [], false, []) | false => none))) | false => (match Nat.ble 3 pc with | true => (match Nat.ble 4 pc with | true => (match Nat.ble 7 pc with | true => (match Nat.beq pc 7 with | true => some (.i2l, 1, 0, [], false, []) | false => none) | false => (match Nat.beq pc 4 with | true => some (.invokevirtual 103, 3, 2211921, [], false, []) | false => none)) | false => (match Nat.beq pc 3 with | true => some (.iload_n 1, 1, 0, [], false, []) | false => none)) | false => (match Nat.ble 1 pc with | true => (match Nat.ble 2 pc with | true => (match Nat.beq pc 2 with | true => some (.aload_n 0, 1, 0, [], false, []) | false => none) | false => (match Nat.beq pc 1 with | true => some (.iconst 0, 1, 0, [], false, []) | false => none)) | false => (match Nat.beq pc 0 with | true => some (.aload_n 2, 1, 0, [], false, []) | false => none)))
def call_Law_outputAt (kk : Nat) : Nat → List AV → GS → Res := fun id a G => match Nat.beq id 135 with | true => A_PB_outputAt kk a G | false => none
def hd_Law_outputAt : Nat → Hd := fun pc => match Nat.beq pc 4 with | true => [(1, 12, 1, 3)] | false => []
def bk_Law_outputAt (kk k : Nat) : Kb := fun _ _ _ _ => none
theorem R_Law_outputAt (kk : Nat) (a1 : Int32) (G : GS) : ai_run T_Law_outputAt (call_Law_outputAt kk) hd_Law_outputAt 1 (bk_Law_outputAt kk kk) 600 0 [some (.inr (0, 0)), some (.inl (.int a1)), some (.inr (0, 18)), none] [] G 0 = D_Law_outputAt kk a1 G := by exact rfl
def T_Law_type : Tb := fun pc => match Nat.ble 12 pc with | true => (match Nat.ble 16 pc with | true => (match Nat.ble 18 pc with | true => (match Nat.ble 19 pc with | true => (match Nat.beq pc 19 with | true => some (.ireturn, 1, 0, [], false, []) | false => none) | false => (match Nat.beq pc 18 with | true => some (.iconst 0, 1, 0, [], false, []) | false => none)) | false => (match Nat.ble 17 pc with | true => (match Nat.beq pc 17 with | true => some (.ireturn, 1, 0, [], false, []) | false => none) | false => (match Nat.beq pc 16 with | true => some (.iconst 2, 1, 0, [], false, []) | false => none))) | false => (match Nat.ble 14 pc with | true => (match Nat.ble 15 pc with | true => (match Nat.beq pc 15 with | true => some (.astore_n 3, 1, 0, [], false, []) | false => none) | false => (match Nat.beq pc 14 with | true => some (.ireturn, 1, 0, [], false, []) | false => none)) | false => (match Nat.ble 13 pc with | true => (match Nat.beq pc 13 with | true => some (.iconst 1, 1, 0, [], false, []) | false => none) | false => (match Nat.beq pc 12 with | true => some (.astore_n 3, 1, 0, [], false, []) | false => none)))) | false => (match Nat.ble 4 pc with | true => (match Nat.ble 8 pc with | true => (match Nat.ble 9 pc with | true => (match Nat.beq pc 9 with | true => some (.goto (9), 3, 18, [], false, []) | false => none) | false => (match Nat.beq pc 8 with | true => some (.lastore, 1, 0, [], false, []) | false => none)) | false => (match Nat.ble 7 pc with | true => (match Nat.beq pc 7 with | true => some (.i2l, 1, 0, [], false, []) | false => none) | false => (match Nat.beq pc 4 with | true => some (.invokevirtual 107, 3, 2228305, [], false, []) | false => none))) | false => (match Nat.ble 2 pc with | true => (match Nat.ble 3 pc with | true => (match Nat.beq pc 3 with | true => some (.iload_n 1, 1, 0, [], false, []) | false => none) | false => (match Nat.beq pc 2 with | true => some (.aload_n 0, 1, 0, [], false, []) | false => none)) | false => (match Nat.ble 1 pc with | true => (match Nat.beq pc 1 with | true => some (.iconst 0, 1, 0, [], false, []) | false => none) | false => (match Nat.beq pc 0 with | true => some (.aload_n 2, 1, 0, [], false, []) | false => none))))
def call_Law_type (kk : Nat) : Nat → List AV → GS → Res := fun id a G => match Nat.beq id 136 with | true => A_PB_type kk a G | false => none
def hd_Law_type : Nat → Hd := fun pc => match Nat.beq pc 4 with | true => [(2, 12, 1, 3), (4, 15, 1, 3)] | false => []
def bk_Law_type (kk k : Nat) : Kb := fun _ _ _ _ => none
theorem R_Law_type (kk : Nat) (a1 : Int32) (G : GS) : ai_run T_Law_type (call_Law_type kk) hd_Law_type 1 (bk_Law_type kk kk) 600 0 [some (.inr (0, 0)), some (.inl (.int a1)), some (.inr (0, 18)), none] [] G 0 = D_Law_type kk a1 G := by exact rfl
def T_Law_runScript : Tb := fun pc => match Nat.ble 11 pc with | true => (match Nat.ble 15 pc with | true => (match Nat.ble 17 pc with | true => (match Nat.ble 18 pc with | true => (match Nat.beq pc 18 with | true => some (.ireturn, 1, 0, [], false, []) | false => none) | false => (match Nat.beq pc 17 with | true => some (.iconst 0, 1, 0, [], false, []) | false => none)) | false => (match Nat.ble 16 pc with | true => (match Nat.beq pc 16 with | true => some (.ireturn, 1, 0, [], false, []) | false => none) | false => (match Nat.beq pc 15 with | true => some (.iconst 2, 1, 0, [], false, []) | false => none))) | false => (match Nat.ble 13 pc with | true => (match Nat.ble 14 pc with | true => (match Nat.beq pc 14 with | true => some (.astore_n 2, 1, 0, [], false, []) | false => none) | false => (match Nat.beq pc 13 with | true => some (.ireturn, 1, 0, [], false, []) | false => none)) | false => (match Nat.ble 12 pc with | true => (match Nat.beq pc 12 with | true => some (.iconst 1, 1, 0, [], false, []) | false => none) | false => (match Nat.beq pc 11 with | true => some (.astore_n 2, 1, 0, [], false, []) | false => none)))) | false => (match Nat.ble 3 pc with | true => (match Nat.ble 7 pc with | true => (match Nat.ble 8 pc with | true => (match Nat.beq pc 8 with | true => some (.goto (9), 3, 17, [], false, []) | false => none) | false => (match Nat.beq pc 7 with | true => some (.lastore, 1, 0, [], false, []) | false => none)) | false => (match Nat.ble 6 pc with | true => (match Nat.beq pc 6 with | true => some (.i2l, 1, 0, [], false, []) | false => none) | false => (match Nat.beq pc 3 with | true => some (.invokevirtual 111, 3, 2244681, [], false, []) | false => none))) | false => (match Nat.ble 1 pc with | true => (match Nat.ble 2 pc with | true => (match Nat.beq pc 2 with | true => some (.aload_n 0, 1, 0, [], false, []) | false => none) | false => (match Nat.beq pc 1 with | true => some (.iconst 0, 1, 0, [], false, []) | false => none)) | false => (match Nat.beq pc 0 with | true => some (.aload_n 1, 1, 0, [], false, []) | false => none)))
def call_Law_runScript (kk : Nat) : Nat → List AV → GS → Res := fun id a G => match Nat.beq id 137 with | true => A_PB_runScript kk a G | false => none
def hd_Law_runScript : Nat → Hd := fun pc => match Nat.beq pc 3 with | true => [(2, 11, 1, 2), (4, 14, 1, 2)] | false => []
def bk_Law_runScript (kk k : Nat) : Kb := fun _ _ _ _ => none
theorem R_Law_runScript (kk : Nat) (G : GS) : ai_run T_Law_runScript (call_Law_runScript kk) hd_Law_runScript 1 (bk_Law_runScript kk kk) 600 0 [some (.inr (0, 0)), some (.inr (0, 18)), none] [] G 0 = D_Law_runScript kk G := by exact rfl
def T_Law_errorPosition : Tb := fun pc => match Nat.ble 8 pc with | true => (match Nat.ble 13 pc with | true => (match Nat.ble 14 pc with | true => (match Nat.ble 15 pc with | true => (match Nat.beq pc 15 with | true => some (.ireturn, 1, 0, [], false, []) | false => none) | false => (match Nat.beq pc 14 with | true => some (.iconst 0, 1, 0, [], false, []) | false => none)) | false => (match Nat.beq pc 13 with | true => some (.ireturn, 1, 0, [], false, []) | false => none)) | false => (match Nat.ble 11 pc with | true => (match Nat.ble 12 pc with | true => (match Nat.beq pc 12 with | true => some (.iconst 1, 1, 0, [], false, []) | false => none) | false => (match Nat.beq pc 11 with | true => some (.astore_n 2, 1, 0, [], false, []) | false => none)) | false => (match Nat.beq pc 8 with | true => some (.goto (6), 3, 14, [], false, []) | false => none))) | false => (match Nat.ble 3 pc with | true => (match Nat.ble 6 pc with | true => (match Nat.ble 7 pc with | true => (match Nat.beq pc 7 with | true => some (.lastore, 1, 0, [], false, []) | false => none) | false => (match Nat.beq pc 6 with | true => some (.i2l, 1, 0, [], false, []) | false => none)) | false => (match Nat.beq pc 3 with | true => some (.invokevirtual 114, 3, 2277449, [], false, []) | false => none)) | false => (match Nat.ble 1 pc with | true => (match Nat.ble 2 pc with | true => (match Nat.beq pc 2 with | true => some (.aload_n 0, 1, 0, [], false, []) | false => none) | false => (match Nat.beq pc 1 with | true => some (.iconst 0, 1, 0, [], false, []) | false => none)) | false => (match Nat.beq pc 0 with | true => some (.aload_n 1, 1, 0, [], false, []) | false => none)))
def call_Law_errorPosition (kk : Nat) : Nat → List AV → GS → Res := fun id a G => match Nat.beq id 139 with | true => A_PB_errorPosition kk a G | false => none
def hd_Law_errorPosition : Nat → Hd := fun pc => match Nat.beq pc 3 with | true => [(3, 11, 1, 2)] | false => []
def bk_Law_errorPosition (kk k : Nat) : Kb := fun _ _ _ _ => none
theorem R_Law_errorPosition (kk : Nat) (G : GS) : ai_run T_Law_errorPosition (call_Law_errorPosition kk) hd_Law_errorPosition 1 (bk_Law_errorPosition kk kk) 600 0 [some (.inr (0, 0)), some (.inr (0, 18)), none] [] G 0 = D_Law_errorPosition kk G := by exact rfl
def T_Law_failedCommand : Tb := fun pc => match Nat.ble 8 pc with | true => (match Nat.ble 13 pc with | true => (match Nat.ble 14 pc with | true => (match Nat.ble 15 pc with | true => (match Nat.beq pc 15 with | true => some (.ireturn, 1, 0, [], false, []) | false => none) | false => (match Nat.beq pc 14 with | true => some (.iconst 0, 1, 0, [], false, []) | false => none)) | false => (match Nat.beq pc 13 with | true => some (.ireturn, 1, 0, [], false, []) | false => none)) | false => (match Nat.ble 11 pc with | true => (match Nat.ble 12 pc with | true => (match Nat.beq pc 12 with | true => some (.iconst 1, 1, 0, [], false, []) | false => none) | false => (match Nat.beq pc 11 with | true => some (.astore_n 2, 1, 0, [], false, []) | false => none)) | false => (match Nat.beq pc 8 with | true => some (.goto (6), 3, 14, [], false, []) | false => none))) | false => (match Nat.ble 3 pc with | true => (match Nat.ble 6 pc with | true => (match Nat.ble 7 pc with | true => (match Nat.beq pc 7 with | true => some (.lastore, 1, 0, [], false, []) | false => none) | false => (match Nat.beq pc 6 with | true => some (.i2l, 1, 0, [], false, []) | false => none)) | false => (match Nat.beq pc 3 with | true => some (.invokevirtual 117, 3, 2293833, [], false, []) | false => none)) | false => (match Nat.ble 1 pc with | true => (match Nat.ble 2 pc with | true => (match Nat.beq pc 2 with | true => some (.aload_n 0, 1, 0, [], false, []) | false => none) | false => (match Nat.beq pc 1 with | true => some (.iconst 0, 1, 0, [], false, []) | false => none)) | false => (match Nat.beq pc 0 with | true => some (.aload_n 1, 1, 0, [], false, []) | false => none)))
def call_Law_failedCommand (kk : Nat) : Nat → List AV → GS → Res := fun id a G => match Nat.beq id 140 with | true => A_PB_failedCommand kk a G | false => none
def hd_Law_failedCommand : Nat → Hd := fun pc => match Nat.beq pc 3 with | true => [(3, 11, 1, 2)] | false => []
def bk_Law_failedCommand (kk k : Nat) : Kb := fun _ _ _ _ => none
theorem R_Law_failedCommand (kk : Nat) (G : GS) : ai_run T_Law_failedCommand (call_Law_failedCommand kk) hd_Law_failedCommand 1 (bk_Law_failedCommand kk kk) 600 0 [some (.inr (0, 0)), some (.inr (0, 18)), none] [] G 0 = D_Law_failedCommand kk G := by exact rfl
def T_Law_undo : Tb := fun pc => match Nat.ble 8 pc with | true => (match Nat.ble 13 pc with | true => (match Nat.ble 14 pc with | true => (match Nat.ble 15 pc with | true => (match Nat.beq pc 15 with | true => some (.ireturn, 1, 0, [], false, []) | false => none) | false => (match Nat.beq pc 14 with | true => some (.iconst 0, 1, 0, [], false, []) | false => none)) | false => (match Nat.beq pc 13 with | true => some (.ireturn, 1, 0, [], false, []) | false => none)) | false => (match Nat.ble 11 pc with | true => (match Nat.ble 12 pc with | true => (match Nat.beq pc 12 with | true => some (.iconst 1, 1, 0, [], false, []) | false => none) | false => (match Nat.beq pc 11 with | true => some (.astore_n 2, 1, 0, [], false, []) | false => none)) | false => (match Nat.beq pc 8 with | true => some (.goto (6), 3, 14, [], false, []) | false => none))) | false => (match Nat.ble 3 pc with | true => (match Nat.ble 6 pc with | true => (match Nat.ble 7 pc with | true => (match Nat.beq pc 7 with | true => some (.lastore, 1, 0, [], false, []) | false => none) | false => (match Nat.beq pc 6 with | true => some (.i2l, 1, 0, [], false, []) | false => none)) | false => (match Nat.beq pc 3 with | true => some (.invokevirtual 120, 3, 2310217, [], false, []) | false => none)) | false => (match Nat.ble 1 pc with | true => (match Nat.ble 2 pc with | true => (match Nat.beq pc 2 with | true => some (.aload_n 0, 1, 0, [], false, []) | false => none) | false => (match Nat.beq pc 1 with | true => some (.iconst 0, 1, 0, [], false, []) | false => none)) | false => (match Nat.beq pc 0 with | true => some (.aload_n 1, 1, 0, [], false, []) | false => none)))
def call_Law_undo (kk : Nat) : Nat → List AV → GS → Res := fun id a G => match Nat.beq id 141 with | true => A_PB_undo kk a G | false => none
def hd_Law_undo : Nat → Hd := fun pc => match Nat.beq pc 3 with | true => [(3, 11, 1, 2)] | false => []
def bk_Law_undo (kk k : Nat) : Kb := fun _ _ _ _ => none
theorem R_Law_undo (kk : Nat) (G : GS) : ai_run T_Law_undo (call_Law_undo kk) hd_Law_undo 1 (bk_Law_undo kk kk) 600 0 [some (.inr (0, 0)), some (.inr (0, 18)), none] [] G 0 = D_Law_undo kk G := by exact rfl
def T_Law_restore : Tb := fun pc => match Nat.ble 8 pc with | true => (match Nat.ble 13 pc with | true => (match Nat.ble 14 pc with | true => (match Nat.ble 15 pc with | true => (match Nat.beq pc 15 with | true => some (.ireturn, 1, 0, [], false, []) | false => none) | false => (match Nat.beq pc 14 with | true => some (.iconst 0, 1, 0, [], false, []) | false => none)) | false => (match Nat.beq pc 13 with | true => some (.ireturn, 1, 0, [], false, []) | false => none)) | false => (match Nat.ble 11 pc with | true => (match Nat.ble 12 pc with | true => (match Nat.beq pc 12 with | true => some (.iconst 1, 1, 0, [], false, []) | false => none) | false => (match Nat.beq pc 11 with | true => some (.astore_n 2, 1, 0, [], false, []) | false => none)) | false => (match Nat.beq pc 8 with | true => some (.goto (6), 3, 14, [], false, []) | false => none))) | false => (match Nat.ble 3 pc with | true => (match Nat.ble 6 pc with | true => (match Nat.ble 7 pc with | true => (match Nat.beq pc 7 with | true => some (.lastore, 1, 0, [], false, []) | false => none) | false => (match Nat.beq pc 6 with | true => some (.i2l, 1, 0, [], false, []) | false => none)) | false => (match Nat.beq pc 3 with | true => some (.invokevirtual 123, 3, 2342985, [], false, []) | false => none)) | false => (match Nat.ble 1 pc with | true => (match Nat.ble 2 pc with | true => (match Nat.beq pc 2 with | true => some (.aload_n 0, 1, 0, [], false, []) | false => none) | false => (match Nat.beq pc 1 with | true => some (.iconst 0, 1, 0, [], false, []) | false => none)) | false => (match Nat.beq pc 0 with | true => some (.aload_n 1, 1, 0, [], false, []) | false => none)))
def call_Law_restore (kk : Nat) : Nat → List AV → GS → Res := fun id a G => match Nat.beq id 143 with | true => A_PB_restore kk a G | false => none
def hd_Law_restore : Nat → Hd := fun pc => match Nat.beq pc 3 with | true => [(4, 11, 1, 2)] | false => []
def bk_Law_restore (kk k : Nat) : Kb := fun _ _ _ _ => none
theorem R_Law_restore (kk : Nat) (G : GS) : ai_run T_Law_restore (call_Law_restore kk) hd_Law_restore 1 (bk_Law_restore kk kk) 600 0 [some (.inr (0, 0)), some (.inr (0, 18)), none] [] G 0 = D_Law_restore kk G := by exact rfl
end
