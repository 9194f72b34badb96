section
-- ===== PART A: goes FIRST, ahead of the names: the tables' words, and 'selects' of the private methods out of them =====
/-- a private method of a class that the tables say can be made, by its rows of tables_1 -/
def lw_okq (q : MethodName × Nat) : Prop := (q.1.cls ≠ "java/lang/invoke/MethodHandle" ∧ q.1.cls ≠ "java/lang/invoke/VarHandle") ∧ Cond.instantiable q.1.cls q.2 ∈ tables_1 ∧ Cond.privateMethod q.1 ∈ tables_1 ∧ Cond.instanceMethod q.1 ∈ tables_1
theorem lw_p0 : lw_okq (⟨"PillowBarge", "change", "(IIII)I"⟩, 9) := ⟨⟨by decide +kernel, by decide +kernel⟩, List.mem_of_getElem? (i := 33) (by decide +kernel), List.mem_of_getElem? (i := 255) (by decide +kernel), List.mem_of_getElem? (i := 256) (by decide +kernel)⟩
theorem lw_p1 : lw_okq (⟨"PillowBarge$State", "faultOfMoment", "(I)I"⟩, 4) := ⟨⟨by decide +kernel, by decide +kernel⟩, List.mem_of_getElem? (i := 41) (by decide +kernel), List.mem_of_getElem? (i := 284) (by decide +kernel), List.mem_of_getElem? (i := 285) (by decide +kernel)⟩
theorem lw_p2 : lw_okq (⟨"PillowBarge$State", "faultOfLimit", "(I)I"⟩, 4) := ⟨⟨by decide +kernel, by decide +kernel⟩, List.mem_of_getElem? (i := 41) (by decide +kernel), List.mem_of_getElem? (i := 333) (by decide +kernel), List.mem_of_getElem? (i := 334) (by decide +kernel)⟩
theorem lw_p3 : lw_okq (⟨"java/lang/Throwable", "fillInStackTrace", "(I)Ljava/lang/Throwable;"⟩, 6) := ⟨⟨by decide +kernel, by decide +kernel⟩, List.mem_of_getElem? (i := 383) (by decide +kernel), List.mem_of_getElem? (i := 381) (by decide +kernel), List.mem_of_getElem? (i := 382) (by decide +kernel)⟩
theorem lw_p4 : lw_okq (⟨"PillowBarge$History", "placeAt", "(I)LPillowBarge$State;"⟩, 3) := ⟨⟨by decide +kernel, by decide +kernel⟩, List.mem_of_getElem? (i := 141) (by decide +kernel), List.mem_of_getElem? (i := 473) (by decide +kernel), List.mem_of_getElem? (i := 474) (by decide +kernel)⟩
theorem lw_p5 : lw_okq (⟨"PillowBarge$State", "addPillow", "(III)I"⟩, 4) := ⟨⟨by decide +kernel, by decide +kernel⟩, List.mem_of_getElem? (i := 41) (by decide +kernel), List.mem_of_getElem? (i := 510) (by decide +kernel), List.mem_of_getElem? (i := 511) (by decide +kernel)⟩
theorem lw_p6 : lw_okq (⟨"PillowBarge$State", "deliverTop", "(I)I"⟩, 4) := ⟨⟨by decide +kernel, by decide +kernel⟩, List.mem_of_getElem? (i := 41) (by decide +kernel), List.mem_of_getElem? (i := 518) (by decide +kernel), List.mem_of_getElem? (i := 519) (by decide +kernel)⟩
theorem lw_p7 : lw_okq (⟨"PillowBarge$State", "moveTop", "(II)I"⟩, 4) := ⟨⟨by decide +kernel, by decide +kernel⟩, List.mem_of_getElem? (i := 41) (by decide +kernel), List.mem_of_getElem? (i := 530) (by decide +kernel), List.mem_of_getElem? (i := 531) (by decide +kernel)⟩
theorem lw_p8 : lw_okq (⟨"PillowBarge$State", "replaceLimit", "(I)I"⟩, 4) := ⟨⟨by decide +kernel, by decide +kernel⟩, List.mem_of_getElem? (i := 41) (by decide +kernel), List.mem_of_getElem? (i := 551) (by decide +kernel), List.mem_of_getElem? (i := 552) (by decide +kernel)⟩
theorem lw_p9 : lw_okq (⟨"PillowBarge$State", "practise", "(I)Z"⟩, 4) := ⟨⟨by decide +kernel, by decide +kernel⟩, List.mem_of_getElem? (i := 41) (by decide +kernel), List.mem_of_getElem? (i := 555) (by decide +kernel), List.mem_of_getElem? (i := 556) (by decide +kernel)⟩
theorem lw_p10 : lw_okq (⟨"PillowBarge", "countPairs", "()I"⟩, 9) := ⟨⟨by decide +kernel, by decide +kernel⟩, List.mem_of_getElem? (i := 33) (by decide +kernel), List.mem_of_getElem? (i := 621) (by decide +kernel), List.mem_of_getElem? (i := 622) (by decide +kernel)⟩
theorem lw_p11 : lw_okq (⟨"PillowBarge", "countInTheWayOf", "(I)I"⟩, 9) := ⟨⟨by decide +kernel, by decide +kernel⟩, List.mem_of_getElem? (i := 33) (by decide +kernel), List.mem_of_getElem? (i := 626) (by decide +kernel), List.mem_of_getElem? (i := 627) (by decide +kernel)⟩
theorem lw_p12 : lw_okq (⟨"PillowBarge", "countPairsByStacks", "()I"⟩, 9) := ⟨⟨by decide +kernel, by decide +kernel⟩, List.mem_of_getElem? (i := 33) (by decide +kernel), List.mem_of_getElem? (i := 644) (by decide +kernel), List.mem_of_getElem? (i := 645) (by decide +kernel)⟩
theorem lw_p13 : lw_okq (⟨"PillowBarge", "countPairsInStack", "(I)I"⟩, 9) := ⟨⟨by decide +kernel, by decide +kernel⟩, List.mem_of_getElem? (i := 33) (by decide +kernel), List.mem_of_getElem? (i := 648) (by decide +kernel), List.mem_of_getElem? (i := 649) (by decide +kernel)⟩
theorem lw_p14 : lw_okq (⟨"PillowBarge", "seePillow", "(I)I"⟩, 9) := ⟨⟨by decide +kernel, by decide +kernel⟩, List.mem_of_getElem? (i := 33) (by decide +kernel), List.mem_of_getElem? (i := 652) (by decide +kernel), List.mem_of_getElem? (i := 653) (by decide +kernel)⟩
theorem lw_p15 : lw_okq (⟨"PillowBarge", "separate", "()V"⟩, 9) := ⟨⟨by decide +kernel, by decide +kernel⟩, List.mem_of_getElem? (i := 33) (by decide +kernel), List.mem_of_getElem? (i := 981) (by decide +kernel), List.mem_of_getElem? (i := 982) (by decide +kernel)⟩
def lw_privs_1 : List (MethodName × Nat) := [(⟨"PillowBarge", "change", "(IIII)I"⟩, 9), (⟨"PillowBarge$State", "faultOfMoment", "(I)I"⟩, 4), (⟨"PillowBarge$State", "faultOfLimit", "(I)I"⟩, 4), (⟨"java/lang/Throwable", "fillInStackTrace", "(I)Ljava/lang/Throwable;"⟩, 6), (⟨"PillowBarge$History", "placeAt", "(I)LPillowBarge$State;"⟩, 3), (⟨"PillowBarge$State", "addPillow", "(III)I"⟩, 4), (⟨"PillowBarge$State", "deliverTop", "(I)I"⟩, 4), (⟨"PillowBarge$State", "moveTop", "(II)I"⟩, 4), (⟨"PillowBarge$State", "replaceLimit", "(I)I"⟩, 4), (⟨"PillowBarge$State", "practise", "(I)Z"⟩, 4), (⟨"PillowBarge", "countPairs", "()I"⟩, 9), (⟨"PillowBarge", "countInTheWayOf", "(I)I"⟩, 9), (⟨"PillowBarge", "countPairsByStacks", "()I"⟩, 9), (⟨"PillowBarge", "countPairsInStack", "(I)I"⟩, 9), (⟨"PillowBarge", "seePillow", "(I)I"⟩, 9), (⟨"PillowBarge", "separate", "()V"⟩, 9)]
theorem lw_r1 : ∀ q ∈ lw_privs_1, lw_okq q := List.forall_mem_cons.mpr ⟨lw_p0, List.forall_mem_cons.mpr ⟨lw_p1, List.forall_mem_cons.mpr ⟨lw_p2, List.forall_mem_cons.mpr ⟨lw_p3, List.forall_mem_cons.mpr ⟨lw_p4, List.forall_mem_cons.mpr ⟨lw_p5, List.forall_mem_cons.mpr ⟨lw_p6, List.forall_mem_cons.mpr ⟨lw_p7, List.forall_mem_cons.mpr ⟨lw_p8, List.forall_mem_cons.mpr ⟨lw_p9, List.forall_mem_cons.mpr ⟨lw_p10, List.forall_mem_cons.mpr ⟨lw_p11, List.forall_mem_cons.mpr ⟨lw_p12, List.forall_mem_cons.mpr ⟨lw_p13, List.forall_mem_cons.mpr ⟨lw_p14, List.forall_mem_cons.mpr ⟨lw_p15, fun _ h => absurd h List.not_mem_nil⟩⟩⟩⟩⟩⟩⟩⟩⟩⟩⟩⟩⟩⟩⟩⟩
theorem lw_p16 : lw_okq (⟨"PillowBarge", "requirePillow", "(I)I"⟩, 9) := ⟨⟨by decide +kernel, by decide +kernel⟩, List.mem_of_getElem? (i := 33) (by decide +kernel), List.mem_of_getElem? (i := 1094) (by decide +kernel), List.mem_of_getElem? (i := 1095) (by decide +kernel)⟩
theorem lw_p17 : lw_okq (⟨"PillowBarge", "mostLevelBay", "(I)I"⟩, 9) := ⟨⟨by decide +kernel, by decide +kernel⟩, List.mem_of_getElem? (i := 33) (by decide +kernel), List.mem_of_getElem? (i := 1158) (by decide +kernel), List.mem_of_getElem? (i := 1159) (by decide +kernel)⟩
theorem lw_p18 : lw_okq (⟨"PillowBarge", "isMoreLevel", "(III)Z"⟩, 9) := ⟨⟨by decide +kernel, by decide +kernel⟩, List.mem_of_getElem? (i := 33) (by decide +kernel), List.mem_of_getElem? (i := 1163) (by decide +kernel), List.mem_of_getElem? (i := 1164) (by decide +kernel)⟩
theorem lw_p19 : lw_okq (⟨"PillowBarge", "oldestSlotIn", "(I)I"⟩, 9) := ⟨⟨by decide +kernel, by decide +kernel⟩, List.mem_of_getElem? (i := 33) (by decide +kernel), List.mem_of_getElem? (i := 1199) (by decide +kernel), List.mem_of_getElem? (i := 1200) (by decide +kernel)⟩
theorem lw_p20 : lw_okq (⟨"PillowBarge", "isOlder", "(II)Z"⟩, 9) := ⟨⟨by decide +kernel, by decide +kernel⟩, List.mem_of_getElem? (i := 33) (by decide +kernel), List.mem_of_getElem? (i := 1203) (by decide +kernel), List.mem_of_getElem? (i := 1204) (by decide +kernel)⟩
theorem lw_p21 : lw_okq (⟨"PillowBarge", "countEarlierTurns", "(I)I"⟩, 9) := ⟨⟨by decide +kernel, by decide +kernel⟩, List.mem_of_getElem? (i := 33) (by decide +kernel), List.mem_of_getElem? (i := 1221) (by decide +kernel), List.mem_of_getElem? (i := 1222) (by decide +kernel)⟩
theorem lw_p22 : lw_okq (⟨"PillowBarge", "hasEarlierTurn", "(II)Z"⟩, 9) := ⟨⟨by decide +kernel, by decide +kernel⟩, List.mem_of_getElem? (i := 33) (by decide +kernel), List.mem_of_getElem? (i := 1225) (by decide +kernel), List.mem_of_getElem? (i := 1226) (by decide +kernel)⟩
theorem lw_p23 : lw_okq (⟨"PillowBarge", "countHeavierBays", "(I)I"⟩, 9) := ⟨⟨by decide +kernel, by decide +kernel⟩, List.mem_of_getElem? (i := 33) (by decide +kernel), List.mem_of_getElem? (i := 1236) (by decide +kernel), List.mem_of_getElem? (i := 1237) (by decide +kernel)⟩
theorem lw_p24 : lw_okq (⟨"PillowBarge", "sumOfAges", "()I"⟩, 9) := ⟨⟨by decide +kernel, by decide +kernel⟩, List.mem_of_getElem? (i := 33) (by decide +kernel), List.mem_of_getElem? (i := 1266) (by decide +kernel), List.mem_of_getElem? (i := 1267) (by decide +kernel)⟩
theorem lw_p25 : lw_okq (⟨"PillowBarge", "renderPillow", "(I)V"⟩, 9) := ⟨⟨by decide +kernel, by decide +kernel⟩, List.mem_of_getElem? (i := 33) (by decide +kernel), List.mem_of_getElem? (i := 1284) (by decide +kernel), List.mem_of_getElem? (i := 1285) (by decide +kernel)⟩
theorem lw_p26 : lw_okq (⟨"PillowBarge$Script", "readCommand", "()Z"⟩, 6) := ⟨⟨by decide +kernel, by decide +kernel⟩, List.mem_of_getElem? (i := 161) (by decide +kernel), List.mem_of_getElem? (i := 1331) (by decide +kernel), List.mem_of_getElem? (i := 1332) (by decide +kernel)⟩
theorem lw_p27 : lw_okq (⟨"PillowBarge$Script", "readKeyword", "()I"⟩, 6) := ⟨⟨by decide +kernel, by decide +kernel⟩, List.mem_of_getElem? (i := 161) (by decide +kernel), List.mem_of_getElem? (i := 1335) (by decide +kernel), List.mem_of_getElem? (i := 1336) (by decide +kernel)⟩
theorem lw_p28 : lw_okq (⟨"PillowBarge$Script", "countMatching", "(Ljava/lang/String;)I"⟩, 6) := ⟨⟨by decide +kernel, by decide +kernel⟩, List.mem_of_getElem? (i := 161) (by decide +kernel), List.mem_of_getElem? (i := 1349) (by decide +kernel), List.mem_of_getElem? (i := 1350) (by decide +kernel)⟩
theorem lw_p29 : lw_okq (⟨"PillowBarge$Script", "isNext", "(IC)Z"⟩, 6) := ⟨⟨by decide +kernel, by decide +kernel⟩, List.mem_of_getElem? (i := 161) (by decide +kernel), List.mem_of_getElem? (i := 1369) (by decide +kernel), List.mem_of_getElem? (i := 1370) (by decide +kernel)⟩
theorem lw_p30 : lw_okq (⟨"PillowBarge$Script", "readDigit", "(I)Z"⟩, 6) := ⟨⟨by decide +kernel, by decide +kernel⟩, List.mem_of_getElem? (i := 161) (by decide +kernel), List.mem_of_getElem? (i := 1374) (by decide +kernel), List.mem_of_getElem? (i := 1375) (by decide +kernel)⟩
theorem lw_p31 : lw_okq (⟨"PillowBarge$Script", "takeDigit", "()I"⟩, 6) := ⟨⟨by decide +kernel, by decide +kernel⟩, List.mem_of_getElem? (i := 161) (by decide +kernel), List.mem_of_getElem? (i := 1378) (by decide +kernel), List.mem_of_getElem? (i := 1379) (by decide +kernel)⟩
def lw_privs_2 : List (MethodName × Nat) := [(⟨"PillowBarge", "requirePillow", "(I)I"⟩, 9), (⟨"PillowBarge", "mostLevelBay", "(I)I"⟩, 9), (⟨"PillowBarge", "isMoreLevel", "(III)Z"⟩, 9), (⟨"PillowBarge", "oldestSlotIn", "(I)I"⟩, 9), (⟨"PillowBarge", "isOlder", "(II)Z"⟩, 9), (⟨"PillowBarge", "countEarlierTurns", "(I)I"⟩, 9), (⟨"PillowBarge", "hasEarlierTurn", "(II)Z"⟩, 9), (⟨"PillowBarge", "countHeavierBays", "(I)I"⟩, 9), (⟨"PillowBarge", "sumOfAges", "()I"⟩, 9), (⟨"PillowBarge", "renderPillow", "(I)V"⟩, 9), (⟨"PillowBarge$Script", "readCommand", "()Z"⟩, 6), (⟨"PillowBarge$Script", "readKeyword", "()I"⟩, 6), (⟨"PillowBarge$Script", "countMatching", "(Ljava/lang/String;)I"⟩, 6), (⟨"PillowBarge$Script", "isNext", "(IC)Z"⟩, 6), (⟨"PillowBarge$Script", "readDigit", "(I)Z"⟩, 6), (⟨"PillowBarge$Script", "takeDigit", "()I"⟩, 6)]
theorem lw_r2 : ∀ q ∈ lw_privs_2, lw_okq q := List.forall_mem_cons.mpr ⟨lw_p16, List.forall_mem_cons.mpr ⟨lw_p17, List.forall_mem_cons.mpr ⟨lw_p18, List.forall_mem_cons.mpr ⟨lw_p19, List.forall_mem_cons.mpr ⟨lw_p20, List.forall_mem_cons.mpr ⟨lw_p21, List.forall_mem_cons.mpr ⟨lw_p22, List.forall_mem_cons.mpr ⟨lw_p23, List.forall_mem_cons.mpr ⟨lw_p24, List.forall_mem_cons.mpr ⟨lw_p25, List.forall_mem_cons.mpr ⟨lw_p26, List.forall_mem_cons.mpr ⟨lw_p27, List.forall_mem_cons.mpr ⟨lw_p28, List.forall_mem_cons.mpr ⟨lw_p29, List.forall_mem_cons.mpr ⟨lw_p30, List.forall_mem_cons.mpr ⟨lw_p31, fun _ h => absurd h List.not_mem_nil⟩⟩⟩⟩⟩⟩⟩⟩⟩⟩⟩⟩⟩⟩⟩⟩
theorem lw_p32 : lw_okq (⟨"PillowBarge$Script", "setArgument", "(II)V"⟩, 6) := ⟨⟨by decide +kernel, by decide +kernel⟩, List.mem_of_getElem? (i := 161) (by decide +kernel), List.mem_of_getElem? (i := 1382) (by decide +kernel), List.mem_of_getElem? (i := 1383) (by decide +kernel)⟩
theorem lw_p33 : lw_okq (⟨"PillowBarge$Script", "accept", "(C)Z"⟩, 6) := ⟨⟨by decide +kernel, by decide +kernel⟩, List.mem_of_getElem? (i := 161) (by decide +kernel), List.mem_of_getElem? (i := 1386) (by decide +kernel), List.mem_of_getElem? (i := 1387) (by decide +kernel)⟩
theorem lw_p34 : lw_okq (⟨"PillowBarge$Script", "readNumber", "(I)Z"⟩, 6) := ⟨⟨by decide +kernel, by decide +kernel⟩, List.mem_of_getElem? (i := 161) (by decide +kernel), List.mem_of_getElem? (i := 1390) (by decide +kernel), List.mem_of_getElem? (i := 1391) (by decide +kernel)⟩
theorem lw_p35 : lw_okq (⟨"PillowBarge$Script", "readSignedNumber", "(I)Z"⟩, 6) := ⟨⟨by decide +kernel, by decide +kernel⟩, List.mem_of_getElem? (i := 161) (by decide +kernel), List.mem_of_getElem? (i := 1394) (by decide +kernel), List.mem_of_getElem? (i := 1395) (by decide +kernel)⟩
theorem lw_p36 : lw_okq (⟨"PillowBarge", "performCommands", "()I"⟩, 9) := ⟨⟨by decide +kernel, by decide +kernel⟩, List.mem_of_getElem? (i := 33) (by decide +kernel), List.mem_of_getElem? (i := 1406) (by decide +kernel), List.mem_of_getElem? (i := 1407) (by decide +kernel)⟩
theorem lw_p37 : lw_okq (⟨"PillowBargeModel", "notLoad", "(III)I"⟩, 18) := ⟨⟨by decide +kernel, by decide +kernel⟩, List.mem_of_getElem? (i := 1460) (by decide +kernel), List.mem_of_getElem? (i := 1525) (by decide +kernel), List.mem_of_getElem? (i := 1526) (by decide +kernel)⟩
theorem lw_p38 : lw_okq (⟨"PillowBargeModel", "isBeyond", "(I)Z"⟩, 18) := ⟨⟨by decide +kernel, by decide +kernel⟩, List.mem_of_getElem? (i := 1460) (by decide +kernel), List.mem_of_getElem? (i := 1538) (by decide +kernel), List.mem_of_getElem? (i := 1539) (by decide +kernel)⟩
theorem lw_p39 : lw_okq (⟨"PillowBargeModel", "momentNow", "()I"⟩, 18) := ⟨⟨by decide +kernel, by decide +kernel⟩, List.mem_of_getElem? (i := 1460) (by decide +kernel), List.mem_of_getElem? (i := 1542) (by decide +kernel), List.mem_of_getElem? (i := 1543) (by decide +kernel)⟩
theorem lw_p40 : lw_okq (⟨"PillowBargeModel", "weightOfBay", "(I)I"⟩, 18) := ⟨⟨by decide +kernel, by decide +kernel⟩, List.mem_of_getElem? (i := 1460) (by decide +kernel), List.mem_of_getElem? (i := 1546) (by decide +kernel), List.mem_of_getElem? (i := 1547) (by decide +kernel)⟩
theorem lw_p41 : lw_okq (⟨"PillowBargeModel", "at", "(III)I"⟩, 18) := ⟨⟨by decide +kernel, by decide +kernel⟩, List.mem_of_getElem? (i := 1460) (by decide +kernel), List.mem_of_getElem? (i := 1550) (by decide +kernel), List.mem_of_getElem? (i := 1551) (by decide +kernel)⟩
theorem lw_p42 : lw_okq (⟨"PillowBargeModel", "fails", "(I)I"⟩, 18) := ⟨⟨by decide +kernel, by decide +kernel⟩, List.mem_of_getElem? (i := 1460) (by decide +kernel), List.mem_of_getElem? (i := 1554) (by decide +kernel), List.mem_of_getElem? (i := 1555) (by decide +kernel)⟩
theorem lw_p43 : lw_okq (⟨"PillowBargeModel", "remembers", "()V"⟩, 18) := ⟨⟨by decide +kernel, by decide +kernel⟩, List.mem_of_getElem? (i := 1460) (by decide +kernel), List.mem_of_getElem? (i := 1558) (by decide +kernel), List.mem_of_getElem? (i := 1559) (by decide +kernel)⟩
theorem lw_p44 : lw_okq (⟨"PillowBargeModel", "copies", "()V"⟩, 18) := ⟨⟨by decide +kernel, by decide +kernel⟩, List.mem_of_getElem? (i := 1460) (by decide +kernel), List.mem_of_getElem? (i := 1562) (by decide +kernel), List.mem_of_getElem? (i := 1563) (by decide +kernel)⟩
theorem lw_p45 : lw_okq (⟨"PillowBargeModel", "keeps", "()V"⟩, 18) := ⟨⟨by decide +kernel, by decide +kernel⟩, List.mem_of_getElem? (i := 1460) (by decide +kernel), List.mem_of_getElem? (i := 1566) (by decide +kernel), List.mem_of_getElem? (i := 1567) (by decide +kernel)⟩
theorem lw_p46 : lw_okq (⟨"PillowBargeModel", "loads", "(III)I"⟩, 18) := ⟨⟨by decide +kernel, by decide +kernel⟩, List.mem_of_getElem? (i := 1460) (by decide +kernel), List.mem_of_getElem? (i := 1570) (by decide +kernel), List.mem_of_getElem? (i := 1571) (by decide +kernel)⟩
theorem lw_p47 : lw_okq (⟨"PillowBargeModel", "lays", "(IIIII)V"⟩, 18) := ⟨⟨by decide +kernel, by decide +kernel⟩, List.mem_of_getElem? (i := 1460) (by decide +kernel), List.mem_of_getElem? (i := 1574) (by decide +kernel), List.mem_of_getElem? (i := 1575) (by decide +kernel)⟩
def lw_privs_3 : List (MethodName × Nat) := [(⟨"PillowBarge$Script", "setArgument", "(II)V"⟩, 6), (⟨"PillowBarge$Script", "accept", "(C)Z"⟩, 6), (⟨"PillowBarge$Script", "readNumber", "(I)Z"⟩, 6), (⟨"PillowBarge$Script", "readSignedNumber", "(I)Z"⟩, 6), (⟨"PillowBarge", "performCommands", "()I"⟩, 9), (⟨"PillowBargeModel", "notLoad", "(III)I"⟩, 18), (⟨"PillowBargeModel", "isBeyond", "(I)Z"⟩, 18), (⟨"PillowBargeModel", "momentNow", "()I"⟩, 18), (⟨"PillowBargeModel", "weightOfBay", "(I)I"⟩, 18), (⟨"PillowBargeModel", "at", "(III)I"⟩, 18), (⟨"PillowBargeModel", "fails", "(I)I"⟩, 18), (⟨"PillowBargeModel", "remembers", "()V"⟩, 18), (⟨"PillowBargeModel", "copies", "()V"⟩, 18), (⟨"PillowBargeModel", "keeps", "()V"⟩, 18), (⟨"PillowBargeModel", "loads", "(III)I"⟩, 18), (⟨"PillowBargeModel", "lays", "(IIIII)V"⟩, 18)]
theorem lw_r3 : ∀ q ∈ lw_privs_3, lw_okq q := List.forall_mem_cons.mpr ⟨lw_p32, List.forall_mem_cons.mpr ⟨lw_p33, List.forall_mem_cons.mpr ⟨lw_p34, List.forall_mem_cons.mpr ⟨lw_p35, List.forall_mem_cons.mpr ⟨lw_p36, List.forall_mem_cons.mpr ⟨lw_p37, List.forall_mem_cons.mpr ⟨lw_p38, List.forall_mem_cons.mpr ⟨lw_p39, List.forall_mem_cons.mpr ⟨lw_p40, List.forall_mem_cons.mpr ⟨lw_p41, List.forall_mem_cons.mpr ⟨lw_p42, List.forall_mem_cons.mpr ⟨lw_p43, List.forall_mem_cons.mpr ⟨lw_p44, List.forall_mem_cons.mpr ⟨lw_p45, List.forall_mem_cons.mpr ⟨lw_p46, List.forall_mem_cons.mpr ⟨lw_p47, fun _ h => absurd h List.not_mem_nil⟩⟩⟩⟩⟩⟩⟩⟩⟩⟩⟩⟩⟩⟩⟩⟩
theorem lw_p48 : lw_okq (⟨"PillowBargeModel", "puts", "(IIII)V"⟩, 18) := ⟨⟨by decide +kernel, by decide +kernel⟩, List.mem_of_getElem? (i := 1460) (by decide +kernel), List.mem_of_getElem? (i := 1578) (by decide +kernel), List.mem_of_getElem? (i := 1579) (by decide +kernel)⟩
theorem lw_p49 : lw_okq (⟨"PillowBargeModel", "notUnload", "(I)I"⟩, 18) := ⟨⟨by decide +kernel, by decide +kernel⟩, List.mem_of_getElem? (i := 1460) (by decide +kernel), List.mem_of_getElem? (i := 1586) (by decide +kernel), List.mem_of_getElem? (i := 1587) (by decide +kernel)⟩
theorem lw_p50 : lw_okq (⟨"PillowBargeModel", "top", "(II)I"⟩, 18) := ⟨⟨by decide +kernel, by decide +kernel⟩, List.mem_of_getElem? (i := 1460) (by decide +kernel), List.mem_of_getElem? (i := 1590) (by decide +kernel), List.mem_of_getElem? (i := 1591) (by decide +kernel)⟩
theorem lw_p51 : lw_okq (⟨"PillowBargeModel", "unloads", "(I)I"⟩, 18) := ⟨⟨by decide +kernel, by decide +kernel⟩, List.mem_of_getElem? (i := 1460) (by decide +kernel), List.mem_of_getElem? (i := 1594) (by decide +kernel), List.mem_of_getElem? (i := 1595) (by decide +kernel)⟩
theorem lw_p52 : lw_okq (⟨"PillowBargeModel", "takes", "(I)V"⟩, 18) := ⟨⟨by decide +kernel, by decide +kernel⟩, List.mem_of_getElem? (i := 1460) (by decide +kernel), List.mem_of_getElem? (i := 1598) (by decide +kernel), List.mem_of_getElem? (i := 1599) (by decide +kernel)⟩
theorem lw_p53 : lw_okq (⟨"PillowBargeModel", "notShift", "(II)I"⟩, 18) := ⟨⟨by decide +kernel, by decide +kernel⟩, List.mem_of_getElem? (i := 1460) (by decide +kernel), List.mem_of_getElem? (i := 1606) (by decide +kernel), List.mem_of_getElem? (i := 1607) (by decide +kernel)⟩
theorem lw_p54 : lw_okq (⟨"PillowBargeModel", "shifts", "(II)I"⟩, 18) := ⟨⟨by decide +kernel, by decide +kernel⟩, List.mem_of_getElem? (i := 1460) (by decide +kernel), List.mem_of_getElem? (i := 1610) (by decide +kernel), List.mem_of_getElem? (i := 1611) (by decide +kernel)⟩
theorem lw_p55 : lw_okq (⟨"PillowBargeModel", "sails", "(I)I"⟩, 18) := ⟨⟨by decide +kernel, by decide +kernel⟩, List.mem_of_getElem? (i := 1460) (by decide +kernel), List.mem_of_getElem? (i := 1621) (by decide +kernel), List.mem_of_getElem? (i := 1622) (by decide +kernel)⟩
theorem lw_p56 : lw_okq (⟨"PillowBargeModel", "portBehind", "(I)I"⟩, 18) := ⟨⟨by decide +kernel, by decide +kernel⟩, List.mem_of_getElem? (i := 1460) (by decide +kernel), List.mem_of_getElem? (i := 1625) (by decide +kernel), List.mem_of_getElem? (i := 1626) (by decide +kernel)⟩
theorem lw_p57 : lw_okq (⟨"PillowBargeModel", "turns", "()I"⟩, 18) := ⟨⟨by decide +kernel, by decide +kernel⟩, List.mem_of_getElem? (i := 1460) (by decide +kernel), List.mem_of_getElem? (i := 1633) (by decide +kernel), List.mem_of_getElem? (i := 1634) (by decide +kernel)⟩
theorem lw_p58 : lw_okq (⟨"PillowBargeModel", "notLimit", "(I)I"⟩, 18) := ⟨⟨by decide +kernel, by decide +kernel⟩, List.mem_of_getElem? (i := 1460) (by decide +kernel), List.mem_of_getElem? (i := 1641) (by decide +kernel), List.mem_of_getElem? (i := 1642) (by decide +kernel)⟩
theorem lw_p59 : lw_okq (⟨"PillowBargeModel", "setsLimit", "(I)I"⟩, 18) := ⟨⟨by decide +kernel, by decide +kernel⟩, List.mem_of_getElem? (i := 1460) (by decide +kernel), List.mem_of_getElem? (i := 1645) (by decide +kernel), List.mem_of_getElem? (i := 1646) (by decide +kernel)⟩
theorem lw_p60 : lw_okq (⟨"PillowBargeModel", "drills", "(I)I"⟩, 18) := ⟨⟨by decide +kernel, by decide +kernel⟩, List.mem_of_getElem? (i := 1460) (by decide +kernel), List.mem_of_getElem? (i := 1656) (by decide +kernel), List.mem_of_getElem? (i := 1657) (by decide +kernel)⟩
theorem lw_p61 : lw_okq (⟨"PillowBargeModel", "countAll", "()I"⟩, 18) := ⟨⟨by decide +kernel, by decide +kernel⟩, List.mem_of_getElem? (i := 1460) (by decide +kernel), List.mem_of_getElem? (i := 1664) (by decide +kernel), List.mem_of_getElem? (i := 1665) (by decide +kernel)⟩
theorem lw_p62 : lw_okq (⟨"PillowBargeModel", "asks", "(II)I"⟩, 18) := ⟨⟨by decide +kernel, by decide +kernel⟩, List.mem_of_getElem? (i := 1460) (by decide +kernel), List.mem_of_getElem? (i := 1680) (by decide +kernel), List.mem_of_getElem? (i := 1681) (by decide +kernel)⟩
theorem lw_p63 : lw_okq (⟨"PillowBargeModel", "placeOf", "(I)I"⟩, 18) := ⟨⟨by decide +kernel, by decide +kernel⟩, List.mem_of_getElem? (i := 1460) (by decide +kernel), List.mem_of_getElem? (i := 1684) (by decide +kernel), List.mem_of_getElem? (i := 1685) (by decide +kernel)⟩
def lw_privs_4 : List (MethodName × Nat) := [(⟨"PillowBargeModel", "puts", "(IIII)V"⟩, 18), (⟨"PillowBargeModel", "notUnload", "(I)I"⟩, 18), (⟨"PillowBargeModel", "top", "(II)I"⟩, 18), (⟨"PillowBargeModel", "unloads", "(I)I"⟩, 18), (⟨"PillowBargeModel", "takes", "(I)V"⟩, 18), (⟨"PillowBargeModel", "notShift", "(II)I"⟩, 18), (⟨"PillowBargeModel", "shifts", "(II)I"⟩, 18), (⟨"PillowBargeModel", "sails", "(I)I"⟩, 18), (⟨"PillowBargeModel", "portBehind", "(I)I"⟩, 18), (⟨"PillowBargeModel", "turns", "()I"⟩, 18), (⟨"PillowBargeModel", "notLimit", "(I)I"⟩, 18), (⟨"PillowBargeModel", "setsLimit", "(I)I"⟩, 18), (⟨"PillowBargeModel", "drills", "(I)I"⟩, 18), (⟨"PillowBargeModel", "countAll", "()I"⟩, 18), (⟨"PillowBargeModel", "asks", "(II)I"⟩, 18), (⟨"PillowBargeModel", "placeOf", "(I)I"⟩, 18)]
theorem lw_r4 : ∀ q ∈ lw_privs_4, lw_okq q := List.forall_mem_cons.mpr ⟨lw_p48, List.forall_mem_cons.mpr ⟨lw_p49, List.forall_mem_cons.mpr ⟨lw_p50, List.forall_mem_cons.mpr ⟨lw_p51, List.forall_mem_cons.mpr ⟨lw_p52, List.forall_mem_cons.mpr ⟨lw_p53, List.forall_mem_cons.mpr ⟨lw_p54, List.forall_mem_cons.mpr ⟨lw_p55, List.forall_mem_cons.mpr ⟨lw_p56, List.forall_mem_cons.mpr ⟨lw_p57, List.forall_mem_cons.mpr ⟨lw_p58, List.forall_mem_cons.mpr ⟨lw_p59, List.forall_mem_cons.mpr ⟨lw_p60, List.forall_mem_cons.mpr ⟨lw_p61, List.forall_mem_cons.mpr ⟨lw_p62, List.forall_mem_cons.mpr ⟨lw_p63, fun _ h => absurd h List.not_mem_nil⟩⟩⟩⟩⟩⟩⟩⟩⟩⟩⟩⟩⟩⟩⟩⟩
theorem lw_p64 : lw_okq (⟨"PillowBargeModel", "weightAll", "()I"⟩, 18) := ⟨⟨by decide +kernel, by decide +kernel⟩, List.mem_of_getElem? (i := 1460) (by decide +kernel), List.mem_of_getElem? (i := 1717) (by decide +kernel), List.mem_of_getElem? (i := 1718) (by decide +kernel)⟩
theorem lw_p65 : lw_okq (⟨"PillowBargeModel", "isBetter", "(III)Z"⟩, 18) := ⟨⟨by decide +kernel, by decide +kernel⟩, List.mem_of_getElem? (i := 1460) (by decide +kernel), List.mem_of_getElem? (i := 1742) (by decide +kernel), List.mem_of_getElem? (i := 1743) (by decide +kernel)⟩
theorem lw_p66 : lw_okq (⟨"PillowBargeModel", "legs", "(I)I"⟩, 18) := ⟨⟨by decide +kernel, by decide +kernel⟩, List.mem_of_getElem? (i := 1460) (by decide +kernel), List.mem_of_getElem? (i := 1765) (by decide +kernel), List.mem_of_getElem? (i := 1766) (by decide +kernel)⟩
theorem lw_p67 : lw_okq (⟨"PillowBargeModel", "inTheWay", "(II)I"⟩, 18) := ⟨⟨by decide +kernel, by decide +kernel⟩, List.mem_of_getElem? (i := 1460) (by decide +kernel), List.mem_of_getElem? (i := 1777) (by decide +kernel), List.mem_of_getElem? (i := 1778) (by decide +kernel)⟩
theorem lw_p68 : lw_okq (⟨"PillowBargeModel", "isTaken", "(I)Z"⟩, 18) := ⟨⟨by decide +kernel, by decide +kernel⟩, List.mem_of_getElem? (i := 1460) (by decide +kernel), List.mem_of_getElem? (i := 1811) (by decide +kernel), List.mem_of_getElem? (i := 1812) (by decide +kernel)⟩
theorem lw_p69 : lw_okq (⟨"PillowBargeModel", "isAhead", "(II)Z"⟩, 18) := ⟨⟨by decide +kernel, by decide +kernel⟩, List.mem_of_getElem? (i := 1460) (by decide +kernel), List.mem_of_getElem? (i := 1815) (by decide +kernel), List.mem_of_getElem? (i := 1816) (by decide +kernel)⟩
theorem lw_p70 : lw_okq (⟨"PillowBargeModel", "writes", "(I)V"⟩, 18) := ⟨⟨by decide +kernel, by decide +kernel⟩, List.mem_of_getElem? (i := 1460) (by decide +kernel), List.mem_of_getElem? (i := 1859) (by decide +kernel), List.mem_of_getElem? (i := 1860) (by decide +kernel)⟩
theorem lw_p71 : lw_okq (⟨"PillowBargeModel", "writesNumber", "(I)V"⟩, 18) := ⟨⟨by decide +kernel, by decide +kernel⟩, List.mem_of_getElem? (i := 1460) (by decide +kernel), List.mem_of_getElem? (i := 1863) (by decide +kernel), List.mem_of_getElem? (i := 1864) (by decide +kernel)⟩
theorem lw_p72 : lw_okq (⟨"PillowBargeModel", "readsAll", "()Z"⟩, 18) := ⟨⟨by decide +kernel, by decide +kernel⟩, List.mem_of_getElem? (i := 1460) (by decide +kernel), List.mem_of_getElem? (i := 1883) (by decide +kernel), List.mem_of_getElem? (i := 1884) (by decide +kernel)⟩
theorem lw_p73 : lw_okq (⟨"PillowBargeModel", "readsCommand", "()Z"⟩, 18) := ⟨⟨by decide +kernel, by decide +kernel⟩, List.mem_of_getElem? (i := 1460) (by decide +kernel), List.mem_of_getElem? (i := 1887) (by decide +kernel), List.mem_of_getElem? (i := 1888) (by decide +kernel)⟩
theorem lw_p74 : lw_okq (⟨"PillowBargeModel", "nextChar", "()I"⟩, 18) := ⟨⟨by decide +kernel, by decide +kernel⟩, List.mem_of_getElem? (i := 1460) (by decide +kernel), List.mem_of_getElem? (i := 1891) (by decide +kernel), List.mem_of_getElem? (i := 1892) (by decide +kernel)⟩
theorem lw_p75 : lw_okq (⟨"PillowBargeModel", "reads", "(I)Z"⟩, 18) := ⟨⟨by decide +kernel, by decide +kernel⟩, List.mem_of_getElem? (i := 1460) (by decide +kernel), List.mem_of_getElem? (i := 1895) (by decide +kernel), List.mem_of_getElem? (i := 1896) (by decide +kernel)⟩
theorem lw_p76 : lw_okq (⟨"PillowBargeModel", "readsL", "()Z"⟩, 18) := ⟨⟨by decide +kernel, by decide +kernel⟩, List.mem_of_getElem? (i := 1460) (by decide +kernel), List.mem_of_getElem? (i := 1899) (by decide +kernel), List.mem_of_getElem? (i := 1900) (by decide +kernel)⟩
theorem lw_p77 : lw_okq (⟨"PillowBargeModel", "readsDigit", "(I)Z"⟩, 18) := ⟨⟨by decide +kernel, by decide +kernel⟩, List.mem_of_getElem? (i := 1460) (by decide +kernel), List.mem_of_getElem? (i := 1903) (by decide +kernel), List.mem_of_getElem? (i := 1904) (by decide +kernel)⟩
theorem lw_p78 : lw_okq (⟨"PillowBargeModel", "readsNumber", "(I)Z"⟩, 18) := ⟨⟨by decide +kernel, by decide +kernel⟩, List.mem_of_getElem? (i := 1460) (by decide +kernel), List.mem_of_getElem? (i := 1907) (by decide +kernel), List.mem_of_getElem? (i := 1908) (by decide +kernel)⟩
theorem lw_p79 : lw_okq (⟨"PillowBargeModel", "readsS", "()Z"⟩, 18) := ⟨⟨by decide +kernel, by decide +kernel⟩, List.mem_of_getElem? (i := 1460) (by decide +kernel), List.mem_of_getElem? (i := 1911) (by decide +kernel), List.mem_of_getElem? (i := 1912) (by decide +kernel)⟩
def lw_privs_5 : List (MethodName × Nat) := [(⟨"PillowBargeModel", "weightAll", "()I"⟩, 18), (⟨"PillowBargeModel", "isBetter", "(III)Z"⟩, 18), (⟨"PillowBargeModel", "legs", "(I)I"⟩, 18), (⟨"PillowBargeModel", "inTheWay", "(II)I"⟩, 18), (⟨"PillowBargeModel", "isTaken", "(I)Z"⟩, 18), (⟨"PillowBargeModel", "isAhead", "(II)Z"⟩, 18), (⟨"PillowBargeModel", "writes", "(I)V"⟩, 18), (⟨"PillowBargeModel", "writesNumber", "(I)V"⟩, 18), (⟨"PillowBargeModel", "readsAll", "()Z"⟩, 18), (⟨"PillowBargeModel", "readsCommand", "()Z"⟩, 18), (⟨"PillowBargeModel", "nextChar", "()I"⟩, 18), (⟨"PillowBargeModel", "reads", "(I)Z"⟩, 18), (⟨"PillowBargeModel", "readsL", "()Z"⟩, 18), (⟨"PillowBargeModel", "readsDigit", "(I)Z"⟩, 18), (⟨"PillowBargeModel", "readsNumber", "(I)Z"⟩, 18), (⟨"PillowBargeModel", "readsS", "()Z"⟩, 18)]
theorem lw_r5 : ∀ q ∈ lw_privs_5, lw_okq q := List.forall_mem_cons.mpr ⟨lw_p64, List.forall_mem_cons.mpr ⟨lw_p65, List.forall_mem_cons.mpr ⟨lw_p66, List.forall_mem_cons.mpr ⟨lw_p67, List.forall_mem_cons.mpr ⟨lw_p68, List.forall_mem_cons.mpr ⟨lw_p69, List.forall_mem_cons.mpr ⟨lw_p70, List.forall_mem_cons.mpr ⟨lw_p71, List.forall_mem_cons.mpr ⟨lw_p72, List.forall_mem_cons.mpr ⟨lw_p73, List.forall_mem_cons.mpr ⟨lw_p74, List.forall_mem_cons.mpr ⟨lw_p75, List.forall_mem_cons.mpr ⟨lw_p76, List.forall_mem_cons.mpr ⟨lw_p77, List.forall_mem_cons.mpr ⟨lw_p78, List.forall_mem_cons.mpr ⟨lw_p79, fun _ h => absurd h List.not_mem_nil⟩⟩⟩⟩⟩⟩⟩⟩⟩⟩⟩⟩⟩⟩⟩⟩
theorem lw_p80 : lw_okq (⟨"PillowBargeModel", "readsDrill", "()Z"⟩, 18) := ⟨⟨by decide +kernel, by decide +kernel⟩, List.mem_of_getElem? (i := 1460) (by decide +kernel), List.mem_of_getElem? (i := 1915) (by decide +kernel), List.mem_of_getElem? (i := 1916) (by decide +kernel)⟩
theorem lw_p81 : lw_okq (⟨"PillowBargeModel", "doesAll", "()Z"⟩, 18) := ⟨⟨by decide +kernel, by decide +kernel⟩, List.mem_of_getElem? (i := 1460) (by decide +kernel), List.mem_of_getElem? (i := 1919) (by decide +kernel), List.mem_of_getElem? (i := 1920) (by decide +kernel)⟩
theorem lw_p82 : lw_okq (⟨"PillowBargeModel", "notNow", "()I"⟩, 18) := ⟨⟨by decide +kernel, by decide +kernel⟩, List.mem_of_getElem? (i := 1460) (by decide +kernel), List.mem_of_getElem? (i := 1923) (by decide +kernel), List.mem_of_getElem? (i := 1924) (by decide +kernel)⟩
theorem lw_p83 : lw_okq (⟨"PillowBargeModel", "doesNow", "()I"⟩, 18) := ⟨⟨by decide +kernel, by decide +kernel⟩, List.mem_of_getElem? (i := 1460) (by decide +kernel), List.mem_of_getElem? (i := 1927) (by decide +kernel), List.mem_of_getElem? (i := 1928) (by decide +kernel)⟩
theorem lw_p84 : lw_okq (⟨"PillowBargeModel", "goesBack", "()V"⟩, 18) := ⟨⟨by decide +kernel, by decide +kernel⟩, List.mem_of_getElem? (i := 1460) (by decide +kernel), List.mem_of_getElem? (i := 1931) (by decide +kernel), List.mem_of_getElem? (i := 1932) (by decide +kernel)⟩
def lw_privs_6 : List (MethodName × Nat) := [(⟨"PillowBargeModel", "readsDrill", "()Z"⟩, 18), (⟨"PillowBargeModel", "doesAll", "()Z"⟩, 18), (⟨"PillowBargeModel", "notNow", "()I"⟩, 18), (⟨"PillowBargeModel", "doesNow", "()I"⟩, 18), (⟨"PillowBargeModel", "goesBack", "()V"⟩, 18)]
theorem lw_r6 : ∀ q ∈ lw_privs_6, lw_okq q := List.forall_mem_cons.mpr ⟨lw_p80, List.forall_mem_cons.mpr ⟨lw_p81, List.forall_mem_cons.mpr ⟨lw_p82, List.forall_mem_cons.mpr ⟨lw_p83, List.forall_mem_cons.mpr ⟨lw_p84, fun _ h => absurd h List.not_mem_nil⟩⟩⟩⟩⟩
def lw_privs : List (MethodName × Nat) := lw_privs_1 ++ (lw_privs_2 ++ (lw_privs_3 ++ (lw_privs_4 ++ (lw_privs_5 ++ (lw_privs_6)))))
def lw_tbl : List Cond := k2_sels lw_privs ++ tables_1
theorem lw_privs_ok : ∀ q ∈ lw_privs, lw_okq q := by
  show ∀ q ∈ lw_privs_1 ++ (lw_privs_2 ++ (lw_privs_3 ++ (lw_privs_4 ++ (lw_privs_5 ++ (lw_privs_6))))), lw_okq q
  exact List.forall_mem_append.mpr ⟨lw_r1, List.forall_mem_append.mpr ⟨lw_r2, List.forall_mem_append.mpr ⟨lw_r3, List.forall_mem_append.mpr ⟨lw_r4, List.forall_mem_append.mpr ⟨lw_r5, lw_r6⟩⟩⟩⟩⟩
/-- the streams that the claim lets the run draw from -/
abbrev lw_cs : List Choice := [Jvm.Choice.named "NaN.bits"]
theorem lw_bits : nanBits ∈ lw_cs := by first | decide | exact List.mem_cons_self | simp [lw_cs, nanBits]
end
section
/-! ===== BEGIN words of one list among another's, by their places ===== -/
theorem goodIn_r {big : List Cond} (ws : List Cond) (ps : List Nat) (hp : ws = ps.filterMap (fun i => big[i]?)) (h : ws.all goodWord = true) : GoodIn big ws := by
  intro w hw
  have h1 := List.all_eq_true.mp h w hw
  rw [hp] at hw
  obtain ⟨i, -, hi⟩ := List.mem_filterMap.mp hw
  have hm : w ∈ big := by first | exact List.mem_of_getElem? hi | exact List.getElem?_mem hi
  exact ⟨hm, good_of_word h1⟩
theorem goodIn_app {big a b : List Cond} (ha : GoodIn big a) (hb : GoodIn big b) : GoodIn big (a ++ b) := fun w h => (List.mem_append.mp h).elim (ha w) (hb w)
theorem goodIn_ca {big a b : List Cond} {c : Cond} (ha : GoodIn big (c :: a)) (hb : GoodIn big b) : GoodIn big (c :: (a ++ b)) := fun w h => (List.mem_cons.mp h).elim (fun e => ha w (List.mem_cons.mpr (Or.inl e))) (fun h => (List.mem_append.mp h).elim (fun h => ha w (List.mem_cons.mpr (Or.inr h))) (hb w))
theorem goodIn_sub {big ws : List Cond} (hm : ∀ w ∈ ws, w ∈ big) (h : ws.all goodWord = true) : GoodIn big ws := fun w hw => ⟨hm w hw, good_of_word (List.all_eq_true.mp h w hw)⟩
/-! ===== END ===== -/

/-! ===== BEGIN exceptions that leave a method, and their catching by the caller (launches without stack traces) ===== -/
section VXA
/-! The laws vx_back, vx_callV, vx_callS, vx_callSW, vx_throw0, vx_throwS follow proofs of the library, with one case more: JvmDerived/Free/Laws.lean (Back.of_free), Shelf42/LK1.lean (callV, callS), Shelf/KitTraced.lean (throwNew0V, throwNewS). -/
/-- where a method has thrown q: the class by its name, the cell, what was written, the world -/
def vx_T (XC : String → State → State → Prop) (st : State) (q : Addr) (t : State) (mc ms : Nat) (free : Addr → Prop) : Prop :=
  ∃ (E : String) (ce : Cell) (L : List Loc), XC E st t ∧ t.heap[q]? = some ce ∧ ce.vm = .none ∧ st.vm.findClass E = some ce.cls ∧ st.WarmedH t.vm ∧ st.sameButNew ({ t with vm := st.vm } : State) L mc ms ∧ ∀ z ∈ L, free z.base
def vx_Q (Qc : Array Value → State → Outcome → State → Prop) (XC : String → State → State → Prop) (mc ms : Nat) (free : Addr → Prop) : Array Value → State → Outcome → State → Prop := fun a st o t =>
  (Qc a st o t ∧ ∃ L, FrameEnd st o t L mc ms ∧ ∀ q ∈ L, free q.base) ∨ ∃ q, o = .threw q ∧ vx_T XC st q t mc ms free
/-- a callee that returns or throws -/
def vx_Met (l : Launch) (y : MethodName) (ws : List Cond) (rm : Room) (Pc : Array Value → State → Prop) (Qc : Array Value → State → Outcome → State → Prop) (XC : String → State → State → Prop) (mc ms : Nat) (free : Addr → Prop) : Prop :=
  MetFree l y (headSpec ws rm) Pc (fun _ _ _ _ _ => True) (vx_Q Qc XC mc ms free)
def vx_Post (XC : String → State → State → Prop) (mc ms : Nat) (free : Addr → Prop) : Pt → Array Value → Addr → Pt → Prop := fun A a q B =>
  ∃ (g : JFrame) (mk : MethodId) (t : State) (L : List Loc) (E : String) (ce : Cell), B.U.heap = t.heap ∧ B.U.vm = t.vm ∧ XC E (A.U.calling g mk a) t ∧ t.heap[q]? = some ce ∧ ce.vm = .none ∧ A.U.vm.findClass E = some ce.cls ∧ B.locs = A.locs ++ L ∧ (∀ z ∈ L, free z.base) ∧ B.cells = A.cells + mc ∧ B.slots = A.slots + ms
def vx_Back (l : Launch) (R : Room) (p : Program) (e : Env) (below : List Frame) (s : State) (sargs : Array Value) (y : MethodName) (len W9 : Nat)
    (Pre : Pt → Array Value → Prop) (Post : Pt → Array Value → Option Value → Pt → Prop) (PostX : Pt → Array Value → Addr → Pt → Prop) : Prop :=
  ∀ (m : MethodId) (meth : Method) (c : Code) (A : Pt) (g : JFrame) (ig : Instr) (mk : MethodId) (a : Array Value),
    Stand p l e R s m sargs below meth c A.U A.locs A.cells A.slots → g.method = m → g.locals.size = c.maxLocals → decode c.code g.pc = .ok (ig, len) →
    2 * g.monitorRoom + (g.stack.map fun v => v.category).sum ≤ W9 → A.U.methodNamed? y = some mk → Pre A a →
    (∃ (v : Option Value) (B : Pt), Stand p l e R s m sargs below meth c B.U B.locs B.cells B.slots ∧ Post A a v B ∧
      Steps p.tables e below (doInvoke e (A.U.setTop g) [] mk a).1 (B.U.setTop { g with pc := g.pc + len, stack := v.toList ++ g.stack })) ∨
    (∃ (q : Addr) (B : Pt), Stand p l e R s m sargs below meth c B.U B.locs B.cells B.slots ∧ PostX A a q B ∧
      Steps p.tables e below (doInvoke e (A.U.setTop g) [] mk a).1 ((B.U.setTop g).pushFrame (.throwing q)))
section Payer
variable {l : Launch} {R : Room} {p : Program} {e : Env} {below : List Frame} {s : State} {sargs : Array Value} {y : MethodName} {len W9 : Nat}
theorem vx_back {ws : List Cond} {rm : Room} {Pc : Array Value → State → Prop} {Qc : Array Value → State → Outcome → State → Prop} {XC : String → State → State → Prop} {mc ms : Nat} {free : Addr → Prop} {bytes : ByteArray} {maxL : Nat} {ret : Option FieldType}
    (hM : vx_Met l y ws rm Pc Qc XC mc ms free) (hblind : FrameBlind Pc) (hrc : rm.cells = mc) (hrs : rm.slots = ms)
    (hframes : rm.frames + 1 ≤ R.frames) (hlocals : W9 + (maxL + 11) + rm.locals ≤ R.locals)
    (hws : ∀ w ∈ ws, ∀ a' U, s.WarmedH U.vm → w.before a' U = true) (hcode : Cond.code y bytes maxL ret ∈ ws) (hinit : ∀ a' U, s.WarmedH U.vm → (Cond.initialized y.cls).before a' U = true) :
    vx_Back l R p e below s sargs y len W9 (PreOf R mc ms Pc) (PostOf Qc mc ms free) (vx_Post XC mc ms free) := by
  intro m meth c A g ig mk a X hg hsize hdg hW hn hp
  have h1 : (headSpec ws rm).pre.before a A.U = true := atoms_intro fun w hw => hws w hw _ _ X.warmed
  have h2 : (Cond.code y bytes maxL ret).before a A.U = true := hws _ hcode _ _ X.warmed
  have h3 : (Cond.initialized y.cls).before a A.U = true := hinit _ _ X.warmed
  have h4 : A.cells + (headSpec ws rm).room.cells ≤ R.cells := by rw [show (headSpec ws rm).room.cells = mc from hrc]; exact hp.1
  have h5 : A.slots + (headSpec ws rm).room.slots ≤ R.slots := by rw [show (headSpec ws rm).room.slots = ms from hrs]; exact hp.2.1
  have hPc : Pc a (A.U.calling g mk a) := hblind _ _ _ _ hp.2.2
  obtain ⟨U, Ls, c0, s0⟩ := A
  dsimp only [Pt.U, Pt.locs, Pt.cells, Pt.slots] at h1 h2 h3 h4 h5 X hn hPc ⊢
  obtain ⟨methY, cY, hmY, hcY, -, hlY, -, -, -, -⟩ := Cond.code_spec hn h2
  obtain ⟨kY, hkY, -⟩ := className_of_methodNamed hn
  have hinitY : kY.init = .initialized := Cond.initialized_spec (findClass_of_methodNamed hn) hkY h3
  have h : At U g.method c below := by rw [hg]; exact X.here
  have hlocals9 : W9 + (maxL + 11) + (headSpec ws rm).room.locals ≤ R.locals := hlocals
  have happ : (headSpec ws rm).appliesLoose y e.platform (U.calling g mk a) = true :=
    Spec.appliesLoose_calling (g := g) h hdg hn hkY hinitY
      (X.room_calling (g := g) (R' := (headSpec ws rm).room) hsize hmY hcY hframes (by rw [hlY]; omega) h4 h5) h1
  obtain ⟨mid, hmid⟩ := h.above
  have hfr : (U.setTop g).frames = (.java g :: mid) ++ below := by rw [State.frames_setTop' g h.top, hmid]; rfl
  obtain ⟨o, s₂, hsteps, -, hend, hq⟩ := Steps.callFree hM p X.admits X.cas X.clock (acts := []) hfr happ hPc trivial
  have hq' : vx_Q Qc XC mc ms free a (U.calling g mk a) o s₂ := hq
  rw [State.frames_setTop' g h.top] at hend
  obtain ⟨g₀, hg0⟩ := Option.isSome_iff_exists.mp h.top
  obtain ⟨r, hr⟩ := State.topJava?_eq_some.mp hg0
  have hr' : (({ U with heap := s₂.heap, slotsUsed := s₂.slotsUsed } : State).setVm s₂.vm).frames = .java g₀ :: r := hr
  rcases hq' with ⟨hqc, L, hfe, hL⟩ | ⟨q, rfl, E, ce, L, hx, hce, hcv, hcl, hW₂, hsm, hL⟩
  · obtain ⟨⟨v, rfl⟩, hW₂, e2, q2, q3, q4, q5, q6⟩ := id hfe
    have e3 : s₂ = ({ (U.calling g mk a).setFrames s₂.frames with heap := s₂.heap, slotsUsed := s₂.slotsUsed } : State).setVm s₂.vm := by
      have : s₂ = ({ s₂ with vm := (U.calling g mk a).vm } : State).setVm s₂.vm := rfl
      rw [e2] at this
      exact this
    obtain ⟨c₂, i₂, len₂, hc₂, hd₂, hf₂⟩ := hend
    have hW' : U.WarmedH s₂.vm := hW₂
    have hcc : c₂ = c := by
      have h1 : s₂.code? g.method = U.code? g.method := by
        rw [State.code?_eq, State.code?_eq, hW'.alike.method?]
      exact Option.some.inj (hc₂.symm.trans (h1.trans h.code))
    subst hcc
    have hlen : len₂ = len := by rw [hdg] at hd₂; cases hd₂; rfl
    subst hlen
    have hs₂ : s₂ = (({ U with heap := s₂.heap, slotsUsed := s₂.slotsUsed } : State).setVm s₂.vm).setTop { g with pc := g.pc + len₂, stack := v.toList ++ g.stack } := by
      refine e3.trans ?_
      rw [hf₂, State.calling_eq h.top, State.setFrames_setFrames, State.setTop_of_frames _ hr', hr]
      rfl
    have hsame : U.sameButNew ({ U with heap := s₂.heap, slotsUsed := s₂.slotsUsed } : State) L mc ms := by
      refine ⟨?_, q2, q3, q4, q5, q6⟩
      obtain ⟨t, ht, -⟩ := State.frames_cons hr
      show ({ U with heap := s₂.heap, slotsUsed := s₂.slotsUsed } : State) = { U.setFrames U.frames with heap := s₂.heap, slotsUsed := s₂.slotsUsed }
      rw [State.setFrames_self ht]
    subst hg
    refine Or.inl ⟨v, ⟨(({ U with heap := s₂.heap, slotsUsed := s₂.slotsUsed } : State).setVm s₂.vm), Ls ++ L, c0 + mc, s0 + ms⟩,
      ⟨X.admits, X.cas, X.clock, X.frames, X.room, X.hears, X.method, X.code, (X.here.setHeapUsed s₂.heap s₂.slotsUsed).setVm hW'.alike, X.tail, State.WarmedH.trans X.warmed hW', X.limits, X.bytes, X.same.trans (hsame.setVm s.vm)⟩,
      ⟨g, mk, s₂, L, rfl, rfl, hqc, rfl, hL, rfl, rfl⟩, ?_⟩
    show Steps p.tables e below _ ((({ U with heap := s₂.heap, slotsUsed := s₂.slotsUsed } : State).setVm s₂.vm).setTop { g with pc := g.pc + len₂, stack := v.toList ++ g.stack })
    rw [← hs₂]
    exact hsteps
  · obtain ⟨e2, q2, q3, q4, q5, q6⟩ := id hsm
    have e3 : s₂ = ({ (U.calling g mk a).setFrames s₂.frames with heap := s₂.heap, slotsUsed := s₂.slotsUsed } : State).setVm s₂.vm := by
      have : s₂ = ({ s₂ with vm := (U.calling g mk a).vm } : State).setVm s₂.vm := rfl
      rw [e2] at this
      exact this
    have hf₂ : s₂.frames = .throwing q :: .java g :: U.frames.tail := hend
    have hW' : U.WarmedH s₂.vm := hW₂
    have hs₂ : s₂ = ((({ U with heap := s₂.heap, slotsUsed := s₂.slotsUsed } : State).setVm s₂.vm).setTop g).pushFrame (.throwing q) := by
      refine e3.trans ?_
      rw [hf₂, State.calling_eq h.top, State.setFrames_setFrames, State.pushFrame, State.frames_setTop _ hr', State.setTop_of_frames _ hr', State.setFrames_setFrames, hr]
      rfl
    have hsame : U.sameButNew ({ U with heap := s₂.heap, slotsUsed := s₂.slotsUsed } : State) L mc ms := by
      refine ⟨?_, q2, q3, q4, q5, q6⟩
      obtain ⟨t, ht, -⟩ := State.frames_cons hr
      show ({ U with heap := s₂.heap, slotsUsed := s₂.slotsUsed } : State) = { U.setFrames U.frames with heap := s₂.heap, slotsUsed := s₂.slotsUsed }
      rw [State.setFrames_self ht]
    subst hg
    refine Or.inr ⟨q, ⟨(({ U with heap := s₂.heap, slotsUsed := s₂.slotsUsed } : State).setVm s₂.vm), Ls ++ L, c0 + mc, s0 + ms⟩,
      ⟨X.admits, X.cas, X.clock, X.frames, X.room, X.hears, X.method, X.code, (X.here.setHeapUsed s₂.heap s₂.slotsUsed).setVm hW'.alike, X.tail, State.WarmedH.trans X.warmed hW', X.limits, X.bytes, X.same.trans (hsame.setVm s.vm)⟩,
      ⟨g, mk, s₂, L, E, ce, rfl, rfl, hx, hce, hcv, hcl, rfl, hL, rfl, rfl⟩, ?_⟩
    show Steps p.tables e below _ (((({ U with heap := s₂.heap, slotsUsed := s₂.slotsUsed } : State).setVm s₂.vm).setTop g).pushFrame (.throwing q))
    rw [← hs₂]
    exact hsteps
end Payer
section Calls
variable {p : Program} {l : Launch} {e : Env} {R : Room} {s : State} {m : MethodId} {args : Array Value} {below : List Frame} {meth : Method} {c : Code} {T : State} {locs : List Loc} {cells slots : Nat}
theorem vx_callV (X : Stand p l e R s m args below meth c T locs cells slots) (hexec : p.tables.exec = Jvm.exec) {own C : String} {index : Nat} {y : MethodName} {bytes : ByteArray} {maxL : Nat} {ret : Option FieldType}
    (hown : s.vm.findClass own = some m.cls) (hlink : (Cond.methodLink own index y).before args s = true) (hinst : (Cond.instanceMethod y).before args s = true) (hsel : (Cond.selects C y y).before args s = true)
    (hcode : (Cond.code y bytes maxL ret).before args s = true) (hy : y.cls ≠ "java/lang/invoke/MethodHandle" ∧ y.cls ≠ "java/lang/invoke/VarHandle")
    {W9 : Nat} {Pre : Pt → Array Value → Prop} {Post : Pt → Array Value → Option Value → Pt → Prop} {PostX : Pt → Array Value → Addr → Pt → Prop} (hK : vx_Back l R p e below s args y 3 W9 Pre Post PostX)
    {b : Addr} {cellB : Cell} (hcell : T.heap[b]? = some cellB) (hobj : cellB.vm.isStatics = false) (hcls : s.vm.findClass C = some cellB.cls)
    {g : JFrame} (hg : g.method = m) (hsize : g.locals.size = c.maxLocals) {argsL rest : List Value} (hlen : ∀ sig, parseMethodDescriptor y.desc = some sig → argsL.length = sig.parameters.length)
    (hstack : g.stack = argsL.reverse ++ .ref b :: rest) (hW : 2 * g.monitorRoom + (rest.map fun v => v.category).sum ≤ W9) (hdg : decode c.code g.pc = .ok (.invokevirtual index, 3))
    (hpre : ∀ vm₁, s.WarmedH vm₁ → Pre ⟨T.setVm vm₁, locs, cells, slots⟩ (Value.ref b :: argsL).toArray) :
    (∃ (v : Option Value) (vm₁ : Vm) (B : Pt), s.WarmedH vm₁ ∧ Stand p l e R s m args below meth c B.U B.locs B.cells B.slots ∧ Post ⟨T.setVm vm₁, locs, cells, slots⟩ (Value.ref b :: argsL).toArray v B ∧
      ∀ target, Steps p.tables e below (B.U.setTop { g with pc := g.pc + 3, stack := v.toList ++ rest }) target → Steps p.tables e below (T.setTop g) target) ∨
    (∃ (q : Addr) (vm₁ : Vm) (B : Pt), s.WarmedH vm₁ ∧ Stand p l e R s m args below meth c B.U B.locs B.cells B.slots ∧ PostX ⟨T.setVm vm₁, locs, cells, slots⟩ (Value.ref b :: argsL).toArray q B ∧
      Steps p.tables e below (T.setTop g) ((B.U.setTop { g with stack := rest }).pushFrame (.throwing q))) := by
  obtain ⟨mk, methM, hnamed, hmethM, hstM, habM⟩ := Cond.instanceMethod_spec hinst
  obtain ⟨methM', cM, hmethM', -, -, -, -, -, -, hsigM⟩ := Cond.code_spec hnamed hcode
  cases hmethM.symm.trans hmethM'
  obtain ⟨c2, r2, m2, q1, q2, q3, q4, kP, hkP, hkPi⟩ := Cond.selects_spec hsel
  cases hcls.symm.trans q1
  cases (State.methodFound?_of_named hnamed hy).symm.trans q2
  cases hnamed.symm.trans q3
  have hselP : selectMethod e.platform s.vm cellB.cls mk = .method mk := by rw [Launch.admits_selectMethod X.admits]; exact q4
  obtain ⟨vm₁, X₁, hstep₁⟩ := X.invokevirtual hexec hown hlink hnamed hmethM hstM hkP hkPi hy (a := b) (cell := cellB) hcell
    (fun z h => by rw [h] at hobj; cases hobj) hselP hmethM habM hkP hkPi (g := g) hg (argsL := argsL) (rest := rest) (hlen _ hsigM) hstack hdg
  rcases hK m meth c ⟨T.setVm vm₁, locs, cells, slots⟩ { g with stack := rest } (.invokevirtual index) mk (Value.ref b :: argsL).toArray X₁ hg hsize hdg hW (X₁.named hnamed) (hpre vm₁ X₁.warmed) with ⟨v, B, X', hpost, hsteps⟩ | ⟨q, B, X', hpost, hsteps⟩
  · exact Or.inl ⟨v, vm₁, B, X₁.warmed, X', hpost, fun target h => hstep₁ _ fun acts => by rw [doInvoke_state]; exact hsteps.trans h⟩
  · exact Or.inr ⟨q, vm₁, B, X₁.warmed, X', hpost, hstep₁ _ fun acts => by rw [doInvoke_state]; exact hsteps⟩
theorem vx_callS (X : Stand p l e R s m args below meth c T locs cells slots) (hexec : p.tables.exec = Jvm.exec) {own : String} {index : Nat} {y : MethodName} {bytes : ByteArray} {maxL : Nat} {ret : Option FieldType}
    (hown : s.vm.findClass own = some m.cls) (hlink : (Cond.methodLink own index y).before args s = true) (hstat : (Cond.static y).before args s = true) (hinit : (Cond.initialized y.cls).before args s = true)
    (hcode : (Cond.code y bytes maxL ret).before args s = true) (hy : y.cls ≠ "java/lang/invoke/MethodHandle" ∧ y.cls ≠ "java/lang/invoke/VarHandle")
    {W9 : Nat} {Pre : Pt → Array Value → Prop} {Post : Pt → Array Value → Option Value → Pt → Prop} {PostX : Pt → Array Value → Addr → Pt → Prop} (hK : vx_Back l R p e below s args y 3 W9 Pre Post PostX)
    {g : JFrame} (hg : g.method = m) (hsize : g.locals.size = c.maxLocals) {argsL rest : List Value} (hlen : ∀ sig, parseMethodDescriptor y.desc = some sig → argsL.length = sig.parameters.length)
    (hstack : g.stack = argsL.reverse ++ rest) (hW : 2 * g.monitorRoom + (rest.map fun v => v.category).sum ≤ W9) (hdg : decode c.code g.pc = .ok (.invokestatic index, 3))
    (hpre : ∀ vm₁, s.WarmedH vm₁ → Pre ⟨T.setVm vm₁, locs, cells, slots⟩ argsL.toArray) :
    (∃ (v : Option Value) (vm₁ : Vm) (B : Pt), s.WarmedH vm₁ ∧ Stand p l e R s m args below meth c B.U B.locs B.cells B.slots ∧ Post ⟨T.setVm vm₁, locs, cells, slots⟩ argsL.toArray v B ∧
      ∀ target, Steps p.tables e below (B.U.setTop { g with pc := g.pc + 3, stack := v.toList ++ rest }) target → Steps p.tables e below (T.setTop g) target) ∨
    (∃ (q : Addr) (vm₁ : Vm) (B : Pt), s.WarmedH vm₁ ∧ Stand p l e R s m args below meth c B.U B.locs B.cells B.slots ∧ PostX ⟨T.setVm vm₁, locs, cells, slots⟩ argsL.toArray q B ∧
      Steps p.tables e below (T.setTop g) ((B.U.setTop { g with stack := rest }).pushFrame (.throwing q))) := by
  obtain ⟨mk, hnamed⟩ := Cond.code_named hcode
  obtain ⟨methM, cM, hmethM, -, -, -, -, -, -, hsigM⟩ := Cond.code_spec hnamed hcode
  have hstatic : methM.isStatic = true := Cond.static_spec hnamed hmethM hstat
  obtain ⟨kP, hkP, -⟩ := className_of_methodNamed hnamed
  have hinitP : kP.init = .initialized := Cond.initialized_spec (findClass_of_methodNamed hnamed) hkP hinit
  obtain ⟨vm₁, X₁, hstep₁⟩ := X.invokestatic hexec hown hlink hnamed hmethM hstatic hkP hinitP hy (g := g) hg (argsL := argsL) (rest := rest) (hlen _ hsigM) hstack hdg
  rcases hK m meth c ⟨T.setVm vm₁, locs, cells, slots⟩ { g with stack := rest } (.invokestatic index) mk argsL.toArray X₁ hg hsize hdg hW (X₁.named hnamed) (hpre vm₁ X₁.warmed) with ⟨v, B, X', hpost, hsteps⟩ | ⟨q, B, X', hpost, hsteps⟩
  · exact Or.inl ⟨v, vm₁, B, X₁.warmed, X', hpost, fun target h => hstep₁ _ fun acts => by rw [doInvoke_state]; exact hsteps.trans h⟩
  · exact Or.inr ⟨q, vm₁, B, X₁.warmed, X', hpost, hstep₁ _ fun acts => by rw [doInvoke_state]; exact hsteps⟩
end Calls
theorem vx_cls {s : State} {T : State} {vm₁ : Vm} {E : String} {k : ClassId} (hW : s.WarmedH vm₁) (h : (T.setVm vm₁).vm.findClass E = some k) : s.vm.findClass E = some k := by
  have h1 : vm₁.findClass E = some k := h
  rw [hW.alike.findClass] at h1
  exact h1
/-- the method's frame g, with q thrown over it -/
def vx_W (p : Program) (l : Launch) (e : Env) (R : Room) (s : State) (m : MethodId) (args : Array Value) (below : List Frame) (meth : Method) (c : Code) (H : Heap) (locs : List Loc) (cells slots : Nat) (Q : State → Prop) (g : JFrame) (q : Addr) : Prop :=
  ∀ T : State, T.heap = H → Stand p l e R s m args below meth c T locs cells slots → ∃ t, Steps p.tables e below ((T.setTop g).pushFrame (.throwing q)) t ∧ Q t
def vx_Run (p : Program) (l : Launch) (e : Env) (R : Room) (s : State) (m : MethodId) (args : Array Value) (below : List Frame) (meth : Method) (c : Code) (H : Heap) (locs : List Loc) (cells slots mc ms : Nat) (g : JFrame) (rest : List Value) (Qa : State → Outcome → State → Prop) (XC : String → State → State → Prop) (free : Addr → Prop) : Prop :=
  ∀ T : State, T.heap = H → Stand p l e R s m args below meth c T locs cells slots →
    (∃ (v : Option Value) (st₀ t T' : State) (L : List Loc), st₀.heap = H ∧ Stand p l e R s m args below meth c T' (locs ++ L) (cells + mc) (slots + ms) ∧ (∀ q ∈ L, free q.base) ∧ T'.heap = t.heap ∧ T'.vm = t.vm ∧ Qa st₀ (.returned v) t ∧
      Goes p e below T g T' { g with pc := g.pc + 3, stack := v.toList ++ rest }) ∨
    (∃ (q : Addr) (st₀ t T' : State) (L : List Loc) (E : String) (ce : Cell), st₀.heap = H ∧ Stand p l e R s m args below meth c T' (locs ++ L) (cells + mc) (slots + ms) ∧ (∀ z ∈ L, free z.base) ∧ T'.heap = t.heap ∧ T'.vm = t.vm ∧ XC E st₀ t ∧ t.heap[q]? = some ce ∧ ce.vm = .none ∧ s.vm.findClass E = some ce.cls ∧
      Steps p.tables e below (T.setTop g) ((T'.setTop { g with stack := rest }).pushFrame (.throwing q)))
def vx_X {S : Type} (px : S → Prop) (B : String → S → State → Prop) (A : Nat → Prop) : String → State → State → Prop := fun E st t => ∃ u : S, px u ∧ B E u t ∧ va_F A st t
section Runs
variable {p : Program} {l : Launch} {e : Env} {R : Room} {s : State} {m : MethodId} {args : Array Value} {below : List Frame} {meth : Method} {c : Code} {H : Heap} {locs : List Loc} {cells slots : Nat}
variable {y : MethodName} {bytes cc : ByteArray} {maxL nL mc ms n index : Nat} {ret : Option FieldType} {ws : List Cond} {rm : Room} {Pc : Array Value → State → Prop} {Qc : Array Value → State → Outcome → State → Prop} {XC : String → State → State → Prop} {free : Addr → Prop} {Ts : List Cond} {own C : String} {b : Addr} {As rest : List Value} {g : JFrame}
theorem vx_callBack (cb : CallB R s args own index y bytes maxL ret ws rm mc ms n) (hM : vx_Met l y ws rm Pc Qc XC mc ms free) (hbl : FrameBlind Pc) : vx_Back l R p e below s args y 3 8 (PreOf R mc ms Pc) (PostOf Qc mc ms free) (vx_Post XC mc ms free) := by
  obtain ⟨hrc, hrs, hfr, hlo, hws, hcw, -, hini, -⟩ := cb
  exact vx_back (bytes := bytes) (maxL := maxL) (ret := ret) hM hbl hrc hrs hfr hlo hws hcw (fun a' U hW => word_at hW (Or.inl (by first | rfl | simp [Cond.onTables, Cond.keeps, Cond.steady])) hini)
theorem vx_runV (S : CallFix p m c cc nL s args Ts own) (hM : vx_Met l y ws rm Pc Qc XC mc ms free) (cw : CallW R s args own C index y bytes maxL ret ws rm mc ms n) (hp : PreV s H C b Pc As)
    (hg : g.method = m) (hn : As.length = n) (hsize : g.locals.size = nL) (hstack : g.stack = As.reverse ++ .ref b :: rest) (hW : 2 * g.monitorRoom + (rest.map fun v => v.category).sum ≤ 8) (hdg : decode cc g.pc = .ok (.invokevirtual index, 3)) (hf : cells + mc ≤ R.cells ∧ slots + ms ≤ R.slots) :
    vx_Run p l e R s m args below meth c H locs cells slots mc ms g rest (Qc (Value.ref b :: As).toArray) XC free := by
  have hK : vx_Back l R p e below s args y 3 8 (PreOf R mc ms Pc) (PostOf Qc mc ms free) (vx_Post XC mc ms free) := vx_callBack cw.1 hM hp.1
  obtain ⟨⟨-, -, -, -, -, -, hcode, -, hy, hlen, hl⟩, hin, hse⟩ := cw
  obtain ⟨hx, hb, hml, ho, -⟩ := S
  obtain ⟨-, ⟨cellB, hcB, hoB, hclB⟩, hPc⟩ := hp
  intro T hT X
  rcases vx_callV X hx (C := C) (bytes := bytes) (maxL := maxL) (ret := ret) ho hl hin hse hcode hy hK (by rw [hT]; exact hcB) hoB hclB hg (hsize.trans hml.symm) (argsL := As) (rest := rest) (fun sig h => hn.trans (hlen sig h)) hstack hW (by rw [hb]; exact hdg)
    (fun vm₁ hW₁ => ⟨hf.1, hf.2, hPc (T.setVm vm₁) hT hW₁⟩) with ⟨v, vm₁, ⟨U', l2, c2, s2⟩, hW₁, X', ⟨g', mk, t, L, e1, e2, hq, h1, hL, h2, h3⟩, st⟩ | ⟨q, vm₁, ⟨U', l2, c2, s2⟩, hW₁, X', ⟨g', mk, t, L, E, ce, e1, e2, hq, hce, hcv, hcl, h1, hL, h2, h3⟩, st⟩
  · dsimp only [Pt.U, Pt.locs, Pt.cells, Pt.slots] at X' e1 e2 h1 h2 h3 st
    subst h1; subst h2; subst h3
    exact Or.inl ⟨v, (T.setVm vm₁).calling g' mk (Value.ref b :: As).toArray, t, U', L, hT, X', hL, e1, e2, hq, st⟩
  · dsimp only [Pt.U, Pt.locs, Pt.cells, Pt.slots] at X' e1 e2 h1 h2 h3 st hcl
    subst h1; subst h2; subst h3
    exact Or.inr ⟨q, (T.setVm vm₁).calling g' mk (Value.ref b :: As).toArray, t, U', L, E, ce, hT, X', hL, e1, e2, hq, hce, hcv, vx_cls hW₁ hcl, st⟩
theorem vx_runS (S : CallFix p m c cc nL s args Ts own) (hM : vx_Met l y ws rm Pc Qc XC mc ms free) (cw : CallB R s args own index y bytes maxL ret ws rm mc ms n ∧ (Cond.static y).before args s = true) (hp : PreS s H Pc As)
    (hg : g.method = m) (hn : As.length = n) (hsize : g.locals.size = nL) (hstack : g.stack = As.reverse ++ rest) (hW : 2 * g.monitorRoom + (rest.map fun v => v.category).sum ≤ 8) (hdg : decode cc g.pc = .ok (.invokestatic index, 3)) (hf : cells + mc ≤ R.cells ∧ slots + ms ≤ R.slots) :
    vx_Run p l e R s m args below meth c H locs cells slots mc ms g rest (Qc As.toArray) XC free := by
  have hK : vx_Back l R p e below s args y 3 8 (PreOf R mc ms Pc) (PostOf Qc mc ms free) (vx_Post XC mc ms free) := vx_callBack cw.1 hM hp.1
  obtain ⟨⟨-, -, -, -, -, -, hcode, hini, hy, hlen, hl⟩, hstt⟩ := cw
  obtain ⟨hx, hb, hml, ho, -⟩ := S
  intro T hT X
  rcases vx_callS X hx (bytes := bytes) (maxL := maxL) (ret := ret) ho hl hstt hini hcode hy hK hg (hsize.trans hml.symm) (argsL := As) (rest := rest) (fun sig h => hn.trans (hlen sig h)) hstack hW (by rw [hb]; exact hdg)
    (fun vm₁ hW₁ => ⟨hf.1, hf.2, hp.2 (T.setVm vm₁) hT hW₁⟩) with ⟨v, vm₁, ⟨U', l2, c2, s2⟩, hW₁, X', ⟨g', mk, t, L, e1, e2, hq, h1, hL, h2, h3⟩, st⟩ | ⟨q, vm₁, ⟨U', l2, c2, s2⟩, hW₁, X', ⟨g', mk, t, L, E, ce, e1, e2, hq, hce, hcv, hcl, h1, hL, h2, h3⟩, st⟩
  · dsimp only [Pt.U, Pt.locs, Pt.cells, Pt.slots] at X' e1 e2 h1 h2 h3 st
    subst h1; subst h2; subst h3
    exact Or.inl ⟨v, (T.setVm vm₁).calling g' mk As.toArray, t, U', L, hT, X', hL, e1, e2, hq, st⟩
  · dsimp only [Pt.U, Pt.locs, Pt.cells, Pt.slots] at X' e1 e2 h1 h2 h3 st hcl
    subst h1; subst h2; subst h3
    exact Or.inr ⟨q, (T.setVm vm₁).calling g' mk As.toArray, t, U', L, E, ce, hT, X', hL, e1, e2, hq, hce, hcv, vx_cls hW₁ hcl, st⟩
end Runs
section Rows
variable {p : Program} {l : Launch} {e : Env} {R : Room} {s : State} {m : MethodId} {args : Array Value} {below : List Frame} {meth : Method} {c : Code} {H : Heap} {locs : List Loc} {cells slots : Nat} {Q : State → Prop}
variable {mc ms : Nat} {free : Addr → Prop} {A0 A1 : Nat → Prop} {H0 : Heap} {a : Array Value} {pc : Nat} {ls : Array Slot} {st0 rest : List Value}
theorem vx_keep {st₀ t T' : State} {L : List Loc} (h0 : st₀.heap = H) (e1 : T'.heap = t.heap) (hS : va_S A0 H0 H locs) (hA : ∀ q, q < H.size → A1 q → A0 q) (hf : ∀ q, free q → A0 q) (hL : ∀ q ∈ L, free q.base) (hF : va_F A1 st₀ t) :
    H.size ≤ T'.heap.size ∧ (∀ q : Nat, q < H.size → ¬ A1 q → T'.heap[q]? = H[q]?) ∧ va_S A0 H0 T'.heap (locs ++ L) := by
  obtain ⟨hz, hk⟩ := hF
  rw [h0] at hz hk
  exact ⟨by rw [e1]; exact hz, fun q h1 h2 => by rw [e1]; exact hk q h1 h2,
    ⟨Nat.le_trans hS.1 (by rw [e1]; exact hz), fun q h1 h2 => by rw [e1, hk q (Nat.lt_of_lt_of_le h1 hS.1) (fun z => h2 (hA q (Nat.lt_of_lt_of_le h1 hS.1) z))]; exact hS.2.1 q h1 h2, fun q hq => by
      rcases List.mem_append.mp hq with h | h
      · exact hS.2.2 q h
      · exact hf _ (hL q h)⟩⟩
theorem vx_calli {S SX : Type} {post : Int32 → S → Prop} {px : SX → Prop} {B : S → State → Prop} {BX : String → SX → State → Prop} {AX : Nat → Prop} (hr : vx_Run p l e R s m args below meth c H locs cells slots mc ms (F0 m pc ls st0) rest (va_Qi post B A1 a) (vx_X px BX AX) free) (hS : va_S A0 H0 H locs) (hA : ∀ q, q < H.size → A1 q → A0 q) (hf : ∀ q, free q → A0 q) (hAX : ∀ q, q < H.size → AX q → A0 q)
    (kx : ∀ (E : String) (ce : Cell) (q9 : Addr) (u : SX) (t : State) (H1 : Heap) (locs1 : List Loc), t.heap = H1 → s.vm.Alike t.vm → px u → BX E u t → H.size ≤ H1.size → (∀ q : Nat, q < H.size → ¬ AX q → H1[q]? = H[q]?) → va_S A0 H0 H1 locs1 → H1[q9]? = some ce → ce.vm = .none → s.vm.findClass E = some ce.cls → vx_W p l e R s m args below meth c H1 locs1 (cells + mc) (slots + ms) Q (F0 m pc ls rest) q9)
    (kk : ∀ (r : Int32) (u : S) (t : State) (H1 : Heap) (locs1 : List Loc), t.heap = H1 → s.vm.Alike t.vm → post r u → B u t → H.size ≤ H1.size → (∀ q : Nat, q < H.size → ¬ A1 q → H1[q]? = H[q]?) → va_S A0 H0 H1 locs1 → W p l e R s m args below meth c H1 locs1 (cells + mc) (slots + ms) Q (F0 m (pc + 3) ls (.int r :: rest))) : W p l e R s m args below meth c H locs cells slots Q (F0 m pc ls st0) := by
  intro T hT X
  rcases hr T hT X with ⟨v, st₀, t, T', L, h0, X', hL, e1, e2, ⟨⟨r, u, hv, hp, hb⟩, hF⟩, st⟩ | ⟨q, st₀, t, T', L, E, ce, h0, X', hL, e1, e2, ⟨u, hp, hb, hF⟩, hce, hcv, hcl, st⟩
  · cases hv
    obtain ⟨k1, k2, k3⟩ := vx_keep h0 e1 hS hA hf hL hF
    obtain ⟨t2, a1, b1⟩ := kk r u t T'.heap (locs ++ L) e1.symm (by rw [← e2]; exact X'.warmed.alike) hp hb k1 k2 k3 T' rfl X'
    exact ⟨t2, st t2 a1, b1⟩
  · obtain ⟨k1, k2, k3⟩ := vx_keep h0 e1 hS hAX hf hL hF
    obtain ⟨t2, a1, b1⟩ := kx E ce q u t T'.heap (locs ++ L) e1.symm (by rw [← e2]; exact X'.warmed.alike) hp hb k1 k2 k3 (by rw [e1]; exact hce) hcv hcl T' rfl X'
    exact ⟨t2, st.trans a1, b1⟩
theorem vx_calll {S SX : Type} {post : Int64 → S → Prop} {px : SX → Prop} {B : S → State → Prop} {BX : String → SX → State → Prop} {AX : Nat → Prop} (hr : vx_Run p l e R s m args below meth c H locs cells slots mc ms (F0 m pc ls st0) rest (va_Ql post B A1 a) (vx_X px BX AX) free) (hS : va_S A0 H0 H locs) (hA : ∀ q, q < H.size → A1 q → A0 q) (hf : ∀ q, free q → A0 q) (hAX : ∀ q, q < H.size → AX q → A0 q)
    (kx : ∀ (E : String) (ce : Cell) (q9 : Addr) (u : SX) (t : State) (H1 : Heap) (locs1 : List Loc), t.heap = H1 → s.vm.Alike t.vm → px u → BX E u t → H.size ≤ H1.size → (∀ q : Nat, q < H.size → ¬ AX q → H1[q]? = H[q]?) → va_S A0 H0 H1 locs1 → H1[q9]? = some ce → ce.vm = .none → s.vm.findClass E = some ce.cls → vx_W p l e R s m args below meth c H1 locs1 (cells + mc) (slots + ms) Q (F0 m pc ls rest) q9)
    (kk : ∀ (r : Int64) (u : S) (t : State) (H1 : Heap) (locs1 : List Loc), t.heap = H1 → s.vm.Alike t.vm → post r u → B u t → H.size ≤ H1.size → (∀ q : Nat, q < H.size → ¬ A1 q → H1[q]? = H[q]?) → va_S A0 H0 H1 locs1 → W p l e R s m args below meth c H1 locs1 (cells + mc) (slots + ms) Q (F0 m (pc + 3) ls (.long r :: rest))) : W p l e R s m args below meth c H locs cells slots Q (F0 m pc ls st0) := by
  intro T hT X
  rcases hr T hT X with ⟨v, st₀, t, T', L, h0, X', hL, e1, e2, ⟨⟨r, u, hv, hp, hb⟩, hF⟩, st⟩ | ⟨q, st₀, t, T', L, E, ce, h0, X', hL, e1, e2, ⟨u, hp, hb, hF⟩, hce, hcv, hcl, st⟩
  · cases hv
    obtain ⟨k1, k2, k3⟩ := vx_keep h0 e1 hS hA hf hL hF
    obtain ⟨t2, a1, b1⟩ := kk r u t T'.heap (locs ++ L) e1.symm (by rw [← e2]; exact X'.warmed.alike) hp hb k1 k2 k3 T' rfl X'
    exact ⟨t2, st t2 a1, b1⟩
  · obtain ⟨k1, k2, k3⟩ := vx_keep h0 e1 hS hAX hf hL hF
    obtain ⟨t2, a1, b1⟩ := kx E ce q u t T'.heap (locs ++ L) e1.symm (by rw [← e2]; exact X'.warmed.alike) hp hb k1 k2 k3 (by rw [e1]; exact hce) hcv hcl T' rfl X'
    exact ⟨t2, st.trans a1, b1⟩
theorem vx_callf {S SX : Type} {post : UInt32 → S → Prop} {px : SX → Prop} {B : S → State → Prop} {BX : String → SX → State → Prop} {AX : Nat → Prop} (hr : vx_Run p l e R s m args below meth c H locs cells slots mc ms (F0 m pc ls st0) rest (va_Qf post B A1 a) (vx_X px BX AX) free) (hS : va_S A0 H0 H locs) (hA : ∀ q, q < H.size → A1 q → A0 q) (hf : ∀ q, free q → A0 q) (hAX : ∀ q, q < H.size → AX q → A0 q)
    (kx : ∀ (E : String) (ce : Cell) (q9 : Addr) (u : SX) (t : State) (H1 : Heap) (locs1 : List Loc), t.heap = H1 → s.vm.Alike t.vm → px u → BX E u t → H.size ≤ H1.size → (∀ q : Nat, q < H.size → ¬ AX q → H1[q]? = H[q]?) → va_S A0 H0 H1 locs1 → H1[q9]? = some ce → ce.vm = .none → s.vm.findClass E = some ce.cls → vx_W p l e R s m args below meth c H1 locs1 (cells + mc) (slots + ms) Q (F0 m pc ls rest) q9)
    (kk : ∀ (r : UInt32) (u : S) (t : State) (H1 : Heap) (locs1 : List Loc), t.heap = H1 → s.vm.Alike t.vm → post r u → B u t → H.size ≤ H1.size → (∀ q : Nat, q < H.size → ¬ A1 q → H1[q]? = H[q]?) → va_S A0 H0 H1 locs1 → W p l e R s m args below meth c H1 locs1 (cells + mc) (slots + ms) Q (F0 m (pc + 3) ls (.float r :: rest))) : W p l e R s m args below meth c H locs cells slots Q (F0 m pc ls st0) := by
  intro T hT X
  rcases hr T hT X with ⟨v, st₀, t, T', L, h0, X', hL, e1, e2, ⟨⟨r, u, hv, hp, hb⟩, hF⟩, st⟩ | ⟨q, st₀, t, T', L, E, ce, h0, X', hL, e1, e2, ⟨u, hp, hb, hF⟩, hce, hcv, hcl, st⟩
  · cases hv
    obtain ⟨k1, k2, k3⟩ := vx_keep h0 e1 hS hA hf hL hF
    obtain ⟨t2, a1, b1⟩ := kk r u t T'.heap (locs ++ L) e1.symm (by rw [← e2]; exact X'.warmed.alike) hp hb k1 k2 k3 T' rfl X'
    exact ⟨t2, st t2 a1, b1⟩
  · obtain ⟨k1, k2, k3⟩ := vx_keep h0 e1 hS hAX hf hL hF
    obtain ⟨t2, a1, b1⟩ := kx E ce q u t T'.heap (locs ++ L) e1.symm (by rw [← e2]; exact X'.warmed.alike) hp hb k1 k2 k3 (by rw [e1]; exact hce) hcv hcl T' rfl X'
    exact ⟨t2, st.trans a1, b1⟩
theorem vx_calld {S SX : Type} {post : UInt64 → S → Prop} {px : SX → Prop} {B : S → State → Prop} {BX : String → SX → State → Prop} {AX : Nat → Prop} (hr : vx_Run p l e R s m args below meth c H locs cells slots mc ms (F0 m pc ls st0) rest (va_Qd post B A1 a) (vx_X px BX AX) free) (hS : va_S A0 H0 H locs) (hA : ∀ q, q < H.size → A1 q → A0 q) (hf : ∀ q, free q → A0 q) (hAX : ∀ q, q < H.size → AX q → A0 q)
    (kx : ∀ (E : String) (ce : Cell) (q9 : Addr) (u : SX) (t : State) (H1 : Heap) (locs1 : List Loc), t.heap = H1 → s.vm.Alike t.vm → px u → BX E u t → H.size ≤ H1.size → (∀ q : Nat, q < H.size → ¬ AX q → H1[q]? = H[q]?) → va_S A0 H0 H1 locs1 → H1[q9]? = some ce → ce.vm = .none → s.vm.findClass E = some ce.cls → vx_W p l e R s m args below meth c H1 locs1 (cells + mc) (slots + ms) Q (F0 m pc ls rest) q9)
    (kk : ∀ (r : UInt64) (u : S) (t : State) (H1 : Heap) (locs1 : List Loc), t.heap = H1 → s.vm.Alike t.vm → post r u → B u t → H.size ≤ H1.size → (∀ q : Nat, q < H.size → ¬ A1 q → H1[q]? = H[q]?) → va_S A0 H0 H1 locs1 → W p l e R s m args below meth c H1 locs1 (cells + mc) (slots + ms) Q (F0 m (pc + 3) ls (.double r :: rest))) : W p l e R s m args below meth c H locs cells slots Q (F0 m pc ls st0) := by
  intro T hT X
  rcases hr T hT X with ⟨v, st₀, t, T', L, h0, X', hL, e1, e2, ⟨⟨r, u, hv, hp, hb⟩, hF⟩, st⟩ | ⟨q, st₀, t, T', L, E, ce, h0, X', hL, e1, e2, ⟨u, hp, hb, hF⟩, hce, hcv, hcl, st⟩
  · cases hv
    obtain ⟨k1, k2, k3⟩ := vx_keep h0 e1 hS hA hf hL hF
    obtain ⟨t2, a1, b1⟩ := kk r u t T'.heap (locs ++ L) e1.symm (by rw [← e2]; exact X'.warmed.alike) hp hb k1 k2 k3 T' rfl X'
    exact ⟨t2, st t2 a1, b1⟩
  · obtain ⟨k1, k2, k3⟩ := vx_keep h0 e1 hS hAX hf hL hF
    obtain ⟨t2, a1, b1⟩ := kx E ce q u t T'.heap (locs ++ L) e1.symm (by rw [← e2]; exact X'.warmed.alike) hp hb k1 k2 k3 (by rw [e1]; exact hce) hcv hcl T' rfl X'
    exact ⟨t2, st.trans a1, b1⟩
theorem vx_callv {S SX : Type} {post : S → Prop} {px : SX → Prop} {B : S → State → Prop} {BX : String → SX → State → Prop} {AX : Nat → Prop} (hr : vx_Run p l e R s m args below meth c H locs cells slots mc ms (F0 m pc ls st0) rest (va_Qv post B A1 a) (vx_X px BX AX) free) (hS : va_S A0 H0 H locs) (hA : ∀ q, q < H.size → A1 q → A0 q) (hf : ∀ q, free q → A0 q) (hAX : ∀ q, q < H.size → AX q → A0 q)
    (kx : ∀ (E : String) (ce : Cell) (q9 : Addr) (u : SX) (t : State) (H1 : Heap) (locs1 : List Loc), t.heap = H1 → s.vm.Alike t.vm → px u → BX E u t → H.size ≤ H1.size → (∀ q : Nat, q < H.size → ¬ AX q → H1[q]? = H[q]?) → va_S A0 H0 H1 locs1 → H1[q9]? = some ce → ce.vm = .none → s.vm.findClass E = some ce.cls → vx_W p l e R s m args below meth c H1 locs1 (cells + mc) (slots + ms) Q (F0 m pc ls rest) q9)
    (kk : ∀ (u : S) (t : State) (H1 : Heap) (locs1 : List Loc), t.heap = H1 → s.vm.Alike t.vm → post u → B u t → H.size ≤ H1.size → (∀ q : Nat, q < H.size → ¬ A1 q → H1[q]? = H[q]?) → va_S A0 H0 H1 locs1 → W p l e R s m args below meth c H1 locs1 (cells + mc) (slots + ms) Q (F0 m (pc + 3) ls (rest))) : W p l e R s m args below meth c H locs cells slots Q (F0 m pc ls st0) := by
  intro T hT X
  rcases hr T hT X with ⟨v, st₀, t, T', L, h0, X', hL, e1, e2, ⟨⟨u, hv, hp, hb⟩, hF⟩, st⟩ | ⟨q, st₀, t, T', L, E, ce, h0, X', hL, e1, e2, ⟨u, hp, hb, hF⟩, hce, hcv, hcl, st⟩
  · cases hv
    obtain ⟨k1, k2, k3⟩ := vx_keep h0 e1 hS hA hf hL hF
    obtain ⟨t2, a1, b1⟩ := kk u t T'.heap (locs ++ L) e1.symm (by rw [← e2]; exact X'.warmed.alike) hp hb k1 k2 k3 T' rfl X'
    exact ⟨t2, st t2 a1, b1⟩
  · obtain ⟨k1, k2, k3⟩ := vx_keep h0 e1 hS hAX hf hL hF
    obtain ⟨t2, a1, b1⟩ := kx E ce q u t T'.heap (locs ++ L) e1.symm (by rw [← e2]; exact X'.warmed.alike) hp hb k1 k2 k3 (by rw [e1]; exact hce) hcv hcl T' rfl X'
    exact ⟨t2, st.trans a1, b1⟩
/-- caught by the row x of this method's table; the rows ahead don't take it -/
theorem vx_catch {own name : String} {E : String} {ce : Cell} {q : Addr} (hown : s.vm.findClass own = some m.cls) (pre : List ExceptionTableEntry) (x : ExceptionTableEntry) (suf : List ExceptionTableEntry) (hsplit : c.exceptionTable.toList = pre ++ x :: suf)
    (hpass : ∀ z ∈ pre, covers z pc = false ∨ (z.catchType ≠ 0 ∧ ∃ nm : String, (Cond.classLink own z.catchType nm).before args s = true ∧ va_Nc E nm s)) (hx : covers x pc = true) (h0 : x.catchType ≠ 0)
    (hlink : (Cond.classLink own x.catchType name).before args s = true) (hcast : (Cond.castable E name).before args s = true) (hcell : H[q]? = some ce) (hv : ce.vm = .none) (hcl : s.vm.findClass E = some ce.cls)
    (kk : W p l e R s m args below meth c H locs cells slots Q (F0 m x.handlerPc ls [.ref q])) : vx_W p l e R s m args below meth c H locs cells slots Q (F0 m pc ls rest) q := by
  intro T hT X
  have hpl : e.platform.magicAccessors = ({} : Platform).magicAccessors := by rw [X.admits.platform]
  obtain ⟨c3, c4, hc3, hc4, hasg⟩ := Cond.castable_spec hcast
  cases Option.some.inj (hc3.symm.trans hcl)
  obtain ⟨c5, hc5, hcl5⟩ := Cond.classLink_spec hown hlink e.platform hpl
  cases Option.some.inj (hc4.symm.trans hc5)
  obtain ⟨vm', X', st⟩ := X.thenCaughtThrough q (g := F0 m pc ls rest) rfl (Steps.refl _) (by rw [hT]; exact hcell) (by rw [hv]; rfl) (by obtain ⟨k9, h9, -⟩ := Vm.findClass_spec hcl; exact ⟨k9, h9⟩) pre x suf hsplit
    (fun z hz => by
      rcases hpass z hz with h | ⟨hz0, nm, hl1, hn1⟩
      · exact Or.inl h
      · obtain ⟨c6, hc6, hcl6⟩ := Cond.classLink_spec hown hl1 e.platform hpl
        obtain ⟨a8, b8, h1, h2, h3⟩ := hn1
        cases Option.some.inj (h1.symm.trans hcl)
        cases Option.some.inj (h2.symm.trans hc6)
        exact Or.inr ⟨hz0, _, hcl6, h3⟩) hx (Or.inr ⟨h0, c4, hcl5, hasg⟩)
  obtain ⟨t, a1, b1⟩ := kk (T.setVm vm') hT X'
  exact ⟨t, st.trans a1, b1⟩
end Rows
section Ends
variable {p : Program} {l : Launch} {e : Env} {R : Room} {s : State} {m : MethodId} {args : Array Value} {below : List Frame} {meth : Method} {c : Code} {H : Heap} {locs : List Loc} {cells slots : Nat} {Q : State → Prop}
variable {mc ms : Nat} {free : Addr → Prop} {A0 A1 : Nat → Prop} {H0 : Heap} {a : Array Value} {ls : Array Slot} {st0 rest : List Value}
variable {Qc : Array Value → State → Outcome → State → Prop} {XC : String → State → State → Prop}
/-- what a body that may throw owes at its end -/
def vx_MQ (below : List Frame) (Qc : Array Value → State → Outcome → State → Prop) (XC : String → State → State → Prop) (a : Array Value) (s : State) (mc ms : Nat) (free : Addr → Prop) : State → Prop := fun t =>
  ∃ o, t.status = .running ∧ Ended t below o ∧ vx_Q Qc XC mc ms free a s o t
theorem vx_ret {g : JFrame} {mc ms : Nat} (k : W p l e R s m args below meth c H locs cells slots (MQ below Qc args s mc ms free) g) : W p l e R s m args below meth c H locs cells slots (vx_MQ below Qc XC args s mc ms free) g := by
  intro T hT X
  obtain ⟨t, a1, o, b1, b2, b3, b4⟩ := k T hT X
  exact ⟨t, a1, o, b1, b2, Or.inl ⟨b3, b4⟩⟩
/-- not caught here: it goes on to the caller -/
theorem vx_widen {g : JFrame} {q : Addr} {k n : Nat} (h1 : cells ≤ k) (h2 : slots ≤ n) (kk : vx_W p l e R s m args below meth c H locs k n Q g q) : vx_W p l e R s m args below meth c H locs cells slots Q g q := fun T hT X => kk T hT (stand_widen X h1 h2)
theorem vx_out {pc : Nat} {E : String} {ce : Cell} {q : Addr} {mc ms : Nat} (hout : ∀ x ∈ c.exceptionTable.toList, covers x pc = false) (hlocks : meth.locks = false) (hcell : H[q]? = some ce) (hv : ce.vm = .none) (hcl : s.vm.findClass E = some ce.cls)
    (hx : ∀ t : State, t.heap = H → s.vm.Alike t.vm → XC E s t) (hf : ∀ z ∈ locs, free z.base) (hc : cells ≤ mc) (hs : slots ≤ ms) :
    vx_W p l e R s m args below meth c H locs cells slots (vx_MQ below Qc XC args s mc ms free) (F0 m pc ls rest) q := by
  intro T hT X
  obtain ⟨st1, hrun, hend, hW, hsm⟩ := X.leaveThrown q (g := F0 m pc ls rest) rfl rfl rfl hout hlocks
  have hcell9 : (T.setFrames (.throwing q :: below)).heap[q]? = some ce := by
    show T.heap[q]? = some ce
    rw [hT]; exact hcell
  exact ⟨_, st1, .threw q, hrun, hend, Or.inr ⟨q, rfl, E, ce, locs, hx _ hT hW.alike, hcell9, hv, hcl, hW, hsm.mono hc hs, hf⟩⟩
theorem vx_frame {U : State} {k n : Nat} (h : s.sameButNew ({ U with vm := s.vm } : State) locs k n) : s.heap.size ≤ U.heap.size ∧ ∀ q : Nat, q < s.heap.size → (∀ z ∈ locs, z.base ≠ q) → U.heap[q]? = s.heap[q]? := by
  obtain ⟨-, h2, -, -, -, h6⟩ := h
  refine ⟨h2, fun q hq hz => ?_⟩
  obtain ⟨c9, e1, e2, e3, e4⟩ := h6 q _ (Array.getElem?_eq_getElem hq)
  have hs : c9.slots = (s.heap[q]).slots := Array.ext_getElem? fun i => e4 i fun hm => hz _ hm rfl
  have h9 : c9 = s.heap[q] := by
    rw [hs] at e2
    exact e2
  have e5 : U.heap[q]? = some c9 := e1
  rw [e5, h9, Array.getElem?_eq_getElem hq]
/-- the words of a throw but the four that speak of the heap -/
def vx_no (w : Cond) : Bool := decide (w ≠ .isRef (.static Bundle.tN "UNASSIGNED_STACK" Bundle.steD)) && decide (w ≠ .isRef (.static Bundle.tN "SUPPRESSED_SENTINEL" Bundle.listD)) && decide (w ≠ .laysStatic Bundle.tN "UNASSIGNED_STACK" Bundle.steD) && decide (w ≠ .laysStatic Bundle.tN "SUPPRESSED_SENTINEL" Bundle.listD)
def vx_at0 (own : String) (ic : Nat) (X : String) (names : List String) : List Cond := (Bundle.ownAtoms0 own ic X names).filter vx_no
def vx_atS (own : String) (ic : Nat) (X : String) (names : List String) : List Cond := (Bundle.ownAtoms own ic X names).filter vx_no
/-- a word that the tables alone decide, or a good one -/
def vx_ot (w : Cond) : Bool := w.onTables || goodWord w
theorem vx_ot_at {args a' : Array Value} {s U : State} {w : Cond} (hW : s.WarmedH U.vm) (hvm : s.vm = U.vm) (hg : vx_ot w = true) (h : w.before args s = true) : w.before a' U = true := by
  simp only [vx_ot, Bool.or_eq_true] at hg
  rcases hg with hg | hg
  · exact va_tabs hg hvm h
  · exact word_at hW (good_of_word hg) h
/-- a list's words: the good ones out of the method's own list, the others by premises of their own -/
theorem vx_hat {args : Array Value} {s : State} {L B : List Cond} (h1 : ∀ w ∈ L.filter goodWord, w.before args s = true) (h2 : ∀ w ∈ L.filter (fun w => !goodWord w), w ∈ B) (h3 : ∀ w ∈ B, w.before args s = true) : ∀ w ∈ L, w.before args s = true := by
  intro w hw
  by_cases g : goodWord w = true
  · exact h1 w (List.mem_filter.mpr ⟨hw, g⟩)
  · refine h3 w (h2 w (List.mem_filter.mpr ⟨hw, ?_⟩))
    show (!goodWord w) = true
    cases hgw : goodWord w
    · rfl
    · exact absurd hgw g
theorem vx_c {args : Array Value} {s : State} {w : Cond} {B : List Cond} (h : w.before args s = true) (t : ∀ w ∈ B, w.before args s = true) : ∀ w' ∈ w :: B, w'.before args s = true := fun w' h' => (List.mem_cons.mp h').elim (fun e => by rw [e]; exact h) (t w')
theorem vx_n {args : Array Value} {s : State} : ∀ w ∈ ([] : List Cond), w.before args s = true := fun _ h => nomatch h
theorem vx_own {args : Array Value} {s : State} {L : List Cond} (h1 : ∀ w ∈ L.filter vx_no, w.before args s = true)
    (hU : (Cond.isRef (.static Bundle.tN "UNASSIGNED_STACK" Bundle.steD)).before args s = true) (hN : (Cond.isRef (.static Bundle.tN "SUPPRESSED_SENTINEL" Bundle.listD)).before args s = true)
    (lU : (Cond.laysStatic Bundle.tN "UNASSIGNED_STACK" Bundle.steD).before args s = true) (lN : (Cond.laysStatic Bundle.tN "SUPPRESSED_SENTINEL" Bundle.listD).before args s = true) : ∀ w ∈ L, w.before args s = true := by
  intro w hw
  by_cases e1 : w = .isRef (.static Bundle.tN "UNASSIGNED_STACK" Bundle.steD)
  · rw [e1]; exact hU
  · by_cases e2 : w = .isRef (.static Bundle.tN "SUPPRESSED_SENTINEL" Bundle.listD)
    · rw [e2]; exact hN
    · by_cases e3 : w = .laysStatic Bundle.tN "UNASSIGNED_STACK" Bundle.steD
      · rw [e3]; exact lU
      · by_cases e4 : w = .laysStatic Bundle.tN "SUPPRESSED_SENTINEL" Bundle.listD
        · rw [e4]; exact lN
        · exact h1 w (List.mem_filter.mpr ⟨hw, by unfold vx_no; rw [decide_eq_true e1, decide_eq_true e2, decide_eq_true e3, decide_eq_true e4]; rfl⟩)
/-- where a static field lies, its class's statics cell in H -/
def vx_L (C n d : String) (A : Nat → Prop) (U : State) (H : Heap) : Prop := ∃ (c : ClassId) (k : Class) (i : Nat) (f : Field) (a : Nat) (cell : Cell), U.vm.findClass C = some c ∧ U.fieldFound? C n d = some (c, k, i, f) ∧ f.isStatic = true ∧ k.statics = some a ∧ H[a]? = some cell ∧ cell.vm.isStatics = true ∧ cell.cls = c ∧ f.slot < cell.slots.size ∧ k.staticTypes[f.slot]? = some f.type ∧ ¬ A a
theorem vx_L.moved {C n d : String} {A : Nat → Prop} {u U : State} {H : Heap} (hvm : u.vm.Alike U.vm) (h : vx_L C n d A u H) : vx_L C n d A U H := by
  obtain ⟨c, k, i, f, a, cell, h1, h2, h3, h4, h5, h6, h7, h8, h9, h10⟩ := h
  obtain ⟨k', hi', he⟩ := State.fieldFound?_setVm hvm h2
  exact ⟨c, k', i, f, a, cell, by rw [hvm.findClass]; exact h1, hi', h3, by rw [he]; exact h4, h5, h6, h7, h8, by rw [he]; exact h9, h10⟩
theorem vx_L.kept {C n d : String} {A : Nat → Prop} {U : State} {H H1 : Heap} (h : vx_L C n d A U H) (hq : ∀ a : Nat, a < H.size → ¬ A a → H1[a]? = H[a]?) : vx_L C n d A U H1 := by
  obtain ⟨c, k, i, f, a, cell, h1, h2, h3, h4, h5, h6, h7, h8, h9, h10⟩ := h
  exact ⟨c, k, i, f, a, cell, h1, h2, h3, h4, by rw [hq a (Array.getElem?_eq_some_iff.mp h5).1 h10]; exact h5, h6, h7, h8, h9, h10⟩
theorem vx_L.narrow {C n d : String} {A B : Nat → Prop} {U : State} {H : Heap} (h : vx_L C n d A U H) (hAB : ∀ q, B q → A q) : vx_L C n d B U H := by
  obtain ⟨c, k, i, f, a, cell, h1, h2, h3, h4, h5, h6, h7, h8, h9, h10⟩ := h
  exact ⟨c, k, i, f, a, cell, h1, h2, h3, h4, h5, h6, h7, h8, h9, fun z => h10 (hAB _ z)⟩
theorem vx_L.word {C n d : String} {A : Nat → Prop} {s : State} {args : Array Value} (h : vx_L C n d A s s.heap) : (Cond.laysStatic C n d).before args s = true := by
  obtain ⟨c, k, i, f, a, cell, h1, h2, h3, h4, h5, h6, h7, h8, h9, -⟩ := h
  show (Cond.laysStatic C n d).holds args s none s [] = true
  exact Cond.laysStatic_of h1 h2 h3 h4 h5 h6 h7 h8 h9
/-- .. and what it holds: null or some reference -/
def vx_Zq (C n d : String) (A : Nat → Prop) (U : State) (H : Heap) : Prop := va_Zq C n d A U H ∧ vx_L C n d A U H
theorem vx_Zq.moved {C n d : String} {A : Nat → Prop} {u U : State} {H : Heap} (hvm : u.vm.Alike U.vm) (h : vx_Zq C n d A u H) : vx_Zq C n d A U H := ⟨va_Zq.moved hvm h.1, vx_L.moved hvm h.2⟩
theorem vx_Zq.kept {C n d : String} {A : Nat → Prop} {U : State} {H H1 : Heap} (h : vx_Zq C n d A U H) (hq : ∀ a : Nat, a < H.size → ¬ A a → H1[a]? = H[a]?) : vx_Zq C n d A U H1 := ⟨va_Zq.kept h.1 hq, vx_L.kept h.2 hq⟩
theorem vx_Zq.narrow {C n d : String} {A B : Nat → Prop} {U : State} {H : Heap} (h : vx_Zq C n d A U H) (hAB : ∀ q, B q → A q) : vx_Zq C n d B U H := ⟨va_Zq.narrow h.1 hAB, vx_L.narrow h.2 hAB⟩
theorem vx_Zqof {args : Array Value} {s : State} {C n d : String} {A : Nat → Prop} (hl : (Cond.laysStatic C n d).before args s = true) (hini : (Cond.initialized C).before args s = true) (h : (Cond.isRef (.static C n d)).before args s = true) (hA : ∀ a : Nat, a < s.heap.size → ¬ A a) : vx_Zq C n d A s s.heap := by
  refine ⟨va_Zqof hl hini h hA, ?_⟩
  obtain ⟨c, k, i, f, a, cell, h1, h2, h3, h4, h5, h6, h7, h8, h9⟩ := Cond.laysStatic_spec hl
  exact ⟨c, k, i, f, a, cell, h1, h2, h3, h4, h5, h6, h7, h8, h9, hA a (Array.getElem?_eq_some_iff.mp h5).1⟩
theorem vx_isRef {C n d : String} {v : Value} {A : Nat → Prop} {s : State} {args : Array Value} (h : va_Z C n d v A s s.heap) (hv : v.isRef = true) : (Cond.isRef (.static C n d)).before args s = true := by
  obtain ⟨cf, kf, fi, f, a, cell, h1, h2, h3, h4, h5, h6, h7, -⟩ := h
  have he : (Term.static C n d).eval args s none [] s = some v := by
    simp [Term.eval, State.fieldNamed?, h1, h2, h4, h5, h6, h7]
  simp only [Cond.before, Cond.holds, Cond.value, he]
  cases v <;> simp_all [Value.isRef]
theorem vx_isRefq {C n d : String} {A : Nat → Prop} {s : State} {args : Array Value} (h : va_Zq C n d A s s.heap) : (Cond.isRef (.static C n d)).before args s = true := by
  rcases h with h | ⟨t, h⟩
  · exact vx_isRef h rfl
  · exact vx_isRef h rfl
/-- the same frame, seen from here: as if the method were called anew in this heap -/
theorem vx_rebase {T : State} (X : Stand p l e R s m args below meth c T locs cells slots) {R' : Room} (hf : R'.frames ≤ R.frames) (hl : R'.locals ≤ R.locals) (hc : cells + R'.cells ≤ R.cells) (hs : slots + R'.slots ≤ R.slots) :
    Stand p l e R' ((T.setVm s.vm).setFrames (.invoking m args :: below)) m args below meth c T [] 0 0 := by
  have htop : (T.setVm s.vm).topJava?.isSome := X.here.top
  have hF : ((T.setVm s.vm).setFrames (.invoking m args :: below)).frames = .invoking m args :: below := State.frames_setFrames _ (State.cur_lt_of_top htop)
  obtain ⟨g₀, hg0⟩ := Option.isSome_iff_exists.mp htop
  obtain ⟨r, hr⟩ := State.topJava?_eq_some.mp hg0
  have hl9 : e.platform.stackLimits (T.setVm s.vm).me = e.platform.stackLimits s.me := X.limits
  have hb9 : (T.setVm s.vm).me.stackBytes = s.me.stackBytes := X.bytes
  refine ⟨X.admits, X.cas, X.clock, hF, ?_, X.hears, X.method, X.code, X.here, X.tail, X.warmed, ?_, ?_, ?_⟩
  · have h := X.room
    have hU : ((T.setVm s.vm).setFrames (.invoking m args :: below)).localsInUse = s.localsInUse := by
      rw [State.localsInUse_invoking hF (meth := meth) (c := c) X.method X.code, State.localsInUse_invoking X.frames X.method X.code]
    simp only [State.hasRoom, Bool.and_eq_true, decide_eq_true_eq] at h ⊢
    obtain ⟨⟨⟨⟨h1, h2, h3, h4, h5, h6⟩, h7⟩, h8⟩, h9⟩ := h
    rw [X.frames, List.length_cons] at h2 h3
    have q1 := X.heapSize
    have q2 := X.used
    simp only [hF, hU, List.length_cons, State.stackLimits_setFrames, State.stackBytes_setFrames, hl9, hb9]
    refine ⟨⟨⟨⟨by omega, by omega, by omega, by omega, by omega, h6⟩, ?_⟩, ?_⟩, X.book⟩
    · show T.heap.size + R'.cells ≤ e.platform.maxCells
      omega
    · show T.slotsUsed + R'.slots ≤ e.platform.maxSlots
      omega
  · rw [State.stackLimits_setFrames]; rfl
  · rw [State.stackBytes_setFrames]; rfl
  · refine ⟨?_, Nat.le_refl _, Nat.le_refl _, ?_, ?_, fun a c9 h9 => ⟨c9, h9, rfl, rfl, fun _ _ => rfl⟩⟩
    · obtain ⟨t, ht, -⟩ := State.frames_cons hr
      show T.setVm s.vm = { ((T.setVm s.vm).setFrames (.invoking m args :: below)).setFrames (T.setVm s.vm).frames with heap := T.heap, slotsUsed := T.slotsUsed }
      rw [State.setFrames_setFrames, State.setFrames_self ht]
      rfl
    · show T.slotsUsed = T.slotsUsed + ((T.heap.toList.drop T.heap.size).map (·.slots.size)).sum
      rw [List.drop_eq_nil_of_le (Nat.le_of_eq Array.length_toList)]
      rfl
    · show ((T.heap.toList.drop T.heap.size).map (·.slots.size)).sum ≤ 0
      rw [List.drop_eq_nil_of_le (Nat.le_of_eq Array.length_toList)]
      exact Nat.le_refl _
/-- 'throw new E()': new; dup; invokespecial; athrow -/
theorem vx_throw0 {cc : ByteArray} {pc : Nat} (hexec : p.tables.exec = Jvm.exec) (hb : c.code = cc) (hl : l.stackTraces = false) {own cls : String} {names : List String} {ik ic mc ms : Nat} {A : Nat → Prop}
    (hown : s.vm.findClass own = some m.cls) (hcls : Bundle.fit cls = true) (hnames : ∀ n ∈ names, Bundle.fit n = true)
    (hk : (Cond.classLink own ik cls).before args s = true) (hini : (Cond.initialized cls).before args s = true) (hat : ∀ w ∈ vx_at0 own ic cls names, w.before args s = true)
    (hgood : ∀ w ∈ Cond.classLink own ik cls :: Cond.initialized cls :: vx_at0 own ic cls names, vx_ot w = true)
    (hU : vx_Zq Bundle.tN "UNASSIGNED_STACK" Bundle.steD A s s.heap) (hN : vx_Zq Bundle.tN "SUPPRESSED_SENTINEL" Bundle.listD A s s.heap) (hS : va_S A s.heap H locs) (hsize : ls.size = c.maxLocals)
    (d0 : decode cc pc = .ok (.new ik, 3)) (d3 : decode cc (pc + 3) = .ok (.dup, 1)) (d4 : decode cc (pc + 4) = .ok (.invokespecial ic, 3)) (d7 : decode cc (pc + 7) = .ok (.athrow, 1))
    (hout : ∀ x ∈ c.exceptionTable.toList, covers x (pc + 7) = false)
    (hRframes : names.length + 3 < R.frames) (hRlocals : (rest.map fun v => v.category).sum + (13 * (names.length + 1) + 42) ≤ R.locals) (hRcells : cells + 1 ≤ R.cells) (hRslots : slots + 6 ≤ R.slots) (hlocks : meth.locks = false)
    (hx : ∀ t : State, s.vm.Alike t.vm → H.size ≤ t.heap.size → (∀ q : Nat, q < H.size → t.heap[q]? = H[q]?) → XC cls s t)
    (hf : ∀ z ∈ locs, free z.base) (hc : cells + 1 ≤ mc) (hs : slots + 6 ≤ ms) :
    W p l e R s m args below meth c H locs cells slots (vx_MQ below Qc XC args s mc ms free) (F0 m pc ls rest) := by
  intro T hT X
  have htr : e.platform.stackTraces = false := (show e.platform.stackTraces = l.stackTraces by rw [X.admits.platform]).trans hl
  have Y := vx_rebase X (R' := { frames := R.frames, locals := R.locals, cells := 1, slots := 6 }) (Nat.le_refl _) (Nat.le_refl _) hRcells hRslots
  obtain ⟨s', hA⟩ : ∃ z, z = (T.setVm s.vm).setFrames (.invoking m args :: below) := ⟨_, rfl⟩
  rw [← hA] at Y
  have hvm : s'.vm = s.vm := by rw [hA]; rfl
  have hhp : s'.heap = H := by rw [hA]; exact hT
  have hW0 : s.WarmedH s'.vm := by rw [hvm]; exact State.WarmedH.refl s
  have hat' : ∀ w ∈ vx_at0 own ic cls names, w.before args s' = true := fun w hw => vx_ot_at hW0 hvm.symm (hgood w (List.mem_cons_of_mem _ (List.mem_cons_of_mem _ hw))) (hat w hw)
  have hk' : (Cond.classLink own ik cls).before args s' = true := vx_ot_at hW0 hvm.symm (hgood _ List.mem_cons_self) hk
  have hini' : (Cond.initialized cls).before args s' = true := vx_ot_at hW0 hvm.symm (hgood _ (List.mem_cons_of_mem _ List.mem_cons_self)) hini
  have hU' : vx_Zq Bundle.tN "UNASSIGNED_STACK" Bundle.steD A s' s'.heap := by rw [hhp]; exact vx_Zq.moved hW0.alike (hU.kept hS.2.1)
  have hN' : vx_Zq Bundle.tN "SUPPRESSED_SENTINEL" Bundle.listD A s' s'.heap := by rw [hhp]; exact vx_Zq.moved hW0.alike (hN.kept hS.2.1)
  have h : ∀ w ∈ Bundle.ownAtoms0 own ic cls names, w.before args s' = true := vx_own hat' (vx_isRefq hU'.1) (vx_isRefq hN'.1) hU'.2.word hN'.2.word
  have hown' : s'.vm.findClass own = some m.cls := by rw [hvm]; exact hown
  have hins : (Cond.instantiable cls 6).before args s' = true := h _ (by simp [Bundle.ownAtoms0])
  obtain ⟨vm₁, cX, kX, hfX, hkX, -, -, X₁, st1⟩ := Y.newCold hexec (own := own) (C := cls) (index := ik) (n := 6) hown' hk' hins hini'
    (g := F0 m pc ls rest) rfl (by rw [hb]; exact d0) (Nat.le_refl _) (Nat.le_refl _)
  generalize hT1 : (T.setVm vm₁).pushCell { cls := cX, slots := kX.instanceTypes.map defaultValue, vm := .none } = T1 at X₁ st1
  have hcat : (Value.ref T.heap.size).category = 1 := rfl
  have hcellA : T1.heap[T.heap.size]? = some (freshCell cX kX) := by rw [← hT1]; exact State.heap_pushCell_size _ _
  have d3' : decode c.code (pc + 3) = .ok (.dup, 1) := by rw [hb]; exact d3
  obtain ⟨U, hsteps, hrun, hend, hW, hsame, ce, hce, hO⟩ := X₁.ctorThrow0 hexec htr (own := own) (cls := cls) (names := names) (ic := ic) hown' hcls hnames h (fun x hx => nomatch hx) hfX hkX hcellA (by rw [hhp, hT]; exact Nat.le_refl _)
    (g := { method := m, pc := pc + 4, locals := ls, stack := .ref T.heap.size :: .ref T.heap.size :: rest, locked := none }) rfl hsize rfl rfl (rest := rest) rfl
    (by rw [hb]; exact d4) (by rw [hb]; exact d7) hout hRframes (by simp only [List.map_cons, List.sum_cons, hcat]; omega) hlocks
  obtain ⟨f1, f2⟩ := vx_frame hsame
  rw [hhp] at f1 f2
  have hWs : s.WarmedH U.vm := State.WarmedH.trans hW0 hW
  have hcl : s.vm.findClass cls = some ce.cls := by
    have h9 := hO.cls
    rw [hvm] at h9
    exact h9
  have hall : s.sameButNew ({ U with vm := s.vm } : State) locs mc ms := by
    subst hA
    obtain ⟨e1, e2⟩ := hsame
    rw [State.setFrames_setFrames] at e1
    have h2 : (T.setVm s.vm).sameButNew ({ U with vm := s.vm } : State) [] (0 + 1) (0 + 6) := ⟨e1, e2⟩
    have h3 := X.same.trans h2
    rw [List.append_nil] at h3
    exact h3.mono hc hs
  refine ⟨U, ?_, .threw T.heap.size, hrun, hend, Or.inr ⟨T.heap.size, rfl, cls, ce, locs, hx U hWs.alike f1 (fun q hq => f2 q hq (fun z hz => nomatch hz)), hce, hO.vm, hcl, hWs, hall, hf⟩⟩
  refine st1 _ ?_
  show Steps p.tables e below (T1.setTop { method := m, pc := pc + 3, locals := ls, stack := .ref T.heap.size :: rest, locked := none }) _
  jvm_step X₁.here [X₁.here.top, hexec, d3', Value.category]
  exact hsteps
/-- 'throw new E("text")': new; dup; ldc; invokespecial; athrow -/
theorem vx_throwS {cc : ByteArray} {pc : Nat} (hexec : p.tables.exec = Jvm.exec) (hb : c.code = cc) (hl : l.stackTraces = false) {own cls text : String} {names : List String} {ik is ic mc ms sa : Nat} {A : Nat → Prop}
    (hown : s.vm.findClass own = some m.cls) (hcls : Bundle.fit cls = true) (hnames : ∀ n ∈ names, Bundle.fit n = true)
    (hk : (Cond.classLink own ik cls).before args s = true) (hini : (Cond.initialized cls).before args s = true) (hstr : vk_R own is text sa s) (hat : ∀ w ∈ vx_atS own ic cls names, w.before args s = true)
    (hgood : ∀ w ∈ Cond.classLink own ik cls :: Cond.initialized cls :: vx_atS own ic cls names, vx_ot w = true)
    (hU : vx_Zq Bundle.tN "UNASSIGNED_STACK" Bundle.steD A s s.heap) (hN : vx_Zq Bundle.tN "SUPPRESSED_SENTINEL" Bundle.listD A s s.heap) (hS : va_S A s.heap H locs) (hsize : ls.size = c.maxLocals)
    (d0 : decode cc pc = .ok (.new ik, 3)) (d3 : decode cc (pc + 3) = .ok (.dup, 1)) (d4 : decode cc (pc + 4) = .ok (.ldc is, 2)) (d6 : decode cc (pc + 6) = .ok (.invokespecial ic, 3)) (d9 : decode cc (pc + 9) = .ok (.athrow, 1))
    (hout : ∀ x ∈ c.exceptionTable.toList, covers x (pc + 9) = false)
    (hRframes : names.length + 3 < R.frames) (hRlocals : (rest.map fun v => v.category).sum + (13 * (names.length + 1) + 43) ≤ R.locals) (hRcells : cells + 1 ≤ R.cells) (hRslots : slots + 6 ≤ R.slots) (hlocks : meth.locks = false)
    (hx : ∀ t : State, s.vm.Alike t.vm → H.size ≤ t.heap.size → (∀ q : Nat, q < H.size → t.heap[q]? = H[q]?) → XC cls s t)
    (hf : ∀ z ∈ locs, free z.base) (hc : cells + 1 ≤ mc) (hs : slots + 6 ≤ ms) :
    W p l e R s m args below meth c H locs cells slots (vx_MQ below Qc XC args s mc ms free) (F0 m pc ls rest) := by
  intro T hT X
  have htr : e.platform.stackTraces = false := (show e.platform.stackTraces = l.stackTraces by rw [X.admits.platform]).trans hl
  have Y := vx_rebase X (R' := { frames := R.frames, locals := R.locals, cells := 1, slots := 6 }) (Nat.le_refl _) (Nat.le_refl _) hRcells hRslots
  obtain ⟨s', hA⟩ : ∃ z, z = (T.setVm s.vm).setFrames (.invoking m args :: below) := ⟨_, rfl⟩
  rw [← hA] at Y
  have hvm : s'.vm = s.vm := by rw [hA]; rfl
  have hhp : s'.heap = H := by rw [hA]; exact hT
  have hW0 : s.WarmedH s'.vm := by rw [hvm]; exact State.WarmedH.refl s
  have hat' : ∀ w ∈ vx_atS own ic cls names, w.before args s' = true := fun w hw => vx_ot_at hW0 hvm.symm (hgood w (List.mem_cons_of_mem _ (List.mem_cons_of_mem _ hw))) (hat w hw)
  have hk' : (Cond.classLink own ik cls).before args s' = true := vx_ot_at hW0 hvm.symm (hgood _ List.mem_cons_self) hk
  have hini' : (Cond.initialized cls).before args s' = true := vx_ot_at hW0 hvm.symm (hgood _ (List.mem_cons_of_mem _ List.mem_cons_self)) hini
  have hU' : vx_Zq Bundle.tN "UNASSIGNED_STACK" Bundle.steD A s' s'.heap := by rw [hhp]; exact vx_Zq.moved hW0.alike (hU.kept hS.2.1)
  have hN' : vx_Zq Bundle.tN "SUPPRESSED_SENTINEL" Bundle.listD A s' s'.heap := by rw [hhp]; exact vx_Zq.moved hW0.alike (hN.kept hS.2.1)
  have h : ∀ w ∈ Bundle.ownAtoms own ic cls names, w.before args s' = true := vx_own hat' (vx_isRefq hU'.1) (vx_isRefq hN'.1) hU'.2.word hN'.2.word
  have hown' : s'.vm.findClass own = some m.cls := by rw [hvm]; exact hown
  have hins : (Cond.instantiable cls 6).before args s' = true := h _ (by simp [Bundle.ownAtoms])
  obtain ⟨vm₁, cX, kX, hfX, hkX, -, -, X₁, st1⟩ := Y.newCold hexec (own := own) (C := cls) (index := ik) (n := 6) hown' hk' hins hini'
    (g := F0 m pc ls rest) rfl (by rw [hb]; exact d0) (Nat.le_refl _) (Nat.le_refl _)
  generalize hT1 : (T.setVm vm₁).pushCell { cls := cX, slots := kX.instanceTypes.map defaultValue, vm := .none } = T1 at X₁ st1
  have hcat : (Value.ref T.heap.size).category = 1 := rfl
  have hcellA : T1.heap[T.heap.size]? = some (freshCell cX kX) := by rw [← hT1]; exact State.heap_pushCell_size _ _
  have d3' : decode c.code (pc + 3) = .ok (.dup, 1) := by rw [hb]; exact d3
  have d4' : decode c.code (pc + 4) = .ok (.ldc is, 2) := by rw [hb]; exact d4
  have hstr' : vk_R own is text sa s' := vk_R.warm hW0 hstr
  obtain ⟨U, hsteps, hrun, hend, hW, hsame, ce, hce, hO⟩ := X₁.ctorThrowS hexec htr (own := own) (cls := cls) (names := names) (ic := ic) hown' hcls hnames h (fun x hx => nomatch hx) hfX hkX hcellA (by rw [hhp, hT]; exact Nat.le_refl _) (msg := .ref sa) rfl
    (g := { method := m, pc := pc + 6, locals := ls, stack := .ref sa :: .ref T.heap.size :: .ref T.heap.size :: rest, locked := none }) rfl hsize rfl rfl (rest := rest) rfl
    (by rw [hb]; exact d6) (by rw [hb]; exact d9) hout hRframes (by simp only [List.map_cons, List.sum_cons, hcat]; omega) hlocks
  obtain ⟨f1, f2⟩ := vx_frame hsame
  rw [hhp] at f1 f2
  have hWs : s.WarmedH U.vm := State.WarmedH.trans hW0 hW
  have hcl : s.vm.findClass cls = some ce.cls := by
    have h9 := hO.cls
    rw [hvm] at h9
    exact h9
  have hall : s.sameButNew ({ U with vm := s.vm } : State) locs mc ms := by
    subst hA
    obtain ⟨e1, e2⟩ := hsame
    rw [State.setFrames_setFrames] at e1
    have h2 : (T.setVm s.vm).sameButNew ({ U with vm := s.vm } : State) [] (0 + 1) (0 + 6) := ⟨e1, e2⟩
    have h3 := X.same.trans h2
    rw [List.append_nil] at h3
    exact h3.mono hc hs
  refine ⟨U, ?_, .threw T.heap.size, hrun, hend, Or.inr ⟨T.heap.size, rfl, cls, ce, locs, hx U hWs.alike f1 (fun q hq => f2 q hq (fun z hz => nomatch hz)), hce, hO.vm, hcl, hWs, hall, hf⟩⟩
  refine st1 _ ?_
  show Steps p.tables e below (T1.setTop { method := m, pc := pc + 3, locals := ls, stack := .ref T.heap.size :: rest, locked := none }) _
  jvm_step X₁.here [X₁.here.top, hexec, d3', Value.category]
  exact X₁.ldcString hexec (own := own) (text := text) (index := is) (a := sa) hown' hstr'.1 hstr'.2
    (g := { method := m, pc := pc + 4, locals := ls, stack := .ref T.heap.size :: .ref T.heap.size :: rest, locked := none }) rfl d4' _ hsteps
/-- 'throw new E("text")', the text by a wide index -/
theorem vx_throwSW {cc : ByteArray} {pc : Nat} (hexec : p.tables.exec = Jvm.exec) (hb : c.code = cc) (hl : l.stackTraces = false) {own cls text : String} {names : List String} {ik is ic mc ms sa : Nat} {A : Nat → Prop}
    (hown : s.vm.findClass own = some m.cls) (hcls : Bundle.fit cls = true) (hnames : ∀ n ∈ names, Bundle.fit n = true)
    (hk : (Cond.classLink own ik cls).before args s = true) (hini : (Cond.initialized cls).before args s = true) (hstr : vk_R own is text sa s) (hat : ∀ w ∈ vx_atS own ic cls names, w.before args s = true)
    (hgood : ∀ w ∈ Cond.classLink own ik cls :: Cond.initialized cls :: vx_atS own ic cls names, vx_ot w = true)
    (hU : vx_Zq Bundle.tN "UNASSIGNED_STACK" Bundle.steD A s s.heap) (hN : vx_Zq Bundle.tN "SUPPRESSED_SENTINEL" Bundle.listD A s s.heap) (hS : va_S A s.heap H locs) (hsize : ls.size = c.maxLocals)
    (d0 : decode cc pc = .ok (.new ik, 3)) (d3 : decode cc (pc + 3) = .ok (.dup, 1)) (d4 : decode cc (pc + 4) = .ok (.ldc_w is, 3)) (d7 : decode cc (pc + 7) = .ok (.invokespecial ic, 3)) (d10 : decode cc (pc + 10) = .ok (.athrow, 1))
    (hout : ∀ x ∈ c.exceptionTable.toList, covers x (pc + 10) = false)
    (hRframes : names.length + 3 < R.frames) (hRlocals : (rest.map fun v => v.category).sum + (13 * (names.length + 1) + 43) ≤ R.locals) (hRcells : cells + 1 ≤ R.cells) (hRslots : slots + 6 ≤ R.slots) (hlocks : meth.locks = false)
    (hx : ∀ t : State, s.vm.Alike t.vm → H.size ≤ t.heap.size → (∀ q : Nat, q < H.size → t.heap[q]? = H[q]?) → XC cls s t)
    (hf : ∀ z ∈ locs, free z.base) (hc : cells + 1 ≤ mc) (hs : slots + 6 ≤ ms) :
    W p l e R s m args below meth c H locs cells slots (vx_MQ below Qc XC args s mc ms free) (F0 m pc ls rest) := by
  intro T hT X
  have htr : e.platform.stackTraces = false := (show e.platform.stackTraces = l.stackTraces by rw [X.admits.platform]).trans hl
  have Y := vx_rebase X (R' := { frames := R.frames, locals := R.locals, cells := 1, slots := 6 }) (Nat.le_refl _) (Nat.le_refl _) hRcells hRslots
  obtain ⟨s', hA⟩ : ∃ z, z = (T.setVm s.vm).setFrames (.invoking m args :: below) := ⟨_, rfl⟩
  rw [← hA] at Y
  have hvm : s'.vm = s.vm := by rw [hA]; rfl
  have hhp : s'.heap = H := by rw [hA]; exact hT
  have hW0 : s.WarmedH s'.vm := by rw [hvm]; exact State.WarmedH.refl s
  have hat' : ∀ w ∈ vx_atS own ic cls names, w.before args s' = true := fun w hw => vx_ot_at hW0 hvm.symm (hgood w (List.mem_cons_of_mem _ (List.mem_cons_of_mem _ hw))) (hat w hw)
  have hk' : (Cond.classLink own ik cls).before args s' = true := vx_ot_at hW0 hvm.symm (hgood _ List.mem_cons_self) hk
  have hini' : (Cond.initialized cls).before args s' = true := vx_ot_at hW0 hvm.symm (hgood _ (List.mem_cons_of_mem _ List.mem_cons_self)) hini
  have hU' : vx_Zq Bundle.tN "UNASSIGNED_STACK" Bundle.steD A s' s'.heap := by rw [hhp]; exact vx_Zq.moved hW0.alike (hU.kept hS.2.1)
  have hN' : vx_Zq Bundle.tN "SUPPRESSED_SENTINEL" Bundle.listD A s' s'.heap := by rw [hhp]; exact vx_Zq.moved hW0.alike (hN.kept hS.2.1)
  have h : ∀ w ∈ Bundle.ownAtoms own ic cls names, w.before args s' = true := vx_own hat' (vx_isRefq hU'.1) (vx_isRefq hN'.1) hU'.2.word hN'.2.word
  have hown' : s'.vm.findClass own = some m.cls := by rw [hvm]; exact hown
  have hins : (Cond.instantiable cls 6).before args s' = true := h _ (by simp [Bundle.ownAtoms])
  obtain ⟨vm₁, cX, kX, hfX, hkX, -, -, X₁, st1⟩ := Y.newCold hexec (own := own) (C := cls) (index := ik) (n := 6) hown' hk' hins hini'
    (g := F0 m pc ls rest) rfl (by rw [hb]; exact d0) (Nat.le_refl _) (Nat.le_refl _)
  generalize hT1 : (T.setVm vm₁).pushCell { cls := cX, slots := kX.instanceTypes.map defaultValue, vm := .none } = T1 at X₁ st1
  have hcat : (Value.ref T.heap.size).category = 1 := rfl
  have hcellA : T1.heap[T.heap.size]? = some (freshCell cX kX) := by rw [← hT1]; exact State.heap_pushCell_size _ _
  have d3' : decode c.code (pc + 3) = .ok (.dup, 1) := by rw [hb]; exact d3
  have d4' : decode c.code (pc + 4) = .ok (.ldc_w is, 3) := by rw [hb]; exact d4
  have hstr' : vk_R own is text sa s' := vk_R.warm hW0 hstr
  obtain ⟨U, hsteps, hrun, hend, hW, hsame, ce, hce, hO⟩ := X₁.ctorThrowS hexec htr (own := own) (cls := cls) (names := names) (ic := ic) hown' hcls hnames h (fun x hx => nomatch hx) hfX hkX hcellA (by rw [hhp, hT]; exact Nat.le_refl _) (msg := .ref sa) rfl
    (g := { method := m, pc := pc + 7, locals := ls, stack := .ref sa :: .ref T.heap.size :: .ref T.heap.size :: rest, locked := none }) rfl hsize rfl rfl (rest := rest) rfl
    (by rw [hb]; exact d7) (by rw [hb]; exact d10) hout hRframes (by simp only [List.map_cons, List.sum_cons, hcat]; omega) hlocks
  obtain ⟨f1, f2⟩ := vx_frame hsame
  rw [hhp] at f1 f2
  have hWs : s.WarmedH U.vm := State.WarmedH.trans hW0 hW
  have hcl : s.vm.findClass cls = some ce.cls := by
    have h9 := hO.cls
    rw [hvm] at h9
    exact h9
  have hall : s.sameButNew ({ U with vm := s.vm } : State) locs mc ms := by
    subst hA
    obtain ⟨e1, e2⟩ := hsame
    rw [State.setFrames_setFrames] at e1
    have h2 : (T.setVm s.vm).sameButNew ({ U with vm := s.vm } : State) [] (0 + 1) (0 + 6) := ⟨e1, e2⟩
    have h3 := X.same.trans h2
    rw [List.append_nil] at h3
    exact h3.mono hc hs
  refine ⟨U, ?_, .threw T.heap.size, hrun, hend, Or.inr ⟨T.heap.size, rfl, cls, ce, locs, hx U hWs.alike f1 (fun q hq => f2 q hq (fun z hz => nomatch hz)), hce, hO.vm, hcl, hWs, hall, hf⟩⟩
  refine st1 _ ?_
  show Steps p.tables e below (T1.setTop { method := m, pc := pc + 3, locals := ls, stack := .ref T.heap.size :: rest, locked := none }) _
  jvm_step X₁.here [X₁.here.top, hexec, d3', Value.category]
  exact X₁.ldcStringW hexec (own := own) (text := text) (index := is) (a := sa) hown' hstr'.1 hstr'.2
    (g := { method := m, pc := pc + 4, locals := ls, stack := .ref T.heap.size :: .ref T.heap.size :: rest, locked := none }) rfl d4' _ hsteps
end Ends
section Bodies
variable {l : Launch}
theorem vx_ofW {y : MethodName} {ws ws' : List Cond} {rm : Room} {Pc : Array Value → State → Prop} {Qc : Array Value → State → Outcome → State → Prop} {XC : String → State → State → Prop} {mc ms : Nat} {free : Addr → Prop} {cc : ByteArray} {maxL : Nat} {ret : Option FieldType}
    (hy : plainName y.cls = true) (hw : ws = Cond.code y cc maxL ret :: ws')
    (body : ∀ p e s m args below meth c s₁, BodyLoose p l y (headSpec ws rm) cc maxL ret e s m args below meth c s₁ → c.maxLocals = maxL → (∀ x ∈ c.exceptionTable.toList, False) → Pc args s →
      W p l e (headSpec ws rm).room s m args below meth c s.heap [] 0 0 (vx_MQ below Qc XC args s mc ms free) (entryFrame m args maxL)) : vx_Met l y ws rm Pc Qc XC mc ms free := by
  refine MetFree.of_bodyS (code := cc) (maxLocals := maxL) (ret := ret) hy ?_ ?_
  · intro args s m h hn
    obtain ⟨meth, c, h1, h2, h3, h4, h5, h6, -, -⟩ := Cond.code_spec hn (atoms_spec (ws := ws) h _ (by rw [hw]; exact List.mem_cons_self))
    exact ⟨meth, c, h1, h2, h3, h4, h5, h6⟩
  · intro p e s m args below meth c s₁ B hml hP _
    have hh0 : s₁.heap = s.heap := by rw [B.state]; rfl
    have ht : ∀ x ∈ c.exceptionTable.toList, False := by
      obtain ⟨meth9, c9, h1, h2, -, -, -, -, h7, -⟩ := Cond.code_spec B.named (atoms_spec (ws := ws) B.pre _ (by rw [hw]; exact List.mem_cons_self))
      cases Option.some.inj (h1.symm.trans B.method)
      cases Option.some.inj (h2.symm.trans (Stand.of_body B).code)
      intro x hx
      rw [Array.isEmpty_iff.mp h7] at hx
      cases hx
    obtain ⟨t, a1, o, b1, b2, b3⟩ := body p e s m args below meth c s₁ B hml ht hP s₁ hh0 (Stand.of_body B)
    exact ⟨t, o, a1, b1, b2, b3⟩
/-- the table of a body with handlers -/
theorem vx_table {p : Program} {x y : MethodName} {S : Spec} {cc bytes : ByteArray} {maxL maxL' : Nat} {ret ret' : Option FieldType} {e : Env} {s s₁ : State} {m : MethodId} {args : Array Value} {below : List Frame} {meth : Method} {c : Code} {hh : List (Nat × Nat × Nat × Nat)}
    (B : BodyLoose p l y S cc maxL ret e s m args below meth c s₁) (h : (Cond.codeWith y bytes maxL' ret' hh).before args s = true) : c.exceptionTable.toList = tableOf hh := by
  obtain ⟨m9, meth9, c9, hn9, h1, h2, -, -, h6, -⟩ := Cond.codeWith_spec h
  cases Option.some.inj (hn9.symm.trans B.named)
  cases Option.some.inj (h1.symm.trans B.method)
  cases Option.some.inj (h2.symm.trans (Stand.of_body B).code)
  rw [← h6, table_eq]
end Bodies
end VXA
/-! ===== END ===== -/
/-! ===== BEGIN a static call of a method with an exception table ===== -/
section VXS
variable {p : Program} {l : Launch} {e : Env} {R : Room} {s : State} {m : MethodId} {args : Array Value} {below : List Frame} {meth : Method} {c : Code} {T : State} {H : Heap} {locs : List Loc} {cells slots : Nat}
abbrev vx_CSW (R : Room) (s : State) (args : Array Value) (own : String) (index : Nat) (y : MethodName) (bytes : ByteArray) (maxL : Nat) (ret : Option FieldType) (hh : List (Nat × Nat × Nat × Nat)) (ws : List Cond) (rm : Room) (mc ms n : Nat) : Prop :=
  (rm.cells = mc ∧ rm.slots = ms ∧ rm.frames + 1 ≤ R.frames ∧ 8 + (maxL + 11) + rm.locals ≤ R.locals ∧ (∀ w ∈ ws, ∀ (a' : Array Value) (U : State), s.WarmedH U.vm → w.before a' U = true) ∧ Cond.codeWith y bytes maxL ret hh ∈ ws) ∧
  (Cond.codeWith y bytes maxL ret hh).before args s = true ∧ (Cond.initialized y.cls).before args s = true ∧ (y.cls ≠ "java/lang/invoke/MethodHandle" ∧ y.cls ≠ "java/lang/invoke/VarHandle") ∧
  (∀ sig, parseMethodDescriptor y.desc = some sig → n = sig.parameters.length) ∧ (Cond.methodLink own index y).before args s = true ∧ (Cond.static y).before args s = true
theorem vx_cwSW {own : String} {index maxL mc ms : Nat} {y : MethodName} {bytes : ByteArray} {ret : Option FieldType} {hh : List (Nat × Nat × Nat × Nat)} {Ts ws ws' : List Cond} {rm : Room} (n : Nat) (ht : ∀ w ∈ Ts, w.before args s = true) (hT : GoodIn Ts (va_wsS own index y ws)) (hw : ws = Cond.codeWith y bytes maxL ret hh :: ws') (hrc : rm.cells = mc) (hrs : rm.slots = ms)
    (hd : y.cls ≠ "java/lang/invoke/MethodHandle" ∧ y.cls ≠ "java/lang/invoke/VarHandle" ∧ (parseMethodDescriptor y.desc).map (fun d => d.parameters.length) = some n) (hR : rm.frames + 1 ≤ R.frames ∧ 8 + (maxL + 11) + rm.locals ≤ R.locals) :
    vx_CSW R s args own index y bytes maxL ret hh ws rm mc ms n := by
  have ok : ∀ w ∈ va_wsS own index y ws, w.before args s = true := fun w h => ht w (hT w h).1
  have hG : GoodIn Ts ws := fun w h => hT w (by unfold va_wsS; exact List.mem_append_right _ h)
  have hc : Cond.codeWith y bytes maxL ret hh ∈ ws := by rw [hw]; exact List.mem_cons_self
  refine ⟨⟨hrc, hrs, hR.1, hR.2, pay_in ht hG, hc⟩, ht _ (hG _ hc).1, ok _ (by simp [va_wsS]), ⟨hd.1, hd.2.1⟩, fun sig h => ?_, ok _ (by simp [va_wsS]), ok _ (by simp [va_wsS])⟩
  have h2 := hd.2.2
  rw [h] at h2
  exact (Option.some.inj h2).symm
theorem vx_callSW (X : Stand p l e R s m args below meth c T locs cells slots) (hexec : p.tables.exec = Jvm.exec) {own : String} {index : Nat} {y : MethodName} {bytes : ByteArray} {maxL : Nat} {ret : Option FieldType} {hh : List (Nat × Nat × Nat × Nat)}
    (hown : s.vm.findClass own = some m.cls) (hlink : (Cond.methodLink own index y).before args s = true) (hstat : (Cond.static y).before args s = true) (hinit : (Cond.initialized y.cls).before args s = true)
    (hcode : (Cond.codeWith y bytes maxL ret hh).before args s = true) (hy : y.cls ≠ "java/lang/invoke/MethodHandle" ∧ y.cls ≠ "java/lang/invoke/VarHandle")
    {W9 : Nat} {Pre : Pt → Array Value → Prop} {Post : Pt → Array Value → Option Value → Pt → Prop} (hK : Back l R p e below s args y 3 W9 Pre Post)
    {g : JFrame} (hg : g.method = m) (hsize : g.locals.size = c.maxLocals) {argsL rest : List Value} (hlen : ∀ sig, parseMethodDescriptor y.desc = some sig → argsL.length = sig.parameters.length)
    (hstack : g.stack = argsL.reverse ++ rest) (hW : 2 * g.monitorRoom + (rest.map fun v => v.category).sum ≤ W9) (hdg : decode c.code g.pc = .ok (.invokestatic index, 3))
    (hpre : ∀ vm₁, s.WarmedH vm₁ → Pre ⟨T.setVm vm₁, locs, cells, slots⟩ argsL.toArray) :
    ∃ (v : Option Value) (vm₁ : Vm) (B : Pt), s.WarmedH vm₁ ∧ Stand p l e R s m args below meth c B.U B.locs B.cells B.slots ∧ Post ⟨T.setVm vm₁, locs, cells, slots⟩ argsL.toArray v B ∧
      ∀ target, Steps p.tables e below (B.U.setTop { g with pc := g.pc + 3, stack := v.toList ++ rest }) target → Steps p.tables e below (T.setTop g) target := by
  obtain ⟨mk, methM, cM, hnamed, hmethM, -, -, -, -, -, -, hsigM⟩ := Cond.codeWith_spec hcode
  have hstatic : methM.isStatic = true := Cond.static_spec hnamed hmethM hstat
  obtain ⟨kP, hkP, -⟩ := className_of_methodNamed hnamed
  have hinitP : kP.init = .initialized := Cond.initialized_spec (findClass_of_methodNamed hnamed) hkP hinit
  obtain ⟨vm₁, X₁, hstep₁⟩ := X.invokestatic hexec hown hlink hnamed hmethM hstatic hkP hinitP hy (g := g) hg (argsL := argsL) (rest := rest) (hlen _ hsigM) hstack hdg
  obtain ⟨v, B, X', hpost, hsteps⟩ := hK m meth c ⟨T.setVm vm₁, locs, cells, slots⟩ { g with stack := rest } (.invokestatic index) mk argsL.toArray X₁ hg hsize hdg hW (X₁.named hnamed) (hpre vm₁ X₁.warmed)
  exact ⟨v, vm₁, B, X₁.warmed, X', hpost, fun target h => hstep₁ _ fun acts => by rw [doInvoke_state]; exact hsteps.trans h⟩
theorem vx_runSW {y : MethodName} {bytes cc : ByteArray} {maxL nL mc ms n index : Nat} {ret : Option FieldType} {hh : List (Nat × Nat × Nat × Nat)} {ws : List Cond} {rm : Room} {Pc : Array Value → State → Prop} {Qc : Array Value → State → Outcome → State → Prop} {free : Addr → Prop} {Ts : List Cond} {own : String} {As rest : List Value} {g : JFrame}
    (S : CallFix p m c cc nL s args Ts own) (hM : Met l y ws rm Pc Qc mc ms free) (cw : vx_CSW R s args own index y bytes maxL ret hh ws rm mc ms n) (hp : PreS s H Pc As)
    (hg : g.method = m) (hn : As.length = n) (hsize : g.locals.size = nL) (hstack : g.stack = As.reverse ++ rest) (hW : 2 * g.monitorRoom + (rest.map fun v => v.category).sum ≤ 8) (hdg : decode cc g.pc = .ok (.invokestatic index, 3)) (hf : cells + mc ≤ R.cells ∧ slots + ms ≤ R.slots) :
    va_Run p l e R s m args below meth c H locs cells slots mc ms g rest (Qc As.toArray) (free) := by
  obtain ⟨⟨hrc, hrs, hfr, hlo, hws, hcw⟩, hcode, hini, hy, hlen, hl, hstt⟩ := cw
  have hK : Back l R p e below s args y 3 8 (PreOf R mc ms Pc) (PostOf Qc mc ms free) := va_backW (hh := hh) (bytes := bytes) (maxL := maxL) (ret := ret) hM hp.1 hrc hrs hfr hlo hws hcw (fun a' U hW => word_at hW (Or.inl (by first | rfl | simp [Cond.onTables, Cond.keeps, Cond.steady])) hini)
  obtain ⟨hx, hb, hml, ho, -⟩ := S
  intro T hT X
  obtain ⟨v, vm₁, ⟨U', l2, c2, s2⟩, hW₁, X', ⟨g', mk, t, L, e1, e2, hq, h1, hL, h2, h3⟩, st⟩ := vx_callSW X hx (hh := hh) (bytes := bytes) (maxL := maxL) (ret := ret) ho hl hstt hini hcode hy hK hg (hsize.trans hml.symm) (argsL := As) (rest := rest) (fun sig h => hn.trans (hlen sig h)) hstack hW (by rw [hb]; exact hdg)
    (fun vm₁ hW₁ => ⟨hf.1, hf.2, hp.2 (T.setVm vm₁) hT hW₁⟩)
  dsimp only [Pt.U, Pt.locs, Pt.cells, Pt.slots] at X' e1 e2 h1 h2 h3 st
  subst h1; subst h2; subst h3
  exact ⟨v, (T.setVm vm₁).calling g' mk As.toArray, t, U', L, hT, X', hL, e1, e2, hq, st⟩
/-- not caught here, past rows that name other classes: it goes on to the caller -/
theorem vx_outP {p : Program} {l : Launch} {e : Env} {R : Room} {s : State} {m : MethodId} {args : Array Value} {below : List Frame} {meth : Method} {c : Code} {H : Heap} {locs : List Loc} {cells slots : Nat} {free : Addr → Prop} {ls : Array Slot} {rest : List Value} {Qc : Array Value → State → Outcome → State → Prop} {XC : String → State → State → Prop}
    {pc : Nat} {own E : String} {ce : Cell} {q : Addr} {mc ms : Nat} (hown : s.vm.findClass own = some m.cls) (hlocks : meth.locks = false)
    (hpass : ∀ z ∈ c.exceptionTable.toList, covers z pc = false ∨ (z.catchType ≠ 0 ∧ ∃ nm : String, (Cond.classLink own z.catchType nm).before args s = true ∧ va_Nc E nm s)) (hcell : H[q]? = some ce) (hv : ce.vm = .none) (hcl : s.vm.findClass E = some ce.cls)
    (hx : ∀ t : State, t.heap = H → s.vm.Alike t.vm → XC E s t) (hf : ∀ z ∈ locs, free z.base) (hc : cells ≤ mc) (hs : slots ≤ ms) :
    vx_W p l e R s m args below meth c H locs cells slots (vx_MQ below Qc XC args s mc ms free) (F0 m pc ls rest) q := by
  intro T hT X
  have hpl : e.platform.magicAccessors = ({} : Platform).magicAccessors := by rw [X.admits.platform]
  obtain ⟨vm', hW', X', st⟩ := X.outThrough hlocks q (g := F0 m pc ls rest) rfl rfl rfl (cell := ce) (by rw [hT]; exact hcell) (by rw [hv]; rfl)
    (by obtain ⟨k9, h9, -⟩ := Vm.findClass_spec hcl; exact ⟨k9, h9⟩) (fun z hz => by
      rcases hpass z hz with h | ⟨hz0, nm, hl1, hn1⟩
      · exact Or.inl h
      · obtain ⟨c6, hc6, hcl6⟩ := Cond.classLink_spec hown hl1 e.platform hpl
        obtain ⟨a8, b8, h1, h2, h3⟩ := hn1
        cases Option.some.inj (h1.symm.trans hcl)
        cases Option.some.inj (h2.symm.trans hc6)
        exact Or.inr ⟨hz0, _, hcl6, h3⟩)
  obtain ⟨g₀, hfr⟩ := X'.frames_eq
  have hcell9 : ((T.setVm vm').setFrames (.throwing q :: below)).heap[q]? = some ce := by
    show T.heap[q]? = some ce
    rw [hT]; exact hcell
  have hend : Ended ((T.setVm vm').setFrames (.throwing q :: below)) below (.threw q) := State.frames_setFrames _ (State.cur_lt_of_frames hfr)
  refine ⟨(T.setVm vm').setFrames (.throwing q :: below), ?_, .threw q, X'.here.running, hend, Or.inr ⟨q, rfl, E, ce, locs, hx _ hT (X'.ends _).1.alike, hcell9, hv, hcl, (X'.ends _).1, (X'.ends _).2.mono hc hs, hf⟩⟩
  rw [X.pushThrowing_eq]
  exact st
/-- a thing of a world lies in the heap -/
theorem vx_lt {D : va_G} {cl : List vw_C} {ws : va_W} {H1 : Heap} (h : va_P D cl ws H1) {k : Nat} {q : Nat × va_E} (hk : ws[k]? = some q) : q.1 < H1.size := (h k q hk).lt
end VXS
/-! ===== END ===== -/
/-! ===== BEGIN methods with a table of their own: called by a name, returning or throwing ===== -/
section VXH
/-! vx_backW, vx_callVX, vx_callSX, vx_callVW, vx_runVW, vx_runVX, vx_runSX, vx_ofWH follow the same proofs as their sisters above (Free/Laws.lean, Shelf42/LK1.lean); vx_outP calls Shelf42/NT130.lean (outThrough). -/
section
variable {l : Launch} {R : Room} {p : Program} {e : Env} {below : List Frame} {s : State} {sargs : Array Value} {y : MethodName} {len W9 : Nat}
theorem vx_backW {ws : List Cond} {rm : Room} {Pc : Array Value → State → Prop} {Qc : Array Value → State → Outcome → State → Prop} {XC : String → State → State → Prop} {mc ms : Nat} {free : Addr → Prop} {bytes : ByteArray} {maxL : Nat} {ret : Option FieldType} {hh : List (Nat × Nat × Nat × Nat)}
    (hM : vx_Met l y ws rm Pc Qc XC mc ms free) (hblind : FrameBlind Pc) (hrc : rm.cells = mc) (hrs : rm.slots = ms)
    (hframes : rm.frames + 1 ≤ R.frames) (hlocals : W9 + (maxL + 11) + rm.locals ≤ R.locals)
    (hws : ∀ w ∈ ws, ∀ a' U, s.WarmedH U.vm → w.before a' U = true) (hcode : Cond.codeWith y bytes maxL ret hh ∈ ws) (hinit : ∀ a' U, s.WarmedH U.vm → (Cond.initialized y.cls).before a' U = true) :
    vx_Back l R p e below s sargs y len W9 (PreOf R mc ms Pc) (PostOf Qc mc ms free) (vx_Post XC mc ms free) := by
  intro m meth c A g ig mk a X hg hsize hdg hW hn hp
  have h1 : (headSpec ws rm).pre.before a A.U = true := atoms_intro fun w hw => hws w hw _ _ X.warmed
  have h2 : (Cond.codeWith y bytes maxL ret hh).before a A.U = true := hws _ hcode _ _ X.warmed
  have h3 : (Cond.initialized y.cls).before a A.U = true := hinit _ _ X.warmed
  have h4 : A.cells + (headSpec ws rm).room.cells ≤ R.cells := by rw [show (headSpec ws rm).room.cells = mc from hrc]; exact hp.1
  have h5 : A.slots + (headSpec ws rm).room.slots ≤ R.slots := by rw [show (headSpec ws rm).room.slots = ms from hrs]; exact hp.2.1
  have hPc : Pc a (A.U.calling g mk a) := hblind _ _ _ _ hp.2.2
  obtain ⟨U, Ls, c0, s0⟩ := A
  dsimp only [Pt.U, Pt.locs, Pt.cells, Pt.slots] at h1 h2 h3 h4 h5 X hn hPc ⊢
  obtain ⟨m9, methY, cY, hn9, hmY, hcY, -, hlY, -⟩ := Cond.codeWith_spec h2
  cases Option.some.inj (hn9.symm.trans hn)
  obtain ⟨kY, hkY, -⟩ := className_of_methodNamed hn
  have hinitY : kY.init = .initialized := Cond.initialized_spec (findClass_of_methodNamed hn) hkY h3
  have h : At U g.method c below := by rw [hg]; exact X.here
  have hlocals9 : W9 + (maxL + 11) + (headSpec ws rm).room.locals ≤ R.locals := hlocals
  have happ : (headSpec ws rm).appliesLoose y e.platform (U.calling g mk a) = true :=
    Spec.appliesLoose_calling (g := g) h hdg hn hkY hinitY
      (X.room_calling (g := g) (R' := (headSpec ws rm).room) hsize hmY hcY hframes (by rw [hlY]; omega) h4 h5) h1
  obtain ⟨mid, hmid⟩ := h.above
  have hfr : (U.setTop g).frames = (.java g :: mid) ++ below := by rw [State.frames_setTop' g h.top, hmid]; rfl
  obtain ⟨o, s₂, hsteps, -, hend, hq⟩ := Steps.callFree hM p X.admits X.cas X.clock (acts := []) hfr happ hPc trivial
  have hq' : vx_Q Qc XC mc ms free a (U.calling g mk a) o s₂ := hq
  rw [State.frames_setTop' g h.top] at hend
  obtain ⟨g₀, hg0⟩ := Option.isSome_iff_exists.mp h.top
  obtain ⟨r, hr⟩ := State.topJava?_eq_some.mp hg0
  have hr' : (({ U with heap := s₂.heap, slotsUsed := s₂.slotsUsed } : State).setVm s₂.vm).frames = .java g₀ :: r := hr
  rcases hq' with ⟨hqc, L, hfe, hL⟩ | ⟨q, rfl, E, ce, L, hx, hce, hcv, hcl, hW₂, hsm, hL⟩
  · obtain ⟨⟨v, rfl⟩, hW₂, e2, q2, q3, q4, q5, q6⟩ := id hfe
    have e3 : s₂ = ({ (U.calling g mk a).setFrames s₂.frames with heap := s₂.heap, slotsUsed := s₂.slotsUsed } : State).setVm s₂.vm := by
      have : s₂ = ({ s₂ with vm := (U.calling g mk a).vm } : State).setVm s₂.vm := rfl
      rw [e2] at this
      exact this
    obtain ⟨c₂, i₂, len₂, hc₂, hd₂, hf₂⟩ := hend
    have hW' : U.WarmedH s₂.vm := hW₂
    have hcc : c₂ = c := by
      have h1 : s₂.code? g.method = U.code? g.method := by
        rw [State.code?_eq, State.code?_eq, hW'.alike.method?]
      exact Option.some.inj (hc₂.symm.trans (h1.trans h.code))
    subst hcc
    have hlen : len₂ = len := by rw [hdg] at hd₂; cases hd₂; rfl
    subst hlen
    have hs₂ : s₂ = (({ U with heap := s₂.heap, slotsUsed := s₂.slotsUsed } : State).setVm s₂.vm).setTop { g with pc := g.pc + len₂, stack := v.toList ++ g.stack } := by
      refine e3.trans ?_
      rw [hf₂, State.calling_eq h.top, State.setFrames_setFrames, State.setTop_of_frames _ hr', hr]
      rfl
    have hsame : U.sameButNew ({ U with heap := s₂.heap, slotsUsed := s₂.slotsUsed } : State) L mc ms := by
      refine ⟨?_, q2, q3, q4, q5, q6⟩
      obtain ⟨t, ht, -⟩ := State.frames_cons hr
      show ({ U with heap := s₂.heap, slotsUsed := s₂.slotsUsed } : State) = { U.setFrames U.frames with heap := s₂.heap, slotsUsed := s₂.slotsUsed }
      rw [State.setFrames_self ht]
    subst hg
    refine Or.inl ⟨v, ⟨(({ U with heap := s₂.heap, slotsUsed := s₂.slotsUsed } : State).setVm s₂.vm), Ls ++ L, c0 + mc, s0 + ms⟩,
      ⟨X.admits, X.cas, X.clock, X.frames, X.room, X.hears, X.method, X.code, (X.here.setHeapUsed s₂.heap s₂.slotsUsed).setVm hW'.alike, X.tail, State.WarmedH.trans X.warmed hW', X.limits, X.bytes, X.same.trans (hsame.setVm s.vm)⟩,
      ⟨g, mk, s₂, L, rfl, rfl, hqc, rfl, hL, rfl, rfl⟩, ?_⟩
    show Steps p.tables e below _ ((({ U with heap := s₂.heap, slotsUsed := s₂.slotsUsed } : State).setVm s₂.vm).setTop { g with pc := g.pc + len₂, stack := v.toList ++ g.stack })
    rw [← hs₂]
    exact hsteps
  · obtain ⟨e2, q2, q3, q4, q5, q6⟩ := id hsm
    have e3 : s₂ = ({ (U.calling g mk a).setFrames s₂.frames with heap := s₂.heap, slotsUsed := s₂.slotsUsed } : State).setVm s₂.vm := by
      have : s₂ = ({ s₂ with vm := (U.calling g mk a).vm } : State).setVm s₂.vm := rfl
      rw [e2] at this
      exact this
    have hf₂ : s₂.frames = .throwing q :: .java g :: U.frames.tail := hend
    have hW' : U.WarmedH s₂.vm := hW₂
    have hs₂ : s₂ = ((({ U with heap := s₂.heap, slotsUsed := s₂.slotsUsed } : State).setVm s₂.vm).setTop g).pushFrame (.throwing q) := by
      refine e3.trans ?_
      rw [hf₂, State.calling_eq h.top, State.setFrames_setFrames, State.pushFrame, State.frames_setTop _ hr', State.setTop_of_frames _ hr', State.setFrames_setFrames, hr]
      rfl
    have hsame : U.sameButNew ({ U with heap := s₂.heap, slotsUsed := s₂.slotsUsed } : State) L mc ms := by
      refine ⟨?_, q2, q3, q4, q5, q6⟩
      obtain ⟨t, ht, -⟩ := State.frames_cons hr
      show ({ U with heap := s₂.heap, slotsUsed := s₂.slotsUsed } : State) = { U.setFrames U.frames with heap := s₂.heap, slotsUsed := s₂.slotsUsed }
      rw [State.setFrames_self ht]
    subst hg
    refine Or.inr ⟨q, ⟨(({ U with heap := s₂.heap, slotsUsed := s₂.slotsUsed } : State).setVm s₂.vm), Ls ++ L, c0 + mc, s0 + ms⟩,
      ⟨X.admits, X.cas, X.clock, X.frames, X.room, X.hears, X.method, X.code, (X.here.setHeapUsed s₂.heap s₂.slotsUsed).setVm hW'.alike, X.tail, State.WarmedH.trans X.warmed hW', X.limits, X.bytes, X.same.trans (hsame.setVm s.vm)⟩,
      ⟨g, mk, s₂, L, E, ce, rfl, rfl, hx, hce, hcv, hcl, rfl, hL, rfl, rfl⟩, ?_⟩
    show Steps p.tables e below _ (((({ U with heap := s₂.heap, slotsUsed := s₂.slotsUsed } : State).setVm s₂.vm).setTop g).pushFrame (.throwing q))
    rw [← hs₂]
    exact hsteps
end
variable {p : Program} {l : Launch} {e : Env} {R : Room} {s : State} {m : MethodId} {args : Array Value} {below : List Frame} {meth : Method} {c : Code} {T : State} {H : Heap} {locs : List Loc} {cells slots : Nat}
theorem vx_callVX (X : Stand p l e R s m args below meth c T locs cells slots) (hexec : p.tables.exec = Jvm.exec) {own C : String} {index : Nat} {y : MethodName} {bytes : ByteArray} {maxL : Nat} {ret : Option FieldType} {hh : List (Nat × Nat × Nat × Nat)}
    (hown : s.vm.findClass own = some m.cls) (hlink : (Cond.methodLink own index y).before args s = true) (hinst : (Cond.instanceMethod y).before args s = true) (hsel : (Cond.selects C y y).before args s = true)
    (hcode : (Cond.codeWith y bytes maxL ret hh).before args s = true) (hy : y.cls ≠ "java/lang/invoke/MethodHandle" ∧ y.cls ≠ "java/lang/invoke/VarHandle")
    {W9 : Nat} {Pre : Pt → Array Value → Prop} {Post : Pt → Array Value → Option Value → Pt → Prop} {PostX : Pt → Array Value → Addr → Pt → Prop} (hK : vx_Back l R p e below s args y 3 W9 Pre Post PostX)
    {b : Addr} {cellB : Cell} (hcell : T.heap[b]? = some cellB) (hobj : cellB.vm.isStatics = false) (hcls : s.vm.findClass C = some cellB.cls)
    {g : JFrame} (hg : g.method = m) (hsize : g.locals.size = c.maxLocals) {argsL rest : List Value} (hlen : ∀ sig, parseMethodDescriptor y.desc = some sig → argsL.length = sig.parameters.length)
    (hstack : g.stack = argsL.reverse ++ .ref b :: rest) (hW : 2 * g.monitorRoom + (rest.map fun v => v.category).sum ≤ W9) (hdg : decode c.code g.pc = .ok (.invokevirtual index, 3))
    (hpre : ∀ vm₁, s.WarmedH vm₁ → Pre ⟨T.setVm vm₁, locs, cells, slots⟩ (Value.ref b :: argsL).toArray) :
    (∃ (v : Option Value) (vm₁ : Vm) (B : Pt), s.WarmedH vm₁ ∧ Stand p l e R s m args below meth c B.U B.locs B.cells B.slots ∧ Post ⟨T.setVm vm₁, locs, cells, slots⟩ (Value.ref b :: argsL).toArray v B ∧
      ∀ target, Steps p.tables e below (B.U.setTop { g with pc := g.pc + 3, stack := v.toList ++ rest }) target → Steps p.tables e below (T.setTop g) target) ∨
    (∃ (q : Addr) (vm₁ : Vm) (B : Pt), s.WarmedH vm₁ ∧ Stand p l e R s m args below meth c B.U B.locs B.cells B.slots ∧ PostX ⟨T.setVm vm₁, locs, cells, slots⟩ (Value.ref b :: argsL).toArray q B ∧
      Steps p.tables e below (T.setTop g) ((B.U.setTop { g with stack := rest }).pushFrame (.throwing q))) := by
  obtain ⟨mk, methM, hnamed, hmethM, hstM, habM⟩ := Cond.instanceMethod_spec hinst
  obtain ⟨m8, methM', cM, hn8, hmethM', -, -, -, -, -, -, hsigM⟩ := Cond.codeWith_spec hcode
  cases Option.some.inj (hn8.symm.trans hnamed)
  cases hmethM.symm.trans hmethM'
  obtain ⟨c2, r2, m2, q1, q2, q3, q4, kP, hkP, hkPi⟩ := Cond.selects_spec hsel
  cases hcls.symm.trans q1
  cases (State.methodFound?_of_named hnamed hy).symm.trans q2
  cases hnamed.symm.trans q3
  have hselP : selectMethod e.platform s.vm cellB.cls mk = .method mk := by rw [Launch.admits_selectMethod X.admits]; exact q4
  obtain ⟨vm₁, X₁, hstep₁⟩ := X.invokevirtual hexec hown hlink hnamed hmethM hstM hkP hkPi hy (a := b) (cell := cellB) hcell
    (fun z h => by rw [h] at hobj; cases hobj) hselP hmethM habM hkP hkPi (g := g) hg (argsL := argsL) (rest := rest) (hlen _ hsigM) hstack hdg
  rcases hK m meth c ⟨T.setVm vm₁, locs, cells, slots⟩ { g with stack := rest } (.invokevirtual index) mk (Value.ref b :: argsL).toArray X₁ hg hsize hdg hW (X₁.named hnamed) (hpre vm₁ X₁.warmed) with ⟨v, B, X', hpost, hsteps⟩ | ⟨q, B, X', hpost, hsteps⟩
  · exact Or.inl ⟨v, vm₁, B, X₁.warmed, X', hpost, fun target h => hstep₁ _ fun acts => by rw [doInvoke_state]; exact hsteps.trans h⟩
  · exact Or.inr ⟨q, vm₁, B, X₁.warmed, X', hpost, hstep₁ _ fun acts => by rw [doInvoke_state]; exact hsteps⟩
theorem vx_callSX (X : Stand p l e R s m args below meth c T locs cells slots) (hexec : p.tables.exec = Jvm.exec) {own : String} {index : Nat} {y : MethodName} {bytes : ByteArray} {maxL : Nat} {ret : Option FieldType} {hh : List (Nat × Nat × Nat × Nat)}
    (hown : s.vm.findClass own = some m.cls) (hlink : (Cond.methodLink own index y).before args s = true) (hstat : (Cond.static y).before args s = true) (hinit : (Cond.initialized y.cls).before args s = true)
    (hcode : (Cond.codeWith y bytes maxL ret hh).before args s = true) (hy : y.cls ≠ "java/lang/invoke/MethodHandle" ∧ y.cls ≠ "java/lang/invoke/VarHandle")
    {W9 : Nat} {Pre : Pt → Array Value → Prop} {Post : Pt → Array Value → Option Value → Pt → Prop} {PostX : Pt → Array Value → Addr → Pt → Prop} (hK : vx_Back l R p e below s args y 3 W9 Pre Post PostX)
    {g : JFrame} (hg : g.method = m) (hsize : g.locals.size = c.maxLocals) {argsL rest : List Value} (hlen : ∀ sig, parseMethodDescriptor y.desc = some sig → argsL.length = sig.parameters.length)
    (hstack : g.stack = argsL.reverse ++ rest) (hW : 2 * g.monitorRoom + (rest.map fun v => v.category).sum ≤ W9) (hdg : decode c.code g.pc = .ok (.invokestatic index, 3))
    (hpre : ∀ vm₁, s.WarmedH vm₁ → Pre ⟨T.setVm vm₁, locs, cells, slots⟩ argsL.toArray) :
    (∃ (v : Option Value) (vm₁ : Vm) (B : Pt), s.WarmedH vm₁ ∧ Stand p l e R s m args below meth c B.U B.locs B.cells B.slots ∧ Post ⟨T.setVm vm₁, locs, cells, slots⟩ argsL.toArray v B ∧
      ∀ target, Steps p.tables e below (B.U.setTop { g with pc := g.pc + 3, stack := v.toList ++ rest }) target → Steps p.tables e below (T.setTop g) target) ∨
    (∃ (q : Addr) (vm₁ : Vm) (B : Pt), s.WarmedH vm₁ ∧ Stand p l e R s m args below meth c B.U B.locs B.cells B.slots ∧ PostX ⟨T.setVm vm₁, locs, cells, slots⟩ argsL.toArray q B ∧
      Steps p.tables e below (T.setTop g) ((B.U.setTop { g with stack := rest }).pushFrame (.throwing q))) := by
  obtain ⟨mk, methM, cM, hnamed, hmethM, -, -, -, -, -, -, hsigM⟩ := Cond.codeWith_spec hcode
  have hstatic : methM.isStatic = true := Cond.static_spec hnamed hmethM hstat
  obtain ⟨kP, hkP, -⟩ := className_of_methodNamed hnamed
  have hinitP : kP.init = .initialized := Cond.initialized_spec (findClass_of_methodNamed hnamed) hkP hinit
  obtain ⟨vm₁, X₁, hstep₁⟩ := X.invokestatic hexec hown hlink hnamed hmethM hstatic hkP hinitP hy (g := g) hg (argsL := argsL) (rest := rest) (hlen _ hsigM) hstack hdg
  rcases hK m meth c ⟨T.setVm vm₁, locs, cells, slots⟩ { g with stack := rest } (.invokestatic index) mk argsL.toArray X₁ hg hsize hdg hW (X₁.named hnamed) (hpre vm₁ X₁.warmed) with ⟨v, B, X', hpost, hsteps⟩ | ⟨q, B, X', hpost, hsteps⟩
  · exact Or.inl ⟨v, vm₁, B, X₁.warmed, X', hpost, fun target h => hstep₁ _ fun acts => by rw [doInvoke_state]; exact hsteps.trans h⟩
  · exact Or.inr ⟨q, vm₁, B, X₁.warmed, X', hpost, hstep₁ _ fun acts => by rw [doInvoke_state]; exact hsteps⟩
theorem vx_callVW (X : Stand p l e R s m args below meth c T locs cells slots) (hexec : p.tables.exec = Jvm.exec) {own C : String} {index : Nat} {y : MethodName} {bytes : ByteArray} {maxL : Nat} {ret : Option FieldType} {hh : List (Nat × Nat × Nat × Nat)}
    (hown : s.vm.findClass own = some m.cls) (hlink : (Cond.methodLink own index y).before args s = true) (hinst : (Cond.instanceMethod y).before args s = true) (hsel : (Cond.selects C y y).before args s = true)
    (hcode : (Cond.codeWith y bytes maxL ret hh).before args s = true) (hy : y.cls ≠ "java/lang/invoke/MethodHandle" ∧ y.cls ≠ "java/lang/invoke/VarHandle")
    {W9 : Nat} {Pre : Pt → Array Value → Prop} {Post : Pt → Array Value → Option Value → Pt → Prop} (hK : Back l R p e below s args y 3 W9 Pre Post)
    {b : Addr} {cellB : Cell} (hcell : T.heap[b]? = some cellB) (hobj : cellB.vm.isStatics = false) (hcls : s.vm.findClass C = some cellB.cls)
    {g : JFrame} (hg : g.method = m) (hsize : g.locals.size = c.maxLocals) {argsL rest : List Value} (hlen : ∀ sig, parseMethodDescriptor y.desc = some sig → argsL.length = sig.parameters.length)
    (hstack : g.stack = argsL.reverse ++ .ref b :: rest) (hW : 2 * g.monitorRoom + (rest.map fun v => v.category).sum ≤ W9) (hdg : decode c.code g.pc = .ok (.invokevirtual index, 3))
    (hpre : ∀ vm₁, s.WarmedH vm₁ → Pre ⟨T.setVm vm₁, locs, cells, slots⟩ (Value.ref b :: argsL).toArray) :
    ∃ (v : Option Value) (vm₁ : Vm) (B : Pt), s.WarmedH vm₁ ∧ Stand p l e R s m args below meth c B.U B.locs B.cells B.slots ∧ Post ⟨T.setVm vm₁, locs, cells, slots⟩ (Value.ref b :: argsL).toArray v B ∧
      ∀ target, Steps p.tables e below (B.U.setTop { g with pc := g.pc + 3, stack := v.toList ++ rest }) target → Steps p.tables e below (T.setTop g) target := by
  obtain ⟨mk, methM, hnamed, hmethM, hstM, habM⟩ := Cond.instanceMethod_spec hinst
  obtain ⟨m8, methM', cM, hn8, hmethM', -, -, -, -, -, -, hsigM⟩ := Cond.codeWith_spec hcode
  cases Option.some.inj (hn8.symm.trans hnamed)
  cases hmethM.symm.trans hmethM'
  obtain ⟨c2, r2, m2, q1, q2, q3, q4, kP, hkP, hkPi⟩ := Cond.selects_spec hsel
  cases hcls.symm.trans q1
  cases (State.methodFound?_of_named hnamed hy).symm.trans q2
  cases hnamed.symm.trans q3
  have hselP : selectMethod e.platform s.vm cellB.cls mk = .method mk := by rw [Launch.admits_selectMethod X.admits]; exact q4
  obtain ⟨vm₁, X₁, hstep₁⟩ := X.invokevirtual hexec hown hlink hnamed hmethM hstM hkP hkPi hy (a := b) (cell := cellB) hcell
    (fun z h => by rw [h] at hobj; cases hobj) hselP hmethM habM hkP hkPi (g := g) hg (argsL := argsL) (rest := rest) (hlen _ hsigM) hstack hdg
  obtain ⟨v, B, X', hpost, hsteps⟩ := hK m meth c ⟨T.setVm vm₁, locs, cells, slots⟩ { g with stack := rest } (.invokevirtual index) mk (Value.ref b :: argsL).toArray X₁ hg hsize hdg hW (X₁.named hnamed) (hpre vm₁ X₁.warmed)
  exact ⟨v, vm₁, B, X₁.warmed, X', hpost, fun target h => hstep₁ _ fun acts => by rw [doInvoke_state]; exact hsteps.trans h⟩
abbrev vx_CVW (R : Room) (s : State) (args : Array Value) (own C : String) (index : Nat) (y : MethodName) (bytes : ByteArray) (maxL : Nat) (ret : Option FieldType) (hh : List (Nat × Nat × Nat × Nat)) (ws : List Cond) (rm : Room) (mc ms n : Nat) : Prop :=
  (rm.cells = mc ∧ rm.slots = ms ∧ rm.frames + 1 ≤ R.frames ∧ 8 + (maxL + 11) + rm.locals ≤ R.locals ∧ (∀ w ∈ ws, ∀ (a' : Array Value) (U : State), s.WarmedH U.vm → w.before a' U = true) ∧ Cond.codeWith y bytes maxL ret hh ∈ ws) ∧
  (Cond.codeWith y bytes maxL ret hh).before args s = true ∧ (Cond.initialized y.cls).before args s = true ∧ (y.cls ≠ "java/lang/invoke/MethodHandle" ∧ y.cls ≠ "java/lang/invoke/VarHandle") ∧
  (∀ sig, parseMethodDescriptor y.desc = some sig → n = sig.parameters.length) ∧ (Cond.methodLink own index y).before args s = true ∧ (Cond.instanceMethod y).before args s = true ∧ (Cond.selects C y y).before args s = true
theorem vx_cwVW {own C : String} {index maxL mc ms : Nat} {y : MethodName} {bytes : ByteArray} {ret : Option FieldType} {hh : List (Nat × Nat × Nat × Nat)} {Ts ws ws' : List Cond} {rm : Room} (n : Nat) (ht : ∀ w ∈ Ts, w.before args s = true) (hT : GoodIn Ts (wsV own index C y ws)) (hw : ws = Cond.codeWith y bytes maxL ret hh :: ws') (hrc : rm.cells = mc) (hrs : rm.slots = ms)
    (hd : y.cls = C ∧ y.cls ≠ "java/lang/invoke/MethodHandle" ∧ y.cls ≠ "java/lang/invoke/VarHandle" ∧ (parseMethodDescriptor y.desc).map (fun d => d.parameters.length) = some n) (hR : rm.frames + 1 ≤ R.frames ∧ 8 + (maxL + 11) + rm.locals ≤ R.locals) :
    vx_CVW R s args own C index y bytes maxL ret hh ws rm mc ms n := by
  obtain ⟨hC, hd⟩ := hd
  subst hC
  have ok : ∀ w ∈ wsV own index y.cls y ws, w.before args s = true := fun w h => ht w (hT w h).1
  have hG : GoodIn Ts ws := fun w h => hT w (by unfold wsV; exact List.mem_append_right _ h)
  have hc : Cond.codeWith y bytes maxL ret hh ∈ ws := by rw [hw]; exact List.mem_cons_self
  refine ⟨⟨hrc, hrs, hR.1, hR.2, pay_in ht hG, hc⟩, ht _ (hG _ hc).1, ok _ (by simp [wsV]), ⟨hd.1, hd.2.1⟩, fun sig h => ?_, ok _ (by simp [wsV]), ok _ (by simp [wsV]), ok _ (by simp [wsV])⟩
  have h2 := hd.2.2
  rw [h] at h2
  exact (Option.some.inj h2).symm
theorem vx_runVW {y : MethodName} {bytes cc : ByteArray} {maxL nL mc ms n index : Nat} {ret : Option FieldType} {hh : List (Nat × Nat × Nat × Nat)} {ws : List Cond} {rm : Room} {Pc : Array Value → State → Prop} {Qc : Array Value → State → Outcome → State → Prop} {free : Addr → Prop} {Ts : List Cond} {own C : String} {b : Addr} {As rest : List Value} {g : JFrame}
    (S : CallFix p m c cc nL s args Ts own) (hM : Met l y ws rm Pc Qc mc ms free) (cw : vx_CVW R s args own C index y bytes maxL ret hh ws rm mc ms n) (hp : PreV s H C b Pc As)
    (hg : g.method = m) (hn : As.length = n) (hsize : g.locals.size = nL) (hstack : g.stack = As.reverse ++ .ref b :: rest) (hW : 2 * g.monitorRoom + (rest.map fun v => v.category).sum ≤ 8) (hdg : decode cc g.pc = .ok (.invokevirtual index, 3)) (hf : cells + mc ≤ R.cells ∧ slots + ms ≤ R.slots) :
    va_Run p l e R s m args below meth c H locs cells slots mc ms g rest (Qc (Value.ref b :: As).toArray) free := by
  obtain ⟨⟨hrc, hrs, hfr, hlo, hws, hcw⟩, hcode, hini, hy, hlen, hl, hin, hse⟩ := cw
  have hK : Back l R p e below s args y 3 8 (PreOf R mc ms Pc) (PostOf Qc mc ms free) := va_backW (hh := hh) (bytes := bytes) (maxL := maxL) (ret := ret) hM hp.1 hrc hrs hfr hlo hws hcw (fun a' U hW => word_at hW (Or.inl (by first | rfl | simp [Cond.onTables, Cond.keeps, Cond.steady])) hini)
  obtain ⟨hx, hb, hml, ho, -⟩ := S
  obtain ⟨-, ⟨cellB, hcB, hoB, hclB⟩, hPc⟩ := hp
  intro T hT X
  obtain ⟨v, vm₁, ⟨U', l2, c2, s2⟩, hW₁, X', ⟨g', mk, t, L, e1, e2, hq, h1, hL, h2, h3⟩, st⟩ := vx_callVW X hx (C := C) (hh := hh) (bytes := bytes) (maxL := maxL) (ret := ret) ho hl hin hse hcode hy hK (by rw [hT]; exact hcB) hoB hclB hg (hsize.trans hml.symm) (argsL := As) (rest := rest) (fun sig h => hn.trans (hlen sig h)) hstack hW (by rw [hb]; exact hdg)
    (fun vm₁ hW₁ => ⟨hf.1, hf.2, hPc (T.setVm vm₁) hT hW₁⟩)
  dsimp only [Pt.U, Pt.locs, Pt.cells, Pt.slots] at X' e1 e2 h1 h2 h3 st
  subst h1; subst h2; subst h3
  exact ⟨v, (T.setVm vm₁).calling g' mk (Value.ref b :: As).toArray, t, U', L, hT, X', hL, e1, e2, hq, st⟩
section
variable {y : MethodName} {bytes cc : ByteArray} {maxL nL mc ms n index : Nat} {ret : Option FieldType} {ws : List Cond} {rm : Room} {Pc : Array Value → State → Prop} {Qc : Array Value → State → Outcome → State → Prop} {XC : String → State → State → Prop} {free : Addr → Prop} {Ts : List Cond} {own C : String} {b : Addr} {As rest : List Value} {g : JFrame}
theorem vx_runVX {hh : List (Nat × Nat × Nat × Nat)} (S : CallFix p m c cc nL s args Ts own) (hM : vx_Met l y ws rm Pc Qc XC mc ms free) (cw : vx_CVW R s args own C index y bytes maxL ret hh ws rm mc ms n) (hp : PreV s H C b Pc As)
    (hg : g.method = m) (hn : As.length = n) (hsize : g.locals.size = nL) (hstack : g.stack = As.reverse ++ .ref b :: rest) (hW : 2 * g.monitorRoom + (rest.map fun v => v.category).sum ≤ 8) (hdg : decode cc g.pc = .ok (.invokevirtual index, 3)) (hf : cells + mc ≤ R.cells ∧ slots + ms ≤ R.slots) :
    vx_Run p l e R s m args below meth c H locs cells slots mc ms g rest (Qc (Value.ref b :: As).toArray) XC free := by
  obtain ⟨⟨hrc, hrs, hfr, hlo, hws, hcw⟩, hcode, hini, hy, hlen, hl, hin, hse⟩ := cw
  have hK : vx_Back l R p e below s args y 3 8 (PreOf R mc ms Pc) (PostOf Qc mc ms free) (vx_Post XC mc ms free) := vx_backW (hh := hh) (bytes := bytes) (maxL := maxL) (ret := ret) hM hp.1 hrc hrs hfr hlo hws hcw (fun a' U hW => word_at hW (Or.inl (by first | rfl | simp [Cond.onTables, Cond.keeps, Cond.steady])) hini)
  obtain ⟨hx, hb, hml, ho, -⟩ := S
  obtain ⟨-, ⟨cellB, hcB, hoB, hclB⟩, hPc⟩ := hp
  intro T hT X
  rcases vx_callVX X hx (C := C) (hh := hh) (bytes := bytes) (maxL := maxL) (ret := ret) ho hl hin hse hcode hy hK (by rw [hT]; exact hcB) hoB hclB hg (hsize.trans hml.symm) (argsL := As) (rest := rest) (fun sig h => hn.trans (hlen sig h)) hstack hW (by rw [hb]; exact hdg)
    (fun vm₁ hW₁ => ⟨hf.1, hf.2, hPc (T.setVm vm₁) hT hW₁⟩) with ⟨v, vm₁, ⟨U', l2, c2, s2⟩, hW₁, X', ⟨g', mk, t, L, e1, e2, hq, h1, hL, h2, h3⟩, st⟩ | ⟨q, vm₁, ⟨U', l2, c2, s2⟩, hW₁, X', ⟨g', mk, t, L, E, ce, e1, e2, hq, hce, hcv, hcl, h1, hL, h2, h3⟩, st⟩
  · dsimp only [Pt.U, Pt.locs, Pt.cells, Pt.slots] at X' e1 e2 h1 h2 h3 st
    subst h1; subst h2; subst h3
    exact Or.inl ⟨v, (T.setVm vm₁).calling g' mk (Value.ref b :: As).toArray, t, U', L, hT, X', hL, e1, e2, hq, st⟩
  · dsimp only [Pt.U, Pt.locs, Pt.cells, Pt.slots] at X' e1 e2 h1 h2 h3 st hcl
    subst h1; subst h2; subst h3
    exact Or.inr ⟨q, (T.setVm vm₁).calling g' mk (Value.ref b :: As).toArray, t, U', L, E, ce, hT, X', hL, e1, e2, hq, hce, hcv, vx_cls hW₁ hcl, st⟩
theorem vx_runSX {hh : List (Nat × Nat × Nat × Nat)} (S : CallFix p m c cc nL s args Ts own) (hM : vx_Met l y ws rm Pc Qc XC mc ms free) (cw : vx_CSW R s args own index y bytes maxL ret hh ws rm mc ms n) (hp : PreS s H Pc As)
    (hg : g.method = m) (hn : As.length = n) (hsize : g.locals.size = nL) (hstack : g.stack = As.reverse ++ rest) (hW : 2 * g.monitorRoom + (rest.map fun v => v.category).sum ≤ 8) (hdg : decode cc g.pc = .ok (.invokestatic index, 3)) (hf : cells + mc ≤ R.cells ∧ slots + ms ≤ R.slots) :
    vx_Run p l e R s m args below meth c H locs cells slots mc ms g rest (Qc As.toArray) XC free := by
  obtain ⟨⟨hrc, hrs, hfr, hlo, hws, hcw⟩, hcode, hini, hy, hlen, hl, hstt⟩ := cw
  have hK : vx_Back l R p e below s args y 3 8 (PreOf R mc ms Pc) (PostOf Qc mc ms free) (vx_Post XC mc ms free) := vx_backW (hh := hh) (bytes := bytes) (maxL := maxL) (ret := ret) hM hp.1 hrc hrs hfr hlo hws hcw (fun a' U hW => word_at hW (Or.inl (by first | rfl | simp [Cond.onTables, Cond.keeps, Cond.steady])) hini)
  obtain ⟨hx, hb, hml, ho, -⟩ := S
  intro T hT X
  rcases vx_callSX X hx (hh := hh) (bytes := bytes) (maxL := maxL) (ret := ret) ho hl hstt hini hcode hy hK hg (hsize.trans hml.symm) (argsL := As) (rest := rest) (fun sig h => hn.trans (hlen sig h)) hstack hW (by rw [hb]; exact hdg)
    (fun vm₁ hW₁ => ⟨hf.1, hf.2, hp.2 (T.setVm vm₁) hT hW₁⟩) with ⟨v, vm₁, ⟨U', l2, c2, s2⟩, hW₁, X', ⟨g', mk, t, L, e1, e2, hq, h1, hL, h2, h3⟩, st⟩ | ⟨q, vm₁, ⟨U', l2, c2, s2⟩, hW₁, X', ⟨g', mk, t, L, E, ce, e1, e2, hq, hce, hcv, hcl, h1, hL, h2, h3⟩, st⟩
  · dsimp only [Pt.U, Pt.locs, Pt.cells, Pt.slots] at X' e1 e2 h1 h2 h3 st
    subst h1; subst h2; subst h3
    exact Or.inl ⟨v, (T.setVm vm₁).calling g' mk As.toArray, t, U', L, hT, X', hL, e1, e2, hq, st⟩
  · dsimp only [Pt.U, Pt.locs, Pt.cells, Pt.slots] at X' e1 e2 h1 h2 h3 st hcl
    subst h1; subst h2; subst h3
    exact Or.inr ⟨q, (T.setVm vm₁).calling g' mk As.toArray, t, U', L, E, ce, hT, X', hL, e1, e2, hq, hce, hcv, vx_cls hW₁ hcl, st⟩
end
end VXH
theorem vx_ofWH {l : Launch} {y : MethodName} {ws ws' : List Cond} {rm : Room} {Pc : Array Value → State → Prop} {Qc : Array Value → State → Outcome → State → Prop} {XC : String → State → State → Prop} {mc ms : Nat} {free : Addr → Prop} {cc : ByteArray} {maxL : Nat} {ret : Option FieldType} {hh : List (Nat × Nat × Nat × Nat)}
    (hy : plainName y.cls = true) (hw : ws = Cond.codeWith y cc maxL ret hh :: ws')
    (body : ∀ p e s m args below meth c s₁, BodyLoose p l y (headSpec ws rm) cc maxL ret e s m args below meth c s₁ → c.maxLocals = maxL → Pc args s →
      W p l e (headSpec ws rm).room s m args below meth c s.heap [] 0 0 (vx_MQ below Qc XC args s mc ms free) (entryFrame m args maxL)) : vx_Met l y ws rm Pc Qc XC mc ms free := by
  refine MetFree.of_bodyS (code := cc) (maxLocals := maxL) (ret := ret) hy ?_ ?_
  · intro args s m h hn
    obtain ⟨m9, meth, c, hn9, h1, h2, h3, h4, -, h5, h6, -⟩ := Cond.codeWith_spec (atoms_spec (ws := ws) h _ (by rw [hw]; exact List.mem_cons_self))
    cases hn.symm.trans hn9
    exact ⟨meth, c, h1, h2, h3, h4, h5, h6⟩
  · intro p e s m args below meth c s₁ B hml hP _
    have hh0 : s₁.heap = s.heap := by rw [B.state]; rfl
    obtain ⟨t, a1, o, b1, b2, b3⟩ := body p e s m args below meth c s₁ B hml hP s₁ hh0 (Stand.of_body B)
    exact ⟨t, o, a1, b1, b2, b3⟩
/-! ===== END ===== -/

/-! ===== BEGIN what the machine throws by itself, no traces kept ===== -/
section VXM
set_option maxHeartbeats 1000000 in
/-- the machine throws cls with the message text, no traces kept: from its note over the frame g to 'throwing' over the same frame (follows the proofs of Stand.vmThrowsMessage, Shelf/KitTracedVmS.lean, and Stand.throwsMessageColdBareV, StandMessageColdV.lean, without the step out of the frame) -/
theorem vx_vmAt {p : Program} {l : Launch} {e : Env} {R : Room} {s : State} {m₀ : MethodId} {args : Array Value} {below : List Frame} {meth : Method} {c : Code} {W : State} {locs : List Loc} {cells slots : Nat}
    (X : Stand p l e R s m₀ args below meth c W locs cells slots) (hexec : p.tables.exec = Jvm.exec) (htr : e.platform.stackTraces = false) {cls : String} {names : List String} {text : String}
    (hcls : Bundle.fit cls = true) (hnames : ∀ n ∈ names, Bundle.fit n = true) (hsoe : (cls == "java/lang/StackOverflowError") = false) (hoom : (cls == "java/lang/OutOfMemoryError") = false)
    (h : ∀ a ∈ Bundle.messageArmAtoms cls names, a.before args s = true)
    (hlocs : ∀ x ∈ locs, ∀ cell, s.heap[x.base]? = some cell → cell.vm.isStatics = false)
    (htext : (text == notModelled) = false) (hlimit : ¬ (stringBytes (stringToUtf16 text)).size > e.platform.arrayLengthLimit) (hheap : ¬ (stringBytes (stringToUtf16 text)).size * componentBytes .byte > e.platform.maxHeapBytes)
    {g : JFrame} (hg : g.method = m₀) (hsize : g.locals.size = c.maxLocals)
    (hRframes : names.length + 4 < R.frames) (hRlocals : 2 * g.monitorRoom + (g.stack.map fun v => v.category).sum + 10240 ≤ R.locals) (hshort : 13 * names.length + 55 ≤ 10240)
    (hRcells : cells + 3 ≤ R.cells) (hRslots : slots + ((stringBytes (stringToUtf16 text)).size + 4 + 6) ≤ R.slots) (hlocks : meth.locks = false) :
    ∃ (S : State) (q : Addr) (ce : Cell), (∀ target, Steps p.tables e below ((S.setTop g).pushFrame (.throwing q)) target → Steps p.tables e below ((W.setTop g).pushFrame (.throwNew cls (some text) none)) target) ∧
      Stand p l e R s m₀ args below meth c S locs (cells + 3) (slots + ((stringBytes (stringToUtf16 text)).size + 4 + 6)) ∧ S.heap[q]? = some ce ∧ s.vm.findClass cls = some ce.cls ∧ ce.vm = .none := by
  have howns : e.platform.frameOwnsMonitors = true := by rw [X.admits.platform]
  have hfin : e.platform.finalization = false := by rw [X.admits.platform]
  have hpl : e.platform.magicAccessors = ({} : Platform).magicAccessors := by rw [X.admits.platform]
  have a : ∀ x, x ∈ Bundle.messageArmAtoms cls names → x.holds args s none s [] = true := fun x hx => h x hx
  obtain ⟨T, Z0, L, -, Y⟩ := ThrowableC.of_atoms (args := args) howns hfin hpl (fun x hx => h x (by simp [Bundle.messageArmAtoms, hx]))
  obtain ⟨Z, M, LZ, LM, hnZ⟩ := Init0T.ofS_atoms (args := args) hpl L Y (fun x hx => h x (by simp [Bundle.messageArmAtoms, hx]))
  obtain ⟨P1, Ps, hlen, L1, hL, hP1m, hlink1, hlink⟩ := Bundle.chainS (args := args) hpl hnZ names cls hcls hnames (fun x hx => h x (by simp [Bundle.messageArmAtoms, hx]))
  obtain ⟨Zs, LZs, hn4, hfitv, hfitc⟩ := StringT.of_atoms (args := args) (fun x hx => h x (by simp [Bundle.messageArmAtoms, hx]))
  have hfound : s.vm.findClass cls = some P1.m.cls := findClass_of_methodNamed hP1m
  obtain ⟨c1, kX, hc1, hk, hord, -, -, hn6⟩ := Cond.instantiable_spec (a (.instantiable cls 6) (by simp [Bundle.messageArmAtoms]))
  cases Option.some.inj (hc1.symm.trans hfound)
  have hinit := Cond.initialized_spec hfound hk (a (.initialized cls) (by simp [Bundle.messageArmAtoms]))
  have hctor : kX.findMethod "<init>" "(Ljava/lang/String;)V" = some P1.m.idx := findMethod_of_methodNamed hP1m hk
  have hsel0 : selectMethod e.platform s.vm P1.m.cls T.fill0 = .method T.fill0 := by
    obtain ⟨c2, r2, m2, q1, q2, q3, q4, -⟩ := Cond.selects_spec (a (.selects cls Bundle.tFill0 Bundle.tFill0) (by simp [Bundle.messageArmAtoms]))
    cases Option.some.inj (q1.symm.trans hfound)
    cases Option.some.inj (q2.symm.trans (State.methodFound?_of_named Y.fill0 (by decide)))
    cases Option.some.inj (q3.symm.trans Y.fill0)
    rw [Launch.admits_selectMethod X.admits]; exact q4
  have hselF : selectMethod e.platform s.vm P1.m.cls T.fill = .method T.fill := by
    obtain ⟨c2, r2, m2, q1, q2, q3, q4, -⟩ := Cond.selects_spec (a (.selects cls Bundle.tFill Bundle.tFill) (by simp [Bundle.messageArmAtoms]))
    cases Option.some.inj (q1.symm.trans hfound)
    cases Option.some.inj (q2.symm.trans (State.methodFound?_of_named Y.fill (by decide)))
    cases Option.some.inj (q3.symm.trans Y.fill)
    rw [Launch.admits_selectMethod X.admits]; exact q4
  obtain ⟨cellS0, hcS0, hiss⟩ := Y.statics
  obtain ⟨u0, hu0⟩ := Cond.staticRefV Y.unassigned L.unassignedStatic L.statics hcS0 hiss (a (.isRef (.static Bundle.tN "UNASSIGNED_STACK" Bundle.steD)) (by simp [Bundle.messageArmAtoms]))
  obtain ⟨sen, hsen⟩ := Cond.staticRefV Y.sentinel L.sentinelStatic L.statics hcS0 hiss (a (.isRef (.static Bundle.tN "SUPPRESSED_SENTINEL" Bundle.listD)) (by simp [Bundle.messageArmAtoms]))
  obtain ⟨ci198, i198, fB, hk198, hg198, ha198, hsB, -, hnB, htB, hffB⟩ := Cond.ownField (t := .object "java/lang/Object") Y.found L.cls (by decide +kernel) (a (.fieldLink Bundle.tN 198 Bundle.tN "backtrace" "Ljava/lang/Object;") (by simp [Bundle.messageArmAtoms])) (a (.lays Bundle.tN Bundle.tN "backtrace" "Ljava/lang/Object;") (by simp [Bundle.messageArmAtoms])) e.platform hpl
  obtain ⟨cellS, hcS', heS, -, hkeep⟩ := X.same.2.2.2.2.2 T.aS cellS0 hcS0
  have hcellS : W.heap[T.aS]? = some cellS := hcS'
  have hout' : ∀ i, (⟨T.aS, i⟩ : Loc) ∉ locs := fun i hmem => by
    have := hlocs _ hmem cellS0 hcS0
    rw [hiss] at this; cases this
  have hknownS : cellS.vm ≠ .unknown := by
    rw [heS]; intro hu
    rw [show cellS0.vm = .unknown from hu] at hiss
    cases hiss
  have hvU : cellS.slots[T.fUnassigned.slot]? = some u0.v := by rw [hkeep _ (hout' _)]; exact hu0
  have hvSen : cellS.slots[T.fSentinel.slot]? = some sen.v := by rw [hkeep _ (hout' _)]; exact hsen
  obtain ⟨iM, hffM⟩ := Y.msg
  obtain ⟨tyC, dC, hdC, hdnC⟩ := Cond.laysAt hfound hk Y.cause (a (.lays cls Bundle.tN "cause" "Ljava/lang/Throwable;") (by simp [Bundle.messageArmAtoms]))
  obtain ⟨tyS, dS, hdS, hdnS⟩ := Cond.laysAt hfound hk Y.stack (a (.lays cls Bundle.tN "stackTrace" Bundle.steD) (by simp [Bundle.messageArmAtoms]))
  obtain ⟨tyP, dP, hdP, hdnP⟩ := Cond.laysAt hfound hk Y.supp (a (.lays cls Bundle.tN "suppressedExceptions" Bundle.listD) (by simp [Bundle.messageArmAtoms]))
  obtain ⟨tyM, dM, hdM, hdnM⟩ := Cond.laysAt hfound hk hffM (a (.lays cls Bundle.tN "detailMessage" "Ljava/lang/String;") (by simp [Bundle.messageArmAtoms]))
  obtain ⟨tyB, dB, hdB, hdnB⟩ := Cond.laysAt hfound hk hffB (a (.lays cls Bundle.tN "backtrace" "Ljava/lang/Object;") (by simp [Bundle.messageArmAtoms]))
  have bC := Cond.laysApart hdB hdC hdnB hdnC (by rw [hnB, Y.causeName]; decide)
  have bS := Cond.laysApart hdB hdS hdnB hdnS (by rw [hnB, Y.stackName]; decide)
  have bP := Cond.laysApart hdB hdP hdnB hdnP (by rw [hnB, Y.suppName]; decide)
  have hbk : ((preparedCellV T.toThrowableT (freshCell P1.m.cls kX) (W.heap.size + 2) u0 sen).withEntry W.cur).slots[fB.slot]? = some .null := by
    have := fresh_default (c := P1.m.cls) tyB
    rw [htB] at this
    simpa [preparedCellV, Cell.setSlot, Cell.withEntry, Array.getElem?_setIfInBounds, bC, bS, bP, bC.symm, bS.symm, bP.symm, defaultValue] using this
  have tkC := Takes.of_laid (v := .ref (W.heap.size + 2)) hk hord tyC (by rw [Y.causeType]; rfl)
  have tkS := Takes.of_laid (v := u0.v) hk hord tyS (by rw [Y.stackType]; exact fits_refV_array _ u0)
  have tkP := Takes.of_laid (v := sen.v) hk hord tyP (by rw [Y.suppType]; exact fits_refV_object _ sen)
  have tkM := Takes.of_laid (v := .ref (W.heap.size + 1)) hk hord tyM (by rw [Y.msgType]; rfl)
  have hskip : SkipFacts T e.platform s (fun u => u) u0 ((preparedCellV T.toThrowableT (freshCell P1.m.cls kX) (W.heap.size + 2) u0 sen).withEntry W.cur) := ⟨{ ci198 := ci198, i198 := i198, fBack := fB }, ⟨hk198, hg198, ha198, hsB⟩, hbk, fun _ _ => rfl⟩
  have h0 : At W g.method c below := by rw [hg]; exact X.here
  obtain ⟨hbeyond, hfreeW⟩ := X.vmMayThrow hsize (.throwNew cls (some text) none) (fun f hf => by cases hf) rfl hRlocals
  have hfr' : W.frames.length + Ps.length + 4 < (e.platform.stackLimits W.me).1 := by have := X.framesAbove hRframes; omega
  have hwd' : (stackUse (.java g :: W.frames.tail)).2 + 13 * Ps.length + 55 ≤ (e.platform.stackLimits W.me).2 := by have := X.stackAbove hsize (K := 13 * Ps.length + 55) (by omega); omega
  have hslots : W.slotsUsed + (stringBytes (stringToUtf16 text)).size + Zs.kS.instanceTypes.size + kX.instanceTypes.size ≤ e.platform.maxSlots := by
    have := X.slotsAbove hRslots
    rw [hn4, hn6]
    omega
  obtain ⟨vm', hW', st⟩ := Steps.vmThrowsMessageColdByV p (s₀ := s) (S := W) (g := g) h0 hexec T L Z LZ M LM X.warmed (t := W.cur) rfl Zs LZs P1 L1 Ps hL hlink1 hlink hsoe hoom hfound hk hinit hord hctor
    (Launch.admits_hotImplicitExceptions X.admits) hbeyond hfreeW htext hlimit hheap (X.cellsAbove hRcells) hslots (hfitv _) (hfitc _)
    (Nn := fun u => u) heapOnly_id (fun _ _ => rfl) (fun _ => rfl) (fun u x y => setCell_twice _ _ _ _) (fun _ => Nat.le_refl _) (cN := ((preparedCellV T.toThrowableT (freshCell P1.m.cls kX) (W.heap.size + 2) u0 sen).withEntry W.cur))
    hsel0 hcellS hknownS hvU tkS (fun _ hu => hu) (fun _ hu => hu) rfl rfl rfl (by simp [preparedCellV, Cell.setSlot, Cell.withEntry]) hskip (fun _ _ hA hW _ hroom _ hrest => L.nativeOff p htr hA hW hroom hrest) hselF hvSen tkC tkP tkM Y.objLocals rfl hfr' hwd'
  rw [plainBareV_eq T.toThrowableT (W.heap.size + 2) u0 sen (.ref (W.heap.size + 1)) W.cur rfl rfl] at st
  obtain ⟨-, -, w3, w4, -, -, -⟩ := withThrown_facts e.platform W Zs text P1.m.cls kX
  have X3 := ((X.pushed (bytesOf Zs.cB (stringToUtf16 text))).pushed (stringAt Zs.cS Zs.kS Zs.fv Zs.fc (stringToUtf16 text) W.heap.size)).pushed (freshCell P1.m.cls kX)
  rw [← withString_eq] at X3
  have X4 := X3.noted hW'
  have ha : (W.heap.size + 2) < ((withThrown W Zs text P1.m.cls kX).setVm vm').heap.size := by show _ < (withThrown W Zs text P1.m.cls kX).heap.size; rw [w3]; omega
  have hcell : ((withThrown W Zs text P1.m.cls kX).setVm vm').heap[(W.heap.size + 2)]? = some (freshCell P1.m.cls kX) := w4
  have X5 := ((((X4.stored hcell T.fCause.slot (.ref (W.heap.size + 2))).storedAgain ha T.fStack.slot u0.v).storedAgain ha T.fSupp.slot sen.v).storedAgain ha T.fStack.slot u0.v).storedAgain ha T.fMsg.slot (.ref (W.heap.size + 1))
  obtain ⟨g₁, hfrM⟩ := X5.frames_eq
  have hU : ((((withThrown W Zs text P1.m.cls kX).setVm vm').setCell (W.heap.size + 2) (plainBareV T.toThrowableT (freshCell P1.m.cls kX) (W.heap.size + 2) u0 sen (.ref (W.heap.size + 1)))).setTop g).pushFrame (.throwing (W.heap.size + 2)) = (((withThrown W Zs text P1.m.cls kX).setVm vm').setCell (W.heap.size + 2) (plainBareV T.toThrowableT (freshCell P1.m.cls kX) (W.heap.size + 2) u0 sen (.ref (W.heap.size + 1)))).setFrames (.throwing (W.heap.size + 2) :: .java g :: below) := by
    rw [State.pushFrame, State.frames_setTop _ hfrM, State.setTop_of_frames _ hfrM, State.setFrames_setFrames]
  have b1 : (bytesOf Zs.cB (stringToUtf16 text)).slots.size = (stringBytes (stringToUtf16 text)).size := by
    rw [(Cell.writeAll_facts _ _).2.2]; simp [bytes0]
  have b2 : (stringAt Zs.cS Zs.kS Zs.fv Zs.fc (stringToUtf16 text) W.heap.size).slots.size = 4 := by simp [string0, Cell.setSlot, hn4]
  have b3 : (freshCell P1.m.cls kX).slots.size = 6 := by simp [hn6]
  rw [b1, b2, b3] at X5
  have e9 : slots + (stringBytes (stringToUtf16 text)).size + 4 + 6 = slots + ((stringBytes (stringToUtf16 text)).size + 4 + 6) := by omega
  rw [e9] at X5
  simp only [List.append_assoc, List.cons_append, List.nil_append] at X5
  refine ⟨((withThrown W Zs text P1.m.cls kX).setVm vm').setCell (W.heap.size + 2) (plainBareV T.toThrowableT (freshCell P1.m.cls kX) (W.heap.size + 2) u0 sen (.ref (W.heap.size + 1))), W.heap.size + 2, _, fun target ht => st _ (by rw [X.tail, ← hU]; exact ht),
    X5.forget (fun y hy => ?_), heapAt_setCell_self _ ha, hfound, rfl⟩
  simp only [List.mem_cons, List.not_mem_nil, or_false] at hy
  have hge : s.heap.size ≤ W.heap.size := X.same.2.1
  rcases hy with rfl | rfl | rfl | rfl | rfl <;> exact Nat.le_trans hge (Nat.le_add_right _ 2)
set_option maxHeartbeats 1000000 in
/-- the machine throws NullPointerException, no traces kept: from its note over the frame g to 'throwing' over the same frame (follows the proof of Stand.vmThrowsNpe, Shelf42/KT2.lean; throwsNpeColdBareVAt, Shelf42/NT91.lean, called) -/
theorem vx_npeAt {p : Program} {l : Launch} {e : Env} {R : Room} {s : State} {m₀ : MethodId} {args : Array Value} {below : List Frame} {meth : Method} {c : Code} {W : State} {locs : List Loc} {cells slots : Nat}
    (X : Stand p l e R s m₀ args below meth c W locs cells slots) (hexec : p.tables.exec = Jvm.exec) (htr : e.platform.stackTraces = false) {n : Nat}
    (h : ∀ a ∈ Bundle.npeArmAtoms n, a.before args s = true)
    (hlocs : ∀ x ∈ locs, ∀ cell, s.heap[x.base]? = some cell → cell.vm.isStatics = false)
    {g : JFrame} (hg : g.method = m₀) (hsize : g.locals.size = c.maxLocals)
    (hRframes : 7 < R.frames) (hRlocals : 2 * g.monitorRoom + (g.stack.map fun v => v.category).sum + 10240 ≤ R.locals)
    (hRcells : cells + 1 ≤ R.cells) (hRslots : slots + n ≤ R.slots) (hlocks : meth.locks = false) :
    ∃ (S : State) (q : Addr) (ce : Cell), (∀ target, Steps p.tables e below ((S.setTop g).pushFrame (.throwing q)) target → Steps p.tables e below ((W.setTop g).pushFrame (.throwNew "java/lang/NullPointerException" none none)) target) ∧
      Stand p l e R s m₀ args below meth c S locs (cells + 1) (slots + n) ∧ S.heap[q]? = some ce ∧ s.vm.findClass "java/lang/NullPointerException" = some ce.cls ∧ ce.vm = .none := by
  have howns : e.platform.frameOwnsMonitors = true := by rw [X.admits.platform]
  have hfin : e.platform.finalization = false := by rw [X.admits.platform]
  have hpl : e.platform.magicAccessors = ({} : Platform).magicAccessors := by rw [X.admits.platform]
  have hpl2 : e.platform.arrayCloneIsPublic = true := by rw [X.admits.platform]
  have a' : ∀ x, x ∈ Bundle.npeArmAtoms n → x.holds args s none s [] = true := fun x hx => h x hx
  obtain ⟨T, Z, L, LZ, Y⟩ := ThrowableC.of_atoms (args := args) howns hfin hpl (fun x hx => h x (by simp [Bundle.npeArmAtoms, hx]))
  obtain ⟨N, LN, hcN, hnNF, hordN, hffS⟩ := NpeC.of_atoms (args := args) hpl hpl2 L Y (fun x hx => h x (by simp [Bundle.npeArmAtoms, hx]))
  obtain ⟨P1, L1, hP1m, hP1s⟩ := PassC.of_atoms (args := args) (s := s) hpl (X := Bundle.nN) (Y := Bundle.rN) (by decide) (by decide) LibCode.NullPointerException.Init0.at_0 LibCode.NullPointerException.Init0.at_1 LibCode.NullPointerException.Init0.at_4 (fun x hx => h x (by simp [Bundle.npeArmAtoms, hx]))
  obtain ⟨PR, LR, hPRm, hPRs⟩ := PassC.of_atoms (args := args) (s := s) hpl (X := Bundle.rN) (Y := Bundle.eN) (by decide) (by decide) LibCode.RuntimeException.Init0.at_0 LibCode.RuntimeException.Init0.at_1 LibCode.RuntimeException.Init0.at_4 (fun x hx => h x (by simp [Bundle.npeArmAtoms, hx]))
  obtain ⟨PE, LEx, hPEm, hPEs⟩ := PassC.of_atoms (args := args) (s := s) hpl (X := Bundle.eN) (Y := Bundle.tN) (by decide) (by decide) LibCode.Exception.Init0.at_0 LibCode.Exception.Init0.at_1 LibCode.Exception.Init0.at_4 (fun x hx => h x (by simp [Bundle.npeArmAtoms, hx]))
  have hfound : s.vm.findClass Bundle.nN = some P1.m.cls := findClass_of_methodNamed hP1m
  have ecls : N.cN = P1.m.cls := Option.some.inj (hcN.symm.trans hfound)
  have hk : s.vm.classes[P1.m.cls]? = some N.kN := by rw [← ecls]; exact LN.cls
  have hinit := Cond.initialized_spec hfound hk (a' (.initialized Bundle.nN) (by simp [Bundle.npeArmAtoms]))
  have hctor : N.kN.findMethod "<init>" "()V" = some P1.m.idx := findMethod_of_methodNamed hP1m hk
  obtain ⟨c1, k1, hc1, hk1, -, -, -, hn⟩ := Cond.instantiable_spec (a' (.instantiable Bundle.nN n) (by simp [Bundle.npeArmAtoms]))
  cases Option.some.inj (hc1.symm.trans hfound)
  cases Option.some.inj (hk1.symm.trans hk)
  have hfsz : (freshCell P1.m.cls N.kN).slots.size = n := by simp [hn]
  have hlink1 : P1.sup = PR.m := Option.some.inj (hP1s.symm.trans hPRm)
  have hlinkR : PR.sup = PE.m := Option.some.inj (hPRs.symm.trans hPEm)
  have hlinkE : PE.sup = Z.m T.toThrowableT := Option.some.inj (hPEs.symm.trans Y.init0)
  have hLs : ∀ P, P ∈ [PR, PE] → P.Links0 e.platform s := fun P hP => by
    simp only [List.mem_cons, List.not_mem_nil, or_false] at hP
    rcases hP with rfl | rfl
    · exact LR
    · exact LEx
  have hsel0 : selectMethod e.platform s.vm P1.m.cls T.fill0 = .method T.fill0 := by
    obtain ⟨c2, r2, m2, q1, q2, q3, q4, -⟩ := Cond.selects_spec (a' (.selects Bundle.nN Bundle.tFill0 Bundle.tFill0) (by simp [Bundle.npeArmAtoms]))
    cases Option.some.inj (q1.symm.trans hfound)
    cases Option.some.inj (q2.symm.trans (State.methodFound?_of_named Y.fill0 (by decide)))
    cases Option.some.inj (q3.symm.trans Y.fill0)
    rw [Launch.admits_selectMethod X.admits]; exact q4
  have hselF : selectMethod e.platform s.vm P1.m.cls T.fill = .method N.fill := by
    obtain ⟨c2, r2, m2, q1, q2, q3, q4, -⟩ := Cond.selects_spec (a' (.selects Bundle.nN Bundle.tFill Bundle.nFill) (by simp [Bundle.npeArmAtoms]))
    cases Option.some.inj (q1.symm.trans hfound)
    cases Option.some.inj (q2.symm.trans (State.methodFound?_of_named Y.fill (by decide)))
    cases Option.some.inj (q3.symm.trans hnNF)
    rw [Launch.admits_selectMethod X.admits]; exact q4
  obtain ⟨cellS0, hcS0, hiss⟩ := Y.statics
  obtain ⟨u0, hu0⟩ := Cond.staticRefV Y.unassigned L.unassignedStatic L.statics hcS0 hiss (a' (.isRef (.static Bundle.tN "UNASSIGNED_STACK" Bundle.steD)) (by simp [Bundle.npeArmAtoms]))
  obtain ⟨sen, hsen⟩ := Cond.staticRefV Y.sentinel L.sentinelStatic L.statics hcS0 hiss (a' (.isRef (.static Bundle.tN "SUPPRESSED_SENTINEL" Bundle.listD)) (by simp [Bundle.npeArmAtoms]))
  obtain ⟨ci198, i198, fB, hk198, hg198, ha198, hsB, -, hnB, htB, hffB⟩ := Cond.ownField (t := .object "java/lang/Object") Y.found L.cls (by decide +kernel) (a' (.fieldLink Bundle.tN 198 Bundle.tN "backtrace" Bundle.objD) (by simp [Bundle.npeArmAtoms])) (a' (.lays Bundle.tN Bundle.tN "backtrace" Bundle.objD) (by simp [Bundle.npeArmAtoms])) e.platform hpl
  obtain ⟨cellS, hcS', heS, -, hkeep⟩ := X.same.2.2.2.2.2 T.aS cellS0 hcS0
  have hcellS : W.heap[T.aS]? = some cellS := hcS'
  have hout' : ∀ i, (⟨T.aS, i⟩ : Loc) ∉ locs := fun i hmem => by
    have := hlocs _ hmem cellS0 hcS0
    rw [hiss] at this; cases this
  have hknownS : cellS.vm ≠ .unknown := by
    rw [heS]; intro hu
    rw [show cellS0.vm = .unknown from hu] at hiss
    cases hiss
  have hvU : cellS.slots[T.fUnassigned.slot]? = some u0.v := by rw [hkeep _ (hout' _)]; exact hu0
  have hvSen : cellS.slots[T.fSentinel.slot]? = some sen.v := by rw [hkeep _ (hout' _)]; exact hsen
  obtain ⟨tyC, dC, hdC, hdnC⟩ := Cond.laysAt hfound hk Y.cause (a' (.lays Bundle.nN Bundle.tN "cause" "Ljava/lang/Throwable;") (by simp [Bundle.npeArmAtoms]))
  obtain ⟨tyS, dS, hdS, hdnS⟩ := Cond.laysAt hfound hk Y.stack (a' (.lays Bundle.nN Bundle.tN "stackTrace" Bundle.steD) (by simp [Bundle.npeArmAtoms]))
  obtain ⟨tyP, dP, hdP, hdnP⟩ := Cond.laysAt hfound hk Y.supp (a' (.lays Bundle.nN Bundle.tN "suppressedExceptions" Bundle.listD) (by simp [Bundle.npeArmAtoms]))
  obtain ⟨tyX, dX, hdX, hdnX⟩ := Cond.laysAt hfound hk hffS (a' (.lays Bundle.nN Bundle.nN "extendedMessageState" "I") (by simp [Bundle.npeArmAtoms, Bundle.npeAtoms]))
  obtain ⟨hnX, htX⟩ := State.fieldFound?_type hffS (t := .int) (by decide +kernel)
  have xC := Cond.laysApart hdC hdX hdnC hdnX (by rw [hnX, Y.causeName]; decide)
  have xS := Cond.laysApart hdS hdX hdnS hdnX (by rw [hnX, Y.stackName]; decide)
  have xP := Cond.laysApart hdP hdX hdnP hdnX (by rw [hnX, Y.suppName]; decide)
  have hv0 : (freshCell P1.m.cls N.kN).slots[N.fState.slot]? = some (.int 0) := by
    have := fresh_default (c := P1.m.cls) tyX
    rw [htX] at this; exact this
  obtain ⟨tyB, dB, hdB, hdnB⟩ := Cond.laysAt hfound hk hffB (a' (.lays Bundle.nN Bundle.tN "backtrace" Bundle.objD) (by simp [Bundle.npeArmAtoms]))
  have bC := Cond.laysApart hdB hdC hdnB hdnC (by rw [hnB, Y.causeName]; decide)
  have bS := Cond.laysApart hdB hdS hdnB hdnS (by rw [hnB, Y.stackName]; decide)
  have bP := Cond.laysApart hdB hdP hdnB hdnP (by rw [hnB, Y.suppName]; decide)
  have bX := Cond.laysApart hdB hdX hdnB hdnX (by rw [hnB, hnX]; decide)
  have hbk : ((npeCell N.toNpeT (preparedCellV T.toThrowableT (freshCell P1.m.cls N.kN) W.heap.size u0 sen) W.cur).withEntry W.cur).slots[fB.slot]? = some .null := by
    have := fresh_default (c := P1.m.cls) tyB
    rw [htB] at this
    simpa [npeCell, preparedCellV, Cell.setSlot, Cell.withEntry, Array.getElem?_setIfInBounds, bC, bS, bP, bX, bC.symm, bS.symm, bP.symm, bX.symm, defaultValue] using this
  have tkC := Takes.of_laid (v := .ref W.heap.size) hk hordN tyC (by rw [Y.causeType]; rfl)
  have tkS := Takes.of_laid (v := u0.v) hk hordN tyS (by rw [Y.stackType]; exact fits_refV_array _ u0)
  have tkP := Takes.of_laid (v := sen.v) hk hordN tyP (by rw [Y.suppType]; exact fits_refV_object _ sen)
  have tkX := Takes.of_laid (v := .int 1) hk hordN tyX (by rw [htX]; rfl)
  have hskip : SkipFacts T e.platform s (fun u => u) u0 ((npeCell N.toNpeT (preparedCellV T.toThrowableT (freshCell P1.m.cls N.kN) W.heap.size u0 sen) W.cur).withEntry W.cur) := ⟨{ ci198 := ci198, i198 := i198, fBack := fB }, ⟨hk198, hg198, ha198, hsB⟩, hbk, fun _ _ => rfl⟩
  obtain ⟨vm', X3, st, -⟩ := X.throwsNpeColdBareVAt hexec hg hsize T L Z LZ N LN P1 L1 [PR, PE] hLs hlink1 ⟨hlinkR, hlinkE, trivial⟩ hfound hk hinit hordN hctor hsel0 hselF hcellS hknownS hvU hvSen
    hv0 xC xS xP tkC tkS tkP tkX Y.objLocals hskip (fun _ _ hA hW _ hroom _ hrest => L.nativeOff p htr hA hW hroom hrest) (by simpa using hRframes) hRlocals (by simp) hRcells (by rw [hn]; exact hRslots)
  have hlt : W.heap.size < ((W.pushCell (freshCell P1.m.cls N.kN)).setVm vm').heap.size := by
    show W.heap.size < (W.pushCell (freshCell P1.m.cls N.kN)).heap.size
    rw [State.heap_size_pushCell]; omega
  rw [hfsz] at X3
  obtain ⟨g₁, hfrM⟩ := X3.frames_eq
  have hU : ((((W.pushCell (freshCell P1.m.cls N.kN)).setVm vm').setCell W.heap.size (npeBareV T.toThrowableT N.toNpeT (freshCell P1.m.cls N.kN) W.heap.size u0 sen)).setTop g).pushFrame (.throwing W.heap.size) = (((W.pushCell (freshCell P1.m.cls N.kN)).setVm vm').setCell W.heap.size (npeBareV T.toThrowableT N.toNpeT (freshCell P1.m.cls N.kN) W.heap.size u0 sen)).setFrames (.throwing W.heap.size :: .java g :: below) := by
    rw [State.pushFrame, State.frames_setTop _ hfrM, State.setTop_of_frames _ hfrM, State.setFrames_setFrames]
  refine ⟨_, W.heap.size, _, fun target ht => st.trans (by rw [← hU]; exact ht), X3.forget (fun y hy => ?_), heapAt_setCell_self _ hlt, hfound, rfl⟩
  simp only [List.mem_cons, List.not_mem_nil, or_false] at hy
  have hge : s.heap.size ≤ W.heap.size := X.same.2.1
  rcases hy with rfl | rfl | rfl | rfl | rfl <;> exact hge
/-- the words of a machine's NullPointerException, but the four that speak of the heap -/
def vx_atN (n : Nat) : List Cond := (Bundle.npeArmAtoms n).filter vx_no
/-- the words of a machine's throw with a message, but the four that speak of the heap -/
def vx_atM (X : String) (names : List String) : List Cond := (Bundle.messageArmAtoms X names).filter vx_no
section
variable {p : Program} {l : Launch} {e : Env} {R : Room} {s : State} {m : MethodId} {args : Array Value} {below : List Frame} {meth : Method} {c : Code} {H : Heap} {locs : List Loc} {cells slots : Nat}
/-- a frame seen from a rebased start, seen from the first start again -/
theorem vx_back9 {T S : State} {R' : Room} {k n : Nat} (X : Stand p l e R s m args below meth c T locs cells slots) (Y : Stand p l e R' ((T.setVm s.vm).setFrames (.invoking m args :: below)) m args below meth c T [] 0 0) (Z : Stand p l e R' ((T.setVm s.vm).setFrames (.invoking m args :: below)) m args below meth c S [] k n) :
    Stand p l e R s m args below meth c S locs (cells + k) (slots + n) := by
  have hW0 : s.WarmedH ((T.setVm s.vm).setFrames (.invoking m args :: below)).vm := State.WarmedH.refl s
  refine { admits := X.admits, cas := X.cas, clock := X.clock, frames := X.frames, room := X.room, hears := X.hears, method := X.method, code := X.code, here := Z.here, tail := Z.tail, warmed := State.WarmedH.trans hW0 Z.warmed, limits := Z.limits.trans (Y.limits.symm.trans X.limits), bytes := Z.bytes.trans (Y.bytes.symm.trans X.bytes), same := ?_ }
  obtain ⟨e1, e2⟩ := Z.same
  rw [State.setFrames_setFrames] at e1
  have h2 : (T.setVm s.vm).sameButNew (S.setVm s.vm) [] k n := ⟨e1, e2⟩
  have h3 := X.same.trans h2
  rw [List.append_nil] at h3
  exact h3
/-- from the machine's note that E is thrown here with this text -/
def vx_Note (p : Program) (l : Launch) (e : Env) (R : Room) (s : State) (m : MethodId) (args : Array Value) (below : List Frame) (meth : Method) (c : Code) (H : Heap) (locs : List Loc) (cells slots : Nat) (Q : State → Prop) (g : JFrame) (E text : String) : Prop :=
  ∀ T : State, T.heap = H → Stand p l e R s m args below meth c T locs cells slots → ∃ t, Steps p.tables e below ((T.setTop g).pushFrame (.throwNew E (some text) none)) t ∧ Q t
theorem vx_vm {pc : Nat} {ls : Array Slot} {rest : List Value} {Q : State → Prop} (hexec : p.tables.exec = Jvm.exec) (hl : l.stackTraces = false) {cls text : String} {names : List String} {nb : Nat} {A : Nat → Prop}
    (hcls : Bundle.fit cls = true) (hnames : ∀ n ∈ names, Bundle.fit n = true) (hsoe : (cls == "java/lang/StackOverflowError") = false) (hoom : (cls == "java/lang/OutOfMemoryError") = false)
    (hat : ∀ w ∈ vx_atM cls names, w.before args s = true) (hgood : ∀ w ∈ vx_atM cls names, vx_ot w = true)
    (hU : vx_Zq Bundle.tN "UNASSIGNED_STACK" Bundle.steD A s s.heap) (hN : vx_Zq Bundle.tN "SUPPRESSED_SENTINEL" Bundle.listD A s s.heap) (hS : va_S A s.heap H locs) (hsize : ls.size = c.maxLocals)
    (htext : (text == notModelled) = false) (hnb : (stringBytes (stringToUtf16 text)).size ≤ nb) (hnb1 : nb ≤ 1000)
    (hRframes : names.length + 4 < R.frames) (hRlocals : (rest.map fun v => v.category).sum + 10240 ≤ R.locals) (hshort : 13 * names.length + 55 ≤ 10240) (hRcells : cells + 3 ≤ R.cells) (hRslots : slots + (nb + 10) ≤ R.slots) (hlocks : meth.locks = false)
    (k : ∀ (H1 : Heap) (q9 : Addr) (ce : Cell), H.size ≤ H1.size → (∀ q : Nat, q < H.size → H1[q]? = H[q]?) → va_S A s.heap H1 locs → H1[q9]? = some ce → ce.vm = .none → s.vm.findClass cls = some ce.cls → vx_W p l e R s m args below meth c H1 locs (cells + 3) (slots + (nb + 10)) Q (F0 m pc ls rest) q9) :
    vx_Note p l e R s m args below meth c H locs cells slots Q (F0 m pc ls rest) cls text := by
  intro T hT X
  have htr : e.platform.stackTraces = false := (show e.platform.stackTraces = l.stackTraces by rw [X.admits.platform]).trans hl
  have Y := vx_rebase X (R' := { frames := R.frames, locals := R.locals, cells := 3, slots := nb + 10 }) (Nat.le_refl _) (Nat.le_refl _) hRcells hRslots
  have hhp : ((T.setVm s.vm).setFrames (.invoking m args :: below)).heap = H := hT
  have hW0 : s.WarmedH ((T.setVm s.vm).setFrames (.invoking m args :: below)).vm := State.WarmedH.refl s
  have hat' : ∀ w ∈ vx_atM cls names, w.before args ((T.setVm s.vm).setFrames (.invoking m args :: below)) = true := fun w hw => vx_ot_at hW0 rfl (hgood w hw) (hat w hw)
  have hU' : vx_Zq Bundle.tN "UNASSIGNED_STACK" Bundle.steD A ((T.setVm s.vm).setFrames (.invoking m args :: below)) ((T.setVm s.vm).setFrames (.invoking m args :: below)).heap := by rw [hhp]; exact vx_Zq.moved hW0.alike (hU.kept hS.2.1)
  have hN' : vx_Zq Bundle.tN "SUPPRESSED_SENTINEL" Bundle.listD A ((T.setVm s.vm).setFrames (.invoking m args :: below)) ((T.setVm s.vm).setFrames (.invoking m args :: below)).heap := by rw [hhp]; exact vx_Zq.moved hW0.alike (hN.kept hS.2.1)
  obtain ⟨S, q, ce, st, Z, hce, hcl', hv⟩ := vx_vmAt Y hexec htr (cls := cls) (names := names) (text := text) hcls hnames hsoe hoom (vx_own hat' (vx_isRefq hU'.1) (vx_isRefq hN'.1) hU'.2.word hN'.2.word) (fun x hx => nomatch hx) htext
    (by rw [Launch.admits_arrayLengthLimit X.admits]; omega) (by rw [Launch.admits_maxHeapBytes X.admits]; simp only [componentBytes]; omega)
    (g := F0 m pc ls rest) rfl hsize hRframes (by show 2 * 0 + (rest.map fun v => v.category).sum + 10240 ≤ R.locals; omega) hshort (by show 0 + 3 ≤ 3; omega) (by show 0 + (_ + 4 + 6) ≤ nb + 10; omega) hlocks
  obtain ⟨f1, f2⟩ := vx_frame Z.same
  have f1' : H.size ≤ S.heap.size := by rw [← hT]; exact f1
  have f2' : ∀ q : Nat, q < H.size → S.heap[q]? = H[q]? := fun q hq => by
    rw [← hT]
    exact f2 q (by rw [← hT] at hq; exact hq) (fun z hz => nomatch hz)
  have X5 := vx_back9 X Y Z
  have X6 : Stand p l e R s m args below meth c S locs (cells + 3) (slots + (nb + 10)) := { X5 with same := X5.same.mono (by omega) (by omega) }
  obtain ⟨t, a1, b1⟩ := k S.heap q ce f1' f2' ⟨Nat.le_trans hS.1 f1', fun q h1 h2 => (f2' q (Nat.lt_of_lt_of_le h1 hS.1)).trans (hS.2.1 q h1 h2), hS.2.2⟩ hce hv hcl' S rfl X6
  exact ⟨t, st t a1, b1⟩
/-- from the machine's note that NullPointerException is thrown here -/
def vx_NoteN (p : Program) (l : Launch) (e : Env) (R : Room) (s : State) (m : MethodId) (args : Array Value) (below : List Frame) (meth : Method) (c : Code) (H : Heap) (locs : List Loc) (cells slots : Nat) (Q : State → Prop) (g : JFrame) : Prop :=
  ∀ T : State, T.heap = H → Stand p l e R s m args below meth c T locs cells slots → ∃ t, Steps p.tables e below ((T.setTop g).pushFrame (.throwNew "java/lang/NullPointerException" none none)) t ∧ Q t
theorem vx_npe {pc : Nat} {ls : Array Slot} {rest : List Value} {Q : State → Prop} (hexec : p.tables.exec = Jvm.exec) (hl : l.stackTraces = false) {nb : Nat} {A : Nat → Prop}
    (hat : ∀ w ∈ vx_atN nb, w.before args s = true) (hgood : ∀ w ∈ vx_atN nb, vx_ot w = true)
    (hU : vx_Zq Bundle.tN "UNASSIGNED_STACK" Bundle.steD A s s.heap) (hN : vx_Zq Bundle.tN "SUPPRESSED_SENTINEL" Bundle.listD A s s.heap) (hS : va_S A s.heap H locs) (hsize : ls.size = c.maxLocals)
    (hRframes : 7 < R.frames) (hRlocals : (rest.map fun v => v.category).sum + 10240 ≤ R.locals) (hRcells : cells + 1 ≤ R.cells) (hRslots : slots + nb ≤ R.slots) (hlocks : meth.locks = false)
    (k : ∀ (H1 : Heap) (q9 : Addr) (ce : Cell), H.size ≤ H1.size → (∀ q : Nat, q < H.size → H1[q]? = H[q]?) → va_S A s.heap H1 locs → H1[q9]? = some ce → ce.vm = .none → s.vm.findClass "java/lang/NullPointerException" = some ce.cls → vx_W p l e R s m args below meth c H1 locs (cells + 1) (slots + nb) Q (F0 m pc ls rest) q9) :
    vx_NoteN p l e R s m args below meth c H locs cells slots Q (F0 m pc ls rest) := by
  intro T hT X
  have htr : e.platform.stackTraces = false := (show e.platform.stackTraces = l.stackTraces by rw [X.admits.platform]).trans hl
  have Y := vx_rebase X (R' := { frames := R.frames, locals := R.locals, cells := 1, slots := nb }) (Nat.le_refl _) (Nat.le_refl _) hRcells hRslots
  have hhp : ((T.setVm s.vm).setFrames (.invoking m args :: below)).heap = H := hT
  have hW0 : s.WarmedH ((T.setVm s.vm).setFrames (.invoking m args :: below)).vm := State.WarmedH.refl s
  have hat' : ∀ w ∈ vx_atN nb, w.before args ((T.setVm s.vm).setFrames (.invoking m args :: below)) = true := fun w hw => vx_ot_at hW0 rfl (hgood w hw) (hat w hw)
  have hU' : vx_Zq Bundle.tN "UNASSIGNED_STACK" Bundle.steD A ((T.setVm s.vm).setFrames (.invoking m args :: below)) ((T.setVm s.vm).setFrames (.invoking m args :: below)).heap := by rw [hhp]; exact vx_Zq.moved hW0.alike (hU.kept hS.2.1)
  have hN' : vx_Zq Bundle.tN "SUPPRESSED_SENTINEL" Bundle.listD A ((T.setVm s.vm).setFrames (.invoking m args :: below)) ((T.setVm s.vm).setFrames (.invoking m args :: below)).heap := by rw [hhp]; exact vx_Zq.moved hW0.alike (hN.kept hS.2.1)
  obtain ⟨S, q, ce, st, Z, hce, hcl', hv⟩ := vx_npeAt Y hexec htr (n := nb) (vx_own hat' (vx_isRefq hU'.1) (vx_isRefq hN'.1) hU'.2.word hN'.2.word) (fun x hx => nomatch hx)
    (g := F0 m pc ls rest) rfl hsize hRframes (by show 2 * 0 + (rest.map fun v => v.category).sum + 10240 ≤ R.locals; omega) (by show 0 + 1 ≤ 1; omega) (by show 0 + nb ≤ nb; omega) hlocks
  obtain ⟨f1, f2⟩ := vx_frame Z.same
  have f1' : H.size ≤ S.heap.size := by rw [← hT]; exact f1
  have f2' : ∀ q : Nat, q < H.size → S.heap[q]? = H[q]? := fun q hq => by
    rw [← hT]
    exact f2 q (by rw [← hT] at hq; exact hq) (fun z hz => nomatch hz)
  have X5 := vx_back9 X Y Z
  have X6 : Stand p l e R s m args below meth c S locs (cells + 1) (slots + nb) := { X5 with same := X5.same.mono (by omega) (by omega) }
  obtain ⟨t, a1, b1⟩ := k S.heap q ce f1' f2' ⟨Nat.le_trans hS.1 f1', fun q h1 h2 => (f2' q (Nat.lt_of_lt_of_le h1 hS.1)).trans (hS.2.1 q h1 h2), hS.2.2⟩ hce hv hcl' S rfl X6
  exact ⟨t, st t a1, b1⟩
variable {Q : State → Prop} {cc : ByteArray} {pc : Nat} {ls : Array Slot} {rest : List Value}
theorem vx_idivZ (hexec : p.tables.exec = Jvm.exec) (hb : c.code = cc) {a b : Int32} (h0 : b = 0) (d : decode cc pc = .ok (.idiv, 1)) (k : vx_Note p l e R s m args below meth c H locs cells slots Q (F0 m pc ls rest) "java/lang/ArithmeticException" "/ by zero") :
    W p l e R s m args below meth c H locs cells slots Q (F0 m pc ls (.int b :: .int a :: rest)) := by
  intro T hT X
  obtain ⟨t, st, q⟩ := k T hT X
  exact ⟨t, X.idivZero hexec (g := F0 m pc ls (.int b :: .int a :: rest)) rfl (a := a) (rest := rest) (by rw [h0]) (by rw [hb]; exact d) t st, q⟩
theorem vx_iremZ (hexec : p.tables.exec = Jvm.exec) (hb : c.code = cc) {a b : Int32} (h0 : b = 0) (d : decode cc pc = .ok (.irem, 1)) (k : vx_Note p l e R s m args below meth c H locs cells slots Q (F0 m pc ls rest) "java/lang/ArithmeticException" "/ by zero") :
    W p l e R s m args below meth c H locs cells slots Q (F0 m pc ls (.int b :: .int a :: rest)) := by
  intro T hT X
  obtain ⟨t, st, q⟩ := k T hT X
  exact ⟨t, X.iremZero hexec (g := F0 m pc ls (.int b :: .int a :: rest)) rfl (a := a) (rest := rest) (by rw [h0]) (by rw [hb]; exact d) t st, q⟩
theorem vx_ldivZ (hexec : p.tables.exec = Jvm.exec) (hb : c.code = cc) {a b : Int64} (h0 : b = 0) (d : decode cc pc = .ok (.ldiv, 1)) (k : vx_Note p l e R s m args below meth c H locs cells slots Q (F0 m pc ls rest) "java/lang/ArithmeticException" "/ by zero") :
    W p l e R s m args below meth c H locs cells slots Q (F0 m pc ls (.long b :: .long a :: rest)) := by
  intro T hT X
  obtain ⟨t, st, q⟩ := k T hT X
  exact ⟨t, X.ldivZero hexec (g := F0 m pc ls (.long b :: .long a :: rest)) rfl (a := a) (rest := rest) (by rw [h0]) (by rw [hb]; exact d) t st, q⟩
theorem vx_lremZ (hexec : p.tables.exec = Jvm.exec) (hb : c.code = cc) {a b : Int64} (h0 : b = 0) (d : decode cc pc = .ok (.lrem, 1)) (k : vx_Note p l e R s m args below meth c H locs cells slots Q (F0 m pc ls rest) "java/lang/ArithmeticException" "/ by zero") :
    W p l e R s m args below meth c H locs cells slots Q (F0 m pc ls (.long b :: .long a :: rest)) := by
  intro T hT X
  obtain ⟨t, st, q⟩ := k T hT X
  exact ⟨t, X.lremZero hexec (g := F0 m pc ls (.long b :: .long a :: rest)) rfl (a := a) (rest := rest) (by rw [h0]) (by rw [hb]; exact d) t st, q⟩
theorem vx_ialdZ {D : va_G} {cl : List vw_C} {ws : va_W} {tys : List (ClassId × FieldType)} {a : Nat} (hexec : p.tables.exec = Jvm.exec) (hb : c.code = cc) (hK : va_K D cl tys s) (hP : va_P D cl ws H) (q0 t0 : Nat) {cA : ClassId} {n : Nat} {f : Nat → Int32} (ha : ws[q0]? = some (a, .inl (cA, n, .inl f))) (ht : tys[t0]? = some (cA, .int)) {i : Int32} (hout : ¬ vp_in i n) (hdg : decode cc pc = .ok (.iaload, 1))
    (k : ∀ tx : String, tx = (toString "Index " ++ toString i ++ toString " out of bounds for length " ++ toString n : String) → vx_Note p l e R s m args below meth c H locs cells slots Q (F0 m pc ls rest) "java/lang/ArrayIndexOutOfBoundsException" tx) : W p l e R s m args below meth c H locs cells slots Q (F0 m pc ls (.int i :: .ref a :: rest)) := by
  intro T hT X
  obtain ⟨t, st, q⟩ := k _ rfl T hT X
  refine ⟨t, ?_, q⟩
  have h1 := X.ialoadOut hexec (by rw [hT]; exact hP q0 _ ha) ((hK.2 t0 _ ht).1 n (fun j => .int (f j))) (j := i) (by show (i < 0 ∨ (arrV _ _ _).slots.size ≤ _); rw [arrV_size]; exact Classical.byContradiction hout) (g := F0 m pc ls (.int i :: .ref a :: rest)) rfl (rest := rest) rfl (by rw [hb]; exact hdg) t
  simp only [arrV_size] at h1
  exact h1 st
theorem vx_iastZ {D : va_G} {cl : List vw_C} {ws : va_W} {tys : List (ClassId × FieldType)} {a : Nat} (hexec : p.tables.exec = Jvm.exec) (hb : c.code = cc) (hK : va_K D cl tys s) (hP : va_P D cl ws H) (q0 t0 : Nat) {cA : ClassId} {n : Nat} {f : Nat → Int32} (ha : ws[q0]? = some (a, .inl (cA, n, .inl f))) (ht : tys[t0]? = some (cA, .int)) {i : Int32} {x : Int32} (hout : ¬ vp_in i n) (hdg : decode cc pc = .ok (.iastore, 1))
    (k : ∀ tx : String, tx = (toString "Index " ++ toString i ++ toString " out of bounds for length " ++ toString n : String) → vx_Note p l e R s m args below meth c H locs cells slots Q (F0 m pc ls rest) "java/lang/ArrayIndexOutOfBoundsException" tx) : W p l e R s m args below meth c H locs cells slots Q (F0 m pc ls (.int x :: .int i :: .ref a :: rest)) := by
  intro T hT X
  obtain ⟨t, st, q⟩ := k _ rfl T hT X
  refine ⟨t, ?_, q⟩
  have h1 := X.iastoreOut hexec (by rw [hT]; exact hP q0 _ ha) ((hK.2 t0 _ ht).1 n (fun j => .int (f j))) (j := i) (by show (i < 0 ∨ (arrV _ _ _).slots.size ≤ _); rw [arrV_size]; exact Classical.byContradiction hout) (g := F0 m pc ls (.int x :: .int i :: .ref a :: rest)) rfl (rest := rest) rfl (by rw [hb]; exact hdg) t
  simp only [arrV_size] at h1
  exact h1 st
theorem vx_baldZ {D : va_G} {cl : List vw_C} {ws : va_W} {tys : List (ClassId × FieldType)} {a : Nat} (hexec : p.tables.exec = Jvm.exec) (hb : c.code = cc) (hK : va_K D cl tys s) (hP : va_P D cl ws H) (q0 t0 : Nat) {cA : ClassId} {n : Nat} {f : Nat → Int32} (ha : ws[q0]? = some (a, .inl (cA, n, .inl f))) (ht : tys[t0]? = some (cA, .byte)) {i : Int32} (hout : ¬ vp_in i n) (hdg : decode cc pc = .ok (.baload, 1))
    (k : ∀ tx : String, tx = (toString "Index " ++ toString i ++ toString " out of bounds for length " ++ toString n : String) → vx_Note p l e R s m args below meth c H locs cells slots Q (F0 m pc ls rest) "java/lang/ArrayIndexOutOfBoundsException" tx) : W p l e R s m args below meth c H locs cells slots Q (F0 m pc ls (.int i :: .ref a :: rest)) := by
  intro T hT X
  obtain ⟨t, st, q⟩ := k _ rfl T hT X
  refine ⟨t, ?_, q⟩
  have h1 := X.baloadOut hexec (by rw [hT]; exact hP q0 _ ha) ((hK.2 t0 _ ht).1 n (fun j => .int (f j))) (j := i) (by show (i < 0 ∨ (arrV _ _ _).slots.size ≤ _); rw [arrV_size]; exact Classical.byContradiction hout) (g := F0 m pc ls (.int i :: .ref a :: rest)) rfl (rest := rest) rfl (by rw [hb]; exact hdg) t
  simp only [arrV_size] at h1
  exact h1 st
theorem vx_bastZ {D : va_G} {cl : List vw_C} {ws : va_W} {tys : List (ClassId × FieldType)} {a : Nat} (hexec : p.tables.exec = Jvm.exec) (hb : c.code = cc) (hK : va_K D cl tys s) (hP : va_P D cl ws H) (q0 t0 : Nat) {cA : ClassId} {n : Nat} {f : Nat → Int32} (ha : ws[q0]? = some (a, .inl (cA, n, .inl f))) (ht : tys[t0]? = some (cA, .byte)) {i : Int32} {x : Int32} (hout : ¬ vp_in i n) (hdg : decode cc pc = .ok (.bastore, 1))
    (k : ∀ tx : String, tx = (toString "Index " ++ toString i ++ toString " out of bounds for length " ++ toString n : String) → vx_Note p l e R s m args below meth c H locs cells slots Q (F0 m pc ls rest) "java/lang/ArrayIndexOutOfBoundsException" tx) : W p l e R s m args below meth c H locs cells slots Q (F0 m pc ls (.int x :: .int i :: .ref a :: rest)) := by
  intro T hT X
  obtain ⟨t, st, q⟩ := k _ rfl T hT X
  refine ⟨t, ?_, q⟩
  have h1 := X.bastoreOut hexec (by rw [hT]; exact hP q0 _ ha) ((hK.2 t0 _ ht).1 n (fun j => .int (f j))) (j := i) (by show (i < 0 ∨ (arrV _ _ _).slots.size ≤ _); rw [arrV_size]; exact Classical.byContradiction hout) (g := F0 m pc ls (.int x :: .int i :: .ref a :: rest)) rfl (rest := rest) rfl (by rw [hb]; exact hdg) t
  simp only [arrV_size] at h1
  exact h1 st
theorem vx_zaldZ {D : va_G} {cl : List vw_C} {ws : va_W} {tys : List (ClassId × FieldType)} {a : Nat} (hexec : p.tables.exec = Jvm.exec) (hb : c.code = cc) (hK : va_K D cl tys s) (hP : va_P D cl ws H) (q0 t0 : Nat) {cA : ClassId} {n : Nat} {f : Nat → Int32} (ha : ws[q0]? = some (a, .inl (cA, n, .inl f))) (ht : tys[t0]? = some (cA, .boolean)) {i : Int32} (hout : ¬ vp_in i n) (hdg : decode cc pc = .ok (.baload, 1))
    (k : ∀ tx : String, tx = (toString "Index " ++ toString i ++ toString " out of bounds for length " ++ toString n : String) → vx_Note p l e R s m args below meth c H locs cells slots Q (F0 m pc ls rest) "java/lang/ArrayIndexOutOfBoundsException" tx) : W p l e R s m args below meth c H locs cells slots Q (F0 m pc ls (.int i :: .ref a :: rest)) := by
  intro T hT X
  obtain ⟨t, st, q⟩ := k _ rfl T hT X
  refine ⟨t, ?_, q⟩
  have h1 := X.baloadOut hexec (by rw [hT]; exact hP q0 _ ha) ((hK.2 t0 _ ht).1 n (fun j => .int (f j))) (j := i) (by show (i < 0 ∨ (arrV _ _ _).slots.size ≤ _); rw [arrV_size]; exact Classical.byContradiction hout) (g := F0 m pc ls (.int i :: .ref a :: rest)) rfl (rest := rest) rfl (by rw [hb]; exact hdg) t
  simp only [arrV_size] at h1
  exact h1 st
theorem vx_zastZ {D : va_G} {cl : List vw_C} {ws : va_W} {tys : List (ClassId × FieldType)} {a : Nat} (hexec : p.tables.exec = Jvm.exec) (hb : c.code = cc) (hK : va_K D cl tys s) (hP : va_P D cl ws H) (q0 t0 : Nat) {cA : ClassId} {n : Nat} {f : Nat → Int32} (ha : ws[q0]? = some (a, .inl (cA, n, .inl f))) (ht : tys[t0]? = some (cA, .boolean)) {i : Int32} {x : Int32} (hout : ¬ vp_in i n) (hdg : decode cc pc = .ok (.bastore, 1))
    (k : ∀ tx : String, tx = (toString "Index " ++ toString i ++ toString " out of bounds for length " ++ toString n : String) → vx_Note p l e R s m args below meth c H locs cells slots Q (F0 m pc ls rest) "java/lang/ArrayIndexOutOfBoundsException" tx) : W p l e R s m args below meth c H locs cells slots Q (F0 m pc ls (.int x :: .int i :: .ref a :: rest)) := by
  intro T hT X
  obtain ⟨t, st, q⟩ := k _ rfl T hT X
  refine ⟨t, ?_, q⟩
  have h1 := X.bastoreOut hexec (by rw [hT]; exact hP q0 _ ha) ((hK.2 t0 _ ht).1 n (fun j => .int (f j))) (j := i) (by show (i < 0 ∨ (arrV _ _ _).slots.size ≤ _); rw [arrV_size]; exact Classical.byContradiction hout) (g := F0 m pc ls (.int x :: .int i :: .ref a :: rest)) rfl (rest := rest) rfl (by rw [hb]; exact hdg) t
  simp only [arrV_size] at h1
  exact h1 st
theorem vx_caldZ {D : va_G} {cl : List vw_C} {ws : va_W} {tys : List (ClassId × FieldType)} {a : Nat} (hexec : p.tables.exec = Jvm.exec) (hb : c.code = cc) (hK : va_K D cl tys s) (hP : va_P D cl ws H) (q0 t0 : Nat) {cA : ClassId} {n : Nat} {f : Nat → Int32} (ha : ws[q0]? = some (a, .inl (cA, n, .inl f))) (ht : tys[t0]? = some (cA, .char)) {i : Int32} (hout : ¬ vp_in i n) (hdg : decode cc pc = .ok (.caload, 1))
    (k : ∀ tx : String, tx = (toString "Index " ++ toString i ++ toString " out of bounds for length " ++ toString n : String) → vx_Note p l e R s m args below meth c H locs cells slots Q (F0 m pc ls rest) "java/lang/ArrayIndexOutOfBoundsException" tx) : W p l e R s m args below meth c H locs cells slots Q (F0 m pc ls (.int i :: .ref a :: rest)) := by
  intro T hT X
  obtain ⟨t, st, q⟩ := k _ rfl T hT X
  refine ⟨t, ?_, q⟩
  have h1 := X.caloadOut hexec (by rw [hT]; exact hP q0 _ ha) ((hK.2 t0 _ ht).1 n (fun j => .int (f j))) (j := i) (by show (i < 0 ∨ (arrV _ _ _).slots.size ≤ _); rw [arrV_size]; exact Classical.byContradiction hout) (g := F0 m pc ls (.int i :: .ref a :: rest)) rfl (rest := rest) rfl (by rw [hb]; exact hdg) t
  simp only [arrV_size] at h1
  exact h1 st
theorem vx_castZ {D : va_G} {cl : List vw_C} {ws : va_W} {tys : List (ClassId × FieldType)} {a : Nat} (hexec : p.tables.exec = Jvm.exec) (hb : c.code = cc) (hK : va_K D cl tys s) (hP : va_P D cl ws H) (q0 t0 : Nat) {cA : ClassId} {n : Nat} {f : Nat → Int32} (ha : ws[q0]? = some (a, .inl (cA, n, .inl f))) (ht : tys[t0]? = some (cA, .char)) {i : Int32} {x : Int32} (hout : ¬ vp_in i n) (hdg : decode cc pc = .ok (.castore, 1))
    (k : ∀ tx : String, tx = (toString "Index " ++ toString i ++ toString " out of bounds for length " ++ toString n : String) → vx_Note p l e R s m args below meth c H locs cells slots Q (F0 m pc ls rest) "java/lang/ArrayIndexOutOfBoundsException" tx) : W p l e R s m args below meth c H locs cells slots Q (F0 m pc ls (.int x :: .int i :: .ref a :: rest)) := by
  intro T hT X
  obtain ⟨t, st, q⟩ := k _ rfl T hT X
  refine ⟨t, ?_, q⟩
  have h1 := X.castoreOut hexec (by rw [hT]; exact hP q0 _ ha) ((hK.2 t0 _ ht).1 n (fun j => .int (f j))) (j := i) (by show (i < 0 ∨ (arrV _ _ _).slots.size ≤ _); rw [arrV_size]; exact Classical.byContradiction hout) (g := F0 m pc ls (.int x :: .int i :: .ref a :: rest)) rfl (rest := rest) rfl (by rw [hb]; exact hdg) t
  simp only [arrV_size] at h1
  exact h1 st
theorem vx_saldZ {D : va_G} {cl : List vw_C} {ws : va_W} {tys : List (ClassId × FieldType)} {a : Nat} (hexec : p.tables.exec = Jvm.exec) (hb : c.code = cc) (hK : va_K D cl tys s) (hP : va_P D cl ws H) (q0 t0 : Nat) {cA : ClassId} {n : Nat} {f : Nat → Int32} (ha : ws[q0]? = some (a, .inl (cA, n, .inl f))) (ht : tys[t0]? = some (cA, .short)) {i : Int32} (hout : ¬ vp_in i n) (hdg : decode cc pc = .ok (.saload, 1))
    (k : ∀ tx : String, tx = (toString "Index " ++ toString i ++ toString " out of bounds for length " ++ toString n : String) → vx_Note p l e R s m args below meth c H locs cells slots Q (F0 m pc ls rest) "java/lang/ArrayIndexOutOfBoundsException" tx) : W p l e R s m args below meth c H locs cells slots Q (F0 m pc ls (.int i :: .ref a :: rest)) := by
  intro T hT X
  obtain ⟨t, st, q⟩ := k _ rfl T hT X
  refine ⟨t, ?_, q⟩
  have h1 := X.saloadOut hexec (by rw [hT]; exact hP q0 _ ha) ((hK.2 t0 _ ht).1 n (fun j => .int (f j))) (j := i) (by show (i < 0 ∨ (arrV _ _ _).slots.size ≤ _); rw [arrV_size]; exact Classical.byContradiction hout) (g := F0 m pc ls (.int i :: .ref a :: rest)) rfl (rest := rest) rfl (by rw [hb]; exact hdg) t
  simp only [arrV_size] at h1
  exact h1 st
theorem vx_sastZ {D : va_G} {cl : List vw_C} {ws : va_W} {tys : List (ClassId × FieldType)} {a : Nat} (hexec : p.tables.exec = Jvm.exec) (hb : c.code = cc) (hK : va_K D cl tys s) (hP : va_P D cl ws H) (q0 t0 : Nat) {cA : ClassId} {n : Nat} {f : Nat → Int32} (ha : ws[q0]? = some (a, .inl (cA, n, .inl f))) (ht : tys[t0]? = some (cA, .short)) {i : Int32} {x : Int32} (hout : ¬ vp_in i n) (hdg : decode cc pc = .ok (.sastore, 1))
    (k : ∀ tx : String, tx = (toString "Index " ++ toString i ++ toString " out of bounds for length " ++ toString n : String) → vx_Note p l e R s m args below meth c H locs cells slots Q (F0 m pc ls rest) "java/lang/ArrayIndexOutOfBoundsException" tx) : W p l e R s m args below meth c H locs cells slots Q (F0 m pc ls (.int x :: .int i :: .ref a :: rest)) := by
  intro T hT X
  obtain ⟨t, st, q⟩ := k _ rfl T hT X
  refine ⟨t, ?_, q⟩
  have h1 := X.sastoreOut hexec (by rw [hT]; exact hP q0 _ ha) ((hK.2 t0 _ ht).1 n (fun j => .int (f j))) (j := i) (by show (i < 0 ∨ (arrV _ _ _).slots.size ≤ _); rw [arrV_size]; exact Classical.byContradiction hout) (g := F0 m pc ls (.int x :: .int i :: .ref a :: rest)) rfl (rest := rest) rfl (by rw [hb]; exact hdg) t
  simp only [arrV_size] at h1
  exact h1 st
theorem vx_laldZ {D : va_G} {cl : List vw_C} {ws : va_W} {tys : List (ClassId × FieldType)} {a : Nat} (hexec : p.tables.exec = Jvm.exec) (hb : c.code = cc) (hK : va_K D cl tys s) (hP : va_P D cl ws H) (q0 t0 : Nat) {cA : ClassId} {n : Nat} {f : Nat → Int64} (ha : ws[q0]? = some (a, .inl (cA, n, .inr (.inl f)))) (ht : tys[t0]? = some (cA, .long)) {i : Int32} (hout : ¬ vp_in i n) (hdg : decode cc pc = .ok (.laload, 1))
    (k : ∀ tx : String, tx = (toString "Index " ++ toString i ++ toString " out of bounds for length " ++ toString n : String) → vx_Note p l e R s m args below meth c H locs cells slots Q (F0 m pc ls rest) "java/lang/ArrayIndexOutOfBoundsException" tx) : W p l e R s m args below meth c H locs cells slots Q (F0 m pc ls (.int i :: .ref a :: rest)) := by
  intro T hT X
  obtain ⟨t, st, q⟩ := k _ rfl T hT X
  refine ⟨t, ?_, q⟩
  have h1 := X.laloadOut hexec (by rw [hT]; exact hP q0 _ ha) ((hK.2 t0 _ ht).1 n (fun j => .long (f j))) (j := i) (by show (i < 0 ∨ (arrV _ _ _).slots.size ≤ _); rw [arrV_size]; exact Classical.byContradiction hout) (g := F0 m pc ls (.int i :: .ref a :: rest)) rfl (rest := rest) rfl (by rw [hb]; exact hdg) t
  simp only [arrV_size] at h1
  exact h1 st
theorem vx_lastZ {D : va_G} {cl : List vw_C} {ws : va_W} {tys : List (ClassId × FieldType)} {a : Nat} (hexec : p.tables.exec = Jvm.exec) (hb : c.code = cc) (hK : va_K D cl tys s) (hP : va_P D cl ws H) (q0 t0 : Nat) {cA : ClassId} {n : Nat} {f : Nat → Int64} (ha : ws[q0]? = some (a, .inl (cA, n, .inr (.inl f)))) (ht : tys[t0]? = some (cA, .long)) {i : Int32} {x : Int64} (hout : ¬ vp_in i n) (hdg : decode cc pc = .ok (.lastore, 1))
    (k : ∀ tx : String, tx = (toString "Index " ++ toString i ++ toString " out of bounds for length " ++ toString n : String) → vx_Note p l e R s m args below meth c H locs cells slots Q (F0 m pc ls rest) "java/lang/ArrayIndexOutOfBoundsException" tx) : W p l e R s m args below meth c H locs cells slots Q (F0 m pc ls (.long x :: .int i :: .ref a :: rest)) := by
  intro T hT X
  obtain ⟨t, st, q⟩ := k _ rfl T hT X
  refine ⟨t, ?_, q⟩
  have h1 := X.lastoreOut hexec (by rw [hT]; exact hP q0 _ ha) ((hK.2 t0 _ ht).1 n (fun j => .long (f j))) (j := i) (by show (i < 0 ∨ (arrV _ _ _).slots.size ≤ _); rw [arrV_size]; exact Classical.byContradiction hout) (g := F0 m pc ls (.long x :: .int i :: .ref a :: rest)) rfl (rest := rest) rfl (by rw [hb]; exact hdg) t
  simp only [arrV_size] at h1
  exact h1 st
theorem vx_faldZ {D : va_G} {cl : List vw_C} {ws : va_W} {tys : List (ClassId × FieldType)} {a : Nat} (hexec : p.tables.exec = Jvm.exec) (hb : c.code = cc) (hK : va_K D cl tys s) (hP : va_P D cl ws H) (q0 t0 : Nat) {cA : ClassId} {n : Nat} {f : Nat → UInt32} (ha : ws[q0]? = some (a, .inl (cA, n, .inr (.inr (.inl f))))) (ht : tys[t0]? = some (cA, .float)) {i : Int32} (hout : ¬ vp_in i n) (hdg : decode cc pc = .ok (.faload, 1))
    (k : ∀ tx : String, tx = (toString "Index " ++ toString i ++ toString " out of bounds for length " ++ toString n : String) → vx_Note p l e R s m args below meth c H locs cells slots Q (F0 m pc ls rest) "java/lang/ArrayIndexOutOfBoundsException" tx) : W p l e R s m args below meth c H locs cells slots Q (F0 m pc ls (.int i :: .ref a :: rest)) := by
  intro T hT X
  obtain ⟨t, st, q⟩ := k _ rfl T hT X
  refine ⟨t, ?_, q⟩
  have h1 := X.faloadOut hexec (by rw [hT]; exact hP q0 _ ha) ((hK.2 t0 _ ht).1 n (fun j => .float (f j))) (j := i) (by show (i < 0 ∨ (arrV _ _ _).slots.size ≤ _); rw [arrV_size]; exact Classical.byContradiction hout) (g := F0 m pc ls (.int i :: .ref a :: rest)) rfl (rest := rest) rfl (by rw [hb]; exact hdg) t
  simp only [arrV_size] at h1
  exact h1 st
theorem vx_fastZ {D : va_G} {cl : List vw_C} {ws : va_W} {tys : List (ClassId × FieldType)} {a : Nat} (hexec : p.tables.exec = Jvm.exec) (hb : c.code = cc) (hK : va_K D cl tys s) (hP : va_P D cl ws H) (q0 t0 : Nat) {cA : ClassId} {n : Nat} {f : Nat → UInt32} (ha : ws[q0]? = some (a, .inl (cA, n, .inr (.inr (.inl f))))) (ht : tys[t0]? = some (cA, .float)) {i : Int32} {x : UInt32} (hout : ¬ vp_in i n) (hdg : decode cc pc = .ok (.fastore, 1))
    (k : ∀ tx : String, tx = (toString "Index " ++ toString i ++ toString " out of bounds for length " ++ toString n : String) → vx_Note p l e R s m args below meth c H locs cells slots Q (F0 m pc ls rest) "java/lang/ArrayIndexOutOfBoundsException" tx) : W p l e R s m args below meth c H locs cells slots Q (F0 m pc ls (.float x :: .int i :: .ref a :: rest)) := by
  intro T hT X
  obtain ⟨t, st, q⟩ := k _ rfl T hT X
  refine ⟨t, ?_, q⟩
  have h1 := X.fastoreOut hexec (by rw [hT]; exact hP q0 _ ha) ((hK.2 t0 _ ht).1 n (fun j => .float (f j))) (j := i) (by show (i < 0 ∨ (arrV _ _ _).slots.size ≤ _); rw [arrV_size]; exact Classical.byContradiction hout) (g := F0 m pc ls (.float x :: .int i :: .ref a :: rest)) rfl (rest := rest) rfl (by rw [hb]; exact hdg) t
  simp only [arrV_size] at h1
  exact h1 st
theorem vx_daldZ {D : va_G} {cl : List vw_C} {ws : va_W} {tys : List (ClassId × FieldType)} {a : Nat} (hexec : p.tables.exec = Jvm.exec) (hb : c.code = cc) (hK : va_K D cl tys s) (hP : va_P D cl ws H) (q0 t0 : Nat) {cA : ClassId} {n : Nat} {f : Nat → UInt64} (ha : ws[q0]? = some (a, .inl (cA, n, .inr (.inr (.inr (.inl f)))))) (ht : tys[t0]? = some (cA, .double)) {i : Int32} (hout : ¬ vp_in i n) (hdg : decode cc pc = .ok (.daload, 1))
    (k : ∀ tx : String, tx = (toString "Index " ++ toString i ++ toString " out of bounds for length " ++ toString n : String) → vx_Note p l e R s m args below meth c H locs cells slots Q (F0 m pc ls rest) "java/lang/ArrayIndexOutOfBoundsException" tx) : W p l e R s m args below meth c H locs cells slots Q (F0 m pc ls (.int i :: .ref a :: rest)) := by
  intro T hT X
  obtain ⟨t, st, q⟩ := k _ rfl T hT X
  refine ⟨t, ?_, q⟩
  have h1 := X.daloadOut hexec (by rw [hT]; exact hP q0 _ ha) ((hK.2 t0 _ ht).1 n (fun j => .double (f j))) (j := i) (by show (i < 0 ∨ (arrV _ _ _).slots.size ≤ _); rw [arrV_size]; exact Classical.byContradiction hout) (g := F0 m pc ls (.int i :: .ref a :: rest)) rfl (rest := rest) rfl (by rw [hb]; exact hdg) t
  simp only [arrV_size] at h1
  exact h1 st
theorem vx_dastZ {D : va_G} {cl : List vw_C} {ws : va_W} {tys : List (ClassId × FieldType)} {a : Nat} (hexec : p.tables.exec = Jvm.exec) (hb : c.code = cc) (hK : va_K D cl tys s) (hP : va_P D cl ws H) (q0 t0 : Nat) {cA : ClassId} {n : Nat} {f : Nat → UInt64} (ha : ws[q0]? = some (a, .inl (cA, n, .inr (.inr (.inr (.inl f)))))) (ht : tys[t0]? = some (cA, .double)) {i : Int32} {x : UInt64} (hout : ¬ vp_in i n) (hdg : decode cc pc = .ok (.dastore, 1))
    (k : ∀ tx : String, tx = (toString "Index " ++ toString i ++ toString " out of bounds for length " ++ toString n : String) → vx_Note p l e R s m args below meth c H locs cells slots Q (F0 m pc ls rest) "java/lang/ArrayIndexOutOfBoundsException" tx) : W p l e R s m args below meth c H locs cells slots Q (F0 m pc ls (.double x :: .int i :: .ref a :: rest)) := by
  intro T hT X
  obtain ⟨t, st, q⟩ := k _ rfl T hT X
  refine ⟨t, ?_, q⟩
  have h1 := X.dastoreOut hexec (by rw [hT]; exact hP q0 _ ha) ((hK.2 t0 _ ht).1 n (fun j => .double (f j))) (j := i) (by show (i < 0 ∨ (arrV _ _ _).slots.size ≤ _); rw [arrV_size]; exact Classical.byContradiction hout) (g := F0 m pc ls (.double x :: .int i :: .ref a :: rest)) rfl (rest := rest) rfl (by rw [hb]; exact hdg) t
  simp only [arrV_size] at h1
  exact h1 st
theorem vx_arraylengthN (hexec : p.tables.exec = Jvm.exec) (hb : c.code = cc) (hdg : decode cc pc = .ok (.arraylength, 1)) (k : vx_NoteN p l e R s m args below meth c H locs cells slots Q (F0 m pc ls rest)) : W p l e R s m args below meth c H locs cells slots Q (F0 m pc ls (.null :: rest)) := by
  intro T hT X
  obtain ⟨t, st, q⟩ := k T hT X
  exact ⟨t, X.arraylengthNull hexec (g := F0 m pc ls (.null :: rest)) rfl (rest := rest) rfl (by rw [hb]; exact hdg) t st, q⟩
theorem vx_ialoadN (hexec : p.tables.exec = Jvm.exec) (hb : c.code = cc) {i : Int32} (hdg : decode cc pc = .ok (.iaload, 1)) (k : vx_NoteN p l e R s m args below meth c H locs cells slots Q (F0 m pc ls rest)) : W p l e R s m args below meth c H locs cells slots Q (F0 m pc ls (.int i :: .null :: rest)) := by
  intro T hT X
  obtain ⟨t, st, q⟩ := k T hT X
  exact ⟨t, X.ialoadNull hexec (g := F0 m pc ls (.int i :: .null :: rest)) rfl (rest := rest) rfl (by rw [hb]; exact hdg) t st, q⟩
theorem vx_laloadN (hexec : p.tables.exec = Jvm.exec) (hb : c.code = cc) {i : Int32} (hdg : decode cc pc = .ok (.laload, 1)) (k : vx_NoteN p l e R s m args below meth c H locs cells slots Q (F0 m pc ls rest)) : W p l e R s m args below meth c H locs cells slots Q (F0 m pc ls (.int i :: .null :: rest)) := by
  intro T hT X
  obtain ⟨t, st, q⟩ := k T hT X
  exact ⟨t, X.laloadNull hexec (g := F0 m pc ls (.int i :: .null :: rest)) rfl (rest := rest) rfl (by rw [hb]; exact hdg) t st, q⟩
theorem vx_faloadN (hexec : p.tables.exec = Jvm.exec) (hb : c.code = cc) {i : Int32} (hdg : decode cc pc = .ok (.faload, 1)) (k : vx_NoteN p l e R s m args below meth c H locs cells slots Q (F0 m pc ls rest)) : W p l e R s m args below meth c H locs cells slots Q (F0 m pc ls (.int i :: .null :: rest)) := by
  intro T hT X
  obtain ⟨t, st, q⟩ := k T hT X
  exact ⟨t, X.faloadNull hexec (g := F0 m pc ls (.int i :: .null :: rest)) rfl (rest := rest) rfl (by rw [hb]; exact hdg) t st, q⟩
theorem vx_daloadN (hexec : p.tables.exec = Jvm.exec) (hb : c.code = cc) {i : Int32} (hdg : decode cc pc = .ok (.daload, 1)) (k : vx_NoteN p l e R s m args below meth c H locs cells slots Q (F0 m pc ls rest)) : W p l e R s m args below meth c H locs cells slots Q (F0 m pc ls (.int i :: .null :: rest)) := by
  intro T hT X
  obtain ⟨t, st, q⟩ := k T hT X
  exact ⟨t, X.daloadNull hexec (g := F0 m pc ls (.int i :: .null :: rest)) rfl (rest := rest) rfl (by rw [hb]; exact hdg) t st, q⟩
theorem vx_aaloadN (hexec : p.tables.exec = Jvm.exec) (hb : c.code = cc) {i : Int32} (hdg : decode cc pc = .ok (.aaload, 1)) (k : vx_NoteN p l e R s m args below meth c H locs cells slots Q (F0 m pc ls rest)) : W p l e R s m args below meth c H locs cells slots Q (F0 m pc ls (.int i :: .null :: rest)) := by
  intro T hT X
  obtain ⟨t, st, q⟩ := k T hT X
  exact ⟨t, X.aaloadNull hexec (g := F0 m pc ls (.int i :: .null :: rest)) rfl (rest := rest) rfl (by rw [hb]; exact hdg) t st, q⟩
theorem vx_baloadN (hexec : p.tables.exec = Jvm.exec) (hb : c.code = cc) {i : Int32} (hdg : decode cc pc = .ok (.baload, 1)) (k : vx_NoteN p l e R s m args below meth c H locs cells slots Q (F0 m pc ls rest)) : W p l e R s m args below meth c H locs cells slots Q (F0 m pc ls (.int i :: .null :: rest)) := by
  intro T hT X
  obtain ⟨t, st, q⟩ := k T hT X
  exact ⟨t, X.baloadNull hexec (g := F0 m pc ls (.int i :: .null :: rest)) rfl (rest := rest) rfl (by rw [hb]; exact hdg) t st, q⟩
theorem vx_caloadN (hexec : p.tables.exec = Jvm.exec) (hb : c.code = cc) {i : Int32} (hdg : decode cc pc = .ok (.caload, 1)) (k : vx_NoteN p l e R s m args below meth c H locs cells slots Q (F0 m pc ls rest)) : W p l e R s m args below meth c H locs cells slots Q (F0 m pc ls (.int i :: .null :: rest)) := by
  intro T hT X
  obtain ⟨t, st, q⟩ := k T hT X
  exact ⟨t, X.caloadNull hexec (g := F0 m pc ls (.int i :: .null :: rest)) rfl (rest := rest) rfl (by rw [hb]; exact hdg) t st, q⟩
theorem vx_saloadN (hexec : p.tables.exec = Jvm.exec) (hb : c.code = cc) {i : Int32} (hdg : decode cc pc = .ok (.saload, 1)) (k : vx_NoteN p l e R s m args below meth c H locs cells slots Q (F0 m pc ls rest)) : W p l e R s m args below meth c H locs cells slots Q (F0 m pc ls (.int i :: .null :: rest)) := by
  intro T hT X
  obtain ⟨t, st, q⟩ := k T hT X
  exact ⟨t, X.saloadNull hexec (g := F0 m pc ls (.int i :: .null :: rest)) rfl (rest := rest) rfl (by rw [hb]; exact hdg) t st, q⟩
theorem vx_iastoreN (hexec : p.tables.exec = Jvm.exec) (hb : c.code = cc) {x : Int32} {i : Int32} (hdg : decode cc pc = .ok (.iastore, 1)) (k : vx_NoteN p l e R s m args below meth c H locs cells slots Q (F0 m pc ls rest)) : W p l e R s m args below meth c H locs cells slots Q (F0 m pc ls (.int x :: .int i :: .null :: rest)) := by
  intro T hT X
  obtain ⟨t, st, q⟩ := k T hT X
  exact ⟨t, X.iastoreNull hexec (g := F0 m pc ls (.int x :: .int i :: .null :: rest)) rfl (rest := rest) rfl (by rw [hb]; exact hdg) t st, q⟩
theorem vx_lastoreN (hexec : p.tables.exec = Jvm.exec) (hb : c.code = cc) {x : Int64} {i : Int32} (hdg : decode cc pc = .ok (.lastore, 1)) (k : vx_NoteN p l e R s m args below meth c H locs cells slots Q (F0 m pc ls rest)) : W p l e R s m args below meth c H locs cells slots Q (F0 m pc ls (.long x :: .int i :: .null :: rest)) := by
  intro T hT X
  obtain ⟨t, st, q⟩ := k T hT X
  exact ⟨t, X.lastoreNull hexec (g := F0 m pc ls (.long x :: .int i :: .null :: rest)) rfl (rest := rest) rfl (by rw [hb]; exact hdg) t st, q⟩
theorem vx_fastoreN (hexec : p.tables.exec = Jvm.exec) (hb : c.code = cc) {x : UInt32} {i : Int32} (hdg : decode cc pc = .ok (.fastore, 1)) (k : vx_NoteN p l e R s m args below meth c H locs cells slots Q (F0 m pc ls rest)) : W p l e R s m args below meth c H locs cells slots Q (F0 m pc ls (.float x :: .int i :: .null :: rest)) := by
  intro T hT X
  obtain ⟨t, st, q⟩ := k T hT X
  exact ⟨t, X.fastoreNull hexec (g := F0 m pc ls (.float x :: .int i :: .null :: rest)) rfl (rest := rest) rfl (by rw [hb]; exact hdg) t st, q⟩
theorem vx_dastoreN (hexec : p.tables.exec = Jvm.exec) (hb : c.code = cc) {x : UInt64} {i : Int32} (hdg : decode cc pc = .ok (.dastore, 1)) (k : vx_NoteN p l e R s m args below meth c H locs cells slots Q (F0 m pc ls rest)) : W p l e R s m args below meth c H locs cells slots Q (F0 m pc ls (.double x :: .int i :: .null :: rest)) := by
  intro T hT X
  obtain ⟨t, st, q⟩ := k T hT X
  exact ⟨t, X.dastoreNull hexec (g := F0 m pc ls (.double x :: .int i :: .null :: rest)) rfl (rest := rest) rfl (by rw [hb]; exact hdg) t st, q⟩
theorem vx_bastoreN (hexec : p.tables.exec = Jvm.exec) (hb : c.code = cc) {x : Int32} {i : Int32} (hdg : decode cc pc = .ok (.bastore, 1)) (k : vx_NoteN p l e R s m args below meth c H locs cells slots Q (F0 m pc ls rest)) : W p l e R s m args below meth c H locs cells slots Q (F0 m pc ls (.int x :: .int i :: .null :: rest)) := by
  intro T hT X
  obtain ⟨t, st, q⟩ := k T hT X
  exact ⟨t, X.bastoreNull hexec (g := F0 m pc ls (.int x :: .int i :: .null :: rest)) rfl (rest := rest) rfl (by rw [hb]; exact hdg) t st, q⟩
theorem vx_castoreN (hexec : p.tables.exec = Jvm.exec) (hb : c.code = cc) {x : Int32} {i : Int32} (hdg : decode cc pc = .ok (.castore, 1)) (k : vx_NoteN p l e R s m args below meth c H locs cells slots Q (F0 m pc ls rest)) : W p l e R s m args below meth c H locs cells slots Q (F0 m pc ls (.int x :: .int i :: .null :: rest)) := by
  intro T hT X
  obtain ⟨t, st, q⟩ := k T hT X
  exact ⟨t, X.castoreNull hexec (g := F0 m pc ls (.int x :: .int i :: .null :: rest)) rfl (rest := rest) rfl (by rw [hb]; exact hdg) t st, q⟩
theorem vx_sastoreN (hexec : p.tables.exec = Jvm.exec) (hb : c.code = cc) {x : Int32} {i : Int32} (hdg : decode cc pc = .ok (.sastore, 1)) (k : vx_NoteN p l e R s m args below meth c H locs cells slots Q (F0 m pc ls rest)) : W p l e R s m args below meth c H locs cells slots Q (F0 m pc ls (.int x :: .int i :: .null :: rest)) := by
  intro T hT X
  obtain ⟨t, st, q⟩ := k T hT X
  exact ⟨t, X.sastoreNull hexec (g := F0 m pc ls (.int x :: .int i :: .null :: rest)) rfl (rest := rest) rfl (by rw [hb]; exact hdg) t st, q⟩
theorem vx_invokeN {own C : String} {index maxL : Nat} {y : MethodName} {bytes : ByteArray} {ret : Option FieldType} (hexec : p.tables.exec = Jvm.exec) (hb : c.code = cc) (hown : s.vm.findClass own = some m.cls) (hlink : (Cond.methodLink own index y).before args s = true) (hinst : (Cond.instanceMethod y).before args s = true) (hcode : (Cond.code y bytes maxL ret).before args s = true) (hsel : (Cond.selects C y y).before args s = true)
    (hx : y.cls ≠ "java/lang/invoke/MethodHandle" ∧ y.cls ≠ "java/lang/invoke/VarHandle") {As : List Value} (hlen : (parseMethodDescriptor y.desc).map (fun d => d.parameters.length) = some As.length) (hdg : decode cc pc = .ok (.invokevirtual index, 3))
    (k : vx_NoteN p l e R s m args below meth c H locs cells slots Q (F0 m pc ls rest)) {st0 : List Value} (hst : st0 = As.reverse ++ .null :: rest) : W p l e R s m args below meth c H locs cells slots Q (F0 m pc ls st0) := by
  intro T hT X
  obtain ⟨r0, r, hn, hrm, hstR, hsigR⟩ := va_Decl.of hinst hcode
  obtain ⟨c2, r2, m2, q1, q2, q3, q4, kP, hkP, hkPi⟩ := Cond.selects_spec hsel
  cases hn.symm.trans q3
  have hl9 : As.length = r.sig.parameters.length := by
    rw [hsigR] at hlen
    exact (Option.some.inj hlen).symm
  obtain ⟨vm', X1, st1⟩ := X.invokevirtualNull hexec hown hlink hn hrm hstR hkP hkPi hx (g := F0 m pc ls st0) rfl (argsL := As) (rest := rest) hl9 hst (by rw [hb]; exact hdg)
  obtain ⟨t, st, q⟩ := k (T.setVm vm') hT X1
  exact ⟨t, st1 t st, q⟩
theorem vx_newarrayZ {atype : ArrayType} (hexec : p.tables.exec = Jvm.exec) (hb : c.code = cc) {n : Int32} (h0 : n < 0) (hdg : decode cc pc = .ok (.newarray atype, 2)) (k : ∀ tx : String, tx = toString n → vx_Note p l e R s m args below meth c H locs cells slots Q (F0 m pc ls rest) "java/lang/NegativeArraySizeException" tx) : W p l e R s m args below meth c H locs cells slots Q (F0 m pc ls (.int n :: rest)) := by
  intro T hT X
  obtain ⟨t, st, q⟩ := k _ rfl T hT X
  exact ⟨t, X.newarrayNegative hexec (g := F0 m pc ls (.int n :: rest)) rfl h0 (rest := rest) rfl (by rw [hb]; exact hdg) t st, q⟩
end
end VXM
/-! ===== END ===== -/

def RX0 : String := "PillowBarge$Cargo"
def TX0 : u_T := fun k => match k with
  | 0 => ("PillowBarge$Cargo", "heights", "[I", true)
  | 1 => ("PillowBarge$Cargo", "numbers", "[I", true)
  | 2 => ("PillowBarge$Cargo", "weights", "[I", true)
  | 3 => ("PillowBarge$Cargo", "destinations", "[I", true)
  | _ => ("PillowBarge$Cargo", "days", "[I", true)
def tyX0 : Nat → FieldType := fun k => match k with
  | 0 => .array .int
  | 1 => .array .int
  | 2 => .array .int
  | 3 => .array .int
  | _ => .array .int
theorem nmX0 : ∀ a, a < 5 → ∀ b, b < 5 → a ≠ b → (TX0 a).2.1 ≠ (TX0 b).2.1 := by decide +kernel
theorem tyX0_ok : ∀ k, k < 5 → parseFieldDescriptor (TX0 k).2.2.1 = some (tyX0 k) := by decide +kernel
abbrev cX0_init : ByteArray := prog_2_method_1_code
def yX0_init : MethodName := ⟨RX0, "<init>", "()V"⟩
abbrev cX0_copyFrom : ByteArray := prog_2_method_2_code
def yX0_copyFrom : MethodName := ⟨RX0, "copyFrom", "(LPillowBarge$Cargo;)V"⟩
abbrev cX0_heightOf : ByteArray := prog_2_method_3_code
def yX0_heightOf : MethodName := ⟨RX0, "heightOf", "(I)I"⟩
abbrev cX0_isTaken : ByteArray := prog_2_method_4_code
def yX0_isTaken : MethodName := ⟨RX0, "isTaken", "(I)Z"⟩
abbrev cX0_slotAt : ByteArray := prog_2_method_5_code
def yX0_slotAt : MethodName := ⟨RX0, "slotAt", "(II)I"⟩
abbrev cX0_topSlot : ByteArray := prog_2_method_6_code
def yX0_topSlot : MethodName := ⟨RX0, "topSlot", "(I)I"⟩
abbrev cX0_slotOf : ByteArray := prog_2_method_7_code
def yX0_slotOf : MethodName := ⟨RX0, "slotOf", "(I)I"⟩
abbrev cX0_numberIn : ByteArray := prog_2_method_8_code
def yX0_numberIn : MethodName := ⟨RX0, "numberIn", "(I)I"⟩
abbrev cX0_weightIn : ByteArray := prog_2_method_9_code
def yX0_weightIn : MethodName := ⟨RX0, "weightIn", "(I)I"⟩
abbrev cX0_destinationIn : ByteArray := prog_2_method_10_code
def yX0_destinationIn : MethodName := ⟨RX0, "destinationIn", "(I)I"⟩
abbrev cX0_dayIn : ByteArray := prog_2_method_11_code
def yX0_dayIn : MethodName := ⟨RX0, "dayIn", "(I)I"⟩
abbrev cX0_countPillows : ByteArray := prog_2_method_12_code
def yX0_countPillows : MethodName := ⟨RX0, "countPillows", "()I"⟩
abbrev cX0_weightOfAll : ByteArray := prog_2_method_13_code
def yX0_weightOfAll : MethodName := ⟨RX0, "weightOfAll", "()I"⟩
abbrev cX0_weightForPort : ByteArray := prog_2_method_14_code
def yX0_weightForPort : MethodName := ⟨RX0, "weightForPort", "(I)I"⟩
abbrev cX0_weightOfBay : ByteArray := prog_2_method_15_code
def yX0_weightOfBay : MethodName := ⟨RX0, "weightOfBay", "(I)I"⟩
abbrev cX0_momentOfPillows : ByteArray := prog_2_method_16_code
def yX0_momentOfPillows : MethodName := ⟨RX0, "momentOfPillows", "()I"⟩
abbrev cX0_momentOfBays : ByteArray := prog_2_method_17_code
def yX0_momentOfBays : MethodName := ⟨RX0, "momentOfBays", "()I"⟩
abbrev cX0_put : ByteArray := prog_2_method_18_code
def yX0_put : MethodName := ⟨RX0, "put", "(IIIII)V"⟩
abbrev cX0_removeTop : ByteArray := prog_2_method_19_code
def yX0_removeTop : MethodName := ⟨RX0, "removeTop", "(I)V"⟩
def RX1 : String := "PillowBarge$History"
def TX1 : u_T := fun k => match k with
  | 0 => ("PillowBarge$History", "places", "[LPillowBarge$State;", true)
  | 1 => ("PillowBarge$History", "next", "I", false)
  | _ => ("PillowBarge$History", "count", "I", false)
def tyX1 : Nat → FieldType := fun k => match k with
  | 0 => .array (.object "PillowBarge$State")
  | 1 => .int
  | _ => .int
theorem nmX1 : ∀ a, a < 3 → ∀ b, b < 3 → a ≠ b → (TX1 a).2.1 ≠ (TX1 b).2.1 := by decide +kernel
theorem tyX1_ok : ∀ k, k < 3 → parseFieldDescriptor (TX1 k).2.2.1 = some (tyX1 k) := by decide +kernel
abbrev cX1_init : ByteArray := prog_3_method_1_code
def yX1_init : MethodName := ⟨RX1, "<init>", "()V"⟩
abbrev cX1_draft : ByteArray := prog_3_method_2_code
def yX1_draft : MethodName := ⟨RX1, "draft", "(LPillowBarge$State;)V"⟩
abbrev cX1_keepDraft : ByteArray := prog_3_method_3_code
def yX1_keepDraft : MethodName := ⟨RX1, "keepDraft", "()V"⟩
abbrev cX1_takeDraftBack : ByteArray := prog_3_method_4_code
def yX1_takeDraftBack : MethodName := ⟨RX1, "takeDraftBack", "(LPillowBarge$State;)V"⟩
abbrev cX1_takeLatestBack : ByteArray := prog_3_method_5_code
def yX1_takeLatestBack : MethodName := ⟨RX1, "takeLatestBack", "(LPillowBarge$State;)V"⟩
abbrev cX1_forget : ByteArray := prog_3_method_6_code
def yX1_forget : MethodName := ⟨RX1, "forget", "()V"⟩
abbrev cX1_placeAt : ByteArray := prog_3_method_7_code
def yX1_placeAt : MethodName := ⟨RX1, "placeAt", "(I)LPillowBarge$State;"⟩
def RX2 : String := "PillowBarge$Script"
def TX2 : u_T := fun k => match k with
  | 0 => ("PillowBarge$Script", "characters", "[C", true)
  | 1 => ("PillowBarge$Script", "commands", "[I", true)
  | 2 => ("PillowBarge$Script", "arguments", "[I", true)
  | 3 => ("PillowBarge$Script", "length", "I", false)
  | 4 => ("PillowBarge$Script", "count", "I", false)
  | _ => ("PillowBarge$Script", "at", "I", false)
def tyX2 : Nat → FieldType := fun k => match k with
  | 0 => .array .char
  | 1 => .array .int
  | 2 => .array .int
  | 3 => .int
  | 4 => .int
  | _ => .int
theorem nmX2 : ∀ a, a < 6 → ∀ b, b < 6 → a ≠ b → (TX2 a).2.1 ≠ (TX2 b).2.1 := by decide +kernel
theorem tyX2_ok : ∀ k, k < 6 → parseFieldDescriptor (TX2 k).2.2.1 = some (tyX2 k) := by decide +kernel
abbrev cX2_init : ByteArray := prog_4_method_1_code
def yX2_init : MethodName := ⟨RX2, "<init>", "()V"⟩
abbrev cX2_isFull : ByteArray := prog_4_method_2_code
def yX2_isFull : MethodName := ⟨RX2, "isFull", "()Z"⟩
abbrev cX2_append : ByteArray := prog_4_method_3_code
def yX2_append : MethodName := ⟨RX2, "append", "(C)V"⟩
abbrev cX2_empty : ByteArray := prog_4_method_4_code
def yX2_empty : MethodName := ⟨RX2, "empty", "()V"⟩
abbrev cX2_commandAt : ByteArray := prog_4_method_5_code
def yX2_commandAt : MethodName := ⟨RX2, "commandAt", "(I)I"⟩
abbrev cX2_argumentAt : ByteArray := prog_4_method_6_code
def yX2_argumentAt : MethodName := ⟨RX2, "argumentAt", "(II)I"⟩
abbrev cX2_parse : ByteArray := prog_4_method_7_code
def yX2_parse : MethodName := ⟨RX2, "parse", "()Z"⟩
abbrev cX2_readCommand : ByteArray := prog_4_method_8_code
def yX2_readCommand : MethodName := ⟨RX2, "readCommand", "()Z"⟩
abbrev cX2_keywordOf : ByteArray := prog_4_method_9_code
def yX2_keywordOf : MethodName := ⟨RX2, "keywordOf", "(I)Ljava/lang/String;"⟩
abbrev cX2_readKeyword : ByteArray := prog_4_method_10_code
def yX2_readKeyword : MethodName := ⟨RX2, "readKeyword", "()I"⟩
abbrev cX2_countMatching : ByteArray := prog_4_method_11_code
def yX2_countMatching : MethodName := ⟨RX2, "countMatching", "(Ljava/lang/String;)I"⟩
abbrev cX2_isNext : ByteArray := prog_4_method_12_code
def yX2_isNext : MethodName := ⟨RX2, "isNext", "(IC)Z"⟩
abbrev cX2_accept : ByteArray := prog_4_method_13_code
def yX2_accept : MethodName := ⟨RX2, "accept", "(C)Z"⟩
abbrev cX2_readDigit : ByteArray := prog_4_method_14_code
def yX2_readDigit : MethodName := ⟨RX2, "readDigit", "(I)Z"⟩
abbrev cX2_readNumber : ByteArray := prog_4_method_15_code
def yX2_readNumber : MethodName := ⟨RX2, "readNumber", "(I)Z"⟩
abbrev cX2_readSignedNumber : ByteArray := prog_4_method_16_code
def yX2_readSignedNumber : MethodName := ⟨RX2, "readSignedNumber", "(I)Z"⟩
abbrev cX2_takeDigit : ByteArray := prog_4_method_17_code
def yX2_takeDigit : MethodName := ⟨RX2, "takeDigit", "()I"⟩
abbrev cX2_setArgument : ByteArray := prog_4_method_18_code
def yX2_setArgument : MethodName := ⟨RX2, "setArgument", "(II)V"⟩
def RX3 : String := "PillowBarge$State"
def TX3 : u_T := fun k => match k with
  | 0 => ("PillowBarge$State", "cargo", "LPillowBarge$Cargo;", true)
  | 1 => ("PillowBarge$State", "voyage", "LPillowBarge$Voyage;", true)
  | 2 => ("PillowBarge$State", "tally", "LPillowBarge$Tally;", true)
  | _ => ("PillowBarge$State", "limit", "I", false)
def tyX3 : Nat → FieldType := fun k => match k with
  | 0 => .object "PillowBarge$Cargo"
  | 1 => .object "PillowBarge$Voyage"
  | 2 => .object "PillowBarge$Tally"
  | _ => .int
theorem nmX3 : ∀ a, a < 4 → ∀ b, b < 4 → a ≠ b → (TX3 a).2.1 ≠ (TX3 b).2.1 := by decide +kernel
theorem tyX3_ok : ∀ k, k < 4 → parseFieldDescriptor (TX3 k).2.2.1 = some (tyX3 k) := by decide +kernel
abbrev cX3_init : ByteArray := prog_5_method_1_code
def yX3_init : MethodName := ⟨RX3, "<init>", "()V"⟩
abbrev cX3_copyFrom : ByteArray := prog_5_method_2_code
def yX3_copyFrom : MethodName := ⟨RX3, "copyFrom", "(LPillowBarge$State;)V"⟩
abbrev cX3_isWithinLimit : ByteArray := prog_5_method_3_code
def yX3_isWithinLimit : MethodName := ⟨RX3, "isWithinLimit", "(I)Z"⟩
abbrev cX3_legsIn : ByteArray := prog_5_method_4_code
def yX3_legsIn : MethodName := ⟨RX3, "legsIn", "(I)I"⟩
abbrev cX3_ageIn : ByteArray := prog_5_method_5_code
def yX3_ageIn : MethodName := ⟨RX3, "ageIn", "(I)I"⟩
abbrev cX3_faultOf : ByteArray := prog_5_method_6_code
def yX3_faultOf : MethodName := ⟨RX3, "faultOf", "(IIII)I"⟩
abbrev cX3_faultOfLoad : ByteArray := prog_5_method_7_code
def yX3_faultOfLoad : MethodName := ⟨RX3, "faultOfLoad", "(III)I"⟩
abbrev cX3_faultOfUnload : ByteArray := prog_5_method_8_code
def yX3_faultOfUnload : MethodName := ⟨RX3, "faultOfUnload", "(I)I"⟩
abbrev cX3_faultOfShift : ByteArray := prog_5_method_9_code
def yX3_faultOfShift : MethodName := ⟨RX3, "faultOfShift", "(II)I"⟩
abbrev cX3_faultOfMoment : ByteArray := prog_5_method_10_code
def yX3_faultOfMoment : MethodName := ⟨RX3, "faultOfMoment", "(I)I"⟩
abbrev cX3_faultOfLimit : ByteArray := prog_5_method_11_code
def yX3_faultOfLimit : MethodName := ⟨RX3, "faultOfLimit", "(I)I"⟩
abbrev cX3_perform : ByteArray := prog_5_method_12_code
def yX3_perform : MethodName := ⟨RX3, "perform", "(IIII)I"⟩
abbrev cX3_addPillow : ByteArray := prog_5_method_13_code
def yX3_addPillow : MethodName := ⟨RX3, "addPillow", "(III)I"⟩
abbrev cX3_deliverTop : ByteArray := prog_5_method_14_code
def yX3_deliverTop : MethodName := ⟨RX3, "deliverTop", "(I)I"⟩
abbrev cX3_moveTop : ByteArray := prog_5_method_15_code
def yX3_moveTop : MethodName := ⟨RX3, "moveTop", "(II)I"⟩
abbrev cX3_replaceLimit : ByteArray := prog_5_method_16_code
def yX3_replaceLimit : MethodName := ⟨RX3, "replaceLimit", "(I)I"⟩
abbrev cX3_practise : ByteArray := prog_5_method_17_code
def yX3_practise : MethodName := ⟨RX3, "practise", "(I)Z"⟩
def RX4 : String := "PillowBarge$Tally"
def TX4 : u_T := fun k => match k with
  | 0 => ("PillowBarge$Tally", "loaded", "I", false)
  | 1 => ("PillowBarge$Tally", "delivered", "I", false)
  | 2 => ("PillowBarge$Tally", "deliveredWeight", "I", false)
  | 3 => ("PillowBarge$Tally", "drills", "I", false)
  | _ => ("PillowBarge$Tally", "capsized", "I", false)
def tyX4 : Nat → FieldType := fun k => match k with
  | 0 => .int
  | 1 => .int
  | 2 => .int
  | 3 => .int
  | _ => .int
theorem nmX4 : ∀ a, a < 5 → ∀ b, b < 5 → a ≠ b → (TX4 a).2.1 ≠ (TX4 b).2.1 := by decide +kernel
theorem tyX4_ok : ∀ k, k < 5 → parseFieldDescriptor (TX4 k).2.2.1 = some (tyX4 k) := by decide +kernel
abbrev cX4_init : ByteArray := prog_6_method_1_code
def yX4_init : MethodName := ⟨RX4, "<init>", "()V"⟩
abbrev cX4_copyFrom : ByteArray := prog_6_method_2_code
def yX4_copyFrom : MethodName := ⟨RX4, "copyFrom", "(LPillowBarge$Tally;)V"⟩
def RX5 : String := "PillowBarge$Voyage"
def TX5 : u_T := fun k => match k with
  | 0 => ("PillowBarge$Voyage", "port", "I", false)
  | 1 => ("PillowBarge$Voyage", "day", "I", false)
  | _ => ("PillowBarge$Voyage", "ascending", "Z", false)
def tyX5 : Nat → FieldType := fun k => match k with
  | 0 => .int
  | 1 => .int
  | _ => .boolean
theorem nmX5 : ∀ a, a < 3 → ∀ b, b < 3 → a ≠ b → (TX5 a).2.1 ≠ (TX5 b).2.1 := by decide +kernel
theorem tyX5_ok : ∀ k, k < 3 → parseFieldDescriptor (TX5 k).2.2.1 = some (tyX5 k) := by decide +kernel
abbrev cX5_init : ByteArray := prog_7_method_1_code
def yX5_init : MethodName := ⟨RX5, "<init>", "()V"⟩
abbrev cX5_copyFrom : ByteArray := prog_7_method_2_code
def yX5_copyFrom : MethodName := ⟨RX5, "copyFrom", "(LPillowBarge$Voyage;)V"⟩
abbrev cX5_countLegsTo : ByteArray := prog_7_method_3_code
def yX5_countLegsTo : MethodName := ⟨RX5, "countLegsTo", "(I)I"⟩
abbrev cX5_portIn : ByteArray := prog_7_method_4_code
def yX5_portIn : MethodName := ⟨RX5, "portIn", "(I)I"⟩
abbrev cX5_advance : ByteArray := prog_7_method_5_code
def yX5_advance : MethodName := ⟨RX5, "advance", "(I)V"⟩
abbrev cX5_reverse : ByteArray := prog_7_method_6_code
def yX5_reverse : MethodName := ⟨RX5, "reverse", "()V"⟩
def RX6 : String := "PillowBarge"
def TX6 : u_T := fun k => match k with
  | 0 => ("PillowBarge", "state", "LPillowBarge$State;", true)
  | 1 => ("PillowBarge", "history", "LPillowBarge$History;", true)
  | 2 => ("PillowBarge", "snapshot", "LPillowBarge$State;", true)
  | 3 => ("PillowBarge", "hasSnapshot", "Z", false)
  | 4 => ("PillowBarge", "script", "LPillowBarge$Script;", true)
  | 5 => ("PillowBarge", "latestErrorPosition", "I", false)
  | 6 => ("PillowBarge", "latestFailedCommand", "I", false)
  | 7 => ("PillowBarge", "output", "Ljava/lang/StringBuilder;", true)
  | _ => ("PillowBarge", "seenByLegs", "[I", true)
def tyX6 : Nat → FieldType := fun k => match k with
  | 0 => .object "PillowBarge$State"
  | 1 => .object "PillowBarge$History"
  | 2 => .object "PillowBarge$State"
  | 3 => .boolean
  | 4 => .object "PillowBarge$Script"
  | 5 => .int
  | 6 => .int
  | 7 => .object "java/lang/StringBuilder"
  | _ => .array .int
theorem nmX6 : ∀ a, a < 9 → ∀ b, b < 9 → a ≠ b → (TX6 a).2.1 ≠ (TX6 b).2.1 := by decide +kernel
theorem tyX6_ok : ∀ k, k < 9 → parseFieldDescriptor (TX6 k).2.2.1 = some (tyX6 k) := by decide +kernel
abbrev cX6_init : ByteArray := prog_1_method_1_code
def yX6_init : MethodName := ⟨RX6, "<init>", "()V"⟩
abbrev cX6_load : ByteArray := prog_1_method_2_code
def yX6_load : MethodName := ⟨RX6, "load", "(III)I"⟩
abbrev cX6_unload : ByteArray := prog_1_method_3_code
def yX6_unload : MethodName := ⟨RX6, "unload", "(I)I"⟩
abbrev cX6_shift : ByteArray := prog_1_method_4_code
def yX6_shift : MethodName := ⟨RX6, "shift", "(II)I"⟩
abbrev cX6_sail : ByteArray := prog_1_method_5_code
def yX6_sail : MethodName := ⟨RX6, "sail", "(I)I"⟩
abbrev cX6_turn : ByteArray := prog_1_method_6_code
def yX6_turn : MethodName := ⟨RX6, "turn", "()Z"⟩
abbrev cX6_setLimit : ByteArray := prog_1_method_7_code
def yX6_setLimit : MethodName := ⟨RX6, "setLimit", "(I)I"⟩
abbrev cX6_drill : ByteArray := prog_1_method_8_code
def yX6_drill : MethodName := ⟨RX6, "drill", "(I)Z"⟩
abbrev cX6_change : ByteArray := prog_1_method_9_code
def yX6_change : MethodName := ⟨RX6, "change", "(IIII)I"⟩
abbrev cX6_throwFault : ByteArray := prog_1_method_10_code
def yX6_throwFault : MethodName := ⟨RX6, "throwFault", "(I)V"⟩
abbrev cX6_pillowCount : ByteArray := prog_1_method_11_code
def yX6_pillowCount : MethodName := ⟨RX6, "pillowCount", "()I"⟩
abbrev cX6_stackHeight : ByteArray := prog_1_method_12_code
def yX6_stackHeight : MethodName := ⟨RX6, "stackHeight", "(I)I"⟩
abbrev cX6_pillowAt : ByteArray := prog_1_method_13_code
def yX6_pillowAt : MethodName := ⟨RX6, "pillowAt", "(II)I"⟩
abbrev cX6_weightOf : ByteArray := prog_1_method_14_code
def yX6_weightOf : MethodName := ⟨RX6, "weightOf", "(I)I"⟩
abbrev cX6_destinationOf : ByteArray := prog_1_method_15_code
def yX6_destinationOf : MethodName := ⟨RX6, "destinationOf", "(I)I"⟩
abbrev cX6_bayOf : ByteArray := prog_1_method_16_code
def yX6_bayOf : MethodName := ⟨RX6, "bayOf", "(I)I"⟩
abbrev cX6_positionOf : ByteArray := prog_1_method_17_code
def yX6_positionOf : MethodName := ⟨RX6, "positionOf", "(I)I"⟩
abbrev cX6_ageOf : ByteArray := prog_1_method_18_code
def yX6_ageOf : MethodName := ⟨RX6, "ageOf", "(I)I"⟩
abbrev cX6_oldestIn : ByteArray := prog_1_method_19_code
def yX6_oldestIn : MethodName := ⟨RX6, "oldestIn", "(I)I"⟩
abbrev cX6_oldestSlotIn : ByteArray := prog_1_method_20_code
def yX6_oldestSlotIn : MethodName := ⟨RX6, "oldestSlotIn", "(I)I"⟩
abbrev cX6_isOlder : ByteArray := prog_1_method_21_code
def yX6_isOlder : MethodName := ⟨RX6, "isOlder", "(II)Z"⟩
abbrev cX6_moment : ByteArray := prog_1_method_22_code
def yX6_moment : MethodName := ⟨RX6, "moment", "()I"⟩
abbrev cX6_momentByBays : ByteArray := prog_1_method_23_code
def yX6_momentByBays : MethodName := ⟨RX6, "momentByBays", "()I"⟩
abbrev cX6_totalWeight : ByteArray := prog_1_method_24_code
def yX6_totalWeight : MethodName := ⟨RX6, "totalWeight", "()I"⟩
abbrev cX6_weightFor : ByteArray := prog_1_method_25_code
def yX6_weightFor : MethodName := ⟨RX6, "weightFor", "(I)I"⟩
abbrev cX6_limit : ByteArray := prog_1_method_26_code
def yX6_limit : MethodName := ⟨RX6, "limit", "()I"⟩
abbrev cX6_listAngle : ByteArray := prog_1_method_27_code
def yX6_listAngle : MethodName := ⟨RX6, "listAngle", "()F"⟩
abbrev cX6_greatestPush : ByteArray := prog_1_method_28_code
def yX6_greatestPush : MethodName := ⟨RX6, "greatestPush", "()I"⟩
abbrev cX6_levelingBay : ByteArray := prog_1_method_29_code
def yX6_levelingBay : MethodName := ⟨RX6, "levelingBay", "(I)I"⟩
abbrev cX6_mostLevelBay : ByteArray := prog_1_method_30_code
def yX6_mostLevelBay : MethodName := ⟨RX6, "mostLevelBay", "(I)I"⟩
abbrev cX6_isMoreLevel : ByteArray := prog_1_method_31_code
def yX6_isMoreLevel : MethodName := ⟨RX6, "isMoreLevel", "(III)Z"⟩
abbrev cX6_port : ByteArray := prog_1_method_32_code
def yX6_port : MethodName := ⟨RX6, "port", "()I"⟩
abbrev cX6_day : ByteArray := prog_1_method_33_code
def yX6_day : MethodName := ⟨RX6, "day", "()I"⟩
abbrev cX6_isAscending : ByteArray := prog_1_method_34_code
def yX6_isAscending : MethodName := ⟨RX6, "isAscending", "()Z"⟩
abbrev cX6_legsTo : ByteArray := prog_1_method_35_code
def yX6_legsTo : MethodName := ⟨RX6, "legsTo", "(I)I"⟩
abbrev cX6_portAfter : ByteArray := prog_1_method_36_code
def yX6_portAfter : MethodName := ⟨RX6, "portAfter", "(I)I"⟩
abbrev cX6_heaviestPort : ByteArray := prog_1_method_37_code
def yX6_heaviestPort : MethodName := ⟨RX6, "heaviestPort", "()I"⟩
abbrev cX6_pillowsInTheWay : ByteArray := prog_1_method_38_code
def yX6_pillowsInTheWay : MethodName := ⟨RX6, "pillowsInTheWay", "(I)I"⟩
abbrev cX6_pairsInTheWay : ByteArray := prog_1_method_39_code
def yX6_pairsInTheWay : MethodName := ⟨RX6, "pairsInTheWay", "()I"⟩
abbrev cX6_pairsInTheWayByStacks : ByteArray := prog_1_method_40_code
def yX6_pairsInTheWayByStacks : MethodName := ⟨RX6, "pairsInTheWayByStacks", "()I"⟩
abbrev cX6_countPairs : ByteArray := prog_1_method_41_code
def yX6_countPairs : MethodName := ⟨RX6, "countPairs", "()I"⟩
abbrev cX6_countInTheWayOf : ByteArray := prog_1_method_42_code
def yX6_countInTheWayOf : MethodName := ⟨RX6, "countInTheWayOf", "(I)I"⟩
abbrev cX6_countPairsByStacks : ByteArray := prog_1_method_43_code
def yX6_countPairsByStacks : MethodName := ⟨RX6, "countPairsByStacks", "()I"⟩
abbrev cX6_countPairsInStack : ByteArray := prog_1_method_44_code
def yX6_countPairsInStack : MethodName := ⟨RX6, "countPairsInStack", "(I)I"⟩
abbrev cX6_seePillow : ByteArray := prog_1_method_45_code
def yX6_seePillow : MethodName := ⟨RX6, "seePillow", "(I)I"⟩
abbrev cX6_unloadableCount : ByteArray := prog_1_method_46_code
def yX6_unloadableCount : MethodName := ⟨RX6, "unloadableCount", "()I"⟩
abbrev cX6_possibleShifts : ByteArray := prog_1_method_47_code
def yX6_possibleShifts : MethodName := ⟨RX6, "possibleShifts", "()I"⟩
abbrev cX6_pillowByTurn : ByteArray := prog_1_method_48_code
def yX6_pillowByTurn : MethodName := ⟨RX6, "pillowByTurn", "(I)I"⟩
abbrev cX6_countEarlierTurns : ByteArray := prog_1_method_49_code
def yX6_countEarlierTurns : MethodName := ⟨RX6, "countEarlierTurns", "(I)I"⟩
abbrev cX6_hasEarlierTurn : ByteArray := prog_1_method_50_code
def yX6_hasEarlierTurn : MethodName := ⟨RX6, "hasEarlierTurn", "(II)Z"⟩
abbrev cX6_bayByWeight : ByteArray := prog_1_method_51_code
def yX6_bayByWeight : MethodName := ⟨RX6, "bayByWeight", "(I)I"⟩
abbrev cX6_countHeavierBays : ByteArray := prog_1_method_52_code
def yX6_countHeavierBays : MethodName := ⟨RX6, "countHeavierBays", "(I)I"⟩
abbrev cX6_loadedTotal : ByteArray := prog_1_method_53_code
def yX6_loadedTotal : MethodName := ⟨RX6, "loadedTotal", "()I"⟩
abbrev cX6_deliveredTotal : ByteArray := prog_1_method_54_code
def yX6_deliveredTotal : MethodName := ⟨RX6, "deliveredTotal", "()I"⟩
abbrev cX6_deliveredWeight : ByteArray := prog_1_method_55_code
def yX6_deliveredWeight : MethodName := ⟨RX6, "deliveredWeight", "()I"⟩
abbrev cX6_drillTotal : ByteArray := prog_1_method_56_code
def yX6_drillTotal : MethodName := ⟨RX6, "drillTotal", "()I"⟩
abbrev cX6_capsizedTotal : ByteArray := prog_1_method_57_code
def yX6_capsizedTotal : MethodName := ⟨RX6, "capsizedTotal", "()I"⟩
abbrev cX6_meanAge : ByteArray := prog_1_method_58_code
def yX6_meanAge : MethodName := ⟨RX6, "meanAge", "()D"⟩
abbrev cX6_sumOfAges : ByteArray := prog_1_method_59_code
def yX6_sumOfAges : MethodName := ⟨RX6, "sumOfAges", "()I"⟩
abbrev cX6_capsizedShare : ByteArray := prog_1_method_60_code
def yX6_capsizedShare : MethodName := ⟨RX6, "capsizedShare", "()F"⟩
abbrev cX6_isConsistent : ByteArray := prog_1_method_61_code
def yX6_isConsistent : MethodName := ⟨RX6, "isConsistent", "()Z"⟩
abbrev cX6_renderStack : ByteArray := prog_1_method_62_code
def yX6_renderStack : MethodName := ⟨RX6, "renderStack", "(I)I"⟩
abbrev cX6_renderPillow : ByteArray := prog_1_method_63_code
def yX6_renderPillow : MethodName := ⟨RX6, "renderPillow", "(I)V"⟩
abbrev cX6_separate : ByteArray := prog_1_method_64_code
def yX6_separate : MethodName := ⟨RX6, "separate", "()V"⟩
abbrev cX6_renderBarge : ByteArray := prog_1_method_65_code
def yX6_renderBarge : MethodName := ⟨RX6, "renderBarge", "()I"⟩
abbrev cX6_outputAt : ByteArray := prog_1_method_66_code
def yX6_outputAt : MethodName := ⟨RX6, "outputAt", "(I)C"⟩
abbrev cX6_type : ByteArray := prog_1_method_67_code
def yX6_type : MethodName := ⟨RX6, "type", "(C)I"⟩
abbrev cX6_runScript : ByteArray := prog_1_method_68_code
def yX6_runScript : MethodName := ⟨RX6, "runScript", "()I"⟩
abbrev cX6_performCommands : ByteArray := prog_1_method_69_code
def yX6_performCommands : MethodName := ⟨RX6, "performCommands", "()I"⟩
abbrev cX6_errorPosition : ByteArray := prog_1_method_70_code
def yX6_errorPosition : MethodName := ⟨RX6, "errorPosition", "()I"⟩
abbrev cX6_failedCommand : ByteArray := prog_1_method_71_code
def yX6_failedCommand : MethodName := ⟨RX6, "failedCommand", "()I"⟩
abbrev cX6_undo : ByteArray := prog_1_method_72_code
def yX6_undo : MethodName := ⟨RX6, "undo", "()I"⟩
abbrev cX6_save : ByteArray := prog_1_method_73_code
def yX6_save : MethodName := ⟨RX6, "save", "()I"⟩
abbrev cX6_restore : ByteArray := prog_1_method_74_code
def yX6_restore : MethodName := ⟨RX6, "restore", "()I"⟩
abbrev cX6_isBay : ByteArray := prog_1_method_75_code
def yX6_isBay : MethodName := ⟨RX6, "isBay", "(I)Z"⟩
abbrev cX6_isSlot : ByteArray := prog_1_method_76_code
def yX6_isSlot : MethodName := ⟨RX6, "isSlot", "(I)Z"⟩
abbrev cX6_isPort : ByteArray := prog_1_method_77_code
def yX6_isPort : MethodName := ⟨RX6, "isPort", "(I)Z"⟩
abbrev cX6_isWeight : ByteArray := prog_1_method_78_code
def yX6_isWeight : MethodName := ⟨RX6, "isWeight", "(I)Z"⟩
abbrev cX6_leverArm : ByteArray := prog_1_method_79_code
def yX6_leverArm : MethodName := ⟨RX6, "leverArm", "(I)I"⟩
abbrev cX6_requireBay : ByteArray := prog_1_method_80_code
def yX6_requireBay : MethodName := ⟨RX6, "requireBay", "(I)V"⟩
abbrev cX6_requirePort : ByteArray := prog_1_method_81_code
def yX6_requirePort : MethodName := ⟨RX6, "requirePort", "(I)V"⟩
abbrev cX6_requireSlot : ByteArray := prog_1_method_82_code
def yX6_requireSlot : MethodName := ⟨RX6, "requireSlot", "(I)V"⟩
abbrev cX6_requirePillow : ByteArray := prog_1_method_83_code
def yX6_requirePillow : MethodName := ⟨RX6, "requirePillow", "(I)I"⟩
def RX7 : String := "PillowBargeModel"
def TX7 : u_T := fun k => match k with
  | 0 => ("PillowBargeModel", "thrown", "I", false)
  | 1 => ("PillowBargeModel", "w", "[I", true)
  | 2 => ("PillowBargeModel", "undos", "[I", true)
  | 3 => ("PillowBargeModel", "savedRow", "[I", true)
  | 4 => ("PillowBargeModel", "before", "[I", true)
  | 5 => ("PillowBargeModel", "changes", "I", false)
  | 6 => ("PillowBargeModel", "firstChange", "I", false)
  | 7 => ("PillowBargeModel", "isSaved", "Z", false)
  | 8 => ("PillowBargeModel", "line", "[C", true)
  | 9 => ("PillowBargeModel", "lineLength", "I", false)
  | 10 => ("PillowBargeModel", "text", "[C", true)
  | 11 => ("PillowBargeModel", "textLength", "I", false)
  | 12 => ("PillowBargeModel", "textAt", "I", false)
  | 13 => ("PillowBargeModel", "errorAt", "I", false)
  | 14 => ("PillowBargeModel", "failedAt", "I", false)
  | 15 => ("PillowBargeModel", "numbers", "[I", true)
  | 16 => ("PillowBargeModel", "sort", "I", false)
  | _ => ("PillowBargeModel", "done", "I", false)
def tyX7 : Nat → FieldType := fun k => match k with
  | 0 => .int
  | 1 => .array .int
  | 2 => .array .int
  | 3 => .array .int
  | 4 => .array .int
  | 5 => .int
  | 6 => .int
  | 7 => .boolean
  | 8 => .array .char
  | 9 => .int
  | 10 => .array .char
  | 11 => .int
  | 12 => .int
  | 13 => .int
  | 14 => .int
  | 15 => .array .int
  | 16 => .int
  | _ => .int
theorem nmX7 : ∀ a, a < 18 → ∀ b, b < 18 → a ≠ b → (TX7 a).2.1 ≠ (TX7 b).2.1 := by decide +kernel
theorem tyX7_ok : ∀ k, k < 18 → parseFieldDescriptor (TX7 k).2.2.1 = some (tyX7 k) := by decide +kernel
abbrev cX7_thrown : ByteArray := prog_9_method_1_code
def yX7_thrown : MethodName := ⟨RX7, "thrown", "()I"⟩
abbrev cX7_fails : ByteArray := prog_9_method_2_code
def yX7_fails : MethodName := ⟨RX7, "fails", "(I)I"⟩
abbrev cX7_isBetween : ByteArray := prog_9_method_3_code
def yX7_isBetween : MethodName := ⟨RX7, "isBetween", "(III)Z"⟩
abbrev cX7_init : ByteArray := prog_9_method_4_code
def yX7_init : MethodName := ⟨RX7, "<init>", "()V"⟩
abbrev cX7_copies : ByteArray := prog_9_method_5_code
def yX7_copies : MethodName := ⟨RX7, "copies", "()V"⟩
abbrev cX7_goesBack : ByteArray := prog_9_method_6_code
def yX7_goesBack : MethodName := ⟨RX7, "goesBack", "()V"⟩
abbrev cX7_keeps : ByteArray := prog_9_method_7_code
def yX7_keeps : MethodName := ⟨RX7, "keeps", "()V"⟩
abbrev cX7_remembers : ByteArray := prog_9_method_8_code
def yX7_remembers : MethodName := ⟨RX7, "remembers", "()V"⟩
abbrev cX7_isBay : ByteArray := prog_9_method_9_code
def yX7_isBay : MethodName := ⟨RX7, "isBay", "(I)Z"⟩
abbrev cX7_at : ByteArray := prog_9_method_10_code
def yX7_at : MethodName := ⟨RX7, "at", "(III)I"⟩
abbrev cX7_puts : ByteArray := prog_9_method_11_code
def yX7_puts : MethodName := ⟨RX7, "puts", "(IIII)V"⟩
abbrev cX7_top : ByteArray := prog_9_method_12_code
def yX7_top : MethodName := ⟨RX7, "top", "(II)I"⟩
abbrev cX7_weightOfBay : ByteArray := prog_9_method_13_code
def yX7_weightOfBay : MethodName := ⟨RX7, "weightOfBay", "(I)I"⟩
abbrev cX7_momentNow : ByteArray := prog_9_method_14_code
def yX7_momentNow : MethodName := ⟨RX7, "momentNow", "()I"⟩
abbrev cX7_weightAll : ByteArray := prog_9_method_15_code
def yX7_weightAll : MethodName := ⟨RX7, "weightAll", "()I"⟩
abbrev cX7_countAll : ByteArray := prog_9_method_16_code
def yX7_countAll : MethodName := ⟨RX7, "countAll", "()I"⟩
abbrev cX7_isBeyond : ByteArray := prog_9_method_17_code
def yX7_isBeyond : MethodName := ⟨RX7, "isBeyond", "(I)Z"⟩
abbrev cX7_lever : ByteArray := prog_9_method_18_code
def yX7_lever : MethodName := ⟨RX7, "lever", "(II)I"⟩
abbrev cX7_lays : ByteArray := prog_9_method_19_code
def yX7_lays : MethodName := ⟨RX7, "lays", "(IIIII)V"⟩
abbrev cX7_takes : ByteArray := prog_9_method_20_code
def yX7_takes : MethodName := ⟨RX7, "takes", "(I)V"⟩
abbrev cX7_notLoad : ByteArray := prog_9_method_21_code
def yX7_notLoad : MethodName := ⟨RX7, "notLoad", "(III)I"⟩
abbrev cX7_loads : ByteArray := prog_9_method_22_code
def yX7_loads : MethodName := ⟨RX7, "loads", "(III)I"⟩
abbrev cX7_load : ByteArray := prog_9_method_23_code
def yX7_load : MethodName := ⟨RX7, "load", "(III)I"⟩
abbrev cX7_notUnload : ByteArray := prog_9_method_24_code
def yX7_notUnload : MethodName := ⟨RX7, "notUnload", "(I)I"⟩
abbrev cX7_unloads : ByteArray := prog_9_method_25_code
def yX7_unloads : MethodName := ⟨RX7, "unloads", "(I)I"⟩
abbrev cX7_unload : ByteArray := prog_9_method_26_code
def yX7_unload : MethodName := ⟨RX7, "unload", "(I)I"⟩
abbrev cX7_notShift : ByteArray := prog_9_method_27_code
def yX7_notShift : MethodName := ⟨RX7, "notShift", "(II)I"⟩
abbrev cX7_shifts : ByteArray := prog_9_method_28_code
def yX7_shifts : MethodName := ⟨RX7, "shifts", "(II)I"⟩
abbrev cX7_shift : ByteArray := prog_9_method_29_code
def yX7_shift : MethodName := ⟨RX7, "shift", "(II)I"⟩
abbrev cX7_portBehind : ByteArray := prog_9_method_30_code
def yX7_portBehind : MethodName := ⟨RX7, "portBehind", "(I)I"⟩
abbrev cX7_notSail : ByteArray := prog_9_method_31_code
def yX7_notSail : MethodName := ⟨RX7, "notSail", "(I)I"⟩
abbrev cX7_sails : ByteArray := prog_9_method_32_code
def yX7_sails : MethodName := ⟨RX7, "sails", "(I)I"⟩
abbrev cX7_sail : ByteArray := prog_9_method_33_code
def yX7_sail : MethodName := ⟨RX7, "sail", "(I)I"⟩
abbrev cX7_turns : ByteArray := prog_9_method_34_code
def yX7_turns : MethodName := ⟨RX7, "turns", "()I"⟩
abbrev cX7_turn : ByteArray := prog_9_method_35_code
def yX7_turn : MethodName := ⟨RX7, "turn", "()Z"⟩
abbrev cX7_notLimit : ByteArray := prog_9_method_36_code
def yX7_notLimit : MethodName := ⟨RX7, "notLimit", "(I)I"⟩
abbrev cX7_setsLimit : ByteArray := prog_9_method_37_code
def yX7_setsLimit : MethodName := ⟨RX7, "setsLimit", "(I)I"⟩
abbrev cX7_setLimit : ByteArray := prog_9_method_38_code
def yX7_setLimit : MethodName := ⟨RX7, "setLimit", "(I)I"⟩
abbrev cX7_notDrill : ByteArray := prog_9_method_39_code
def yX7_notDrill : MethodName := ⟨RX7, "notDrill", "(I)I"⟩
abbrev cX7_drills : ByteArray := prog_9_method_40_code
def yX7_drills : MethodName := ⟨RX7, "drills", "(I)I"⟩
abbrev cX7_drill : ByteArray := prog_9_method_41_code
def yX7_drill : MethodName := ⟨RX7, "drill", "(I)Z"⟩
abbrev cX7_pillowCount : ByteArray := prog_9_method_42_code
def yX7_pillowCount : MethodName := ⟨RX7, "pillowCount", "()I"⟩
abbrev cX7_stackHeight : ByteArray := prog_9_method_43_code
def yX7_stackHeight : MethodName := ⟨RX7, "stackHeight", "(I)I"⟩
abbrev cX7_pillowAt : ByteArray := prog_9_method_44_code
def yX7_pillowAt : MethodName := ⟨RX7, "pillowAt", "(II)I"⟩
abbrev cX7_placeOf : ByteArray := prog_9_method_45_code
def yX7_placeOf : MethodName := ⟨RX7, "placeOf", "(I)I"⟩
abbrev cX7_asks : ByteArray := prog_9_method_46_code
def yX7_asks : MethodName := ⟨RX7, "asks", "(II)I"⟩
abbrev cX7_weightOf : ByteArray := prog_9_method_47_code
def yX7_weightOf : MethodName := ⟨RX7, "weightOf", "(I)I"⟩
abbrev cX7_destinationOf : ByteArray := prog_9_method_48_code
def yX7_destinationOf : MethodName := ⟨RX7, "destinationOf", "(I)I"⟩
abbrev cX7_bayOf : ByteArray := prog_9_method_49_code
def yX7_bayOf : MethodName := ⟨RX7, "bayOf", "(I)I"⟩
abbrev cX7_positionOf : ByteArray := prog_9_method_50_code
def yX7_positionOf : MethodName := ⟨RX7, "positionOf", "(I)I"⟩
abbrev cX7_ageOf : ByteArray := prog_9_method_51_code
def yX7_ageOf : MethodName := ⟨RX7, "ageOf", "(I)I"⟩
abbrev cX7_moment : ByteArray := prog_9_method_52_code
def yX7_moment : MethodName := ⟨RX7, "moment", "()I"⟩
abbrev cX7_momentByBays : ByteArray := prog_9_method_53_code
def yX7_momentByBays : MethodName := ⟨RX7, "momentByBays", "()I"⟩
abbrev cX7_totalWeight : ByteArray := prog_9_method_54_code
def yX7_totalWeight : MethodName := ⟨RX7, "totalWeight", "()I"⟩
abbrev cX7_weightFor : ByteArray := prog_9_method_55_code
def yX7_weightFor : MethodName := ⟨RX7, "weightFor", "(I)I"⟩
abbrev cX7_limit : ByteArray := prog_9_method_56_code
def yX7_limit : MethodName := ⟨RX7, "limit", "()I"⟩
abbrev cX7_listAngle : ByteArray := prog_9_method_57_code
def yX7_listAngle : MethodName := ⟨RX7, "listAngle", "()F"⟩
abbrev cX7_greatestPush : ByteArray := prog_9_method_58_code
def yX7_greatestPush : MethodName := ⟨RX7, "greatestPush", "()I"⟩
abbrev cX7_magnitude : ByteArray := prog_9_method_59_code
def yX7_magnitude : MethodName := ⟨RX7, "magnitude", "(I)I"⟩
abbrev cX7_isBetter : ByteArray := prog_9_method_60_code
def yX7_isBetter : MethodName := ⟨RX7, "isBetter", "(III)Z"⟩
abbrev cX7_levelingBay : ByteArray := prog_9_method_61_code
def yX7_levelingBay : MethodName := ⟨RX7, "levelingBay", "(I)I"⟩
abbrev cX7_port : ByteArray := prog_9_method_62_code
def yX7_port : MethodName := ⟨RX7, "port", "()I"⟩
abbrev cX7_day : ByteArray := prog_9_method_63_code
def yX7_day : MethodName := ⟨RX7, "day", "()I"⟩
abbrev cX7_isAscending : ByteArray := prog_9_method_64_code
def yX7_isAscending : MethodName := ⟨RX7, "isAscending", "()Z"⟩
abbrev cX7_legs : ByteArray := prog_9_method_65_code
def yX7_legs : MethodName := ⟨RX7, "legs", "(I)I"⟩
abbrev cX7_legsTo : ByteArray := prog_9_method_66_code
def yX7_legsTo : MethodName := ⟨RX7, "legsTo", "(I)I"⟩
abbrev cX7_portAfter : ByteArray := prog_9_method_67_code
def yX7_portAfter : MethodName := ⟨RX7, "portAfter", "(I)I"⟩
abbrev cX7_inTheWay : ByteArray := prog_9_method_68_code
def yX7_inTheWay : MethodName := ⟨RX7, "inTheWay", "(II)I"⟩
abbrev cX7_pillowsInTheWay : ByteArray := prog_9_method_69_code
def yX7_pillowsInTheWay : MethodName := ⟨RX7, "pillowsInTheWay", "(I)I"⟩
abbrev cX7_pairsInTheWay : ByteArray := prog_9_method_70_code
def yX7_pairsInTheWay : MethodName := ⟨RX7, "pairsInTheWay", "()I"⟩
abbrev cX7_pairsInTheWayByStacks : ByteArray := prog_9_method_71_code
def yX7_pairsInTheWayByStacks : MethodName := ⟨RX7, "pairsInTheWayByStacks", "()I"⟩
abbrev cX7_isAhead : ByteArray := prog_9_method_72_code
def yX7_isAhead : MethodName := ⟨RX7, "isAhead", "(II)Z"⟩
abbrev cX7_isTaken : ByteArray := prog_9_method_73_code
def yX7_isTaken : MethodName := ⟨RX7, "isTaken", "(I)Z"⟩
abbrev cX7_unloadableCount : ByteArray := prog_9_method_74_code
def yX7_unloadableCount : MethodName := ⟨RX7, "unloadableCount", "()I"⟩
abbrev cX7_oldestIn : ByteArray := prog_9_method_75_code
def yX7_oldestIn : MethodName := ⟨RX7, "oldestIn", "(I)I"⟩
abbrev cX7_heaviestPort : ByteArray := prog_9_method_76_code
def yX7_heaviestPort : MethodName := ⟨RX7, "heaviestPort", "()I"⟩
abbrev cX7_possibleShifts : ByteArray := prog_9_method_77_code
def yX7_possibleShifts : MethodName := ⟨RX7, "possibleShifts", "()I"⟩
abbrev cX7_pillowByTurn : ByteArray := prog_9_method_78_code
def yX7_pillowByTurn : MethodName := ⟨RX7, "pillowByTurn", "(I)I"⟩
abbrev cX7_bayByWeight : ByteArray := prog_9_method_79_code
def yX7_bayByWeight : MethodName := ⟨RX7, "bayByWeight", "(I)I"⟩
abbrev cX7_loadedTotal : ByteArray := prog_9_method_80_code
def yX7_loadedTotal : MethodName := ⟨RX7, "loadedTotal", "()I"⟩
abbrev cX7_deliveredTotal : ByteArray := prog_9_method_81_code
def yX7_deliveredTotal : MethodName := ⟨RX7, "deliveredTotal", "()I"⟩
abbrev cX7_deliveredWeight : ByteArray := prog_9_method_82_code
def yX7_deliveredWeight : MethodName := ⟨RX7, "deliveredWeight", "()I"⟩
abbrev cX7_drillTotal : ByteArray := prog_9_method_83_code
def yX7_drillTotal : MethodName := ⟨RX7, "drillTotal", "()I"⟩
abbrev cX7_capsizedTotal : ByteArray := prog_9_method_84_code
def yX7_capsizedTotal : MethodName := ⟨RX7, "capsizedTotal", "()I"⟩
abbrev cX7_meanAge : ByteArray := prog_9_method_85_code
def yX7_meanAge : MethodName := ⟨RX7, "meanAge", "()D"⟩
abbrev cX7_capsizedShare : ByteArray := prog_9_method_86_code
def yX7_capsizedShare : MethodName := ⟨RX7, "capsizedShare", "()F"⟩
abbrev cX7_isConsistent : ByteArray := prog_9_method_87_code
def yX7_isConsistent : MethodName := ⟨RX7, "isConsistent", "()Z"⟩
abbrev cX7_writes : ByteArray := prog_9_method_88_code
def yX7_writes : MethodName := ⟨RX7, "writes", "(I)V"⟩
abbrev cX7_writesNumber : ByteArray := prog_9_method_89_code
def yX7_writesNumber : MethodName := ⟨RX7, "writesNumber", "(I)V"⟩
abbrev cX7_renderStack : ByteArray := prog_9_method_90_code
def yX7_renderStack : MethodName := ⟨RX7, "renderStack", "(I)I"⟩
abbrev cX7_renderBarge : ByteArray := prog_9_method_91_code
def yX7_renderBarge : MethodName := ⟨RX7, "renderBarge", "()I"⟩
abbrev cX7_outputAt : ByteArray := prog_9_method_92_code
def yX7_outputAt : MethodName := ⟨RX7, "outputAt", "(I)C"⟩
abbrev cX7_type : ByteArray := prog_9_method_93_code
def yX7_type : MethodName := ⟨RX7, "type", "(C)I"⟩
abbrev cX7_nextChar : ByteArray := prog_9_method_94_code
def yX7_nextChar : MethodName := ⟨RX7, "nextChar", "()I"⟩
abbrev cX7_reads : ByteArray := prog_9_method_95_code
def yX7_reads : MethodName := ⟨RX7, "reads", "(I)Z"⟩
abbrev cX7_readsDigit : ByteArray := prog_9_method_96_code
def yX7_readsDigit : MethodName := ⟨RX7, "readsDigit", "(I)Z"⟩
abbrev cX7_readsNumber : ByteArray := prog_9_method_97_code
def yX7_readsNumber : MethodName := ⟨RX7, "readsNumber", "(I)Z"⟩
abbrev cX7_readsL : ByteArray := prog_9_method_98_code
def yX7_readsL : MethodName := ⟨RX7, "readsL", "()Z"⟩
abbrev cX7_readsS : ByteArray := prog_9_method_99_code
def yX7_readsS : MethodName := ⟨RX7, "readsS", "()Z"⟩
abbrev cX7_readsDrill : ByteArray := prog_9_method_100_code
def yX7_readsDrill : MethodName := ⟨RX7, "readsDrill", "()Z"⟩
abbrev cX7_readsCommand : ByteArray := prog_9_method_101_code
def yX7_readsCommand : MethodName := ⟨RX7, "readsCommand", "()Z"⟩
abbrev cX7_readsAll : ByteArray := prog_9_method_102_code
def yX7_readsAll : MethodName := ⟨RX7, "readsAll", "()Z"⟩
abbrev cX7_notNow : ByteArray := prog_9_method_103_code
def yX7_notNow : MethodName := ⟨RX7, "notNow", "()I"⟩
abbrev cX7_doesNow : ByteArray := prog_9_method_104_code
def yX7_doesNow : MethodName := ⟨RX7, "doesNow", "()I"⟩
abbrev cX7_doesAll : ByteArray := prog_9_method_105_code
def yX7_doesAll : MethodName := ⟨RX7, "doesAll", "()Z"⟩
abbrev cX7_runScript : ByteArray := prog_9_method_106_code
def yX7_runScript : MethodName := ⟨RX7, "runScript", "()I"⟩
abbrev cX7_errorPosition : ByteArray := prog_9_method_107_code
def yX7_errorPosition : MethodName := ⟨RX7, "errorPosition", "()I"⟩
abbrev cX7_failedCommand : ByteArray := prog_9_method_108_code
def yX7_failedCommand : MethodName := ⟨RX7, "failedCommand", "()I"⟩
abbrev cX7_undo : ByteArray := prog_9_method_109_code
def yX7_undo : MethodName := ⟨RX7, "undo", "()I"⟩
abbrev cX7_save : ByteArray := prog_9_method_110_code
def yX7_save : MethodName := ⟨RX7, "save", "()I"⟩
abbrev cX7_restore : ByteArray := prog_9_method_111_code
def yX7_restore : MethodName := ⟨RX7, "restore", "()I"⟩
def RJx145de : String := "java/io/Serializable"
def TJx145de : u_T := fun k => match k with
  | _ => ("", "", "", false)
def tyJx145de : Nat → FieldType := fun k => match k with
  | _ => .int
theorem nmJx145de : ∀ a, a < 0 → ∀ b, b < 0 → a ≠ b → (TJx145de a).2.1 ≠ (TJx145de b).2.1 := by decide +kernel
theorem tyJx145de_ok : ∀ k, k < 0 → parseFieldDescriptor (TJx145de k).2.2.1 = some (tyJx145de k) := by decide +kernel
def RJ5 : String := "java/lang/AbstractStringBuilder"
def TJ5 : u_T := fun k => match k with
  | _ => ("", "", "", false)
def tyJ5 : Nat → FieldType := fun k => match k with
  | _ => .int
theorem nmJ5 : ∀ a, a < 0 → ∀ b, b < 0 → a ≠ b → (TJ5 a).2.1 ≠ (TJ5 b).2.1 := by decide +kernel
theorem tyJ5_ok : ∀ k, k < 0 → parseFieldDescriptor (TJ5 k).2.2.1 = some (tyJ5 k) := by decide +kernel
abbrev cJ5_init_d00df : ByteArray := prog_11_method_2_code
def yJ5_init_d00df : MethodName := ⟨RJ5, "<init>", "(I)V"⟩
abbrev cJ5_length_8abf5 : ByteArray := prog_11_method_6_code
def yJ5_length_8abf5 : MethodName := ⟨RJ5, "length", "()I"⟩
abbrev cJ5_ensureCapacityInternal_d00df : ByteArray := prog_11_method_9_code
def yJ5_ensureCapacityInternal_d00df : MethodName := ⟨RJ5, "ensureCapacityInternal", "(I)V"⟩
abbrev cJ5_newCapacity_0f7a4 : ByteArray := prog_11_method_10_code
def yJ5_newCapacity_0f7a4 : MethodName := ⟨RJ5, "newCapacity", "(I)I"⟩
abbrev cJ5_inflate_da8c8 : ByteArray := prog_11_method_11_code
def yJ5_inflate_da8c8 : MethodName := ⟨RJ5, "inflate", "()V"⟩
abbrev cJ5_setLength_d00df : ByteArray := prog_11_method_13_code
def yJ5_setLength_d00df : MethodName := ⟨RJ5, "setLength", "(I)V"⟩
abbrev cJ5_charAt_5068e : ByteArray := prog_11_method_14_code
def yJ5_charAt_5068e : MethodName := ⟨RJ5, "charAt", "(I)C"⟩
abbrev cJ5_append_cf1ce : ByteArray := prog_11_method_22_code
def yJ5_append_cf1ce : MethodName := ⟨RJ5, "append", "(Ljava/lang/String;)Ljava/lang/AbstractStringBuilder;"⟩
abbrev cJ5_appendNull_278bc : ByteArray := prog_11_method_26_code
def yJ5_appendNull_278bc : MethodName := ⟨RJ5, "appendNull", "()Ljava/lang/AbstractStringBuilder;"⟩
abbrev cJ5_append_3fe6f : ByteArray := prog_11_method_31_code
def yJ5_append_3fe6f : MethodName := ⟨RJ5, "append", "(C)Ljava/lang/AbstractStringBuilder;"⟩
abbrev cJ5_append_c97b9 : ByteArray := prog_11_method_32_code
def yJ5_append_c97b9 : MethodName := ⟨RJ5, "append", "(I)Ljava/lang/AbstractStringBuilder;"⟩
abbrev cJ5_getValue_6d5f1 : ByteArray := prog_11_method_64_code
def yJ5_getValue_6d5f1 : MethodName := ⟨RJ5, "getValue", "()[B"⟩
abbrev cJ5_isLatin1_aae02 : ByteArray := prog_11_method_68_code
def yJ5_isLatin1_aae02 : MethodName := ⟨RJ5, "isLatin1", "()Z"⟩
abbrev cJ5_inflateIfNeededFor_a7421 : ByteArray := prog_11_method_71_code
def yJ5_inflateIfNeededFor_a7421 : MethodName := ⟨RJ5, "inflateIfNeededFor", "(Ljava/lang/String;)V"⟩
abbrev cJ5_putStringAt_47b60 : ByteArray := prog_11_method_73_code
def yJ5_putStringAt_47b60 : MethodName := ⟨RJ5, "putStringAt", "(ILjava/lang/String;)V"⟩
def RJx2cfe8 : String := "java/lang/Appendable"
def TJx2cfe8 : u_T := fun k => match k with
  | _ => ("", "", "", false)
def tyJx2cfe8 : Nat → FieldType := fun k => match k with
  | _ => .int
theorem nmJx2cfe8 : ∀ a, a < 0 → ∀ b, b < 0 → a ≠ b → (TJx2cfe8 a).2.1 ≠ (TJx2cfe8 b).2.1 := by decide +kernel
theorem tyJx2cfe8_ok : ∀ k, k < 0 → parseFieldDescriptor (TJx2cfe8 k).2.2.1 = some (tyJx2cfe8 k) := by decide +kernel
def RJx00060 : String := "java/lang/ArrayIndexOutOfBoundsException"
def TJx00060 : u_T := fun k => match k with
  | 0 => ("java/lang/Throwable", "cause", "Ljava/lang/Throwable;", false)
  | 1 => ("java/lang/Throwable", "stackTrace", "[Ljava/lang/StackTraceElement;", false)
  | 2 => ("java/lang/Throwable", "suppressedExceptions", "Ljava/util/List;", false)
  | 3 => ("java/lang/Throwable", "detailMessage", "Ljava/lang/String;", false)
  | 4 => ("java/lang/Throwable", "backtrace", "Ljava/lang/Object;", false)
  | _ => ("java/lang/Throwable", "depth", "I", false)
def tyJx00060 : Nat → FieldType := fun k => match k with
  | 0 => .object "java/lang/Throwable"
  | 1 => .array (.object "java/lang/StackTraceElement")
  | 2 => .object "java/util/List"
  | 3 => .object "java/lang/String"
  | 4 => .object "java/lang/Object"
  | _ => .int
theorem nmJx00060 : ∀ a, a < 6 → ∀ b, b < 6 → a ≠ b → (TJx00060 a).2.1 ≠ (TJx00060 b).2.1 := by decide +kernel
theorem tyJx00060_ok : ∀ k, k < 6 → parseFieldDescriptor (TJx00060 k).2.2.1 = some (tyJx00060 k) := by decide +kernel
abbrev cJx00060_init_a7421 : ByteArray := prog_14_method_2_code
def yJx00060_init_a7421 : MethodName := ⟨RJx00060, "<init>", "(Ljava/lang/String;)V"⟩
abbrev cJx00060_init_d00df : ByteArray := prog_14_method_3_code
def yJx00060_init_d00df : MethodName := ⟨RJx00060, "<init>", "(I)V"⟩
def RJx9f9b0 : String := "java/lang/CharSequence"
def TJx9f9b0 : u_T := fun k => match k with
  | _ => ("", "", "", false)
def tyJx9f9b0 : Nat → FieldType := fun k => match k with
  | _ => .int
theorem nmJx9f9b0 : ∀ a, a < 0 → ∀ b, b < 0 → a ≠ b → (TJx9f9b0 a).2.1 ≠ (TJx9f9b0 b).2.1 := by decide +kernel
theorem tyJx9f9b0_ok : ∀ k, k < 0 → parseFieldDescriptor (TJx9f9b0 k).2.2.1 = some (tyJx9f9b0 k) := by decide +kernel
def RJx8e188 : String := "java/lang/Cloneable"
def TJx8e188 : u_T := fun k => match k with
  | _ => ("", "", "", false)
def tyJx8e188 : Nat → FieldType := fun k => match k with
  | _ => .int
theorem nmJx8e188 : ∀ a, a < 0 → ∀ b, b < 0 → a ≠ b → (TJx8e188 a).2.1 ≠ (TJx8e188 b).2.1 := by decide +kernel
theorem tyJx8e188_ok : ∀ k, k < 0 → parseFieldDescriptor (TJx8e188 k).2.2.1 = some (tyJx8e188 k) := by decide +kernel
def RJxb160c : String := "java/lang/Comparable"
def TJxb160c : u_T := fun k => match k with
  | _ => ("", "", "", false)
def tyJxb160c : Nat → FieldType := fun k => match k with
  | _ => .int
theorem nmJxb160c : ∀ a, a < 0 → ∀ b, b < 0 → a ≠ b → (TJxb160c a).2.1 ≠ (TJxb160c b).2.1 := by decide +kernel
theorem tyJxb160c_ok : ∀ k, k < 0 → parseFieldDescriptor (TJxb160c k).2.2.1 = some (tyJxb160c k) := by decide +kernel
def RJ6 : String := "java/lang/Integer"
def TJ6 : u_T := fun k => match k with
  | _ => ("", "", "", false)
def tyJ6 : Nat → FieldType := fun k => match k with
  | _ => .int
theorem nmJ6 : ∀ a, a < 0 → ∀ b, b < 0 → a ≠ b → (TJ6 a).2.1 ≠ (TJ6 b).2.1 := by decide +kernel
theorem tyJ6_ok : ∀ k, k < 0 → parseFieldDescriptor (TJ6 k).2.2.1 = some (tyJ6 k) := by decide +kernel
abbrev cJ6_getChars_ba4f3 : ByteArray := prog_22_method_12_code
def yJ6_getChars_ba4f3 : MethodName := ⟨RJ6, "getChars", "(II[B)I"⟩
abbrev cJ6_stringSize_0f7a4 : ByteArray := prog_22_method_13_code
def yJ6_stringSize_0f7a4 : MethodName := ⟨RJ6, "stringSize", "(I)I"⟩
def RJ9 : String := "java/lang/Math"
def TJ9 : u_T := fun k => match k with
  | _ => ("", "", "", false)
def tyJ9 : Nat → FieldType := fun k => match k with
  | _ => .int
theorem nmJ9 : ∀ a, a < 0 → ∀ b, b < 0 → a ≠ b → (TJ9 a).2.1 ≠ (TJ9 b).2.1 := by decide +kernel
theorem tyJ9_ok : ∀ k, k < 0 → parseFieldDescriptor (TJ9 k).2.2.1 = some (tyJ9 k) := by decide +kernel
abbrev cJ9_floorMod_7cf53 : ByteArray := prog_23_method_50_code
def yJ9_floorMod_7cf53 : MethodName := ⟨RJ9, "floorMod", "(II)I"⟩
abbrev cJ9_abs_0f7a4 : ByteArray := prog_23_method_59_code
def yJ9_abs_0f7a4 : MethodName := ⟨RJ9, "abs", "(I)I"⟩
abbrev cJ9_max_7cf53 : ByteArray := prog_23_method_65_code
def yJ9_max_7cf53 : MethodName := ⟨RJ9, "max", "(II)I"⟩
abbrev cJ9_min_7cf53 : ByteArray := prog_23_method_69_code
def yJ9_min_7cf53 : MethodName := ⟨RJ9, "min", "(II)I"⟩
def RJxd2413 : String := "java/lang/Number"
def TJxd2413 : u_T := fun k => match k with
  | _ => ("", "", "", false)
def tyJxd2413 : Nat → FieldType := fun k => match k with
  | _ => .int
theorem nmJxd2413 : ∀ a, a < 0 → ∀ b, b < 0 → a ≠ b → (TJxd2413 a).2.1 ≠ (TJxd2413 b).2.1 := by decide +kernel
theorem tyJxd2413_ok : ∀ k, k < 0 → parseFieldDescriptor (TJxd2413 k).2.2.1 = some (tyJxd2413 k) := by decide +kernel
def RJ0 : String := "java/lang/String"
def TJ0 : u_T := fun k => match k with
  | 0 => ("java/lang/String", "value", "[B", true)
  | 1 => ("java/lang/String", "coder", "B", true)
  | 2 => ("java/lang/String", "hash", "I", false)
  | _ => ("java/lang/String", "hashIsZero", "Z", false)
def tyJ0 : Nat → FieldType := fun k => match k with
  | 0 => .array .byte
  | 1 => .byte
  | 2 => .int
  | _ => .boolean
theorem nmJ0 : ∀ a, a < 4 → ∀ b, b < 4 → a ≠ b → (TJ0 a).2.1 ≠ (TJ0 b).2.1 := by decide +kernel
theorem tyJ0_ok : ∀ k, k < 4 → parseFieldDescriptor (TJ0 k).2.2.1 = some (tyJ0 k) := by decide +kernel
abbrev cJ0_init_81219 : ByteArray := prog_26_method_53_code
def yJ0_init_81219 : MethodName := ⟨RJ0, "<init>", "(Ljava/lang/StringBuilder;)V"⟩
abbrev cJ0_length_8abf5 : ByteArray := prog_26_method_54_code
def yJ0_length_8abf5 : MethodName := ⟨RJ0, "length", "()I"⟩
abbrev cJ0_charAt_5068e : ByteArray := prog_26_method_56_code
def yJ0_charAt_5068e : MethodName := ⟨RJ0, "charAt", "(I)C"⟩
abbrev cJ0_getBytes_840e7 : ByteArray := prog_26_method_147_code
def yJ0_getBytes_840e7 : MethodName := ⟨RJ0, "getBytes", "([BIB)V"⟩
abbrev cJ0_init_db425 : ByteArray := prog_26_method_150_code
def yJ0_init_db425 : MethodName := ⟨RJ0, "<init>", "(Ljava/lang/AbstractStringBuilder;Ljava/lang/Void;)V"⟩
abbrev cJ0_coder_7d493 : ByteArray := prog_26_method_152_code
def yJ0_coder_7d493 : MethodName := ⟨RJ0, "coder", "()B"⟩
abbrev cJ0_isLatin1_aae02 : ByteArray := prog_26_method_154_code
def yJ0_isLatin1_aae02 : MethodName := ⟨RJ0, "isLatin1", "()Z"⟩
abbrev cJ0_checkIndex_df160 : ByteArray := prog_26_method_155_code
def yJ0_checkIndex_df160 : MethodName := ⟨RJ0, "checkIndex", "(II)V"⟩
abbrev cJ0_checkBoundsOffCount_cabcc : ByteArray := prog_26_method_157_code
def yJ0_checkBoundsOffCount_cabcc : MethodName := ⟨RJ0, "checkBoundsOffCount", "(III)I"⟩
abbrev cJ0_checkBoundsBeginEnd_23922 : ByteArray := prog_26_method_158_code
def yJ0_checkBoundsBeginEnd_23922 : MethodName := ⟨RJ0, "checkBoundsBeginEnd", "(III)V"⟩
def RJ4 : String := "java/lang/StringBuilder"
def TJ4 : u_T := fun k => match k with
  | 0 => ("java/lang/AbstractStringBuilder", "value", "[B", false)
  | 1 => ("java/lang/AbstractStringBuilder", "coder", "B", false)
  | 2 => ("java/lang/AbstractStringBuilder", "maybeLatin1", "Z", false)
  | _ => ("java/lang/AbstractStringBuilder", "count", "I", false)
def tyJ4 : Nat → FieldType := fun k => match k with
  | 0 => .array .byte
  | 1 => .byte
  | 2 => .boolean
  | _ => .int
theorem nmJ4 : ∀ a, a < 4 → ∀ b, b < 4 → a ≠ b → (TJ4 a).2.1 ≠ (TJ4 b).2.1 := by decide +kernel
theorem tyJ4_ok : ∀ k, k < 4 → parseFieldDescriptor (TJ4 k).2.2.1 = some (tyJ4 k) := by decide +kernel
abbrev cJ4_init_da8c8 : ByteArray := prog_27_method_1_code
def yJ4_init_da8c8 : MethodName := ⟨RJ4, "<init>", "()V"⟩
abbrev cJ4_append_15ec4 : ByteArray := prog_27_method_7_code
def yJ4_append_15ec4 : MethodName := ⟨RJ4, "append", "(Ljava/lang/String;)Ljava/lang/StringBuilder;"⟩
abbrev cJ4_append_cf468 : ByteArray := prog_27_method_14_code
def yJ4_append_cf468 : MethodName := ⟨RJ4, "append", "(C)Ljava/lang/StringBuilder;"⟩
abbrev cJ4_append_bf812 : ByteArray := prog_27_method_15_code
def yJ4_append_bf812 : MethodName := ⟨RJ4, "append", "(I)Ljava/lang/StringBuilder;"⟩
abbrev cJ4_toString_0e30d : ByteArray := prog_27_method_42_code
def yJ4_toString_0e30d : MethodName := ⟨RJ4, "toString", "()Ljava/lang/String;"⟩
abbrev cJ4_charAt_5068e : ByteArray := prog_27_method_88_code
def yJ4_charAt_5068e : MethodName := ⟨RJ4, "charAt", "(I)C"⟩
abbrev cJ4_setLength_d00df : ByteArray := prog_27_method_89_code
def yJ4_setLength_d00df : MethodName := ⟨RJ4, "setLength", "(I)V"⟩
abbrev cJ4_length_8abf5 : ByteArray := prog_27_method_93_code
def yJ4_length_8abf5 : MethodName := ⟨RJ4, "length", "()I"⟩
def RJx7c733 : String := "java/lang/StringIndexOutOfBoundsException"
def TJx7c733 : u_T := fun k => match k with
  | 0 => ("java/lang/Throwable", "backtrace", "Ljava/lang/Object;", false)
  | 1 => ("java/lang/Throwable", "detailMessage", "Ljava/lang/String;", false)
  | 2 => ("java/lang/Throwable", "cause", "Ljava/lang/Throwable;", false)
  | 3 => ("java/lang/Throwable", "stackTrace", "[Ljava/lang/StackTraceElement;", false)
  | 4 => ("java/lang/Throwable", "depth", "I", false)
  | _ => ("java/lang/Throwable", "suppressedExceptions", "Ljava/util/List;", false)
def tyJx7c733 : Nat → FieldType := fun k => match k with
  | 0 => .object "java/lang/Object"
  | 1 => .object "java/lang/String"
  | 2 => .object "java/lang/Throwable"
  | 3 => .array (.object "java/lang/StackTraceElement")
  | 4 => .int
  | _ => .object "java/util/List"
theorem nmJx7c733 : ∀ a, a < 6 → ∀ b, b < 6 → a ≠ b → (TJx7c733 a).2.1 ≠ (TJx7c733 b).2.1 := by decide +kernel
theorem tyJx7c733_ok : ∀ k, k < 6 → parseFieldDescriptor (TJx7c733 k).2.2.1 = some (tyJx7c733 k) := by decide +kernel
abbrev cJx7c733_init_d00df : ByteArray := prog_28_method_3_code
def yJx7c733_init_d00df : MethodName := ⟨RJx7c733, "<init>", "(I)V"⟩
def RJ1 : String := "java/lang/StringLatin1"
def TJ1 : u_T := fun k => match k with
  | _ => ("", "", "", false)
def tyJ1 : Nat → FieldType := fun k => match k with
  | _ => .int
theorem nmJ1 : ∀ a, a < 0 → ∀ b, b < 0 → a ≠ b → (TJ1 a).2.1 ≠ (TJ1 b).2.1 := by decide +kernel
theorem tyJ1_ok : ∀ k, k < 0 → parseFieldDescriptor (TJ1 k).2.2.1 = some (tyJ1 k) := by decide +kernel
abbrev cJ1_charAt_3b067 : ByteArray := prog_29_method_2_code
def yJ1_charAt_3b067 : MethodName := ⟨RJ1, "charAt", "([BI)C"⟩
abbrev cJ1_canEncode_fc78d : ByteArray := prog_29_method_3_code
def yJ1_canEncode_fc78d : MethodName := ⟨RJ1, "canEncode", "(C)Z"⟩
abbrev cJ1_fillNull_b72d1 : ByteArray := prog_29_method_48_code
def yJ1_fillNull_b72d1 : MethodName := ⟨RJ1, "fillNull", "([BII)V"⟩
abbrev cJ1_inflate_0e8fd : ByteArray := prog_29_method_50_code
def yJ1_inflate_0e8fd : MethodName := ⟨RJ1, "inflate", "([BI[BII)V"⟩
def RJ2 : String := "java/lang/StringUTF16"
def TJ2 : u_T := fun k => match k with
  | _ => ("", "", "", false)
def tyJ2 : Nat → FieldType := fun k => match k with
  | _ => .int
theorem nmJ2 : ∀ a, a < 0 → ∀ b, b < 0 → a ≠ b → (TJ2 a).2.1 ≠ (TJ2 b).2.1 := by decide +kernel
theorem tyJ2_ok : ∀ k, k < 0 → parseFieldDescriptor (TJ2 k).2.2.1 = some (tyJ2 k) := by decide +kernel
abbrev cJ2_newBytesFor_77867 : ByteArray := prog_30_method_2_code
def yJ2_newBytesFor_77867 : MethodName := ⟨RJ2, "newBytesFor", "(I)[B"⟩
abbrev cJ2_newBytesLength_0f7a4 : ByteArray := prog_30_method_3_code
def yJ2_newBytesLength_0f7a4 : MethodName := ⟨RJ2, "newBytesLength", "(I)I"⟩
abbrev cJ2_putChar_b72d1 : ByteArray := prog_30_method_4_code
def yJ2_putChar_b72d1 : MethodName := ⟨RJ2, "putChar", "([BII)V"⟩
abbrev cJ2_getChar_3b067 : ByteArray := prog_30_method_5_code
def yJ2_getChar_3b067 : MethodName := ⟨RJ2, "getChar", "([BI)C"⟩
abbrev cJ2_length_9d52b : ByteArray := prog_30_method_6_code
def yJ2_length_9d52b : MethodName := ⟨RJ2, "length", "([B)I"⟩
abbrev cJ2_coderFromArrayLen_85cad : ByteArray := prog_30_method_15_code
def yJ2_coderFromArrayLen_85cad : MethodName := ⟨RJ2, "coderFromArrayLen", "([BI)B"⟩
abbrev cJ2_compress_39247 : ByteArray := prog_30_method_17_code
def yJ2_compress_39247 : MethodName := ⟨RJ2, "compress", "([BII)[B"⟩
abbrev cJ2_compress_5af95 : ByteArray := prog_30_method_22_code
def yJ2_compress_5af95 : MethodName := ⟨RJ2, "compress", "([BI[BII)I"⟩
abbrev cJ2_fillNull_b72d1 : ByteArray := prog_30_method_70_code
def yJ2_fillNull_b72d1 : MethodName := ⟨RJ2, "fillNull", "([BII)V"⟩
abbrev cJ2_putCharSB_b72d1 : ByteArray := prog_30_method_71_code
def yJ2_putCharSB_b72d1 : MethodName := ⟨RJ2, "putCharSB", "([BII)V"⟩
abbrev cJ2_getChars_46870 : ByteArray := prog_30_method_77_code
def yJ2_getChars_46870 : MethodName := ⟨RJ2, "getChars", "(III[B)I"⟩
abbrev cJ2_putCharsAt_cd4e5 : ByteArray := prog_30_method_81_code
def yJ2_putCharsAt_cd4e5 : MethodName := ⟨RJ2, "putCharsAt", "([BICCCC)I"⟩
abbrev cJ2_charAt_3b067 : ByteArray := prog_30_method_83_code
def yJ2_charAt_3b067 : MethodName := ⟨RJ2, "charAt", "([BI)C"⟩
abbrev cJ2_inflate_0e8fd : ByteArray := prog_30_method_86_code
def yJ2_inflate_0e8fd : MethodName := ⟨RJ2, "inflate", "([BI[BII)V"⟩
abbrev cJ2_getChars_ba4f3 : ByteArray := prog_30_method_89_code
def yJ2_getChars_ba4f3 : MethodName := ⟨RJ2, "getChars", "(II[B)I"⟩
abbrev cJ2_checkIndex_2214a : ByteArray := prog_30_method_91_code
def yJ2_checkIndex_2214a : MethodName := ⟨RJ2, "checkIndex", "(I[B)V"⟩
abbrev cJ2_checkBoundsBeginEnd_d044e : ByteArray := prog_30_method_93_code
def yJ2_checkBoundsBeginEnd_d044e : MethodName := ⟨RJ2, "checkBoundsBeginEnd", "(II[B)V"⟩
abbrev cJ2_checkBoundsOffCount_d044e : ByteArray := prog_30_method_94_code
def yJ2_checkBoundsOffCount_d044e : MethodName := ⟨RJ2, "checkBoundsOffCount", "(II[B)V"⟩
def RJ10 : String := "java/lang/System"
def TJ10 : u_T := fun k => match k with
  | _ => ("", "", "", false)
def tyJ10 : Nat → FieldType := fun k => match k with
  | _ => .int
theorem nmJ10 : ∀ a, a < 0 → ∀ b, b < 0 → a ≠ b → (TJ10 a).2.1 ≠ (TJ10 b).2.1 := by decide +kernel
theorem tyJ10_ok : ∀ k, k < 0 → parseFieldDescriptor (TJ10 k).2.2.1 = some (tyJ10 k) := by decide +kernel
def RJxfd54e : String := "java/lang/constant/Constable"
def TJxfd54e : u_T := fun k => match k with
  | _ => ("", "", "", false)
def tyJxfd54e : Nat → FieldType := fun k => match k with
  | _ => .int
theorem nmJxfd54e : ∀ a, a < 0 → ∀ b, b < 0 → a ≠ b → (TJxfd54e a).2.1 ≠ (TJxfd54e b).2.1 := by decide +kernel
theorem tyJxfd54e_ok : ∀ k, k < 0 → parseFieldDescriptor (TJxfd54e k).2.2.1 = some (tyJxfd54e k) := by decide +kernel
def RJx3cf43 : String := "java/lang/constant/ConstantDesc"
def TJx3cf43 : u_T := fun k => match k with
  | _ => ("", "", "", false)
def tyJx3cf43 : Nat → FieldType := fun k => match k with
  | _ => .int
theorem nmJx3cf43 : ∀ a, a < 0 → ∀ b, b < 0 → a ≠ b → (TJx3cf43 a).2.1 ≠ (TJx3cf43 b).2.1 := by decide +kernel
theorem tyJx3cf43_ok : ∀ k, k < 0 → parseFieldDescriptor (TJx3cf43 k).2.2.1 = some (tyJx3cf43 k) := by decide +kernel
def RJ7 : String := "java/util/Arrays"
def TJ7 : u_T := fun k => match k with
  | _ => ("", "", "", false)
def tyJ7 : Nat → FieldType := fun k => match k with
  | _ => .int
theorem nmJ7 : ∀ a, a < 0 → ∀ b, b < 0 → a ≠ b → (TJ7 a).2.1 ≠ (TJ7 b).2.1 := by decide +kernel
theorem tyJ7_ok : ∀ k, k < 0 → parseFieldDescriptor (TJ7 k).2.2.1 = some (tyJ7 k) := by decide +kernel
abbrev cJ7_rangeCheck_23922 : ByteArray := prog_36_method_30_code
def yJ7_rangeCheck_23922 : MethodName := ⟨RJ7, "rangeCheck", "(III)V"⟩
abbrev cJ7_fill_eb02e : ByteArray := prog_36_method_110_code
def yJ7_fill_eb02e : MethodName := ⟨RJ7, "fill", "([BIIB)V"⟩
abbrev cJ7_copyOf_9075b : ByteArray := prog_36_method_121_code
def yJ7_copyOf_9075b : MethodName := ⟨RJ7, "copyOf", "([BI)[B"⟩
abbrev cJ7_checkLength_df160 : ByteArray := prog_36_method_131_code
def yJ7_checkLength_df160 : MethodName := ⟨RJ7, "checkLength", "(II)V"⟩
abbrev cJ7_copyOfRange_39247 : ByteArray := prog_36_method_132_code
def yJ7_copyOfRange_39247 : MethodName := ⟨RJ7, "copyOfRange", "([BII)[B"⟩
abbrev cJ7_copyOfRangeByte_39247 : ByteArray := prog_36_method_133_code
def yJ7_copyOfRangeByte_39247 : MethodName := ⟨RJ7, "copyOfRangeByte", "([BII)[B"⟩
def RJ8 : String := "jdk/internal/util/ArraysSupport"
def TJ8 : u_T := fun k => match k with
  | _ => ("", "", "", false)
def tyJ8 : Nat → FieldType := fun k => match k with
  | _ => .int
theorem nmJ8 : ∀ a, a < 0 → ∀ b, b < 0 → a ≠ b → (TJ8 a).2.1 ≠ (TJ8 b).2.1 := by decide +kernel
theorem tyJ8_ok : ∀ k, k < 0 → parseFieldDescriptor (TJ8 k).2.2.1 = some (tyJ8 k) := by decide +kernel
abbrev cJ8_newLength_cabcc : ByteArray := prog_38_method_27_code
def yJ8_newLength_cabcc : MethodName := ⟨RJ8, "newLength", "(III)I"⟩
abbrev cJ8_hugeLength_7cf53 : ByteArray := prog_38_method_28_code
def yJ8_hugeLength_7cf53 : MethodName := ⟨RJ8, "hugeLength", "(II)I"⟩
def RJ3 : String := "jdk/internal/util/Preconditions"
def TJ3 : u_T := fun k => match k with
  | _ => ("", "", "", false)
def tyJ3 : Nat → FieldType := fun k => match k with
  | _ => .int
theorem nmJ3 : ∀ a, a < 0 → ∀ b, b < 0 → a ≠ b → (TJ3 a).2.1 ≠ (TJ3 b).2.1 := by decide +kernel
theorem tyJ3_ok : ∀ k, k < 0 → parseFieldDescriptor (TJ3 k).2.2.1 = some (tyJ3 k) := by decide +kernel
abbrev cJ3_checkIndex_8e157 : ByteArray := prog_39_method_11_code
def yJ3_checkIndex_8e157 : MethodName := ⟨RJ3, "checkIndex", "(IILjava/util/function/BiFunction;)I"⟩
abbrev cJ3_checkFromToIndex_8c36e : ByteArray := prog_39_method_12_code
def yJ3_checkFromToIndex_8c36e : MethodName := ⟨RJ3, "checkFromToIndex", "(IIILjava/util/function/BiFunction;)I"⟩
abbrev cJ3_checkFromIndexSize_8c36e : ByteArray := prog_39_method_13_code
def yJ3_checkFromIndexSize_8c36e : MethodName := ⟨RJ3, "checkFromIndexSize", "(IIILjava/util/function/BiFunction;)I"⟩
def RL : String := "PillowBargeLaw"
abbrev cL_load : ByteArray := method_3_code
def yL_load : MethodName := ⟨RL, "load", "(LPillowBarge;III[J)I"⟩
abbrev cL_unload : ByteArray := method_4_code
def yL_unload : MethodName := ⟨RL, "unload", "(LPillowBarge;I[J)I"⟩
abbrev cL_shift : ByteArray := method_5_code
def yL_shift : MethodName := ⟨RL, "shift", "(LPillowBarge;II[J)I"⟩
abbrev cL_sail : ByteArray := method_6_code
def yL_sail : MethodName := ⟨RL, "sail", "(LPillowBarge;I[J)I"⟩
abbrev cL_setLimit : ByteArray := method_7_code
def yL_setLimit : MethodName := ⟨RL, "setLimit", "(LPillowBarge;I[J)I"⟩
abbrev cL_drill : ByteArray := method_8_code
def yL_drill : MethodName := ⟨RL, "drill", "(LPillowBarge;I[J)I"⟩
abbrev cL_stackHeight : ByteArray := method_9_code
def yL_stackHeight : MethodName := ⟨RL, "stackHeight", "(LPillowBarge;I[J)I"⟩
abbrev cL_pillowAt : ByteArray := method_10_code
def yL_pillowAt : MethodName := ⟨RL, "pillowAt", "(LPillowBarge;II[J)I"⟩
abbrev cL_weightOf : ByteArray := method_11_code
def yL_weightOf : MethodName := ⟨RL, "weightOf", "(LPillowBarge;I[J)I"⟩
abbrev cL_destinationOf : ByteArray := method_12_code
def yL_destinationOf : MethodName := ⟨RL, "destinationOf", "(LPillowBarge;I[J)I"⟩
abbrev cL_bayOf : ByteArray := method_13_code
def yL_bayOf : MethodName := ⟨RL, "bayOf", "(LPillowBarge;I[J)I"⟩
abbrev cL_positionOf : ByteArray := method_14_code
def yL_positionOf : MethodName := ⟨RL, "positionOf", "(LPillowBarge;I[J)I"⟩
abbrev cL_ageOf : ByteArray := method_15_code
def yL_ageOf : MethodName := ⟨RL, "ageOf", "(LPillowBarge;I[J)I"⟩
abbrev cL_weightFor : ByteArray := method_16_code
def yL_weightFor : MethodName := ⟨RL, "weightFor", "(LPillowBarge;I[J)I"⟩
abbrev cL_levelingBay : ByteArray := method_17_code
def yL_levelingBay : MethodName := ⟨RL, "levelingBay", "(LPillowBarge;I[J)I"⟩
abbrev cL_legsTo : ByteArray := method_18_code
def yL_legsTo : MethodName := ⟨RL, "legsTo", "(LPillowBarge;I[J)I"⟩
abbrev cL_portAfter : ByteArray := method_19_code
def yL_portAfter : MethodName := ⟨RL, "portAfter", "(LPillowBarge;I[J)I"⟩
abbrev cL_pillowsInTheWay : ByteArray := method_20_code
def yL_pillowsInTheWay : MethodName := ⟨RL, "pillowsInTheWay", "(LPillowBarge;I[J)I"⟩
abbrev cL_oldestIn : ByteArray := method_21_code
def yL_oldestIn : MethodName := ⟨RL, "oldestIn", "(LPillowBarge;I[J)I"⟩
abbrev cL_heaviestPort : ByteArray := method_22_code
def yL_heaviestPort : MethodName := ⟨RL, "heaviestPort", "(LPillowBarge;[J)I"⟩
abbrev cL_pillowByTurn : ByteArray := method_23_code
def yL_pillowByTurn : MethodName := ⟨RL, "pillowByTurn", "(LPillowBarge;I[J)I"⟩
abbrev cL_bayByWeight : ByteArray := method_24_code
def yL_bayByWeight : MethodName := ⟨RL, "bayByWeight", "(LPillowBarge;I[J)I"⟩
abbrev cL_meanAge : ByteArray := method_25_code
def yL_meanAge : MethodName := ⟨RL, "meanAge", "(LPillowBarge;[D)I"⟩
abbrev cL_capsizedShare : ByteArray := method_26_code
def yL_capsizedShare : MethodName := ⟨RL, "capsizedShare", "(LPillowBarge;[D)I"⟩
abbrev cL_renderStack : ByteArray := method_27_code
def yL_renderStack : MethodName := ⟨RL, "renderStack", "(LPillowBarge;I[J)I"⟩
abbrev cL_outputAt : ByteArray := method_28_code
def yL_outputAt : MethodName := ⟨RL, "outputAt", "(LPillowBarge;I[J)I"⟩
abbrev cL_type : ByteArray := method_29_code
def yL_type : MethodName := ⟨RL, "type", "(LPillowBarge;C[J)I"⟩
abbrev cL_runScript : ByteArray := method_30_code
def yL_runScript : MethodName := ⟨RL, "runScript", "(LPillowBarge;[J)I"⟩
abbrev cL_errorPosition : ByteArray := method_31_code
def yL_errorPosition : MethodName := ⟨RL, "errorPosition", "(LPillowBarge;[J)I"⟩
abbrev cL_failedCommand : ByteArray := method_32_code
def yL_failedCommand : MethodName := ⟨RL, "failedCommand", "(LPillowBarge;[J)I"⟩
abbrev cL_undo : ByteArray := method_33_code
def yL_undo : MethodName := ⟨RL, "undo", "(LPillowBarge;[J)I"⟩
abbrev cL_restore : ByteArray := method_34_code
def yL_restore : MethodName := ⟨RL, "restore", "(LPillowBarge;[J)I"⟩
abbrev cL_law : ByteArray := code
def yL_law : MethodName := ⟨RL, "law", "([I)Z"⟩
end
section
/-! AN ABSTRACT MACHINE over fixed objects: a reference is (which of its kind, kind); only ints, array contents, the text and the two out cells vary. -/
abbrev Rf : Type := Nat × Nat
abbrev AV : Type := Value ⊕ Rf
abbrev GS : Type := (Rf → Nat → Int32) × (Rf → Nat → Int32) × (Nat × (Nat → Int32)) × (Int64 × UInt64)
abbrev Out : Type := Option AV ⊕ Nat
abbrev Res : Type := Option (Out × GS)
abbrev Ls : Type := List (Option AV)
/-- an instruction, its length, what it names (a target, a field, a callee), the locals to forget, whether it is a cut, a switch's rows -/
abbrev En : Type := Instr × Nat × Nat × List Nat × Bool × List (Int32 × Nat)
abbrev Tb : Type := Nat → Option En
abbrev Kb : Type := Nat → Ls → List AV → GS → Res
abbrev Ks : Type := Nat → Ls → List AV → GS → Nat → Res
def gi (G : GS) (r : Rf) (f : Nat) : Int32 := G.1 r f
def ga (G : GS) (r : Rf) (i : Nat) : Int32 := G.2.1 r i
def gn (G : GS) : Nat := G.2.2.1.1
def gt (G : GS) (i : Nat) : Int32 := G.2.2.1.2 i
def go_ (G : GS) : Int64 := G.2.2.2.1
def gd_ (G : GS) : UInt64 := G.2.2.2.2
def si (G : GS) (r : Rf) (f : Nat) (v : Int32) : GS := (fun r' f' => if r' = r ∧ f' = f then v else G.1 r' f', G.2)
def sa (G : GS) (r : Rf) (i : Nat) (v : Int32) : GS := (G.1, fun r' i' => if r' = r ∧ i' = i then v else G.2.1 r' i', G.2.2)
def st_ (G : GS) (n : Nat) (t : Nat → Int32) : GS := (G.1, G.2.1, (n, t), G.2.2.2)
def so_ (G : GS) (v : Int64) : GS := (G.1, G.2.1, G.2.2.1, (v, G.2.2.2.2))
def sd_ (G : GS) (v : UInt64) : GS := (G.1, G.2.1, G.2.2.1, (G.2.2.2.1, v))
/-- kinds: .inl (class, fields), .inr (element type: 0 int 1 char 2 State 3 long 4 double, length) -/
def kd (k : Nat) : Option (Nat × Nat ⊕ Nat × Nat) := match k with
  | 0 => some (.inl (0, 9)) | 1 => some (.inl (1, 4)) | 2 => some (.inl (2, 5)) | 3 => some (.inl (3, 3)) | 4 => some (.inl (4, 5))
  | 5 => some (.inr (0, 7)) | 6 => some (.inr (0, 35)) | 7 => some (.inr (0, 35)) | 8 => some (.inr (0, 35)) | 9 => some (.inr (0, 35))
  | 10 => some (.inl (5, 3)) | 11 => some (.inr (2, 9)) | 12 => some (.inl (6, 6)) | 13 => some (.inr (1, 60)) | 14 => some (.inr (0, 15)) | 15 => some (.inr (0, 45))
  | 17 => some (.inr (0, 5)) | 18 => some (.inr (3, 1)) | 19 => some (.inr (4, 1))
  | 50 => some (.inl (7, 18)) | 51 => some (.inr (0, 156)) | 52 => some (.inr (0, 1248)) | 53 => some (.inr (0, 156)) | 54 => some (.inr (0, 156)) | 55 => some (.inr (1, 100)) | 56 => some (.inr (1, 60)) | 57 => some (.inr (0, 3))
  | _ => none
/-- the references that the fields hold, for good -/
def gr (r : Rf) (f : Nat) : Option Rf := match r.2 with
  | 0 => (match f with | 0 => some (0, 1) | 1 => some (0, 10) | 2 => some (1, 1) | 4 => some (0, 12) | 7 => some (0, 16) | 8 => some (0, 17) | _ => none)
  | 1 => (match f with | 0 => some (r.1, 2) | 1 => some (r.1, 3) | 2 => some (r.1, 4) | _ => none)
  | 2 => (match f with | 0 => some (r.1, 5) | 1 => some (r.1, 6) | 2 => some (r.1, 7) | 3 => some (r.1, 8) | 4 => some (r.1, 9) | _ => none)
  | 10 => (match f with | 0 => some (0, 11) | _ => none)
  | 12 => (match f with | 0 => some (0, 13) | 1 => some (0, 14) | 2 => some (0, 15) | _ => none)
  | 50 => (match f with | 1 => some (0, 51) | 2 => some (0, 52) | 3 => some (0, 53) | 4 => some (0, 54) | 8 => some (0, 55) | 10 => some (0, 56) | 15 => some (0, 57) | _ => none)
  | _ => none
def ai_kill : List Nat → Ls → Ls
  | [], ls => ls
  | k :: ks, ls => ai_kill ks (ls.set k none)
def ai_pop : Nat → List AV → List AV → Option (List AV × List AV)
  | 0, acc, st => some (acc, st)
  | n + 1, acc, v :: st => ai_pop n (v :: acc) st
  | _ + 1, _, [] => none
def ai_cat : AV → Nat
  | .inl v => v.category
  | .inr _ => 1
def ai_cats : List AV → Nat
  | [] => 0
  | v :: l => ai_cat v + ai_cats l
def oV (r : Out × GS) (k : GS → Res) (kx : Nat → GS → Res) : Res := match r.1 with
  | .inl none => k r.2
  | .inr e => kx e r.2
  | _ => none
def oI (r : Out × GS) (k : Int32 → GS → Res) (kx : Nat → GS → Res) : Res := match r.1 with
  | .inl (some (.inl (.int v))) => k v r.2
  | .inr e => kx e r.2
  | _ => none
def oF (r : Out × GS) (k : UInt32 → GS → Res) (kx : Nat → GS → Res) : Res := match r.1 with
  | .inl (some (.inl (.float v))) => k v r.2
  | .inr e => kx e r.2
  | _ => none
def oD (r : Out × GS) (k : UInt64 → GS → Res) (kx : Nat → GS → Res) : Res := match r.1 with
  | .inl (some (.inl (.double v))) => k v r.2
  | .inr e => kx e r.2
  | _ => none
/-- a reference of one kind, or null -/
def oQ (kn : Nat) (r : Out × GS) (k0 : GS → Res) (k : Nat → GS → Res) (kx : Nat → GS → Res) : Res := match r.1 with
  | .inl (some (.inl .null)) => k0 r.2
  | .inl (some (.inr q)) => bif Nat.beq q.2 kn then k q.1 r.2 else none
  | .inr e => kx e r.2
  | _ => none
def oR (kn : Nat) (r : Out × GS) (k : Nat → GS → Res) (kx : Nat → GS → Res) : Res := match r.1 with
  | .inl (some (.inr q)) => bif Nat.beq q.2 kn then k q.1 r.2 else none
  | .inr e => kx e r.2
  | _ => none
abbrev okI (v : Int32) (G : GS) : Res := some (.inl (some (.inl (.int v))), G)
abbrev okV (G : GS) : Res := some (.inl none, G)
abbrev okR (r : Rf) (G : GS) : Res := some (.inl (some (.inr r)), G)
abbrev okN (G : GS) : Res := some (.inl (some (.inl .null)), G)
abbrev okF (v : UInt32) (G : GS) : Res := some (.inl (some (.inl (.float v))), G)
abbrev okD (v : UInt64) (G : GS) : Res := some (.inl (some (.inl (.double v))), G)
abbrev exc (e : Nat) (G : GS) : Res := some (.inr e, G)
/-- a handler's rows: exception, handler's place, its first instruction's length and local -/
abbrev Hd : Type := List (Nat × Nat × Nat × Nat)
def ai_hs : Hd → Nat → (Nat × Nat × Nat → Res) → Res → Res
  | [], _, _, d => d
  | h :: hs, e, k, d => if e = h.1 then k h.2 else ai_hs hs e k d
def ai_sw : List (Int32 × Nat) → Int32 → (Nat → Res) → Nat → Res
  | [], _, k, d => k d
  | q :: qs, v, k, d => if v = q.1 then k q.2 else ai_sw qs v k d
def ai_hx (hd : Hd) (e : Nat) (k : Nat × Nat × Nat → Res) (G : GS) : Res := match hd with
  | [] => exc e G
  | h :: hs => ai_hs (h :: hs) e k none
def ai_rt (hd : Hd) (self : Ks) (pc x : Nat) (ls : Ls) (rest : List AV) (u : Nat) (rt : Nat) (r : Out × GS) : Res :=
  match rt with
  | 0 => oV r (fun G1 => self (pc + 3) ls rest G1 (u + x / 64 % 256)) (fun e G1 => ai_hx hd e (fun h => self (h.1 + h.2.1) (ls.set h.2.2 none) [] G1 (u + x / 64 % 256)) G1)
  | 1 => oI r (fun v G1 => self (pc + 3) ls (.inl (.int v) :: rest) G1 (u + x / 64 % 256)) (fun e G1 => ai_hx hd e (fun h => self (h.1 + h.2.1) (ls.set h.2.2 none) [] G1 (u + x / 64 % 256)) G1)
  | 2 => oF r (fun v G1 => self (pc + 3) ls (.inl (.float v) :: rest) G1 (u + x / 64 % 256)) (fun e G1 => ai_hx hd e (fun h => self (h.1 + h.2.1) (ls.set h.2.2 none) [] G1 (u + x / 64 % 256)) G1)
  | 3 => oD r (fun v G1 => self (pc + 3) ls (.inl (.double v) :: rest) G1 (u + x / 64 % 256)) (fun e G1 => ai_hx hd e (fun h => self (h.1 + h.2.1) (ls.set h.2.2 none) [] G1 (u + x / 64 % 256)) G1)
  | 4 => oQ 1 r (fun G1 => self (pc + 3) ls (.inl .null :: rest) G1 (u + x / 64 % 256)) (fun q G1 => self (pc + 3) ls (.inr (q, 1) :: rest) G1 (u + x / 64 % 256)) (fun e G1 => ai_hx hd e (fun h => self (h.1 + h.2.1) (ls.set h.2.2 none) [] G1 (u + x / 64 % 256)) G1)
  | 5 => oR 200 r (fun q G1 => self (pc + 3) ls (.inr (q, 200) :: rest) G1 (u + x / 64 % 256)) (fun e G1 => ai_hx hd e (fun h => self (h.1 + h.2.1) (ls.set h.2.2 none) [] G1 (u + x / 64 % 256)) G1)
  | _ => oR 16 r (fun q G1 => self (pc + 3) ls (.inr (q, 16) :: rest) G1 (u + x / 64 % 256)) (fun e G1 => ai_hx hd e (fun h => self (h.1 + h.2.1) (ls.set h.2.2 none) [] G1 (u + x / 64 % 256)) G1)
def ai_call (call : Nat → List AV → GS → Res) (seg : Nat) (hd : Hd) (self : Ks) (pc x : Nat) (ls : Ls) (st : List AV) (G : GS) (u : Nat) : Res :=
  match ai_pop (x / 8 % 8) [] st with
  | none => none
  | some (as, rest) => match Nat.ble (u + x / 64 % 256) seg with
    | true => (match Nat.ble (ai_cats rest) 8 with
      | true => (call (x / 16384) as G).bind (fun r => ai_rt hd self pc x ls rest u (x % 8) r)
      | false => none)
    | false => none
/-- 0: a reference or null, 1: an int, 2: a float, 3: a double -/
def ai_ty (t : Nat) (v : AV) : Bool := match v with
  | .inr _ => Nat.beq t 0
  | .inl .null => Nat.beq t 0
  | .inl (.int _) => Nat.beq t 1
  | .inl (.float _) => Nat.beq t 2
  | .inl (.double _) => Nat.beq t 3
  | _ => false
def ai_ld (t : Nat) (self : Ks) (pc i : Nat) (ls : Ls) (st : List AV) (G : GS) (u : Nat) : Res :=
  match ls[i]? with
  | some (some v) => (match ai_ty t v with | true => self pc ls (v :: st) G u | false => none)
  | _ => none
/-- the local below a store must not be a long or double -/
def ai_below : Nat → Ls → Bool
  | 0, _ => true
  | i + 1, ls => match ls[i]? with
    | some (some (.inl v)) => Nat.beq v.category 1
    | _ => true
/-- a store of one word -/
def ai_sto (t : Nat) (self : Ks) (pc i : Nat) (ls : Ls) (st : List AV) (G : GS) (u : Nat) : Res :=
  match st with
  | v :: st => (match ai_ty t v && (ai_below i ls && Nat.ble (i + 1) ls.length) with | true => self pc (ls.set i (some v)) st G u | false => none)
  | [] => none
/-- a store of two words -/
def ai_sto2 (t : Nat) (self : Ks) (pc i : Nat) (ls : Ls) (st : List AV) (G : GS) (u : Nat) : Res :=
  match st with
  | v :: st => (match ai_ty t v && (ai_below i ls && Nat.ble (i + 2) ls.length) with | true => self pc ((ls.set i (some v)).set (i + 1) none) st G u | false => none)
  | [] => none
def ai_if (cn : Jvm.ClassFile.Cond) (x : Int32) (t f : Res) : Res := match cn with
  | .eq => if x = 0 then t else f
  | .ne => if x = 0 then f else t
  | .lt => if x < 0 then t else f
  | .ge => if 0 ≤ x then t else f
  | .gt => if 0 < x then t else f
  | .le => if x ≤ 0 then t else f
def ai_icmp (cn : Jvm.ClassFile.Cond) (x y : Int32) (t f : Res) : Res := match cn with
  | .eq => if x = y then t else f
  | .ne => if x = y then f else t
  | .lt => if x < y then t else f
  | .ge => if y ≤ x then t else f
  | .gt => if y < x then t else f
  | .le => if x ≤ y then t else f
def ai_get (G : GS) (r : Rf) (x : Nat) (k : AV → Res) : Res := match kd r.2 with
  | some (.inl (c, n)) => bif Nat.beq c (x / 64) && Nat.blt (x / 2 % 32) n then (match gr r (x / 2 % 32) with
    | some q => k (.inr q)
    | none => k (.inl (.int (gi G r (x / 2 % 32))))) else none
  | _ => none
def ai_put (G : GS) (r : Rf) (x : Nat) (v : Int32) (k : GS → Res) : Res := match kd r.2 with
  | some (.inl (c, n)) => bif Nat.beq c (x / 64) && Nat.blt (x / 2 % 32) n then (match gr r (x / 2 % 32) with
    | some _ => none
    | none => bif Nat.beq (x % 2) 0 then k (si G r (x / 2 % 32) v) else if v = 0 ∨ v = 1 then k (si G r (x / 2 % 32) v) else none) else none
  | _ => none
def inb (i : Int32) (n : Nat) : Bool := !(decide (i < 0)) && Nat.blt i.toNatClampNeg n
def ai_ald (G : GS) (r : Rf) (ty : Nat) (i : Int32) (k : Int32 → Res) : Res := match kd r.2 with
  | some (.inr (t, n)) => bif Nat.beq t ty then (bif inb i n then k (ga G r i.toNatClampNeg) else none) else none
  | _ => none
def ai_ast (G : GS) (r : Rf) (ty : Nat) (i : Int32) (v : Int32) (k : GS → Res) : Res := match kd r.2 with
  | some (.inr (t, n)) => bif Nat.beq t ty then (bif inb i n then k (sa G r i.toNatClampNeg v) else none) else none
  | _ => none
def ai_step (sc : Nat × (Nat → Int32)) (T : Tb) (call : Nat → List AV → GS → Res) (hd : Nat → Hd) (seg : Nat) (self : Ks) (pc : Nat) (e : En) (ls0 : Ls) (st : List AV) (G : GS) (u : Nat) : Res :=
  match e with
  | (i, _, x, ks, _, sw) =>
  match i with
  | .aload_n k => ai_ld 0 self (pc + 1) k.val (ai_kill ks ls0) st G u
  | .aload k => ai_ld 0 self (pc + 2) k (ai_kill ks ls0) st G u
  | .iload_n k => ai_ld 1 self (pc + 1) k.val (ai_kill ks ls0) st G u
  | .iload k => ai_ld 1 self (pc + 2) k (ai_kill ks ls0) st G u
  | .istore_n k => ai_sto 1 self (pc + 1) k.val (ai_kill ks ls0) st G u
  | .istore k => ai_sto 1 self (pc + 2) k (ai_kill ks ls0) st G u
  | .astore_n k => ai_sto 0 self (pc + 1) k.val (ai_kill ks ls0) st G u
  | .astore k => ai_sto 0 self (pc + 2) k (ai_kill ks ls0) st G u
  | .iconst c => self (pc + 1) (ai_kill ks ls0) (.inl (.int (Int32.ofInt c)) :: st) G u
  | .bipush c => self (pc + 2) (ai_kill ks ls0) (.inl (.int (Int8.ofInt c).toInt32) :: st) G u
  | .sipush c => self (pc + 3) (ai_kill ks ls0) (.inl (.int (Int16.ofInt c).toInt32) :: st) G u
  | .aconst_null => self (pc + 1) (ai_kill ks ls0) (.inl .null :: st) G u
  | .lconst c => self (pc + 1) (ai_kill ks ls0) (.inl (.long (Int64.ofNat c.val)) :: st) G u
  | .ldc _ => (match x with
    | 0 => self (pc + 2) (ai_kill ks ls0) (.inl (.float 1110704128) :: st) G u
    | k + 1 => self (pc + 2) (ai_kill ks ls0) (.inr (k, 200) :: st) G u)
  | .dup => (match st with | v :: st => bif Nat.beq (ai_cat v) 1 then self (pc + 1) (ai_kill ks ls0) (v :: v :: st) G u else none | _ => none)
  | .dup2 => (match st with | v :: w :: st => bif Nat.beq (ai_cat v) 1 && Nat.beq (ai_cat w) 1 then self (pc + 1) (ai_kill ks ls0) (v :: w :: v :: w :: st) G u else none | _ => none)
  | .pop => (match st with | v :: st => bif Nat.beq (ai_cat v) 1 then self (pc + 1) (ai_kill ks ls0) st G u else none | _ => none)
  | .iadd => (match st with | .inl (.int b) :: .inl (.int a) :: st => self (pc + 1) (ai_kill ks ls0) (.inl (.int (a + b)) :: st) G u | _ => none)
  | .isub => (match st with | .inl (.int b) :: .inl (.int a) :: st => self (pc + 1) (ai_kill ks ls0) (.inl (.int (a - b)) :: st) G u | _ => none)
  | .imul => (match st with | .inl (.int b) :: .inl (.int a) :: st => self (pc + 1) (ai_kill ks ls0) (.inl (.int (a * b)) :: st) G u | _ => none)
  | .iand => (match st with | .inl (.int b) :: .inl (.int a) :: st => self (pc + 1) (ai_kill ks ls0) (.inl (.int (a &&& b)) :: st) G u | _ => none)
  | .idiv => (match st with | .inl (.int b) :: .inl (.int a) :: st => if b = 0 then none else self (pc + 1) (ai_kill ks ls0) (.inl (.int (a / b)) :: st) G u | _ => none)
  | .irem => (match st with | .inl (.int b) :: .inl (.int a) :: st => if b = 0 then none else self (pc + 1) (ai_kill ks ls0) (.inl (.int (a - a / b * b)) :: st) G u | _ => none)
  | .ineg => (match st with | .inl (.int a) :: st => self (pc + 1) (ai_kill ks ls0) (.inl (.int (-a)) :: st) G u | _ => none)
  | .iinc k c => (match (ai_kill ks ls0)[k]? with
    | some (some (.inl (.int a))) => ai_sto 1 self (pc + 3) k (ai_kill ks ls0) (.inl (.int (a + Int32.ofInt c)) :: st) G u
    | _ => none)
  | .i2c => (match st with | .inl (.int a) :: st => self (pc + 1) (ai_kill ks ls0) (.inl (.int (a.toUInt32 % 65536).toInt32) :: st) G u | _ => none)
  | .i2l => (match st with | .inl (.int a) :: st => self (pc + 1) (ai_kill ks ls0) (.inl (.long a.toInt64) :: st) G u | _ => none)
  | .i2f => (match st with | .inl (.int a) :: st => self (pc + 1) (ai_kill ks ls0) (.inl (.float (FP.i2f a)) :: st) G u | _ => none)
  | .i2d => (match st with | .inl (.int a) :: st => self (pc + 1) (ai_kill ks ls0) (.inl (.double (FP.i2d a)) :: st) G u | _ => none)
  | .f2d => (match st with | .inl (.float a) :: st => if (FP.f2d a) &&& 0x7fffffffffffffff ≤ 0x7ff0000000000000 then self (pc + 1) (ai_kill ks ls0) (.inl (.double (FP.f2d a)) :: st) G u else none | _ => none)
  | .fmul => (match st with | .inl (.float b) :: .inl (.float a) :: st => if (FP.fmul a b) &&& 0x7fffffff ≤ 0x7f800000 then self (pc + 1) (ai_kill ks ls0) (.inl (.float (FP.fmul a b)) :: st) G u else none | _ => none)
  | .fdiv => (match st with | .inl (.float b) :: .inl (.float a) :: st => if (FP.fdiv a b) &&& 0x7fffffff ≤ 0x7f800000 then self (pc + 1) (ai_kill ks ls0) (.inl (.float (FP.fdiv a b)) :: st) G u else none | _ => none)
  | .ddiv => (match st with | .inl (.double b) :: .inl (.double a) :: st => if (FP.ddiv a b) &&& 0x7fffffffffffffff ≤ 0x7ff0000000000000 then self (pc + 1) (ai_kill ks ls0) (.inl (.double (FP.ddiv a b)) :: st) G u else none | _ => none)
  | .fcmp op => (match st with | .inl (.float b) :: .inl (.float a) :: st => self (pc + 1) (ai_kill ks ls0) (.inl (.int (Op.cmpValue (FP.fcmp a b) op)) :: st) G u | _ => none)
  | .dcmp op => (match st with | .inl (.double b) :: .inl (.double a) :: st => self (pc + 1) (ai_kill ks ls0) (.inl (.int (Op.cmpValue (FP.dcmp a b) op)) :: st) G u | _ => none)
  | .lcmp => (match st with | .inl (.long b) :: .inl (.long a) :: st => self (pc + 1) (ai_kill ks ls0) (.inl (.int (lg_cmp a b)) :: st) G u | _ => none)
  | .fload k => ai_ld 2 self (pc + 2) k (ai_kill ks ls0) st G u
  | .dload k => ai_ld 3 self (pc + 2) k (ai_kill ks ls0) st G u
  | .fstore k => ai_sto 2 self (pc + 2) k (ai_kill ks ls0) st G u
  | .dstore k => ai_sto2 3 self (pc + 2) k (ai_kill ks ls0) st G u
  | .ifCond c _ => (match st with | .inl (.int a) :: st => ai_if c a (self x (ai_kill ks ls0) st G u) (self (pc + 3) (ai_kill ks ls0) st G u) | _ => none)
  | .if_icmp c _ => (match st with | .inl (.int b) :: .inl (.int a) :: st => ai_icmp c a b (self x (ai_kill ks ls0) st G u) (self (pc + 3) (ai_kill ks ls0) st G u) | _ => none)
  | .goto _ => self x (ai_kill ks ls0) st G u
  | .ifnull _ => (match st with | .inl .null :: st => self x (ai_kill ks ls0) st G u | .inr _ :: st => self (pc + 3) (ai_kill ks ls0) st G u | _ => none)
  | .tableswitch _ _ _ _ => (match st with | .inl (.int a) :: st => ai_sw sw a (fun y => self y (ai_kill ks ls0) st G u) x | _ => none)
  | .lookupswitch _ _ => (match st with | .inl (.int a) :: st => ai_sw sw a (fun y => self y (ai_kill ks ls0) st G u) x | _ => none)
  | .getfield _ => (match st with | .inr r :: st => ai_get G r x (fun v => self (pc + 3) (ai_kill ks ls0) (v :: st) G u) | _ => none)
  | .putfield _ => (match st with | .inl (.int v) :: .inr r :: st => ai_put G r x v (fun G1 => self (pc + 3) (ai_kill ks ls0) st G1 u) | _ => none)
  | .iaload => (match st with | .inl (.int j) :: .inr r :: st => (bif Nat.beq r.2 250 && Nat.beq r.1 0 then (bif inb j sc.1 then self (pc + 1) (ai_kill ks ls0) (.inl (.int (sc.2 j.toNatClampNeg)) :: st) G u else none) else
      ai_ald G r 0 j (fun v => self (pc + 1) (ai_kill ks ls0) (.inl (.int v) :: st) G u)) | _ => none)
  | .caload => (match st with | .inl (.int j) :: .inr r :: st => ai_ald G r 1 j (fun v => self (pc + 1) (ai_kill ks ls0) (.inl (.int v) :: st) G u) | _ => none)
  | .aaload => (match st with | .inl (.int j) :: .inr r :: st => (bif Nat.beq r.2 11 && inb j 9 then self (pc + 1) (ai_kill ks ls0) (.inr (j.toNatClampNeg + 2, 1) :: st) G u else none) | _ => none)
  | .laload => (match st with | .inl (.int j) :: .inr r :: st => (bif Nat.beq r.2 18 && inb j 1 then self (pc + 1) (ai_kill ks ls0) (.inl (.long (go_ G)) :: st) G u else none) | _ => none)
  | .daload => (match st with | .inl (.int j) :: .inr r :: st => (bif Nat.beq r.2 19 && inb j 1 then self (pc + 1) (ai_kill ks ls0) (.inl (.double (gd_ G)) :: st) G u else none) | _ => none)
  | .iastore => (match st with | .inl (.int v) :: .inl (.int j) :: .inr r :: st => ai_ast G r 0 j v (fun G1 => self (pc + 1) (ai_kill ks ls0) st G1 u) | _ => none)
  | .castore => (match st with | .inl (.int v) :: .inl (.int j) :: .inr r :: st => ai_ast G r 1 j (vp_nar .char v) (fun G1 => self (pc + 1) (ai_kill ks ls0) st G1 u) | _ => none)
  | .lastore => (match st with | .inl (.long v) :: .inl (.int j) :: .inr r :: st => (bif Nat.beq r.2 18 && inb j 1 then self (pc + 1) (ai_kill ks ls0) st (so_ G v) u else none) | _ => none)
  | .dastore => (match st with | .inl (.double v) :: .inl (.int j) :: .inr r :: st => (bif Nat.beq r.2 19 && inb j 1 then self (pc + 1) (ai_kill ks ls0) st (sd_ G v) u else none) | _ => none)
  | .arraylength => (match st with
    | .inr r :: st => (bif Nat.beq r.2 250 && Nat.beq r.1 0 then self (pc + 1) (ai_kill ks ls0) (.inl (.int (Int32.ofNat sc.1)) :: st) G u else
      (match kd r.2 with
      | some (.inr (_, m)) => self (pc + 1) (ai_kill ks ls0) (.inl (.int (Int32.ofNat m)) :: st) G u
      | _ => none))
    | _ => none)
  | .invokevirtual _ => ai_call call seg (hd pc) self pc x (ai_kill ks ls0) st G u
  | .invokestatic _ => ai_call call seg (hd pc) self pc x (ai_kill ks ls0) st G u
  | .new _ => (match Nat.ble (u + 1) seg && Nat.ble (ai_cats st) 8 with | true => exc x G | false => none)
  | .ireturn => (match st with | [.inl (.int v)] => (match x with
      | 0 => okI v G
      | 1 => if v = 0 ∨ v = 1 then okI v G else none
      | _ => if 0 ≤ v ∧ v ≤ 65535 then okI v G else none) | _ => none)
  | .areturn => (match st with | [.inr q] => okR q G | [.inl .null] => okN G | _ => none)
  | .freturn => (match st with | [.inl (.float v)] => okF v G | _ => none)
  | .dreturn => (match st with | [.inl (.double v)] => okD v G | _ => none)
  | .return_ => (match st with | [] => okV G | _ => none)
  | _ => none
/-- an instruction's length; 0: a switch -/
def ai_len (i : Instr) : Nat := match i with
  | .aload _ | .iload _ | .fload _ | .dload _ | .astore _ | .istore _ | .fstore _ | .dstore _ | .bipush _ | .ldc _ => 2
  | .sipush _ | .iinc _ _ | .ifCond _ _ | .if_icmp _ _ | .goto _ | .ifnull _ | .getfield _ | .putfield _ | .invokevirtual _ | .invokestatic _ | .new _ => 3
  | .tableswitch _ _ _ _ | .lookupswitch _ _ => 0
  | _ => 1
def ai_run (sc : Nat × (Nat → Int32)) (T : Tb) (call : Nat → List AV → GS → Res) (hd : Nat → Hd) (seg : Nat) (back : Kb) : Nat → Ks
  | 0 => fun _ _ _ _ _ => none
  | k + 1 => fun pc ls st G u => match T pc with
    | none => none
    | some e => match e.2.2.2.2.1 with
      | true => back pc (ai_kill e.2.2.2.1 ls) st G
      | false => ai_step sc T call hd seg (ai_run sc T call hd seg back k) pc e ls st G u
/-- the letters of the literals -/
def jS : List (List Int32) := [[108, 111, 97, 100, 32], [117, 110, 108, 111, 97, 100, 32], [115, 104, 105, 102, 116, 32], [115, 97, 105, 108], [116, 117, 114, 110], [108, 105, 109, 105, 116, 32], [100, 114, 105, 108, 108, 32]]
end
section
/-! THE WORLD: the objects of the abstract machine as cells of the heap, and what is known of the tables. -/
/-- private methods of a class above StringBuilder: their selection follows from the tables (sel_priv) -/
def lw_x : List Cond := [.selects RJ4 yJ5_ensureCapacityInternal_d00df yJ5_ensureCapacityInternal_d00df, .selects RJ4 yJ5_newCapacity_0f7a4 yJ5_newCapacity_0f7a4]
def lw_all : List Cond := (lw_tbl ++ lw_x).filter goodWord
def nw_is (w : Cond) : Bool := match w with
  | .fieldLinkNest .. => true
  | .methodLinkNest .. => true
  | .castable .. => true
  | .declares .. => true
  | _ => false
/-- words that aren't kept by being warmed in the common way -/
def nw_all : List Cond := lw_tbl.filter nw_is
abbrev cls_ : List vw_C := [(RX6, TX6, 9), (RX3, TX3, 4), (RX0, TX0, 5), (RX5, TX5, 3), (RX4, TX4, 5), (RX1, TX1, 3), (RX2, TX2, 6), (RX7, TX7, 18), (RJ4, TJ4, 4)]
abbrev tys_ (cs : Nat → ClassId) : List (ClassId × FieldType) := [(cs 0, .int), (cs 1, .char), (cs 2, .object "PillowBarge$State"), (cs 3, .long), (cs 4, .double), (cs 5, .byte)]
def Ab (b : Nat) : Nat → Prop := fun q => b ≤ q
def exN (e : Nat) : String := match e with
  | 1 => "java/lang/IndexOutOfBoundsException" | 2 => "java/lang/IllegalArgumentException" | 3 => "java/util/NoSuchElementException"
  | 4 => "java/lang/IllegalStateException" | 5 => "java/lang/UnsupportedOperationException" | _ => "java/lang/ArithmeticException"
def jsT : List String := ["load ", "unload ", "shift ", "sail", "turn", "limit ", "drill "]
def jsI : List Nat := [58, 60, 62, 64, 66, 68, 70]
/-- what the JDK's own members need: the string constants, the digits, some statics -/
def KJ (b : Nat) (ad : Rf → Nat) (adV : Nat → Nat) (U : State) (H : Heap) : Prop :=
  vk_S 7 (jS.map List.length) jS (fun k => ad (k, 200)) adV (Ab b) U H ∧ (∀ k, k < 7 → vk_R "PillowBarge$Script" (jsI.getD k 0) (jsT.getD k "") (ad (k, 200)) U) ∧
  va_Z "java/lang/String" "COMPACT_STRINGS" "Z" (.int 1) (Ab b) U H ∧
  (∃ t, va_Z "java/lang/Integer" "DigitOnes" "[B" (.ref t) (Ab b) U H ∧ va_T .byte t 100 (fun j => .int (Int32.ofNat (48 + j % 10))) (Ab b) U H) ∧
  (∃ t, va_Z "java/lang/Integer" "DigitTens" "[B" (.ref t) (Ab b) U H ∧ va_T .byte t 100 (fun j => .int (Int32.ofNat (48 + j / 10))) (Ab b) U H) ∧
  va_Zq "jdk/internal/util/Preconditions" "SIOOBE_FORMATTER" "Ljava/util/function/BiFunction;" (Ab b) U H
def KS (D : va_G) (cs : Nat → ClassId) (b : Nat) (ad : Rf → Nat) (adV : Nat → Nat) (sc : Nat × (Nat → Int32)) (U : State) (H : Heap) : Prop :=
  va_K D cls_ (tys_ cs) U ∧ vx_Zq Bundle.tN "UNASSIGNED_STACK" Bundle.steD (Ab b) U H ∧ vx_Zq Bundle.tN "SUPPRESSED_SENTINEL" Bundle.listD (Ab b) U H ∧
  (∀ w ∈ nw_all, va_Nw w U) ∧ (∀ e f, e < 7 → f < 7 → exN e ≠ exN f → va_Nc (exN e) (exN f) U) ∧ KJ b ad adV U H ∧ va_X (ad (0, 250)) sc.1 sc.2 U H ∧ ad (0, 250) < H.size ∧ ad (0, 250) < b
theorem nw_warm {s U : State} (hW : s.WarmedH U.vm) : ∀ w ∈ nw_all, va_Nw w s → va_Nw w U := by
  intro w hw h
  have h1 : nw_is w = true := (List.mem_filter.mp hw).2
  cases w <;> first | (exact va_Nw.warmF hW h) | (exact va_Nw.warmM hW h) | (exact va_Nw.warmC hW h) | (exact va_Nw.warmD hW h) | (simp [nw_is] at h1; done)
theorem KJ_move {b : Nat} {ad : Rf → Nat} {adV : Nat → Nat} {s U : State} {H H1 : Heap} (hW : s.WarmedH U.vm) (hq : ∀ a : Nat, a < H.size → ¬ Ab b a → H1[a]? = H[a]?) (h : KJ b ad adV s H) : KJ b ad adV U H1 := by
  obtain ⟨h1, h2, h3, ⟨t, h4, h5⟩, ⟨u, h6, h7⟩, h8⟩ := h
  exact ⟨vk_S.moved hW.alike (h1.kept hq), fun k hk => vk_R.warm hW (h2 k hk), va_Z.moved hW.alike (h3.kept hq), ⟨t, va_Z.moved hW.alike (h4.kept hq), va_T.moved hW.alike (h5.kept hq)⟩, ⟨u, va_Z.moved hW.alike (h6.kept hq), va_T.moved hW.alike (h7.kept hq)⟩, va_Zq.moved hW.alike (h8.kept hq)⟩
theorem KS_move {D : va_G} {cs : Nat → ClassId} {b : Nat} {ad : Rf → Nat} {adV : Nat → Nat} {sc : Nat × (Nat → Int32)} {s U : State} {H H1 : Heap} (hW : s.WarmedH U.vm) (hz : H.size ≤ H1.size) (hq : ∀ a : Nat, a < H.size → ¬ Ab b a → H1[a]? = H[a]?) (h : KS D cs b ad adV sc s H) : KS D cs b ad adV sc U H1 := by
  obtain ⟨h1, h2, h3, h4, h5, h6, h7, h8, h9⟩ := h
  exact ⟨va_K.moved hW.alike h1, vx_Zq.moved hW.alike (h2.kept hq), vx_Zq.moved hW.alike (h3.kept hq), fun w hw => nw_warm hW w hw (h4 w hw), fun e f a1 a2 a3 => va_Nc.moved hW.alike (h5 e f a1 a2 a3), KJ_move hW hq h6, va_X.moved hW.alike (h7.kept (hq _ h8 (Nat.not_le.mpr h9))), Nat.lt_of_lt_of_le h8 hz, h9⟩
def rv (ad : Rf → Nat) (v : AV) : Value := match v with
  | .inl v => v
  | .inr r => .ref (ad r)
def fv (ad : Rf → Nat) (G : GS) (r : Rf) (f : Nat) : Value := match gr r f with
  | some q => .ref (ad q)
  | none => .int (gi G r f)
def entA (ad : Rf → Nat) (G : GS) (r : Rf) (t : Nat) : (Nat → Int32) ⊕ (Nat → Int64) ⊕ (Nat → UInt32) ⊕ (Nat → UInt64) ⊕ (Nat → Option Nat) := match t with
  | 0 => .inl (ga G r)
  | 1 => .inl (ga G r)
  | 2 => .inr (.inr (.inr (.inr (fun i => some (ad (i + 2, 1))))))
  | 3 => .inr (.inl (fun i => if i = 0 then go_ G else 0))
  | _ => .inr (.inr (.inr (.inl (fun i => if i = 0 then gd_ G else 0))))
def ent (cs : Nat → ClassId) (ad : Rf → Nat) (G : GS) (r : Rf) : va_E := match kd r.2 with
  | some (.inl (c, n)) => .inr (c, (List.range n).map (fv ad G r))
  | some (.inr (t, n)) => .inl (cs t, n, entA ad G r t)
  | none => .inr (99, [])
def cells_ (cs : Nat → ClassId) (ad : Rf → Nat) (L : List Rf) (G : GS) : va_W := L.map (fun r => (ad r, ent cs ad G r))
theorem cells_get {cs : Nat → ClassId} {ad : Rf → Nat} {L : List Rf} {r : Rf} (hn : L.Nodup) (hr : r ∈ L) (G : GS) (w : va_W) : ∃ k, (cells_ cs ad L G ++ w)[k]? = some (ad r, ent cs ad G r) ∧ ∀ (G' : GS) (x : va_E), x = ent cs ad G' r → (∀ q ∈ L, q ≠ r → ent cs ad G' q = ent cs ad G q) → (cells_ cs ad L G ++ w).set k (ad r, x) = cells_ cs ad L G' ++ w := by
  unfold cells_
  induction L with
  | nil => cases hr
  | cons a L ih =>
    rw [List.nodup_cons] at hn
    by_cases h : a = r
    · subst h
      refine ⟨0, rfl, fun G' x hx hG => ?_⟩
      subst hx
      have e : L.map (fun r => (ad r, ent cs ad G r)) = L.map (fun r => (ad r, ent cs ad G' r)) := by
        refine List.map_congr_left fun q hq => ?_
        rw [hG q (List.mem_cons_of_mem _ hq) (fun e => hn.1 (e ▸ hq))]
      rw [List.map_cons, List.map_cons, ← e]
      rfl
    · rcases List.mem_cons.mp hr with h1 | h1
      · exact absurd h1.symm h
      · obtain ⟨k, h2, h3⟩ := ih hn.2 h1
        refine ⟨k + 1, h2, fun G' x hx hG => ?_⟩
        have h4 := h3 G' x hx (fun q hq => hG q (List.mem_cons_of_mem _ hq))
        rw [List.map_cons, List.map_cons, List.cons_append, List.cons_append, List.set_cons_succ, h4, hG a List.mem_cons_self h]
def PW (D : va_G) (cs : Nat → ClassId) (b : Nat) (ad : Rf → Nat) (L : List Rf) (XT : Nat × (Nat → Int32) → va_W → Prop) (G : GS) (H : Heap) : Prop :=
  ∃ w, XT G.2.2.1 w ∧ va_P D cls_ (cells_ cs ad L G ++ w) H ∧ va_D (Ab b) (cells_ cs ad L G ++ w)
/-- a value of the machine is valid: a reference to an object of the world is in L -/
def vA (L : List Rf) (v : AV) : Prop := match v with
  | .inl _ => True
  | .inr r => (kd r.2).isSome = true → r ∈ L
def vAs (L : List Rf) (l : List AV) : Prop := ∀ v ∈ l, vA L v
def vLs (L : List Rf) (l : Ls) : Prop := ∀ v, some v ∈ l → vA L v
/-- L is closed under its fields -/
def Lok (L : List Rf) : Prop := L.Nodup ∧ (∀ r ∈ L, ∀ f q, gr r f = some q → vA L (.inr q)) ∧ ((0, 11) ∈ L → ∀ i, i < 9 → (i + 2, 1) ∈ L) ∧ (∀ q ∈ L, q.2 = 11 ∨ q.2 = 18 ∨ q.2 = 19 → q.1 = 0)
def toL (ad : Rf → Nat) : Nat → Ls → List (Nat × Value)
  | _, [] => []
  | i, none :: t => toL ad (i + 1) t
  | i, some v :: t => (i, rv ad v) :: toL ad (i + 1) t
theorem toL_mem {ad : Rf → Nat} : ∀ (ls : Ls) (i : Nat) (q : Nat × Value), q ∈ toL ad i ls ↔ ∃ (j : Nat) (v : AV), ls[j]? = some (some v) ∧ q = (i + j, rv ad v)
  | [], i, q => by simp [toL]
  | none :: t, i, q => by
    rw [toL, toL_mem t (i + 1) q]
    constructor
    · rintro ⟨j, v, h, e⟩
      exact ⟨j + 1, v, h, by rw [e]; congr 1; omega⟩
    · rintro ⟨j, v, h, e⟩
      cases j with
      | zero => simp at h
      | succ j => exact ⟨j, v, h, by rw [e]; congr 1; omega⟩
  | some w :: t, i, q => by
    rw [toL, List.mem_cons, toL_mem t (i + 1) q]
    constructor
    · rintro (h | ⟨j, v, h, e⟩)
      · exact ⟨0, w, rfl, h⟩
      · exact ⟨j + 1, v, h, by rw [e]; congr 1; omega⟩
    · rintro ⟨j, v, h, e⟩
      cases j with
      | zero =>
        simp at h
        subst h
        exact Or.inl e
      | succ j => exact Or.inr ⟨j, v, h, by rw [e]; congr 1; omega⟩
def LV (ad : Rf → Nat) (sl : Array Slot) (nL : Nat) (ls : Ls) : Prop := ls.length = nL ∧ lv_has sl nL (toL ad 0 ls)
theorem LV_at {ad : Rf → Nat} {sl : Array Slot} {nL : Nat} {ls : Ls} (h : LV ad sl nL ls) {i : Nat} {v : AV} (hi : ls[i]? = some (some v)) : sl[i]? = some (.val (rv ad v)) :=
  h.2.2.2 (i, rv ad v) ((toL_mem ls 0 _).mpr ⟨i, v, hi, by simp⟩)
theorem LV_weak {ad : Rf → Nat} {sl : Array Slot} {nL : Nat} {ls ls' : Ls} (h : LV ad sl nL ls) (hl : ls'.length = nL) (hs : ∀ (i : Nat) (v : AV), ls'[i]? = some (some v) → ls[i]? = some (some v)) : LV ad sl nL ls' := by
  refine ⟨hl, h.2.1, h.2.2.1, fun q hq => ?_⟩
  obtain ⟨j, v, h1, h2⟩ := (toL_mem ls' 0 q).mp hq
  subst h2
  rw [show 0 + j = j by omega]
  exact LV_at h (hs j v h1)
theorem kill_len : ∀ (ks : List Nat) (ls : Ls), (ai_kill ks ls).length = ls.length
  | [], _ => rfl
  | k :: ks, ls => by rw [ai_kill, kill_len ks, List.length_set]
theorem kill_at : ∀ (ks : List Nat) (ls : Ls) (i : Nat) (v : AV), (ai_kill ks ls)[i]? = some (some v) → ls[i]? = some (some v)
  | [], _, _, _, h => h
  | k :: ks, ls, i, v, h => by
    have h1 := kill_at ks (ls.set k none) i v h
    rw [List.getElem?_set] at h1
    by_cases e : k = i
    · subst e
      rw [if_pos rfl] at h1
      by_cases e2 : k < ls.length
      · rw [if_pos e2] at h1; cases h1
      · rw [if_neg e2] at h1; cases h1
    · rw [if_neg e] at h1; exact h1
theorem LV_kill {ad : Rf → Nat} {sl : Array Slot} {nL : Nat} {ls : Ls} (ks : List Nat) (h : LV ad sl nL ls) : LV ad sl nL (ai_kill ks ls) := LV_weak h (by rw [kill_len]; exact h.1) (kill_at ks ls)
theorem vLs_kill {L : List Rf} {ls : Ls} (ks : List Nat) (h : vLs L ls) : vLs L (ai_kill ks ls) := by
  intro v hv
  obtain ⟨i, hi⟩ := List.getElem?_of_mem hv
  exact h v (List.mem_of_getElem? (kill_at ks ls i v hi))
theorem vLs_set {L : List Rf} {ls : Ls} {i : Nat} {o : Option AV} (h : vLs L ls) (ho : ∀ v, o = some v → vA L v) : vLs L (ls.set i o) := by
  intro v hv
  rcases List.mem_or_eq_of_mem_set hv with h1 | h1
  · exact h v h1
  · exact ho v h1.symm
/-- behind a store of one word -/
theorem LV_set {ad : Rf → Nat} {sl : Array Slot} {nL : Nat} {ls : Ls} {i : Nat} {v : AV} (hlen : ls.length = nL) (hb : ai_below i ls = true)
    (h : lv_has sl nL ((i, rv ad v) :: (toL ad 0 ls).filter (fun q => !(q.1 == i) && !(q.1 + 1 == i && q.2.category == 2)))) : LV ad sl nL (ls.set i (some v)) := by
  refine ⟨by rw [List.length_set]; exact hlen, h.1, h.2.1, fun q hq => ?_⟩
  obtain ⟨j, w, h1, h2⟩ := (toL_mem _ 0 q).mp hq
  subst h2
  rw [show 0 + j = j by omega]
  by_cases e : i = j
  · subst e
    rw [List.getElem?_set, if_pos rfl] at h1
    by_cases e2 : i < ls.length
    · rw [if_pos e2] at h1
      cases h1
      exact h.2.2 (i, rv ad v) List.mem_cons_self
    · rw [if_neg e2] at h1; cases h1
  · rw [List.getElem?_set_ne e] at h1
    refine h.2.2 (j, rv ad w) (List.mem_cons_of_mem _ (List.mem_filter.mpr ⟨(toL_mem ls 0 _).mpr ⟨j, w, h1, by simp⟩, ?_⟩))
    have e3 : (j == i) = false := by simpa using (fun q => e q.symm)
    have e4 : (j + 1 == i && (rv ad w).category == 2) = false := by
      by_cases q : j + 1 = i
      · subst q
        rw [ai_below, h1] at hb
        cases w with
        | inl x =>
          have : x.category = 1 := Nat.eq_of_beq_eq_true hb
          simp [rv, this]
        | inr r => simp [rv, Value.category]
      · have : (j + 1 == i) = false := by simpa using q
        rw [this]; rfl
    simp only [e3, e4]
    rfl
theorem LV_set2 {ad : Rf → Nat} {sl : Array Slot} {nL : Nat} {ls : Ls} {i : Nat} {v : AV} (hlen : ls.length = nL) (hb : ai_below i ls = true)
    (h : lv_has sl nL ((i, rv ad v) :: (toL ad 0 ls).filter (fun q => !(q.1 == i) && (!(q.1 == i + 1) && !(q.1 + 1 == i && q.2.category == 2))))) : LV ad sl nL ((ls.set i (some v)).set (i + 1) none) := by
  refine ⟨by rw [List.length_set, List.length_set]; exact hlen, h.1, h.2.1, fun q hq => ?_⟩
  obtain ⟨j, w, h1, h2⟩ := (toL_mem _ 0 q).mp hq
  subst h2
  rw [show 0 + j = j by omega]
  by_cases e9 : i + 1 = j
  · subst e9
    rw [List.getElem?_set, if_pos rfl] at h1
    by_cases e2 : i + 1 < (ls.set i (some v)).length
    · rw [if_pos e2] at h1; cases h1
    · rw [if_neg e2] at h1; cases h1
  · rw [List.getElem?_set_ne e9] at h1
    by_cases e : i = j
    · subst e
      rw [List.getElem?_set, if_pos rfl] at h1
      by_cases e2 : i < ls.length
      · rw [if_pos e2] at h1
        cases h1
        exact h.2.2 (i, rv ad v) List.mem_cons_self
      · rw [if_neg e2] at h1; cases h1
    · rw [List.getElem?_set_ne e] at h1
      refine h.2.2 (j, rv ad w) (List.mem_cons_of_mem _ (List.mem_filter.mpr ⟨(toL_mem ls 0 _).mpr ⟨j, w, h1, by simp⟩, ?_⟩))
      have e3 : (j == i) = false := by simpa using (fun q => e q.symm)
      have e5 : (j == i + 1) = false := by simpa using (fun q => e9 q.symm)
      have e4 : (j + 1 == i && (rv ad w).category == 2) = false := by
        by_cases q : j + 1 = i
        · subst q
          rw [ai_below, h1] at hb
          cases w with
          | inl x =>
            have : x.category = 1 := Nat.eq_of_beq_eq_true hb
            simp [rv, this]
          | inr r => simp [rv, Value.category]
        · have : (j + 1 == i) = false := by simpa using q
          rw [this]; rfl
      simp only [e3, e4, e5]
      rfl
end
section
/-! SOUNDNESS OF THE STEPS: over the machine, an instruction of the abstract machine is one of the machine's. -/
/-- the machine's side, the world's side, the method's side -/
abbrev CX : Type := (Program × Launch × Env × Room × State × MethodId × Array Value × List Frame × Method × Code × (State → Prop)) × (va_G × (Nat → ClassId) × Nat × (Rf → Nat) × (Nat → Nat) × (Nat × (Nat → Int32)) × List Rf × (Nat × (Nat → Int32) → va_W → Prop)) × (ByteArray × Nat × String × Nat × Nat × Nat × Nat)
/-- what holds all through a method's body -/
def FX (x : CX) : Prop := match x with
  | ((p, _, _, R, s, m, args, _, meth, c, _), (D, cs, b, ad, adV, sc, L, _), (cc, nL, own, c0, s0, seg, lv)) =>
    p.tables.exec = Jvm.exec ∧ c.code = cc ∧ c.maxLocals = nL ∧ s.vm.findClass own = some m.cls ∧ (∀ w ∈ lw_all, w.before args s = true) ∧ KS D cs b ad adV sc s s.heap ∧ b ≤ s.heap.size ∧ Lok L ∧ meth.locks = false ∧ c0 + seg ≤ R.cells ∧ s0 + 100 * seg ≤ R.slots ∧ lv ≤ R.frames ∧ 64 * lv ≤ R.locals
/-- the walk goes well from here -/
def WG (x : CX) (pc : Nat) (ls : Ls) (st : List AV) (G : GS) (u : Nat) : Prop := match x with
  | ((p, l, e, R, s, m, args, below, meth, c, Q), (D, cs, b, ad, _, _, L, XT), (_, nL, _, c0, s0, _, _)) =>
    ∀ (H : Heap) (locs : List Loc) (cells slots : Nat) (sl : Array Slot), PW D cs b ad L XT G H → va_S (Ab b) s.heap H locs → LV ad sl nL ls → cells ≤ c0 + u → slots ≤ s0 + 100 * u →
      W p l e R s m args below meth c H locs cells slots Q (F0 m pc sl (st.map (rv ad)))
theorem WG_kill {x : CX} {pc : Nat} {ls : Ls} {st : List AV} {G : GS} {u : Nat} (ks : List Nat) (h : WG x pc (ai_kill ks ls) st G u) : WG x pc ls st G u := by
  obtain ⟨⟨p, l, e, R, s, m, args, below, meth, c, Q⟩, ⟨D, cs, b, ad, adV, sc, L, XT⟩, cc, nL, own, c0, s0, seg, lv⟩ := x
  intro H locs cells slots sl hP hS hl h1 h2
  exact h H locs cells slots sl hP hS (LV_kill ks hl) h1 h2
theorem WG_up {x : CX} {pc : Nat} {ls : Ls} {st : List AV} {G : GS} {u v : Nat} (h : WG x pc ls st G v) (huv : u ≤ v) : WG x pc ls st G u := by
  obtain ⟨⟨p, l, e, R, s, m, args, below, meth, c, Q⟩, ⟨D, cs, b, ad, adV, sc, L, XT⟩, cc, nL, own, c0, s0, seg, lv⟩ := x
  intro H locs cells slots sl hP hS hl h1 h2
  exact h H locs cells slots sl hP hS hl (by omega) (by omega)
def cxC (x : CX) : ByteArray := x.2.2.1
def cxL (x : CX) : List Rf := x.2.1.2.2.2.2.2.2.1
def cxS (x : CX) : Nat × (Nat → Int32) := x.2.1.2.2.2.2.2.1
def cxO (x : CX) : String := x.2.2.2.2.1
def cxN (x : CX) : Nat := x.2.2.2.1
def cxG (x : CX) : Nat := x.2.2.2.2.2.2.2.1
def cxV (x : CX) : Nat := x.2.2.2.2.2.2.2.2
def cxH (x : CX) : Launch := x.1.2.1
-- loads
theorem ld_ty {t : Nat} {ad : Rf → Nat} {v : AV} (h : ai_ty t v = true) : (t = 0 ∧ (rv ad v = .null ∨ ∃ q, rv ad v = .ref q)) ∨ (t = 1 ∧ ∃ q, rv ad v = .int q) ∨ (t = 2 ∧ ∃ q, rv ad v = .float q) ∨ (t = 3 ∧ ∃ q, rv ad v = .double q) := by
  cases v with
  | inr r => exact Or.inl ⟨Nat.eq_of_beq_eq_true h, Or.inr ⟨_, rfl⟩⟩
  | inl v =>
    cases v with
    | null => exact Or.inl ⟨Nat.eq_of_beq_eq_true h, Or.inl rfl⟩
    | int q => exact Or.inr (Or.inl ⟨Nat.eq_of_beq_eq_true h, q, rfl⟩)
    | float q => exact Or.inr (Or.inr (Or.inl ⟨Nat.eq_of_beq_eq_true h, q, rfl⟩))
    | double q => exact Or.inr (Or.inr (Or.inr ⟨Nat.eq_of_beq_eq_true h, q, rfl⟩))
    | _ => cases h
section Loads
variable {x : CX} {pc i : Nat} {ls : Ls} {st : List AV} {G : GS} {u : Nat} {v : AV}
theorem sd_ld (hF : FX x) (hi : ls[i]? = some (some v)) {t n : Nat}
    (hd : (t = 0 ∧ ((decode (cxC x) pc = .ok (.aload i, 2) ∧ n = 2) ∨ ∃ k : Fin 4, decode (cxC x) pc = .ok (.aload_n k, 1) ∧ k.val = i ∧ n = 1)) ∨
      (t = 1 ∧ ((decode (cxC x) pc = .ok (.iload i, 2) ∧ n = 2) ∨ ∃ k : Fin 4, decode (cxC x) pc = .ok (.iload_n k, 1) ∧ k.val = i ∧ n = 1)) ∨
      (t = 2 ∧ ((decode (cxC x) pc = .ok (.fload i, 2) ∧ n = 2) ∨ ∃ k : Fin 4, decode (cxC x) pc = .ok (.fload_n k, 1) ∧ k.val = i ∧ n = 1)) ∨
      (t = 3 ∧ ((decode (cxC x) pc = .ok (.dload i, 2) ∧ n = 2) ∨ ∃ k : Fin 4, decode (cxC x) pc = .ok (.dload_n k, 1) ∧ k.val = i ∧ n = 1)))
    (hty : ai_ty t v = true) (hk : WG x (pc + n) ls (v :: st) G u) : WG x pc ls st G u := by
  obtain ⟨⟨p, l, e, R, s, m, args, below, meth, c, Q⟩, ⟨D, cs, b, ad, adV, sc, L, XT⟩, cc, nL, own, c0, s0, seg, lv⟩ := x
  obtain ⟨hx, hb, hml, hown, hts, hKS, hbs, hL, hlocks, hR1, hR2, hR3, hR4⟩ := hF
  intro H locs cells slots sl hP hS hl h1 h2
  have hk := hk H locs cells slots sl hP hS hl h1 h2
  have ha := LV_at hl hi
  rw [List.map_cons] at hk
  rcases hd with ⟨rfl, hd⟩ | ⟨rfl, hd⟩ | ⟨rfl, hd⟩ | ⟨rfl, hd⟩
  · rcases ld_ty (ad := ad) hty with ⟨-, h⟩ | ⟨h, -⟩ | ⟨h, -⟩ | ⟨h, -⟩ <;> try (exact absurd h (by decide))
    rcases h with h | ⟨q, h⟩ <;> rw [h] at ha hk
    · rcases hd with ⟨hd, rfl⟩ | ⟨k, hd, hki, rfl⟩
      · exact lv_aloadN hx hb hd ha hk
      · exact lv_aload_nN hx hb hd hki ha hk
    · rcases hd with ⟨hd, rfl⟩ | ⟨k, hd, hki, rfl⟩
      · exact lv_aload hx hb hd ha hk
      · exact lv_aload_n hx hb hd hki ha hk
  · rcases ld_ty (ad := ad) hty with ⟨h, -⟩ | ⟨-, q, h⟩ | ⟨h, -⟩ | ⟨h, -⟩ <;> try (exact absurd h (by decide))
    rw [h] at ha hk
    rcases hd with ⟨hd, rfl⟩ | ⟨k, hd, hki, rfl⟩
    · exact lv_iload hx hb hd ha hk
    · exact lv_iload_n hx hb hd hki ha hk
  · rcases ld_ty (ad := ad) hty with ⟨h, -⟩ | ⟨h, -⟩ | ⟨-, q, h⟩ | ⟨h, -⟩ <;> try (exact absurd h (by decide))
    rw [h] at ha hk
    rcases hd with ⟨hd, rfl⟩ | ⟨k, hd, hki, rfl⟩
    · exact lv_fload hx hb hd ha hk
    · exact lv_fload_n hx hb hd hki ha hk
  · rcases ld_ty (ad := ad) hty with ⟨h, -⟩ | ⟨h, -⟩ | ⟨h, -⟩ | ⟨-, q, h⟩ <;> try (exact absurd h (by decide))
    rw [h] at ha hk
    rcases hd with ⟨hd, rfl⟩ | ⟨k, hd, hki, rfl⟩
    · exact lv_dload hx hb hd ha hk
    · exact lv_dload_n hx hb hd hki ha hk
theorem sd_sto (hF : FX x) {t n : Nat} (ht : t ≠ 3)
    (hd : (t = 0 ∧ ((decode (cxC x) pc = .ok (.astore i, 2) ∧ n = 2) ∨ ∃ k : Fin 4, decode (cxC x) pc = .ok (.astore_n k, 1) ∧ k.val = i ∧ n = 1)) ∨
      (t = 1 ∧ ((decode (cxC x) pc = .ok (.istore i, 2) ∧ n = 2) ∨ ∃ k : Fin 4, decode (cxC x) pc = .ok (.istore_n k, 1) ∧ k.val = i ∧ n = 1)) ∨
      (t = 2 ∧ ((decode (cxC x) pc = .ok (.fstore i, 2) ∧ n = 2) ∨ ∃ k : Fin 4, decode (cxC x) pc = .ok (.fstore_n k, 1) ∧ k.val = i ∧ n = 1)))
    (hty : ai_ty t v = true) (hbl : ai_below i ls = true) (hil : i + 1 ≤ ls.length) (hk : WG x (pc + n) (ls.set i (some v)) st G u) : WG x pc ls (v :: st) G u := by
  obtain ⟨⟨p, l, e, R, s, m, args, below, meth, c, Q⟩, ⟨D, cs, b, ad, adV, sc, L, XT⟩, cc, nL, own, c0, s0, seg, lv⟩ := x
  obtain ⟨hx, hb, hml, hown, hts, hKS, hbs, hL, hlocks, hR1, hR2, hR3, hR4⟩ := hF
  intro H locs cells slots sl hP hS hl h1 h2
  have hn : i < nL := by rw [← hl.1]; omega
  rw [List.map_cons]
  have kk : ∀ (y : Value), rv ad v = y → ∀ sl' : Array Slot, lv_has sl' nL ((i, y) :: (toL ad 0 ls).filter (fun q => !(q.1 == i) && !(q.1 + 1 == i && q.2.category == 2))) → W p l e R s m args below meth c H locs cells slots Q (F0 m (pc + n) sl' (st.map (rv ad))) := fun y hy sl' h => hk H locs cells slots sl' hP hS (LV_set hl.1 hbl (hy ▸ h)) h1 h2
  rcases hd with ⟨rfl, hd⟩ | ⟨rfl, hd⟩ | ⟨rfl, hd⟩
  · rcases ld_ty (ad := ad) hty with ⟨-, h⟩ | ⟨h, -⟩ | ⟨h, -⟩ | ⟨h, -⟩ <;> try (exact absurd h (by decide))
    rcases h with h | ⟨q, h⟩ <;> rw [h]
    · rcases hd with ⟨hd, rfl⟩ | ⟨k, hd, hki, rfl⟩
      · exact lv_astoreN hx hb hd hl.2 hn rfl (kk _ h)
      · exact lv_astore_nN hx hb hd hki hl.2 hn rfl (kk _ h)
    · rcases hd with ⟨hd, rfl⟩ | ⟨k, hd, hki, rfl⟩
      · exact lv_astore hx hb hd hl.2 hn rfl (kk _ h)
      · exact lv_astore_n hx hb hd hki hl.2 hn rfl (kk _ h)
  · rcases ld_ty (ad := ad) hty with ⟨h, -⟩ | ⟨-, q, h⟩ | ⟨h, -⟩ | ⟨h, -⟩ <;> try (exact absurd h (by decide))
    rw [h]
    rcases hd with ⟨hd, rfl⟩ | ⟨k, hd, hki, rfl⟩
    · exact lv_istore hx hb hd hl.2 hn rfl (kk _ h)
    · exact lv_istore_n hx hb hd hki hl.2 hn rfl (kk _ h)
  · rcases ld_ty (ad := ad) hty with ⟨h, -⟩ | ⟨h, -⟩ | ⟨-, q, h⟩ | ⟨h, -⟩ <;> try (exact absurd h (by decide))
    rw [h]
    rcases hd with ⟨hd, rfl⟩ | ⟨k, hd, hki, rfl⟩
    · exact lv_fstore hx hb hd hl.2 hn rfl (kk _ h)
    · exact lv_fstore_n hx hb hd hki hl.2 hn rfl (kk _ h)
theorem sd_sto2 (hF : FX x) {n : Nat}
    (hd : (decode (cxC x) pc = .ok (.dstore i, 2) ∧ n = 2) ∨ ∃ k : Fin 4, decode (cxC x) pc = .ok (.dstore_n k, 1) ∧ k.val = i ∧ n = 1)
    (hty : ai_ty 3 v = true) (hbl : ai_below i ls = true) (hil : i + 2 ≤ ls.length) (hk : WG x (pc + n) ((ls.set i (some v)).set (i + 1) none) st G u) : WG x pc ls (v :: st) G u := by
  obtain ⟨⟨p, l, e, R, s, m, args, below, meth, c, Q⟩, ⟨D, cs, b, ad, adV, sc, L, XT⟩, cc, nL, own, c0, s0, seg, lv⟩ := x
  obtain ⟨hx, hb, hml, hown, hts, hKS, hbs, hL, hlocks, hR1, hR2, hR3, hR4⟩ := hF
  intro H locs cells slots sl hP hS hl h1 h2
  have hn : i + 1 < nL := by rw [← hl.1]; omega
  rw [List.map_cons]
  have kk : ∀ (y : Value), rv ad v = y → ∀ sl' : Array Slot, lv_has sl' nL ((i, y) :: (toL ad 0 ls).filter (fun q => !(q.1 == i) && (!(q.1 == i + 1) && !(q.1 + 1 == i && q.2.category == 2)))) → W p l e R s m args below meth c H locs cells slots Q (F0 m (pc + n) sl' (st.map (rv ad))) := fun y hy sl' h => hk H locs cells slots sl' hP hS (LV_set2 hl.1 hbl (hy ▸ h)) h1 h2
  rcases ld_ty (ad := ad) hty with ⟨h, -⟩ | ⟨h, -⟩ | ⟨h, -⟩ | ⟨-, q, h⟩ <;> try (exact absurd h (by decide))
  rw [h]
  rcases hd with ⟨hd, rfl⟩ | ⟨k, hd, hki, rfl⟩
  · exact lv_dstore hx hb hd hl.2 hn rfl (kk _ h)
  · exact lv_dstore_n hx hb hd hki hl.2 hn rfl (kk _ h)
end Loads
end
section
/-! Soundness of the steps: stack, arithmetic, branches -/
section Ar
variable {x : CX} {pc : Nat} {ls : Ls} {st : List AV} {G : GS} {u : Nat}
theorem sd_iconst {v : Int} (hF : FX x) (hd : decode (cxC x) pc = .ok (.iconst v, 1)) (hk : WG x (pc + 1) ls (.inl (.int (Int32.ofInt v)) :: st) G u) : WG x pc ls (st) G u := by
  obtain ⟨⟨p, l, e, R, s, m, args, below, meth, c, Q⟩, ⟨D, cs, b, ad, adV, sc, L, XT⟩, cc, nL, own, c0, s0, seg, lv⟩ := x
  obtain ⟨hx, hb, hml, hown, hts, hKS, hbs, hL, hlocks, hR1, hR2, hR3, hR4⟩ := hF
  intro H locs cells slots sl hP hS hl h1 h2
  have hk := hk H locs cells slots sl hP hS hl h1 h2
  exact lv_iconst hx hb hd rfl hk
theorem sd_bipush {v : Int} (hF : FX x) (hd : decode (cxC x) pc = .ok (.bipush v, 2)) (hk : WG x (pc + 2) ls (.inl (.int (Int8.ofInt v).toInt32) :: st) G u) : WG x pc ls (st) G u := by
  obtain ⟨⟨p, l, e, R, s, m, args, below, meth, c, Q⟩, ⟨D, cs, b, ad, adV, sc, L, XT⟩, cc, nL, own, c0, s0, seg, lv⟩ := x
  obtain ⟨hx, hb, hml, hown, hts, hKS, hbs, hL, hlocks, hR1, hR2, hR3, hR4⟩ := hF
  intro H locs cells slots sl hP hS hl h1 h2
  have hk := hk H locs cells slots sl hP hS hl h1 h2
  exact lv_bipush hx hb hd rfl hk
theorem sd_sipush {v : Int} (hF : FX x) (hd : decode (cxC x) pc = .ok (.sipush v, 3)) (hk : WG x (pc + 3) ls (.inl (.int (Int16.ofInt v).toInt32) :: st) G u) : WG x pc ls (st) G u := by
  obtain ⟨⟨p, l, e, R, s, m, args, below, meth, c, Q⟩, ⟨D, cs, b, ad, adV, sc, L, XT⟩, cc, nL, own, c0, s0, seg, lv⟩ := x
  obtain ⟨hx, hb, hml, hown, hts, hKS, hbs, hL, hlocks, hR1, hR2, hR3, hR4⟩ := hF
  intro H locs cells slots sl hP hS hl h1 h2
  have hk := hk H locs cells slots sl hP hS hl h1 h2
  exact lv_sipush hx hb hd rfl hk
theorem sd_null (hF : FX x) (hd : decode (cxC x) pc = .ok (.aconst_null, 1)) (hk : WG x (pc + 1) ls (.inl .null :: st) G u) : WG x pc ls (st) G u := by
  obtain ⟨⟨p, l, e, R, s, m, args, below, meth, c, Q⟩, ⟨D, cs, b, ad, adV, sc, L, XT⟩, cc, nL, own, c0, s0, seg, lv⟩ := x
  obtain ⟨hx, hb, hml, hown, hts, hKS, hbs, hL, hlocks, hR1, hR2, hR3, hR4⟩ := hF
  intro H locs cells slots sl hP hS hl h1 h2
  have hk := hk H locs cells slots sl hP hS hl h1 h2
  exact lv_null hx hb hd hk
theorem sd_lconst {v : Fin 2} (hF : FX x) (hd : decode (cxC x) pc = .ok (.lconst v, 1)) (hk : WG x (pc + 1) ls (.inl (.long (Int64.ofNat v.val)) :: st) G u) : WG x pc ls (st) G u := by
  obtain ⟨⟨p, l, e, R, s, m, args, below, meth, c, Q⟩, ⟨D, cs, b, ad, adV, sc, L, XT⟩, cc, nL, own, c0, s0, seg, lv⟩ := x
  obtain ⟨hx, hb, hml, hown, hts, hKS, hbs, hL, hlocks, hR1, hR2, hR3, hR4⟩ := hF
  intro H locs cells slots sl hP hS hl h1 h2
  have hk := hk H locs cells slots sl hP hS hl h1 h2
  exact lv_lconst hx hb hd rfl hk
theorem sd_iadd {a b : Int32} (hF : FX x) (hd : decode (cxC x) pc = .ok (.iadd, 1)) (hk : WG x (pc + 1) ls (.inl (.int (a + b)) :: st) G u) : WG x pc ls (.inl (.int b) :: .inl (.int a) :: st) G u := by
  obtain ⟨⟨p, l, e, R, s, m, args, below, meth, c, Q⟩, ⟨D, cs, b, ad, adV, sc, L, XT⟩, cc, nL, own, c0, s0, seg, lv⟩ := x
  obtain ⟨hx, hb, hml, hown, hts, hKS, hbs, hL, hlocks, hR1, hR2, hR3, hR4⟩ := hF
  intro H locs cells slots sl hP hS hl h1 h2
  have hk := hk H locs cells slots sl hP hS hl h1 h2
  exact lv_iadd hx hb hd hk
theorem sd_isub {a b : Int32} (hF : FX x) (hd : decode (cxC x) pc = .ok (.isub, 1)) (hk : WG x (pc + 1) ls (.inl (.int (a - b)) :: st) G u) : WG x pc ls (.inl (.int b) :: .inl (.int a) :: st) G u := by
  obtain ⟨⟨p, l, e, R, s, m, args, below, meth, c, Q⟩, ⟨D, cs, b, ad, adV, sc, L, XT⟩, cc, nL, own, c0, s0, seg, lv⟩ := x
  obtain ⟨hx, hb, hml, hown, hts, hKS, hbs, hL, hlocks, hR1, hR2, hR3, hR4⟩ := hF
  intro H locs cells slots sl hP hS hl h1 h2
  have hk := hk H locs cells slots sl hP hS hl h1 h2
  exact lv_isub hx hb hd hk
theorem sd_imul {a b : Int32} (hF : FX x) (hd : decode (cxC x) pc = .ok (.imul, 1)) (hk : WG x (pc + 1) ls (.inl (.int (a * b)) :: st) G u) : WG x pc ls (.inl (.int b) :: .inl (.int a) :: st) G u := by
  obtain ⟨⟨p, l, e, R, s, m, args, below, meth, c, Q⟩, ⟨D, cs, b, ad, adV, sc, L, XT⟩, cc, nL, own, c0, s0, seg, lv⟩ := x
  obtain ⟨hx, hb, hml, hown, hts, hKS, hbs, hL, hlocks, hR1, hR2, hR3, hR4⟩ := hF
  intro H locs cells slots sl hP hS hl h1 h2
  have hk := hk H locs cells slots sl hP hS hl h1 h2
  exact lv_imul hx hb hd hk
theorem sd_iand {a b : Int32} (hF : FX x) (hd : decode (cxC x) pc = .ok (.iand, 1)) (hk : WG x (pc + 1) ls (.inl (.int (a &&& b)) :: st) G u) : WG x pc ls (.inl (.int b) :: .inl (.int a) :: st) G u := by
  obtain ⟨⟨p, l, e, R, s, m, args, below, meth, c, Q⟩, ⟨D, cs, b, ad, adV, sc, L, XT⟩, cc, nL, own, c0, s0, seg, lv⟩ := x
  obtain ⟨hx, hb, hml, hown, hts, hKS, hbs, hL, hlocks, hR1, hR2, hR3, hR4⟩ := hF
  intro H locs cells slots sl hP hS hl h1 h2
  have hk := hk H locs cells slots sl hP hS hl h1 h2
  exact lv_iand hx hb hd hk
theorem sd_idiv {a b : Int32} (hF : FX x) (hd : decode (cxC x) pc = .ok (.idiv, 1)) (h0 : ¬ b = 0) (hk : WG x (pc + 1) ls (.inl (.int (a / b)) :: st) G u) : WG x pc ls (.inl (.int b) :: .inl (.int a) :: st) G u := by
  obtain ⟨⟨p, l, e, R, s, m, args, below, meth, c, Q⟩, ⟨D, cs, b, ad, adV, sc, L, XT⟩, cc, nL, own, c0, s0, seg, lv⟩ := x
  obtain ⟨hx, hb, hml, hown, hts, hKS, hbs, hL, hlocks, hR1, hR2, hR3, hR4⟩ := hF
  intro H locs cells slots sl hP hS hl h1 h2
  have hk := hk H locs cells slots sl hP hS hl h1 h2
  exact lv_idiv hx hb hd h0 hk
theorem sd_irem {a b : Int32} (hF : FX x) (hd : decode (cxC x) pc = .ok (.irem, 1)) (h0 : ¬ b = 0) (hk : WG x (pc + 1) ls (.inl (.int (a - a / b * b)) :: st) G u) : WG x pc ls (.inl (.int b) :: .inl (.int a) :: st) G u := by
  obtain ⟨⟨p, l, e, R, s, m, args, below, meth, c, Q⟩, ⟨D, cs, b, ad, adV, sc, L, XT⟩, cc, nL, own, c0, s0, seg, lv⟩ := x
  obtain ⟨hx, hb, hml, hown, hts, hKS, hbs, hL, hlocks, hR1, hR2, hR3, hR4⟩ := hF
  intro H locs cells slots sl hP hS hl h1 h2
  have hk := hk H locs cells slots sl hP hS hl h1 h2
  exact lv_irem hx hb hd h0 hk
theorem sd_ineg {a : Int32} (hF : FX x) (hd : decode (cxC x) pc = .ok (.ineg, 1)) (hk : WG x (pc + 1) ls (.inl (.int (-a)) :: st) G u) : WG x pc ls (.inl (.int a) :: st) G u := by
  obtain ⟨⟨p, l, e, R, s, m, args, below, meth, c, Q⟩, ⟨D, cs, b, ad, adV, sc, L, XT⟩, cc, nL, own, c0, s0, seg, lv⟩ := x
  obtain ⟨hx, hb, hml, hown, hts, hKS, hbs, hL, hlocks, hR1, hR2, hR3, hR4⟩ := hF
  intro H locs cells slots sl hP hS hl h1 h2
  have hk := hk H locs cells slots sl hP hS hl h1 h2
  exact lv_ineg hx hb hd hk
theorem sd_i2c {a : Int32} (hF : FX x) (hd : decode (cxC x) pc = .ok (.i2c, 1)) (hk : WG x (pc + 1) ls (.inl (.int (a.toUInt32 % 65536).toInt32) :: st) G u) : WG x pc ls (.inl (.int a) :: st) G u := by
  obtain ⟨⟨p, l, e, R, s, m, args, below, meth, c, Q⟩, ⟨D, cs, b, ad, adV, sc, L, XT⟩, cc, nL, own, c0, s0, seg, lv⟩ := x
  obtain ⟨hx, hb, hml, hown, hts, hKS, hbs, hL, hlocks, hR1, hR2, hR3, hR4⟩ := hF
  intro H locs cells slots sl hP hS hl h1 h2
  have hk := hk H locs cells slots sl hP hS hl h1 h2
  exact lv_i2c hx hb hd rfl hk
theorem sd_i2l {a : Int32} (hF : FX x) (hd : decode (cxC x) pc = .ok (.i2l, 1)) (hk : WG x (pc + 1) ls (.inl (.long a.toInt64) :: st) G u) : WG x pc ls (.inl (.int a) :: st) G u := by
  obtain ⟨⟨p, l, e, R, s, m, args, below, meth, c, Q⟩, ⟨D, cs, b, ad, adV, sc, L, XT⟩, cc, nL, own, c0, s0, seg, lv⟩ := x
  obtain ⟨hx, hb, hml, hown, hts, hKS, hbs, hL, hlocks, hR1, hR2, hR3, hR4⟩ := hF
  intro H locs cells slots sl hP hS hl h1 h2
  have hk := hk H locs cells slots sl hP hS hl h1 h2
  exact lv_i2l hx hb hd rfl hk
theorem sd_i2f {a : Int32} (hF : FX x) (hd : decode (cxC x) pc = .ok (.i2f, 1)) (hk : WG x (pc + 1) ls (.inl (.float (FP.i2f a)) :: st) G u) : WG x pc ls (.inl (.int a) :: st) G u := by
  obtain ⟨⟨p, l, e, R, s, m, args, below, meth, c, Q⟩, ⟨D, cs, b, ad, adV, sc, L, XT⟩, cc, nL, own, c0, s0, seg, lv⟩ := x
  obtain ⟨hx, hb, hml, hown, hts, hKS, hbs, hL, hlocks, hR1, hR2, hR3, hR4⟩ := hF
  intro H locs cells slots sl hP hS hl h1 h2
  have hk := hk H locs cells slots sl hP hS hl h1 h2
  exact lv_i2f hx hb hd hk
theorem sd_i2d {a : Int32} (hF : FX x) (hd : decode (cxC x) pc = .ok (.i2d, 1)) (hk : WG x (pc + 1) ls (.inl (.double (FP.i2d a)) :: st) G u) : WG x pc ls (.inl (.int a) :: st) G u := by
  obtain ⟨⟨p, l, e, R, s, m, args, below, meth, c, Q⟩, ⟨D, cs, b, ad, adV, sc, L, XT⟩, cc, nL, own, c0, s0, seg, lv⟩ := x
  obtain ⟨hx, hb, hml, hown, hts, hKS, hbs, hL, hlocks, hR1, hR2, hR3, hR4⟩ := hF
  intro H locs cells slots sl hP hS hl h1 h2
  have hk := hk H locs cells slots sl hP hS hl h1 h2
  exact lv_i2d hx hb hd hk
theorem sd_f2d {a : UInt32} (hF : FX x) (hd : decode (cxC x) pc = .ok (.f2d, 1)) (h0 : FP.f2d a &&& 0x7fffffffffffffff ≤ 0x7ff0000000000000) (hk : WG x (pc + 1) ls (.inl (.double (FP.f2d a)) :: st) G u) : WG x pc ls (.inl (.float a) :: st) G u := by
  obtain ⟨⟨p, l, e, R, s, m, args, below, meth, c, Q⟩, ⟨D, cs, b, ad, adV, sc, L, XT⟩, cc, nL, own, c0, s0, seg, lv⟩ := x
  obtain ⟨hx, hb, hml, hown, hts, hKS, hbs, hL, hlocks, hR1, hR2, hR3, hR4⟩ := hF
  intro H locs cells slots sl hP hS hl h1 h2
  have hk := hk H locs cells slots sl hP hS hl h1 h2
  exact lv_f2d hx hb hd h0 hk
theorem sd_fmul {a b : UInt32} (hF : FX x) (hd : decode (cxC x) pc = .ok (.fmul, 1)) (h0 : FP.fmul a b &&& 0x7fffffff ≤ 0x7f800000) (hk : WG x (pc + 1) ls (.inl (.float (FP.fmul a b)) :: st) G u) : WG x pc ls (.inl (.float b) :: .inl (.float a) :: st) G u := by
  obtain ⟨⟨p, l, e, R, s, m, args, below, meth, c, Q⟩, ⟨D, cs, b, ad, adV, sc, L, XT⟩, cc, nL, own, c0, s0, seg, lv⟩ := x
  obtain ⟨hx, hb, hml, hown, hts, hKS, hbs, hL, hlocks, hR1, hR2, hR3, hR4⟩ := hF
  intro H locs cells slots sl hP hS hl h1 h2
  have hk := hk H locs cells slots sl hP hS hl h1 h2
  exact lv_fmul hx hb hd h0 hk
theorem sd_fdiv {a b : UInt32} (hF : FX x) (hd : decode (cxC x) pc = .ok (.fdiv, 1)) (h0 : FP.fdiv a b &&& 0x7fffffff ≤ 0x7f800000) (hk : WG x (pc + 1) ls (.inl (.float (FP.fdiv a b)) :: st) G u) : WG x pc ls (.inl (.float b) :: .inl (.float a) :: st) G u := by
  obtain ⟨⟨p, l, e, R, s, m, args, below, meth, c, Q⟩, ⟨D, cs, b, ad, adV, sc, L, XT⟩, cc, nL, own, c0, s0, seg, lv⟩ := x
  obtain ⟨hx, hb, hml, hown, hts, hKS, hbs, hL, hlocks, hR1, hR2, hR3, hR4⟩ := hF
  intro H locs cells slots sl hP hS hl h1 h2
  have hk := hk H locs cells slots sl hP hS hl h1 h2
  exact lv_fdiv hx hb hd h0 hk
theorem sd_ddiv {a b : UInt64} (hF : FX x) (hd : decode (cxC x) pc = .ok (.ddiv, 1)) (h0 : FP.ddiv a b &&& 0x7fffffffffffffff ≤ 0x7ff0000000000000) (hk : WG x (pc + 1) ls (.inl (.double (FP.ddiv a b)) :: st) G u) : WG x pc ls (.inl (.double b) :: .inl (.double a) :: st) G u := by
  obtain ⟨⟨p, l, e, R, s, m, args, below, meth, c, Q⟩, ⟨D, cs, b, ad, adV, sc, L, XT⟩, cc, nL, own, c0, s0, seg, lv⟩ := x
  obtain ⟨hx, hb, hml, hown, hts, hKS, hbs, hL, hlocks, hR1, hR2, hR3, hR4⟩ := hF
  intro H locs cells slots sl hP hS hl h1 h2
  have hk := hk H locs cells slots sl hP hS hl h1 h2
  exact lv_ddiv hx hb hd h0 hk
theorem sd_fcmp {a b : UInt32} {op : CmpOp} (hF : FX x) (hd : decode (cxC x) pc = .ok (.fcmp op, 1)) (hk : WG x (pc + 1) ls (.inl (.int (Op.cmpValue (FP.fcmp a b) op)) :: st) G u) : WG x pc ls (.inl (.float b) :: .inl (.float a) :: st) G u := by
  obtain ⟨⟨p, l, e, R, s, m, args, below, meth, c, Q⟩, ⟨D, cs, b, ad, adV, sc, L, XT⟩, cc, nL, own, c0, s0, seg, lv⟩ := x
  obtain ⟨hx, hb, hml, hown, hts, hKS, hbs, hL, hlocks, hR1, hR2, hR3, hR4⟩ := hF
  intro H locs cells slots sl hP hS hl h1 h2
  have hk := hk H locs cells slots sl hP hS hl h1 h2
  exact lv_fcmp hx hb hd hk
theorem sd_dcmp {a b : UInt64} {op : CmpOp} (hF : FX x) (hd : decode (cxC x) pc = .ok (.dcmp op, 1)) (hk : WG x (pc + 1) ls (.inl (.int (Op.cmpValue (FP.dcmp a b) op)) :: st) G u) : WG x pc ls (.inl (.double b) :: .inl (.double a) :: st) G u := by
  obtain ⟨⟨p, l, e, R, s, m, args, below, meth, c, Q⟩, ⟨D, cs, b, ad, adV, sc, L, XT⟩, cc, nL, own, c0, s0, seg, lv⟩ := x
  obtain ⟨hx, hb, hml, hown, hts, hKS, hbs, hL, hlocks, hR1, hR2, hR3, hR4⟩ := hF
  intro H locs cells slots sl hP hS hl h1 h2
  have hk := hk H locs cells slots sl hP hS hl h1 h2
  exact lv_dcmp hx hb hd hk
theorem sd_lcmp {a b : Int64} (hF : FX x) (hd : decode (cxC x) pc = .ok (.lcmp, 1)) (hk : WG x (pc + 1) ls (.inl (.int (lg_cmp a b)) :: st) G u) : WG x pc ls (.inl (.long b) :: .inl (.long a) :: st) G u := by
  obtain ⟨⟨p, l, e, R, s, m, args, below, meth, c, Q⟩, ⟨D, cs, b, ad, adV, sc, L, XT⟩, cc, nL, own, c0, s0, seg, lv⟩ := x
  obtain ⟨hx, hb, hml, hown, hts, hKS, hbs, hL, hlocks, hR1, hR2, hR3, hR4⟩ := hF
  intro H locs cells slots sl hP hS hl h1 h2
  have hk := hk H locs cells slots sl hP hS hl h1 h2
  exact W.lcmp hx hb hd hk
theorem ai_cat_eq (ad : Rf → Nat) (v : AV) : ai_cat v = (rv ad v).category := by cases v <;> rfl
theorem sd_dup {v : AV} (hF : FX x) (hd : decode (cxC x) pc = .ok (.dup, 1)) (hc : ai_cat v = 1) (hk : WG x (pc + 1) ls (v :: v :: st) G u) : WG x pc ls (v :: st) G u := by
  obtain ⟨⟨p, l, e, R, s, m, args, below, meth, c, Q⟩, ⟨D, cs, b, ad, adV, sc, L, XT⟩, cc, nL, own, c0, s0, seg, lv⟩ := x
  obtain ⟨hx, hb, hml, hown, hts, hKS, hbs, hL, hlocks, hR1, hR2, hR3, hR4⟩ := hF
  intro H locs cells slots sl hP hS hl h1 h2
  have hk := hk H locs cells slots sl hP hS hl h1 h2
  have h0 : (rv ad v).category = 1 := (ai_cat_eq ad v) ▸ hc
  exact lv_dup hx hb hd h0 hk
theorem sd_dup2 {v w : AV} (hF : FX x) (hd : decode (cxC x) pc = .ok (.dup2, 1)) (hc : ai_cat v = 1) (hc2 : ai_cat w = 1) (hk : WG x (pc + 1) ls (v :: w :: v :: w :: st) G u) : WG x pc ls (v :: w :: st) G u := by
  obtain ⟨⟨p, l, e, R, s, m, args, below, meth, c, Q⟩, ⟨D, cs, b, ad, adV, sc, L, XT⟩, cc, nL, own, c0, s0, seg, lv⟩ := x
  obtain ⟨hx, hb, hml, hown, hts, hKS, hbs, hL, hlocks, hR1, hR2, hR3, hR4⟩ := hF
  intro H locs cells slots sl hP hS hl h1 h2
  have hk := hk H locs cells slots sl hP hS hl h1 h2
  have h0 : (rv ad v).category = 1 := (ai_cat_eq ad v) ▸ hc
  have h00 : (rv ad w).category = 1 := (ai_cat_eq ad w) ▸ hc2
  exact lv_dup2_11 hx hb hd h0 h00 hk
theorem sd_pop {v : AV} (hF : FX x) (hd : decode (cxC x) pc = .ok (.pop, 1)) (hc : ai_cat v = 1) (hk : WG x (pc + 1) ls (st) G u) : WG x pc ls (v :: st) G u := by
  obtain ⟨⟨p, l, e, R, s, m, args, below, meth, c, Q⟩, ⟨D, cs, b, ad, adV, sc, L, XT⟩, cc, nL, own, c0, s0, seg, lv⟩ := x
  obtain ⟨hx, hb, hml, hown, hts, hKS, hbs, hL, hlocks, hR1, hR2, hR3, hR4⟩ := hF
  intro H locs cells slots sl hP hS hl h1 h2
  have hk := hk H locs cells slots sl hP hS hl h1 h2
  have h0 : (rv ad v).category = 1 := (ai_cat_eq ad v) ▸ hc
  exact lv_pop hx hb hd h0 hk
theorem sd_iinc {i : Nat} {n : Int} {a : Int32} (hF : FX x) (hd : decode (cxC x) pc = .ok (.iinc i n, 3)) (hi : ls[i]? = some (some (.inl (.int a)))) (hbl : ai_below i ls = true) (hil : i + 1 ≤ ls.length) (hk : WG x (pc + 3) (ls.set i (some (.inl (.int (a + Int32.ofInt n))))) st G u) : WG x pc ls st G u := by
  obtain ⟨⟨p, l, e, R, s, m, args, below, meth, c, Q⟩, ⟨D, cs, b, ad, adV, sc, L, XT⟩, cc, nL, own, c0, s0, seg, lv⟩ := x
  obtain ⟨hx, hb, hml, hown, hts, hKS, hbs, hL, hlocks, hR1, hR2, hR3, hR4⟩ := hF
  intro H locs cells slots sl hP hS hl h1 h2
  have hn : i < nL := by rw [← hl.1]; omega
  have hm : (i, Value.int a) ∈ toL ad 0 ls := (toL_mem ls 0 _).mpr ⟨i, _, hi, by rw [Nat.zero_add]; rfl⟩
  obtain ⟨k, hk2⟩ := List.getElem?_of_mem hm
  exact lv_iinc hx hb hd hl.2 (k := k) hk2 rfl hn rfl (fun sl' h => hk H locs cells slots sl' hP hS (LV_set hl.1 hbl h) h1 h2)
theorem sd_if_eq {a : Int32} {off : Int} {tgt : Nat} (hF : FX x) (hd : decode (cxC x) pc = .ok (.ifCond .eq off, 3)) (ht : (pc : Int) + off = (tgt : Int)) (kt : a = 0 → WG x tgt ls st G u) (kf : ¬ a = 0 → WG x (pc + 3) ls st G u) : WG x pc ls (.inl (.int a) :: st) G u := by
  obtain ⟨⟨p, l, e, R, s, m, args, below, meth, c, Q⟩, ⟨D, cs, b, ad, adV, sc, L, XT⟩, cc, nL, own, c0, s0, seg, lv⟩ := x
  obtain ⟨hx, hb, hml, hown, hts, hKS, hbs, hL, hlocks, hR1, hR2, hR3, hR4⟩ := hF
  intro H locs cells slots sl hP hS hl h1 h2
  exact lv_if_eq hx hb hd ht (fun z => kt z H locs cells slots sl hP hS hl h1 h2) (fun z => kf z H locs cells slots sl hP hS hl h1 h2)
theorem sd_icmp_eq {a b : Int32} {off : Int} {tgt : Nat} (hF : FX x) (hd : decode (cxC x) pc = .ok (.if_icmp .eq off, 3)) (ht : (pc : Int) + off = (tgt : Int)) (kt : a = b → WG x tgt ls st G u) (kf : ¬ a = b → WG x (pc + 3) ls st G u) : WG x pc ls (.inl (.int b) :: .inl (.int a) :: st) G u := by
  obtain ⟨⟨p, l, e, R, s, m, args, below, meth, c, Q⟩, ⟨D, cs, b, ad, adV, sc, L, XT⟩, cc, nL, own, c0, s0, seg, lv⟩ := x
  obtain ⟨hx, hb, hml, hown, hts, hKS, hbs, hL, hlocks, hR1, hR2, hR3, hR4⟩ := hF
  intro H locs cells slots sl hP hS hl h1 h2
  exact lv_icmp_eq hx hb hd ht (fun z => kt z H locs cells slots sl hP hS hl h1 h2) (fun z => kf z H locs cells slots sl hP hS hl h1 h2)
theorem sd_if_ne {a : Int32} {off : Int} {tgt : Nat} (hF : FX x) (hd : decode (cxC x) pc = .ok (.ifCond .ne off, 3)) (ht : (pc : Int) + off = (tgt : Int)) (kt : ¬ a = 0 → WG x tgt ls st G u) (kf : a = 0 → WG x (pc + 3) ls st G u) : WG x pc ls (.inl (.int a) :: st) G u := by
  obtain ⟨⟨p, l, e, R, s, m, args, below, meth, c, Q⟩, ⟨D, cs, b, ad, adV, sc, L, XT⟩, cc, nL, own, c0, s0, seg, lv⟩ := x
  obtain ⟨hx, hb, hml, hown, hts, hKS, hbs, hL, hlocks, hR1, hR2, hR3, hR4⟩ := hF
  intro H locs cells slots sl hP hS hl h1 h2
  exact lv_if_ne hx hb hd ht (fun z => kt z H locs cells slots sl hP hS hl h1 h2) (fun z => kf z H locs cells slots sl hP hS hl h1 h2)
theorem sd_icmp_ne {a b : Int32} {off : Int} {tgt : Nat} (hF : FX x) (hd : decode (cxC x) pc = .ok (.if_icmp .ne off, 3)) (ht : (pc : Int) + off = (tgt : Int)) (kt : ¬ a = b → WG x tgt ls st G u) (kf : a = b → WG x (pc + 3) ls st G u) : WG x pc ls (.inl (.int b) :: .inl (.int a) :: st) G u := by
  obtain ⟨⟨p, l, e, R, s, m, args, below, meth, c, Q⟩, ⟨D, cs, b, ad, adV, sc, L, XT⟩, cc, nL, own, c0, s0, seg, lv⟩ := x
  obtain ⟨hx, hb, hml, hown, hts, hKS, hbs, hL, hlocks, hR1, hR2, hR3, hR4⟩ := hF
  intro H locs cells slots sl hP hS hl h1 h2
  exact lv_icmp_ne hx hb hd ht (fun z => kt z H locs cells slots sl hP hS hl h1 h2) (fun z => kf z H locs cells slots sl hP hS hl h1 h2)
theorem sd_if_lt {a : Int32} {off : Int} {tgt : Nat} (hF : FX x) (hd : decode (cxC x) pc = .ok (.ifCond .lt off, 3)) (ht : (pc : Int) + off = (tgt : Int)) (kt : a < 0 → WG x tgt ls st G u) (kf : ¬ a < 0 → WG x (pc + 3) ls st G u) : WG x pc ls (.inl (.int a) :: st) G u := by
  obtain ⟨⟨p, l, e, R, s, m, args, below, meth, c, Q⟩, ⟨D, cs, b, ad, adV, sc, L, XT⟩, cc, nL, own, c0, s0, seg, lv⟩ := x
  obtain ⟨hx, hb, hml, hown, hts, hKS, hbs, hL, hlocks, hR1, hR2, hR3, hR4⟩ := hF
  intro H locs cells slots sl hP hS hl h1 h2
  exact lv_if_lt hx hb hd ht (fun z => kt z H locs cells slots sl hP hS hl h1 h2) (fun z => kf z H locs cells slots sl hP hS hl h1 h2)
theorem sd_icmp_lt {a b : Int32} {off : Int} {tgt : Nat} (hF : FX x) (hd : decode (cxC x) pc = .ok (.if_icmp .lt off, 3)) (ht : (pc : Int) + off = (tgt : Int)) (kt : a < b → WG x tgt ls st G u) (kf : ¬ a < b → WG x (pc + 3) ls st G u) : WG x pc ls (.inl (.int b) :: .inl (.int a) :: st) G u := by
  obtain ⟨⟨p, l, e, R, s, m, args, below, meth, c, Q⟩, ⟨D, cs, b, ad, adV, sc, L, XT⟩, cc, nL, own, c0, s0, seg, lv⟩ := x
  obtain ⟨hx, hb, hml, hown, hts, hKS, hbs, hL, hlocks, hR1, hR2, hR3, hR4⟩ := hF
  intro H locs cells slots sl hP hS hl h1 h2
  exact lv_icmp_lt hx hb hd ht (fun z => kt z H locs cells slots sl hP hS hl h1 h2) (fun z => kf z H locs cells slots sl hP hS hl h1 h2)
theorem sd_if_ge {a : Int32} {off : Int} {tgt : Nat} (hF : FX x) (hd : decode (cxC x) pc = .ok (.ifCond .ge off, 3)) (ht : (pc : Int) + off = (tgt : Int)) (kt : 0 ≤ a → WG x tgt ls st G u) (kf : ¬ 0 ≤ a → WG x (pc + 3) ls st G u) : WG x pc ls (.inl (.int a) :: st) G u := by
  obtain ⟨⟨p, l, e, R, s, m, args, below, meth, c, Q⟩, ⟨D, cs, b, ad, adV, sc, L, XT⟩, cc, nL, own, c0, s0, seg, lv⟩ := x
  obtain ⟨hx, hb, hml, hown, hts, hKS, hbs, hL, hlocks, hR1, hR2, hR3, hR4⟩ := hF
  intro H locs cells slots sl hP hS hl h1 h2
  exact lv_if_ge hx hb hd ht (fun z => kt z H locs cells slots sl hP hS hl h1 h2) (fun z => kf z H locs cells slots sl hP hS hl h1 h2)
theorem sd_icmp_ge {a b : Int32} {off : Int} {tgt : Nat} (hF : FX x) (hd : decode (cxC x) pc = .ok (.if_icmp .ge off, 3)) (ht : (pc : Int) + off = (tgt : Int)) (kt : b ≤ a → WG x tgt ls st G u) (kf : ¬ b ≤ a → WG x (pc + 3) ls st G u) : WG x pc ls (.inl (.int b) :: .inl (.int a) :: st) G u := by
  obtain ⟨⟨p, l, e, R, s, m, args, below, meth, c, Q⟩, ⟨D, cs, b, ad, adV, sc, L, XT⟩, cc, nL, own, c0, s0, seg, lv⟩ := x
  obtain ⟨hx, hb, hml, hown, hts, hKS, hbs, hL, hlocks, hR1, hR2, hR3, hR4⟩ := hF
  intro H locs cells slots sl hP hS hl h1 h2
  exact lv_icmp_ge hx hb hd ht (fun z => kt z H locs cells slots sl hP hS hl h1 h2) (fun z => kf z H locs cells slots sl hP hS hl h1 h2)
theorem sd_if_gt {a : Int32} {off : Int} {tgt : Nat} (hF : FX x) (hd : decode (cxC x) pc = .ok (.ifCond .gt off, 3)) (ht : (pc : Int) + off = (tgt : Int)) (kt : 0 < a → WG x tgt ls st G u) (kf : ¬ 0 < a → WG x (pc + 3) ls st G u) : WG x pc ls (.inl (.int a) :: st) G u := by
  obtain ⟨⟨p, l, e, R, s, m, args, below, meth, c, Q⟩, ⟨D, cs, b, ad, adV, sc, L, XT⟩, cc, nL, own, c0, s0, seg, lv⟩ := x
  obtain ⟨hx, hb, hml, hown, hts, hKS, hbs, hL, hlocks, hR1, hR2, hR3, hR4⟩ := hF
  intro H locs cells slots sl hP hS hl h1 h2
  exact lv_if_gt hx hb hd ht (fun z => kt z H locs cells slots sl hP hS hl h1 h2) (fun z => kf z H locs cells slots sl hP hS hl h1 h2)
theorem sd_icmp_gt {a b : Int32} {off : Int} {tgt : Nat} (hF : FX x) (hd : decode (cxC x) pc = .ok (.if_icmp .gt off, 3)) (ht : (pc : Int) + off = (tgt : Int)) (kt : b < a → WG x tgt ls st G u) (kf : ¬ b < a → WG x (pc + 3) ls st G u) : WG x pc ls (.inl (.int b) :: .inl (.int a) :: st) G u := by
  obtain ⟨⟨p, l, e, R, s, m, args, below, meth, c, Q⟩, ⟨D, cs, b, ad, adV, sc, L, XT⟩, cc, nL, own, c0, s0, seg, lv⟩ := x
  obtain ⟨hx, hb, hml, hown, hts, hKS, hbs, hL, hlocks, hR1, hR2, hR3, hR4⟩ := hF
  intro H locs cells slots sl hP hS hl h1 h2
  exact lv_icmp_gt hx hb hd ht (fun z => kt z H locs cells slots sl hP hS hl h1 h2) (fun z => kf z H locs cells slots sl hP hS hl h1 h2)
theorem sd_if_le {a : Int32} {off : Int} {tgt : Nat} (hF : FX x) (hd : decode (cxC x) pc = .ok (.ifCond .le off, 3)) (ht : (pc : Int) + off = (tgt : Int)) (kt : a ≤ 0 → WG x tgt ls st G u) (kf : ¬ a ≤ 0 → WG x (pc + 3) ls st G u) : WG x pc ls (.inl (.int a) :: st) G u := by
  obtain ⟨⟨p, l, e, R, s, m, args, below, meth, c, Q⟩, ⟨D, cs, b, ad, adV, sc, L, XT⟩, cc, nL, own, c0, s0, seg, lv⟩ := x
  obtain ⟨hx, hb, hml, hown, hts, hKS, hbs, hL, hlocks, hR1, hR2, hR3, hR4⟩ := hF
  intro H locs cells slots sl hP hS hl h1 h2
  exact lv_if_le hx hb hd ht (fun z => kt z H locs cells slots sl hP hS hl h1 h2) (fun z => kf z H locs cells slots sl hP hS hl h1 h2)
theorem sd_icmp_le {a b : Int32} {off : Int} {tgt : Nat} (hF : FX x) (hd : decode (cxC x) pc = .ok (.if_icmp .le off, 3)) (ht : (pc : Int) + off = (tgt : Int)) (kt : a ≤ b → WG x tgt ls st G u) (kf : ¬ a ≤ b → WG x (pc + 3) ls st G u) : WG x pc ls (.inl (.int b) :: .inl (.int a) :: st) G u := by
  obtain ⟨⟨p, l, e, R, s, m, args, below, meth, c, Q⟩, ⟨D, cs, b, ad, adV, sc, L, XT⟩, cc, nL, own, c0, s0, seg, lv⟩ := x
  obtain ⟨hx, hb, hml, hown, hts, hKS, hbs, hL, hlocks, hR1, hR2, hR3, hR4⟩ := hF
  intro H locs cells slots sl hP hS hl h1 h2
  exact lv_icmp_le hx hb hd ht (fun z => kt z H locs cells slots sl hP hS hl h1 h2) (fun z => kf z H locs cells slots sl hP hS hl h1 h2)
theorem sd_goto {off : Int} {tgt : Nat} (hF : FX x) (hd : decode (cxC x) pc = .ok (.goto off, 3)) (ht : (pc : Int) + off = (tgt : Int)) (hk : WG x tgt ls st G u) : WG x pc ls st G u := by
  obtain ⟨⟨p, l, e, R, s, m, args, below, meth, c, Q⟩, ⟨D, cs, b, ad, adV, sc, L, XT⟩, cc, nL, own, c0, s0, seg, lv⟩ := x
  obtain ⟨hx, hb, hml, hown, hts, hKS, hbs, hL, hlocks, hR1, hR2, hR3, hR4⟩ := hF
  intro H locs cells slots sl hP hS hl h1 h2
  exact lv_goto hx hb hd ht (hk H locs cells slots sl hP hS hl h1 h2)
theorem sd_ifnullN {off : Int} {tgt : Nat} (hF : FX x) (hd : decode (cxC x) pc = .ok (.ifnull off, 3)) (ht : (pc : Int) + off = (tgt : Int)) (hk : WG x tgt ls st G u) : WG x pc ls (.inl .null :: st) G u := by
  obtain ⟨⟨p, l, e, R, s, m, args, below, meth, c, Q⟩, ⟨D, cs, b, ad, adV, sc, L, XT⟩, cc, nL, own, c0, s0, seg, lv⟩ := x
  obtain ⟨hx, hb, hml, hown, hts, hKS, hbs, hL, hlocks, hR1, hR2, hR3, hR4⟩ := hF
  intro H locs cells slots sl hP hS hl h1 h2
  exact lv_ifnullN hx hb hd ht (hk H locs cells slots sl hP hS hl h1 h2)
theorem sd_ifnull {r : Rf} {off : Int} (hF : FX x) (hd : decode (cxC x) pc = .ok (.ifnull off, 3)) (hk : WG x (pc + 3) ls st G u) : WG x pc ls (.inr r :: st) G u := by
  obtain ⟨⟨p, l, e, R, s, m, args, below, meth, c, Q⟩, ⟨D, cs, b, ad, adV, sc, L, XT⟩, cc, nL, own, c0, s0, seg, lv⟩ := x
  obtain ⟨hx, hb, hml, hown, hts, hKS, hbs, hL, hlocks, hR1, hR2, hR3, hR4⟩ := hF
  intro H locs cells slots sl hP hS hl h1 h2
  exact lv_ifnull hx hb hd (hk H locs cells slots sl hP hS hl h1 h2)
/-- the place that a switch's rows send a key to -/
def sw_to : List (Int32 × Nat) → Int32 → Nat → Nat
  | [], _, d => d
  | q :: qs, v, d => if v = q.1 then q.2 else sw_to qs v d
theorem sw_eq (k : Nat → Res) : ∀ (sw : List (Int32 × Nat)) (v : Int32) (d : Nat), ai_sw sw v k d = k (sw_to sw v d)
  | [], _, _ => rfl
  | q :: qs, v, d => by
    rw [ai_sw, sw_to]
    by_cases h : v = q.1
    · rw [if_pos h, if_pos h]
    · rw [if_neg h, if_neg h]; exact sw_eq k qs v d
/-- a tableswitch's rows are its offsets' -/
def sw_tab (pc : Nat) (dflt lo hi : Int) (offs : Array Int) (sw : List (Int32 × Nat)) (d : Nat) : Prop := (pc : Int) + dflt = (d : Int) ∧ ∀ v : Int32, (v.toInt < lo ∨ hi < v.toInt → sw_to sw v d = d) ∧
  (¬ v.toInt < lo → ¬ hi < v.toInt → ∃ off, offs[(v.toInt - lo).toNat]? = some off ∧ (pc : Int) + off = (sw_to sw v d : Int))
def sw_lok (pc : Nat) (dflt : Int) (ps : Array (Int × Int)) (sw : List (Int32 × Nat)) (d : Nat) : Prop := (ps.toList.zip (ps.toList.drop 1)).all (fun (a, next) => a.1 < next.1) = true ∧ ∀ v : Int32, (pc : Int) + Op.lookupswitch.offset ps.toList dflt v.toInt = (sw_to sw v d : Int)
theorem sd_tab {dflt lo hi : Int} {offs : Array Int} {len d : Nat} {a : Int32} {sw : List (Int32 × Nat)} (hF : FX x) (hd : decode (cxC x) pc = .ok (.tableswitch dflt lo hi offs, len)) (h : sw_tab pc dflt lo hi offs sw d) (hk : WG x (sw_to sw a d) ls st G u) : WG x pc ls (.inl (.int a) :: st) G u := by
  obtain ⟨⟨p, l, e, R, s, m, args, below, meth, c, Q⟩, ⟨D, cs, b, ad, adV, sc, L, XT⟩, cc, nL, own, c0, s0, seg, lv⟩ := x
  obtain ⟨hx, hb, hml, hown, hts, hKS, hbs, hL, hlocks, hR1, hR2, hR3, hR4⟩ := hF
  intro H locs cells slots sl hP hS hl h1 h2
  have hk := hk H locs cells slots sl hP hS hl h1 h2
  obtain ⟨h3, h4⟩ := h
  obtain ⟨h5, h6⟩ := h4 a
  by_cases q1 : a.toInt < lo
  · rw [h5 (Or.inl q1)] at hk
    exact lv_tableOut hx hb hd (Or.inl q1) h3 hk
  · by_cases q2 : hi < a.toInt
    · rw [h5 (Or.inr q2)] at hk
      exact lv_tableOut hx hb hd (Or.inr q2) h3 hk
    · obtain ⟨off, h7, h8⟩ := h6 q1 q2
      exact lv_tableIn hx hb hd q1 q2 h7 h8 hk
theorem sd_look {dflt : Int} {ps : Array (Int × Int)} {len d : Nat} {a : Int32} {sw : List (Int32 × Nat)} (hF : FX x) (hd : decode (cxC x) pc = .ok (.lookupswitch dflt ps, len)) (h : sw_lok pc dflt ps sw d) (hk : WG x (sw_to sw a d) ls st G u) : WG x pc ls (.inl (.int a) :: st) G u := by
  obtain ⟨⟨p, l, e, R, s, m, args, below, meth, c, Q⟩, ⟨D, cs, b, ad, adV, sc, L, XT⟩, cc, nL, own, c0, s0, seg, lv⟩ := x
  obtain ⟨hx, hb, hml, hown, hts, hKS, hbs, hL, hlocks, hR1, hR2, hR3, hR4⟩ := hF
  intro H locs cells slots sl hP hS hl h1 h2
  exact lv_lookup hx hb hd h.1 rfl (h.2 a) (hk H locs cells slots sl hP hS hl h1 h2)
end Ar
end
section
/-! Soundness of the steps: fields and arrays -/
theorem cls_in : ∀ (ci : Nat) (q : vw_C), cls_[ci]? = some q → ∀ w ∈ u_ws q.1 q.2.1 q.2.2, w ∈ lw_all := by
  have h : ∀ q ∈ cls_, ∀ w ∈ u_ws q.1 q.2.1 q.2.2, w ∈ lw_all := by decide +kernel
  exact fun ci q hq => h q (List.mem_of_getElem? hq)
def tyC (ci : Nat) : Nat → FieldType := match ci with
  | 0 => tyX6 | 1 => tyX3 | 2 => tyX0 | 3 => tyX5 | 4 => tyX4 | 5 => tyX1 | 6 => tyX2 | 7 => tyX7 | _ => tyJ4
theorem cls_ty : ∀ (ci : Nat) (q : vw_C), cls_[ci]? = some q → ∀ k, k < q.2.2 → parseFieldDescriptor (q.2.1 k).2.2.1 = some (tyC ci k) := by
  have h : ∀ ci, ci < 9 → ∀ q, cls_[ci]? = some q → ∀ k, k < q.2.2 → parseFieldDescriptor (q.2.1 k).2.2.1 = some (tyC ci k) := by
    intro ci hci q hq
    match ci, hci with
    | 0, _ => cases hq; exact tyX6_ok
    | 1, _ => cases hq; exact tyX3_ok
    | 2, _ => cases hq; exact tyX0_ok
    | 3, _ => cases hq; exact tyX5_ok
    | 4, _ => cases hq; exact tyX4_ok
    | 5, _ => cases hq; exact tyX1_ok
    | 6, _ => cases hq; exact tyX2_ok
    | 7, _ => cases hq; exact tyX7_ok
    | 8, _ => cases hq; exact tyJ4_ok
  intro ci q hq
  exact h ci (List.getElem?_eq_some_iff.mp hq).1 q hq
theorem cls_nm : ∀ (ci : Nat) (q : vw_C), cls_[ci]? = some q → ∀ a, a < q.2.2 → ∀ b, b < q.2.2 → a ≠ b → (q.2.1 a).2.1 ≠ (q.2.1 b).2.1 := by
  have h : ∀ ci, ci < 9 → ∀ q, cls_[ci]? = some q → ∀ a, a < q.2.2 → ∀ b, b < q.2.2 → a ≠ b → (q.2.1 a).2.1 ≠ (q.2.1 b).2.1 := by
    intro ci hci q hq
    match ci, hci with
    | 0, _ => cases hq; exact nmX6
    | 1, _ => cases hq; exact nmX3
    | 2, _ => cases hq; exact nmX0
    | 3, _ => cases hq; exact nmX5
    | 4, _ => cases hq; exact nmX4
    | 5, _ => cases hq; exact nmX1
    | 6, _ => cases hq; exact nmX2
    | 7, _ => cases hq; exact nmX7
    | 8, _ => cases hq; exact nmJ4
  intro ci q hq
  exact h ci (List.getElem?_eq_some_iff.mp hq).1 q hq
theorem kd_cls {k ci nf : Nat} (h : kd k = some (.inl (ci, nf))) : ∃ q : vw_C, cls_[ci]? = some q ∧ q.2.2 = nf := by
  unfold kd at h
  split at h <;> first | (cases h; exact ⟨_, rfl, rfl⟩) | cases h
/-- a field's link: plain, or of a nest mate -/
def FLk (own : String) (idx x : Nat) : Prop := ∃ q : vw_C, cls_[x / 64]? = some q ∧ (Cond.fieldLink own idx (q.2.1 (x / 2 % 32)).1 (q.2.1 (x / 2 % 32)).2.1 (q.2.1 (x / 2 % 32)).2.2.1 ∈ lw_all ∨ ∃ host, Cond.fieldLinkNest own idx (q.2.1 (x / 2 % 32)).1 (q.2.1 (x / 2 % 32)).2.1 (q.2.1 (x / 2 % 32)).2.2.1 host ∈ nw_all)
def PLk (own : String) (idx x : Nat) : Prop := FLk own idx x ∧ ∃ q : vw_C, cls_[x / 64]? = some q ∧ (q.2.1 (x / 2 % 32)).2.2.2 = false ∧ parseFieldDescriptor (q.2.1 (x / 2 % 32)).2.2.1 = some (match x % 2 with | 0 => .int | _ => .boolean)
theorem ent_o {cs : Nat → ClassId} {ad : Rf → Nat} {G : GS} {r : Rf} {ci n : Nat} (h : kd r.2 = some (.inl (ci, n))) : ent cs ad G r = .inr (ci, (List.range n).map (fv ad G r)) := by rw [ent, h]
theorem ent_a {cs : Nat → ClassId} {ad : Rf → Nat} {G : GS} {r : Rf} {t n : Nat} (h : kd r.2 = some (.inr (t, n))) : ent cs ad G r = .inl (cs t, n, entA ad G r t) := by rw [ent, h]
theorem fv_at {ad : Rf → Nat} {G : GS} {r : Rf} {n f : Nat} (h : f < n) : ((List.range n).map (fv ad G r))[f]? = some (fv ad G r f) := by
  rw [List.getElem?_map, List.getElem?_range h]; rfl
theorem gi_si {G : GS} {r q : Rf} {f j : Nat} {v : Int32} : gi (si G r f v) q j = if q = r ∧ j = f then v else gi G q j := rfl
theorem ga_sa {G : GS} {r q : Rf} {f j : Nat} {v : Int32} : ga (sa G r f v) q j = if q = r ∧ j = f then v else ga G q j := rfl
theorem ent_si {cs : Nat → ClassId} {ad : Rf → Nat} {G : GS} {r q : Rf} {f : Nat} {v : Int32} (h : q ≠ r) : ent cs ad (si G r f v) q = ent cs ad G q := by
  have e1 : fv ad (si G r f v) q = fv ad G q := by
    funext j
    rw [fv, fv, gi_si, if_neg (fun z => h z.1)]
  have e2 : ∀ t, entA ad (si G r f v) q t = entA ad G q t := fun t => by
    unfold entA; split <;> rfl
  unfold ent
  split <;> simp only [e1, e2]
theorem ent_si_same {cs : Nat → ClassId} {ad : Rf → Nat} {G : GS} {r : Rf} {ci n f : Nat} {v : Int32} (h : kd r.2 = some (.inl (ci, n))) (hf : f < n) (hg : gr r f = none) : (.inr (ci, ((List.range n).map (fv ad G r)).set f (.int v)) : va_E) = ent cs ad (si G r f v) r := by
  rw [ent_o h]
  congr 2
  apply List.ext_getElem?
  intro j
  by_cases e : f = j
  · subst e
    rw [List.getElem?_set_self (by simpa using hf), fv_at hf, fv, hg]
    show _ = some (Value.int (gi _ _ _))
    rw [gi_si, if_pos ⟨rfl, rfl⟩]
  · rw [List.getElem?_set_ne e, List.getElem?_map, List.getElem?_map]
    by_cases hj : j < n
    · rw [List.getElem?_range hj]
      show some (fv ad G r j) = some (fv ad (si G r f v) r j)
      unfold fv
      cases gr r j with
      | some q => rfl
      | none =>
        show some (Value.int (gi G r j)) = some (Value.int (gi _ _ _))
        rw [gi_si, if_neg (fun z => e z.2.symm)]
    · rw [List.getElem?_eq_none (by simpa using hj)]
      rfl
theorem ent_sa {cs : Nat → ClassId} {ad : Rf → Nat} {G : GS} {r q : Rf} {f : Nat} {v : Int32} (h : q ≠ r) : ent cs ad (sa G r f v) q = ent cs ad G q := by
  have e1 : fv ad (sa G r f v) q = fv ad G q := by
    funext j
    unfold fv; rfl
  have e3 : ga (sa G r f v) q = ga G q := by
    funext j
    rw [ga_sa, if_neg (fun z => h z.1)]
  have e2 : ∀ t, entA ad (sa G r f v) q t = entA ad G q t := fun t => by
    unfold entA; split <;> first | (simp only [e3]; done) | rfl
  unfold ent
  split <;> simp only [e1, e2]
theorem ent_sa_same {cs : Nat → ClassId} {ad : Rf → Nat} {G : GS} {r : Rf} {t n f : Nat} {v : Int32} (h : kd r.2 = some (.inr (t, n))) (ht : t = 0 ∨ t = 1) : (.inl (cs t, n, .inl (upd (ga G r) f v)) : va_E) = ent cs ad (sa G r f v) r := by
  rw [ent_a h]
  have e : upd (ga G r) f v = ga (sa G r f v) r := by
    funext j
    rw [ga_sa, upd]
    by_cases q : j = f
    · rw [if_pos q, if_pos ⟨rfl, q⟩]
    · rw [if_neg q, if_neg (fun z => q z.2)]
  rcases ht with rfl | rfl <;> rw [e] <;> rfl
theorem inb_in {i : Int32} {n : Nat} (h : inb i n = true) : vp_in i n := by
  unfold inb at h
  rw [Bool.and_eq_true] at h
  obtain ⟨h1, h2⟩ := h
  intro z
  rcases z with z | z
  · simp [z] at h1
  · have : i.toNatClampNeg < n := Nat.le_of_ble_eq_true h2
    omega
section Hp
variable {x : CX} {pc : Nat} {ls : Ls} {st : List AV} {G : GS} {u : Nat}
theorem sd_get {idx y : Nat} {r : Rf} {ci n : Nat} (hF : FX x) (hd : decode (cxC x) pc = .ok (.getfield idx, 3)) (hlk : FLk (cxO x) idx y) (hv : vA (cxL x) (.inr r)) (hkd : kd r.2 = some (.inl (ci, n))) (hci : ci = y / 64) (hf : y / 2 % 32 < n)
    (hk : ∀ v, (gr r (y / 2 % 32) = some v → vA (cxL x) (.inr v)) → WG x (pc + 3) ls ((match gr r (y / 2 % 32) with | some q => .inr q | none => .inl (.int (gi G r (y / 2 % 32)))) :: st) G u) : WG x pc ls (.inr r :: st) G u := by
  obtain ⟨⟨p, l, e, R, s, m, args, below, meth, c, Q⟩, ⟨D, cs, b, ad, adV, sc, L, XT⟩, cc, nL, own, c0, s0, seg, lv⟩ := x
  obtain ⟨hx, hb, hml, hown, hts, hKS, hbs, hL, hlocks, hR1, hR2, hR3, hR4⟩ := hF
  intro H locs cells slots sl hP hS hl h1 h2
  have hP0 := hP
  obtain ⟨w0, hXT, hP, hD⟩ := hP
  have hr : r ∈ L := hv (by rw [hkd]; rfl)
  have hk := hk (0, 0) (fun z => hL.2.1 r hr _ _ z) H locs cells slots sl hP0 hS hl h1 h2
  obtain ⟨k, hk1, -⟩ := cells_get (cs := cs) (ad := ad) hL.1 hr G w0
  rw [ent_o hkd] at hk1
  obtain ⟨⟨C, T, N⟩, hq, hq2⟩ := hlk
  obtain ⟨q9, hq9, hN⟩ := kd_cls hkd
  rw [hci] at hq9
  cases hq.symm.trans hq9
  subst hN
  have hval : rv ad (match gr r (y / 2 % 32) with | some q => .inr q | none => .inl (.int (gi G r (y / 2 % 32)))) = fv ad G r (y / 2 % 32) := by
    unfold fv; cases gr r (y / 2 % 32) <;> rfl
  rw [List.map_cons, hval] at hk
  rw [List.map_cons]
  show W p l e R s m args below meth c H locs cells slots Q (F0 m pc sl (.ref (ad r) :: st.map (rv ad)))
  rcases hq2 with hq2 | ⟨host, hq2⟩
  · exact va_get (D := D) hx hb hts (cls_in _ _ (hci ▸ hq)) hown hKS.1 hP k hk1 (hci ▸ hq) _ hf (hts _ hq2) (fun _ h9 => h9) (fv_at hf) hd hk
  · exact va_getN (D := D) hx hb hts (cls_in _ _ (hci ▸ hq)) hown hKS.1 hP k hk1 (hci ▸ hq) _ hf (va_Nw.use rfl (hKS.2.2.2.1 _ hq2)) (fun _ h9 => h9) (fv_at hf) hd hk
theorem sd_put {idx y : Nat} {r : Rf} {ci n : Nat} {v : Int32} (hF : FX x) (hd : decode (cxC x) pc = .ok (.putfield idx, 3)) (hlk : PLk (cxO x) idx y) (hv : vA (cxL x) (.inr r)) (hkd : kd r.2 = some (.inl (ci, n))) (hci : ci = y / 64) (hf : y / 2 % 32 < n) (hg : gr r (y / 2 % 32) = none) (hz : y % 2 = 0 ∨ v = 0 ∨ v = 1)
    (hk : WG x (pc + 3) ls st (si G r (y / 2 % 32) v) u) : WG x pc ls (.inl (.int v) :: .inr r :: st) G u := by
  obtain ⟨⟨p, l, e, R, s, m, args, below, meth, c, Q⟩, ⟨D, cs, b, ad, adV, sc, L, XT⟩, cc, nL, own, c0, s0, seg, lv⟩ := x
  obtain ⟨hx, hb, hml, hown, hts, hKS, hbs, hL, hlocks, hR1, hR2, hR3, hR4⟩ := hF
  intro H locs cells slots sl hP hS hl h1 h2
  have hP0 := hP
  obtain ⟨w0, hXT, hP, hD⟩ := hP
  have hr : r ∈ L := hv (by rw [hkd]; rfl)
  obtain ⟨k, hk1, hk2⟩ := cells_get (cs := cs) (ad := ad) hL.1 hr G w0
  have hset := hk2 (si G r (y / 2 % 32) v) _ (ent_si_same hkd hf hg) (fun q _ hq => ent_si hq)
  rw [ent_o hkd] at hk1
  obtain ⟨⟨⟨C, T, N⟩, hq, hq2⟩, ⟨C', T', N'⟩, hq', hfin, hpf⟩ := hlk
  obtain ⟨q9, hq9, hN⟩ := kd_cls hkd
  rw [hci] at hq9
  cases hq.symm.trans hq9
  cases hq.symm.trans hq'
  subst hN
  have hkk : ∀ (H1 : Heap) (locs1 : List Loc), va_P D cls_ ((cells_ cs ad L G ++ w0).set k (ad r, .inr (ci, ((List.range N).map (fv ad G r)).set (y / 2 % 32) (.int v)))) H1 → va_D (Ab b) ((cells_ cs ad L G ++ w0).set k (ad r, .inr (ci, ((List.range N).map (fv ad G r)).set (y / 2 % 32) (.int v)))) → va_S (Ab b) s.heap H1 locs1 → W p l e R s m args below meth c H1 locs1 cells slots Q (F0 m (pc + 3) sl (st.map (rv ad))) := by
    intro H1 locs1 g1 g2 g3
    rw [hset] at g1 g2
    exact hk H1 locs1 cells slots sl ⟨w0, hXT, g1, g2⟩ g3 hl h1 h2
  have hty : narrow (match y % 2 with | 0 => FieldType.int | _ => .boolean) (.int v) = .int v ∧ fits (match y % 2 with | 0 => FieldType.int | _ => .boolean) (.int v) = true := by
    rcases Nat.mod_two_eq_zero_or_one y with e2 | e2 <;> rw [e2]
    · exact ⟨rfl, rfl⟩
    · rcases hz with hz | rfl | rfl
      · omega
      · exact ⟨by decide, by decide⟩
      · exact ⟨by decide, by decide⟩
  rcases hq2 with hq2 | ⟨host, hq2⟩
  · exact va_put (D := D) hx hb hts (cls_in _ _ (hci ▸ hq)) (tyC ci) (cls_ty _ _ (hci ▸ hq)) (cls_nm _ _ (hci ▸ hq)) hown hKS.1 hP hD hS k hk1 (hci ▸ hq) _ hf (hts _ hq2) (fun _ h9 => h9) hfin hpf hty.1 hty.2 (by simpa using hf) hd hkk
  · exact va_putN (D := D) hx hb hts (cls_in _ _ (hci ▸ hq)) (tyC ci) (cls_ty _ _ (hci ▸ hq)) (cls_nm _ _ (hci ▸ hq)) hown hKS.1 hP hD hS k hk1 (hci ▸ hq) _ hf (va_Nw.use rfl (hKS.2.2.2.1 _ hq2)) (fun _ h9 => h9) hfin hpf hty.1 hty.2 (by simpa using hf) hd hkk
theorem sd_iald {r : Rf} {n : Nat} {j : Int32} (hF : FX x) (hd : decode (cxC x) pc = .ok (.iaload, 1)) (hv : vA (cxL x) (.inr r)) (hkd : kd r.2 = some (.inr (0, n))) (hin : inb j n = true)
    (hk : WG x (pc + 1) ls (.inl (.int (ga G r j.toNatClampNeg)) :: st) G u) : WG x pc ls (.inl (.int j) :: .inr r :: st) G u := by
  obtain ⟨⟨p, l, e, R, s, m, args, below, meth, c, Q⟩, ⟨D, cs, b, ad, adV, sc, L, XT⟩, cc, nL, own, c0, s0, seg, lv⟩ := x
  obtain ⟨hx, hb, hml, hown, hts, hKS, hbs, hL, hlocks, hR1, hR2, hR3, hR4⟩ := hF
  intro H locs cells slots sl hP hS hl h1 h2
  have hP0 := hP
  obtain ⟨w0, hXT, hP, hD⟩ := hP
  have hr : r ∈ L := hv (by rw [hkd]; rfl)
  obtain ⟨k, hk1, -⟩ := cells_get (cs := cs) (ad := ad) hL.1 hr G w0
  rw [ent_a hkd] at hk1
  exact va_iald (D := D) hx hb hKS.1 hP k 0 hk1 rfl (inb_in hin) hd (hk H locs cells slots sl hP0 hS hl h1 h2)
theorem sd_cald {r : Rf} {n : Nat} {j : Int32} (hF : FX x) (hd : decode (cxC x) pc = .ok (.caload, 1)) (hv : vA (cxL x) (.inr r)) (hkd : kd r.2 = some (.inr (1, n))) (hin : inb j n = true)
    (hk : WG x (pc + 1) ls (.inl (.int (ga G r j.toNatClampNeg)) :: st) G u) : WG x pc ls (.inl (.int j) :: .inr r :: st) G u := by
  obtain ⟨⟨p, l, e, R, s, m, args, below, meth, c, Q⟩, ⟨D, cs, b, ad, adV, sc, L, XT⟩, cc, nL, own, c0, s0, seg, lv⟩ := x
  obtain ⟨hx, hb, hml, hown, hts, hKS, hbs, hL, hlocks, hR1, hR2, hR3, hR4⟩ := hF
  intro H locs cells slots sl hP hS hl h1 h2
  have hP0 := hP
  obtain ⟨w0, hXT, hP, hD⟩ := hP
  have hr : r ∈ L := hv (by rw [hkd]; rfl)
  obtain ⟨k, hk1, -⟩ := cells_get (cs := cs) (ad := ad) hL.1 hr G w0
  rw [ent_a hkd] at hk1
  exact va_cald (D := D) hx hb hKS.1 hP k 1 hk1 rfl (inb_in hin) hd (hk H locs cells slots sl hP0 hS hl h1 h2)
theorem sd_sald {j : Int32} (hF : FX x) (hd : decode (cxC x) pc = .ok (.iaload, 1)) (hin : inb j (cxS x).1 = true)
    (hk : WG x (pc + 1) ls (.inl (.int ((cxS x).2 j.toNatClampNeg)) :: st) G u) : WG x pc ls (.inl (.int j) :: .inr (0, 250) :: st) G u := by
  obtain ⟨⟨p, l, e, R, s, m, args, below, meth, c, Q⟩, ⟨D, cs, b, ad, adV, sc, L, XT⟩, cc, nL, own, c0, s0, seg, lv⟩ := x
  obtain ⟨hx, hb, hml, hown, hts, hKS, hbs, hL, hlocks, hR1, hR2, hR3, hR4⟩ := hF
  intro H locs cells slots sl hP hS hl h1 h2
  have hP0 := hP
  obtain ⟨w0, hXT, hP, hD⟩ := hP
  obtain ⟨-, -, -, -, -, -, k1, k2, k3⟩ := hKS
  exact va_sld (A := Ab b) hx hb k1 k2 (Nat.not_le.mpr k3) hS (inb_in hin) hd (hk H locs cells slots sl hP0 hS hl h1 h2)
theorem sd_slen (hF : FX x) (hd : decode (cxC x) pc = .ok (.arraylength, 1))
    (hk : WG x (pc + 1) ls (.inl (.int (Int32.ofNat (cxS x).1)) :: st) G u) : WG x pc ls (.inr (0, 250) :: st) G u := by
  obtain ⟨⟨p, l, e, R, s, m, args, below, meth, c, Q⟩, ⟨D, cs, b, ad, adV, sc, L, XT⟩, cc, nL, own, c0, s0, seg, lv⟩ := x
  obtain ⟨hx, hb, hml, hown, hts, hKS, hbs, hL, hlocks, hR1, hR2, hR3, hR4⟩ := hF
  intro H locs cells slots sl hP hS hl h1 h2
  have hP0 := hP
  obtain ⟨w0, hXT, hP, hD⟩ := hP
  obtain ⟨-, -, -, -, -, -, k1, k2, k3⟩ := hKS
  exact va_slen (A := Ab b) hx hb k1 k2 (Nat.not_le.mpr k3) hS hd (hk H locs cells slots sl hP0 hS hl h1 h2)
theorem sd_aald {r : Rf} {j : Int32} (hF : FX x) (hd : decode (cxC x) pc = .ok (.aaload, 1)) (hv : vA (cxL x) (.inr r)) (hkd : kd r.2 = some (.inr (2, 9))) (hin : inb j 9 = true)
    (hk : WG x (pc + 1) ls (.inr (j.toNatClampNeg + 2, 1) :: st) G u) : WG x pc ls (.inl (.int j) :: .inr r :: st) G u := by
  obtain ⟨⟨p, l, e, R, s, m, args, below, meth, c, Q⟩, ⟨D, cs, b, ad, adV, sc, L, XT⟩, cc, nL, own, c0, s0, seg, lv⟩ := x
  obtain ⟨hx, hb, hml, hown, hts, hKS, hbs, hL, hlocks, hR1, hR2, hR3, hR4⟩ := hF
  intro H locs cells slots sl hP hS hl h1 h2
  have hP0 := hP
  obtain ⟨w0, hXT, hP, hD⟩ := hP
  have hr : r ∈ L := hv (by rw [hkd]; rfl)
  obtain ⟨k, hk1, -⟩ := cells_get (cs := cs) (ad := ad) hL.1 hr G w0
  rw [ent_a hkd] at hk1
  exact va_aldq (D := D) hx hb hKS.1 hP k 2 hk1 rfl (inb_in hin) hd (hk H locs cells slots sl hP0 hS hl h1 h2)
theorem inb1 {j : Int32} (h : inb j 1 = true) : j.toNatClampNeg = 0 := by
  have h1 := inb_in h
  have : j.toNatClampNeg < 1 := Nat.not_le.mp (fun z => h1 (Or.inr z))
  omega
theorem sd_lald {r : Rf} {n : Nat} {j : Int32} (hF : FX x) (hd : decode (cxC x) pc = .ok (.laload, 1)) (hv : vA (cxL x) (.inr r)) (hkd : kd r.2 = some (.inr (3, 1))) (hin : inb j 1 = true)
    (hk : WG x (pc + 1) ls (.inl (.long (go_ G)) :: st) G u) : WG x pc ls (.inl (.int j) :: .inr r :: st) G u := by
  obtain ⟨⟨p, l, e, R, s, m, args, below, meth, c, Q⟩, ⟨D, cs, b, ad, adV, sc, L, XT⟩, cc, nL, own, c0, s0, seg, lv⟩ := x
  obtain ⟨hx, hb, hml, hown, hts, hKS, hbs, hL, hlocks, hR1, hR2, hR3, hR4⟩ := hF
  intro H locs cells slots sl hP hS hl h1 h2
  have hP0 := hP
  obtain ⟨w0, hXT, hP, hD⟩ := hP
  have hr : r ∈ L := hv (by rw [hkd]; rfl)
  obtain ⟨k, hk1, -⟩ := cells_get (cs := cs) (ad := ad) hL.1 hr G w0
  rw [ent_a hkd] at hk1
  exact va_lald (D := D) hx hb hKS.1 hP k 3 hk1 rfl (inb_in hin) hd (by rw [inb1 hin]; exact hk H locs cells slots sl hP0 hS hl h1 h2)
theorem sd_dald {r : Rf} {n : Nat} {j : Int32} (hF : FX x) (hd : decode (cxC x) pc = .ok (.daload, 1)) (hv : vA (cxL x) (.inr r)) (hkd : kd r.2 = some (.inr (4, 1))) (hin : inb j 1 = true)
    (hk : WG x (pc + 1) ls (.inl (.double (gd_ G)) :: st) G u) : WG x pc ls (.inl (.int j) :: .inr r :: st) G u := by
  obtain ⟨⟨p, l, e, R, s, m, args, below, meth, c, Q⟩, ⟨D, cs, b, ad, adV, sc, L, XT⟩, cc, nL, own, c0, s0, seg, lv⟩ := x
  obtain ⟨hx, hb, hml, hown, hts, hKS, hbs, hL, hlocks, hR1, hR2, hR3, hR4⟩ := hF
  intro H locs cells slots sl hP hS hl h1 h2
  have hP0 := hP
  obtain ⟨w0, hXT, hP, hD⟩ := hP
  have hr : r ∈ L := hv (by rw [hkd]; rfl)
  obtain ⟨k, hk1, -⟩ := cells_get (cs := cs) (ad := ad) hL.1 hr G w0
  rw [ent_a hkd] at hk1
  exact va_dald (D := D) hx hb hKS.1 hP k 4 hk1 rfl (inb_in hin) hd (by rw [inb1 hin]; exact hk H locs cells slots sl hP0 hS hl h1 h2)
theorem sd_iast {r : Rf} {n : Nat} {j v : Int32} (hF : FX x) (hd : decode (cxC x) pc = .ok (.iastore, 1)) (hv : vA (cxL x) (.inr r)) (hkd : kd r.2 = some (.inr (0, n))) (hin : inb j n = true)
    (hk : WG x (pc + 1) ls st (sa G r j.toNatClampNeg v) u) : WG x pc ls (.inl (.int v) :: .inl (.int j) :: .inr r :: st) G u := by
  obtain ⟨⟨p, l, e, R, s, m, args, below, meth, c, Q⟩, ⟨D, cs, b, ad, adV, sc, L, XT⟩, cc, nL, own, c0, s0, seg, lv⟩ := x
  obtain ⟨hx, hb, hml, hown, hts, hKS, hbs, hL, hlocks, hR1, hR2, hR3, hR4⟩ := hF
  intro H locs cells slots sl hP hS hl h1 h2
  have hP0 := hP
  obtain ⟨w0, hXT, hP, hD⟩ := hP
  have hr : r ∈ L := hv (by rw [hkd]; rfl)
  obtain ⟨k, hk1, hk2⟩ := cells_get (cs := cs) (ad := ad) hL.1 hr G w0
  have hset := hk2 (sa G r j.toNatClampNeg v) _ (ent_sa_same hkd (Or.inl rfl)) (fun q _ hq => ent_sa hq)
  rw [ent_a hkd] at hk1
  refine va_iast (D := D) hx hb hKS.1 hP hD hS k 0 hk1 rfl (inb_in hin) hd (fun H1 locs1 g1 g2 g3 => ?_)
  rw [hset] at g1 g2
  exact hk H1 locs1 cells slots sl ⟨w0, hXT, g1, g2⟩ g3 hl h1 h2
theorem sd_cast {r : Rf} {n : Nat} {j v : Int32} (hF : FX x) (hd : decode (cxC x) pc = .ok (.castore, 1)) (hv : vA (cxL x) (.inr r)) (hkd : kd r.2 = some (.inr (1, n))) (hin : inb j n = true)
    (hk : WG x (pc + 1) ls st (sa G r j.toNatClampNeg (vp_nar .char v)) u) : WG x pc ls (.inl (.int v) :: .inl (.int j) :: .inr r :: st) G u := by
  obtain ⟨⟨p, l, e, R, s, m, args, below, meth, c, Q⟩, ⟨D, cs, b, ad, adV, sc, L, XT⟩, cc, nL, own, c0, s0, seg, lv⟩ := x
  obtain ⟨hx, hb, hml, hown, hts, hKS, hbs, hL, hlocks, hR1, hR2, hR3, hR4⟩ := hF
  intro H locs cells slots sl hP hS hl h1 h2
  have hP0 := hP
  obtain ⟨w0, hXT, hP, hD⟩ := hP
  have hr : r ∈ L := hv (by rw [hkd]; rfl)
  obtain ⟨k, hk1, hk2⟩ := cells_get (cs := cs) (ad := ad) hL.1 hr G w0
  have hset := hk2 (sa G r j.toNatClampNeg (vp_nar .char v)) _ (ent_sa_same hkd (Or.inr rfl)) (fun q _ hq => ent_sa hq)
  rw [ent_a hkd] at hk1
  refine va_cast (D := D) hx hb hKS.1 hP hD hS k 1 hk1 rfl (inb_in hin) hd (fun H1 locs1 g1 g2 g3 => ?_)
  rw [hset] at g1 g2
  exact hk H1 locs1 cells slots sl ⟨w0, hXT, g1, g2⟩ g3 hl h1 h2
theorem kd_3 {k n : Nat} (h : kd k = some (.inr (3, n))) : k = 18 ∧ n = 1 := by
  unfold kd at h
  split at h <;> first | (cases h; exact ⟨rfl, rfl⟩) | (cases h; done)
theorem kd_4 {k n : Nat} (h : kd k = some (.inr (4, n))) : k = 19 ∧ n = 1 := by
  unfold kd at h
  split at h <;> first | (cases h; exact ⟨rfl, rfl⟩) | (cases h; done)
theorem ent_so {cs : Nat → ClassId} {ad : Rf → Nat} {G : GS} {q : Rf} {v : Int64} (h : q.2 ≠ 18) : ent cs ad (so_ G v) q = ent cs ad G q := by
  have e1 : fv ad (so_ G v) q = fv ad G q := by funext j; unfold fv; rfl
  unfold ent
  split
  · rw [e1]
  · rename_i t n hq
    have ht : t ≠ 3 := fun z => h (kd_3 (z ▸ hq)).1
    congr 3
    unfold entA
    split <;> first | rfl | (exact absurd rfl ht)
  · rfl
theorem ent_sd {cs : Nat → ClassId} {ad : Rf → Nat} {G : GS} {q : Rf} {v : UInt64} (h : ∀ t n, kd q.2 = some (.inr (t, n)) → t ≤ 3) : ent cs ad (sd_ G v) q = ent cs ad G q := by
  have e1 : fv ad (sd_ G v) q = fv ad G q := by funext j; unfold fv; rfl
  unfold ent
  split
  · rw [e1]
  · rename_i t n hq
    have ht := h t n hq
    congr 3
    rcases (show t = 0 ∨ t = 1 ∨ t = 2 ∨ t = 3 by omega) with rfl | rfl | rfl | rfl <;> rfl
  · rfl
theorem kd_t {k t n : Nat} (h : kd k = some (.inr (t, n))) : t ≤ 3 ∨ k = 19 := by
  unfold kd at h
  split at h <;> first | (cases h; exact Or.inl (by decide)) | (cases h; exact Or.inr rfl) | (cases h; done)
theorem sd_last {r : Rf} {j : Int32} {v : Int64} (hF : FX x) (hd : decode (cxC x) pc = .ok (.lastore, 1)) (hv : vA (cxL x) (.inr r)) (h18 : r.2 = 18) (hin : inb j 1 = true)
    (hk : WG x (pc + 1) ls st (so_ G v) u) : WG x pc ls (.inl (.long v) :: .inl (.int j) :: .inr r :: st) G u := by
  obtain ⟨⟨p, l, e, R, s, m, args, below, meth, c, Q⟩, ⟨D, cs, b, ad, adV, sc, L, XT⟩, cc, nL, own, c0, s0, seg, lv⟩ := x
  obtain ⟨hx, hb, hml, hown, hts, hKS, hbs, hL, hlocks, hR1, hR2, hR3, hR4⟩ := hF
  intro H locs cells slots sl hP hS hl h1 h2
  have hP0 := hP
  obtain ⟨w0, hXT, hP, hD⟩ := hP
  have hkd : kd r.2 = some (.inr (3, 1)) := by rw [h18]; rfl
  have hr : r ∈ L := hv (by rw [hkd]; rfl)
  have hr0 : r.1 = 0 := hL.2.2.2 r hr (Or.inr (Or.inl h18))
  obtain ⟨k, hk1, hk2⟩ := cells_get (cs := cs) (ad := ad) hL.1 hr G w0
  have e1 : (.inl (cs 3, 1, .inr (.inl (vp_updL (fun i => if i = 0 then go_ G else 0) j.toNatClampNeg v))) : va_E) = ent cs ad (so_ G v) r := by
    rw [ent_a hkd, inb1 hin]
    have : vp_updL (fun i => if i = 0 then go_ G else 0) 0 v = fun i => if i = 0 then go_ (so_ G v) else 0 := by
      funext i
      unfold vp_updL
      by_cases q : i = 0
      · rw [if_pos q, if_pos q]; rfl
      · rw [if_neg q, if_neg q]; exact if_neg q
    rw [this]; rfl
  have hset := hk2 (so_ G v) _ e1 (fun q hq hne => ent_so (fun z => hne (Prod.ext ((hL.2.2.2 q hq (Or.inr (Or.inl z))).trans hr0.symm) (z.trans h18.symm))))
  rw [ent_a hkd] at hk1
  refine va_last (D := D) hx hb hKS.1 hP hD hS k 3 hk1 rfl (inb_in hin) hd (fun H1 locs1 g1 g2 g3 => ?_)
  rw [hset] at g1 g2
  exact hk H1 locs1 cells slots sl ⟨w0, hXT, g1, g2⟩ g3 hl h1 h2
theorem sd_dast {r : Rf} {j : Int32} {v : UInt64} (hF : FX x) (hd : decode (cxC x) pc = .ok (.dastore, 1)) (hv : vA (cxL x) (.inr r)) (h19 : r.2 = 19) (hin : inb j 1 = true)
    (hk : WG x (pc + 1) ls st (sd_ G v) u) : WG x pc ls (.inl (.double v) :: .inl (.int j) :: .inr r :: st) G u := by
  obtain ⟨⟨p, l, e, R, s, m, args, below, meth, c, Q⟩, ⟨D, cs, b, ad, adV, sc, L, XT⟩, cc, nL, own, c0, s0, seg, lv⟩ := x
  obtain ⟨hx, hb, hml, hown, hts, hKS, hbs, hL, hlocks, hR1, hR2, hR3, hR4⟩ := hF
  intro H locs cells slots sl hP hS hl h1 h2
  have hP0 := hP
  obtain ⟨w0, hXT, hP, hD⟩ := hP
  have hkd : kd r.2 = some (.inr (4, 1)) := by rw [h19]; rfl
  have hr : r ∈ L := hv (by rw [hkd]; rfl)
  have hr0 : r.1 = 0 := hL.2.2.2 r hr (Or.inr (Or.inr h19))
  obtain ⟨k, hk1, hk2⟩ := cells_get (cs := cs) (ad := ad) hL.1 hr G w0
  have e1 : (.inl (cs 4, 1, .inr (.inr (.inr (.inl (vf_upd (fun i => if i = 0 then gd_ G else 0) j.toNatClampNeg v))))) : va_E) = ent cs ad (sd_ G v) r := by
    rw [ent_a hkd, inb1 hin]
    have : vf_upd (fun i => if i = 0 then gd_ G else 0) 0 v = fun i => if i = 0 then gd_ (sd_ G v) else 0 := by
      funext i
      unfold vf_upd
      by_cases q : i = 0
      · rw [if_pos q, if_pos q]; rfl
      · rw [if_neg q, if_neg q]; exact if_neg q
    rw [this]; rfl
  have hset := hk2 (sd_ G v) _ e1 (fun q hq hne => ent_sd (fun t n h => (kd_t h).resolve_right (fun z => hne (Prod.ext ((hL.2.2.2 q hq (Or.inr (Or.inr z))).trans hr0.symm) (z.trans h19.symm)))))
  rw [ent_a hkd] at hk1
  refine va_dast (D := D) hx hb hKS.1 hP hD hS k 4 hk1 rfl (inb_in hin) hd (fun H1 locs1 g1 g2 g3 => ?_)
  rw [hset] at g1 g2
  exact hk H1 locs1 cells slots sl ⟨w0, hXT, g1, g2⟩ g3 hl h1 h2
theorem kd_arr {k t n : Nat} (h : kd k = some (.inr (t, n))) : n < 2 ^ 31 ∧ (t = 0 ∨ t = 1 ∨ t = 2 ∨ t = 3 ∨ t = 4) := by
  unfold kd at h
  split at h <;> first | (cases h; exact ⟨by decide, by decide⟩) | (cases h; done)
theorem sd_alen {r : Rf} {t n : Nat} (hF : FX x) (hd : decode (cxC x) pc = .ok (.arraylength, 1)) (hv : vA (cxL x) (.inr r)) (hkd : kd r.2 = some (.inr (t, n)))
    (hk : WG x (pc + 1) ls (.inl (.int (Int32.ofNat n)) :: st) G u) : WG x pc ls (.inr r :: st) G u := by
  obtain ⟨⟨p, l, e, R, s, m, args, below, meth, c, Q⟩, ⟨D, cs, b, ad, adV, sc, L, XT⟩, cc, nL, own, c0, s0, seg, lv⟩ := x
  obtain ⟨hx, hb, hml, hown, hts, hKS, hbs, hL, hlocks, hR1, hR2, hR3, hR4⟩ := hF
  intro H locs cells slots sl hP hS hl h1 h2
  have hP0 := hP
  obtain ⟨w0, hXT, hP, hD⟩ := hP
  have hr : r ∈ L := hv (by rw [hkd]; rfl)
  obtain ⟨k, hk1, -⟩ := cells_get (cs := cs) (ad := ad) hL.1 hr G w0
  rw [ent_a hkd] at hk1
  have hk := hk H locs cells slots sl hP0 hS hl h1 h2
  rcases (kd_arr hkd).2 with rfl | rfl | rfl | rfl | rfl
  · exact va_alen (D := D) hx hb hKS.1 hP k 0 hk1 rfl rfl hd hk
  · exact va_alen (D := D) hx hb hKS.1 hP k 1 hk1 rfl rfl hd hk
  · exact va_alen (D := D) hx hb hKS.1 hP k 2 hk1 rfl rfl hd hk
  · exact va_alen (D := D) hx hb hKS.1 hP k 3 hk1 rfl rfl hd hk
  · exact va_alen (D := D) hx hb hKS.1 hP k 4 hk1 rfl rfl hd hk
theorem sd_ldcf {idx : Nat} (hF : FX x) (hd : decode (cxC x) pc = .ok (.ldc idx, 2)) (hc : Cond.constantFloat (cxO x) idx 1110704128 ∈ lw_all)
    (hk : WG x (pc + 2) ls (.inl (.float 1110704128) :: st) G u) : WG x pc ls st G u := by
  obtain ⟨⟨p, l, e, R, s, m, args, below, meth, c, Q⟩, ⟨D, cs, b, ad, adV, sc, L, XT⟩, cc, nL, own, c0, s0, seg, lv⟩ := x
  obtain ⟨hx, hb, hml, hown, hts, hKS, hbs, hL, hlocks, hR1, hR2, hR3, hR4⟩ := hF
  intro H locs cells slots sl hP hS hl h1 h2
  have hP0 := hP
  obtain ⟨w0, hXT, hP, hD⟩ := hP
  exact lv_ldcf hx hb hown (hts _ hc) hd (hk H locs cells slots sl hP0 hS hl h1 h2)
theorem sd_ldcs {idx k : Nat} (hF : FX x) (hd : decode (cxC x) pc = .ok (.ldc idx, 2)) (hk7 : k < 7) (ho : cxO x = "PillowBarge$Script") (hi : idx = jsI.getD k 0)
    (hk : WG x (pc + 2) ls (.inr (k, 200) :: st) G u) : WG x pc ls st G u := by
  obtain ⟨⟨p, l, e, R, s, m, args, below, meth, c, Q⟩, ⟨D, cs, b, ad, adV, sc, L, XT⟩, cc, nL, own, c0, s0, seg, lv⟩ := x
  obtain ⟨hx, hb, hml, hown, hts, hKS, hbs, hL, hlocks, hR1, hR2, hR3, hR4⟩ := hF
  intro H locs cells slots sl hP hS hl h1 h2
  have hP0 := hP
  obtain ⟨w0, hXT, hP, hD⟩ := hP
  have ho : own = "PillowBarge$Script" := ho
  subst ho; subst hi
  exact va_ldcS hx hb hown (hKS.2.2.2.2.2.1.2.1 k hk7) hd (hk H locs cells slots sl hP0 hS hl h1 h2)
end Hp
end
section
/-! Soundness of the steps: calls, and a method's ends -/
def roomL (n u : Nat) : Room := { frames := n, cells := u, slots := 100 * u, locals := 64 * n }
def vAo (L : List Rf) (v : Option AV) : Prop := ∀ w, v = some w → vA L w
def Pc_ (D : va_G) (cs : Nat → ClassId) (b : Nat) (ad : Rf → Nat) (adV : Nat → Nat) (sc : Nat × (Nat → Int32)) (L : List Rf) (XT : Nat × (Nat → Int32) → va_W → Prop) (as : List AV) (G : GS) : Array Value → State → Prop :=
  va_Pc (as.map (rv ad)) (fun U => PW D cs b ad L XT G U.heap ∧ KS D cs b ad adV sc U U.heap ∧ b ≤ U.heap.size)
def Qc_ (D : va_G) (cs : Nat → ClassId) (b : Nat) (ad : Rf → Nat) (L : List Rf) (XT : Nat × (Nat → Int32) → va_W → Prop) (r : Out × GS) : Array Value → State → Outcome → State → Prop := fun _ st oc t =>
  (∃ v : Option AV, r.1 = .inl v ∧ vAo L v ∧ oc = .returned (v.map (rv ad)) ∧ PW D cs b ad L XT r.2 t.heap) ∧ va_F (Ab b) st t
def XC_ (D : va_G) (cs : Nat → ClassId) (b : Nat) (ad : Rf → Nat) (L : List Rf) (XT : Nat × (Nat → Int32) → va_W → Prop) (r : Out × GS) : String → State → State → Prop := fun E st t =>
  (∃ ex : Nat, r.1 = .inr ex ∧ E = exN ex ∧ PW D cs b ad L XT r.2 t.heap) ∧ va_F (Ab b) st t
/-- a side: which text and rest its world has -/
abbrev Sd : Type := va_G → (Nat → ClassId) → (Rf → Nat) → List Rf → (Nat × (Nat → Int32) → va_W → Prop) → Prop
/-- a method that never throws does what A says -/
def CtN (sd : Sd) (l : Launch) (y : MethodName) (ws : List Cond) (lev cost : Nat) (A : List AV → GS → Res) : Prop :=
  ∀ D cs b ad adV sc L XT, Lok L → sd D cs ad L XT → ∀ as G r, A as G = some r → vAs L as → Met l y ws (roomL lev cost) (Pc_ D cs b ad adV sc L XT as G) (Qc_ D cs b ad L XT r) cost (100 * cost) (Ab b)
/-- .. or throws -/
def CtX (sd : Sd) (l : Launch) (y : MethodName) (ws : List Cond) (lev cost : Nat) (A : List AV → GS → Res) : Prop :=
  ∀ D cs b ad adV sc L XT, Lok L → sd D cs ad L XT → ∀ as G r, A as G = some r → vAs L as → vx_Met l y ws (roomL lev cost) (Pc_ D cs b ad adV sc L XT as G) (Qc_ D cs b ad L XT r) (XC_ D cs b ad L XT r) cost (100 * cost) (Ab b)
/-- an exception q stands over the frame -/
def WX (x : CX) (pc : Nat) (ls : Ls) (rest : List AV) (G : GS) (u : Nat) (ex : Nat) : Prop := match x with
  | ((p, l, e, R, s, m, args, below, meth, c, Q), (D, cs, b, ad, _, _, L, XT), (_, nL, _, c0, s0, _, _)) =>
    ∀ (H : Heap) (locs : List Loc) (cells slots : Nat) (sl : Array Slot) (q : Addr) (ce : Cell), PW D cs b ad L XT G H → va_S (Ab b) s.heap H locs → LV ad sl nL ls → cells ≤ c0 + u → slots ≤ s0 + 100 * u → H[q]? = some ce → ce.vm = .none → s.vm.findClass (exN ex) = some ce.cls →
      vx_W p l e R s m args below meth c H locs cells slots Q (F0 m pc sl (rest.map (rv ad))) q
/-- a call at pc of what A says, at a cost -/
def CW (x : CX) (pc cost : Nat) (A : List AV → GS → Res) : Prop := ∀ (as rest : List AV) (G : GS) (r : Out × GS) (ls : Ls) (u : Nat), A as G = some r → vAs (cxL x) as → ai_cats rest ≤ 8 → u + cost ≤ cxG x →
  (∀ v, r.1 = .inl v → vAo (cxL x) v → WG x (pc + 3) ls (v.toList ++ rest) r.2 (u + cost)) → (∀ ex, r.1 = .inr ex → WX x pc ls rest r.2 (u + cost) ex) → WG x pc ls (as.reverse ++ rest) G u
theorem Pc_blind {D : va_G} {cs : Nat → ClassId} {b : Nat} {ad : Rf → Nat} {adV : Nat → Nat} {sc : Nat × (Nat → Int32)} {L : List Rf} {XT : Nat × (Nat → Int32) → va_W → Prop} {as : List AV} {G : GS} : FrameBlind (Pc_ D cs b ad adV sc L XT as G) := by
  intro a U g mk q
  obtain ⟨q0, q1, q2, q3⟩ := q
  exact ⟨q0, q1, KS_move (s := U) (U := U.calling g mk a) (State.WarmedH.refl U) (Nat.le_refl _) (fun _ _ _ => rfl) q2, q3⟩
theorem cats_eq (ad : Rf → Nat) : ∀ l : List AV, ((l.map (rv ad)).map fun v => v.category).sum = ai_cats l
  | [] => rfl
  | v :: l => by rw [List.map_cons, List.map_cons, List.sum_cons, cats_eq ad l, ai_cats, ai_cat_eq ad v]
theorem toList_map (ad : Rf → Nat) (v : Option AV) (rest : List AV) : (v.map (rv ad)).toList ++ rest.map (rv ad) = (v.toList ++ rest).map (rv ad) := by cases v <;> rfl
section Rows
variable {p : Program} {l : Launch} {e : Env} {R : Room} {s : State} {m : MethodId} {args : Array Value} {below : List Frame} {meth : Method} {c : Code} {Q : State → Prop} {H : Heap} {locs : List Loc} {cells slots mc ms pc : Nat} {sl : Array Slot} {st0 rest : List Value}
variable {D : va_G} {cs : Nat → ClassId} {b : Nat} {ad : Rf → Nat} {L : List Rf} {XT : Nat × (Nat → Int32) → va_W → Prop} {r : Out × GS} {arr : Array Value}
theorem ai_row (hr : va_Run p l e R s m args below meth c H locs cells slots mc ms (F0 m pc sl st0) rest (Qc_ D cs b ad L XT r arr) (Ab b)) (hS : va_S (Ab b) s.heap H locs)
    (kk : ∀ v, r.1 = .inl v → vAo L v → ∀ (H1 : Heap) (locs1 : List Loc), PW D cs b ad L XT r.2 H1 → va_S (Ab b) s.heap H1 locs1 → W p l e R s m args below meth c H1 locs1 (cells + mc) (slots + ms) Q (F0 m (pc + 3) sl ((v.map (rv ad)).toList ++ rest))) : W p l e R s m args below meth c H locs cells slots Q (F0 m pc sl st0) := by
  intro T hT X
  obtain ⟨v, st₀, t, T', L', h0, X', hL, e1, e2, ⟨⟨v', ho, hvo, hoc, hP⟩, hz, hk⟩, st⟩ := hr T hT X
  cases hoc
  rw [h0] at hz hk
  obtain ⟨t2, a1, b1⟩ := kk v' ho hvo T'.heap (locs ++ L') (by rw [e1]; exact hP)
    ⟨Nat.le_trans hS.1 (by rw [e1]; exact hz), fun q h1 h2 => by rw [e1, hk q (Nat.lt_of_lt_of_le h1 hS.1) h2]; exact hS.2.1 q h1 h2, fun q hq => by
      rcases List.mem_append.mp hq with h | h
      · exact hS.2.2 q h
      · exact hL q h⟩ T' rfl X'
  exact ⟨t2, st t2 a1, b1⟩
theorem ai_rowX (hr : vx_Run p l e R s m args below meth c H locs cells slots mc ms (F0 m pc sl st0) rest (Qc_ D cs b ad L XT r arr) (XC_ D cs b ad L XT r) (Ab b)) (hS : va_S (Ab b) s.heap H locs)
    (kk : ∀ v, r.1 = .inl v → vAo L v → ∀ (H1 : Heap) (locs1 : List Loc), PW D cs b ad L XT r.2 H1 → va_S (Ab b) s.heap H1 locs1 → W p l e R s m args below meth c H1 locs1 (cells + mc) (slots + ms) Q (F0 m (pc + 3) sl ((v.map (rv ad)).toList ++ rest)))
    (kx : ∀ ex, r.1 = .inr ex → ∀ (H1 : Heap) (locs1 : List Loc) (q : Addr) (ce : Cell), PW D cs b ad L XT r.2 H1 → va_S (Ab b) s.heap H1 locs1 → H1[q]? = some ce → ce.vm = .none → s.vm.findClass (exN ex) = some ce.cls → vx_W p l e R s m args below meth c H1 locs1 (cells + mc) (slots + ms) Q (F0 m pc sl rest) q) : W p l e R s m args below meth c H locs cells slots Q (F0 m pc sl st0) := by
  intro T hT X
  have fr : ∀ {t T' : State} {L' : List Loc} {st₀ : State}, st₀.heap = H → T'.heap = t.heap → (∀ q ∈ L', Ab b q.base) → va_F (Ab b) st₀ t → va_S (Ab b) s.heap T'.heap (locs ++ L') := by
    intro t T' L' st₀ h0 e1 hL hF
    obtain ⟨hz, hk⟩ := hF
    rw [h0] at hz hk
    exact ⟨Nat.le_trans hS.1 (by rw [e1]; exact hz), fun q h1 h2 => by rw [e1, hk q (Nat.lt_of_lt_of_le h1 hS.1) h2]; exact hS.2.1 q h1 h2, fun q hq => by
      rcases List.mem_append.mp hq with h | h
      · exact hS.2.2 q h
      · exact hL q h⟩
  rcases hr T hT X with ⟨v, st₀, t, T', L', h0, X', hL, e1, e2, ⟨⟨v', ho, hvo, hoc, hP⟩, hF⟩, st⟩ | ⟨q, st₀, t, T', L', E, ce, h0, X', hL, e1, e2, ⟨⟨ex, ho, hE, hP⟩, hF⟩, hce, hcv, hcl, st⟩
  · cases hoc
    obtain ⟨t2, a1, b1⟩ := kk v' ho hvo T'.heap (locs ++ L') (by rw [e1]; exact hP) (fr h0 e1 hL hF) T' rfl X'
    exact ⟨t2, st t2 a1, b1⟩
  · subst hE
    obtain ⟨t2, a1, b1⟩ := kx ex ho T'.heap (locs ++ L') q ce (by rw [e1]; exact hP) (fr h0 e1 hL hF) (by rw [e1]; exact hce) hcv hcl T' rfl X'
    exact ⟨t2, st.trans a1, b1⟩
end Rows
theorem lw_good : ∀ w ∈ lw_all, goodWord w = true := fun _ h => (List.mem_filter.mp h).2
theorem goodIn_all {ws : List Cond} (h : ∀ w ∈ ws, w ∈ lw_all) : GoodIn lw_all ws := fun w hw => ⟨h w hw, good_of_word (lw_good w (h w hw))⟩
theorem in_cons {w : Cond} {ws : List Cond} (h : w ∈ lw_all) (t : ∀ w ∈ ws, w ∈ lw_all) : ∀ v ∈ w :: ws, v ∈ lw_all := fun v hv => (List.mem_cons.mp hv).elim (fun e => e ▸ h) (t v)
theorem in_self : ∀ w ∈ lw_all, w ∈ lw_all := fun _ h => h
/-- a receiver, an object of the world or a string constant -/
def RC (C : String) (q : Rf) : Prop := (∃ ci n, kd q.2 = some (.inl (ci, n)) ∧ ∃ y : vw_C, cls_[ci]? = some y ∧ y.1 = C) ∨ (q.2 = 200 ∧ q.1 < 7 ∧ C = "java/lang/String")
theorem RC_recv {D : va_G} {cs : Nat → ClassId} {b : Nat} {ad : Rf → Nat} {adV : Nat → Nat} {sc : Nat × (Nat → Int32)} {L : List Rf} {XT : Nat × (Nat → Int32) → va_W → Prop} {s : State} {H : Heap} {locs : List Loc} {G : GS} {q : Rf} {C : String} (h : RC C q) (hL : Lok L) (hq : vA L (.inr q)) (hKS : KS D cs b ad adV sc s s.heap) (hS : va_S (Ab b) s.heap H locs) (hP : PW D cs b ad L XT G H) : ∃ cell : Cell, H[ad q]? = some cell ∧ cell.vm.isStatics = false ∧ s.vm.findClass C = some cell.cls := by
  rcases h with ⟨ci, n, h1, y, h2, rfl⟩ | ⟨h1, h2, rfl⟩
  · obtain ⟨w0, -, hP, -⟩ := hP
    obtain ⟨k, hk, -⟩ := cells_get (cs := cs) (ad := ad) hL.1 (hq (by rw [h1]; rfl)) G w0
    rw [ent_o h1] at hk
    exact va_recv hKS.1 hP h2 hk
  · obtain ⟨j, k⟩ := q
    have h1 : k = 200 := h1
    subst h1
    exact vk_recv (i := j) hKS.2.2.2.2.2.1.1 h2 hS
theorem pc_of {D : va_G} {cs : Nat → ClassId} {b : Nat} {ad : Rf → Nat} {adV : Nat → Nat} {sc : Nat × (Nat → Int32)} {L : List Rf} {XT : Nat × (Nat → Int32) → va_W → Prop} {s U : State} {H : Heap} {locs : List Loc} {G : GS} {as : List AV} (hbs : b ≤ s.heap.size) (hKS : KS D cs b ad adV sc s s.heap) (hS : va_S (Ab b) s.heap H locs) (hP : PW D cs b ad L XT G H) (hU : U.heap = H) (hW : s.WarmedH U.vm) : Pc_ D cs b ad adV sc L XT as G (as.map (rv ad)).toArray U :=
  ⟨rfl, by rw [hU]; exact hP, by rw [hU]; exact KS_move hW hS.1 hS.2.1 hKS, by rw [hU]; exact Nat.le_trans hbs hS.1⟩
theorem stk_V (ad : Rf → Nat) (q : Rf) (tl rest : List AV) : ((.inr q :: tl : List AV).reverse ++ rest).map (rv ad) = (tl.map (rv ad)).reverse ++ .ref (ad q) :: rest.map (rv ad) := by
  simp [rv]
theorem stk_S (ad : Rf → Nat) (as rest : List AV) : (as.reverse ++ rest).map (rv ad) = (as.map (rv ad)).reverse ++ rest.map (rv ad) := by
  simp
def cxSide (sd : Sd) (x : CX) : Prop := match x with
  | (_, (D, cs, _, ad, _, _, L, XT), _) => sd D cs ad L XT
section CWs
variable {x : CX} {pc idx n lev cost maxL : Nat} {y : MethodName} {bytes : ByteArray} {ret : Option FieldType} {C : String} {sd : Sd} {A : List AV → GS → Res}
theorem cwN_V (hF : FX x) (hd : decode (cxC x) pc = .ok (.invokevirtual idx, 3)) (hC : CtN sd (cxH x) y (.code y bytes maxL ret :: lw_all) lev cost A) (hsd : cxSide sd x)
    (w1 : Cond.methodLink (cxO x) idx y ∈ lw_all) (w2 : Cond.instanceMethod y ∈ lw_all) (w3 : Cond.selects C y y ∈ lw_all) (w4 : Cond.initialized C ∈ lw_all) (w5 : Cond.code y bytes maxL ret ∈ lw_all)
    (hy : y.cls = C ∧ y.cls ≠ "java/lang/invoke/MethodHandle" ∧ y.cls ≠ "java/lang/invoke/VarHandle" ∧ (parseMethodDescriptor y.desc).map (fun d => d.parameters.length) = some n) (hm : maxL ≤ 40) (hlv : lev + 1 ≤ cxV x)
    (hA : ∀ as G r, A as G = some r → ∃ q tl, as = .inr q :: tl ∧ tl.length = n ∧ RC C q) : CW x pc cost A := by
  obtain ⟨⟨p, l, e, R, s, m, args, below, meth, c, Q⟩, ⟨D, cs, b, ad, adV, sc, L, XT⟩, cc, nL, own, c0, s0, seg, lv⟩ := x
  obtain ⟨hx, hb, hml, hown, hts, hKS, hbs, hL, hlocks, hR1, hR2, hR3, hR4⟩ := hF
  intro as rest G r ls u hr hvs hcat hcost kk kx H locs cells slots sl hP hS hl h1 h2
  have hcost : u + cost ≤ seg := hcost
  have hlv : lev + 1 ≤ lv := hlv
  obtain ⟨q, tl, rfl, htl, hrc⟩ := hA as G r hr
  have hM := hC D cs b ad adV sc L XT hL hsd _ G r hr hvs
  have hg : GoodIn lw_all (wsV own idx C y (.code y bytes maxL ret :: lw_all)) := goodIn_all (in_cons w1 (in_cons w2 (in_cons w3 (in_cons w4 (in_cons w5 in_self)))))
  have hrun := va_runV (cells := cells) (slots := slots) (locs := locs) (meth := meth) (As := tl.map (rv ad)) (rest := rest.map (rv ad)) (b := ad q) (C := C) (g := F0 m pc sl (((.inr q :: tl : List AV).reverse ++ rest).map (rv ad))) (p := p) (e := e) (below := below) (R := R) ⟨hx, hb, hml, hown, hts⟩ hM
    (cwV n hts hg rfl rfl rfl hy ⟨(by show lev + 1 ≤ R.frames; omega), (by show 8 + (maxL + 11) + 64 * lev ≤ R.locals; omega)⟩) ⟨Pc_blind, RC_recv hrc hL (hvs _ List.mem_cons_self) hKS hS hP, fun U hU hW => pc_of hbs hKS hS hP hU hW⟩
    rfl (by rw [List.length_map]; exact htl) hl.2.1 (stk_V ad q tl rest) (lv_room (by rw [cats_eq]; exact hcat)) hd ⟨by omega, by omega⟩
  exact ai_row hrun hS (fun v hv hvo H1 locs1 g1 g2 => by rw [toList_map]; exact kk v hv hvo H1 locs1 _ _ sl g1 g2 hl (by omega) (by omega))
theorem cwN_S (hF : FX x) (hd : decode (cxC x) pc = .ok (.invokestatic idx, 3)) (hC : CtN sd (cxH x) y (.code y bytes maxL ret :: lw_all) lev cost A) (hsd : cxSide sd x)
    (w1 : Cond.methodLink (cxO x) idx y ∈ lw_all) (w2 : Cond.static y ∈ lw_all) (w4 : Cond.initialized y.cls ∈ lw_all) (w5 : Cond.code y bytes maxL ret ∈ lw_all)
    (hy : y.cls ≠ "java/lang/invoke/MethodHandle" ∧ y.cls ≠ "java/lang/invoke/VarHandle" ∧ (parseMethodDescriptor y.desc).map (fun d => d.parameters.length) = some n) (hm : maxL ≤ 40) (hlv : lev + 1 ≤ cxV x)
    (hA : ∀ as G r, A as G = some r → as.length = n) : CW x pc cost A := by
  obtain ⟨⟨p, l, e, R, s, m, args, below, meth, c, Q⟩, ⟨D, cs, b, ad, adV, sc, L, XT⟩, cc, nL, own, c0, s0, seg, lv⟩ := x
  obtain ⟨hx, hb, hml, hown, hts, hKS, hbs, hL, hlocks, hR1, hR2, hR3, hR4⟩ := hF
  intro as rest G r ls u hr hvs hcat hcost kk kx H locs cells slots sl hP hS hl h1 h2
  have hcost : u + cost ≤ seg := hcost
  have hlv : lev + 1 ≤ lv := hlv
  have hM := hC D cs b ad adV sc L XT hL hsd _ G r hr hvs
  have hg : GoodIn lw_all (va_wsS own idx y (.code y bytes maxL ret :: lw_all)) := goodIn_all (in_cons w1 (in_cons w2 (in_cons w4 (in_cons w5 in_self))))
  have hrun := va_runS (cells := cells) (slots := slots) (locs := locs) (meth := meth) (As := as.map (rv ad)) (rest := rest.map (rv ad)) (g := F0 m pc sl ((as.reverse ++ rest).map (rv ad))) (p := p) (e := e) (below := below) (R := R) ⟨hx, hb, hml, hown, hts⟩ hM
    (va_cwS n hts hg rfl rfl rfl hy ⟨(by show lev + 1 ≤ R.frames; omega), (by show 8 + (maxL + 11) + 64 * lev ≤ R.locals; omega)⟩) ⟨Pc_blind, fun U hU hW => pc_of hbs hKS hS hP hU hW⟩
    rfl (by rw [List.length_map]; exact hA as G r hr) hl.2.1 (stk_S ad as rest) (lv_room (by rw [cats_eq]; exact hcat)) hd ⟨by omega, by omega⟩
  exact ai_row hrun hS (fun v hv hvo H1 locs1 g1 g2 => by rw [toList_map]; exact kk v hv hvo H1 locs1 _ _ sl g1 g2 hl (by omega) (by omega))
theorem cwX_V (hF : FX x) (hd : decode (cxC x) pc = .ok (.invokevirtual idx, 3)) (hC : CtX sd (cxH x) y (.code y bytes maxL ret :: lw_all) lev cost A) (hsd : cxSide sd x)
    (w1 : Cond.methodLink (cxO x) idx y ∈ lw_all) (w2 : Cond.instanceMethod y ∈ lw_all) (w3 : Cond.selects C y y ∈ lw_all) (w4 : Cond.initialized C ∈ lw_all) (w5 : Cond.code y bytes maxL ret ∈ lw_all)
    (hy : y.cls = C ∧ y.cls ≠ "java/lang/invoke/MethodHandle" ∧ y.cls ≠ "java/lang/invoke/VarHandle" ∧ (parseMethodDescriptor y.desc).map (fun d => d.parameters.length) = some n) (hm : maxL ≤ 40) (hlv : lev + 1 ≤ cxV x)
    (hA : ∀ as G r, A as G = some r → ∃ q tl, as = .inr q :: tl ∧ tl.length = n ∧ RC C q) : CW x pc cost A := by
  obtain ⟨⟨p, l, e, R, s, m, args, below, meth, c, Q⟩, ⟨D, cs, b, ad, adV, sc, L, XT⟩, cc, nL, own, c0, s0, seg, lv⟩ := x
  obtain ⟨hx, hb, hml, hown, hts, hKS, hbs, hL, hlocks, hR1, hR2, hR3, hR4⟩ := hF
  intro as rest G r ls u hr hvs hcat hcost kk kx H locs cells slots sl hP hS hl h1 h2
  have hcost : u + cost ≤ seg := hcost
  have hlv : lev + 1 ≤ lv := hlv
  obtain ⟨q, tl, rfl, htl, hrc⟩ := hA as G r hr
  have hM := hC D cs b ad adV sc L XT hL hsd _ G r hr hvs
  have hg : GoodIn lw_all (wsV own idx C y (.code y bytes maxL ret :: lw_all)) := goodIn_all (in_cons w1 (in_cons w2 (in_cons w3 (in_cons w4 (in_cons w5 in_self)))))
  have hrun := vx_runV (cells := cells) (slots := slots) (locs := locs) (meth := meth) (As := tl.map (rv ad)) (rest := rest.map (rv ad)) (b := ad q) (C := C) (g := F0 m pc sl (((.inr q :: tl : List AV).reverse ++ rest).map (rv ad))) (p := p) (e := e) (below := below) (R := R) ⟨hx, hb, hml, hown, hts⟩ hM
    (cwV n hts hg rfl rfl rfl hy ⟨(by show lev + 1 ≤ R.frames; omega), (by show 8 + (maxL + 11) + 64 * lev ≤ R.locals; omega)⟩) ⟨Pc_blind, RC_recv hrc hL (hvs _ List.mem_cons_self) hKS hS hP, fun U hU hW => pc_of hbs hKS hS hP hU hW⟩
    rfl (by rw [List.length_map]; exact htl) hl.2.1 (stk_V ad q tl rest) (lv_room (by rw [cats_eq]; exact hcat)) hd ⟨by omega, by omega⟩
  exact ai_rowX hrun hS (fun v hv hvo H1 locs1 g1 g2 => by rw [toList_map]; exact kk v hv hvo H1 locs1 _ _ sl g1 g2 hl (by omega) (by omega)) (fun ex hv H1 locs1 q9 ce g1 g2 g3 g4 g5 => kx ex hv H1 locs1 _ _ sl q9 ce g1 g2 hl (by omega) (by omega) g3 g4 g5)
theorem cwX_S (hF : FX x) (hd : decode (cxC x) pc = .ok (.invokestatic idx, 3)) (hC : CtX sd (cxH x) y (.code y bytes maxL ret :: lw_all) lev cost A) (hsd : cxSide sd x)
    (w1 : Cond.methodLink (cxO x) idx y ∈ lw_all) (w2 : Cond.static y ∈ lw_all) (w4 : Cond.initialized y.cls ∈ lw_all) (w5 : Cond.code y bytes maxL ret ∈ lw_all)
    (hy : y.cls ≠ "java/lang/invoke/MethodHandle" ∧ y.cls ≠ "java/lang/invoke/VarHandle" ∧ (parseMethodDescriptor y.desc).map (fun d => d.parameters.length) = some n) (hm : maxL ≤ 40) (hlv : lev + 1 ≤ cxV x)
    (hA : ∀ as G r, A as G = some r → as.length = n) : CW x pc cost A := by
  obtain ⟨⟨p, l, e, R, s, m, args, below, meth, c, Q⟩, ⟨D, cs, b, ad, adV, sc, L, XT⟩, cc, nL, own, c0, s0, seg, lv⟩ := x
  obtain ⟨hx, hb, hml, hown, hts, hKS, hbs, hL, hlocks, hR1, hR2, hR3, hR4⟩ := hF
  intro as rest G r ls u hr hvs hcat hcost kk kx H locs cells slots sl hP hS hl h1 h2
  have hcost : u + cost ≤ seg := hcost
  have hlv : lev + 1 ≤ lv := hlv
  have hM := hC D cs b ad adV sc L XT hL hsd _ G r hr hvs
  have hg : GoodIn lw_all (va_wsS own idx y (.code y bytes maxL ret :: lw_all)) := goodIn_all (in_cons w1 (in_cons w2 (in_cons w4 (in_cons w5 in_self))))
  have hrun := vx_runS (cells := cells) (slots := slots) (locs := locs) (meth := meth) (As := as.map (rv ad)) (rest := rest.map (rv ad)) (g := F0 m pc sl ((as.reverse ++ rest).map (rv ad))) (p := p) (e := e) (below := below) (R := R) ⟨hx, hb, hml, hown, hts⟩ hM
    (va_cwS n hts hg rfl rfl rfl hy ⟨(by show lev + 1 ≤ R.frames; omega), (by show 8 + (maxL + 11) + 64 * lev ≤ R.locals; omega)⟩) ⟨Pc_blind, fun U hU hW => pc_of hbs hKS hS hP hU hW⟩
    rfl (by rw [List.length_map]; exact hA as G r hr) hl.2.1 (stk_S ad as rest) (lv_room (by rw [cats_eq]; exact hcat)) hd ⟨by omega, by omega⟩
  exact ai_rowX hrun hS (fun v hv hvo H1 locs1 g1 g2 => by rw [toList_map]; exact kk v hv hvo H1 locs1 _ _ sl g1 g2 hl (by omega) (by omega)) (fun ex hv H1 locs1 q9 ce g1 g2 g3 g4 g5 => kx ex hv H1 locs1 _ _ sl q9 ce g1 g2 hl (by omega) (by omega) g3 g4 g5)
theorem cwN_SN {host : String} (hF : FX x) (hd : decode (cxC x) pc = .ok (.invokestatic idx, 3)) (hC : CtN sd (cxH x) y (.code y bytes maxL ret :: lw_all) lev cost A) (hsd : cxSide sd x)
    (w1 : Cond.methodLinkNest (cxO x) idx y host ∈ nw_all) (w2 : Cond.static y ∈ lw_all) (w4 : Cond.initialized y.cls ∈ lw_all) (w5 : Cond.code y bytes maxL ret ∈ lw_all)
    (hy : y.cls ≠ "java/lang/invoke/MethodHandle" ∧ y.cls ≠ "java/lang/invoke/VarHandle" ∧ (parseMethodDescriptor y.desc).map (fun d => d.parameters.length) = some n) (hm : maxL ≤ 40) (hlv : lev + 1 ≤ cxV x)
    (hA : ∀ as G r, A as G = some r → as.length = n) : CW x pc cost A := by
  obtain ⟨⟨p, l, e, R, s, m, args, below, meth, c, Q⟩, ⟨D, cs, b, ad, adV, sc, L, XT⟩, cc, nL, own, c0, s0, seg, lv⟩ := x
  obtain ⟨hx, hb, hml, hown, hts, hKS, hbs, hL, hlocks, hR1, hR2, hR3, hR4⟩ := hF
  intro as rest G r ls u hr hvs hcat hcost kk kx H locs cells slots sl hP hS hl h1 h2
  have hcost : u + cost ≤ seg := hcost
  have hlv : lev + 1 ≤ lv := hlv
  have hM := hC D cs b ad adV sc L XT hL hsd _ G r hr hvs
  have hg : GoodIn lw_all (.code y bytes maxL ret :: lw_all) := goodIn_all (in_cons w5 in_self)
  have hrun := va_runSN (cells := cells) (slots := slots) (locs := locs) (meth := meth) (As := as.map (rv ad)) (rest := rest.map (rv ad)) (g := F0 m pc sl ((as.reverse ++ rest).map (rv ad))) (p := p) (e := e) (below := below) (R := R) ⟨hx, hb, hml, hown, hts⟩ hM
    ⟨va_cnB n hts hg rfl rfl rfl (hKS.2.2.2.1 _ w1) (hts _ w4) hy ⟨(by show lev + 1 ≤ R.frames; omega), (by show 8 + (maxL + 11) + 64 * lev ≤ R.locals; omega)⟩, hts _ w2, trivial⟩ ⟨Pc_blind, fun U hU hW => pc_of hbs hKS hS hP hU hW⟩
    rfl (by rw [List.length_map]; exact hA as G r hr) hl.2.1 (stk_S ad as rest) (lv_room (by rw [cats_eq]; exact hcat)) hd ⟨by omega, by omega⟩
  exact ai_row hrun hS (fun v hv hvo H1 locs1 g1 g2 => by rw [toList_map]; exact kk v hv hvo H1 locs1 _ _ sl g1 g2 hl (by omega) (by omega))
theorem cwN_SH {hh : List (Nat × Nat × Nat × Nat)} (hF : FX x) (hd : decode (cxC x) pc = .ok (.invokestatic idx, 3)) (hC : CtN sd (cxH x) y (.codeWith y bytes maxL ret hh :: lw_all) lev cost A) (hsd : cxSide sd x)
    (w1 : Cond.methodLink (cxO x) idx y ∈ lw_all) (w2 : Cond.static y ∈ lw_all) (w4 : Cond.initialized y.cls ∈ lw_all) (w5 : Cond.codeWith y bytes maxL ret hh ∈ lw_all)
    (hy : y.cls ≠ "java/lang/invoke/MethodHandle" ∧ y.cls ≠ "java/lang/invoke/VarHandle" ∧ (parseMethodDescriptor y.desc).map (fun d => d.parameters.length) = some n) (hm : maxL ≤ 40) (hlv : lev + 1 ≤ cxV x)
    (hA : ∀ as G r, A as G = some r → as.length = n) : CW x pc cost A := by
  obtain ⟨⟨p, l, e, R, s, m, args, below, meth, c, Q⟩, ⟨D, cs, b, ad, adV, sc, L, XT⟩, cc, nL, own, c0, s0, seg, lv⟩ := x
  obtain ⟨hx, hb, hml, hown, hts, hKS, hbs, hL, hlocks, hR1, hR2, hR3, hR4⟩ := hF
  intro as rest G r ls u hr hvs hcat hcost kk kx H locs cells slots sl hP hS hl h1 h2
  have hcost : u + cost ≤ seg := hcost
  have hlv : lev + 1 ≤ lv := hlv
  have hM := hC D cs b ad adV sc L XT hL hsd _ G r hr hvs
  have hg : GoodIn lw_all (va_wsS own idx y (.codeWith y bytes maxL ret hh :: lw_all)) := goodIn_all (in_cons w1 (in_cons w2 (in_cons w4 (in_cons w5 in_self))))
  have hrun := vx_runSW (cells := cells) (slots := slots) (locs := locs) (meth := meth) (As := as.map (rv ad)) (rest := rest.map (rv ad)) (g := F0 m pc sl ((as.reverse ++ rest).map (rv ad))) (p := p) (e := e) (below := below) (R := R) ⟨hx, hb, hml, hown, hts⟩ hM
    (vx_cwSW n hts hg rfl rfl rfl hy ⟨(by show lev + 1 ≤ R.frames; omega), (by show 8 + (maxL + 11) + 64 * lev ≤ R.locals; omega)⟩) ⟨Pc_blind, fun U hU hW => pc_of hbs hKS hS hP hU hW⟩
    rfl (by rw [List.length_map]; exact hA as G r hr) hl.2.1 (stk_S ad as rest) (lv_room (by rw [cats_eq]; exact hcat)) hd ⟨by omega, by omega⟩
  exact ai_row hrun hS (fun v hv hvo H1 locs1 g1 g2 => by rw [toList_map]; exact kk v hv hvo H1 locs1 _ _ sl g1 g2 hl (by omega) (by omega))
end CWs
end
section
/-! A RUN OF THE ABSTRACT MACHINE IS A WALK OF THE MACHINE -/
def cxR (x : CX) : Option FieldType := x.1.2.2.2.2.2.2.2.2.1.sig.returnType
def retTy (y : Nat) : FieldType := match y with | 0 => .int | 1 => .boolean | _ => .char
/-- a return instruction with its value -/
def RK (ret : Option FieldType) (i : Instr) (v : Option AV) : Prop := match i with
  | .ireturn => ∃ (k : Int32) (ty : FieldType), v = some (.inl (.int k)) ∧ ret = some ty ∧ narrow ty (.int k) = .int k
  | .areturn => (v = some (.inl .null) ∨ ∃ q, v = some (.inr q)) ∧ ∃ n, ret = some (.object n)
  | .freturn => ∃ k, v = some (.inl (.float k)) ∧ ret = some .float
  | .dreturn => ∃ k, v = some (.inl (.double k)) ∧ ret = some .double
  | .return_ => v = none ∧ ret = none
  | _ => False
/-- 'new X(); throw' at pc -/
def NewOK (x : CX) (pc idx ex : Nat) : Prop := decode (cxC x) pc = .ok (.new idx, 3) ∧ decode (cxC x) (pc + 3) = .ok (.dup, 1) ∧ decode (cxC x) (pc + 7) = .ok (.athrow, 1) ∧
  ∃ ic, decode (cxC x) (pc + 4) = .ok (.invokespecial ic, 3) ∧ ∀ w ∈ Cond.classLink (cxO x) idx (exN ex) :: Cond.initialized (exN ex) :: vx_at0 (cxO x) ic (exN ex) ["java/lang/RuntimeException", "java/lang/Exception"], (w ∈ lw_all ∨ w ∈ nw_all) ∧ vx_ot w = true
def hsel : Hd → Nat → Option (Nat × Nat × Nat)
  | [], _ => none
  | h :: hs, e => if e = h.1 then some h.2 else hsel hs e
def HdOK (x : CX) (pc : Nat) (hd : Hd) : Prop := ∀ (ex : Nat) (h : Nat × Nat × Nat) (ls : Ls) (rest : List AV) (G : GS) (u : Nat), hsel hd ex = some h → WG x (h.1 + h.2.1) (ls.set h.2.2 none) [] G u → WX x pc ls rest G u ex
theorem hs_eq (k : Nat × Nat × Nat → Res) : ∀ (hd : Hd) (e : Nat), ai_hs hd e k none = match hsel hd e with | some h => k h | none => none
  | [], _ => rfl
  | h :: hs, e => by
    rw [ai_hs, hsel]
    by_cases q : e = h.1
    · rw [if_pos q, if_pos q]
    · rw [if_neg q, if_neg q]; exact hs_eq k hs e
/-- what a table's entry has to do with the code -/
def EnOK (x : CX) (call : Nat → List AV → GS → Res) (hd : Nat → Hd) (pc : Nat) (e : En) : Prop := match e with
  | (i, _, y, _, _, sw) => match i with
    | .tableswitch d lo hi offs => (∃ len, decode (cxC x) pc = .ok (.tableswitch d lo hi offs, len)) ∧ sw_tab pc d lo hi offs sw y
    | .lookupswitch d ps => (∃ len, decode (cxC x) pc = .ok (.lookupswitch d ps, len)) ∧ sw_lok pc d ps sw y
    | .ifCond cn off => decode (cxC x) pc = .ok (.ifCond cn off, 3) ∧ (pc : Int) + off = (y : Int)
    | .if_icmp cn off => decode (cxC x) pc = .ok (.if_icmp cn off, 3) ∧ (pc : Int) + off = (y : Int)
    | .goto off => decode (cxC x) pc = .ok (.goto off, 3) ∧ (pc : Int) + off = (y : Int)
    | .ifnull off => decode (cxC x) pc = .ok (.ifnull off, 3) ∧ (pc : Int) + off = (y : Int)
    | .getfield idx => decode (cxC x) pc = .ok (.getfield idx, 3) ∧ FLk (cxO x) idx y
    | .putfield idx => decode (cxC x) pc = .ok (.putfield idx, 3) ∧ PLk (cxO x) idx y
    | .ldc idx => decode (cxC x) pc = .ok (.ldc idx, 2) ∧ (match y with | 0 => Cond.constantFloat (cxO x) idx 1110704128 ∈ lw_all | k + 1 => k < 7 ∧ cxO x = "PillowBarge$Script" ∧ idx = jsI.getD k 0)
    | .invokevirtual _ => CW x pc (y / 64 % 256) (call (y / 16384)) ∧ HdOK x pc (hd pc)
    | .invokestatic _ => CW x pc (y / 64 % 256) (call (y / 16384)) ∧ HdOK x pc (hd pc)
    | .new idx => NewOK x pc idx y
    | .ireturn => decode (cxC x) pc = .ok (.ireturn, 1) ∧ cxR x = some (retTy y)
    | .areturn => decode (cxC x) pc = .ok (.areturn, 1) ∧ ∃ n, cxR x = some (.object n)
    | .freturn => decode (cxC x) pc = .ok (.freturn, 1) ∧ cxR x = some .float
    | .dreturn => decode (cxC x) pc = .ok (.dreturn, 1) ∧ cxR x = some .double
    | .return_ => decode (cxC x) pc = .ok (.return_, 1) ∧ cxR x = none
    | i => decode (cxC x) pc = .ok (i, ai_len i)
/-- what the walk owes at its ends, where the outcome is out -/
def EOr (x : CX) (out : Out × GS) : Prop := ∀ (v : Option AV) (G : GS), out = (.inl v, G) → ∀ (pc u : Nat) (i : Instr) (ls : Ls), decode (cxC x) pc = .ok (i, 1) → RK (cxR x) i v → vAo (cxL x) v → u ≤ cxG x → WG x pc ls v.toList G u
def EOn (x : CX) (out : Out × GS) : Prop := ∀ (ex : Nat) (G : GS), out = (.inr ex, G) → ∀ (pc u idx : Nat) (ls : Ls) (st : List AV), NewOK x pc idx ex → u + 1 ≤ cxG x → ai_cats st ≤ 8 → WG x pc ls st G u
def EOx (x : CX) (out : Out × GS) : Prop := ∀ (ex : Nat) (G : GS), out = (.inr ex, G) → ∀ (pc u : Nat) (ls : Ls) (rest : List AV), u ≤ cxG x → WX x pc ls rest G u ex
theorem vLs_at {L : List Rf} {ls : Ls} {i : Nat} {v : AV} (h : vLs L ls) (hi : ls[i]? = some (some v)) : vA L v := h v (List.mem_of_getElem? hi)
theorem vAs_cons {L : List Rf} {v : AV} {l : List AV} (h : vA L v) (t : vAs L l) : vAs L (v :: l) := fun w hw => (List.mem_cons.mp hw).elim (fun e => e ▸ h) (t w)
theorem vAs_hd {L : List Rf} {v : AV} {l : List AV} (h : vAs L (v :: l)) : vA L v := h v List.mem_cons_self
theorem vAs_tl {L : List Rf} {v : AV} {l : List AV} (h : vAs L (v :: l)) : vAs L l := fun w hw => h w (List.mem_cons_of_mem _ hw)
theorem vLs_none {L : List Rf} {ls : Ls} {i : Nat} (h : vLs L ls) : vLs L (ls.set i none) := vLs_set h (fun v e => nomatch e)
theorem vLs_some {L : List Rf} {ls : Ls} {i : Nat} {v : AV} (h : vLs L ls) (hv : vA L v) : vLs L (ls.set i (some v)) := vLs_set h (fun w e => by cases e; exact hv)
theorem pop_eq : ∀ (n : Nat) (acc st as rest : List AV), ai_pop n acc st = some (as, rest) → ∃ l : List AV, as = l ++ acc ∧ st = l.reverse ++ rest
  | 0, acc, st, as, rest, h => by
    rw [ai_pop] at h
    cases h
    exact ⟨[], rfl, rfl⟩
  | n + 1, acc, [], as, rest, h => by rw [ai_pop] at h; cases h
  | n + 1, acc, v :: st, as, rest, h => by
    rw [ai_pop] at h
    obtain ⟨l, h1, h2⟩ := pop_eq n (v :: acc) st as rest h
    refine ⟨l ++ [v], by rw [h1]; simp, by rw [h2]; simp⟩
theorem bind_eq {A : Res} {k : Out × GS → Res} {out : Out × GS} (h : A.bind k = some out) : ∃ r, A = some r ∧ k r = some out := by
  cases A with
  | none => cases h
  | some r => exact ⟨r, rfl, h⟩
section Run
variable {x : CX} {T : Tb} {call : Nat → List AV → GS → Res} {hd : Nat → Hd} {self : Ks} {out : Out × GS}
theorem call_sound (hEx : EOx x out) {pc y : Nat} {ls : Ls} {st : List AV} {G : GS} {u : Nat} (hcw : CW x pc (y / 64 % 256) (call (y / 16384))) (hhd : HdOK x pc (hd pc))
    (hself : ∀ pc ls st G u, self pc ls st G u = some out → vLs (cxL x) ls → vAs (cxL x) st → u ≤ cxG x → WG x pc ls st G u)
    (h : ai_call call (cxG x) (hd pc) self pc y ls st G u = some out) (hls : vLs (cxL x) ls) (hst : vAs (cxL x) st) : WG x pc ls st G u := by
  unfold ai_call at h
  cases hp : ai_pop (y / 8 % 8) [] st with
  | none => rw [hp] at h; cases h
  | some q =>
    obtain ⟨as, rest⟩ := q
    rw [hp] at h
    dsimp only at h
    cases h1 : Nat.ble (u + y / 64 % 256) (cxG x) with
    | false => rw [h1] at h; cases h
    | true =>
      rw [h1] at h
      dsimp only at h
      cases h2 : Nat.ble (ai_cats rest) 8 with
      | false => rw [h2] at h; cases h
      | true =>
        rw [h2] at h
        dsimp only at h
        obtain ⟨r, hr, hk⟩ := bind_eq h
        obtain ⟨l, hl1, hl2⟩ := pop_eq _ _ _ _ _ hp
        rw [List.append_nil] at hl1
        subst hl1
        subst hl2
        have hu : u + y / 64 % 256 ≤ cxG x := Nat.le_of_ble_eq_true h1
        have vas : vAs (cxL x) as := fun w hw => hst w (List.mem_append_left _ (List.mem_reverse.mpr hw))
        have vrest : vAs (cxL x) rest := fun w hw => hst w (List.mem_append_right _ hw)
        have kx : ∀ ex G1, r = (.inr ex, G1) → ai_hx (hd pc) ex (fun h => self (h.1 + h.2.1) (ls.set h.2.2 none) [] G1 (u + y / 64 % 256)) G1 = some out → WX x pc ls rest G1 (u + y / 64 % 256) ex := by
          intro ex G1 _ hx
          unfold ai_hx at hx
          cases hh : hd pc with
          | nil =>
            rw [hh] at hx
            cases hx
            exact hEx ex G1 rfl pc _ ls rest hu
          | cons h0 hs =>
            rw [hh] at hx
            dsimp only at hx
            rw [hs_eq] at hx
            cases hsl : hsel (h0 :: hs) ex with
            | none => rw [hsl] at hx; cases hx
            | some h9 =>
              rw [hsl] at hx
              rw [hh] at hhd
              exact hhd ex h9 ls rest G1 _ hsl (hself _ _ _ _ _ hx (vLs_none hls) (fun w hw => nomatch hw) hu)
        refine hcw as rest G r ls u hr vas (Nat.le_of_ble_eq_true h2) hu (fun v hv hvo => ?_) (fun ex he => ?_)
        · obtain ⟨o, G1⟩ := r
          have hv : o = .inl v := hv
          subst hv
          unfold ai_rt at hk
          split at hk
          · unfold oV at hk
            cases v with
            | none => exact hself _ _ _ _ _ hk hls vrest hu
            | some w => cases hk
          · unfold oI at hk
            split at hk
            · rename_i v' heq
              cases heq
              exact hself _ _ _ _ _ hk hls (vAs_cons trivial vrest) hu
            · rename_i heq; cases heq
            · cases hk
          · unfold oF at hk
            split at hk
            · rename_i v' heq
              cases heq
              exact hself _ _ _ _ _ hk hls (vAs_cons trivial vrest) hu
            · rename_i heq; cases heq
            · cases hk
          · unfold oD at hk
            split at hk
            · rename_i v' heq
              cases heq
              exact hself _ _ _ _ _ hk hls (vAs_cons trivial vrest) hu
            · rename_i heq; cases heq
            · cases hk
          · unfold oQ at hk
            split at hk
            · rename_i heq
              cases heq
              exact hself _ _ _ _ _ hk hls (vAs_cons trivial vrest) hu
            · rename_i q heq
              cases heq
              cases hb : Nat.beq q.2 1 with
              | false => rw [hb] at hk; cases hk
              | true =>
                rw [hb] at hk
                have e : q = (q.1, 1) := Prod.ext rfl (Nat.eq_of_beq_eq_true hb)
                rw [e]
                exact hself _ _ _ _ _ hk hls (vAs_cons (e ▸ hvo _ rfl) vrest) hu
            · rename_i heq; cases heq
            · cases hk
          · unfold oR at hk
            split at hk
            · rename_i q heq
              cases heq
              cases hb : Nat.beq q.2 200 with
              | false => rw [hb] at hk; cases hk
              | true =>
                rw [hb] at hk
                have e : q = (q.1, 200) := Prod.ext rfl (Nat.eq_of_beq_eq_true hb)
                rw [e]
                exact hself _ _ _ _ _ hk hls (vAs_cons (e ▸ hvo _ rfl) vrest) hu
            · rename_i heq; cases heq
            · cases hk
          · unfold oR at hk
            split at hk
            · rename_i q heq
              cases heq
              cases hb : Nat.beq q.2 16 with
              | false => rw [hb] at hk; cases hk
              | true =>
                rw [hb] at hk
                have e : q = (q.1, 16) := Prod.ext rfl (Nat.eq_of_beq_eq_true hb)
                rw [e]
                exact hself _ _ _ _ _ hk hls (vAs_cons (e ▸ hvo _ rfl) vrest) hu
            · rename_i heq; cases heq
            · cases hk
        · obtain ⟨o, G1⟩ := r
          have he : o = .inr ex := he
          subst he
          refine kx ex G1 rfl ?_
          unfold ai_rt at hk
          split at hk
          · exact hk
          · exact hk
          · exact hk
          · exact hk
          · exact hk
          · exact hk
          · exact hk
end Run
end
section
/-! one step of the abstract machine -/
section Step
variable {x : CX} {T : Tb} {call : Nat → List AV → GS → Res} {hd : Nat → Hd} {self : Ks} {out : Out × GS}
theorem ld_sound {t pc n i : Nat} {ls : Ls} {st : List AV} {G : GS} {u : Nat} (hF : FX x)
    (hd : (t = 0 ∧ ((decode (cxC x) pc = .ok (.aload i, 2) ∧ n = 2) ∨ ∃ k : Fin 4, decode (cxC x) pc = .ok (.aload_n k, 1) ∧ k.val = i ∧ n = 1)) ∨
      (t = 1 ∧ ((decode (cxC x) pc = .ok (.iload i, 2) ∧ n = 2) ∨ ∃ k : Fin 4, decode (cxC x) pc = .ok (.iload_n k, 1) ∧ k.val = i ∧ n = 1)) ∨
      (t = 2 ∧ ((decode (cxC x) pc = .ok (.fload i, 2) ∧ n = 2) ∨ ∃ k : Fin 4, decode (cxC x) pc = .ok (.fload_n k, 1) ∧ k.val = i ∧ n = 1)) ∨
      (t = 3 ∧ ((decode (cxC x) pc = .ok (.dload i, 2) ∧ n = 2) ∨ ∃ k : Fin 4, decode (cxC x) pc = .ok (.dload_n k, 1) ∧ k.val = i ∧ n = 1)))
    (hself : ∀ pc ls st G u, self pc ls st G u = some out → vLs (cxL x) ls → vAs (cxL x) st → u ≤ cxG x → WG x pc ls st G u)
    (hls : vLs (cxL x) ls) (hst : vAs (cxL x) st) (hu : u ≤ cxG x) (h : ai_ld t self (pc + n) i ls st G u = some out) : WG x pc ls st G u := by
  unfold ai_ld at h
  split at h
  · rename_i v hv
    cases hty : ai_ty t v with
    | false => rw [hty] at h; cases h
    | true =>
      rw [hty] at h
      exact sd_ld hF hv hd hty (hself _ _ _ _ _ h hls (vAs_cons (vLs_at hls hv) hst) hu)
  · cases h
theorem sto_sound {t pc n i : Nat} {ls : Ls} {st : List AV} {G : GS} {u : Nat} (hF : FX x) (ht : t ≠ 3)
    (hd : (t = 0 ∧ ((decode (cxC x) pc = .ok (.astore i, 2) ∧ n = 2) ∨ ∃ k : Fin 4, decode (cxC x) pc = .ok (.astore_n k, 1) ∧ k.val = i ∧ n = 1)) ∨
      (t = 1 ∧ ((decode (cxC x) pc = .ok (.istore i, 2) ∧ n = 2) ∨ ∃ k : Fin 4, decode (cxC x) pc = .ok (.istore_n k, 1) ∧ k.val = i ∧ n = 1)) ∨
      (t = 2 ∧ ((decode (cxC x) pc = .ok (.fstore i, 2) ∧ n = 2) ∨ ∃ k : Fin 4, decode (cxC x) pc = .ok (.fstore_n k, 1) ∧ k.val = i ∧ n = 1)))
    (hself : ∀ pc ls st G u, self pc ls st G u = some out → vLs (cxL x) ls → vAs (cxL x) st → u ≤ cxG x → WG x pc ls st G u)
    (hls : vLs (cxL x) ls) (hst : vAs (cxL x) st) (hu : u ≤ cxG x) (h : ai_sto t self (pc + n) i ls st G u = some out) : WG x pc ls st G u := by
  unfold ai_sto at h
  cases st with
  | nil => cases h
  | cons v st =>
    dsimp only at h
    cases hb : ai_ty t v && (ai_below i ls && Nat.ble (i + 1) ls.length) with
    | false => rw [hb] at h; cases h
    | true =>
      rw [hb] at h
      rw [Bool.and_eq_true, Bool.and_eq_true] at hb
      exact sd_sto hF ht hd hb.1 hb.2.1 (Nat.le_of_ble_eq_true hb.2.2) (hself _ _ _ _ _ h (vLs_some hls (vAs_hd hst)) (vAs_tl hst) hu)
theorem sto2_sound {pc n i : Nat} {ls : Ls} {st : List AV} {G : GS} {u : Nat} (hF : FX x)
    (hd : (decode (cxC x) pc = .ok (.dstore i, 2) ∧ n = 2) ∨ ∃ k : Fin 4, decode (cxC x) pc = .ok (.dstore_n k, 1) ∧ k.val = i ∧ n = 1)
    (hself : ∀ pc ls st G u, self pc ls st G u = some out → vLs (cxL x) ls → vAs (cxL x) st → u ≤ cxG x → WG x pc ls st G u)
    (hls : vLs (cxL x) ls) (hst : vAs (cxL x) st) (hu : u ≤ cxG x) (h : ai_sto2 3 self (pc + n) i ls st G u = some out) : WG x pc ls st G u := by
  unfold ai_sto2 at h
  cases st with
  | nil => cases h
  | cons v st =>
    dsimp only at h
    cases hb : ai_ty 3 v && (ai_below i ls && Nat.ble (i + 2) ls.length) with
    | false => rw [hb] at h; cases h
    | true =>
      rw [hb] at h
      rw [Bool.and_eq_true, Bool.and_eq_true] at hb
      exact sd_sto2 hF hd hb.1 hb.2.1 (Nat.le_of_ble_eq_true hb.2.2) (hself _ _ _ _ _ h (vLs_none (vLs_some hls (vAs_hd hst))) (vAs_tl hst) hu)
theorem get_sound {pc idx y : Nat} {ls : Ls} {st : List AV} {G : GS} {u : Nat} {r : Rf} (hF : FX x) (hd : decode (cxC x) pc = .ok (.getfield idx, 3)) (hlk : FLk (cxO x) idx y)
    (hself : ∀ pc ls st G u, self pc ls st G u = some out → vLs (cxL x) ls → vAs (cxL x) st → u ≤ cxG x → WG x pc ls st G u)
    (hls : vLs (cxL x) ls) (hst : vAs (cxL x) (.inr r :: st)) (hu : u ≤ cxG x) (h : ai_get G r y (fun v => self (pc + 3) ls (v :: st) G u) = some out) : WG x pc ls (.inr r :: st) G u := by
  unfold ai_get at h
  split at h
  · rename_i c n hk
    cases hb : (Nat.beq c (y / 64) && Nat.blt (y / 2 % 32) n) with
    | false => rw [hb] at h; cases h
    | true =>
      rw [hb] at h
      rw [Bool.and_eq_true] at hb
      refine sd_get hF hd hlk (vAs_hd hst) hk (Nat.eq_of_beq_eq_true hb.1) (Nat.le_of_ble_eq_true hb.2) (fun v hv => ?_)
      have h : (match gr r (y / 2 % 32) with | some q => self (pc + 3) ls (.inr q :: st) G u | none => self (pc + 3) ls (.inl (.int (gi G r (y / 2 % 32))) :: st) G u) = some out := h
      cases hg : gr r (y / 2 % 32) with
      | some q =>
        rw [hg] at h
        refine hself _ _ _ _ _ h hls (vAs_cons ?_ (vAs_tl hst)) hu
        have hr := vAs_hd hst (by rw [hk]; rfl)
        obtain ⟨⟨p, l, e, R, s, m, args, below, meth, c, Q⟩, ⟨D, cs, b, ad, adV, sc, L, XT⟩, cc, nL, own, c0, s0, seg, lv⟩ := x
        exact hF.2.2.2.2.2.2.2.1.2.1 r hr _ q hg
      | none =>
        rw [hg] at h
        exact hself _ _ _ _ _ h hls (vAs_cons trivial (vAs_tl hst)) hu
  · cases h
theorem put_sound {pc idx y : Nat} {ls : Ls} {st : List AV} {G : GS} {u : Nat} {r : Rf} {v : Int32} (hF : FX x) (hd : decode (cxC x) pc = .ok (.putfield idx, 3)) (hlk : PLk (cxO x) idx y)
    (hself : ∀ pc ls st G u, self pc ls st G u = some out → vLs (cxL x) ls → vAs (cxL x) st → u ≤ cxG x → WG x pc ls st G u)
    (hls : vLs (cxL x) ls) (hst : vAs (cxL x) (.inl (.int v) :: .inr r :: st)) (hu : u ≤ cxG x) (h : ai_put G r y v (fun G1 => self (pc + 3) ls st G1 u) = some out) : WG x pc ls (.inl (.int v) :: .inr r :: st) G u := by
  unfold ai_put at h
  have hst2 := vAs_tl hst
  split at h
  · rename_i c n hk
    cases hb : (Nat.beq c (y / 64) && Nat.blt (y / 2 % 32) n) with
    | false => rw [hb] at h; cases h
    | true =>
      rw [hb] at h
      rw [Bool.and_eq_true] at hb
      have h : (match gr r (y / 2 % 32) with | some _ => none | none => bif Nat.beq (y % 2) 0 then self (pc + 3) ls st (si G r (y / 2 % 32) v) u else if v = 0 ∨ v = 1 then self (pc + 3) ls st (si G r (y / 2 % 32) v) u else none) = some out := h
      cases hg : gr r (y / 2 % 32) with
      | some q => rw [hg] at h; cases h
      | none =>
        rw [hg] at h
        dsimp only at h
        cases hz : Nat.beq (y % 2) 0 with
        | true =>
          rw [hz] at h
          exact sd_put hF hd hlk (vAs_hd hst2) hk (Nat.eq_of_beq_eq_true hb.1) (Nat.le_of_ble_eq_true hb.2) hg (Or.inl (Nat.eq_of_beq_eq_true hz)) (hself _ _ _ _ _ h hls (vAs_tl hst2) hu)
        | false =>
          rw [hz] at h
          have h : (if v = 0 ∨ v = 1 then self (pc + 3) ls st (si G r (y / 2 % 32) v) u else none) = some out := h
          by_cases hv : v = 0 ∨ v = 1
          · rw [if_pos hv] at h
            exact sd_put hF hd hlk (vAs_hd hst2) hk (Nat.eq_of_beq_eq_true hb.1) (Nat.le_of_ble_eq_true hb.2) hg (Or.inr hv) (hself _ _ _ _ _ h hls (vAs_tl hst2) hu)
          · rw [if_neg hv] at h; cases h
  · cases h
theorem if_sound {pc y : Nat} {off : Int} {cn : Jvm.ClassFile.Cond} {a : Int32} {ls : Ls} {st : List AV} {G : GS} {u : Nat} (hF : FX x) (hd : decode (cxC x) pc = .ok (.ifCond cn off, 3)) (ht : (pc : Int) + off = (y : Int))
    (hself : ∀ pc ls st G u, self pc ls st G u = some out → vLs (cxL x) ls → vAs (cxL x) st → u ≤ cxG x → WG x pc ls st G u)
    (hls : vLs (cxL x) ls) (hst : vAs (cxL x) st) (hu : u ≤ cxG x) (h : ai_if cn a (self y ls st G u) (self (pc + 3) ls st G u) = some out) : WG x pc ls (.inl (.int a) :: st) G u := by
  have k : ∀ pc, self pc ls st G u = some out → WG x pc ls st G u := fun pc h => hself pc ls st G u h hls hst hu
  cases cn <;> unfold ai_if at h <;> dsimp only at h
  · exact sd_if_eq hF hd ht (fun q => k _ (by rwa [if_pos q] at h)) (fun q => k _ (by rwa [if_neg q] at h))
  · exact sd_if_ne hF hd ht (fun q => k _ (by rwa [if_neg q] at h)) (fun q => k _ (by rwa [if_pos q] at h))
  · exact sd_if_lt hF hd ht (fun q => k _ (by rwa [if_pos q] at h)) (fun q => k _ (by rwa [if_neg q] at h))
  · exact sd_if_ge hF hd ht (fun q => k _ (by rwa [if_pos q] at h)) (fun q => k _ (by rwa [if_neg q] at h))
  · exact sd_if_gt hF hd ht (fun q => k _ (by rwa [if_pos q] at h)) (fun q => k _ (by rwa [if_neg q] at h))
  · exact sd_if_le hF hd ht (fun q => k _ (by rwa [if_pos q] at h)) (fun q => k _ (by rwa [if_neg q] at h))
theorem icmp_sound {pc y : Nat} {off : Int} {cn : Jvm.ClassFile.Cond} {a b : Int32} {ls : Ls} {st : List AV} {G : GS} {u : Nat} (hF : FX x) (hd : decode (cxC x) pc = .ok (.if_icmp cn off, 3)) (ht : (pc : Int) + off = (y : Int))
    (hself : ∀ pc ls st G u, self pc ls st G u = some out → vLs (cxL x) ls → vAs (cxL x) st → u ≤ cxG x → WG x pc ls st G u)
    (hls : vLs (cxL x) ls) (hst : vAs (cxL x) st) (hu : u ≤ cxG x) (h : ai_icmp cn a b (self y ls st G u) (self (pc + 3) ls st G u) = some out) : WG x pc ls (.inl (.int b) :: .inl (.int a) :: st) G u := by
  have k : ∀ pc, self pc ls st G u = some out → WG x pc ls st G u := fun pc h => hself pc ls st G u h hls hst hu
  cases cn <;> unfold ai_icmp at h <;> dsimp only at h
  · exact sd_icmp_eq hF hd ht (fun q => k _ (by rwa [if_pos q] at h)) (fun q => k _ (by rwa [if_neg q] at h))
  · exact sd_icmp_ne hF hd ht (fun q => k _ (by rwa [if_neg q] at h)) (fun q => k _ (by rwa [if_pos q] at h))
  · exact sd_icmp_lt hF hd ht (fun q => k _ (by rwa [if_pos q] at h)) (fun q => k _ (by rwa [if_neg q] at h))
  · exact sd_icmp_ge hF hd ht (fun q => k _ (by rwa [if_pos q] at h)) (fun q => k _ (by rwa [if_neg q] at h))
  · exact sd_icmp_gt hF hd ht (fun q => k _ (by rwa [if_pos q] at h)) (fun q => k _ (by rwa [if_neg q] at h))
  · exact sd_icmp_le hF hd ht (fun q => k _ (by rwa [if_pos q] at h)) (fun q => k _ (by rwa [if_neg q] at h))
theorem char_nar {v : Int32} (h : 0 ≤ v ∧ v ≤ 65535) : narrow .char (.int v) = .int v := by
  obtain ⟨j, hj, rfl⟩ := nI_of2 (M := 65535) (n := 65535) (by decide) (fun q => Int32.lt_irrefl (Int32.lt_of_lt_of_le q h.1)) h.2
  exact (pk_charN (by omega)).1
theorem aa_valid {r : Rf} {j : Int32} (hF : FX x) (hv : vA (cxL x) (.inr r)) (h11 : r.2 = 11) (hin : inb j 9 = true) : vA (cxL x) (.inr (j.toNatClampNeg + 2, 1)) := by
  obtain ⟨⟨p, l, e, R, s, m, args, below, meth, c, Q⟩, ⟨D, cs, b, ad, adV, sc, L, XT⟩, cc, nL, own, c0, s0, seg, lv⟩ := x
  have hL : Lok L := hF.2.2.2.2.2.2.2.1
  intro _
  have hr : r ∈ L := hv (by rw [h11]; rfl)
  have h0 : r.1 = 0 := hL.2.2.2 r hr (Or.inl h11)
  have e : r = (0, 11) := Prod.ext h0 h11
  rw [e] at hr
  have h1 := inb_in hin
  exact hL.2.2.1 hr _ (Nat.not_le.mp (fun z => h1 (Or.inr z)))
set_option maxHeartbeats 4000000 in
theorem step_sound (hF : FX x) (hEr : EOr x out) (hEn : EOn x out) (hEx : EOx x out) {pc : Nat} {e : En} {ls0 : Ls} {st : List AV} {G : GS} {u : Nat} (he : EnOK x call hd pc e)
    (hself : ∀ pc ls st G u, self pc ls st G u = some out → vLs (cxL x) ls → vAs (cxL x) st → u ≤ cxG x → WG x pc ls st G u)
    (h : ai_step (cxS x) T call hd (cxG x) self pc e ls0 st G u = some out) (hls : vLs (cxL x) ls0) (hst : vAs (cxL x) st) (hu : u ≤ cxG x) : WG x pc ls0 st G u := by
  obtain ⟨i, n0, y, ks, ct, sw⟩ := e
  refine WG_kill ks ?_
  replace hls := vLs_kill ks hls
  cases i with
  | aload_n k =>
    exact ld_sound (n := 1) hF (Or.inl ⟨rfl, Or.inr ⟨k, he, rfl, rfl⟩⟩) hself hls hst hu h
  | aload k =>
    exact ld_sound (n := 2) hF (Or.inl ⟨rfl, Or.inl ⟨he, rfl⟩⟩) hself hls hst hu h
  | astore_n k =>
    exact sto_sound (n := 1) hF (by decide) (Or.inl ⟨rfl, Or.inr ⟨k, he, rfl, rfl⟩⟩) hself hls hst hu h
  | astore k =>
    exact sto_sound (n := 2) hF (by decide) (Or.inl ⟨rfl, Or.inl ⟨he, rfl⟩⟩) hself hls hst hu h
  | iload_n k =>
    exact ld_sound (n := 1) hF (Or.inr (Or.inl ⟨rfl, Or.inr ⟨k, he, rfl, rfl⟩⟩)) hself hls hst hu h
  | iload k =>
    exact ld_sound (n := 2) hF (Or.inr (Or.inl ⟨rfl, Or.inl ⟨he, rfl⟩⟩)) hself hls hst hu h
  | istore_n k =>
    exact sto_sound (n := 1) hF (by decide) (Or.inr (Or.inl ⟨rfl, Or.inr ⟨k, he, rfl, rfl⟩⟩)) hself hls hst hu h
  | istore k =>
    exact sto_sound (n := 2) hF (by decide) (Or.inr (Or.inl ⟨rfl, Or.inl ⟨he, rfl⟩⟩)) hself hls hst hu h
  | fload k =>
    exact ld_sound (n := 2) hF (Or.inr (Or.inr (Or.inl ⟨rfl, Or.inl ⟨he, rfl⟩⟩))) hself hls hst hu h
  | fstore k =>
    exact sto_sound (n := 2) hF (by decide) (Or.inr (Or.inr ⟨rfl, Or.inl ⟨he, rfl⟩⟩)) hself hls hst hu h
  | dload k =>
    exact ld_sound (n := 2) hF (Or.inr (Or.inr (Or.inr ⟨rfl, Or.inl ⟨he, rfl⟩⟩))) hself hls hst hu h
  | dstore k =>
    exact sto2_sound (n := 2) hF (Or.inl ⟨he, rfl⟩) hself hls hst hu h
  | iconst c =>
    exact sd_iconst hF he (hself _ _ _ _ _ h hls (vAs_cons trivial hst) hu)
  | bipush c =>
    exact sd_bipush hF he (hself _ _ _ _ _ h hls (vAs_cons trivial hst) hu)
  | sipush c =>
    exact sd_sipush hF he (hself _ _ _ _ _ h hls (vAs_cons trivial hst) hu)
  | aconst_null =>
    exact sd_null hF he (hself _ _ _ _ _ h hls (vAs_cons trivial hst) hu)
  | lconst c =>
    exact sd_lconst hF he (hself _ _ _ _ _ h hls (vAs_cons trivial hst) hu)
  | ldc idx =>
    obtain ⟨he, hy⟩ := he
    cases y with
    | zero => exact sd_ldcf hF he hy (hself _ _ _ _ _ h hls (vAs_cons trivial hst) hu)
    | succ k => exact sd_ldcs hF he hy.1 hy.2.1 hy.2.2 (hself _ _ _ _ _ h hls (vAs_cons (fun z => by cases z) hst) hu)
  | iadd =>
    dsimp only [ai_step] at h
    split at h
    · rename_i b a st
      exact sd_iadd hF he (hself _ _ _ _ _ h hls (vAs_cons trivial (vAs_tl (vAs_tl hst))) hu)
    · cases h
  | isub =>
    dsimp only [ai_step] at h
    split at h
    · rename_i b a st
      exact sd_isub hF he (hself _ _ _ _ _ h hls (vAs_cons trivial (vAs_tl (vAs_tl hst))) hu)
    · cases h
  | imul =>
    dsimp only [ai_step] at h
    split at h
    · rename_i b a st
      exact sd_imul hF he (hself _ _ _ _ _ h hls (vAs_cons trivial (vAs_tl (vAs_tl hst))) hu)
    · cases h
  | iand =>
    dsimp only [ai_step] at h
    split at h
    · rename_i b a st
      exact sd_iand hF he (hself _ _ _ _ _ h hls (vAs_cons trivial (vAs_tl (vAs_tl hst))) hu)
    · cases h
  | idiv =>
    dsimp only [ai_step] at h
    split at h
    · rename_i b a st
      by_cases hz : b = 0
      · rw [if_pos hz] at h; cases h
      · rw [if_neg hz] at h
        exact sd_idiv hF he hz (hself _ _ _ _ _ h hls (vAs_cons trivial (vAs_tl (vAs_tl hst))) hu)
    · cases h
  | irem =>
    dsimp only [ai_step] at h
    split at h
    · rename_i b a st
      by_cases hz : b = 0
      · rw [if_pos hz] at h; cases h
      · rw [if_neg hz] at h
        exact sd_irem hF he hz (hself _ _ _ _ _ h hls (vAs_cons trivial (vAs_tl (vAs_tl hst))) hu)
    · cases h
  | ineg =>
    dsimp only [ai_step] at h
    split at h
    · rename_i a st
      exact sd_ineg hF he (hself _ _ _ _ _ h hls (vAs_cons trivial (vAs_tl hst)) hu)
    · cases h
  | i2c =>
    dsimp only [ai_step] at h
    split at h
    · rename_i a st
      exact sd_i2c hF he (hself _ _ _ _ _ h hls (vAs_cons trivial (vAs_tl hst)) hu)
    · cases h
  | i2l =>
    dsimp only [ai_step] at h
    split at h
    · rename_i a st
      exact sd_i2l hF he (hself _ _ _ _ _ h hls (vAs_cons trivial (vAs_tl hst)) hu)
    · cases h
  | i2f =>
    dsimp only [ai_step] at h
    split at h
    · rename_i a st
      exact sd_i2f hF he (hself _ _ _ _ _ h hls (vAs_cons trivial (vAs_tl hst)) hu)
    · cases h
  | i2d =>
    dsimp only [ai_step] at h
    split at h
    · rename_i a st
      exact sd_i2d hF he (hself _ _ _ _ _ h hls (vAs_cons trivial (vAs_tl hst)) hu)
    · cases h
  | f2d =>
    dsimp only [ai_step] at h
    split at h
    · rename_i a st
      split at h
      · rename_i hz
        exact sd_f2d hF he hz (hself _ _ _ _ _ h hls (vAs_cons trivial (vAs_tl hst)) hu)
      · cases h
    · cases h
  | fmul =>
    dsimp only [ai_step] at h
    split at h
    · rename_i b a st
      split at h
      · rename_i hz
        exact sd_fmul hF he hz (hself _ _ _ _ _ h hls (vAs_cons trivial (vAs_tl (vAs_tl hst))) hu)
      · cases h
    · cases h
  | fdiv =>
    dsimp only [ai_step] at h
    split at h
    · rename_i b a st
      split at h
      · rename_i hz
        exact sd_fdiv hF he hz (hself _ _ _ _ _ h hls (vAs_cons trivial (vAs_tl (vAs_tl hst))) hu)
      · cases h
    · cases h
  | ddiv =>
    dsimp only [ai_step] at h
    split at h
    · rename_i b a st
      split at h
      · rename_i hz
        exact sd_ddiv hF he hz (hself _ _ _ _ _ h hls (vAs_cons trivial (vAs_tl (vAs_tl hst))) hu)
      · cases h
    · cases h
  | fcmp op =>
    dsimp only [ai_step] at h
    split at h
    · rename_i b a st
      exact sd_fcmp hF he (hself _ _ _ _ _ h hls (vAs_cons trivial (vAs_tl (vAs_tl hst))) hu)
    · cases h
  | dcmp op =>
    dsimp only [ai_step] at h
    split at h
    · rename_i b a st
      exact sd_dcmp hF he (hself _ _ _ _ _ h hls (vAs_cons trivial (vAs_tl (vAs_tl hst))) hu)
    · cases h
  | lcmp =>
    dsimp only [ai_step] at h
    split at h
    · rename_i b a st
      exact sd_lcmp hF he (hself _ _ _ _ _ h hls (vAs_cons trivial (vAs_tl (vAs_tl hst))) hu)
    · cases h
  | dup =>
    dsimp only [ai_step] at h
    split at h
    · rename_i v st
      cases hb : Nat.beq (ai_cat v) 1 with
      | false => rw [hb] at h; cases h
      | true =>
        rw [hb] at h
        exact sd_dup hF he (Nat.eq_of_beq_eq_true hb) (hself _ _ _ _ _ h hls (vAs_cons (vAs_hd hst) hst) hu)
    · cases h
  | dup2 =>
    dsimp only [ai_step] at h
    split at h
    · rename_i v w st
      cases hb : (Nat.beq (ai_cat v) 1 && Nat.beq (ai_cat w) 1) with
      | false => rw [hb] at h; cases h
      | true =>
        rw [hb] at h
        rw [Bool.and_eq_true] at hb
        exact sd_dup2 hF he (Nat.eq_of_beq_eq_true hb.1) (Nat.eq_of_beq_eq_true hb.2) (hself _ _ _ _ _ h hls (vAs_cons (vAs_hd hst) (vAs_cons (vAs_hd (vAs_tl hst)) hst)) hu)
    · cases h
  | pop =>
    dsimp only [ai_step] at h
    split at h
    · rename_i v st
      cases hb : Nat.beq (ai_cat v) 1 with
      | false => rw [hb] at h; cases h
      | true =>
        rw [hb] at h
        exact sd_pop hF he (Nat.eq_of_beq_eq_true hb) (hself _ _ _ _ _ h hls (vAs_tl hst) hu)
    · cases h
  | iinc k c =>
    dsimp only [ai_step] at h
    split at h
    · rename_i a ha
      unfold ai_sto at h
      dsimp only at h
      cases hb : (ai_ty 1 (.inl (.int (a + Int32.ofInt c))) && (ai_below k (ai_kill ks ls0) && Nat.ble (k + 1) (ai_kill ks ls0).length)) with
      | false => rw [hb] at h; cases h
      | true =>
        rw [hb] at h
        rw [Bool.and_eq_true, Bool.and_eq_true] at hb
        exact sd_iinc hF he ha hb.2.1 (Nat.le_of_ble_eq_true hb.2.2) (hself _ _ _ _ _ h (vLs_some hls trivial) hst hu)
    · cases h
  | ifCond cn off =>
    dsimp only [ai_step] at h
    split at h
    · rename_i a st
      exact if_sound hF he.1 he.2 hself hls (vAs_tl hst) hu h
    · cases h
  | if_icmp cn off =>
    dsimp only [ai_step] at h
    split at h
    · rename_i b a st
      exact icmp_sound hF he.1 he.2 hself hls (vAs_tl (vAs_tl hst)) hu h
    · cases h
  | goto off =>
    exact sd_goto hF he.1 he.2 (hself _ _ _ _ _ h hls hst hu)
  | ifnull off =>
    dsimp only [ai_step] at h
    split at h
    · exact sd_ifnullN hF he.1 he.2 (hself _ _ _ _ _ h hls (vAs_tl hst) hu)
    · exact sd_ifnull hF he.1 (hself _ _ _ _ _ h hls (vAs_tl hst) hu)
    · cases h
  | tableswitch d lo hi offs =>
    dsimp only [ai_step] at h
    split at h
    · rename_i a st
      rw [sw_eq] at h
      obtain ⟨⟨len, he⟩, hsw⟩ := he
      exact sd_tab hF he hsw (hself _ _ _ _ _ h hls (vAs_tl hst) hu)
    · cases h
  | lookupswitch d ps =>
    dsimp only [ai_step] at h
    split at h
    · rename_i a st
      rw [sw_eq] at h
      obtain ⟨⟨len, he⟩, hsw⟩ := he
      exact sd_look hF he hsw (hself _ _ _ _ _ h hls (vAs_tl hst) hu)
    · cases h
  | getfield idx =>
    dsimp only [ai_step] at h
    split at h
    · rename_i r st
      exact get_sound hF he.1 he.2 hself hls hst hu h
    · cases h
  | putfield idx =>
    dsimp only [ai_step] at h
    split at h
    · rename_i v r st
      exact put_sound hF he.1 he.2 hself hls hst hu h
    · cases h
  | iaload =>
    dsimp only [ai_step] at h
    split at h
    · rename_i j r st
      cases h250 : (Nat.beq r.2 250 && Nat.beq r.1 0) with
      | true =>
        rw [h250] at h
        rw [Bool.and_eq_true] at h250
        have e : r = (0, 250) := Prod.ext (Nat.eq_of_beq_eq_true h250.2) (Nat.eq_of_beq_eq_true h250.1)
        subst e
        cases hin : inb j (cxS x).1 with
        | false => rw [hin] at h; cases h
        | true =>
          rw [hin] at h
          exact sd_sald hF he hin (hself _ _ _ _ _ h hls (vAs_cons trivial (vAs_tl (vAs_tl hst))) hu)
      | false =>
        rw [h250] at h
        have h : ai_ald G r 0 j (fun v => self (pc + 1) (ai_kill ks ls0) (.inl (.int v) :: st) G u) = some out := h
        unfold ai_ald at h
        split at h
        · rename_i t n hk
          cases hb : Nat.beq t 0 with
          | false => rw [hb] at h; cases h
          | true =>
            rw [hb] at h
            rw [Nat.eq_of_beq_eq_true hb] at hk
            cases hin : inb j n with
            | false => rw [hin] at h; cases h
            | true =>
              rw [hin] at h
              exact sd_iald hF he (vAs_hd (vAs_tl hst)) hk hin (hself _ _ _ _ _ h hls (vAs_cons trivial (vAs_tl (vAs_tl hst))) hu)
        · cases h
    · cases h
  | caload =>
    dsimp only [ai_step] at h
    split at h
    · rename_i j r st
      unfold ai_ald at h
      split at h
      · rename_i t n hk
        cases hb : Nat.beq t 1 with
        | false => rw [hb] at h; cases h
        | true =>
          rw [hb] at h
          rw [Nat.eq_of_beq_eq_true hb] at hk
          cases hin : inb j n with
          | false => rw [hin] at h; cases h
          | true =>
            rw [hin] at h
            exact sd_cald hF he (vAs_hd (vAs_tl hst)) hk hin (hself _ _ _ _ _ h hls (vAs_cons trivial (vAs_tl (vAs_tl hst))) hu)
      · cases h
    · cases h
  | aaload =>
    dsimp only [ai_step] at h
    split at h
    · rename_i j r st
      cases hb : (Nat.beq r.2 11 && inb j 9) with
      | false => rw [hb] at h; cases h
      | true =>
        rw [hb] at h
        rw [Bool.and_eq_true] at hb
        have hk : kd r.2 = some (.inr (2, 9)) := by rw [Nat.eq_of_beq_eq_true hb.1]; rfl
        exact sd_aald hF he (vAs_hd (vAs_tl hst)) hk hb.2 (hself _ _ _ _ _ h hls (vAs_cons (aa_valid hF (vAs_hd (vAs_tl hst)) (Nat.eq_of_beq_eq_true hb.1) hb.2) (vAs_tl (vAs_tl hst))) hu)
    · cases h
  | laload =>
    dsimp only [ai_step] at h
    split at h
    · rename_i j r st
      cases hb : (Nat.beq r.2 18 && inb j 1) with
      | false => rw [hb] at h; cases h
      | true =>
        rw [hb] at h
        rw [Bool.and_eq_true] at hb
        have hk : kd r.2 = some (.inr (3, 1)) := by rw [Nat.eq_of_beq_eq_true hb.1]; rfl
        exact sd_lald (n := 1) hF he (vAs_hd (vAs_tl hst)) hk hb.2 (hself _ _ _ _ _ h hls (vAs_cons trivial (vAs_tl (vAs_tl hst))) hu)
    · cases h
  | daload =>
    dsimp only [ai_step] at h
    split at h
    · rename_i j r st
      cases hb : (Nat.beq r.2 19 && inb j 1) with
      | false => rw [hb] at h; cases h
      | true =>
        rw [hb] at h
        rw [Bool.and_eq_true] at hb
        have hk : kd r.2 = some (.inr (4, 1)) := by rw [Nat.eq_of_beq_eq_true hb.1]; rfl
        exact sd_dald (n := 1) hF he (vAs_hd (vAs_tl hst)) hk hb.2 (hself _ _ _ _ _ h hls (vAs_cons trivial (vAs_tl (vAs_tl hst))) hu)
    · cases h
  | iastore =>
    dsimp only [ai_step] at h
    split at h
    · rename_i v j r st
      unfold ai_ast at h
      split at h
      · rename_i t n hk
        cases hb : Nat.beq t 0 with
        | false => rw [hb] at h; cases h
        | true =>
          rw [hb] at h
          rw [Nat.eq_of_beq_eq_true hb] at hk
          cases hin : inb j n with
          | false => rw [hin] at h; cases h
          | true =>
            rw [hin] at h
            exact sd_iast hF he (vAs_hd (vAs_tl (vAs_tl hst))) hk hin (hself _ _ _ _ _ h hls (vAs_tl (vAs_tl (vAs_tl hst))) hu)
      · cases h
    · cases h
  | castore =>
    dsimp only [ai_step] at h
    split at h
    · rename_i v j r st
      unfold ai_ast at h
      split at h
      · rename_i t n hk
        cases hb : Nat.beq t 1 with
        | false => rw [hb] at h; cases h
        | true =>
          rw [hb] at h
          rw [Nat.eq_of_beq_eq_true hb] at hk
          cases hin : inb j n with
          | false => rw [hin] at h; cases h
          | true =>
            rw [hin] at h
            exact sd_cast hF he (vAs_hd (vAs_tl (vAs_tl hst))) hk hin (hself _ _ _ _ _ h hls (vAs_tl (vAs_tl (vAs_tl hst))) hu)
      · cases h
    · cases h
  | lastore =>
    dsimp only [ai_step] at h
    split at h
    · rename_i v j r st
      cases hb : (Nat.beq r.2 18 && inb j 1) with
      | false => rw [hb] at h; cases h
      | true =>
        rw [hb] at h
        rw [Bool.and_eq_true] at hb
        exact sd_last hF he (vAs_hd (vAs_tl (vAs_tl hst))) (Nat.eq_of_beq_eq_true hb.1) hb.2 (hself _ _ _ _ _ h hls (vAs_tl (vAs_tl (vAs_tl hst))) hu)
    · cases h
  | dastore =>
    dsimp only [ai_step] at h
    split at h
    · rename_i v j r st
      cases hb : (Nat.beq r.2 19 && inb j 1) with
      | false => rw [hb] at h; cases h
      | true =>
        rw [hb] at h
        rw [Bool.and_eq_true] at hb
        exact sd_dast hF he (vAs_hd (vAs_tl (vAs_tl hst))) (Nat.eq_of_beq_eq_true hb.1) hb.2 (hself _ _ _ _ _ h hls (vAs_tl (vAs_tl (vAs_tl hst))) hu)
    · cases h
  | arraylength =>
    dsimp only [ai_step] at h
    split at h
    · rename_i r st
      cases h250 : (Nat.beq r.2 250 && Nat.beq r.1 0) with
      | true =>
        rw [h250] at h
        rw [Bool.and_eq_true] at h250
        have e : r = (0, 250) := Prod.ext (Nat.eq_of_beq_eq_true h250.2) (Nat.eq_of_beq_eq_true h250.1)
        subst e
        exact sd_slen hF he (hself _ _ _ _ _ h hls (vAs_cons trivial (vAs_tl hst)) hu)
      | false =>
        rw [h250] at h
        dsimp only [cond] at h
        split at h
        · rename_i t n hk
          exact sd_alen hF he (vAs_hd hst) hk (hself _ _ _ _ _ h hls (vAs_cons trivial (vAs_tl hst)) hu)
        · cases h
    · cases h
  | invokevirtual idx =>
    exact call_sound hEx he.1 he.2 hself h hls hst
  | invokestatic idx =>
    exact call_sound hEx he.1 he.2 hself h hls hst
  | new idx =>
    dsimp only [ai_step] at h
    cases hb : (Nat.ble (u + 1) (cxG x) && Nat.ble (ai_cats st) 8) with
    | false => rw [hb] at h; cases h
    | true =>
      rw [hb] at h
      cases h
      rw [Bool.and_eq_true] at hb
      exact hEn y G rfl pc u idx _ st he (Nat.le_of_ble_eq_true hb.1) (Nat.le_of_ble_eq_true hb.2)
  | ireturn =>
    dsimp only [ai_step] at h
    obtain ⟨he, hret⟩ := he
    split at h
    · rename_i v
      split at h
      · cases h
        exact hEr _ G rfl pc u _ _ he ⟨v, _, rfl, hret, rfl⟩ (fun w e => by cases e; trivial) hu
      · split at h
        · rename_i hz
          cases h
          refine hEr _ G rfl pc u _ _ he ⟨v, _, rfl, hret, ?_⟩ (fun w e => by cases e; trivial) hu
          rcases hz with rfl | rfl <;> decide
        · cases h
      · rename_i y1 y2
        split at h
        · rename_i hz
          cases h
          refine hEr _ G rfl pc u _ _ he ⟨v, _, rfl, hret, ?_⟩ (fun w e => by cases e; trivial) hu
          have e : retTy y = .char := by
            unfold retTy
            split
            · exact absurd rfl y1
            · exact absurd rfl y2
            · rfl
          rw [e]
          exact char_nar hz
        · cases h
    · cases h
  | areturn =>
    dsimp only [ai_step] at h
    obtain ⟨he, hret⟩ := he
    split at h
    · rename_i q
      cases h
      exact hEr _ G rfl pc u _ _ he ⟨Or.inr ⟨q, rfl⟩, hret⟩ (fun w e => by cases e; exact vAs_hd hst) hu
    · cases h
      exact hEr _ G rfl pc u _ _ he ⟨Or.inl rfl, hret⟩ (fun w e => by cases e; trivial) hu
    · cases h
  | freturn =>
    dsimp only [ai_step] at h
    obtain ⟨he, hret⟩ := he
    split at h
    · rename_i v
      cases h
      exact hEr _ G rfl pc u _ _ he ⟨v, rfl, hret⟩ (fun w e => by cases e; trivial) hu
    · cases h
  | dreturn =>
    dsimp only [ai_step] at h
    obtain ⟨he, hret⟩ := he
    split at h
    · rename_i v
      cases h
      exact hEr _ G rfl pc u _ _ he ⟨v, rfl, hret⟩ (fun w e => by cases e; trivial) hu
    · cases h
  | return_ =>
    dsimp only [ai_step] at h
    obtain ⟨he, hret⟩ := he
    split at h
    · cases h
      exact hEr none G rfl pc u _ _ he ⟨rfl, hret⟩ (fun w e => by cases e) hu
    · cases h
  | _ => cases h
end Step
end
section
/-! A METHOD'S CONTRACT out of its tables -/
def setC (x : CX) (c0 s0 : Nat) : CX := match x with
  | (a, b, (cc, nL, own, _, _, seg, lv)) => (a, b, (cc, nL, own, c0, s0, seg, lv))
theorem WG_shift {x : CX} {c0 s0 v pc : Nat} {ls : Ls} {st : List AV} {G : GS} (h : WG (setC x (c0 + v) (s0 + 100 * v)) pc ls st G 0) : WG (setC x c0 s0) pc ls st G v := by
  obtain ⟨⟨p, l, e, R, s, m, args, below, meth, c, Q⟩, ⟨D, cs, b, ad, adV, sc, L, XT⟩, cc, nL, own, c1, s1, seg, lv⟩ := x
  intro H locs cells slots sl hP hS hl h1 h2
  exact h H locs cells slots sl hP hS hl (by omega) (by omega)
section Rn
variable {x : CX} {T : Tb} {call : Nat → List AV → GS → Res} {hd : Nat → Hd} {out : Out × GS} {back : Kb}
theorem run_sound (hF : FX x) (hEr : EOr x out) (hEn : EOn x out) (hEx : EOx x out) (hT : ∀ pc e, T pc = some e → EnOK x call hd pc e)
    (hback : ∀ pc ls st G, back pc ls st G = some out → vLs (cxL x) ls → vAs (cxL x) st → WG x pc ls st G (cxG x)) : ∀ (n pc : Nat) (ls : Ls) (st : List AV) (G : GS) (u : Nat),
      ai_run (cxS x) T call hd (cxG x) back n pc ls st G u = some out → vLs (cxL x) ls → vAs (cxL x) st → u ≤ cxG x → WG x pc ls st G u
  | 0, _, _, _, _, _, h, _, _, _ => by cases h
  | n + 1, pc, ls, st, G, u, h, hls, hst, hu => by
    unfold ai_run at h
    split at h
    · cases h
    · rename_i e he
      split at h
      · exact WG_up (WG_kill _ (hback _ _ _ _ h (vLs_kill _ hls) hst)) hu
      · exact step_sound hF hEr hEn hEx (hT pc e he) (run_sound hF hEr hEn hEx hT hback n) h hls hst hu
theorem loop_sound {X : CX} {bk : Nat → Kb} {mc : Nat} (hG : ∀ c0 s0, cxG (setC X c0 s0) = cxG X) (hS : ∀ c0 s0, cxS (setC X c0 s0) = cxS X) (hLL : ∀ c0 s0, cxL (setC X c0 s0) = cxL X)
    (hFX : ∀ c0 s0, c0 + cxG X ≤ mc → s0 + 100 * cxG X ≤ 100 * mc → FX (setC X c0 s0))
    (hEO : ∀ c0 s0, c0 + cxG X ≤ mc → s0 + 100 * cxG X ≤ 100 * mc → EOr (setC X c0 s0) out ∧ EOn (setC X c0 s0) out ∧ EOx (setC X c0 s0) out)
    (hT : ∀ c0 s0, FX (setC X c0 s0) → ∀ pc e, T pc = some e → EnOK (setC X c0 s0) call hd pc e)
    (hb0 : ∀ pc ls st G, bk 0 pc ls st G = some out → False)
    (hbk : ∀ k pc ls st G, bk (k + 1) pc ls st G = some out → ∃ e, T pc = some e ∧ ai_step (cxS X) T call hd (cxG X) (ai_run (cxS X) T call hd (cxG X) (bk k) 600) pc e ls st G 0 = some out) :
    ∀ (k c0 : Nat), c0 + cxG X * k ≤ mc → ∀ pc ls st G, bk k pc ls st G = some out → vLs (cxL X) ls → vAs (cxL X) st → WG (setC X c0 (100 * c0)) pc ls st G 0
  | 0, c0, _, pc, ls, st, G, h, _, _ => (hb0 pc ls st G h).elim
  | k + 1, c0, hc, pc, ls, st, G, h, hls, hst => by
    obtain ⟨e, he, hs⟩ := hbk k pc ls st G h
    have hc' : c0 + cxG X + cxG X * k ≤ mc := by rw [Nat.mul_succ] at hc; omega
    have f1 : c0 + cxG X ≤ mc := by omega
    have f2 : 100 * c0 + 100 * cxG X ≤ 100 * mc := by omega
    have hF := hFX c0 (100 * c0) f1 f2
    obtain ⟨hEr, hEn, hEx⟩ := hEO c0 (100 * c0) f1 f2
    have ih := loop_sound hG hS hLL hFX hEO hT hb0 hbk k (c0 + cxG X) hc'
    have hback : ∀ pc ls st G, bk k pc ls st G = some out → vLs (cxL (setC X c0 (100 * c0))) ls → vAs (cxL (setC X c0 (100 * c0))) st → WG (setC X c0 (100 * c0)) pc ls st G (cxG (setC X c0 (100 * c0))) := by
      intro pc ls st G h1 h2 h3
      rw [hLL] at h2 h3
      rw [hG]
      refine WG_shift ?_
      rw [show 100 * c0 + 100 * cxG X = 100 * (c0 + cxG X) by omega]
      exact ih pc ls st G h1 h2 h3
    have hr := run_sound hF hEr hEn hEx (hT c0 (100 * c0) hF) hback 600
    rw [← hG c0 (100 * c0), ← hS c0 (100 * c0)] at hs
    rw [← hLL c0 (100 * c0)] at hls hst
    exact step_sound hF hEr hEn hEx (hT c0 (100 * c0) hF pc e he) hr hs hls hst (Nat.zero_le _)
theorem start_sound {X : CX} {bk : Nat → Kb} {mc F : Nat} (hG : ∀ c0 s0, cxG (setC X c0 s0) = cxG X) (hS : ∀ c0 s0, cxS (setC X c0 s0) = cxS X) (hLL : ∀ c0 s0, cxL (setC X c0 s0) = cxL X)
    (hFX : ∀ c0 s0, c0 + cxG X ≤ mc → s0 + 100 * cxG X ≤ 100 * mc → FX (setC X c0 s0))
    (hEO : ∀ c0 s0, c0 + cxG X ≤ mc → s0 + 100 * cxG X ≤ 100 * mc → EOr (setC X c0 s0) out ∧ EOn (setC X c0 s0) out ∧ EOx (setC X c0 s0) out)
    (hT : ∀ c0 s0, FX (setC X c0 s0) → ∀ pc e, T pc = some e → EnOK (setC X c0 s0) call hd pc e)
    (hb0 : ∀ pc ls st G, bk 0 pc ls st G = some out → False)
    (hbk : ∀ k pc ls st G, bk (k + 1) pc ls st G = some out → ∃ e, T pc = some e ∧ ai_step (cxS X) T call hd (cxG X) (ai_run (cxS X) T call hd (cxG X) (bk k) 600) pc e ls st G 0 = some out)
    (hmc : cxG X * (F + 1) ≤ mc) {ls : Ls} {G : GS} (h : ai_run (cxS X) T call hd (cxG X) (bk F) 600 0 ls [] G 0 = some out) (hls : vLs (cxL X) ls) : WG (setC X 0 0) 0 ls [] G 0 := by
  have hmc' : cxG X + cxG X * F ≤ mc := by rw [Nat.mul_succ] at hmc; omega
  have f1 : 0 + cxG X ≤ mc := by omega
  have f2 : 0 + 100 * cxG X ≤ 100 * mc := by omega
  have hF := hFX 0 0 f1 f2
  obtain ⟨hEr, hEn, hEx⟩ := hEO 0 0 f1 f2
  have hback : ∀ pc ls st G, bk F pc ls st G = some out → vLs (cxL (setC X 0 0)) ls → vAs (cxL (setC X 0 0)) st → WG (setC X 0 0) pc ls st G (cxG (setC X 0 0)) := by
    intro pc ls st G h1 h2 h3
    rw [hLL] at h2 h3
    rw [hG]
    refine WG_shift ?_
    have := loop_sound hG hS hLL hFX hEO hT hb0 hbk F (0 + cxG X) (by omega) pc ls st G h1 h2 h3
    rw [show 0 + 100 * cxG X = 100 * (0 + cxG X) by omega]
    exact this
  rw [← hG 0 0, ← hS 0 0] at h
  rw [← hLL 0 0] at hls
  exact run_sound hF hEr hEn hEx (hT 0 0 hF) hback 600 0 ls [] G 0 h hls (fun w hw => nomatch hw) (Nat.zero_le _)
end Rn
theorem FX_side {x : CX} {c0 s0 : Nat} : cxG (setC x c0 s0) = cxG x ∧ cxS (setC x c0 s0) = cxS x ∧ cxL (setC x c0 s0) = cxL x := by
  obtain ⟨⟨p, l, e, R, s, m, args, below, meth, c, Q⟩, ⟨D, cs, b, ad, adV, sc, L, XT⟩, cc, nL, own, c1, s1, seg, lv⟩ := x
  exact ⟨rfl, rfl, rfl⟩
/-- the ends of a method that returns -/
theorem EO_N {p : Program} {l : Launch} {e : Env} {s : State} {m : MethodId} {args : Array Value} {below : List Frame} {meth : Method} {c : Code} {R : Room} {D : va_G} {cs : Nat → ClassId} {b : Nat} {ad : Rf → Nat} {adV : Nat → Nat} {sc : Nat × (Nat → Int32)} {L : List Rf} {XT : Nat × (Nat → Int32) → va_W → Prop}
    {cc : ByteArray} {nL : Nat} {own : String} {c0 s0 seg lv mc : Nat} {o : Option AV} {G0 : GS} {Q : State → Prop}
    (hQ : ∀ (H : Heap) (locs : List Loc) (g : JFrame), W p l e R s m args below meth c H locs mc (100 * mc) (MQ below (Qc_ D cs b ad L XT (.inl o, G0)) args s mc (100 * mc) (Ab b)) g → W p l e R s m args below meth c H locs mc (100 * mc) Q g)
    (hF : FX ((p, l, e, R, s, m, args, below, meth, c, Q), (D, cs, b, ad, adV, sc, L, XT), cc, nL, own, c0, s0, seg, lv)) (h1 : c0 + seg ≤ mc) (h2 : s0 + 100 * seg ≤ 100 * mc) :
    EOr ((p, l, e, R, s, m, args, below, meth, c, Q), (D, cs, b, ad, adV, sc, L, XT), cc, nL, own, c0, s0, seg, lv) (.inl o, G0) := by
  obtain ⟨hx, hb, hml, hown, hts, hKS, hbs, hL, hlocks, hR1, hR2, hR3, hR4⟩ := hF
  intro v G hout pc u i ls hd hrk hvo hu H locs cells slots sl hP hS hl k1 k2
  cases hout
  have hu : u ≤ seg := hu
  refine W.widen (k := mc) (n := 100 * mc) (by omega) (by omega) (hQ _ _ _ ?_)
  have hq : ∀ t : State, t.heap = H → s.WarmedH t.vm → Qc_ D cs b ad L XT (.inl o, G0) args s (.returned (o.map (rv ad))) t := fun t ht hW => ⟨⟨o, rfl, hvo, rfl, by rw [ht]; exact hP⟩, hS.F ht⟩
  cases i with
  | ireturn =>
    obtain ⟨k, ty, rfl, hr, hn⟩ := hrk
    exact W.zret hx hb hr hn hq hS.2.2 hd hlocks
  | areturn =>
    obtain ⟨hv, n, hr⟩ := hrk
    rcases hv with rfl | ⟨q, rfl⟩
    · exact W.aret (v := .null) hx hb hr (Or.inl ⟨n, rfl⟩) (Or.inl rfl) hq hS.2.2 hd hlocks
    · exact W.aret (v := .ref (ad q)) hx hb hr (Or.inl ⟨n, rfl⟩) (Or.inr ⟨_, rfl⟩) hq hS.2.2 hd hlocks
  | freturn =>
    obtain ⟨k, rfl, hr⟩ := hrk
    exact W.fret hx hb hr hq hS.2.2 hd hlocks
  | dreturn =>
    obtain ⟨k, rfl, hr⟩ := hrk
    exact W.dret hx hb hr hq hS.2.2 hd hlocks
  | return_ =>
    obtain ⟨rfl, hr⟩ := hrk
    exact W.vret hx hb hr hq hS.2.2 hd hlocks
  | _ => exact hrk.elim
theorem word_ok {args : Array Value} {s : State} (hts : ∀ w ∈ lw_all, w.before args s = true) (hnw : ∀ w ∈ nw_all, va_Nw w s) {w : Cond} (h : w ∈ lw_all ∨ w ∈ nw_all) : w.before args s = true := by
  rcases h with h | h
  · exact hts w h
  · have h1 : nw_is w = true := (List.mem_filter.mp h).2
    have h2 := hnw w h
    cases w <;> first | (exact va_Nw.use rfl h2) | (simp [nw_is] at h1; done)
theorem PW_kept {D : va_G} {cs : Nat → ClassId} {b : Nat} {ad : Rf → Nat} {L : List Rf} {XT : Nat × (Nat → Int32) → va_W → Prop} {G : GS} {H H1 : Heap} (h : PW D cs b ad L XT G H) (hq : ∀ q : Nat, q < H.size → H1[q]? = H[q]?) : PW D cs b ad L XT G H1 := by
  obtain ⟨w, h1, h2, h3⟩ := h
  exact ⟨w, h1, fun k q hk => (h2 k q hk).kept (hq _ (h2 k q hk).lt), h3⟩
section EOX
variable {p : Program} {l : Launch} {e : Env} {s : State} {m : MethodId} {args : Array Value} {below : List Frame} {meth : Method} {c : Code} {R : Room} {D : va_G} {cs : Nat → ClassId} {b : Nat} {ad : Rf → Nat} {adV : Nat → Nat} {sc : Nat × (Nat → Int32)} {L : List Rf} {XT : Nat × (Nat → Int32) → va_W → Prop}
variable {cc : ByteArray} {nL : Nat} {own : String} {c0 s0 seg lv mc : Nat} {out : Out × GS}
theorem EO_x (hexc : ∀ z ∈ c.exceptionTable.toList, False) (hF : FX ((p, l, e, R, s, m, args, below, meth, c, vx_MQ below (Qc_ D cs b ad L XT out) (XC_ D cs b ad L XT out) args s mc (100 * mc) (Ab b)), (D, cs, b, ad, adV, sc, L, XT), cc, nL, own, c0, s0, seg, lv)) (h1 : c0 + seg ≤ mc) (h2 : s0 + 100 * seg ≤ 100 * mc) :
    EOx ((p, l, e, R, s, m, args, below, meth, c, vx_MQ below (Qc_ D cs b ad L XT out) (XC_ D cs b ad L XT out) args s mc (100 * mc) (Ab b)), (D, cs, b, ad, adV, sc, L, XT), cc, nL, own, c0, s0, seg, lv) out := by
  obtain ⟨hx, hb, hml, hown, hts, hKS, hbs, hL, hlocks, hR1, hR2, hR3, hR4⟩ := hF
  intro ex G hout pc u ls rest hu H locs cells slots sl q ce hP hS hl k1 k2 hce hcv hcl
  subst hout
  have hu : u ≤ seg := hu
  exact vx_out (fun z hz => (hexc z hz).elim) hlocks hce hcv hcl (fun t ht _ => ⟨⟨ex, rfl, rfl, by rw [ht]; exact hP⟩, hS.F ht⟩) hS.2.2 (by omega) (by omega)
theorem EO_n (hst : l.stackTraces = false) (hexc : ∀ z ∈ c.exceptionTable.toList, False) (hlv : 6 ≤ lv) (hF : FX ((p, l, e, R, s, m, args, below, meth, c, vx_MQ below (Qc_ D cs b ad L XT out) (XC_ D cs b ad L XT out) args s mc (100 * mc) (Ab b)), (D, cs, b, ad, adV, sc, L, XT), cc, nL, own, c0, s0, seg, lv)) (h1 : c0 + seg ≤ mc) (h2 : s0 + 100 * seg ≤ 100 * mc) :
    EOn ((p, l, e, R, s, m, args, below, meth, c, vx_MQ below (Qc_ D cs b ad L XT out) (XC_ D cs b ad L XT out) args s mc (100 * mc) (Ab b)), (D, cs, b, ad, adV, sc, L, XT), cc, nL, own, c0, s0, seg, lv) out := by
  obtain ⟨hx, hb, hml, hown, hts, hKS, hbs, hL, hlocks, hR1, hR2, hR3, hR4⟩ := hF
  intro ex G hout pc u idx ls st hnew hu hcat H locs cells slots sl hP hS hl k1 k2
  subst hout
  have hu : u + 1 ≤ seg := hu
  obtain ⟨d0, d3, d7, ic, d4, hw⟩ := hnew
  have hw2 : ∀ w ∈ Cond.classLink own idx (exN ex) :: Cond.initialized (exN ex) :: vx_at0 own ic (exN ex) ["java/lang/RuntimeException", "java/lang/Exception"], w.before args s = true := fun w h => word_ok hts hKS.2.2.2.1 (hw w h).1
  refine vx_throw0 (A := Ab b) (names := ["java/lang/RuntimeException", "java/lang/Exception"]) hx hb hst hown ?_ (by decide +kernel) (hw2 _ List.mem_cons_self) (hw2 _ (List.mem_cons_of_mem _ List.mem_cons_self)) (fun w h => hw2 w (List.mem_cons_of_mem _ (List.mem_cons_of_mem _ h))) (fun w h => (hw w h).2) hKS.2.1 hKS.2.2.1 hS (hl.2.1.trans hml.symm) d0 d3 d4 d7 (fun z hz => (hexc z hz).elim)
    (by show 5 < R.frames; omega) ?_ (by omega) (by omega) hlocks (fun t _ hz hq => ⟨⟨ex, rfl, rfl, PW_kept hP hq⟩, ⟨Nat.le_trans hS.1 hz, fun q g1 g2 => by rw [hq q (Nat.lt_of_lt_of_le g1 hS.1)]; exact hS.2.1 q g1 g2⟩⟩) hS.2.2 (by omega) (by omega)
  · unfold exN
    split <;> decide +kernel
  · rw [cats_eq]
    show ai_cats st + 81 ≤ R.locals
    omega
end EOX
theorem vAs_some {L : List Rf} {as : List AV} {n : Nat} (h : vAs L as) : vLs L (as.map some ++ List.replicate n none) := by
  intro v hv
  rcases List.mem_append.mp hv with h1 | h1
  · obtain ⟨w, hw, e⟩ := List.mem_map.mp h1
    cases e
    exact h v hw
  · have := List.eq_of_mem_replicate h1
    cases this
theorem toL_none (ad : Rf → Nat) : ∀ (n i : Nat), toL ad i (List.replicate n none) = []
  | 0, _ => rfl
  | n + 1, i => by rw [List.replicate_succ, toL, toL_none ad n]
theorem toL_args {ad : Rf → Nat} : ∀ (as : List AV) (i n : Nat), (∀ v ∈ as, ai_cat v = 1) → toL ad i (as.map some ++ List.replicate n none) = lv_args i (as.map (rv ad))
  | [], i, n, _ => by rw [List.map_nil, List.nil_append, toL_none]; rfl
  | v :: as, i, n, h => by
    have h1 : ¬ (rv ad v).category = 2 := by
      rw [← ai_cat_eq ad v, h v List.mem_cons_self]
      decide
    rw [List.map_cons, List.cons_append, toL, List.map_cons, lv_args, if_neg h1, toL_args as (i + 1) n (fun w hw => h w (List.mem_cons_of_mem _ hw))]
theorem lg_len {ad : Rf → Nat} : ∀ (as : List AV), (∀ v ∈ as, ai_cat v = 1) → (lg_sl (as.map (rv ad))).length = as.length
  | [], _ => rfl
  | v :: as, h => by
    have h1 : ¬ (rv ad v).category = 2 := by
      rw [← ai_cat_eq ad v, h v List.mem_cons_self]
      decide
    have ih := lg_len (ad := ad) as (fun w hw => h w (List.mem_cons_of_mem _ hw))
    unfold lg_sl at ih ⊢
    rw [List.map_cons, List.flatMap_cons, List.length_append, ih, if_neg h1, List.length_cons, List.length_cons, List.length_nil]
    omega
/-- the locals at a method's entry -/
theorem LV_entry {ad : Rf → Nat} {as : List AV} {n : Nat} (hc : ∀ v ∈ as, ai_cat v = 1) (hn : as.length ≤ n) : LV ad ((lg_sl (as.map (rv ad)) ++ List.replicate (n - (lg_sl (as.map (rv ad))).length) Slot.unset).toArray) n (as.map some ++ List.replicate (n - as.length) none) := by
  refine ⟨by simp; omega, ?_⟩
  rw [toL_args as 0 _ hc]
  exact lv_entry _ (by rw [lg_len as hc]; exact hn)
/-- the tables of one method, and what its callees must be -/
def TabOK (sd : Sd) (l : Launch) (own : String) (cc : ByteArray) (seg lv : Nat) (ret : Option FieldType) (T : Tb) (call : Nat → List AV → GS → Res) (hd : Nat → Hd) : Prop :=
  ∀ x : CX, FX x → cxH x = l → cxO x = own → cxC x = cc → cxG x = seg → cxV x = lv → cxR x = ret → cxSide sd x → ∀ pc e, T pc = some e → EnOK x call hd pc e
/-- the abstract machine runs to A -/
def RunOK (seg maxL : Nat) (T : Tb) (call : Nat → List AV → GS → Res) (hd : Nat → Hd) (bk : Nat → Kb) (F : Nat) (A : List AV → GS → Res) : Prop :=
  (∀ as G r, A as G = some r → (∀ v ∈ as, ai_cat v = 1) ∧ as.length ≤ maxL ∧ ∀ sc, ai_run sc T call hd seg (bk F) 600 0 (as.map some ++ List.replicate (maxL - as.length) none) [] G 0 = some r) ∧
  (∀ pc ls st G r, bk 0 pc ls st G = some r → False) ∧
  (∀ k pc ls st G r, bk (k + 1) pc ls st G = some r → ∃ e, T pc = some e ∧ ∀ sc, ai_step sc T call hd seg (ai_run sc T call hd seg (bk k) 600) pc e ls st G 0 = some r)
section Ct
variable {sd : Sd} {l : Launch} {y : MethodName} {bytes : ByteArray} {maxL lev cost seg F : Nat} {ret : Option FieldType} {T : Tb} {call : Nat → List AV → GS → Res} {hd : Nat → Hd} {bk : Nat → Kb} {A : List AV → GS → Res}
theorem CtN_of (hy : plainName y.cls = true) (hT : TabOK sd l y.cls bytes seg lev ret T call (fun _ => [])) (hR : RunOK seg maxL T call (fun _ => []) bk F A) (hN : ∀ as G ex G1, A as G = some (.inr ex, G1) → False) (hcost : seg * (F + 1) ≤ cost) : CtN sd l y (.code y bytes maxL ret :: lw_all) lev cost A := by
  intro D cs b ad adV sc L XT hL hsd as G r hr hvs
  obtain ⟨hcat, hlen, hrun⟩ := hR.1 as G r hr
  obtain ⟨o, G1⟩ := r
  cases o with
  | inr ex => exact (hN as G ex G1 hr).elim
  | inl o =>
    refine Met.ofW (cc := bytes) (maxL := maxL) (ret := ret) hy rfl ?_
    intro p e s m args below meth c s₁ B hml hv
    obtain ⟨rfl, hP, hKS, hbs⟩ := hv
    have hts : ∀ w ∈ lw_all, w.before (as.map (rv ad)).toArray s = true := fun w hw => atoms_spec (ws := .code y bytes maxL ret :: lw_all) B.pre w (List.mem_cons_of_mem _ hw)
    have hown : s.vm.findClass y.cls = some m.cls := findClass_of_methodNamed B.named
    rw [lg_entry_eq]
    have hFX : ∀ c0 s0, c0 + seg ≤ cost → s0 + 100 * seg ≤ 100 * cost → FX ((p, l, e, roomL lev cost, s, m, (as.map (rv ad)).toArray, below, meth, c, MQ below (Qc_ D cs b ad L XT (.inl o, G1)) (as.map (rv ad)).toArray s cost (100 * cost) (Ab b)), (D, cs, b, ad, adV, sc, L, XT), bytes, maxL, y.cls, c0, s0, seg, lev) := fun c0 s0 f1 f2 => ⟨B.exec, B.bytes, hml, hown, hts, hKS, hbs, hL, B.notSynchronized, f1, f2, Nat.le_refl _, Nat.le_refl _⟩
    have hK := start_sound (X := ((p, l, e, roomL lev cost, s, m, (as.map (rv ad)).toArray, below, meth, c, MQ below (Qc_ D cs b ad L XT (.inl o, G1)) (as.map (rv ad)).toArray s cost (100 * cost) (Ab b)), (D, cs, b, ad, adV, sc, L, XT), bytes, maxL, y.cls, 0, 0, seg, lev)) (T := T) (call := call) (hd := fun _ => []) (bk := bk) (F := F) (mc := cost) (out := (.inl o, G1)) (fun _ _ => rfl) (fun _ _ => rfl) (fun _ _ => rfl) hFX
      (fun c0 s0 f1 f2 => ⟨EO_N (fun _ _ _ k => k) (hFX c0 s0 f1 f2) f1 f2, (fun ex G2 h => by cases h), (fun ex G2 h => by cases h)⟩)
      (fun c0 s0 hF => hT _ hF rfl rfl rfl rfl rfl B.returns hsd) (fun pc ls st G h => hR.2.1 pc ls st G _ h)
      (fun k pc ls st G h => by obtain ⟨e9, h1, h2⟩ := hR.2.2 k pc ls st G _ h; exact ⟨e9, h1, h2 sc⟩) hcost (hrun sc) (vAs_some hvs)
    exact hK s.heap [] 0 0 _ hP va_S.rf (LV_entry hcat hlen) (Nat.zero_le _) (Nat.zero_le _)
theorem CtX_of (hst : l.stackTraces = false) (hlev : 6 ≤ lev) (hy : plainName y.cls = true) (hT : TabOK sd l y.cls bytes seg lev ret T call (fun _ => [])) (hR : RunOK seg maxL T call (fun _ => []) bk F A) (hcost : seg * (F + 1) ≤ cost) : CtX sd l y (.code y bytes maxL ret :: lw_all) lev cost A := by
  intro D cs b ad adV sc L XT hL hsd as G r hr hvs
  obtain ⟨hcat, hlen, hrun⟩ := hR.1 as G r hr
  refine vx_ofW (cc := bytes) (maxL := maxL) (ret := ret) hy rfl ?_
  intro p e s m args below meth c s₁ B hml hexc hv
  obtain ⟨rfl, hP, hKS, hbs⟩ := hv
  have hts : ∀ w ∈ lw_all, w.before (as.map (rv ad)).toArray s = true := fun w hw => atoms_spec (ws := .code y bytes maxL ret :: lw_all) B.pre w (List.mem_cons_of_mem _ hw)
  have hown : s.vm.findClass y.cls = some m.cls := findClass_of_methodNamed B.named
  rw [lg_entry_eq]
  have hFX : ∀ c0 s0, c0 + seg ≤ cost → s0 + 100 * seg ≤ 100 * cost → FX ((p, l, e, roomL lev cost, s, m, (as.map (rv ad)).toArray, below, meth, c, vx_MQ below (Qc_ D cs b ad L XT r) (XC_ D cs b ad L XT r) (as.map (rv ad)).toArray s cost (100 * cost) (Ab b)), (D, cs, b, ad, adV, sc, L, XT), bytes, maxL, y.cls, c0, s0, seg, lev) := fun c0 s0 f1 f2 => ⟨B.exec, B.bytes, hml, hown, hts, hKS, hbs, hL, B.notSynchronized, f1, f2, Nat.le_refl _, Nat.le_refl _⟩
  have hK := start_sound (X := ((p, l, e, roomL lev cost, s, m, (as.map (rv ad)).toArray, below, meth, c, vx_MQ below (Qc_ D cs b ad L XT r) (XC_ D cs b ad L XT r) (as.map (rv ad)).toArray s cost (100 * cost) (Ab b)), (D, cs, b, ad, adV, sc, L, XT), bytes, maxL, y.cls, 0, 0, seg, lev)) (T := T) (call := call) (hd := fun _ => []) (bk := bk) (F := F) (mc := cost) (out := r) (fun _ _ => rfl) (fun _ _ => rfl) (fun _ _ => rfl) hFX
    (fun c0 s0 f1 f2 => by
      refine ⟨?_, EO_n hst hexc hlev (hFX c0 s0 f1 f2) f1 f2, EO_x hexc (hFX c0 s0 f1 f2) f1 f2⟩
      obtain ⟨o, G1⟩ := r
      cases o with
      | inl o => exact EO_N (fun _ _ _ k => vx_ret k) (hFX c0 s0 f1 f2) f1 f2
      | inr ex => exact fun v G h => by cases h)
    (fun c0 s0 hF => hT _ hF rfl rfl rfl rfl rfl B.returns hsd) (fun pc ls st G h => hR.2.1 pc ls st G _ h)
    (fun k pc ls st G h => by obtain ⟨e9, h1, h2⟩ := hR.2.2 k pc ls st G _ h; exact ⟨e9, h1, h2 sc⟩) hcost (hrun sc) (vAs_some hvs)
  exact hK s.heap [] 0 0 _ hP va_S.rf (LV_entry hcat hlen) (Nat.zero_le _) (Nat.zero_le _)
end Ct
end
section
/-! A CHECK that the kernel decides: a table is its method's code -/
theorem all_at {w : Cond} (i : Nat) (h : lw_tbl[i]? = some w) (g : goodWord w = true) : w ∈ lw_all := List.mem_filter.mpr ⟨List.mem_append_left _ (List.mem_of_getElem? h), g⟩
theorem all_x {w : Cond} (i : Nat) (h : lw_x[i]? = some w) (g : goodWord w = true) : w ∈ lw_all := List.mem_filter.mpr ⟨List.mem_append_right _ (List.mem_of_getElem? h), g⟩
theorem nw_at {w : Cond} (i : Nat) (h : lw_tbl[i]? = some w) (g : nw_is w = true) : w ∈ nw_all := List.mem_filter.mpr ⟨List.mem_of_getElem? h, g⟩
def ck_d (cc : ByteArray) (pc : Nat) (i : Instr) (n : Nat) : Bool := match decode cc pc with
  | .ok (j, m) => decide (j = i) && Nat.beq m n
  | _ => false
theorem ck_dec {cc : ByteArray} {pc n : Nat} {i : Instr} (h : ck_d cc pc i n = true) : decode cc pc = .ok (i, n) := by
  unfold ck_d at h
  split at h
  · rename_i j m hd
    rw [Bool.and_eq_true] at h
    rw [hd, of_decide_eq_true h.1, Nat.eq_of_beq_eq_true h.2]
  · cases h
def ck_s (cc : ByteArray) (pc : Nat) (i : Instr) : Bool := match decode cc pc with
  | .ok (j, _) => decide (j = i)
  | _ => false
theorem ck_sec {cc : ByteArray} {pc : Nat} {i : Instr} (h : ck_s cc pc i = true) : ∃ n, decode cc pc = .ok (i, n) := by
  unfold ck_s at h
  split at h
  · rename_i j m hd
    exact ⟨m, by rw [hd, of_decide_eq_true h]⟩
  · cases h
/-- a switch's rows, one by one -/
def ck_tab (pc : Nat) : Int → List Int → List (Int32 × Nat) → Bool
  | _, [], [] => true
  | k, o :: os, q :: qs => decide (q.1.toInt = k) && (decide ((pc : Int) + o = (q.2 : Int)) && ck_tab pc (k + 1) os qs)
  | _, _, _ => false
theorem ck_tab_ok (pc d : Nat) : ∀ (os : List Int) (qs : List (Int32 × Nat)) (k : Int), ck_tab pc k os qs = true → ∀ v : Int32, (v.toInt < k ∨ k + os.length ≤ v.toInt → sw_to qs v d = d) ∧
    (k ≤ v.toInt → v.toInt < k + os.length → ∃ o, os[(v.toInt - k).toNat]? = some o ∧ (pc : Int) + o = (sw_to qs v d : Int))
  | [], [], k, _, v => ⟨fun _ => rfl, fun h1 h2 => by simp at h2; omega⟩
  | [], _ :: _, k, h, v => by simp [ck_tab] at h
  | _ :: _, [], k, h, v => by simp [ck_tab] at h
  | o :: os, q :: qs, k, h, v => by
    rw [ck_tab, Bool.and_eq_true, Bool.and_eq_true] at h
    have h1 : q.1.toInt = k := of_decide_eq_true h.1
    have h2 : (pc : Int) + o = (q.2 : Int) := of_decide_eq_true h.2.1
    obtain ⟨g1, g2⟩ := ck_tab_ok pc d os qs (k + 1) h.2.2 v
    rw [sw_to]
    by_cases e : v = q.1
    · subst e
      rw [if_pos rfl]
      refine ⟨fun z => ?_, fun _ _ => ⟨o, ?_, h2⟩⟩
      · rw [List.length_cons] at z
        omega
      · rw [h1, show (k - k).toNat = 0 by omega]
        rfl
    · rw [if_neg e]
      have e2 : v.toInt ≠ k := fun z => e (Int32.toInt_inj.mp (z.trans h1.symm))
      refine ⟨fun z => g1 ?_, fun z1 z2 => ?_⟩
      · rw [List.length_cons] at z
        omega
      · rw [List.length_cons] at z2
        obtain ⟨o', w1, w2⟩ := g2 (by omega) (by omega)
        refine ⟨o', ?_, w2⟩
        rw [show (v.toInt - k).toNat = (v.toInt - (k + 1)).toNat + 1 by omega]
        exact w1
def ck_look (pc : Nat) : List (Int × Int) → List (Int32 × Nat) → Bool
  | [], [] => true
  | p :: ps, q :: qs => decide (q.1.toInt = p.1) && (decide ((pc : Int) + p.2 = (q.2 : Int)) && ck_look pc ps qs)
  | _, _ => false
theorem ck_look_ok (pc d : Nat) (dflt : Int) (hd : (pc : Int) + dflt = (d : Int)) : ∀ (ps : List (Int × Int)) (qs : List (Int32 × Nat)), ck_look pc ps qs = true → ∀ v : Int32, (pc : Int) + Op.lookupswitch.offset ps dflt v.toInt = (sw_to qs v d : Int)
  | [], [], _, v => hd
  | [], _ :: _, h, v => by simp [ck_look] at h
  | _ :: _, [], h, v => by simp [ck_look] at h
  | (a, o) :: ps, q :: qs, h, v => by
    rw [ck_look, Bool.and_eq_true, Bool.and_eq_true] at h
    have h1 : q.1.toInt = a := of_decide_eq_true h.1
    have h2 : (pc : Int) + o = (q.2 : Int) := of_decide_eq_true h.2.1
    have ih := ck_look_ok pc d dflt hd ps qs h.2.2 v
    rw [Op.lookupswitch.offset_cons, sw_to]
    by_cases e : v = q.1
    · subst e
      rw [if_pos rfl, if_pos h1.symm]
      exact h2
    · rw [if_neg e, if_neg (fun z => e (Int32.toInt_inj.mp (z.symm.trans h1.symm)))]
      exact ih
/-- links that are proved elsewhere: (class, place, what is named) -/
abbrev Lk : Type := List (String × Nat × Nat)
def lkHas (t : Lk) (own : String) (idx y : Nat) : Bool := t.any (fun q => decide (q.1 = own) && (Nat.beq q.2.1 idx && Nat.beq q.2.2 y))
theorem lkHas_in {t : Lk} {own : String} {idx y : Nat} (h : lkHas t own idx y = true) : (own, idx, y) ∈ t := by
  unfold lkHas at h
  obtain ⟨q, h1, h2⟩ := List.any_eq_true.mp h
  rw [Bool.and_eq_true, Bool.and_eq_true] at h2
  have e : q = (own, idx, y) := Prod.ext (of_decide_eq_true h2.1) (Prod.ext (Nat.eq_of_beq_eq_true h2.2.1) (Nat.eq_of_beq_eq_true h2.2.2))
  exact e ▸ h1
def ck (FT PT : Lk) (NT : List (String × Nat × Nat × Nat)) (CT : List (String × Nat)) (own : String) (cc : ByteArray) (ret : Option FieldType) (invs : List (Instr × Nat)) (pc : Nat) (e : En) : Bool := match e with
  | (i, _, y, _, _, sw) => match i with
    | .tableswitch d lo hi offs => ck_s cc pc (.tableswitch d lo hi offs) && (decide ((pc : Int) + d = (y : Int)) && (decide (hi = lo + offs.size - 1) && ck_tab pc lo offs.toList sw))
    | .lookupswitch d ps => ck_s cc pc (.lookupswitch d ps) && (decide ((pc : Int) + d = (y : Int)) && ((ps.toList.zip (ps.toList.drop 1)).all (fun (a, next) => decide (a.1 < next.1)) && ck_look pc ps.toList sw))
    | .ifCond cn off => ck_d cc pc (.ifCond cn off) 3 && decide ((pc : Int) + off = (y : Int))
    | .if_icmp cn off => ck_d cc pc (.if_icmp cn off) 3 && decide ((pc : Int) + off = (y : Int))
    | .goto off => ck_d cc pc (.goto off) 3 && decide ((pc : Int) + off = (y : Int))
    | .ifnull off => ck_d cc pc (.ifnull off) 3 && decide ((pc : Int) + off = (y : Int))
    | .getfield idx => ck_d cc pc (.getfield idx) 3 && lkHas FT own idx y
    | .putfield idx => ck_d cc pc (.putfield idx) 3 && lkHas PT own idx y
    | .ldc idx => ck_d cc pc (.ldc idx) 2 && (match y with | 0 => CT.any (fun q => decide (q.1 = own) && Nat.beq q.2 idx) | k + 1 => Nat.ble (k + 1) 7 && (decide (own = "PillowBarge$Script") && Nat.beq idx (jsI.getD k 0)))
    | .invokevirtual idx => ck_d cc pc (.invokevirtual idx) 3 && invs.any (fun q => decide (q.1 = .invokevirtual idx) && Nat.beq q.2 y)
    | .invokestatic idx => ck_d cc pc (.invokestatic idx) 3 && invs.any (fun q => decide (q.1 = .invokestatic idx) && Nat.beq q.2 y)
    | .new idx => NT.any (fun q => decide (q.1 = own) && (Nat.beq q.2.1 idx && (Nat.beq q.2.2.1 y && (ck_d cc pc (.new idx) 3 && (ck_d cc (pc + 3) .dup 1 && (ck_d cc (pc + 4) (.invokespecial q.2.2.2) 3 && ck_d cc (pc + 7) .athrow 1))))))
    | .ireturn => ck_d cc pc .ireturn 1 && decide (ret = some (retTy y))
    | .areturn => ck_d cc pc .areturn 1 && (match ret with | some (.object _) => true | _ => false)
    | .freturn => ck_d cc pc .freturn 1 && decide (ret = some .float)
    | .dreturn => ck_d cc pc .dreturn 1 && decide (ret = some .double)
    | .return_ => ck_d cc pc .return_ 1 && decide (ret = none)
    | i => ck_d cc pc i (ai_len i)
set_option maxHeartbeats 2000000 in
theorem ck_sound {FT PT : Lk} {NT : List (String × Nat × Nat × Nat)} {CT : List (String × Nat)} (hFT : ∀ q ∈ FT, FLk q.1 q.2.1 q.2.2) (hPT : ∀ q ∈ PT, PLk q.1 q.2.1 q.2.2)
    (hNT : ∀ q ∈ NT, ∀ w ∈ Cond.classLink q.1 q.2.1 (exN q.2.2.1) :: Cond.initialized (exN q.2.2.1) :: vx_at0 q.1 q.2.2.2 (exN q.2.2.1) ["java/lang/RuntimeException", "java/lang/Exception"], (w ∈ lw_all ∨ w ∈ nw_all) ∧ vx_ot w = true)
    (hCT : ∀ q ∈ CT, Cond.constantFloat q.1 q.2 1110704128 ∈ lw_all) {x : CX} {call : Nat → List AV → GS → Res} {hd : Nat → Hd} {invs : List (Instr × Nat)} {pc : Nat} {e : En}
    (hinv : ∀ q ∈ invs, ∀ pc, decode (cxC x) pc = .ok (q.1, 3) → CW x pc (q.2 / 64 % 256) (call (q.2 / 16384)) ∧ HdOK x pc (hd pc))
    (h : ck FT PT NT CT (cxO x) (cxC x) (cxR x) invs pc e = true) : EnOK x call hd pc e := by
  obtain ⟨i, n, y, ks, ct, sw⟩ := e
  cases i with
  | tableswitch d lo hi offs =>
    unfold ck at h
    dsimp only at h
    rw [Bool.and_eq_true, Bool.and_eq_true, Bool.and_eq_true] at h
    obtain ⟨h1, h2, h3, h4⟩ := h
    have h3 := of_decide_eq_true h3
    refine ⟨ck_sec h1, of_decide_eq_true h2, fun v => ?_⟩
    obtain ⟨g1, g2⟩ := ck_tab_ok pc y offs.toList sw lo h4 v
    rw [Array.length_toList] at g1 g2
    refine ⟨fun z => g1 (by omega), fun z1 z2 => ?_⟩
    obtain ⟨o, g3, g4⟩ := g2 (by omega) (by omega)
    exact ⟨o, by rw [← Array.getElem?_toList]; exact g3, g4⟩
  | lookupswitch d ps =>
    unfold ck at h
    dsimp only at h
    rw [Bool.and_eq_true, Bool.and_eq_true, Bool.and_eq_true] at h
    obtain ⟨h1, h2, h3, h4⟩ := h
    exact ⟨ck_sec h1, h3, ck_look_ok pc y d (of_decide_eq_true h2) _ _ h4⟩
  | ifCond cn off =>
    have h : (ck_d (cxC x) pc (.ifCond cn off) 3 && decide ((pc : Int) + off = (y : Int))) = true := h
    rw [Bool.and_eq_true] at h
    exact ⟨ck_dec h.1, of_decide_eq_true h.2⟩
  | if_icmp cn off =>
    have h : (ck_d (cxC x) pc (.if_icmp cn off) 3 && decide ((pc : Int) + off = (y : Int))) = true := h
    rw [Bool.and_eq_true] at h
    exact ⟨ck_dec h.1, of_decide_eq_true h.2⟩
  | goto off =>
    have h : (ck_d (cxC x) pc (.goto off) 3 && decide ((pc : Int) + off = (y : Int))) = true := h
    rw [Bool.and_eq_true] at h
    exact ⟨ck_dec h.1, of_decide_eq_true h.2⟩
  | ifnull off =>
    have h : (ck_d (cxC x) pc (.ifnull off) 3 && decide ((pc : Int) + off = (y : Int))) = true := h
    rw [Bool.and_eq_true] at h
    exact ⟨ck_dec h.1, of_decide_eq_true h.2⟩
  | getfield idx =>
    have h : (ck_d (cxC x) pc (.getfield idx) 3 && lkHas FT (cxO x) idx y) = true := h
    rw [Bool.and_eq_true] at h
    exact ⟨ck_dec h.1, hFT _ (lkHas_in h.2)⟩
  | putfield idx =>
    have h : (ck_d (cxC x) pc (.putfield idx) 3 && lkHas PT (cxO x) idx y) = true := h
    rw [Bool.and_eq_true] at h
    exact ⟨ck_dec h.1, hPT _ (lkHas_in h.2)⟩
  | ldc idx =>
    unfold ck at h
    dsimp only at h
    rw [Bool.and_eq_true] at h
    refine ⟨ck_dec h.1, ?_⟩
    cases y with
    | zero =>
      obtain ⟨q, q1, q2⟩ := List.any_eq_true.mp h.2
      rw [Bool.and_eq_true] at q2
      have := hCT q q1
      rw [of_decide_eq_true q2.1, Nat.eq_of_beq_eq_true q2.2] at this
      exact this
    | succ k =>
      have h2 := h.2
      dsimp only at h2
      rw [Bool.and_eq_true, Bool.and_eq_true] at h2
      exact ⟨Nat.le_of_ble_eq_true h2.1, of_decide_eq_true h2.2.1, Nat.eq_of_beq_eq_true h2.2.2⟩
  | invokevirtual idx =>
    have h : (ck_d (cxC x) pc (.invokevirtual idx) 3 && invs.any (fun q => decide (q.1 = .invokevirtual idx) && Nat.beq q.2 y)) = true := h
    rw [Bool.and_eq_true] at h
    obtain ⟨q, q1, q2⟩ := List.any_eq_true.mp h.2
    rw [Bool.and_eq_true] at q2
    have e1 := of_decide_eq_true q2.1
    have e2 := Nat.eq_of_beq_eq_true q2.2
    have := hinv q q1 pc (by rw [e1]; exact ck_dec h.1)
    rw [e2] at this
    exact this
  | invokestatic idx =>
    have h : (ck_d (cxC x) pc (.invokestatic idx) 3 && invs.any (fun q => decide (q.1 = .invokestatic idx) && Nat.beq q.2 y)) = true := h
    rw [Bool.and_eq_true] at h
    obtain ⟨q, q1, q2⟩ := List.any_eq_true.mp h.2
    rw [Bool.and_eq_true] at q2
    have e1 := of_decide_eq_true q2.1
    have e2 := Nat.eq_of_beq_eq_true q2.2
    have := hinv q q1 pc (by rw [e1]; exact ck_dec h.1)
    rw [e2] at this
    exact this
  | new idx =>
    unfold ck at h
    dsimp only at h
    obtain ⟨q, q1, q2⟩ := List.any_eq_true.mp h
    simp only [Bool.and_eq_true] at q2
    obtain ⟨a1, a2, a3, a4, a5, a6, a7⟩ := q2
    have := hNT q q1
    rw [of_decide_eq_true a1, Nat.eq_of_beq_eq_true a2, Nat.eq_of_beq_eq_true a3] at this
    exact ⟨ck_dec a4, ck_dec a5, ck_dec a7, q.2.2.2, ck_dec a6, this⟩
  | ireturn =>
    have h : (ck_d (cxC x) pc .ireturn 1 && decide (cxR x = some (retTy y))) = true := h
    rw [Bool.and_eq_true] at h
    exact ⟨ck_dec h.1, of_decide_eq_true h.2⟩
  | areturn =>
    unfold ck at h
    dsimp only at h
    rw [Bool.and_eq_true] at h
    refine ⟨ck_dec h.1, ?_⟩
    have h2 := h.2
    split at h2
    · rename_i n hr
      exact ⟨n, hr⟩
    · cases h2
  | freturn =>
    have h : (ck_d (cxC x) pc .freturn 1 && decide (cxR x = some .float)) = true := h
    rw [Bool.and_eq_true] at h
    exact ⟨ck_dec h.1, of_decide_eq_true h.2⟩
  | dreturn =>
    have h : (ck_d (cxC x) pc .dreturn 1 && decide (cxR x = some .double)) = true := h
    rw [Bool.and_eq_true] at h
    exact ⟨ck_dec h.1, of_decide_eq_true h.2⟩
  | return_ =>
    have h : (ck_d (cxC x) pc .return_ 1 && decide (cxR x = none)) = true := h
    rw [Bool.and_eq_true] at h
    exact ⟨ck_dec h.1, of_decide_eq_true h.2⟩
  | _ => exact ck_dec h
end
section
/-! WALKS OVER AN EXPLICIT WORLD: for the JDK's members and the constructors -/
def xw (x : CX) (ws : va_W) : CX := match x with
  | (a, (D, cs, b, ad, adV, sc, _, _), r) => (a, (D, cs, b, ad, adV, sc, [], fun _ w => w = ws), r)
def Gz : GS := (fun _ _ => 0, fun _ _ => 0, (0, fun _ => 0), (0, 0))
abbrev WJ (x : CX) (ws : va_W) (pc : Nat) (ls : Ls) (st : List AV) (u : Nat) : Prop := WG (xw x ws) pc ls st Gz u
/-- what is the same all through -/
abbrev KT : Type := va_G × (Nat → ClassId) × Nat × (Rf → Nat) × (Nat → Nat) × (Nat × (Nat → Int32))
def cxK (x : CX) : KT := match x with
  | (_, (D, cs, b, ad, adV, sc, _, _), _) => (D, cs, b, ad, adV, sc)
theorem jde {x : CX} {cc : ByteArray} (hC : cxC x = cc) {pc : Nat} {ws : va_W} {r : Except DecodeError (Instr × Nat)} (h : decode cc pc = r) : decode (cxC (xw x ws)) pc = r := by
  subst hC
  exact h
def Pj (K : KT) (vs : List Value) (ws : va_W) : Array Value → State → Prop := match K with
  | (D, cs, b, ad, adV, sc) => va_Pc vs (fun U => (va_P D cls_ ws U.heap ∧ va_D (Ab b) ws) ∧ KS D cs b ad adV sc U U.heap ∧ b ≤ U.heap.size)
def Qj (K : KT) (post : Option Value → va_W → Prop) : Array Value → State → Outcome → State → Prop := match K with
  | (D, _, b, _, _, _) => fun _ st oc t => (∃ v w, post v w ∧ oc = .returned v ∧ va_P D cls_ w t.heap ∧ va_D (Ab b) w) ∧ va_F (Ab b) st t
def kb (K : KT) : Nat := K.2.2.1
/-- a method over an explicit world -/
def JC (K : KT) (l : Launch) (y : MethodName) (bytes : ByteArray) (maxL : Nat) (ret : Option FieldType) (lev cost : Nat) (vs : List Value) (ws : va_W) (post : Option Value → va_W → Prop) : Prop :=
  Met l y (.code y bytes maxL ret :: lw_all) (roomL lev cost) (Pj K vs ws) (Qj K post) cost (100 * cost) (Ab (kb K))
theorem PWj {D : va_G} {cs : Nat → ClassId} {b : Nat} {ad : Rf → Nat} {ws : va_W} {H : Heap} (hP : va_P D cls_ ws H) (hD : va_D (Ab b) ws) : PW D cs b ad [] (fun _ w => w = ws) Gz H := ⟨ws, rfl, hP, hD⟩
theorem PWj' {D : va_G} {cs : Nat → ClassId} {b : Nat} {ad : Rf → Nat} {ws : va_W} {H : Heap} (h : PW D cs b ad [] (fun _ w => w = ws) Gz H) : va_P D cls_ ws H ∧ va_D (Ab b) ws := by
  obtain ⟨w, rfl, h1, h2⟩ := h
  exact ⟨h1, h2⟩
section J1
variable {x : CX} {pc : Nat} {ls : Ls} {st : List AV} {G : GS} {u : Nat}
theorem jd_top {a b : AV} (h : a = b) (hk : WG x pc ls (b :: st) G u) : WG x pc ls (a :: st) G u := h ▸ hk
theorem jd_aload {i q : Nat} (hF : FX x) (hd : decode (cxC x) pc = .ok (.aload i, 2)) (hi : ls[i]? = some (some (.inl (.ref q)))) (hk : WG x (pc + 2) ls (.inl (.ref q) :: st) G u) : WG x pc ls st G u := by
  obtain ⟨⟨p, l, e, R, s, m, args, below, meth, c, Q⟩, ⟨D, cs, b, ad, adV, sc, L, XT⟩, cc, nL, own, c0, s0, seg, lv⟩ := x
  obtain ⟨hx, hb, hml, hown, hts, hKS, hbs, hL, hlocks, hR1, hR2, hR3, hR4⟩ := hF
  intro H locs cells slots sl hP hS hl h1 h2
  exact lv_aload hx hb hd (LV_at hl hi) (hk H locs cells slots sl hP hS hl h1 h2)
theorem jd_aload_n {k : Fin 4} {i q : Nat} (hF : FX x) (hd : decode (cxC x) pc = .ok (.aload_n k, 1)) (hki : (k : Nat) = i) (hi : ls[i]? = some (some (.inl (.ref q)))) (hk : WG x (pc + 1) ls (.inl (.ref q) :: st) G u) : WG x pc ls st G u := by
  obtain ⟨⟨p, l, e, R, s, m, args, below, meth, c, Q⟩, ⟨D, cs, b, ad, adV, sc, L, XT⟩, cc, nL, own, c0, s0, seg, lv⟩ := x
  obtain ⟨hx, hb, hml, hown, hts, hKS, hbs, hL, hlocks, hR1, hR2, hR3, hR4⟩ := hF
  intro H locs cells slots sl hP hS hl h1 h2
  exact lv_aload_n hx hb hd hki (LV_at hl hi) (hk H locs cells slots sl hP hS hl h1 h2)
theorem jd_iload {i : Nat} {v : Int32} (hF : FX x) (hd : decode (cxC x) pc = .ok (.iload i, 2)) (hi : ls[i]? = some (some (.inl (.int v)))) (hk : WG x (pc + 2) ls (.inl (.int v) :: st) G u) : WG x pc ls st G u :=
  sd_ld hF hi (Or.inr (Or.inl ⟨rfl, Or.inl ⟨hd, rfl⟩⟩)) rfl hk
theorem jd_iload_n {k : Fin 4} {i : Nat} {v : Int32} (hF : FX x) (hd : decode (cxC x) pc = .ok (.iload_n k, 1)) (hki : (k : Nat) = i) (hi : ls[i]? = some (some (.inl (.int v)))) (hk : WG x (pc + 1) ls (.inl (.int v) :: st) G u) : WG x pc ls st G u :=
  sd_ld hF hi (Or.inr (Or.inl ⟨rfl, Or.inr ⟨k, hd, hki, rfl⟩⟩)) rfl hk
theorem jd_istore {i : Nat} {v : Int32} (hF : FX x) (hd : decode (cxC x) pc = .ok (.istore i, 2)) (hbl : ai_below i ls = true) (hil : i + 1 ≤ ls.length) (hk : WG x (pc + 2) (ls.set i (some (.inl (.int v)))) st G u) : WG x pc ls (.inl (.int v) :: st) G u :=
  sd_sto hF (by decide) (Or.inr (Or.inl ⟨rfl, Or.inl ⟨hd, rfl⟩⟩)) rfl hbl hil hk
theorem jd_istore_n {k : Fin 4} {i : Nat} {v : Int32} (hF : FX x) (hd : decode (cxC x) pc = .ok (.istore_n k, 1)) (hki : (k : Nat) = i) (hbl : ai_below i ls = true) (hil : i + 1 ≤ ls.length) (hk : WG x (pc + 1) (ls.set i (some (.inl (.int v)))) st G u) : WG x pc ls (.inl (.int v) :: st) G u :=
  sd_sto hF (by decide) (Or.inr (Or.inl ⟨rfl, Or.inr ⟨k, hd, hki, rfl⟩⟩)) rfl hbl hil hk
theorem jd_astore {i q : Nat} (hF : FX x) (hd : decode (cxC x) pc = .ok (.astore i, 2)) (hbl : ai_below i ls = true) (hil : i + 1 ≤ ls.length) (hk : WG x (pc + 2) (ls.set i (some (.inl (.ref q)))) st G u) : WG x pc ls (.inl (.ref q) :: st) G u := by
  obtain ⟨⟨p, l, e, R, s, m, args, below, meth, c, Q⟩, ⟨D, cs, b, ad, adV, sc, L, XT⟩, cc, nL, own, c0, s0, seg, lv⟩ := x
  obtain ⟨hx, hb, hml, hown, hts, hKS, hbs, hL, hlocks, hR1, hR2, hR3, hR4⟩ := hF
  intro H locs cells slots sl hP hS hl h1 h2
  exact lv_astore hx hb hd hl.2 (by rw [← hl.1]; omega) rfl (fun sl' h => hk H locs cells slots sl' hP hS (LV_set hl.1 hbl h) h1 h2)
theorem jd_astore_n {k : Fin 4} {i q : Nat} (hF : FX x) (hd : decode (cxC x) pc = .ok (.astore_n k, 1)) (hki : (k : Nat) = i) (hbl : ai_below i ls = true) (hil : i + 1 ≤ ls.length) (hk : WG x (pc + 1) (ls.set i (some (.inl (.ref q)))) st G u) : WG x pc ls (.inl (.ref q) :: st) G u := by
  obtain ⟨⟨p, l, e, R, s, m, args, below, meth, c, Q⟩, ⟨D, cs, b, ad, adV, sc, L, XT⟩, cc, nL, own, c0, s0, seg, lv⟩ := x
  obtain ⟨hx, hb, hml, hown, hts, hKS, hbs, hL, hlocks, hR1, hR2, hR3, hR4⟩ := hF
  intro H locs cells slots sl hP hS hl h1 h2
  exact lv_astore_n hx hb hd hki hl.2 (by rw [← hl.1]; omega) rfl (fun sl' h => hk H locs cells slots sl' hP hS (LV_set hl.1 hbl h) h1 h2)
theorem jd_ixor {a b : Int32} (hF : FX x) (hd : decode (cxC x) pc = .ok (.ixor, 1)) (hk : WG x (pc + 1) ls (.inl (.int (a ^^^ b)) :: st) G u) : WG x pc ls (.inl (.int b) :: .inl (.int a) :: st) G u := by
  obtain ⟨⟨p, l, e, R, s, m, args, below, meth, c, Q⟩, ⟨D, cs, b, ad, adV, sc, L, XT⟩, cc, nL, own, c0, s0, seg, lv⟩ := x
  obtain ⟨hx, hb, hml, hown, hts, hKS, hbs, hL, hlocks, hR1, hR2, hR3, hR4⟩ := hF
  intro H locs cells slots sl hP hS hl h1 h2
  exact lv_ixor hx hb hd (hk H locs cells slots sl hP hS hl h1 h2)
theorem jd_ishl {a b : Int32} (hF : FX x) (hd : decode (cxC x) pc = .ok (.ishl, 1)) (hk : WG x (pc + 1) ls (.inl (.int (a <<< (b &&& 31))) :: st) G u) : WG x pc ls (.inl (.int b) :: .inl (.int a) :: st) G u := by
  obtain ⟨⟨p, l, e, R, s, m, args, below, meth, c, Q⟩, ⟨D, cs, b, ad, adV, sc, L, XT⟩, cc, nL, own, c0, s0, seg, lv⟩ := x
  obtain ⟨hx, hb, hml, hown, hts, hKS, hbs, hL, hlocks, hR1, hR2, hR3, hR4⟩ := hF
  intro H locs cells slots sl hP hS hl h1 h2
  exact lv_ishl hx hb hd (hk H locs cells slots sl hP hS hl h1 h2)
theorem jd_ishr {a b : Int32} (hF : FX x) (hd : decode (cxC x) pc = .ok (.ishr, 1)) (hk : WG x (pc + 1) ls (.inl (.int (a >>> (b &&& 31))) :: st) G u) : WG x pc ls (.inl (.int b) :: .inl (.int a) :: st) G u := by
  obtain ⟨⟨p, l, e, R, s, m, args, below, meth, c, Q⟩, ⟨D, cs, b, ad, adV, sc, L, XT⟩, cc, nL, own, c0, s0, seg, lv⟩ := x
  obtain ⟨hx, hb, hml, hown, hts, hKS, hbs, hL, hlocks, hR1, hR2, hR3, hR4⟩ := hF
  intro H locs cells slots sl hP hS hl h1 h2
  exact lv_ishr hx hb hd (hk H locs cells slots sl hP hS hl h1 h2)
theorem jd_i2b {a : Int32} (hF : FX x) (hd : decode (cxC x) pc = .ok (.i2b, 1)) (hk : WG x (pc + 1) ls (.inl (.int a.toInt8.toInt32) :: st) G u) : WG x pc ls (.inl (.int a) :: st) G u := by
  obtain ⟨⟨p, l, e, R, s, m, args, below, meth, c, Q⟩, ⟨D, cs, b, ad, adV, sc, L, XT⟩, cc, nL, own, c0, s0, seg, lv⟩ := x
  obtain ⟨hx, hb, hml, hown, hts, hKS, hbs, hL, hlocks, hR1, hR2, hR3, hR4⟩ := hF
  intro H locs cells slots sl hP hS hl h1 h2
  exact lv_i2b hx hb hd rfl (hk H locs cells slots sl hP hS hl h1 h2)
theorem jd_dup_x1 {v w : AV} (hF : FX x) (hd : decode (cxC x) pc = .ok (.dup_x1, 1)) (hc : ai_cat v = 1) (hc2 : ai_cat w = 1) (hk : WG x (pc + 1) ls (v :: w :: v :: st) G u) : WG x pc ls (v :: w :: st) G u := by
  obtain ⟨⟨p, l, e, R, s, m, args, below, meth, c, Q⟩, ⟨D, cs, b, ad, adV, sc, L, XT⟩, cc, nL, own, c0, s0, seg, lv⟩ := x
  obtain ⟨hx, hb, hml, hown, hts, hKS, hbs, hL, hlocks, hR1, hR2, hR3, hR4⟩ := hF
  intro H locs cells slots sl hP hS hl h1 h2
  exact lv_dup_x1 hx hb hd ((ai_cat_eq ad v) ▸ hc) ((ai_cat_eq ad w) ▸ hc2) (hk H locs cells slots sl hP hS hl h1 h2)
theorem jd_ldc {idx : Nat} {v : Int32} (hF : FX x) (hd : decode (cxC x) pc = .ok (.ldc idx, 2)) (w : Cond.constant (cxO x) idx v ∈ lw_all) (hk : WG x (pc + 2) ls (.inl (.int v) :: st) G u) : WG x pc ls st G u := by
  obtain ⟨⟨p, l, e, R, s, m, args, below, meth, c, Q⟩, ⟨D, cs, b, ad, adV, sc, L, XT⟩, cc, nL, own, c0, s0, seg, lv⟩ := x
  obtain ⟨hx, hb, hml, hown, hts, hKS, hbs, hL, hlocks, hR1, hR2, hR3, hR4⟩ := hF
  intro H locs cells slots sl hP hS hl h1 h2
  exact lv_ldc hx hb hown (hts _ w) hd (hk H locs cells slots sl hP hS hl h1 h2)
theorem jd_compact {idx : Nat} (hF : FX x) (hd : decode (cxC x) pc = .ok (.getstatic idx, 3)) (w : Cond.fieldLink (cxO x) idx "java/lang/String" "COMPACT_STRINGS" "Z" ∈ lw_all) (hk : WG x (pc + 3) ls (.inl (.int 1) :: st) G u) : WG x pc ls st G u := by
  obtain ⟨⟨p, l, e, R, s, m, args, below, meth, c, Q⟩, ⟨D, cs, b, ad, adV, sc, L, XT⟩, cc, nL, own, c0, s0, seg, lv⟩ := x
  obtain ⟨hx, hb, hml, hown, hts, hKS, hbs, hL, hlocks, hR1, hR2, hR3, hR4⟩ := hF
  intro H locs cells slots sl hP hS hl h1 h2
  exact va_gets hx hb hKS.2.2.2.2.2.1.2.2.1 hS hown (hts _ w) (fun _ h9 => h9) hd (hk H locs cells slots sl hP hS hl h1 h2)
theorem jd_sioobe {idx : Nat} (hF : FX x) (hd : decode (cxC x) pc = .ok (.getstatic idx, 3)) (w : Cond.fieldLink (cxO x) idx "jdk/internal/util/Preconditions" "SIOOBE_FORMATTER" "Ljava/util/function/BiFunction;" ∈ lw_all) (hk : ∀ v, v = .null ∨ (∃ q, v = .ref q) → WG x (pc + 3) ls (.inl v :: st) G u) : WG x pc ls st G u := by
  obtain ⟨⟨p, l, e, R, s, m, args, below, meth, c, Q⟩, ⟨D, cs, b, ad, adV, sc, L, XT⟩, cc, nL, own, c0, s0, seg, lv⟩ := x
  obtain ⟨hx, hb, hml, hown, hts, hKS, hbs, hL, hlocks, hR1, hR2, hR3, hR4⟩ := hF
  intro H locs cells slots sl hP hS hl h1 h2
  rcases hKS.2.2.2.2.2.1.2.2.2.2.2 with h | ⟨t, h⟩
  · exact va_gets hx hb h hS hown (hts _ w) (fun _ h9 => h9) hd (hk _ (Or.inl rfl) H locs cells slots sl hP hS hl h1 h2)
  · exact va_gets hx hb h hS hown (hts _ w) (fun _ h9 => h9) hd (hk _ (Or.inr ⟨t, rfl⟩) H locs cells slots sl hP hS hl h1 h2)
/-- the rows of digits: loaded at once, whatever stands between -/
theorem jd_ones {idx : Nat} (hF : FX x) (hd : decode (cxC x) pc = .ok (.getstatic idx, 3)) (w : Cond.fieldLink (cxO x) idx "java/lang/Integer" "DigitOnes" "[B" ∈ lw_all)
    (hk : ∀ t, (∀ (pc : Nat) (ls : Ls) (st : List AV) (G : GS) (u : Nat) (i : Int32), decode (cxC x) pc = .ok (.baload, 1) → inb i 100 = true → WG x (pc + 1) ls (.inl (.int (Int32.ofNat (48 + i.toNatClampNeg % 10))) :: st) G u → WG x pc ls (.inl (.int i) :: .inl (.ref t) :: st) G u) → WG x (pc + 3) ls (.inl (.ref t) :: st) G u) : WG x pc ls st G u := by
  obtain ⟨⟨p, l, e, R, s, m, args, below, meth, c, Q⟩, ⟨D, cs, b, ad, adV, sc, L, XT⟩, cc, nL, own, c0, s0, seg, lv⟩ := x
  obtain ⟨hx, hb, hml, hown, hts, hKS, hbs, hL, hlocks, hR1, hR2, hR3, hR4⟩ := hF
  intro H locs cells slots sl hP hS hl h1 h2
  obtain ⟨t, ht, hT⟩ := hKS.2.2.2.2.2.1.2.2.2.1
  refine va_gets hx hb ht hS hown (hts _ w) (fun _ h9 => h9) hd (hk t (fun pc ls st G u i hd2 hin kk => ?_) H locs cells slots sl hP hS hl h1 h2)
  intro H locs cells slots sl hP hS hl h1 h2
  exact va_tb hx hb hT hS (inb_in hin) rfl hd2 (kk H locs cells slots sl hP hS hl h1 h2)
theorem jd_tens {idx : Nat} (hF : FX x) (hd : decode (cxC x) pc = .ok (.getstatic idx, 3)) (w : Cond.fieldLink (cxO x) idx "java/lang/Integer" "DigitTens" "[B" ∈ lw_all)
    (hk : ∀ t, (∀ (pc : Nat) (ls : Ls) (st : List AV) (G : GS) (u : Nat) (i : Int32), decode (cxC x) pc = .ok (.baload, 1) → inb i 100 = true → WG x (pc + 1) ls (.inl (.int (Int32.ofNat (48 + i.toNatClampNeg / 10))) :: st) G u → WG x pc ls (.inl (.int i) :: .inl (.ref t) :: st) G u) → WG x (pc + 3) ls (.inl (.ref t) :: st) G u) : WG x pc ls st G u := by
  obtain ⟨⟨p, l, e, R, s, m, args, below, meth, c, Q⟩, ⟨D, cs, b, ad, adV, sc, L, XT⟩, cc, nL, own, c0, s0, seg, lv⟩ := x
  obtain ⟨hx, hb, hml, hown, hts, hKS, hbs, hL, hlocks, hR1, hR2, hR3, hR4⟩ := hF
  intro H locs cells slots sl hP hS hl h1 h2
  obtain ⟨t, ht, hT⟩ := hKS.2.2.2.2.2.1.2.2.2.2.1
  refine va_gets hx hb ht hS hown (hts _ w) (fun _ h9 => h9) hd (hk t (fun pc ls st G u i hd2 hin kk => ?_) H locs cells slots sl hP hS hl h1 h2)
  intro H locs cells slots sl hP hS hl h1 h2
  exact va_tb hx hb hT hS (inb_in hin) rfl hd2 (kk H locs cells slots sl hP hS hl h1 h2)
end J1
section J2
variable {x : CX} {ws : va_W} {pc : Nat} {ls : Ls} {st : List AV} {u : Nat}
theorem jd_get {idx k ci h f : Nat} {fs : List Value} {v : Value} {q : vw_C} (hF : FX (xw x ws)) (hd : decode (cxC (xw x ws)) pc = .ok (.getfield idx, 3)) (hk : ws[k]? = some (h, .inr (ci, fs))) (hq : cls_[ci]? = some q) (hf : f < q.2.2)
    (w : Cond.fieldLink (cxO x) idx (q.2.1 f).1 (q.2.1 f).2.1 (q.2.1 f).2.2.1 ∈ lw_all ∨ ∃ host, Cond.fieldLinkNest (cxO x) idx (q.2.1 f).1 (q.2.1 f).2.1 (q.2.1 f).2.2.1 host ∈ nw_all) (hv : fs[f]? = some v) (kk : WJ x ws (pc + 3) ls (.inl v :: st) u) : WJ x ws pc ls (.inl (.ref h) :: st) u := by
  obtain ⟨⟨p, l, e, R, s, m, args, below, meth, c, Q⟩, ⟨D, cs, b, ad, adV, sc, L, XT⟩, cc, nL, own, c0, s0, seg, lv⟩ := x
  obtain ⟨hx, hb, hml, hown, hts, hKS, hbs, hL, hlocks, hR1, hR2, hR3, hR4⟩ := hF
  intro H locs cells slots sl hP0 hS hl h1 h2
  obtain ⟨hP, hD⟩ := PWj' hP0
  obtain ⟨C, T, N⟩ := q
  rcases w with w | ⟨host, w⟩
  · exact va_get (D := D) hx hb hts (cls_in _ _ hq) hown hKS.1 hP k hk hq f hf (hts _ w) (fun _ h9 => h9) hv hd (kk H locs cells slots sl hP0 hS hl h1 h2)
  · exact va_getN (D := D) hx hb hts (cls_in _ _ hq) hown hKS.1 hP k hk hq f hf (va_Nw.use rfl (hKS.2.2.2.1 _ w)) (fun _ h9 => h9) hv hd (kk H locs cells slots sl hP0 hS hl h1 h2)
theorem jd_put {idx k ci h f : Nat} {fs : List Value} {v : Value} {q : vw_C} {ty : FieldType} (hF : FX (xw x ws)) (hd : decode (cxC (xw x ws)) pc = .ok (.putfield idx, 3)) (hk : ws[k]? = some (h, .inr (ci, fs))) (hq : cls_[ci]? = some q) (hf : f < q.2.2)
    (w : Cond.fieldLink (cxO x) idx (q.2.1 f).1 (q.2.1 f).2.1 (q.2.1 f).2.2.1 ∈ lw_all) (hfin : (q.2.1 f).2.2.2 = false) (hpf : parseFieldDescriptor (q.2.1 f).2.2.1 = some ty) (hn : narrow ty v = v) (hfit : fits ty v = true) (hl : f < fs.length) (kk : WJ x (ws.set k (h, .inr (ci, fs.set f v))) (pc + 3) ls st u) : WJ x ws pc ls (.inl v :: .inl (.ref h) :: st) u := by
  obtain ⟨⟨p, l, e, R, s, m, args, below, meth, c, Q⟩, ⟨D, cs, b, ad, adV, sc, L, XT⟩, cc, nL, own, c0, s0, seg, lv⟩ := x
  obtain ⟨hx, hb, hml, hown, hts, hKS, hbs, hL, hlocks, hR1, hR2, hR3, hR4⟩ := hF
  intro H locs cells slots sl hP0 hS hl' h1 h2
  obtain ⟨hP, hD⟩ := PWj' hP0
  obtain ⟨C, T, N⟩ := q
  exact va_put (D := D) hx hb hts (cls_in _ _ hq) (tyC ci) (cls_ty _ _ hq) (cls_nm _ _ hq) hown hKS.1 hP hD hS k hk hq f hf (hts _ w) (fun _ h9 => h9) hfin hpf hn hfit hl hd (fun H1 locs1 g1 g2 g3 => kk H1 locs1 cells slots sl (PWj g1 g2) g3 hl' h1 h2)
/-- a final field, in a constructor -/
def cxI (x : CX) : Prop := x.1.2.2.2.2.2.2.2.2.1.name = "<init>"
theorem jd_putF {idx k ci h f : Nat} {fs : List Value} {v : Value} {q : vw_C} {ty : FieldType} (hF : FX (xw x ws)) (hI : cxI x) (hd : decode (cxC (xw x ws)) pc = .ok (.putfield idx, 3)) (hk : ws[k]? = some (h, .inr (ci, fs))) (hq : cls_[ci]? = some q) (hf : f < q.2.2)
    (w : Cond.fieldLink (cxO x) idx (q.2.1 f).1 (q.2.1 f).2.1 (q.2.1 f).2.2.1 ∈ lw_all) (hfin : (q.2.1 f).2.2.2 = true) (hdecl : (q.2.1 f).1 = cxO x) (hpf : parseFieldDescriptor (q.2.1 f).2.2.1 = some ty) (hn : narrow ty v = v) (hfit : fits ty v = true) (hl : f < fs.length) (kk : WJ x (ws.set k (h, .inr (ci, fs.set f v))) (pc + 3) ls st u) : WJ x ws pc ls (.inl v :: .inl (.ref h) :: st) u := by
  obtain ⟨⟨p, l, e, R, s, m, args, below, meth, c, Q⟩, ⟨D, cs, b, ad, adV, sc, L, XT⟩, cc, nL, own, c0, s0, seg, lv⟩ := x
  obtain ⟨hx, hb, hml, hown, hts, hKS, hbs, hL, hlocks, hR1, hR2, hR3, hR4⟩ := hF
  intro H locs cells slots sl hP0 hS hl' h1 h2
  obtain ⟨hP, hD⟩ := PWj' hP0
  obtain ⟨C, T, N⟩ := q
  exact va_putF (D := D) hx hb hts (cls_in _ _ hq) (tyC ci) (cls_ty _ _ hq) (cls_nm _ _ hq) hown hKS.1 hP hD hS k hk hq f hf (hts _ w) (fun _ h9 => h9) hfin hI hdecl hpf hn hfit hl hd (fun H1 locs1 g1 g2 g3 => kk H1 locs1 cells slots sl (PWj g1 g2) g3 hl' h1 h2)
theorem jd_bald {k h n : Nat} {f : Nat → Int32} {i : Int32} (hF : FX (xw x ws)) (hd : decode (cxC (xw x ws)) pc = .ok (.baload, 1)) (hk : ws[k]? = some (h, .inl ((cxK x).2.1 5, n, .inl f))) (hin : inb i n = true) (kk : WJ x ws (pc + 1) ls (.inl (.int (f i.toNatClampNeg)) :: st) u) : WJ x ws pc ls (.inl (.int i) :: .inl (.ref h) :: st) u := by
  obtain ⟨⟨p, l, e, R, s, m, args, below, meth, c, Q⟩, ⟨D, cs, b, ad, adV, sc, L, XT⟩, cc, nL, own, c0, s0, seg, lv⟩ := x
  obtain ⟨hx, hb, hml, hown, hts, hKS, hbs, hL, hlocks, hR1, hR2, hR3, hR4⟩ := hF
  intro H locs cells slots sl hP0 hS hl h1 h2
  obtain ⟨hP, hD⟩ := PWj' hP0
  exact va_bald (D := D) hx hb hKS.1 hP k 5 hk rfl (inb_in hin) hd (kk H locs cells slots sl hP0 hS hl h1 h2)
theorem jd_bast {k h n : Nat} {f : Nat → Int32} {i v : Int32} (hF : FX (xw x ws)) (hd : decode (cxC (xw x ws)) pc = .ok (.bastore, 1)) (hk : ws[k]? = some (h, .inl ((cxK x).2.1 5, n, .inl f))) (hin : inb i n = true) (kk : WJ x (ws.set k (h, .inl ((cxK x).2.1 5, n, .inl (upd f i.toNatClampNeg (vp_nar .byte v))))) (pc + 1) ls st u) : WJ x ws pc ls (.inl (.int v) :: .inl (.int i) :: .inl (.ref h) :: st) u := by
  obtain ⟨⟨p, l, e, R, s, m, args, below, meth, c, Q⟩, ⟨D, cs, b, ad, adV, sc, L, XT⟩, cc, nL, own, c0, s0, seg, lv⟩ := x
  obtain ⟨hx, hb, hml, hown, hts, hKS, hbs, hL, hlocks, hR1, hR2, hR3, hR4⟩ := hF
  intro H locs cells slots sl hP0 hS hl h1 h2
  obtain ⟨hP, hD⟩ := PWj' hP0
  exact va_bast (D := D) hx hb hKS.1 hP hD hS k 5 hk rfl (inb_in hin) hd (fun H1 locs1 g1 g2 g3 => kk H1 locs1 cells slots sl (PWj g1 g2) g3 hl h1 h2)
theorem jd_alen {k h : Nat} {a : vp_A} (hF : FX (xw x ws)) (hd : decode (cxC (xw x ws)) pc = .ok (.arraylength, 1)) (hk : ws[k]? = some (h, .inl ((cxK x).2.1 5, a))) (kk : WJ x ws (pc + 1) ls (.inl (.int (Int32.ofNat a.1)) :: st) u) : WJ x ws pc ls (.inl (.ref h) :: st) u := by
  obtain ⟨⟨p, l, e, R, s, m, args, below, meth, c, Q⟩, ⟨D, cs, b, ad, adV, sc, L, XT⟩, cc, nL, own, c0, s0, seg, lv⟩ := x
  obtain ⟨hx, hb, hml, hown, hts, hKS, hbs, hL, hlocks, hR1, hR2, hR3, hR4⟩ := hF
  intro H locs cells slots sl hP0 hS hl h1 h2
  obtain ⟨hP, hD⟩ := PWj' hP0
  exact va_alen (D := D) hx hb hKS.1 hP k 5 hk rfl rfl hd (kk H locs cells slots sl hP0 hS hl h1 h2)
/-- a new array of a known class -/
theorem jd_newa {t : Nat} {ty : FieldType} {at_ : ArrayType} {n : Int32} {N : Nat} {a0 : vp_A} {nm : String} (hF : FX (xw x ws)) (hd : decode (cxC (xw x ws)) pc = .ok (.newarray at_, 2)) (w : Cond.arrayClass (newarray.typeOf at_) ∈ lw_all) (hty : newarray.typeOf at_ = ty) (ht : (tys_ (cxK x).2.1)[t]? = some ((cxK x).2.1 t, ty))
    (hnm : ∀ (s : State) (c : ClassId), va_RA s c ty → s.vm.findClass nm = some c) (ha : ∀ cA : ClassId, vp_cell cA a0 = arrV cA N (fun _ => defaultValue ty)) (hn : ¬ n < 0) (hN : n.toNatClampNeg = N) (hN2 : N * componentBytes ty ≤ 536870912) {d : Nat} (hNd : N ≤ 100 * d) (hd1 : 1 ≤ d) (hu : u + d ≤ cxG x)
    (kk : ∀ q, WJ x (ws ++ [(q, .inl ((cxK x).2.1 t, a0))]) (pc + 2) ls (.inl (.ref q) :: st) (u + d)) : WJ x ws pc ls (.inl (.int n) :: st) u := by
  obtain ⟨⟨p, l, e, R, s, m, args, below, meth, c, Q⟩, ⟨D, cs, b, ad, adV, sc, L, XT⟩, cc, nL, own, c0, s0, seg, lv⟩ := x
  obtain ⟨hx, hb, hml, hown, hts, hKS, hbs, hL, hlocks, hR1, hR2, hR3, hR4⟩ := hF
  intro H locs cells slots sl hP0 hS hl h1 h2
  obtain ⟨hP, hD⟩ := PWj' hP0
  have hu : u + d ≤ seg := hu
  refine va_newa (D := D) hx hb (hts _ w) hty hKS.1 hP hD hS (fun q hq => Nat.le_trans hbs hq) ha hn hN hN2 (by omega) (by omega) hd (fun q cA H1 g0 g1 g2 g3 => ?_)
  have e1 : cA = cs t := by
    have k1 := hnm s cA (g0.2 6 (cA, ty) rfl).2
    have k2 := hnm s (cs t) (hKS.1.2 t (cs t, ty) ht).2
    rw [k1] at k2
    exact Option.some.inj k2
  subst e1
  exact kk q H1 locs (cells + 1) (slots + N) sl (PWj g1 g2) g3 hl (by omega) (by omega)
/-- a new object -/
theorem jd_new {idx ci : Nat} {q : vw_C} {fs : List Value} (hF : FX (xw x ws)) (hd : decode (cxC (xw x ws)) pc = .ok (.new idx, 3)) (hq : cls_[ci]? = some q) (w1 : Cond.classLink (cxO x) idx q.1 ∈ lw_all) (w2 : Cond.instantiable q.1 q.2.2 ∈ lw_all) (w3 : Cond.initialized q.1 ∈ lw_all)
    (hfs : ∀ j, j < q.2.2 → defaultValue (tyC ci j) = vp_V fs j) (hN : q.2.2 ≤ 100) (hu : u + 1 ≤ cxG x) (kk : ∀ h, WJ x (ws ++ [(h, .inr (ci, fs))]) (pc + 3) ls (.inl (.ref h) :: st) (u + 1)) : WJ x ws pc ls st u := by
  obtain ⟨⟨p, l, e, R, s, m, args, below, meth, c, Q⟩, ⟨D, cs, b, ad, adV, sc, L, XT⟩, cc, nL, own, c0, s0, seg, lv⟩ := x
  obtain ⟨hx, hb, hml, hown, hts, hKS, hbs, hL, hlocks, hR1, hR2, hR3, hR4⟩ := hF
  intro H locs cells slots sl hP0 hS hl h1 h2
  obtain ⟨hP, hD⟩ := PWj' hP0
  have hu : u + 1 ≤ seg := hu
  obtain ⟨C, T, N⟩ := q
  exact va_new (D := D) hx hb hts (cls_in _ _ hq) (tyC ci) (cls_ty _ _ hq) hown (hts _ w1) (hts _ w2) (hts _ w3) hKS.1 hP hD hS (fun q hq => Nat.le_trans hbs hq) hq hfs (by omega) (by have : N ≤ 100 := hN; omega) hd (fun h H1 g1 g2 g3 => kk h H1 locs (cells + 1) (slots + N) sl (PWj g1 g2) g3 hl (by omega) (by have : N ≤ 100 := hN; omega))
end J2
end
section
/-! Calls and ends, over an explicit world -/
section JR
variable {p : Program} {l : Launch} {e : Env} {R : Room} {s : State} {m : MethodId} {args : Array Value} {below : List Frame} {meth : Method} {c : Code} {Q : State → Prop} {H : Heap} {locs : List Loc} {cells slots mc ms pc : Nat} {sl : Array Slot} {st0 rest : List Value} {arr : Array Value} {D : va_G} {cs : Nat → ClassId} {b : Nat} {ad : Rf → Nat} {adV : Nat → Nat} {sc : Nat × (Nat → Int32)}
theorem jd_row {post : Option Value → va_W → Prop} (hr : va_Run p l e R s m args below meth c H locs cells slots mc ms (F0 m pc sl st0) rest (Qj (D, cs, b, ad, adV, sc) post arr) (Ab b)) (hS : va_S (Ab b) s.heap H locs)
    (kk : ∀ v w, post v w → ∀ (H1 : Heap) (locs1 : List Loc), va_P D cls_ w H1 → va_D (Ab b) w → va_S (Ab b) s.heap H1 locs1 → W p l e R s m args below meth c H1 locs1 (cells + mc) (slots + ms) Q (F0 m (pc + 3) sl (v.toList ++ rest))) : W p l e R s m args below meth c H locs cells slots Q (F0 m pc sl st0) := by
  intro T hT X
  obtain ⟨v, st₀, t, T', L', h0, X', hL, e1, e2, ⟨⟨v', w, hpo, hoc, hP, hD⟩, hz, hk⟩, st⟩ := hr T hT X
  cases hoc
  rw [h0] at hz hk
  obtain ⟨t2, a1, b1⟩ := kk v w hpo T'.heap (locs ++ L') (by rw [e1]; exact hP) hD
    ⟨Nat.le_trans hS.1 (by rw [e1]; exact hz), fun q h1 h2 => by rw [e1, hk q (Nat.lt_of_lt_of_le h1 hS.1) h2]; exact hS.2.1 q h1 h2, fun q hq => by
      rcases List.mem_append.mp hq with h | h
      · exact hS.2.2 q h
      · exact hL q h⟩ T' rfl X'
  exact ⟨t2, st t2 a1, b1⟩
theorem jd_pre {vs : List Value} {ws : va_W} {U : State} (hbs : b ≤ s.heap.size) (hKS : KS D cs b ad adV sc s s.heap) (hS : va_S (Ab b) s.heap H locs) (hP : va_P D cls_ ws H) (hD : va_D (Ab b) ws) (hU : U.heap = H) (hW : s.WarmedH U.vm) : Pj (D, cs, b, ad, adV, sc) vs ws vs.toArray U :=
  ⟨rfl, by rw [hU]; exact ⟨hP, hD⟩, by rw [hU]; exact KS_move hW hS.1 hS.2.1 hKS, by rw [hU]; exact Nat.le_trans hbs hS.1⟩
end JR
theorem Pj_blind {K : KT} {vs : List Value} {ws : va_W} : FrameBlind (Pj K vs ws) := by
  obtain ⟨D, cs, b, ad, adV, sc⟩ := K
  intro a U g mk q
  obtain ⟨q0, q1, q2, q3⟩ := q
  exact ⟨q0, q1, KS_move (s := U) (U := U.calling g mk a) (State.WarmedH.refl U) (Nat.le_refl _) (fun _ _ _ => rfl) q2, q3⟩
theorem vals_map (ad : Rf → Nat) : ∀ vs : List Value, (vs.map (Sum.inl : Value → AV)).map (rv ad) = vs
  | [] => rfl
  | v :: vs => by rw [List.map_cons, List.map_cons, vals_map ad vs]; rfl
theorem opt_map (ad : Rf → Nat) (v : Option Value) (rest : List AV) : ((v.map (Sum.inl : Value → AV)).toList ++ rest).map (rv ad) = v.toList ++ rest.map (rv ad) := by cases v <;> rfl
theorem stk_J (ad : Rf → Nat) (vs : List Value) (rest : List AV) : ((vs.map (Sum.inl : Value → AV)).reverse ++ rest).map (rv ad) = vs.reverse ++ rest.map (rv ad) := by
  rw [List.map_append, List.map_reverse, vals_map]
section JCall
variable {x : CX} {ws : va_W} {pc : Nat} {ls : Ls} {st rest : List AV} {u idx n lev cost maxL : Nat} {y : MethodName} {bytes : ByteArray} {ret : Option FieldType} {vs : List Value} {h : Nat} {post : Option Value → va_W → Prop}
theorem jd_callS (hF : FX (xw x ws)) (hd : decode (cxC (xw x ws)) pc = .ok (.invokestatic idx, 3)) (hC : JC (cxK x) (cxH x) y bytes maxL ret lev cost vs ws post)
    (w1 : Cond.methodLink (cxO x) idx y ∈ lw_all) (w2 : Cond.static y ∈ lw_all) (w4 : Cond.initialized y.cls ∈ lw_all) (w5 : Cond.code y bytes maxL ret ∈ lw_all)
    (hy : y.cls ≠ "java/lang/invoke/MethodHandle" ∧ y.cls ≠ "java/lang/invoke/VarHandle" ∧ (parseMethodDescriptor y.desc).map (fun d => d.parameters.length) = some n) (hn : vs.length = n) (hm : maxL ≤ 40) (hlv : lev + 1 ≤ cxV x)
    (hst : st = (vs.map Sum.inl).reverse ++ rest) (hcat : ai_cats rest ≤ 8) (hu : u + cost ≤ cxG x) (kk : ∀ v w, post v w → WJ x w (pc + 3) ls ((v.map Sum.inl).toList ++ rest) (u + cost)) : WJ x ws pc ls st u := by
  obtain ⟨⟨p, l, e, R, s, m, args, below, meth, c, Q⟩, ⟨D, cs, b, ad, adV, sc, L, XT⟩, cc, nL, own, c0, s0, seg, lv⟩ := x
  obtain ⟨hx, hb, hml, hown, hts, hKS, hbs, hL, hlocks, hR1, hR2, hR3, hR4⟩ := hF
  intro H locs cells slots sl hP0 hS hl h1 h2
  obtain ⟨hP, hD⟩ := PWj' hP0
  have hu : u + cost ≤ seg := hu
  have hlv : lev + 1 ≤ lv := hlv
  have hg : GoodIn lw_all (va_wsS own idx y (.code y bytes maxL ret :: lw_all)) := goodIn_all (in_cons w1 (in_cons w2 (in_cons w4 (in_cons w5 in_self))))
  subst hst
  have hrun := va_runS (cells := cells) (slots := slots) (locs := locs) (meth := meth) (As := vs) (rest := rest.map (rv ad)) (g := F0 m pc sl (((vs.map Sum.inl).reverse ++ rest).map (rv ad))) (p := p) (e := e) (below := below) (R := R) ⟨hx, hb, hml, hown, hts⟩ hC
    (va_cwS n hts hg rfl rfl rfl hy ⟨(by show lev + 1 ≤ R.frames; omega), (by show 8 + (maxL + 11) + 64 * lev ≤ R.locals; omega)⟩) ⟨Pj_blind, fun U hU hW => jd_pre hbs hKS hS hP hD hU hW⟩
    rfl hn hl.2.1 (stk_J ad vs rest) (lv_room (by rw [cats_eq]; exact hcat)) hd ⟨by omega, by omega⟩
  exact jd_row hrun hS (fun v w hv H1 locs1 g1 g2 g3 => by rw [← opt_map ad]; exact kk v w hv H1 locs1 _ _ sl (PWj g1 g2) g3 hl (by omega) (by omega))
theorem jd_callV {k ci : Nat} {fs : List Value} {q : vw_C} (hF : FX (xw x ws)) (hd : decode (cxC (xw x ws)) pc = .ok (.invokevirtual idx, 3)) (hC : JC (cxK x) (cxH x) y bytes maxL ret lev cost (.ref h :: vs) ws post) (hk : ws[k]? = some (h, .inr (ci, fs))) (hq : cls_[ci]? = some q)
    (w1 : Cond.methodLink (cxO x) idx y ∈ lw_all) (w2 : Cond.instanceMethod y ∈ lw_all) (w3 : Cond.selects q.1 y y ∈ lw_all) (w4 : Cond.initialized q.1 ∈ lw_all) (w5 : Cond.code y bytes maxL ret ∈ lw_all)
    (hy : y.cls = q.1 ∧ y.cls ≠ "java/lang/invoke/MethodHandle" ∧ y.cls ≠ "java/lang/invoke/VarHandle" ∧ (parseMethodDescriptor y.desc).map (fun d => d.parameters.length) = some n) (hn : vs.length = n) (hm : maxL ≤ 40) (hlv : lev + 1 ≤ cxV x)
    (hst : st = (vs.map Sum.inl).reverse ++ .inl (.ref h) :: rest) (hcat : ai_cats rest ≤ 8) (hu : u + cost ≤ cxG x) (kk : ∀ v w, post v w → WJ x w (pc + 3) ls ((v.map Sum.inl).toList ++ rest) (u + cost)) : WJ x ws pc ls st u := by
  obtain ⟨⟨p, l, e, R, s, m, args, below, meth, c, Q⟩, ⟨D, cs, b, ad, adV, sc, L, XT⟩, cc, nL, own, c0, s0, seg, lv⟩ := x
  obtain ⟨hx, hb, hml, hown, hts, hKS, hbs, hL, hlocks, hR1, hR2, hR3, hR4⟩ := hF
  intro H locs cells slots sl hP0 hS hl h1 h2
  obtain ⟨hP, hD⟩ := PWj' hP0
  have hu : u + cost ≤ seg := hu
  have hlv : lev + 1 ≤ lv := hlv
  have hg : GoodIn lw_all (wsV own idx q.1 y (.code y bytes maxL ret :: lw_all)) := goodIn_all (in_cons w1 (in_cons w2 (in_cons w3 (in_cons w4 (in_cons w5 in_self)))))
  subst hst
  have hrun := va_runV (cells := cells) (slots := slots) (locs := locs) (meth := meth) (As := vs) (rest := rest.map (rv ad)) (b := h) (C := q.1) (g := F0 m pc sl (((vs.map Sum.inl).reverse ++ (.inl (.ref h) : AV) :: rest).map (rv ad))) (p := p) (e := e) (below := below) (R := R) ⟨hx, hb, hml, hown, hts⟩ hC
    (cwV n hts hg rfl rfl rfl hy ⟨(by show lev + 1 ≤ R.frames; omega), (by show 8 + (maxL + 11) + 64 * lev ≤ R.locals; omega)⟩) ⟨Pj_blind, va_recv hKS.1 hP hq hk, fun U hU hW => jd_pre hbs hKS hS hP hD hU hW⟩
    rfl hn hl.2.1 (stk_J ad vs (.inl (.ref h) :: rest)) (lv_room (by rw [cats_eq]; exact hcat)) hd ⟨by omega, by omega⟩
  exact jd_row hrun hS (fun v w hv H1 locs1 g1 g2 g3 => by rw [← opt_map ad]; exact kk v w hv H1 locs1 _ _ sl (PWj g1 g2) g3 hl (by omega) (by omega))
/-- a method that the receiver's class inherits -/
theorem jd_callU {k ci : Nat} {fs : List Value} {q : vw_C} (hF : FX (xw x ws)) (hd : decode (cxC (xw x ws)) pc = .ok (.invokevirtual idx, 3)) (hC : JC (cxK x) (cxH x) y bytes maxL ret lev cost (.ref h :: vs) ws post) (hk : ws[k]? = some (h, .inr (ci, fs))) (hq : cls_[ci]? = some q)
    (w1 : Cond.methodLink (cxO x) idx y ∈ lw_all) (w0 : Cond.sameMethod y.cls y.cls y.name y.desc ∈ lw_all) (w2 : Cond.instanceMethod y ∈ lw_all) (w3 : Cond.selects q.1 y y ∈ lw_all) (w4 : Cond.initialized y.cls ∈ lw_all) (w5 : Cond.code y bytes maxL ret ∈ lw_all)
    (hy : y.cls ≠ "java/lang/invoke/MethodHandle" ∧ y.cls ≠ "java/lang/invoke/VarHandle" ∧ (parseMethodDescriptor y.desc).map (fun d => d.parameters.length) = some n) (hn : vs.length = n) (hm : maxL ≤ 40) (hlv : lev + 1 ≤ cxV x)
    (hst : st = (vs.map Sum.inl).reverse ++ .inl (.ref h) :: rest) (hcat : ai_cats rest ≤ 8) (hu : u + cost ≤ cxG x) (kk : ∀ v w, post v w → WJ x w (pc + 3) ls ((v.map Sum.inl).toList ++ rest) (u + cost)) : WJ x ws pc ls st u := by
  obtain ⟨⟨p, l, e, R, s, m, args, below, meth, c, Q⟩, ⟨D, cs, b, ad, adV, sc, L, XT⟩, cc, nL, own, c0, s0, seg, lv⟩ := x
  obtain ⟨hx, hb, hml, hown, hts, hKS, hbs, hL, hlocks, hR1, hR2, hR3, hR4⟩ := hF
  intro H locs cells slots sl hP0 hS hl h1 h2
  obtain ⟨hP, hD⟩ := PWj' hP0
  have hu : u + cost ≤ seg := hu
  have hlv : lev + 1 ≤ lv := hlv
  have hg : GoodIn lw_all (va_wsU own idx q.1 y.cls y y (.code y bytes maxL ret :: lw_all)) := goodIn_all (in_cons w1 (in_cons w0 (in_cons w3 (in_cons w2 (in_cons w4 (in_cons w5 in_self))))))
  subst hst
  have hrun := va_runU (cells := cells) (slots := slots) (locs := locs) (meth := meth) (As := vs) (rest := rest.map (rv ad)) (b := h) (C := q.1) (owner := y.cls) (x := y) (y := y) (g := F0 m pc sl (((vs.map Sum.inl).reverse ++ (.inl (.ref h) : AV) :: rest).map (rv ad))) (p := p) (e := e) (below := below) (R := R) ⟨hx, hb, hml, hown, hts⟩ hC
    (va_cwU n hts hg rfl rfl rfl rfl hy ⟨(by show lev + 1 ≤ R.frames; omega), (by show 8 + (maxL + 11) + 64 * lev ≤ R.locals; omega)⟩) ⟨Pj_blind, va_recv hKS.1 hP hq hk, fun U hU hW => jd_pre hbs hKS hS hP hD hU hW⟩
    rfl hn hl.2.1 (stk_J ad vs (.inl (.ref h) :: rest)) (lv_room (by rw [cats_eq]; exact hcat)) hd ⟨by omega, by omega⟩
  exact jd_row hrun hS (fun v w hv H1 locs1 g1 g2 g3 => by rw [← opt_map ad]; exact kk v w hv H1 locs1 _ _ sl (PWj g1 g2) g3 hl (by omega) (by omega))
/-- super.m(..) -/
theorem jd_callSU {k ci : Nat} {fs : List Value} {q : vw_C} (hF : FX (xw x ws)) (hd : decode (cxC (xw x ws)) pc = .ok (.invokespecial idx, 3)) (hC : JC (cxK x) (cxH x) y bytes maxL ret lev cost (.ref h :: vs) ws post) (hk : ws[k]? = some (h, .inr (ci, fs))) (hq : cls_[ci]? = some q)
    (w1 : Cond.methodLink (cxO x) idx y ∈ lw_all) (w0 : Cond.sameMethod y.cls y.cls y.name y.desc ∈ lw_all) (w6 : Cond.superclass (cxO x) y.cls ∈ lw_all) (w2 : Cond.instanceMethod y ∈ lw_all) (w4 : Cond.initialized y.cls ∈ lw_all) (w5 : Cond.code y bytes maxL ret ∈ lw_all)
    (hy : y.name ≠ "<init>" ∧ (parseMethodDescriptor y.desc).map (fun d => d.parameters.length) = some n) (hn : vs.length = n) (hm : maxL ≤ 40) (hlv : lev + 1 ≤ cxV x)
    (hst : st = (vs.map Sum.inl).reverse ++ .inl (.ref h) :: rest) (hcat : ai_cats rest ≤ 8) (hu : u + cost ≤ cxG x) (kk : ∀ v w, post v w → WJ x w (pc + 3) ls ((v.map Sum.inl).toList ++ rest) (u + cost)) : WJ x ws pc ls st u := by
  obtain ⟨⟨p, l, e, R, s, m, args, below, meth, c, Q⟩, ⟨D, cs, b, ad, adV, sc, L, XT⟩, cc, nL, own, c0, s0, seg, lv⟩ := x
  obtain ⟨hx, hb, hml, hown, hts, hKS, hbs, hL, hlocks, hR1, hR2, hR3, hR4⟩ := hF
  intro H locs cells slots sl hP0 hS hl h1 h2
  obtain ⟨hP, hD⟩ := PWj' hP0
  have hu : u + cost ≤ seg := hu
  have hlv : lev + 1 ≤ lv := hlv
  have hg : GoodIn lw_all (va_wsSU own idx y (.code y bytes maxL ret :: lw_all)) := goodIn_all (in_cons w1 (in_cons w0 (in_cons w6 (in_cons w2 (in_cons w4 (in_cons w5 in_self))))))
  subst hst
  have hrun := va_runSU (hKS.1.1 ci q hq).2 (cells := cells) (slots := slots) (locs := locs) (meth := meth) (As := vs) (rest := rest.map (rv ad)) (b := h) (g := F0 m pc sl (((vs.map Sum.inl).reverse ++ (.inl (.ref h) : AV) :: rest).map (rv ad))) (p := p) (e := e) (below := below) (R := R) ⟨hx, hb, hml, hown, hts⟩ hC
    (va_cwSU n hts hg rfl rfl rfl hy ⟨(by show lev + 1 ≤ R.frames; omega), (by show 8 + (maxL + 11) + 64 * lev ≤ R.locals; omega)⟩) ⟨Pj_blind, va_recv hKS.1 hP hq hk, fun U hU hW => jd_pre hbs hKS hS hP hD hU hW⟩
    rfl hn hl.2.1 (stk_J ad vs (.inl (.ref h) :: rest)) (lv_room (by rw [cats_eq]; exact hcat)) hd ⟨by omega, by omega⟩
  exact jd_row hrun hS (fun v w hv H1 locs1 g1 g2 g3 => by rw [← opt_map ad]; exact kk v w hv H1 locs1 _ _ sl (PWj g1 g2) g3 hl (by omega) (by omega))
/-- a constructor -/
theorem jd_callI (hF : FX (xw x ws)) (hd : decode (cxC (xw x ws)) pc = .ok (.invokespecial idx, 3)) (hC : JC (cxK x) (cxH x) y bytes maxL none lev cost (.ref h :: vs) ws post)
    (w1 : Cond.methodLink (cxO x) idx y ∈ lw_all) (w2 : Cond.instanceMethod y ∈ lw_all) (w4 : Cond.initialized y.cls ∈ lw_all) (w5 : Cond.code y bytes maxL none ∈ lw_all) (hy1 : y.name = "<init>")
    (hy : y.cls ≠ "java/lang/invoke/MethodHandle" ∧ y.cls ≠ "java/lang/invoke/VarHandle" ∧ (parseMethodDescriptor y.desc).map (fun d => d.parameters.length) = some n) (hn : vs.length = n) (hm : maxL ≤ 40) (hlv : lev + 1 ≤ cxV x)
    (hst : st = (vs.map Sum.inl).reverse ++ .inl (.ref h) :: rest) (hcat : ai_cats rest ≤ 8) (hu : u + cost ≤ cxG x) (kk : ∀ v w, post v w → WJ x w (pc + 3) ls ((v.map Sum.inl).toList ++ rest) (u + cost)) : WJ x ws pc ls st u := by
  obtain ⟨⟨p, l, e, R, s, m, args, below, meth, c, Q⟩, ⟨D, cs, b, ad, adV, sc, L, XT⟩, cc, nL, own, c0, s0, seg, lv⟩ := x
  obtain ⟨hx, hb, hml, hown, hts, hKS, hbs, hL, hlocks, hR1, hR2, hR3, hR4⟩ := hF
  intro H locs cells slots sl hP0 hS hl h1 h2
  obtain ⟨hP, hD⟩ := PWj' hP0
  have hu : u + cost ≤ seg := hu
  have hlv : lev + 1 ≤ lv := hlv
  have hg : GoodIn lw_all (.code y bytes maxL none :: lw_all) := goodIn_all (in_cons w5 in_self)
  subst hst
  have hrun := va_runI (cells := cells) (slots := slots) (locs := locs) (meth := meth) (As := vs) (rest := rest.map (rv ad)) (b := h) (g := F0 m pc sl (((vs.map Sum.inl).reverse ++ (.inl (.ref h) : AV) :: rest).map (rv ad))) (p := p) (e := e) (below := below) (R := R) ⟨hx, hb, hml, hown, hts⟩ hC
    (cwI n hts hg rfl rfl rfl (hts _ w4) (hts _ w1) (hts _ w2) hy1 hy ⟨(by show lev + 1 ≤ R.frames; omega), (by show 8 + (maxL + 11) + 64 * lev ≤ R.locals; omega)⟩) ⟨Pj_blind, fun U hU hW => jd_pre hbs hKS hS hP hD hU hW⟩
    rfl hn hl.2.1 (stk_J ad vs (.inl (.ref h) :: rest)) (lv_room (by rw [cats_eq]; exact hcat)) hd ⟨by omega, by omega⟩
  exact jd_row hrun hS (fun v w hv H1 locs1 g1 g2 g3 => by rw [← opt_map ad]; exact kk v w hv H1 locs1 _ _ sl (PWj g1 g2) g3 hl (by omega) (by omega))
/-- a nest mate's constructor -/
theorem jd_callIN {host : String} (hF : FX (xw x ws)) (hd : decode (cxC (xw x ws)) pc = .ok (.invokespecial idx, 3)) (hC : JC (cxK x) (cxH x) y bytes maxL none lev cost (.ref h :: vs) ws post)
    (w1 : Cond.methodLinkNest (cxO x) idx y host ∈ nw_all) (w2 : Cond.instanceMethod y ∈ lw_all) (w4 : Cond.initialized y.cls ∈ lw_all) (w5 : Cond.code y bytes maxL none ∈ lw_all) (hy1 : y.name = "<init>")
    (hy : y.cls ≠ "java/lang/invoke/MethodHandle" ∧ y.cls ≠ "java/lang/invoke/VarHandle" ∧ (parseMethodDescriptor y.desc).map (fun d => d.parameters.length) = some n) (hn : vs.length = n) (hm : maxL ≤ 40) (hlv : lev + 1 ≤ cxV x)
    (hst : st = (vs.map Sum.inl).reverse ++ .inl (.ref h) :: rest) (hcat : ai_cats rest ≤ 8) (hu : u + cost ≤ cxG x) (kk : ∀ v w, post v w → WJ x w (pc + 3) ls ((v.map Sum.inl).toList ++ rest) (u + cost)) : WJ x ws pc ls st u := by
  obtain ⟨⟨p, l, e, R, s, m, args, below, meth, c, Q⟩, ⟨D, cs, b, ad, adV, sc, L, XT⟩, cc, nL, own, c0, s0, seg, lv⟩ := x
  obtain ⟨hx, hb, hml, hown, hts, hKS, hbs, hL, hlocks, hR1, hR2, hR3, hR4⟩ := hF
  intro H locs cells slots sl hP0 hS hl h1 h2
  obtain ⟨hP, hD⟩ := PWj' hP0
  have hu : u + cost ≤ seg := hu
  have hlv : lev + 1 ≤ lv := hlv
  have hg : GoodIn lw_all (.code y bytes maxL none :: lw_all) := goodIn_all (in_cons w5 in_self)
  subst hst
  have hrun := va_runIN (cells := cells) (slots := slots) (locs := locs) (meth := meth) (As := vs) (rest := rest.map (rv ad)) (b := h) (g := F0 m pc sl (((vs.map Sum.inl).reverse ++ (.inl (.ref h) : AV) :: rest).map (rv ad))) (p := p) (e := e) (below := below) (R := R) ⟨hx, hb, hml, hown, hts⟩ hC
    ⟨va_cnB n hts hg rfl rfl rfl (hKS.2.2.2.1 _ w1) (hts _ w4) hy ⟨(by show lev + 1 ≤ R.frames; omega), (by show 8 + (maxL + 11) + 64 * lev ≤ R.locals; omega)⟩, hy1, hts _ w2⟩ ⟨Pj_blind, fun U hU hW => jd_pre hbs hKS hS hP hD hU hW⟩
    rfl hn hl.2.1 (stk_J ad vs (.inl (.ref h) :: rest)) (lv_room (by rw [cats_eq]; exact hcat)) hd ⟨by omega, by omega⟩
  exact jd_row hrun hS (fun v w hv H1 locs1 g1 g2 g3 => by rw [← opt_map ad]; exact kk v w hv H1 locs1 _ _ sl (PWj g1 g2) g3 hl (by omega) (by omega))
theorem jd_obj (hF : FX (xw x ws)) (hd : decode (cxC (xw x ws)) pc = .ok (.invokespecial idx, 3)) (w1 : Cond.methodLink (cxO x) idx objectInit ∈ lw_all) (w2 : Cond.instanceMethod objectInit ∈ lw_all) (w5 : Cond.code objectInit ⟨#[0xb1]⟩ 1 none ∈ lw_all) (hlv : 1 ≤ cxV x)
    (hcat : ai_cats rest ≤ 8) (kk : WJ x ws (pc + 3) ls rest u) : WJ x ws pc ls (.inl (.ref h) :: rest) u := by
  obtain ⟨⟨p, l, e, R, s, m, args, below, meth, c, Q⟩, ⟨D, cs, b, ad, adV, sc, L, XT⟩, cc, nL, own, c0, s0, seg, lv⟩ := x
  obtain ⟨hx, hb, hml, hown, hts, hKS, hbs, hL, hlocks, hR1, hR2, hR3, hR4⟩ := hF
  intro H locs cells slots sl hP0 hS hl h1 h2
  have hlv : 1 ≤ lv := hlv
  refine W.objInit hx hb hown (hts _ w1) (hts _ w2) (hts _ w5) rfl (by rw [hml]; exact hl.2.1) rfl hd (by show 1 ≤ R.frames; omega) ?_ (kk H locs cells slots sl hP0 hS hl h1 h2)
  have e1 : ((rest.map (rv ad)).map fun v => v.category).sum = ai_cats rest := cats_eq ad rest
  show 2 * (F0 m pc sl _).monitorRoom + ((rest.map (rv ad)).map fun v => v.category).sum + 12 ≤ R.locals
  rw [e1]
  have e2 : (F0 m pc sl ((.inl (.ref h) : AV) :: rest |>.map (rv ad))).monitorRoom = 0 := rfl
  show 2 * 0 + _ + 12 ≤ _
  omega
end JCall
/-- the ends -/
def RJ (ret : Option FieldType) (i : Instr) (v : Option Value) : Prop := match i with
  | .ireturn => ∃ (k : Int32) (ty : FieldType), v = some (.int k) ∧ ret = some ty ∧ narrow ty (.int k) = .int k
  | .areturn => (v = some .null ∨ ∃ q, v = some (.ref q)) ∧ ((∃ n, ret = some (.object n)) ∨ ∃ t, ret = some (.array t))
  | .return_ => v = none ∧ ret = none
  | _ => False
/-- as Met.ofW; the class may be one of which other methods have a native row -/
theorem Met_ofWF {l : Launch} {y : MethodName} {ws ws' : List Cond} {rm : Room} {Pc : Array Value → State → Prop} {Qc : Array Value → State → Outcome → State → Prop} {mc ms : Nat} {free : Addr → Prop} {cc : ByteArray} {maxL : Nat} {ret : Option FieldType}
    (hy : plainFor y = true) (hw : ws = Cond.code y cc maxL ret :: ws')
    (body : ∀ p e s m args below meth c s₁, BodyLoose p l y (headSpec ws rm) cc maxL ret e s m args below meth c s₁ → c.maxLocals = maxL → Pc args s →
      W p l e (headSpec ws rm).room s m args below meth c s.heap [] 0 0 (MQ below Qc args s mc ms free) (entryFrame m args maxL)) : Met l y ws rm Pc Qc mc ms free := by
  refine MetFree.of_bodySF (code := cc) (maxLocals := maxL) (ret := ret) hy ?_ ?_
  · intro args s m h hn
    obtain ⟨meth, c, h1, h2, h3, h4, h5, h6, -, -⟩ := Cond.code_spec hn (atoms_spec (ws := ws) h _ (by rw [hw]; exact List.mem_cons_self))
    exact ⟨meth, c, h1, h2, h3, h4, h5, h6⟩
  · intro p e s m args below meth c s₁ B hml hP _
    have hh0 : s₁.heap = s.heap := by rw [B.state]; rfl
    obtain ⟨t, a1, o, b1, b2, b3⟩ := body p e s m args below meth c s₁ B hml hP s₁ hh0 (Stand.of_body B)
    exact ⟨t, o, a1, b1, b2, ⟨b3.1, b3.2⟩⟩
theorem jc_of {K : KT} {l : Launch} {y : MethodName} {bytes : ByteArray} {maxL : Nat} {ret : Option FieldType} {lev cost : Nat} {vs : List Value} {ws : va_W} {post : Option Value → va_W → Prop} (hy : plainFor y = true) (hcat : ∀ v ∈ vs, v.category = 1) (hlen : vs.length ≤ maxL)
    (h : ∀ x : CX, (∀ ws, FX (xw x ws)) → cxC x = bytes → cxO x = y.cls → cxG x = cost → cxV x = lev → cxK x = K → cxH x = l → (y.name = "<init>" → cxI x) →
      (∀ (ws : va_W) (pc u : Nat) (i : Instr) (ls : Ls) (v : Option Value), decode bytes pc = .ok (i, 1) → RJ ret i v → post v ws → u ≤ cost → WJ x ws pc ls (v.map Sum.inl).toList u) →
      WJ x ws 0 ((vs.map Sum.inl).map some ++ List.replicate (maxL - vs.length) none) [] 0) : JC K l y bytes maxL ret lev cost vs ws post := by
  obtain ⟨D, cs, b, ad, adV, sc⟩ := K
  refine Met_ofWF (cc := bytes) (maxL := maxL) (ret := ret) hy rfl ?_
  intro p e s m args below meth c s₁ B hml hv
  obtain ⟨rfl, ⟨hP, hD⟩, hKS, hbs⟩ := hv
  have hts : ∀ w ∈ lw_all, w.before vs.toArray s = true := fun w hw => atoms_spec (ws := .code y bytes maxL ret :: lw_all) B.pre w (List.mem_cons_of_mem _ hw)
  have hown : s.vm.findClass y.cls = some m.cls := findClass_of_methodNamed B.named
  rw [lg_entry_eq]
  have hLV : LV ad ((lg_sl vs ++ List.replicate (maxL - (lg_sl vs).length) Slot.unset).toArray) maxL ((vs.map Sum.inl).map some ++ List.replicate (maxL - vs.length) none) := by
    have h0 := LV_entry (ad := ad) (as := vs.map Sum.inl) (n := maxL) (fun v hv => by
      obtain ⟨w, hw, rfl⟩ := List.mem_map.mp hv
      exact hcat w hw) (by rw [List.length_map]; exact hlen)
    rw [vals_map, List.length_map] at h0
    exact h0
  have hfin := h ((p, l, e, roomL lev cost, s, m, vs.toArray, below, meth, c, MQ below (Qj (D, cs, b, ad, adV, sc) post) vs.toArray s cost (100 * cost) (Ab b)), (D, cs, b, ad, adV, sc, [], fun _ _ => True), bytes, maxL, y.cls, 0, 0, cost, lev)
    (fun ws => ⟨B.exec, B.bytes, hml, hown, hts, hKS, hbs, ⟨List.nodup_nil, (fun r hr => by cases hr), (fun hr => by cases hr), (fun q hq => by cases hq)⟩, B.notSynchronized, by show 0 + cost ≤ cost; omega, by show 0 + 100 * cost ≤ 100 * cost; omega, Nat.le_refl _, Nat.le_refl _⟩) rfl rfl rfl rfl rfl rfl
    (fun hn => (name_of_methodNamed B.named B.method).1.trans hn)
    (fun ws pc u i ls v hd hrk hpo hu => by
      intro H locs cells slots sl hP0 hS hl k1 k2
      obtain ⟨hP, hD⟩ := PWj' hP0
      refine W.widen (k := cost) (n := 100 * cost) (by omega) (by omega) ?_
      have hq : ∀ t : State, t.heap = H → s.WarmedH t.vm → Qj (D, cs, b, ad, adV, sc) post vs.toArray s (.returned v) t := fun t ht hW => ⟨⟨v, ws, hpo, rfl, by rw [ht]; exact hP, hD⟩, hS.F ht⟩
      cases i with
      | ireturn =>
        obtain ⟨k, ty, rfl, hr, hn⟩ := hrk
        exact W.zret B.exec B.bytes (B.returns.trans hr) hn hq hS.2.2 hd B.notSynchronized
      | areturn =>
        obtain ⟨hv, hr⟩ := hrk
        have hrt : ∃ rt, ret = some rt ∧ ((∃ n, rt = .object n) ∨ ∃ t, rt = .array t) := by
          rcases hr with ⟨n, h⟩ | ⟨t, h⟩
          · exact ⟨_, h, Or.inl ⟨n, rfl⟩⟩
          · exact ⟨_, h, Or.inr ⟨t, rfl⟩⟩
        obtain ⟨rt, hr1, hr2⟩ := hrt
        rcases hv with rfl | ⟨q, rfl⟩
        · exact W.aret (v := .null) B.exec B.bytes (B.returns.trans hr1) hr2 (Or.inl rfl) hq hS.2.2 hd B.notSynchronized
        · exact W.aret (v := .ref q) B.exec B.bytes (B.returns.trans hr1) hr2 (Or.inr ⟨_, rfl⟩) hq hS.2.2 hd B.notSynchronized
      | return_ =>
        obtain ⟨rfl, hr⟩ := hrk
        exact W.vret B.exec B.bytes (B.returns.trans hr) hq hS.2.2 hd B.notSynchronized
      | _ => exact hrk.elim)
  exact hfin s.heap [] 0 0 _ (PWj hP hD) va_S.rf hLV (Nat.zero_le _) (Nat.zero_le _)
theorem jd_w {x : CX} {ws ws' : va_W} {pc : Nat} {ls : Ls} {st : List AV} {u : Nat} (hp : ∀ D H, va_P D cls_ ws H → va_P D cls_ ws' H) (hd : ∀ A, va_D A ws → va_D A ws') (kk : WJ x ws' pc ls st u) : WJ x ws pc ls st u := by
  obtain ⟨⟨p, l, e, R, s, m, args, below, meth, c, Q⟩, ⟨D, cs, b, ad, adV, sc, L, XT⟩, cc, nL, own, c0, s0, seg, lv⟩ := x
  intro H locs cells slots sl hP0 hS hl h1 h2
  obtain ⟨hP, hD⟩ := PWj' hP0
  exact kk H locs cells slots sl (PWj (hp _ _ hP) (hd _ hD)) hS hl h1 h2
theorem jd_e {x : CX} {ws ws' : va_W} {pc : Nat} {ls : Ls} {st : List AV} {u : Nat} (h : ws = ws') (kk : WJ x ws' pc ls st u) : WJ x ws pc ls st u := h ▸ kk
theorem jd_ls {x : CX} {pc : Nat} {ls ls' : Ls} {st : List AV} {G : GS} {u : Nat} (h : ls = ls') (kk : WG x pc ls' st G u) : WG x pc ls st G u := h ▸ kk
theorem va_P.pre {D : va_G} {cl : List vw_C} {a b : va_W} {H : Heap} (h : va_P D cl (a ++ b) H) : va_P D cl a H := h.by id (fun k q hk => by rw [id, List.getElem?_append_left (List.getElem?_eq_some_iff.mp hk).1]; exact hk)
theorem va_D.pre {A : Nat → Prop} {a b : va_W} (h : va_D A (a ++ b)) : va_D A a := h.by id (fun k q hk => by rw [id, List.getElem?_append_left (List.getElem?_eq_some_iff.mp hk).1]; exact hk) (fun i j _ _ e => e)
section JM
variable {x : CX} {pc idx : Nat} {ls : Ls} {st : List AV} {G : GS} {u : Nat}
theorem jd_mmin {a b : Int32} (hF : FX x) (hd : decode (cxC x) pc = .ok (.invokestatic idx, 3)) (w1 : Cond.methodLink (cxO x) idx Lib.Math.min.name ∈ lw_all) (w2 : Cond.static Lib.Math.min.name ∈ lw_all) (w3 : Cond.initialized "java/lang/Math" ∈ lw_all) (w4 : Cond.code Lib.Math.min.name Lib.Math.min.code 2 (some .int) ∈ lw_all)
    (hlv : 1 ≤ cxV x) (hcat : ai_cats st ≤ 8) (hu : u ≤ cxG x) (hk : WG x (pc + 3) ls (.inl (.int (if b < a then b else a)) :: st) G u) : WG x pc ls (.inl (.int b) :: .inl (.int a) :: st) G u := by
  obtain ⟨⟨p, l, e, R, s, m, args, below, meth, c, Q⟩, ⟨D, cs, b, ad, adV, sc, L, XT⟩, cc, nL, own, c0, s0, seg, lv⟩ := x
  obtain ⟨hx, hb, hml, hown, hts, hKS, hbs, hL, hlocks, hR1, hR2, hR3, hR4⟩ := hF
  intro H locs cells slots sl hP hS hl h1 h2
  have hlv : 1 ≤ lv := hlv
  have hu : u ≤ seg := hu
  refine va_mmin hx hb (by rw [hml]; exact hl.2.1.symm) hown (hts _ w1) (hts _ w2) (hts _ w3) (hts _ w4) (by omega) ?_ (by omega) (by omega) hd (hk H locs cells slots sl hP hS hl h1 h2)
  have e1 : ((st.map (rv ad)).map fun v => v.category).sum = ai_cats st := cats_eq ad st
  omega
theorem jd_mmax {a b : Int32} (hF : FX x) (hd : decode (cxC x) pc = .ok (.invokestatic idx, 3)) (w1 : Cond.methodLink (cxO x) idx Lib.Math.max.name ∈ lw_all) (w2 : Cond.static Lib.Math.max.name ∈ lw_all) (w3 : Cond.initialized "java/lang/Math" ∈ lw_all) (w4 : Cond.code Lib.Math.max.name Lib.Math.max.code 2 (some .int) ∈ lw_all)
    (hlv : 1 ≤ cxV x) (hcat : ai_cats st ≤ 8) (hu : u ≤ cxG x) (hk : WG x (pc + 3) ls (.inl (.int (if a < b then b else a)) :: st) G u) : WG x pc ls (.inl (.int b) :: .inl (.int a) :: st) G u := by
  obtain ⟨⟨p, l, e, R, s, m, args, below, meth, c, Q⟩, ⟨D, cs, b, ad, adV, sc, L, XT⟩, cc, nL, own, c0, s0, seg, lv⟩ := x
  obtain ⟨hx, hb, hml, hown, hts, hKS, hbs, hL, hlocks, hR1, hR2, hR3, hR4⟩ := hF
  intro H locs cells slots sl hP hS hl h1 h2
  have hlv : 1 ≤ lv := hlv
  have hu : u ≤ seg := hu
  refine va_mmax hx hb (by rw [hml]; exact hl.2.1.symm) hown (hts _ w1) (hts _ w2) (hts _ w3) (hts _ w4) (by omega) ?_ (by omega) (by omega) hd (hk H locs cells slots sl hP hS hl h1 h2)
  have e1 : ((st.map (rv ad)).map fun v => v.category).sum = ai_cats st := cats_eq ad st
  omega
theorem jd_mabs {a : Int32} (hF : FX x) (hd : decode (cxC x) pc = .ok (.invokestatic idx, 3)) (w1 : Cond.methodLink (cxO x) idx Lib.Math.abs.name ∈ lw_all) (w2 : Cond.static Lib.Math.abs.name ∈ lw_all) (w3 : Cond.initialized "java/lang/Math" ∈ lw_all) (w4 : Cond.code Lib.Math.abs.name Lib.Math.abs.code 1 (some .int) ∈ lw_all)
    (hlv : 1 ≤ cxV x) (hcat : ai_cats st ≤ 8) (hu : u ≤ cxG x) (hk : WG x (pc + 3) ls (.inl (.int (if 0 ≤ a then a else 0 - a)) :: st) G u) : WG x pc ls (.inl (.int a) :: st) G u := by
  obtain ⟨⟨p, l, e, R, s, m, args, below, meth, c, Q⟩, ⟨D, cs, b, ad, adV, sc, L, XT⟩, cc, nL, own, c0, s0, seg, lv⟩ := x
  obtain ⟨hx, hb, hml, hown, hts, hKS, hbs, hL, hlocks, hR1, hR2, hR3, hR4⟩ := hF
  intro H locs cells slots sl hP hS hl h1 h2
  have hlv : 1 ≤ lv := hlv
  have hu : u ≤ seg := hu
  refine va_mabs hx hb (by rw [hml]; exact hl.2.1.symm) hown (hts _ w1) (hts _ w2) (hts _ w3) (hts _ w4) (by omega) ?_ (by omega) (by omega) hd (hk H locs cells slots sl hP hS hl h1 h2)
  have e1 : ((st.map (rv ad)).map fun v => v.category).sum = ai_cats st := cats_eq ad st
  omega
end JM
/-- a copy of bytes -/
theorem jd_copyB {x : CX} {ws : va_W} {pc idx : Nat} {ls : Ls} {st : List AV} {u : Nat} {k0 k1 h0 h1 n0 n1 : Nat} {f g : Nat → Int32} {sp dp n : Int32} (hF : FX (xw x ws)) (hd : decode (cxC (xw x ws)) pc = .ok (.invokestatic idx, 3)) (w1 : Cond.methodLink (cxO x) idx arraycopyName ∈ lw_all) (w2 : Cond.native arraycopyName ∈ lw_all) (w3 : Cond.static arraycopyName ∈ lw_all) (w4 : Cond.initialized "java/lang/System" ∈ lw_all)
    (hk0 : ws[k0]? = some (h0, .inl ((cxK x).2.1 5, n0, .inl f))) (hk1 : ws[k1]? = some (h1, .inl ((cxK x).2.1 5, n1, .inl g))) (hs : ¬ sp < 0) (hq : ¬ dp < 0) (hn : ¬ n < 0) (h4 : sp.toNatClampNeg + n.toNatClampNeg ≤ n0) (h5 : dp.toNatClampNeg + n.toNatClampNeg ≤ n1) (hfit : sb_Fit f)
    (hlv : 1 ≤ cxV x) (hcat : ai_cats st ≤ 8) (kk : WJ x (ws.set k1 (h1, .inl ((cxK x).2.1 5, n1, .inl (va_cpy f g sp.toNatClampNeg dp.toNatClampNeg n.toNatClampNeg)))) (pc + 3) ls st u) : WJ x ws pc ls (.inl (.int n) :: .inl (.int dp) :: .inl (.ref h1) :: .inl (.int sp) :: .inl (.ref h0) :: st) u := by
  obtain ⟨⟨p, l, e, R, s, m, args, below, meth, c, Q⟩, ⟨D, cs, b, ad, adV, sc, L, XT⟩, cc, nL, own, c0, s0, seg, lv⟩ := x
  obtain ⟨hx, hb, hml, hown, hts, hKS, hbs, hL, hlocks, hR1, hR2, hR3, hR4⟩ := hF
  intro H locs cells slots sl hP0 hS hl k1' k2'
  obtain ⟨hP, hD⟩ := PWj' hP0
  have hlv : 1 ≤ lv := hlv
  refine va_copyi (D := D) hx hb (by rw [hml]; exact hl.2.1.symm) hown (hts _ w1) (hts _ w2) (hts _ w3) (hts _ w4) hKS.1 hP hD hS k0 k1 5 5 hk0 hk1 rfl rfl (by decide) hs hq hn h4 h5 (fun i _ => hfit _) (by omega) ?_ hd (fun H1 locs1 g1 g2 g3 => kk H1 locs1 cells slots sl (PWj g1 g2) g3 hl k1' k2')
  have e1 : ((st.map (rv ad)).map fun v => v.category).sum = ai_cats st := cats_eq ad st
  rw [e1]
  have e2 : nativeFrameWords "java/lang/System" "arraycopy" 5 + 11 ≤ 40 := by decide +kernel
  omega
/-- string constants -/
theorem jd_scoder {x : CX} {pc idx k : Nat} {ls : Ls} {st : List AV} {G : GS} {u : Nat} {K : KT} (hK : cxK x = K) (hF : FX x) (hd : decode (cxC x) pc = .ok (.getfield idx, 3)) (hk : k < 7) (w : Cond.fieldLink (cxO x) idx "java/lang/String" "coder" "B" ∈ lw_all) (kk : WG x (pc + 3) ls (.inl (.int 0) :: st) G u) : WG x pc ls (.inl (.ref (K.2.2.2.1 (k, 200))) :: st) G u := by
  subst hK
  obtain ⟨⟨p, l, e, R, s, m, args, below, meth, c, Q⟩, ⟨D, cs, b, ad, adV, sc, L, XT⟩, cc, nL, own, c0, s0, seg, lv⟩ := x
  obtain ⟨hx, hb, hml, hown, hts, hKS, hbs, hL, hlocks, hR1, hR2, hR3, hR4⟩ := hF
  intro H locs cells slots sl hP0 hS hl h1 h2
  exact vk_getf hx hb (hKS.2.2.2.2.2.1.1.1 k hk).2.1 hS hown (hts _ w) (fun _ h9 => h9) hd (kk H locs cells slots sl hP0 hS hl h1 h2)
theorem jd_svalue {x : CX} {pc idx k : Nat} {ls : Ls} {st : List AV} {G : GS} {u : Nat} {K : KT} (hK : cxK x = K) (hF : FX x) (hd : decode (cxC x) pc = .ok (.getfield idx, 3)) (hk : k < 7) (w : Cond.fieldLink (cxO x) idx "java/lang/String" "value" "[B" ∈ lw_all) (kk : WG x (pc + 3) ls (.inl (.ref (K.2.2.2.2.1 k)) :: st) G u) : WG x pc ls (.inl (.ref (K.2.2.2.1 (k, 200))) :: st) G u := by
  subst hK
  obtain ⟨⟨p, l, e, R, s, m, args, below, meth, c, Q⟩, ⟨D, cs, b, ad, adV, sc, L, XT⟩, cc, nL, own, c0, s0, seg, lv⟩ := x
  obtain ⟨hx, hb, hml, hown, hts, hKS, hbs, hL, hlocks, hR1, hR2, hR3, hR4⟩ := hF
  intro H locs cells slots sl hP0 hS hl h1 h2
  exact vk_getf hx hb (hKS.2.2.2.2.2.1.1.1 k hk).2.2.1 hS hown (hts _ w) (fun _ h9 => h9) hd (kk H locs cells slots sl hP0 hS hl h1 h2)
theorem jd_slen {x : CX} {pc k : Nat} {ls : Ls} {st : List AV} {G : GS} {u : Nat} {K : KT} (hK : cxK x = K) (hF : FX x) (hd : decode (cxC x) pc = .ok (.arraylength, 1)) (hk : k < 7) (kk : WG x (pc + 1) ls (.inl (.int (Int32.ofNat ((jS.map List.length).getD k 0))) :: st) G u) : WG x pc ls (.inl (.ref (K.2.2.2.2.1 k)) :: st) G u := by
  subst hK
  obtain ⟨⟨p, l, e, R, s, m, args, below, meth, c, Q⟩, ⟨D, cs, b, ad, adV, sc, L, XT⟩, cc, nL, own, c0, s0, seg, lv⟩ := x
  obtain ⟨hx, hb, hml, hown, hts, hKS, hbs, hL, hlocks, hR1, hR2, hR3, hR4⟩ := hF
  intro H locs cells slots sl hP0 hS hl h1 h2
  exact va_tlen hx hb (hKS.2.2.2.2.2.1.1.1 k hk).2.2.2 hS rfl hd (kk H locs cells slots sl hP0 hS hl h1 h2)
theorem jd_sbyte {x : CX} {pc k : Nat} {ls : Ls} {st : List AV} {G : GS} {u : Nat} {K : KT} {i : Int32} (hK : cxK x = K) (hF : FX x) (hd : decode (cxC x) pc = .ok (.baload, 1)) (hk : k < 7) (hin : inb i ((jS.map List.length).getD k 0) = true) (kk : WG x (pc + 1) ls (.inl (.int ((jS.getD k []).getD i.toNatClampNeg 0)) :: st) G u) : WG x pc ls (.inl (.int i) :: .inl (.ref (K.2.2.2.2.1 k)) :: st) G u := by
  subst hK
  obtain ⟨⟨p, l, e, R, s, m, args, below, meth, c, Q⟩, ⟨D, cs, b, ad, adV, sc, L, XT⟩, cc, nL, own, c0, s0, seg, lv⟩ := x
  obtain ⟨hx, hb, hml, hown, hts, hKS, hbs, hL, hlocks, hR1, hR2, hR3, hR4⟩ := hF
  intro H locs cells slots sl hP0 hS hl h1 h2
  exact va_tb hx hb (hKS.2.2.2.2.2.1.1.1 k hk).2.2.2 hS (inb_in hin) rfl hd (kk H locs cells slots sl hP0 hS hl h1 h2)
theorem xwO {x : CX} {ws : va_W} : cxO (xw x ws) = cxO x := rfl
theorem xwV {x : CX} {ws : va_W} : cxV (xw x ws) = cxV x := rfl
theorem xwG {x : CX} {ws : va_W} : cxG (xw x ws) = cxG x := rfl
theorem xwK {x : CX} {ws : va_W} : cxK (xw x ws) = cxK x := rfl
theorem xwH {x : CX} {ws : va_W} : cxH (xw x ws) = cxH x := rfl
/-- a call on a string constant -/
theorem jd_callK {x : CX} {ws : va_W} {pc : Nat} {ls : Ls} {st rest : List AV} {u idx n lev cost maxL k : Nat} {y : MethodName} {bytes : ByteArray} {ret : Option FieldType} {vs : List Value} {post : Option Value → va_W → Prop} {D : va_G} {cs : Nat → ClassId} {b : Nat} {ad : Rf → Nat} {adV : Nat → Nat} {sc : Nat × (Nat → Int32)} (hK : cxK x = (D, cs, b, ad, adV, sc)) (hk : k < 7)
    (hF : FX (xw x ws)) (hd : decode (cxC (xw x ws)) pc = .ok (.invokevirtual idx, 3)) (hC : JC (cxK x) (cxH x) y bytes maxL ret lev cost (.ref (ad (k, 200)) :: vs) ws post)
    (w1 : Cond.methodLink (cxO x) idx y ∈ lw_all) (w2 : Cond.instanceMethod y ∈ lw_all) (w3 : Cond.selects "java/lang/String" y y ∈ lw_all) (w4 : Cond.initialized "java/lang/String" ∈ lw_all) (w5 : Cond.code y bytes maxL ret ∈ lw_all)
    (hy : y.cls = "java/lang/String" ∧ (parseMethodDescriptor y.desc).map (fun d => d.parameters.length) = some n) (hn : vs.length = n) (hm : maxL ≤ 40) (hlv : lev + 1 ≤ cxV x)
    (hst : st = (vs.map Sum.inl).reverse ++ .inl (.ref (ad (k, 200))) :: rest) (hcat : ai_cats rest ≤ 8) (hu : u + cost ≤ cxG x) (kk : ∀ v w, post v w → WJ x w (pc + 3) ls ((v.map Sum.inl).toList ++ rest) (u + cost)) : WJ x ws pc ls st u := by
  obtain ⟨⟨p, l, e, R, s, m, args, below, meth, c, Q⟩, ⟨D, cs, b, ad, adV, sc, L, XT⟩, cc, nL, own, c0, s0, seg, lv⟩ := x
  cases hK
  obtain ⟨hx, hb, hml, hown, hts, hKS, hbs, hL, hlocks, hR1, hR2, hR3, hR4⟩ := hF
  intro H locs cells slots sl hP0 hS hl h1 h2
  obtain ⟨hP, hD⟩ := PWj' hP0
  have hu : u + cost ≤ seg := hu
  have hlv : lev + 1 ≤ lv := hlv
  have hg : GoodIn lw_all (wsV own idx "java/lang/String" y (.code y bytes maxL ret :: lw_all)) := goodIn_all (in_cons w1 (in_cons w2 (in_cons w3 (in_cons w4 (in_cons w5 in_self)))))
  subst hst
  have hrun := va_runV (cells := cells) (slots := slots) (locs := locs) (meth := meth) (As := vs) (rest := rest.map (rv ad)) (b := ad (k, 200)) (C := "java/lang/String") (g := F0 m pc sl (((vs.map Sum.inl).reverse ++ (.inl (.ref (ad (k, 200))) : AV) :: rest).map (rv ad))) (p := p) (e := e) (below := below) (R := R) ⟨hx, hb, hml, hown, hts⟩ hC
    (cwV n hts hg rfl rfl rfl ⟨hy.1, by rw [hy.1]; decide, by rw [hy.1]; decide, hy.2⟩ ⟨(by show lev + 1 ≤ R.frames; omega), (by show 8 + (maxL + 11) + 64 * lev ≤ R.locals; omega)⟩) ⟨Pj_blind, vk_recv (i := k) hKS.2.2.2.2.2.1.1 hk hS, fun U hU hW => jd_pre hbs hKS hS hP hD hU hW⟩
    rfl hn hl.2.1 (stk_J ad vs (.inl (.ref (ad (k, 200))) :: rest)) (lv_room (by rw [cats_eq]; exact hcat)) hd ⟨by omega, by omega⟩
  exact jd_row hrun hS (fun v w hv H1 locs1 g1 g2 g3 => by rw [← opt_map ad]; exact kk v w hv H1 locs1 _ _ sl (PWj g1 g2) g3 hl (by omega) (by omega))
/-- a private method of a class above -/
theorem sel_priv {C : String} {y z : MethodName} {s : State} {args : Array Value} (hy : y.cls ≠ "java/lang/invoke/MethodHandle" ∧ y.cls ≠ "java/lang/invoke/VarHandle") (hz : z.cls = y.cls) (hs : (Cond.selects C z z).before args s = true) (hpriv : (Cond.privateMethod y).before args s = true) (hinst : (Cond.instanceMethod y).before args s = true) : (Cond.selects C y y).before args s = true := by
  obtain ⟨c, r, m, hc, -, hm, -, kz, hkz, hni⟩ := Cond.selects_spec hs
  obtain ⟨mk, methM, hnamed, hmethM, -, -⟩ := Cond.instanceMethod_spec hinst
  have hfound : s.methodFound? y.cls y.name y.desc = some mk := State.methodFound?_of_named hnamed hy
  have hcls : mk.cls = m.cls := Option.some.inj ((findClass_of_methodNamed hnamed).symm.trans (hz ▸ findClass_of_methodNamed hm))
  have hsel : selectMethod {} s.vm c mk = .method mk := selectMethod_private hmethM (Cond.privateMethod_at hpriv mk methM hnamed hmethM)
  simp only [Cond.before, Cond.holds, Cond.value, hc, hfound, hnamed, hsel, hcls, hkz]
  simp; exact hni
end
section
/-! The JDK's members (printed by gen/jdkm.py) -/
def pD (v : Option Value) (w : va_W) : Option Value → va_W → Prop := fun v' w' => v = v' ∧ w = w'
theorem in_nat {i : Int32} {n : Nat} (h : inb i n = true) : ¬ i < 0 ∧ i.toNatClampNeg < n := by
  have h1 := inb_in h
  exact ⟨fun z => h1 (Or.inl z), Nat.not_le.mp (fun z => h1 (Or.inr z))⟩
theorem in_lt {i : Int32} {n : Nat} (h : inb i n = true) (hn : n < 2 ^ 31) : i < nI n := by
  obtain ⟨h1, h2⟩ := in_nat h
  obtain ⟨j, hj, rfl⟩ := nI_of h1
  rw [nI_clamp hj] at h2
  exact nI_lt h2 hn
theorem in_of {i n : Nat} (h : i < n) (hn : n < 2 ^ 31) : inb (nI i) n = true := by
  unfold inb
  rw [decide_eq_false (nI_pos (by omega)), nI_clamp (by omega)]
  simp only [Bool.not_false, Bool.true_and]
  exact Nat.ble_eq_true_of_le h
theorem we_854 : (Cond.fieldLink RJ0 1053 "jdk/internal/util/Preconditions" "SIOOBE_FORMATTER" "Ljava/util/function/BiFunction;") ∈ lw_all := all_at 854 (by decide +kernel) rfl
theorem we_1089 : (Cond.methodLink RJ0 1059 yJ3_checkIndex_8e157) ∈ lw_all := all_at 1089 (by decide +kernel) rfl
theorem we_1090 : (Cond.static yJ3_checkIndex_8e157) ∈ lw_all := all_at 1090 (by decide +kernel) rfl
theorem we_113 : (Cond.initialized RJ3) ∈ lw_all := all_at 113 (by decide +kernel) rfl
theorem we_1091 : (Cond.code yJ3_checkIndex_8e157 cJ3_checkIndex_8e157 3 (some .int)) ∈ lw_all := all_at 1091 (by decide +kernel) rfl
theorem we_876 : (Cond.fieldLink RJ0 38 "java/lang/String" "COMPACT_STRINGS" "Z") ∈ lw_all := all_at 876 (by decide +kernel) rfl
theorem we_1005 : (Cond.fieldLink RJ0 15 "java/lang/String" "coder" "B") ∈ lw_all := all_at 1005 (by decide +kernel) rfl
theorem we_1004 : (Cond.fieldLink RJ0 9 "java/lang/String" "value" "[B") ∈ lw_all := all_at 1004 (by decide +kernel) rfl
theorem we_872 : (Cond.methodLink RJ0 335 yJ0_coder_7d493) ∈ lw_all := all_at 872 (by decide +kernel) rfl
theorem we_873 : (Cond.instanceMethod yJ0_coder_7d493) ∈ lw_all := all_at 873 (by decide +kernel) rfl
theorem we_874 : (Cond.selects RJ0 yJ0_coder_7d493 yJ0_coder_7d493) ∈ lw_all := all_at 874 (by decide +kernel) rfl
theorem we_95 : (Cond.initialized RJ0) ∈ lw_all := all_at 95 (by decide +kernel) rfl
theorem we_875 : (Cond.code yJ0_coder_7d493 cJ0_coder_7d493 1 (some .byte)) ∈ lw_all := all_at 875 (by decide +kernel) rfl
theorem we_1449 : (Cond.methodLink RJ1 9 yJ0_checkIndex_df160) ∈ lw_all := all_at 1449 (by decide +kernel) rfl
theorem we_1087 : (Cond.static yJ0_checkIndex_df160) ∈ lw_all := all_at 1087 (by decide +kernel) rfl
theorem we_1088 : (Cond.code yJ0_checkIndex_df160 cJ0_checkIndex_df160 2 none) ∈ lw_all := all_at 1088 (by decide +kernel) rfl
theorem we_1442 : (Cond.methodLink RJ0 492 yJ0_isLatin1_aae02) ∈ lw_all := all_at 1442 (by decide +kernel) rfl
theorem we_1443 : (Cond.instanceMethod yJ0_isLatin1_aae02) ∈ lw_all := all_at 1443 (by decide +kernel) rfl
theorem we_1444 : (Cond.selects RJ0 yJ0_isLatin1_aae02 yJ0_isLatin1_aae02) ∈ lw_all := all_at 1444 (by decide +kernel) rfl
theorem we_1445 : (Cond.code yJ0_isLatin1_aae02 cJ0_isLatin1_aae02 1 (some .boolean)) ∈ lw_all := all_at 1445 (by decide +kernel) rfl
theorem we_1446 : (Cond.methodLink RJ0 495 yJ1_charAt_3b067) ∈ lw_all := all_at 1446 (by decide +kernel) rfl
theorem we_1447 : (Cond.static yJ1_charAt_3b067) ∈ lw_all := all_at 1447 (by decide +kernel) rfl
theorem we_114 : (Cond.initialized RJ1) ∈ lw_all := all_at 114 (by decide +kernel) rfl
theorem we_1448 : (Cond.code yJ1_charAt_3b067 cJ1_charAt_3b067 2 (some .char)) ∈ lw_all := all_at 1448 (by decide +kernel) rfl
theorem we_296 : (Cond.fieldLink RJ5 79 "java/lang/AbstractStringBuilder" "count" "I") ∈ lw_all := all_at 296 (by decide +kernel) rfl
theorem we_960 : (Cond.methodLink RJ4 343 yJ5_length_8abf5) ∈ lw_all := all_at 960 (by decide +kernel) rfl
theorem we_956 : (Cond.sameMethod RJ5 RJ5 "length" "()I") ∈ lw_all := all_at 956 (by decide +kernel) rfl
theorem we_305 : (Cond.superclass RJ4 RJ5) ∈ lw_all := all_at 305 (by decide +kernel) rfl
theorem we_955 : (Cond.instanceMethod yJ5_length_8abf5) ∈ lw_all := all_at 955 (by decide +kernel) rfl
theorem we_93 : (Cond.initialized RJ5) ∈ lw_all := all_at 93 (by decide +kernel) rfl
theorem we_961 : (Cond.code yJ5_length_8abf5 cJ5_length_8abf5 1 (some .int)) ∈ lw_all := all_at 961 (by decide +kernel) rfl
theorem we_293 : (Cond.fieldLink RJ5 22 "java/lang/AbstractStringBuilder" "coder" "B") ∈ lw_all := all_at 293 (by decide +kernel) rfl
theorem we_292 : (Cond.fieldLink RJ5 15 "java/lang/AbstractStringBuilder" "value" "[B") ∈ lw_all := all_at 292 (by decide +kernel) rfl
theorem we_1386 : (Cond.methodLink RJ5 138 Lib.Math.min.name) ∈ lw_all := all_at 1386 (by decide +kernel) rfl
theorem we_588 : (Cond.static Lib.Math.min.name) ∈ lw_all := all_at 588 (by decide +kernel) rfl
theorem we_103 : (Cond.initialized RJ9) ∈ lw_all := all_at 103 (by decide +kernel) rfl
theorem we_589 : (Cond.code Lib.Math.min.name Lib.Math.min.code 2 (some .int)) ∈ lw_all := all_at 589 (by decide +kernel) rfl
theorem we_1387 : (Cond.methodLink RJ5 144 yJ0_checkIndex_df160) ∈ lw_all := all_at 1387 (by decide +kernel) rfl
theorem we_1383 : (Cond.methodLink RJ4 329 yJ5_charAt_5068e) ∈ lw_all := all_at 1383 (by decide +kernel) rfl
theorem we_2053 : (Cond.sameMethod RJ5 RJ5 "charAt" "(I)C") ∈ lw_all := all_at 2053 (by decide +kernel) rfl
theorem we_1384 : (Cond.instanceMethod yJ5_charAt_5068e) ∈ lw_all := all_at 1384 (by decide +kernel) rfl
theorem we_1385 : (Cond.code yJ5_charAt_5068e cJ5_charAt_5068e 5 (some .char)) ∈ lw_all := all_at 1385 (by decide +kernel) rfl
theorem we_283 : (Cond.fieldLink RJ5 18 "java/lang/String" "COMPACT_STRINGS" "Z") ∈ lw_all := all_at 283 (by decide +kernel) rfl
theorem we_817 : (Cond.methodLink RJ8 194 Lib.Math.max.name) ∈ lw_all := all_at 817 (by decide +kernel) rfl
theorem we_818 : (Cond.static Lib.Math.max.name) ∈ lw_all := all_at 818 (by decide +kernel) rfl
theorem we_819 : (Cond.code Lib.Math.max.name Lib.Math.max.code 2 (some .int)) ∈ lw_all := all_at 819 (by decide +kernel) rfl
theorem we_820 : (Cond.constant RJ8 200 (2147483639)) ∈ lw_all := all_at 820 (by decide +kernel) rfl
theorem we_814 : (Cond.methodLink RJ5 114 yJ8_newLength_cabcc) ∈ lw_all := all_at 814 (by decide +kernel) rfl
theorem we_815 : (Cond.static yJ8_newLength_cabcc) ∈ lw_all := all_at 815 (by decide +kernel) rfl
theorem we_111 : (Cond.initialized RJ8) ∈ lw_all := all_at 111 (by decide +kernel) rfl
theorem we_816 : (Cond.code yJ8_newLength_cabcc cJ8_newLength_cabcc 4 (some .int)) ∈ lw_all := all_at 816 (by decide +kernel) rfl
theorem we_824 : (Cond.constant RJ5 39 (2147483647)) ∈ lw_all := all_at 824 (by decide +kernel) rfl
theorem we_306 : (Cond.arrayClass .byte) ∈ lw_all := all_at 306 (by decide +kernel) rfl
theorem we_835 : (Cond.methodLink RJ7 304 Lib.Math.min.name) ∈ lw_all := all_at 835 (by decide +kernel) rfl
theorem we_836 : (Cond.methodLink RJ7 150 arraycopyName) ∈ lw_all := all_at 836 (by decide +kernel) rfl
theorem we_571 : (Cond.native arraycopyName) ∈ lw_all := all_at 571 (by decide +kernel) rfl
theorem we_570 : (Cond.static arraycopyName) ∈ lw_all := all_at 570 (by decide +kernel) rfl
theorem we_108 : (Cond.initialized RJ10) ∈ lw_all := all_at 108 (by decide +kernel) rfl
theorem we_810 : (Cond.methodLink RJ5 104 yJ5_newCapacity_0f7a4) ∈ lw_all := all_at 810 (by decide +kernel) rfl
theorem we_2046 : (Cond.sameMethod RJ5 RJ5 "newCapacity" "(I)I") ∈ lw_all := all_at 2046 (by decide +kernel) rfl
theorem we_812 : (Cond.instanceMethod yJ5_newCapacity_0f7a4) ∈ lw_all := all_at 812 (by decide +kernel) rfl
theorem we_x1 : (Cond.selects RJ4 yJ5_newCapacity_0f7a4 yJ5_newCapacity_0f7a4) ∈ lw_all := all_x 1 (by decide +kernel) rfl
theorem we_813 : (Cond.code yJ5_newCapacity_0f7a4 cJ5_newCapacity_0f7a4 6 (some .int)) ∈ lw_all := all_at 813 (by decide +kernel) rfl
theorem we_825 : (Cond.methodLink RJ5 108 yJ7_copyOf_9075b) ∈ lw_all := all_at 825 (by decide +kernel) rfl
theorem we_826 : (Cond.static yJ7_copyOf_9075b) ∈ lw_all := all_at 826 (by decide +kernel) rfl
theorem we_112 : (Cond.initialized RJ7) ∈ lw_all := all_at 112 (by decide +kernel) rfl
theorem we_827 : (Cond.code yJ7_copyOf_9075b cJ7_copyOf_9075b 3 (some (.array .byte))) ∈ lw_all := all_at 827 (by decide +kernel) rfl
theorem we_806 : (Cond.methodLink RJ5 100 yJ5_ensureCapacityInternal_d00df) ∈ lw_all := all_at 806 (by decide +kernel) rfl
theorem we_2045 : (Cond.sameMethod RJ5 RJ5 "ensureCapacityInternal" "(I)V") ∈ lw_all := all_at 2045 (by decide +kernel) rfl
theorem we_808 : (Cond.instanceMethod yJ5_ensureCapacityInternal_d00df) ∈ lw_all := all_at 808 (by decide +kernel) rfl
theorem we_x0 : (Cond.selects RJ4 yJ5_ensureCapacityInternal_d00df yJ5_ensureCapacityInternal_d00df) ∈ lw_all := all_x 0 (by decide +kernel) rfl
theorem we_809 : (Cond.code yJ5_ensureCapacityInternal_d00df cJ5_ensureCapacityInternal_d00df 3 none) ∈ lw_all := all_at 809 (by decide +kernel) rfl
theorem we_837 : (Cond.methodLink RJ5 83 yJ5_isLatin1_aae02) ∈ lw_all := all_at 837 (by decide +kernel) rfl
theorem we_839 : (Cond.sameMethod RJ5 RJ5 "isLatin1" "()Z") ∈ lw_all := all_at 839 (by decide +kernel) rfl
theorem we_838 : (Cond.instanceMethod yJ5_isLatin1_aae02) ∈ lw_all := all_at 838 (by decide +kernel) rfl
theorem we_840 : (Cond.selects RJ4 yJ5_isLatin1_aae02 yJ5_isLatin1_aae02) ∈ lw_all := all_at 840 (by decide +kernel) rfl
theorem we_841 : (Cond.code yJ5_isLatin1_aae02 cJ5_isLatin1_aae02 1 (some .boolean)) ∈ lw_all := all_at 841 (by decide +kernel) rfl
theorem we_1077 : (Cond.methodLink RJ5 191 yJ1_canEncode_fc78d) ∈ lw_all := all_at 1077 (by decide +kernel) rfl
theorem we_1078 : (Cond.static yJ1_canEncode_fc78d) ∈ lw_all := all_at 1078 (by decide +kernel) rfl
theorem we_1079 : (Cond.code yJ1_canEncode_fc78d cJ1_canEncode_fc78d 1 (some .boolean)) ∈ lw_all := all_at 1079 (by decide +kernel) rfl
theorem we_1074 : (Cond.methodLink RJ4 50 yJ5_append_3fe6f) ∈ lw_all := all_at 1074 (by decide +kernel) rfl
theorem we_2052 : (Cond.sameMethod RJ5 RJ5 "append" "(C)Ljava/lang/AbstractStringBuilder;") ∈ lw_all := all_at 2052 (by decide +kernel) rfl
theorem we_1075 : (Cond.instanceMethod yJ5_append_3fe6f) ∈ lw_all := all_at 1075 (by decide +kernel) rfl
theorem we_1076 : (Cond.code yJ5_append_3fe6f cJ5_append_3fe6f 2 (some (.object "java/lang/AbstractStringBuilder"))) ∈ lw_all := all_at 1076 (by decide +kernel) rfl
theorem we_294 : (Cond.fieldLink RJ5 73 "java/lang/AbstractStringBuilder" "maybeLatin1" "Z") ∈ lw_all := all_at 294 (by decide +kernel) rfl
theorem we_784 : (Cond.methodLink RJ4 333 yJ5_setLength_d00df) ∈ lw_all := all_at 784 (by decide +kernel) rfl
theorem we_2042 : (Cond.sameMethod RJ5 RJ5 "setLength" "(I)V") ∈ lw_all := all_at 2042 (by decide +kernel) rfl
theorem we_785 : (Cond.instanceMethod yJ5_setLength_d00df) ∈ lw_all := all_at 785 (by decide +kernel) rfl
theorem we_786 : (Cond.code yJ5_setLength_d00df cJ5_setLength_d00df 2 none) ∈ lw_all := all_at 786 (by decide +kernel) rfl
theorem we_924 : (Cond.fieldLink RJ6 83 "java/lang/Integer" "DigitOnes" "[B") ∈ lw_all := all_at 924 (by decide +kernel) rfl
theorem we_926 : (Cond.fieldLink RJ6 87 "java/lang/Integer" "DigitTens" "[B") ∈ lw_all := all_at 926 (by decide +kernel) rfl
theorem we_918 : (Cond.methodLink RJ5 245 yJ6_stringSize_0f7a4) ∈ lw_all := all_at 918 (by decide +kernel) rfl
theorem we_919 : (Cond.static yJ6_stringSize_0f7a4) ∈ lw_all := all_at 919 (by decide +kernel) rfl
theorem we_116 : (Cond.initialized RJ6) ∈ lw_all := all_at 116 (by decide +kernel) rfl
theorem we_920 : (Cond.code yJ6_stringSize_0f7a4 cJ6_stringSize_0f7a4 4 (some .int)) ∈ lw_all := all_at 920 (by decide +kernel) rfl
theorem we_921 : (Cond.methodLink RJ5 248 yJ6_getChars_ba4f3) ∈ lw_all := all_at 921 (by decide +kernel) rfl
theorem we_922 : (Cond.static yJ6_getChars_ba4f3) ∈ lw_all := all_at 922 (by decide +kernel) rfl
theorem we_923 : (Cond.code yJ6_getChars_ba4f3 cJ6_getChars_ba4f3 7 (some .int)) ∈ lw_all := all_at 923 (by decide +kernel) rfl
theorem we_915 : (Cond.methodLink RJ4 53 yJ5_append_c97b9) ∈ lw_all := all_at 915 (by decide +kernel) rfl
theorem we_2050 : (Cond.sameMethod RJ5 RJ5 "append" "(I)Ljava/lang/AbstractStringBuilder;") ∈ lw_all := all_at 2050 (by decide +kernel) rfl
theorem we_916 : (Cond.instanceMethod yJ5_append_c97b9) ∈ lw_all := all_at 916 (by decide +kernel) rfl
theorem we_917 : (Cond.code yJ5_append_c97b9 cJ5_append_c97b9 4 (some (.object "java/lang/AbstractStringBuilder"))) ∈ lw_all := all_at 917 (by decide +kernel) rfl
set_option maxRecDepth 100000 in
theorem jm_pci {D : va_G} {cs : Nat → ClassId} {b : Nat} {ad : Rf → Nat} {adV : Nat → Nat} {sc : Nat × (Nat → Int32)} {l : Launch} {i n : Int32} {fo : Value} {ws : va_W} (hfo : fo.category = 1) (h0 : ¬ i < 0) (h1 : i < n) : JC (D, cs, b, ad, adV, sc) l yJ3_checkIndex_8e157 cJ3_checkIndex_8e157 3 (some .int) 0 0 [.int i, .int n, fo] (ws : va_W) (pD (some (.int i)) ws) := by
  refine jc_of (by decide +kernel) (by intro z hz; simp only [List.mem_cons, List.not_mem_nil, or_false] at hz; rcases hz with rfl | rfl | rfl <;> first | rfl | exact hfo) (Nat.le_of_ble_eq_true rfl) ?_
  intro x hF hC hO hG hV hK hH hI hE
  show WJ x (ws : va_W) 0 ([some (.inl (.int i)), some (.inl (.int n)), some (.inl (fo))] : Ls) ([] : List AV) 0
  refine jd_iload_n (i := 0) (hF _) (jde hC (by decide +kernel : decode cJ3_checkIndex_8e157 0 = .ok (.iload_n 0, 1))) rfl rfl ?_
  refine sd_if_lt (tgt := 9) (hF _) (jde hC (by decide +kernel : decode cJ3_checkIndex_8e157 1 = .ok (.ifCond .lt 8, 3))) rfl (fun z => absurd z (h0)) (fun _ => ?_)
  refine jd_iload_n (i := 0) (hF _) (jde hC (by decide +kernel : decode cJ3_checkIndex_8e157 4 = .ok (.iload_n 0, 1))) rfl rfl ?_
  refine jd_iload_n (i := 1) (hF _) (jde hC (by decide +kernel : decode cJ3_checkIndex_8e157 5 = .ok (.iload_n 1, 1))) rfl rfl ?_
  refine sd_icmp_lt (tgt := 16) (hF _) (jde hC (by decide +kernel : decode cJ3_checkIndex_8e157 6 = .ok (.if_icmp .lt 10, 3))) rfl (fun _ => ?_) (fun z => absurd (h1) z)
  refine jd_iload_n (i := 0) (hF _) (jde hC (by decide +kernel : decode cJ3_checkIndex_8e157 16 = .ok (.iload_n 0, 1))) rfl rfl ?_
  exact hE _ 17 0 _ _ (some (.int i)) (by decide +kernel : decode cJ3_checkIndex_8e157 17 = .ok (.ireturn, 1)) ⟨_, _, rfl, rfl, rfl⟩ ⟨rfl, rfl⟩ (Nat.le_of_ble_eq_true rfl)
set_option maxRecDepth 100000 in
theorem jm_ci {D : va_G} {cs : Nat → ClassId} {b : Nat} {ad : Rf → Nat} {adV : Nat → Nat} {sc : Nat × (Nat → Int32)} {l : Launch} {i n : Int32} {ws : va_W} (h0 : ¬ i < 0) (h1 : i < n) : JC (D, cs, b, ad, adV, sc) l yJ0_checkIndex_df160 cJ0_checkIndex_df160 2 none 1 0 [.int i, .int n] (ws : va_W) (pD none ws) := by
  refine jc_of (by decide +kernel) (by simp [Value.category]) (Nat.le_of_ble_eq_true rfl) ?_
  intro x hF hC hO hG hV hK hH hI hE
  show WJ x (ws : va_W) 0 ([some (.inl (.int i)), some (.inl (.int n))] : Ls) ([] : List AV) 0
  refine jd_iload_n (i := 0) (hF _) (jde hC (by decide +kernel : decode cJ0_checkIndex_df160 0 = .ok (.iload_n 0, 1))) rfl rfl ?_
  refine jd_iload_n (i := 1) (hF _) (jde hC (by decide +kernel : decode cJ0_checkIndex_df160 1 = .ok (.iload_n 1, 1))) rfl rfl ?_
  refine jd_sioobe (hF _) (jde hC (by decide +kernel : decode cJ0_checkIndex_df160 2 = .ok (.getstatic 1053, 3))) (by (try rw [xwO]); rw [hO]; exact we_854) (fun fo hfo => ?_)
  refine jd_callS (n := 3) (vs := [.int i, .int n, fo]) (rest := []) (hF _) (jde hC (by decide +kernel : decode cJ0_checkIndex_df160 5 = .ok (.invokestatic 1059, 3))) (by rw [hK, hH]; exact jm_pci (by rcases hfo with h | ⟨q, h⟩ <;> rw [h] <;> rfl) h0 h1) (by (try rw [xwO]); rw [hO]; exact we_1089) we_1090 we_113 we_1091 ⟨by decide +kernel, by decide +kernel, by decide +kernel⟩ rfl (Nat.le_of_ble_eq_true rfl) (by (try rw [xwV]); rw [hV]; exact Nat.le_of_ble_eq_true rfl) rfl (Nat.le_of_ble_eq_true rfl) (by (try rw [xwG]); rw [hG]; exact Nat.le_of_ble_eq_true rfl) (fun v w hp => ?_)
  obtain ⟨rfl, rfl⟩ := hp
  show WJ x (ws : va_W) 8 ([some (.inl (.int i)), some (.inl (.int n))] : Ls) ([.inl (.int i)] : List AV) 0
  refine sd_pop (hF _) (jde hC (by decide +kernel : decode cJ0_checkIndex_df160 8 = .ok (.pop, 1))) rfl ?_
  exact hE _ 9 0 _ _ (none) (by decide +kernel : decode cJ0_checkIndex_df160 9 = .ok (.return_, 1)) ⟨rfl, rfl⟩ ⟨rfl, rfl⟩ (Nat.le_of_ble_eq_true rfl)
set_option maxRecDepth 100000 in
theorem jm_ce {D : va_G} {cs : Nat → ClassId} {b : Nat} {ad : Rf → Nat} {adV : Nat → Nat} {sc : Nat × (Nat → Int32)} {l : Launch} {i : Int32} {ws : va_W} (h0 : ¬ 255 < i) : JC (D, cs, b, ad, adV, sc) l yJ1_canEncode_fc78d cJ1_canEncode_fc78d 1 (some .boolean) 0 0 [.int i] (ws : va_W) (pD (some (.int 1)) ws) := by
  refine jc_of (by decide +kernel) (by simp [Value.category]) (Nat.le_of_ble_eq_true rfl) ?_
  intro x hF hC hO hG hV hK hH hI hE
  show WJ x (ws : va_W) 0 ([some (.inl (.int i))] : Ls) ([] : List AV) 0
  refine jd_iload_n (i := 0) (hF _) (jde hC (by decide +kernel : decode cJ1_canEncode_fc78d 0 = .ok (.iload_n 0, 1))) rfl rfl ?_
  refine sd_sipush (v := 255) (hF _) (jde hC (by decide +kernel : decode cJ1_canEncode_fc78d 1 = .ok (.sipush 255, 3))) ?_
  show WJ x (ws : va_W) 4 ([some (.inl (.int i))] : Ls) ([.inl (.int 255), .inl (.int i)] : List AV) 0
  refine sd_icmp_gt (tgt := 11) (hF _) (jde hC (by decide +kernel : decode cJ1_canEncode_fc78d 4 = .ok (.if_icmp .gt 7, 3))) rfl (fun z => absurd z (h0)) (fun _ => ?_)
  refine sd_iconst (v := 1) (hF _) (jde hC (by decide +kernel : decode cJ1_canEncode_fc78d 7 = .ok (.iconst 1, 1))) ?_
  refine sd_goto (tgt := 12) (hF _) (jde hC (by decide +kernel : decode cJ1_canEncode_fc78d 8 = .ok (.goto 4, 3))) rfl ?_
  exact hE _ 12 0 _ _ (some (.int 1)) (by decide +kernel : decode cJ1_canEncode_fc78d 12 = .ok (.ireturn, 1)) ⟨_, _, rfl, rfl, by decide⟩ ⟨rfl, rfl⟩ (Nat.le_of_ble_eq_true rfl)
set_option maxRecDepth 100000 in
theorem jm_cod {D : va_G} {cs : Nat → ClassId} {b : Nat} {ad : Rf → Nat} {adV : Nat → Nat} {sc : Nat × (Nat → Int32)} {l : Launch} {k : Nat} {ws : va_W} (hk : k < 7) : JC (D, cs, b, ad, adV, sc) l yJ0_coder_7d493 cJ0_coder_7d493 1 (some .byte) 0 0 [.ref (ad (k, 200))] (ws : va_W) (pD (some (.int 0)) ws) := by
  refine jc_of (by decide +kernel) (by simp [Value.category]) (Nat.le_of_ble_eq_true rfl) ?_
  intro x hF hC hO hG hV hK hH hI hE
  show WJ x (ws : va_W) 0 ([some (.inl (.ref (ad (k, 200))))] : Ls) ([] : List AV) 0
  refine jd_compact (hF _) (jde hC (by decide +kernel : decode cJ0_coder_7d493 0 = .ok (.getstatic 38, 3))) (by (try rw [xwO]); rw [hO]; exact we_876) ?_
  refine sd_if_eq (tgt := 13) (hF _) (jde hC (by decide +kernel : decode cJ0_coder_7d493 3 = .ok (.ifCond .eq 10, 3))) rfl (fun z => absurd z (by decide)) (fun _ => ?_)
  refine jd_aload_n (i := 0) (hF _) (jde hC (by decide +kernel : decode cJ0_coder_7d493 6 = .ok (.aload_n 0, 1))) rfl rfl ?_
  refine jd_scoder (K := (D, cs, b, ad, adV, sc)) (k := k) (xwK.trans hK) (hF _) (jde hC (by decide +kernel : decode cJ0_coder_7d493 7 = .ok (.getfield 15, 3))) hk (by (try rw [xwO]); rw [hO]; exact we_1005) ?_
  refine sd_goto (tgt := 14) (hF _) (jde hC (by decide +kernel : decode cJ0_coder_7d493 10 = .ok (.goto 4, 3))) rfl ?_
  exact hE _ 14 0 _ _ (some (.int 0)) (by decide +kernel : decode cJ0_coder_7d493 14 = .ok (.ireturn, 1)) ⟨_, _, rfl, rfl, by decide⟩ ⟨rfl, rfl⟩ (Nat.le_of_ble_eq_true rfl)
set_option maxRecDepth 100000 in
theorem jm_isl {D : va_G} {cs : Nat → ClassId} {b : Nat} {ad : Rf → Nat} {adV : Nat → Nat} {sc : Nat × (Nat → Int32)} {l : Launch} {k : Nat} {ws : va_W} (hk : k < 7) : JC (D, cs, b, ad, adV, sc) l yJ0_isLatin1_aae02 cJ0_isLatin1_aae02 1 (some .boolean) 0 0 [.ref (ad (k, 200))] (ws : va_W) (pD (some (.int 1)) ws) := by
  refine jc_of (by decide +kernel) (by simp [Value.category]) (Nat.le_of_ble_eq_true rfl) ?_
  intro x hF hC hO hG hV hK hH hI hE
  show WJ x (ws : va_W) 0 ([some (.inl (.ref (ad (k, 200))))] : Ls) ([] : List AV) 0
  refine jd_compact (hF _) (jde hC (by decide +kernel : decode cJ0_isLatin1_aae02 0 = .ok (.getstatic 38, 3))) (by (try rw [xwO]); rw [hO]; exact we_876) ?_
  refine sd_if_eq (tgt := 17) (hF _) (jde hC (by decide +kernel : decode cJ0_isLatin1_aae02 3 = .ok (.ifCond .eq 14, 3))) rfl (fun z => absurd z (by decide)) (fun _ => ?_)
  refine jd_aload_n (i := 0) (hF _) (jde hC (by decide +kernel : decode cJ0_isLatin1_aae02 6 = .ok (.aload_n 0, 1))) rfl rfl ?_
  refine jd_scoder (K := (D, cs, b, ad, adV, sc)) (k := k) (xwK.trans hK) (hF _) (jde hC (by decide +kernel : decode cJ0_isLatin1_aae02 7 = .ok (.getfield 15, 3))) hk (by (try rw [xwO]); rw [hO]; exact we_1005) ?_
  refine sd_if_ne (tgt := 17) (hF _) (jde hC (by decide +kernel : decode cJ0_isLatin1_aae02 10 = .ok (.ifCond .ne 7, 3))) rfl (fun z => absurd (rfl) z) (fun _ => ?_)
  refine sd_iconst (v := 1) (hF _) (jde hC (by decide +kernel : decode cJ0_isLatin1_aae02 13 = .ok (.iconst 1, 1))) ?_
  refine sd_goto (tgt := 18) (hF _) (jde hC (by decide +kernel : decode cJ0_isLatin1_aae02 14 = .ok (.goto 4, 3))) rfl ?_
  exact hE _ 18 0 _ _ (some (.int 1)) (by decide +kernel : decode cJ0_isLatin1_aae02 18 = .ok (.ireturn, 1)) ⟨_, _, rfl, rfl, by decide⟩ ⟨rfl, rfl⟩ (Nat.le_of_ble_eq_true rfl)
set_option maxRecDepth 100000 in
theorem jm_slen {D : va_G} {cs : Nat → ClassId} {b : Nat} {ad : Rf → Nat} {adV : Nat → Nat} {sc : Nat × (Nat → Int32)} {l : Launch} {k : Nat} {ws : va_W} (hk : k < 7) : JC (D, cs, b, ad, adV, sc) l yJ0_length_8abf5 cJ0_length_8abf5 1 (some .int) 1 0 [.ref (ad (k, 200))] (ws : va_W) (pD (some (.int (Int32.ofNat ((jS.map List.length).getD k 0)))) ws) := by
  refine jc_of (by decide +kernel) (by simp [Value.category]) (Nat.le_of_ble_eq_true rfl) ?_
  intro x hF hC hO hG hV hK hH hI hE
  show WJ x (ws : va_W) 0 ([some (.inl (.ref (ad (k, 200))))] : Ls) ([] : List AV) 0
  refine jd_aload_n (i := 0) (hF _) (jde hC (by decide +kernel : decode cJ0_length_8abf5 0 = .ok (.aload_n 0, 1))) rfl rfl ?_
  refine jd_svalue (K := (D, cs, b, ad, adV, sc)) (k := k) (xwK.trans hK) (hF _) (jde hC (by decide +kernel : decode cJ0_length_8abf5 1 = .ok (.getfield 9, 3))) hk (by (try rw [xwO]); rw [hO]; exact we_1004) ?_
  refine jd_slen (K := (D, cs, b, ad, adV, sc)) (k := k) (xwK.trans hK) (hF _) (jde hC (by decide +kernel : decode cJ0_length_8abf5 4 = .ok (.arraylength, 1))) hk ?_
  refine jd_aload_n (i := 0) (hF _) (jde hC (by decide +kernel : decode cJ0_length_8abf5 5 = .ok (.aload_n 0, 1))) rfl rfl ?_
  refine jd_callK (n := 0) (vs := []) (rest := [.inl (.int (Int32.ofNat ((jS.map List.length).getD k 0)))]) (k := k) hK hk (hF _) (jde hC (by decide +kernel : decode cJ0_length_8abf5 6 = .ok (.invokevirtual 335, 3))) (by rw [hK, hH]; exact jm_cod hk) (by (try rw [xwO]); rw [hO]; exact we_872) we_873 we_874 we_95 we_875 ⟨rfl, by decide +kernel⟩ rfl (Nat.le_of_ble_eq_true rfl) (by (try rw [xwV]); rw [hV]; exact Nat.le_of_ble_eq_true rfl) rfl (Nat.le_of_ble_eq_true rfl) (by (try rw [xwG]); rw [hG]; exact Nat.le_of_ble_eq_true rfl) (fun v w hp => ?_)
  obtain ⟨rfl, rfl⟩ := hp
  show WJ x (ws : va_W) 9 ([some (.inl (.ref (ad (k, 200))))] : Ls) ([.inl (.int 0), .inl (.int (Int32.ofNat ((jS.map List.length).getD k 0)))] : List AV) 0
  refine jd_ishr (hF _) (jde hC (by decide +kernel : decode cJ0_length_8abf5 9 = .ok (.ishr, 1))) ?_
  refine jd_top (b := .inl (.int (Int32.ofNat ((jS.map List.length).getD k 0)))) (congrArg (fun z => (Sum.inl (Value.int z) : AV)) (sb_shr0 _)) ?_
  exact hE _ 10 0 _ _ (some (.int (Int32.ofNat ((jS.map List.length).getD k 0)))) (by decide +kernel : decode cJ0_length_8abf5 10 = .ok (.ireturn, 1)) ⟨_, _, rfl, rfl, rfl⟩ ⟨rfl, rfl⟩ (Nat.le_of_ble_eq_true rfl)
theorem getD_out {α : Type} {l : List α} {k : Nat} {d : α} (h : l.length ≤ k) : l.getD k d = d := by rw [List.getD_eq_getElem?_getD, List.getElem?_eq_none h]; rfl
theorem jS_short (k : Nat) : (jS.map List.length).getD k 0 < 2 ^ 31 := by
  rcases Nat.lt_or_ge k 7 with h | h
  · revert k; decide +kernel
  · rw [getD_out (by simpa [jS] using h)]; decide
theorem jS_let : ∀ k, k < 7 → ∀ j, j < (jS.map List.length).getD k 0 → ((jS.getD k []).getD j 0 &&& 255 = (jS.getD k []).getD j 0 ∧ ((jS.getD k []).getD j 0).toUInt32 % 65536 = ((jS.getD k []).getD j 0).toUInt32 ∧ narrow .char (.int ((jS.getD k []).getD j 0)) = .int ((jS.getD k []).getD j 0)) := by decide +kernel
theorem jS_at (k : Nat) (i : Int32) (hi : inb i ((jS.map List.length).getD k 0) = true) : (jS.getD k []).getD i.toNatClampNeg 0 &&& 255 = (jS.getD k []).getD i.toNatClampNeg 0 ∧ (((jS.getD k []).getD i.toNatClampNeg 0).toUInt32 % 65536).toInt32 = (jS.getD k []).getD i.toNatClampNeg 0 ∧ narrow .char (.int ((jS.getD k []).getD i.toNatClampNeg 0)) = .int ((jS.getD k []).getD i.toNatClampNeg 0) := by
  have h := (in_nat hi).2
  have hk : k < 7 := by
    rcases Nat.lt_or_ge k 7 with q | q
    · exact q
    · rw [getD_out (by simpa [jS] using q)] at h; omega
  obtain ⟨a, b, c⟩ := jS_let k hk _ h
  exact ⟨a, by rw [b]; rfl, c⟩
set_option maxRecDepth 100000 in
theorem jm_lat {D : va_G} {cs : Nat → ClassId} {b : Nat} {ad : Rf → Nat} {adV : Nat → Nat} {sc : Nat × (Nat → Int32)} {l : Launch} {k : Nat} {i : Int32} {ws : va_W} (hk : k < 7) (hi : inb i ((jS.map List.length).getD k 0) = true) : JC (D, cs, b, ad, adV, sc) l yJ1_charAt_3b067 cJ1_charAt_3b067 2 (some .char) 2 0 [.ref (adV k), .int i] (ws : va_W) (pD (some (.int ((jS.getD k []).getD i.toNatClampNeg 0))) ws) := by
  refine jc_of (by decide +kernel) (by simp [Value.category]) (Nat.le_of_ble_eq_true rfl) ?_
  intro x hF hC hO hG hV hK hH hI hE
  show WJ x (ws : va_W) 0 ([some (.inl (.ref (adV k))), some (.inl (.int i))] : Ls) ([] : List AV) 0
  refine jd_iload_n (i := 1) (hF _) (jde hC (by decide +kernel : decode cJ1_charAt_3b067 0 = .ok (.iload_n 1, 1))) rfl rfl ?_
  refine jd_aload_n (i := 0) (hF _) (jde hC (by decide +kernel : decode cJ1_charAt_3b067 1 = .ok (.aload_n 0, 1))) rfl rfl ?_
  refine jd_slen (K := (D, cs, b, ad, adV, sc)) (k := k) (xwK.trans hK) (hF _) (jde hC (by decide +kernel : decode cJ1_charAt_3b067 2 = .ok (.arraylength, 1))) hk ?_
  refine jd_callS (n := 2) (vs := [.int i, .int (Int32.ofNat ((jS.map List.length).getD k 0))]) (rest := []) (hF _) (jde hC (by decide +kernel : decode cJ1_charAt_3b067 3 = .ok (.invokestatic 9, 3))) (by rw [hK, hH]; exact jm_ci (in_nat hi).1 (in_lt hi (jS_short k))) (by (try rw [xwO]); rw [hO]; exact we_1449) we_1087 we_95 we_1088 ⟨by decide +kernel, by decide +kernel, by decide +kernel⟩ rfl (Nat.le_of_ble_eq_true rfl) (by (try rw [xwV]); rw [hV]; exact Nat.le_of_ble_eq_true rfl) rfl (Nat.le_of_ble_eq_true rfl) (by (try rw [xwG]); rw [hG]; exact Nat.le_of_ble_eq_true rfl) (fun v w hp => ?_)
  obtain ⟨rfl, rfl⟩ := hp
  show WJ x (ws : va_W) 6 ([some (.inl (.ref (adV k))), some (.inl (.int i))] : Ls) ([] : List AV) 0
  refine jd_aload_n (i := 0) (hF _) (jde hC (by decide +kernel : decode cJ1_charAt_3b067 6 = .ok (.aload_n 0, 1))) rfl rfl ?_
  refine jd_iload_n (i := 1) (hF _) (jde hC (by decide +kernel : decode cJ1_charAt_3b067 7 = .ok (.iload_n 1, 1))) rfl rfl ?_
  refine jd_sbyte (K := (D, cs, b, ad, adV, sc)) (k := k) (xwK.trans hK) (hF _) (jde hC (by decide +kernel : decode cJ1_charAt_3b067 8 = .ok (.baload, 1))) hk (hi) ?_
  refine jd_top (b := .inl (.int ((jS.getD k []).getD (i).toNatClampNeg 0))) (congrArg (fun z => (Sum.inl (Value.int z) : AV)) (rfl)) ?_
  refine sd_sipush (v := 255) (hF _) (jde hC (by decide +kernel : decode cJ1_charAt_3b067 9 = .ok (.sipush 255, 3))) ?_
  show WJ x (ws : va_W) 12 ([some (.inl (.ref (adV k))), some (.inl (.int i))] : Ls) ([.inl (.int 255), .inl (.int ((jS.getD k []).getD (i).toNatClampNeg 0))] : List AV) 0
  refine sd_iand (hF _) (jde hC (by decide +kernel : decode cJ1_charAt_3b067 12 = .ok (.iand, 1))) ?_
  refine jd_top (b := .inl (.int ((jS.getD k []).getD (i).toNatClampNeg 0))) (congrArg (fun z => (Sum.inl (Value.int z) : AV)) ((jS_at k i hi).1)) ?_
  refine sd_i2c (hF _) (jde hC (by decide +kernel : decode cJ1_charAt_3b067 13 = .ok (.i2c, 1))) ?_
  refine jd_top (b := .inl (.int ((jS.getD k []).getD (i).toNatClampNeg 0))) (congrArg (fun z => (Sum.inl (Value.int z) : AV)) ((jS_at k i hi).2.1)) ?_
  exact hE _ 14 0 _ _ (some (.int ((jS.getD k []).getD (i).toNatClampNeg 0))) (by decide +kernel : decode cJ1_charAt_3b067 14 = .ok (.ireturn, 1)) ⟨_, _, rfl, rfl, (jS_at k i hi).2.2⟩ ⟨rfl, rfl⟩ (Nat.le_of_ble_eq_true rfl)
set_option maxRecDepth 100000 in
theorem jm_sat {D : va_G} {cs : Nat → ClassId} {b : Nat} {ad : Rf → Nat} {adV : Nat → Nat} {sc : Nat × (Nat → Int32)} {l : Launch} {k : Nat} {i : Int32} {ws : va_W} (hk : k < 7) (hi : inb i ((jS.map List.length).getD k 0) = true) : JC (D, cs, b, ad, adV, sc) l yJ0_charAt_5068e cJ0_charAt_5068e 2 (some .char) 3 0 [.ref (ad (k, 200)), .int i] (ws : va_W) (pD (some (.int ((jS.getD k []).getD i.toNatClampNeg 0))) ws) := by
  refine jc_of (by decide +kernel) (by simp [Value.category]) (Nat.le_of_ble_eq_true rfl) ?_
  intro x hF hC hO hG hV hK hH hI hE
  show WJ x (ws : va_W) 0 ([some (.inl (.ref (ad (k, 200)))), some (.inl (.int i))] : Ls) ([] : List AV) 0
  refine jd_aload_n (i := 0) (hF _) (jde hC (by decide +kernel : decode cJ0_charAt_5068e 0 = .ok (.aload_n 0, 1))) rfl rfl ?_
  refine jd_callK (n := 0) (vs := []) (rest := []) (k := k) hK hk (hF _) (jde hC (by decide +kernel : decode cJ0_charAt_5068e 1 = .ok (.invokevirtual 492, 3))) (by rw [hK, hH]; exact jm_isl hk) (by (try rw [xwO]); rw [hO]; exact we_1442) we_1443 we_1444 we_95 we_1445 ⟨rfl, by decide +kernel⟩ rfl (Nat.le_of_ble_eq_true rfl) (by (try rw [xwV]); rw [hV]; exact Nat.le_of_ble_eq_true rfl) rfl (Nat.le_of_ble_eq_true rfl) (by (try rw [xwG]); rw [hG]; exact Nat.le_of_ble_eq_true rfl) (fun v w hp => ?_)
  obtain ⟨rfl, rfl⟩ := hp
  show WJ x (ws : va_W) 4 ([some (.inl (.ref (ad (k, 200)))), some (.inl (.int i))] : Ls) ([.inl (.int 1)] : List AV) 0
  refine sd_if_eq (tgt := 16) (hF _) (jde hC (by decide +kernel : decode cJ0_charAt_5068e 4 = .ok (.ifCond .eq 12, 3))) rfl (fun z => absurd z (by decide)) (fun _ => ?_)
  refine jd_aload_n (i := 0) (hF _) (jde hC (by decide +kernel : decode cJ0_charAt_5068e 7 = .ok (.aload_n 0, 1))) rfl rfl ?_
  refine jd_svalue (K := (D, cs, b, ad, adV, sc)) (k := k) (xwK.trans hK) (hF _) (jde hC (by decide +kernel : decode cJ0_charAt_5068e 8 = .ok (.getfield 9, 3))) hk (by (try rw [xwO]); rw [hO]; exact we_1004) ?_
  refine jd_iload_n (i := 1) (hF _) (jde hC (by decide +kernel : decode cJ0_charAt_5068e 11 = .ok (.iload_n 1, 1))) rfl rfl ?_
  refine jd_callS (n := 2) (vs := [.ref (adV k), .int i]) (rest := []) (hF _) (jde hC (by decide +kernel : decode cJ0_charAt_5068e 12 = .ok (.invokestatic 495, 3))) (by rw [hK, hH]; exact jm_lat hk hi) (by (try rw [xwO]); rw [hO]; exact we_1446) we_1447 we_114 we_1448 ⟨by decide +kernel, by decide +kernel, by decide +kernel⟩ rfl (Nat.le_of_ble_eq_true rfl) (by (try rw [xwV]); rw [hV]; exact Nat.le_of_ble_eq_true rfl) rfl (Nat.le_of_ble_eq_true rfl) (by (try rw [xwG]); rw [hG]; exact Nat.le_of_ble_eq_true rfl) (fun v w hp => ?_)
  obtain ⟨rfl, rfl⟩ := hp
  show WJ x (ws : va_W) 15 ([some (.inl (.ref (ad (k, 200)))), some (.inl (.int i))] : Ls) ([.inl (.int ((jS.getD k []).getD i.toNatClampNeg 0))] : List AV) 0
  exact hE _ 15 0 _ _ (some (.int ((jS.getD k []).getD i.toNatClampNeg 0))) (by decide +kernel : decode cJ0_charAt_5068e 15 = .ok (.ireturn, 1)) ⟨_, _, rfl, rfl, (jS_at k i hi).2.2⟩ ⟨rfl, rfl⟩ (Nat.le_of_ble_eq_true rfl)
theorem nI_mx {b c : Nat} (hb : b < 2 ^ 31) (hc : c < 2 ^ 31) : (if nI b < nI c then nI c else nI b) = nI (if b < c then c else b) := by
  by_cases h : b < c
  · rw [if_pos h, if_pos (nI_lt h hc)]
  · rw [if_neg h, if_neg (nI_nlt (Nat.not_lt.mp h) hb)]
theorem set_tl {α : Type} (R : List α) (a b : α) : (R ++ [a]).set R.length b = R ++ [b] := by
  induction R with
  | nil => rfl
  | cons c R ih => rw [List.cons_append, List.length_cons, List.set_cons_succ, ih, List.cons_append]
theorem jc_let : ∀ m, m < 128 → (nI m &&& 255 = nI m ∧ ((nI m).toUInt32 % 65536).toInt32 = nI m ∧ (nI m).toInt8.toInt32 = nI m ∧ vp_nar .byte (nI m) = nI m ∧ narrow .char (.int (nI m)) = .int (nI m) ∧ fits .byte (.int (nI m)) = true) := by decide +kernel
theorem jc_nat {c : Int32} (h0 : 0 ≤ c) (h1 : c < 128) : ∃ m, m < 128 ∧ c = nI m := by
  obtain ⟨j, hj, rfl⟩ := nI_of (x := c) (by rw [Int32.not_lt]; exact h0)
  exact ⟨j, (nI_ltI hj (by decide)).mp (show nI j < nI 128 from h1), rfl⟩
theorem jc_of8 {c : Int32} (h0 : 0 ≤ c) (h1 : c < 128) : c &&& 255 = c ∧ (c.toUInt32 % 65536).toInt32 = c ∧ c.toInt8.toInt32 = c ∧ vp_nar .byte c = c ∧ narrow .char (.int c) = .int c ∧ fits .byte (.int c) = true := by
  obtain ⟨m, hm, rfl⟩ := jc_nat h0 h1
  exact jc_let m hm
theorem Q_at {α : Type} (a b c : α) (R : List α) : (a :: b :: (R ++ [c]))[R.length + 2]? = some c := by simp
theorem Q_set {α : Type} (a b c d : α) (R : List α) : (a :: b :: (R ++ [c])).set (R.length + 2) d = a :: b :: (R ++ [d]) := by rw [List.set_cons_succ, List.set_cons_succ, set_tl]
set_option maxRecDepth 100000 in
theorem jm_alen {D : va_G} {cs : Nat → ClassId} {b : Nat} {ad : Rf → Nat} {adV : Nat → Nat} {sc : Nat × (Nat → Int32)} {l : Launch} {h q cap n : Nat} {f : Nat → Int32} {ml : Int32} {R : va_W}  : JC (D, cs, b, ad, adV, sc) l yJ5_length_8abf5 cJ5_length_8abf5 1 (some .int) 0 0 [.ref h] ((h, .inr (8, [.ref q, .int 0, .int ml, .int (nI n)])) :: (q, .inl (cs 5, cap, .inl f)) :: R : va_W) (pD (some (.int (nI n))) ((h, .inr (8, [.ref q, .int 0, .int ml, .int (nI n)])) :: (q, .inl (cs 5, cap, .inl f)) :: R)) := by
  refine jc_of (by decide +kernel) (by simp [Value.category]) (Nat.le_of_ble_eq_true rfl) ?_
  intro x hF hC hO hG hV hK hH hI hE
  show WJ x ((h, .inr (8, [.ref q, .int 0, .int ml, .int (nI n)])) :: (q, .inl (cs 5, cap, .inl f)) :: R : va_W) 0 ([some (.inl (.ref h))] : Ls) ([] : List AV) 0
  refine jd_aload_n (i := 0) (hF _) (jde hC (by decide +kernel : decode cJ5_length_8abf5 0 = .ok (.aload_n 0, 1))) rfl rfl ?_
  refine jd_get (k := 0) (f := 3) (q := (RJ4, TJ4, 4)) (hF _) (jde hC (by decide +kernel : decode cJ5_length_8abf5 1 = .ok (.getfield 79, 3))) rfl rfl (Nat.le_of_ble_eq_true rfl) (Or.inl (by (try rw [xwO]); rw [hO]; exact we_296)) rfl ?_
  exact hE _ 4 0 _ _ (some (.int (nI n))) (by decide +kernel : decode cJ5_length_8abf5 4 = .ok (.ireturn, 1)) ⟨_, _, rfl, rfl, rfl⟩ ⟨rfl, rfl⟩ (Nat.le_of_ble_eq_true rfl)
set_option maxRecDepth 100000 in
theorem jm_blen {D : va_G} {cs : Nat → ClassId} {b : Nat} {ad : Rf → Nat} {adV : Nat → Nat} {sc : Nat × (Nat → Int32)} {l : Launch} {h q cap n : Nat} {f : Nat → Int32} {ml : Int32} {R : va_W}  : JC (D, cs, b, ad, adV, sc) l yJ4_length_8abf5 cJ4_length_8abf5 1 (some .int) 1 0 [.ref h] ((h, .inr (8, [.ref q, .int 0, .int ml, .int (nI n)])) :: (q, .inl (cs 5, cap, .inl f)) :: R : va_W) (pD (some (.int (nI n))) ((h, .inr (8, [.ref q, .int 0, .int ml, .int (nI n)])) :: (q, .inl (cs 5, cap, .inl f)) :: R)) := by
  refine jc_of (by decide +kernel) (by simp [Value.category]) (Nat.le_of_ble_eq_true rfl) ?_
  intro x hF hC hO hG hV hK hH hI hE
  show WJ x ((h, .inr (8, [.ref q, .int 0, .int ml, .int (nI n)])) :: (q, .inl (cs 5, cap, .inl f)) :: R : va_W) 0 ([some (.inl (.ref h))] : Ls) ([] : List AV) 0
  refine jd_aload_n (i := 0) (hF _) (jde hC (by decide +kernel : decode cJ4_length_8abf5 0 = .ok (.aload_n 0, 1))) rfl rfl ?_
  refine jd_callSU (n := 0) (vs := []) (rest := []) (k := 0) (q := (RJ4, TJ4, 4)) (hF _) (jde hC (by decide +kernel : decode cJ4_length_8abf5 1 = .ok (.invokespecial 343, 3))) (by rw [hK, hH]; exact jm_alen) rfl rfl (by (try rw [xwO]); rw [hO]; exact we_960) we_956 (by (try rw [xwO]); rw [hO]; exact we_305) we_955 we_93 we_961 ⟨by decide +kernel, by decide +kernel⟩ rfl (Nat.le_of_ble_eq_true rfl) (by (try rw [xwV]); rw [hV]; exact Nat.le_of_ble_eq_true rfl) rfl (Nat.le_of_ble_eq_true rfl) (by (try rw [xwG]); rw [hG]; exact Nat.le_of_ble_eq_true rfl) (fun v w hp => ?_)
  obtain ⟨rfl, rfl⟩ := hp
  show WJ x ((h, .inr (8, [.ref q, .int 0, .int ml, .int (nI n)])) :: (q, .inl (cs 5, cap, .inl f)) :: R : va_W) 4 ([some (.inl (.ref h))] : Ls) ([.inl (.int (nI n))] : List AV) 0
  exact hE _ 4 0 _ _ (some (.int (nI n))) (by decide +kernel : decode cJ4_length_8abf5 4 = .ok (.ireturn, 1)) ⟨_, _, rfl, rfl, rfl⟩ ⟨rfl, rfl⟩ (Nat.le_of_ble_eq_true rfl)
theorem in_mono {i : Int32} {n m : Nat} (h : inb i n = true) (hn : n ≤ m) : inb i m = true := by
  unfold inb at h ⊢
  rw [Bool.and_eq_true] at h ⊢
  exact ⟨h.1, Nat.ble_eq_true_of_le (Nat.le_trans (Nat.le_of_ble_eq_true h.2) hn)⟩
set_option maxRecDepth 100000 in
theorem jm_aat {D : va_G} {cs : Nat → ClassId} {b : Nat} {ad : Rf → Nat} {adV : Nat → Nat} {sc : Nat × (Nat → Int32)} {l : Launch} {h q cap n : Nat} {f : Nat → Int32} {ml : Int32} {R : va_W} {i : Int32} (hn : n ≤ cap) (hc : cap ≤ 100) (hi : inb i n = true) (h0 : 0 ≤ f i.toNatClampNeg) (h1 : f i.toNatClampNeg < 128) : JC (D, cs, b, ad, adV, sc) l yJ5_charAt_5068e cJ5_charAt_5068e 5 (some .char) 2 0 [.ref h, .int i] ((h, .inr (8, [.ref q, .int 0, .int ml, .int (nI n)])) :: (q, .inl (cs 5, cap, .inl f)) :: R : va_W) (pD (some (.int (f i.toNatClampNeg))) ((h, .inr (8, [.ref q, .int 0, .int ml, .int (nI n)])) :: (q, .inl (cs 5, cap, .inl f)) :: R)) := by
  refine jc_of (by decide +kernel) (by simp [Value.category]) (Nat.le_of_ble_eq_true rfl) ?_
  intro x hF hC hO hG hV hK hH hI hE
  show WJ x ((h, .inr (8, [.ref q, .int 0, .int ml, .int (nI n)])) :: (q, .inl (cs 5, cap, .inl f)) :: R : va_W) 0 ([some (.inl (.ref h)), some (.inl (.int i)), none, none, none] : Ls) ([] : List AV) 0
  refine jd_aload_n (i := 0) (hF _) (jde hC (by decide +kernel : decode cJ5_charAt_5068e 0 = .ok (.aload_n 0, 1))) rfl rfl ?_
  refine jd_get (k := 0) (f := 1) (q := (RJ4, TJ4, 4)) (hF _) (jde hC (by decide +kernel : decode cJ5_charAt_5068e 1 = .ok (.getfield 22, 3))) rfl rfl (Nat.le_of_ble_eq_true rfl) (Or.inl (by (try rw [xwO]); rw [hO]; exact we_293)) rfl ?_
  refine jd_istore_n (i := 2) (hF _) (jde hC (by decide +kernel : decode cJ5_charAt_5068e 4 = .ok (.istore_n 2, 1))) rfl rfl (Nat.le_of_ble_eq_true rfl) ?_
  refine jd_aload_n (i := 0) (hF _) (jde hC (by decide +kernel : decode cJ5_charAt_5068e 5 = .ok (.aload_n 0, 1))) rfl rfl ?_
  refine jd_get (k := 0) (f := 0) (q := (RJ4, TJ4, 4)) (hF _) (jde hC (by decide +kernel : decode cJ5_charAt_5068e 6 = .ok (.getfield 15, 3))) rfl rfl (Nat.le_of_ble_eq_true rfl) (Or.inl (by (try rw [xwO]); rw [hO]; exact we_292)) rfl ?_
  refine jd_astore_n (i := 3) (hF _) (jde hC (by decide +kernel : decode cJ5_charAt_5068e 9 = .ok (.astore_n 3, 1))) rfl rfl (Nat.le_of_ble_eq_true rfl) ?_
  refine jd_aload_n (i := 0) (hF _) (jde hC (by decide +kernel : decode cJ5_charAt_5068e 10 = .ok (.aload_n 0, 1))) rfl rfl ?_
  refine jd_get (k := 0) (f := 3) (q := (RJ4, TJ4, 4)) (hF _) (jde hC (by decide +kernel : decode cJ5_charAt_5068e 11 = .ok (.getfield 79, 3))) rfl rfl (Nat.le_of_ble_eq_true rfl) (Or.inl (by (try rw [xwO]); rw [hO]; exact we_296)) rfl ?_
  refine jd_aload_n (i := 3) (hF _) (jde hC (by decide +kernel : decode cJ5_charAt_5068e 14 = .ok (.aload_n 3, 1))) rfl rfl ?_
  refine jd_alen (k := 1) (a := (cap, .inl f)) (hF _) (jde hC (by decide +kernel : decode cJ5_charAt_5068e 15 = .ok (.arraylength, 1))) (by rw [hK]; rfl) ?_
  refine jd_iload_n (i := 2) (hF _) (jde hC (by decide +kernel : decode cJ5_charAt_5068e 16 = .ok (.iload_n 2, 1))) rfl rfl ?_
  refine jd_ishr (hF _) (jde hC (by decide +kernel : decode cJ5_charAt_5068e 17 = .ok (.ishr, 1))) ?_
  refine jd_top (b := .inl (.int (nI cap))) (congrArg (fun z => (Sum.inl (Value.int z) : AV)) (sb_shr0 _)) ?_
  refine jd_mmin (hF _) (jde hC (by decide +kernel : decode cJ5_charAt_5068e 18 = .ok (.invokestatic 138, 3))) (by (try rw [xwO]); rw [hO]; exact we_1386) we_588 we_103 we_589 (by (try rw [xwV]); rw [hV]; exact Nat.le_of_ble_eq_true rfl) (Nat.le_of_ble_eq_true rfl) (by (try rw [xwG]); rw [hG]; exact Nat.le_of_ble_eq_true rfl) ?_
  refine jd_top (b := .inl (.int (nI n))) (congrArg (fun z => (Sum.inl (Value.int z) : AV)) (if_neg (nI_nlt hn (by omega)))) ?_
  refine jd_istore (i := 4) (hF _) (jde hC (by decide +kernel : decode cJ5_charAt_5068e 21 = .ok (.istore 4, 2))) rfl (Nat.le_of_ble_eq_true rfl) ?_
  refine jd_iload_n (i := 1) (hF _) (jde hC (by decide +kernel : decode cJ5_charAt_5068e 23 = .ok (.iload_n 1, 1))) rfl rfl ?_
  refine jd_iload (i := 4) (hF _) (jde hC (by decide +kernel : decode cJ5_charAt_5068e 24 = .ok (.iload 4, 2))) rfl ?_
  refine jd_callS (n := 2) (vs := [.int i, .int (nI n)]) (rest := []) (hF _) (jde hC (by decide +kernel : decode cJ5_charAt_5068e 26 = .ok (.invokestatic 144, 3))) (by rw [hK, hH]; exact jm_ci (in_nat hi).1 (in_lt hi (by omega))) (by (try rw [xwO]); rw [hO]; exact we_1387) we_1087 we_95 we_1088 ⟨by decide +kernel, by decide +kernel, by decide +kernel⟩ rfl (Nat.le_of_ble_eq_true rfl) (by (try rw [xwV]); rw [hV]; exact Nat.le_of_ble_eq_true rfl) rfl (Nat.le_of_ble_eq_true rfl) (by (try rw [xwG]); rw [hG]; exact Nat.le_of_ble_eq_true rfl) (fun v w hp => ?_)
  obtain ⟨rfl, rfl⟩ := hp
  show WJ x ((h, .inr (8, [.ref q, .int 0, .int ml, .int (nI n)])) :: (q, .inl (cs 5, cap, .inl f)) :: R : va_W) 29 ([some (.inl (.ref h)), some (.inl (.int i)), some (.inl (.int 0)), some (.inl (.ref q)), some (.inl (.int (nI n)))] : Ls) ([] : List AV) 0
  refine jd_iload_n (i := 2) (hF _) (jde hC (by decide +kernel : decode cJ5_charAt_5068e 29 = .ok (.iload_n 2, 1))) rfl rfl ?_
  refine sd_if_ne (tgt := 42) (hF _) (jde hC (by decide +kernel : decode cJ5_charAt_5068e 30 = .ok (.ifCond .ne 12, 3))) rfl (fun z => absurd (rfl) z) (fun _ => ?_)
  refine jd_aload_n (i := 3) (hF _) (jde hC (by decide +kernel : decode cJ5_charAt_5068e 33 = .ok (.aload_n 3, 1))) rfl rfl ?_
  refine jd_iload_n (i := 1) (hF _) (jde hC (by decide +kernel : decode cJ5_charAt_5068e 34 = .ok (.iload_n 1, 1))) rfl rfl ?_
  refine jd_bald (k := 1) (n := cap) (hF _) (jde hC (by decide +kernel : decode cJ5_charAt_5068e 35 = .ok (.baload, 1))) (by rw [hK]; rfl) (in_mono hi hn) ?_
  refine sd_sipush (v := 255) (hF _) (jde hC (by decide +kernel : decode cJ5_charAt_5068e 36 = .ok (.sipush 255, 3))) ?_
  show WJ x ((h, .inr (8, [.ref q, .int 0, .int ml, .int (nI n)])) :: (q, .inl (cs 5, cap, .inl f)) :: R : va_W) 39 ([some (.inl (.ref h)), some (.inl (.int i)), some (.inl (.int 0)), some (.inl (.ref q)), some (.inl (.int (nI n)))] : Ls) ([.inl (.int 255), .inl (.int (f (i).toNatClampNeg))] : List AV) 0
  refine sd_iand (hF _) (jde hC (by decide +kernel : decode cJ5_charAt_5068e 39 = .ok (.iand, 1))) ?_
  refine jd_top (b := .inl (.int (f (i).toNatClampNeg))) (congrArg (fun z => (Sum.inl (Value.int z) : AV)) ((jc_of8 h0 h1).1)) ?_
  refine sd_i2c (hF _) (jde hC (by decide +kernel : decode cJ5_charAt_5068e 40 = .ok (.i2c, 1))) ?_
  refine jd_top (b := .inl (.int (f (i).toNatClampNeg))) (congrArg (fun z => (Sum.inl (Value.int z) : AV)) ((jc_of8 h0 h1).2.1)) ?_
  exact hE _ 41 0 _ _ (some (.int (f (i).toNatClampNeg))) (by decide +kernel : decode cJ5_charAt_5068e 41 = .ok (.ireturn, 1)) ⟨_, _, rfl, rfl, (jc_of8 h0 h1).2.2.2.2.1⟩ ⟨rfl, rfl⟩ (Nat.le_of_ble_eq_true rfl)
set_option maxRecDepth 100000 in
theorem jm_bat {D : va_G} {cs : Nat → ClassId} {b : Nat} {ad : Rf → Nat} {adV : Nat → Nat} {sc : Nat × (Nat → Int32)} {l : Launch} {h q cap n : Nat} {f : Nat → Int32} {ml : Int32} {R : va_W} {i : Int32} (hn : n ≤ cap) (hc : cap ≤ 100) (hi : inb i n = true) (h0 : 0 ≤ f i.toNatClampNeg) (h1 : f i.toNatClampNeg < 128) : JC (D, cs, b, ad, adV, sc) l yJ4_charAt_5068e cJ4_charAt_5068e 2 (some .char) 3 0 [.ref h, .int i] ((h, .inr (8, [.ref q, .int 0, .int ml, .int (nI n)])) :: (q, .inl (cs 5, cap, .inl f)) :: R : va_W) (pD (some (.int (f i.toNatClampNeg))) ((h, .inr (8, [.ref q, .int 0, .int ml, .int (nI n)])) :: (q, .inl (cs 5, cap, .inl f)) :: R)) := by
  refine jc_of (by decide +kernel) (by simp [Value.category]) (Nat.le_of_ble_eq_true rfl) ?_
  intro x hF hC hO hG hV hK hH hI hE
  show WJ x ((h, .inr (8, [.ref q, .int 0, .int ml, .int (nI n)])) :: (q, .inl (cs 5, cap, .inl f)) :: R : va_W) 0 ([some (.inl (.ref h)), some (.inl (.int i))] : Ls) ([] : List AV) 0
  refine jd_aload_n (i := 0) (hF _) (jde hC (by decide +kernel : decode cJ4_charAt_5068e 0 = .ok (.aload_n 0, 1))) rfl rfl ?_
  refine jd_iload_n (i := 1) (hF _) (jde hC (by decide +kernel : decode cJ4_charAt_5068e 1 = .ok (.iload_n 1, 1))) rfl rfl ?_
  refine jd_callSU (n := 1) (vs := [.int i]) (rest := []) (k := 0) (q := (RJ4, TJ4, 4)) (hF _) (jde hC (by decide +kernel : decode cJ4_charAt_5068e 2 = .ok (.invokespecial 329, 3))) (by rw [hK, hH]; exact jm_aat hn hc hi h0 h1) rfl rfl (by (try rw [xwO]); rw [hO]; exact we_1383) we_2053 (by (try rw [xwO]); rw [hO]; exact we_305) we_1384 we_93 we_1385 ⟨by decide +kernel, by decide +kernel⟩ rfl (Nat.le_of_ble_eq_true rfl) (by (try rw [xwV]); rw [hV]; exact Nat.le_of_ble_eq_true rfl) rfl (Nat.le_of_ble_eq_true rfl) (by (try rw [xwG]); rw [hG]; exact Nat.le_of_ble_eq_true rfl) (fun v w hp => ?_)
  obtain ⟨rfl, rfl⟩ := hp
  show WJ x ((h, .inr (8, [.ref q, .int 0, .int ml, .int (nI n)])) :: (q, .inl (cs 5, cap, .inl f)) :: R : va_W) 5 ([some (.inl (.ref h)), some (.inl (.int i))] : Ls) ([.inl (.int (f i.toNatClampNeg))] : List AV) 0
  exact hE _ 5 0 _ _ (some (.int (f i.toNatClampNeg))) (by decide +kernel : decode cJ4_charAt_5068e 5 = .ok (.ireturn, 1)) ⟨_, _, rfl, rfl, (jc_of8 h0 h1).2.2.2.2.1⟩ ⟨rfl, rfl⟩ (Nat.le_of_ble_eq_true rfl)
set_option maxRecDepth 100000 in
theorem jm_isa {D : va_G} {cs : Nat → ClassId} {b : Nat} {ad : Rf → Nat} {adV : Nat → Nat} {sc : Nat × (Nat → Int32)} {l : Launch} {h q cap n : Nat} {f : Nat → Int32} {ml : Int32} {R : va_W}  : JC (D, cs, b, ad, adV, sc) l yJ5_isLatin1_aae02 cJ5_isLatin1_aae02 1 (some .boolean) 0 0 [.ref h] ((h, .inr (8, [.ref q, .int 0, .int ml, .int (nI n)])) :: (q, .inl (cs 5, cap, .inl f)) :: R : va_W) (pD (some (.int 1)) ((h, .inr (8, [.ref q, .int 0, .int ml, .int (nI n)])) :: (q, .inl (cs 5, cap, .inl f)) :: R)) := by
  refine jc_of (by decide +kernel) (by simp [Value.category]) (Nat.le_of_ble_eq_true rfl) ?_
  intro x hF hC hO hG hV hK hH hI hE
  show WJ x ((h, .inr (8, [.ref q, .int 0, .int ml, .int (nI n)])) :: (q, .inl (cs 5, cap, .inl f)) :: R : va_W) 0 ([some (.inl (.ref h))] : Ls) ([] : List AV) 0
  refine jd_compact (hF _) (jde hC (by decide +kernel : decode cJ5_isLatin1_aae02 0 = .ok (.getstatic 18, 3))) (by (try rw [xwO]); rw [hO]; exact we_283) ?_
  refine sd_if_eq (tgt := 17) (hF _) (jde hC (by decide +kernel : decode cJ5_isLatin1_aae02 3 = .ok (.ifCond .eq 14, 3))) rfl (fun z => absurd z (by decide)) (fun _ => ?_)
  refine jd_aload_n (i := 0) (hF _) (jde hC (by decide +kernel : decode cJ5_isLatin1_aae02 6 = .ok (.aload_n 0, 1))) rfl rfl ?_
  refine jd_get (k := 0) (f := 1) (q := (RJ4, TJ4, 4)) (hF _) (jde hC (by decide +kernel : decode cJ5_isLatin1_aae02 7 = .ok (.getfield 22, 3))) rfl rfl (Nat.le_of_ble_eq_true rfl) (Or.inl (by (try rw [xwO]); rw [hO]; exact we_293)) rfl ?_
  refine sd_if_ne (tgt := 17) (hF _) (jde hC (by decide +kernel : decode cJ5_isLatin1_aae02 10 = .ok (.ifCond .ne 7, 3))) rfl (fun z => absurd (rfl) z) (fun _ => ?_)
  refine sd_iconst (v := 1) (hF _) (jde hC (by decide +kernel : decode cJ5_isLatin1_aae02 13 = .ok (.iconst 1, 1))) ?_
  refine sd_goto (tgt := 18) (hF _) (jde hC (by decide +kernel : decode cJ5_isLatin1_aae02 14 = .ok (.goto 4, 3))) rfl ?_
  exact hE _ 18 0 _ _ (some (.int 1)) (by decide +kernel : decode cJ5_isLatin1_aae02 18 = .ok (.ireturn, 1)) ⟨_, _, rfl, rfl, by decide⟩ ⟨rfl, rfl⟩ (Nat.le_of_ble_eq_true rfl)
set_option maxRecDepth 100000 in
theorem jm_nlen {D : va_G} {cs : Nat → ClassId} {b : Nat} {ad : Rf → Nat} {adV : Nat → Nat} {sc : Nat × (Nat → Int32)} {l : Launch} {a c d : Nat} {ws : va_W} (ha : a ≤ 200) (hc : c ≤ 200) (hd : d ≤ 202) (h0 : 0 < d) : JC (D, cs, b, ad, adV, sc) l yJ8_newLength_cabcc cJ8_newLength_cabcc 4 (some .int) 1 0 [.int (nI a), .int (nI c), .int (nI d)] (ws : va_W) (pD (some (.int (nI (a + (if c < d then d else c))))) ws) := by
  refine jc_of (by decide +kernel) (by simp [Value.category]) (Nat.le_of_ble_eq_true rfl) ?_
  intro x hF hC hO hG hV hK hH hI hE
  show WJ x (ws : va_W) 0 ([some (.inl (.int (nI a))), some (.inl (.int (nI c))), some (.inl (.int (nI d))), none] : Ls) ([] : List AV) 0
  refine jd_iload_n (i := 0) (hF _) (jde hC (by decide +kernel : decode cJ8_newLength_cabcc 0 = .ok (.iload_n 0, 1))) rfl rfl ?_
  refine jd_iload_n (i := 1) (hF _) (jde hC (by decide +kernel : decode cJ8_newLength_cabcc 1 = .ok (.iload_n 1, 1))) rfl rfl ?_
  refine jd_iload_n (i := 2) (hF _) (jde hC (by decide +kernel : decode cJ8_newLength_cabcc 2 = .ok (.iload_n 2, 1))) rfl rfl ?_
  refine jd_mmax (hF _) (jde hC (by decide +kernel : decode cJ8_newLength_cabcc 3 = .ok (.invokestatic 194, 3))) (by (try rw [xwO]); rw [hO]; exact we_817) we_818 we_103 we_819 (by (try rw [xwV]); rw [hV]; exact Nat.le_of_ble_eq_true rfl) (Nat.le_of_ble_eq_true rfl) (by (try rw [xwG]); rw [hG]; exact Nat.le_of_ble_eq_true rfl) ?_
  refine jd_top (b := .inl (.int (nI (if c < d then d else c)))) (congrArg (fun z => (Sum.inl (Value.int z) : AV)) (nI_mx (by omega) (by omega))) ?_
  refine sd_iadd (hF _) (jde hC (by decide +kernel : decode cJ8_newLength_cabcc 6 = .ok (.iadd, 1))) ?_
  refine jd_top (b := .inl (.int (nI (a + (if c < d then d else c))))) (congrArg (fun z => (Sum.inl (Value.int z) : AV)) (nI_add _ _)) ?_
  refine jd_istore_n (i := 3) (hF _) (jde hC (by decide +kernel : decode cJ8_newLength_cabcc 7 = .ok (.istore_n 3, 1))) rfl rfl (Nat.le_of_ble_eq_true rfl) ?_
  refine sd_iconst (v := 0) (hF _) (jde hC (by decide +kernel : decode cJ8_newLength_cabcc 8 = .ok (.iconst 0, 1))) ?_
  refine jd_iload_n (i := 3) (hF _) (jde hC (by decide +kernel : decode cJ8_newLength_cabcc 9 = .ok (.iload_n 3, 1))) rfl rfl ?_
  refine sd_icmp_ge (tgt := 21) (hF _) (jde hC (by decide +kernel : decode cJ8_newLength_cabcc 10 = .ok (.if_icmp .ge 11, 3))) rfl (fun z => absurd z (nI_nle (by split <;> omega) (by split <;> omega))) (fun _ => ?_)
  refine jd_iload_n (i := 3) (hF _) (jde hC (by decide +kernel : decode cJ8_newLength_cabcc 13 = .ok (.iload_n 3, 1))) rfl rfl ?_
  refine jd_ldc (v := 2147483639) (hF _) (jde hC (by decide +kernel : decode cJ8_newLength_cabcc 14 = .ok (.ldc 200, 2))) (by (try rw [xwO]); rw [hO]; exact we_820) ?_
  refine sd_icmp_gt (tgt := 21) (hF _) (jde hC (by decide +kernel : decode cJ8_newLength_cabcc 16 = .ok (.if_icmp .gt 5, 3))) rfl (fun z => absurd z (show ¬ nI 2147483639 < nI _ from nI_nlt (by split <;> omega) (by decide))) (fun _ => ?_)
  refine jd_iload_n (i := 3) (hF _) (jde hC (by decide +kernel : decode cJ8_newLength_cabcc 19 = .ok (.iload_n 3, 1))) rfl rfl ?_
  exact hE _ 20 0 _ _ (some (.int (nI (a + (if c < d then d else c))))) (by decide +kernel : decode cJ8_newLength_cabcc 20 = .ok (.ireturn, 1)) ⟨_, _, rfl, rfl, rfl⟩ ⟨rfl, rfl⟩ (Nat.le_of_ble_eq_true rfl)
set_option maxRecDepth 100000 in
theorem jm_ncap {D : va_G} {cs : Nat → ClassId} {b : Nat} {ad : Rf → Nat} {adV : Nat → Nat} {sc : Nat × (Nat → Int32)} {l : Launch} {h q cap n : Nat} {f : Nat → Int32} {ml : Int32} {R : va_W} {m : Nat} (hm : cap < m) (hm2 : m ≤ 100) : JC (D, cs, b, ad, adV, sc) l yJ5_newCapacity_0f7a4 cJ5_newCapacity_0f7a4 6 (some .int) 2 0 [.ref h, .int (nI m)] ((h, .inr (8, [.ref q, .int 0, .int ml, .int (nI n)])) :: (q, .inl (cs 5, cap, .inl f)) :: R : va_W) (pD (some (.int (nI (cap + (if m - cap < cap + 2 then cap + 2 else m - cap))))) ((h, .inr (8, [.ref q, .int 0, .int ml, .int (nI n)])) :: (q, .inl (cs 5, cap, .inl f)) :: R)) := by
  refine jc_of (by decide +kernel) (by simp [Value.category]) (Nat.le_of_ble_eq_true rfl) ?_
  intro x hF hC hO hG hV hK hH hI hE
  show WJ x ((h, .inr (8, [.ref q, .int 0, .int ml, .int (nI n)])) :: (q, .inl (cs 5, cap, .inl f)) :: R : va_W) 0 ([some (.inl (.ref h)), some (.inl (.int (nI m))), none, none, none, none] : Ls) ([] : List AV) 0
  refine jd_aload_n (i := 0) (hF _) (jde hC (by decide +kernel : decode cJ5_newCapacity_0f7a4 0 = .ok (.aload_n 0, 1))) rfl rfl ?_
  refine jd_get (k := 0) (f := 0) (q := (RJ4, TJ4, 4)) (hF _) (jde hC (by decide +kernel : decode cJ5_newCapacity_0f7a4 1 = .ok (.getfield 15, 3))) rfl rfl (Nat.le_of_ble_eq_true rfl) (Or.inl (by (try rw [xwO]); rw [hO]; exact we_292)) rfl ?_
  refine jd_alen (k := 1) (a := (cap, .inl f)) (hF _) (jde hC (by decide +kernel : decode cJ5_newCapacity_0f7a4 4 = .ok (.arraylength, 1))) (by rw [hK]; rfl) ?_
  refine jd_istore_n (i := 2) (hF _) (jde hC (by decide +kernel : decode cJ5_newCapacity_0f7a4 5 = .ok (.istore_n 2, 1))) rfl rfl (Nat.le_of_ble_eq_true rfl) ?_
  refine jd_iload_n (i := 1) (hF _) (jde hC (by decide +kernel : decode cJ5_newCapacity_0f7a4 6 = .ok (.iload_n 1, 1))) rfl rfl ?_
  refine jd_aload_n (i := 0) (hF _) (jde hC (by decide +kernel : decode cJ5_newCapacity_0f7a4 7 = .ok (.aload_n 0, 1))) rfl rfl ?_
  refine jd_get (k := 0) (f := 1) (q := (RJ4, TJ4, 4)) (hF _) (jde hC (by decide +kernel : decode cJ5_newCapacity_0f7a4 8 = .ok (.getfield 22, 3))) rfl rfl (Nat.le_of_ble_eq_true rfl) (Or.inl (by (try rw [xwO]); rw [hO]; exact we_293)) rfl ?_
  refine jd_ishl (hF _) (jde hC (by decide +kernel : decode cJ5_newCapacity_0f7a4 11 = .ok (.ishl, 1))) ?_
  refine jd_top (b := .inl (.int (nI m))) (congrArg (fun z => (Sum.inl (Value.int z) : AV)) (sb_shl0 _)) ?_
  refine jd_istore_n (i := 3) (hF _) (jde hC (by decide +kernel : decode cJ5_newCapacity_0f7a4 12 = .ok (.istore_n 3, 1))) rfl rfl (Nat.le_of_ble_eq_true rfl) ?_
  refine jd_iload_n (i := 3) (hF _) (jde hC (by decide +kernel : decode cJ5_newCapacity_0f7a4 13 = .ok (.iload_n 3, 1))) rfl rfl ?_
  refine jd_iload_n (i := 2) (hF _) (jde hC (by decide +kernel : decode cJ5_newCapacity_0f7a4 14 = .ok (.iload_n 2, 1))) rfl rfl ?_
  refine sd_isub (hF _) (jde hC (by decide +kernel : decode cJ5_newCapacity_0f7a4 15 = .ok (.isub, 1))) ?_
  refine jd_top (b := .inl (.int (nI (m - cap)))) (congrArg (fun z => (Sum.inl (Value.int z) : AV)) (pk_sub (by omega))) ?_
  refine jd_istore (i := 4) (hF _) (jde hC (by decide +kernel : decode cJ5_newCapacity_0f7a4 16 = .ok (.istore 4, 2))) rfl (Nat.le_of_ble_eq_true rfl) ?_
  refine jd_iload_n (i := 2) (hF _) (jde hC (by decide +kernel : decode cJ5_newCapacity_0f7a4 18 = .ok (.iload_n 2, 1))) rfl rfl ?_
  refine jd_iload (i := 4) (hF _) (jde hC (by decide +kernel : decode cJ5_newCapacity_0f7a4 19 = .ok (.iload 4, 2))) rfl ?_
  refine jd_iload_n (i := 2) (hF _) (jde hC (by decide +kernel : decode cJ5_newCapacity_0f7a4 21 = .ok (.iload_n 2, 1))) rfl rfl ?_
  refine sd_iconst (v := 2) (hF _) (jde hC (by decide +kernel : decode cJ5_newCapacity_0f7a4 22 = .ok (.iconst 2, 1))) ?_
  refine jd_aload_n (i := 0) (hF _) (jde hC (by decide +kernel : decode cJ5_newCapacity_0f7a4 23 = .ok (.aload_n 0, 1))) rfl rfl ?_
  refine jd_get (k := 0) (f := 1) (q := (RJ4, TJ4, 4)) (hF _) (jde hC (by decide +kernel : decode cJ5_newCapacity_0f7a4 24 = .ok (.getfield 22, 3))) rfl rfl (Nat.le_of_ble_eq_true rfl) (Or.inl (by (try rw [xwO]); rw [hO]; exact we_293)) rfl ?_
  refine jd_ishl (hF _) (jde hC (by decide +kernel : decode cJ5_newCapacity_0f7a4 27 = .ok (.ishl, 1))) ?_
  refine sd_iadd (hF _) (jde hC (by decide +kernel : decode cJ5_newCapacity_0f7a4 28 = .ok (.iadd, 1))) ?_
  refine jd_top (b := .inl (.int (nI (cap + 2)))) (congrArg (fun z => (Sum.inl (Value.int z) : AV)) ((by rw [sb_shl0]; exact nI_add cap 2))) ?_
  refine jd_callS (n := 3) (vs := [.int (nI cap), .int (nI (m - cap)), .int (nI (cap + 2))]) (rest := []) (hF _) (jde hC (by decide +kernel : decode cJ5_newCapacity_0f7a4 29 = .ok (.invokestatic 114, 3))) (by rw [hK, hH]; exact jm_nlen (by omega) (by omega) (by omega) (by omega)) (by (try rw [xwO]); rw [hO]; exact we_814) we_815 we_111 we_816 ⟨by decide +kernel, by decide +kernel, by decide +kernel⟩ rfl (Nat.le_of_ble_eq_true rfl) (by (try rw [xwV]); rw [hV]; exact Nat.le_of_ble_eq_true rfl) rfl (Nat.le_of_ble_eq_true rfl) (by (try rw [xwG]); rw [hG]; exact Nat.le_of_ble_eq_true rfl) (fun v w hp => ?_)
  obtain ⟨rfl, rfl⟩ := hp
  show WJ x ((h, .inr (8, [.ref q, .int 0, .int ml, .int (nI n)])) :: (q, .inl (cs 5, cap, .inl f)) :: R : va_W) 32 ([some (.inl (.ref h)), some (.inl (.int (nI m))), some (.inl (.int (nI cap))), some (.inl (.int (nI m))), some (.inl (.int (nI (m - cap)))), none] : Ls) ([.inl (.int (nI (cap + (if m - cap < cap + 2 then cap + 2 else m - cap))))] : List AV) 0
  refine jd_istore (i := 5) (hF _) (jde hC (by decide +kernel : decode cJ5_newCapacity_0f7a4 32 = .ok (.istore 5, 2))) rfl (Nat.le_of_ble_eq_true rfl) ?_
  refine jd_iload (i := 5) (hF _) (jde hC (by decide +kernel : decode cJ5_newCapacity_0f7a4 34 = .ok (.iload 5, 2))) rfl ?_
  refine jd_ldc (v := 2147483647) (hF _) (jde hC (by decide +kernel : decode cJ5_newCapacity_0f7a4 36 = .ok (.ldc 39, 2))) (by (try rw [xwO]); rw [hO]; exact we_824) ?_
  refine sd_icmp_ne (tgt := 51) (hF _) (jde hC (by decide +kernel : decode cJ5_newCapacity_0f7a4 38 = .ok (.if_icmp .ne 13, 3))) rfl (fun _ => ?_) (fun z => absurd z (fun z => absurd ((nI_eq (by split <;> omega) (by decide)).mp (show _ = nI 2147483647 from z)) (by split <;> omega)))
  refine jd_iload (i := 5) (hF _) (jde hC (by decide +kernel : decode cJ5_newCapacity_0f7a4 51 = .ok (.iload 5, 2))) rfl ?_
  refine jd_aload_n (i := 0) (hF _) (jde hC (by decide +kernel : decode cJ5_newCapacity_0f7a4 53 = .ok (.aload_n 0, 1))) rfl rfl ?_
  refine jd_get (k := 0) (f := 1) (q := (RJ4, TJ4, 4)) (hF _) (jde hC (by decide +kernel : decode cJ5_newCapacity_0f7a4 54 = .ok (.getfield 22, 3))) rfl rfl (Nat.le_of_ble_eq_true rfl) (Or.inl (by (try rw [xwO]); rw [hO]; exact we_293)) rfl ?_
  refine jd_ishr (hF _) (jde hC (by decide +kernel : decode cJ5_newCapacity_0f7a4 57 = .ok (.ishr, 1))) ?_
  refine jd_top (b := .inl (.int (nI (cap + (if m - cap < cap + 2 then cap + 2 else m - cap))))) (congrArg (fun z => (Sum.inl (Value.int z) : AV)) (sb_shr0 _)) ?_
  exact hE _ 58 0 _ _ (some (.int (nI (cap + (if m - cap < cap + 2 then cap + 2 else m - cap))))) (by decide +kernel : decode cJ5_newCapacity_0f7a4 58 = .ok (.ireturn, 1)) ⟨_, _, rfl, rfl, rfl⟩ ⟨rfl, rfl⟩ (Nat.le_of_ble_eq_true rfl)
set_option maxRecDepth 100000 in
theorem jm_copy {D : va_G} {cs : Nat → ClassId} {b : Nat} {ad : Rf → Nat} {adV : Nat → Nat} {sc : Nat × (Nat → Int32)} {l : Launch} {h q cap m : Nat} {f : Nat → Int32} {v0 v1 v2 v3 : Value} {R : va_W} (hm : cap < m) (hm2 : m ≤ 100) (hf : sb_Fit f) : JC (D, cs, b, ad, adV, sc) l yJ7_copyOf_9075b cJ7_copyOf_9075b 3 (some (.array .byte)) 1 1 [.ref q, .int (nI m)] ((h, .inr (8, [v0, v1, v2, v3])) :: (q, .inl (cs 5, cap, .inl f)) :: R : va_W) (fun v w => ∃ (q2 : Nat) (f2 : Nat → Int32), some (.ref q2) = v ∧ (h, .inr (8, [v0, v1, v2, v3])) :: (q, .inl (cs 5, cap, .inl f)) :: (R ++ [(q2, .inl (cs 5, m, .inl f2))]) = w ∧ sb_Fit f2 ∧ ∀ j, j < cap → f2 j = f j) := by
  refine jc_of (by decide +kernel) (by simp [Value.category]) (Nat.le_of_ble_eq_true rfl) ?_
  intro x hF hC hO hG hV hK hH hI hE
  show WJ x ((h, .inr (8, [v0, v1, v2, v3])) :: (q, .inl (cs 5, cap, .inl f)) :: R : va_W) 0 ([some (.inl (.ref q)), some (.inl (.int (nI m))), none] : Ls) ([] : List AV) 0
  refine jd_iload_n (i := 1) (hF _) (jde hC (by decide +kernel : decode cJ7_copyOf_9075b 0 = .ok (.iload_n 1, 1))) rfl rfl ?_
  refine jd_aload_n (i := 0) (hF _) (jde hC (by decide +kernel : decode cJ7_copyOf_9075b 1 = .ok (.aload_n 0, 1))) rfl rfl ?_
  refine jd_alen (k := 1) (a := (cap, .inl f)) (hF _) (jde hC (by decide +kernel : decode cJ7_copyOf_9075b 2 = .ok (.arraylength, 1))) (by rw [hK]; rfl) ?_
  refine sd_icmp_ne (tgt := 14) (hF _) (jde hC (by decide +kernel : decode cJ7_copyOf_9075b 3 = .ok (.if_icmp .ne 11, 3))) rfl (fun _ => ?_) (fun z => absurd z (fun z => absurd ((nI_eq (by omega) (by omega)).mp (show nI m = nI cap from z)) (by omega)))
  refine jd_iload_n (i := 1) (hF _) (jde hC (by decide +kernel : decode cJ7_copyOf_9075b 14 = .ok (.iload_n 1, 1))) rfl rfl ?_
  refine jd_newa (t := 5) (ty := .byte) (at_ := .byte) (n := (nI m)) (N := m) (a0 := (m, .inl (fun _ => 0))) (nm := "[B") (d := 1) (hF _) (jde hC (by decide +kernel : decode cJ7_copyOf_9075b 15 = .ok (.newarray .byte, 2))) we_306 rfl (by rw [hK]; rfl) (fun s c h => va_nm_byte h) (fun _ => rfl) (nI_pos (by omega)) (nI_clamp (by omega)) (by show m * 1 ≤ _; omega) (by omega) (by decide) (by (try rw [xwG]); rw [hG]; exact Nat.le_of_ble_eq_true rfl) (fun q1 => ?_)
  refine jd_e (ws' := ((h, .inr (8, [v0, v1, v2, v3])) :: (q, .inl (cs 5, cap, .inl f)) :: (R ++ [(q1, .inl (cs 5, m, .inl (fun _ => 0)))]) : va_W)) (by rw [hK]; rfl) ?_
  show WJ x ((h, .inr (8, [v0, v1, v2, v3])) :: (q, .inl (cs 5, cap, .inl f)) :: (R ++ [(q1, .inl (cs 5, m, .inl (fun _ => 0)))]) : va_W) 17 ([some (.inl (.ref q)), some (.inl (.int (nI m))), none] : Ls) ([.inl (.ref q1)] : List AV) 1
  refine jd_astore_n (i := 2) (hF _) (jde hC (by decide +kernel : decode cJ7_copyOf_9075b 17 = .ok (.astore_n 2, 1))) rfl rfl (Nat.le_of_ble_eq_true rfl) ?_
  refine jd_aload_n (i := 0) (hF _) (jde hC (by decide +kernel : decode cJ7_copyOf_9075b 18 = .ok (.aload_n 0, 1))) rfl rfl ?_
  refine sd_iconst (v := 0) (hF _) (jde hC (by decide +kernel : decode cJ7_copyOf_9075b 19 = .ok (.iconst 0, 1))) ?_
  refine jd_aload_n (i := 2) (hF _) (jde hC (by decide +kernel : decode cJ7_copyOf_9075b 20 = .ok (.aload_n 2, 1))) rfl rfl ?_
  refine sd_iconst (v := 0) (hF _) (jde hC (by decide +kernel : decode cJ7_copyOf_9075b 21 = .ok (.iconst 0, 1))) ?_
  refine jd_aload_n (i := 0) (hF _) (jde hC (by decide +kernel : decode cJ7_copyOf_9075b 22 = .ok (.aload_n 0, 1))) rfl rfl ?_
  refine jd_alen (k := 1) (a := (cap, .inl f)) (hF _) (jde hC (by decide +kernel : decode cJ7_copyOf_9075b 23 = .ok (.arraylength, 1))) (by rw [hK]; rfl) ?_
  refine jd_iload_n (i := 1) (hF _) (jde hC (by decide +kernel : decode cJ7_copyOf_9075b 24 = .ok (.iload_n 1, 1))) rfl rfl ?_
  refine jd_mmin (hF _) (jde hC (by decide +kernel : decode cJ7_copyOf_9075b 25 = .ok (.invokestatic 304, 3))) (by (try rw [xwO]); rw [hO]; exact we_835) we_588 we_103 we_589 (by (try rw [xwV]); rw [hV]; exact Nat.le_of_ble_eq_true rfl) (Nat.le_of_ble_eq_true rfl) (by (try rw [xwG]); rw [hG]; exact Nat.le_of_ble_eq_true rfl) ?_
  refine jd_top (b := .inl (.int (nI cap))) (congrArg (fun z => (Sum.inl (Value.int z) : AV)) (if_neg (nI_nlt (by omega) (by omega)))) ?_
  refine jd_copyB (k0 := 1) (k1 := R.length + 2) (n0 := cap) (n1 := m) (f := f) (g := fun _ => 0) (hF _) (jde hC (by decide +kernel : decode cJ7_copyOf_9075b 28 = .ok (.invokestatic 150, 3))) (by (try rw [xwO]); rw [hO]; exact we_836) we_571 we_570 we_108 (by rw [hK]; rfl) (by rw [hK]; exact Q_at _ _ _ _) (by decide) (by decide) (nI_pos (by omega)) (by rw [nI_clamp (by omega)]; show 0 + cap ≤ cap; omega) (by rw [nI_clamp (by omega)]; show 0 + cap ≤ m; omega) hf (by (try rw [xwV]); rw [hV]; exact Nat.le_of_ble_eq_true rfl) (Nat.le_of_ble_eq_true rfl) ?_
  refine jd_e (ws' := ((h, .inr (8, [v0, v1, v2, v3])) :: (q, .inl (cs 5, cap, .inl f)) :: (R ++ [(q1, .inl (cs 5, m, .inl (va_cpy f (fun _ => 0) 0 0 cap)))]) : va_W)) (by rw [hK, nI_clamp (by omega), Q_set]; rfl) ?_
  show WJ x ((h, .inr (8, [v0, v1, v2, v3])) :: (q, .inl (cs 5, cap, .inl f)) :: (R ++ [(q1, .inl (cs 5, m, .inl (va_cpy f (fun _ => 0) 0 0 cap)))]) : va_W) 31 ([some (.inl (.ref q)), some (.inl (.int (nI m))), some (.inl (.ref q1))] : Ls) ([] : List AV) 1
  refine jd_aload_n (i := 2) (hF _) (jde hC (by decide +kernel : decode cJ7_copyOf_9075b 31 = .ok (.aload_n 2, 1))) rfl rfl ?_
  exact hE _ 32 1 _ _ (some (.ref q1)) (by decide +kernel : decode cJ7_copyOf_9075b 32 = .ok (.areturn, 1)) ⟨Or.inr ⟨_, rfl⟩, Or.inr ⟨_, rfl⟩⟩ ⟨_, _, rfl, rfl, sb_fitC hf sb_fit0, fun j hj => sb_cpy0 hj⟩ (Nat.le_of_ble_eq_true rfl)
def pE (cs : Nat → ClassId) (h cap m : Nat) (ml cnt : Int32) (f : Nat → Int32) (R : va_W) (v0 : Option Value) : Option Value → va_W → Prop := fun v w => v0 = v ∧ ∃ (q2 cap2 : Nat) (f2 : Nat → Int32), ((h, .inr (8, [.ref q2, .int 0, .int ml, .int cnt])) :: (q2, .inl (cs 5, cap2, .inl f2)) :: R : va_W) = w ∧ m ≤ cap2 ∧ cap2 ≤ 100 ∧ sb_Fit f2 ∧ ∀ j, j < cap → f2 j = f j
theorem W_drop {D : va_G} {cl : List vw_C} {H : Heap} (a b c : Nat × va_E) (R : va_W) (h : va_P D cl (a :: b :: (R ++ [c])) H) : va_P D cl (a :: c :: R) H := by
  have h1 : va_P D cl (([a] ++ [c]) ++ (b :: R)) H := va_P.swap (a := [a]) (b := b :: R) (c := [c]) h
  have h2 : va_P D cl ([a, c] ++ R ++ [b]) H := va_P.swap (a := [a, c]) (b := [b]) (c := R) (by simpa using h1)
  exact va_P.pre h2
theorem W_dropD {A : Nat → Prop} (a b c : Nat × va_E) (R : va_W) (h : va_D A (a :: b :: (R ++ [c]))) : va_D A (a :: c :: R) := by
  have h1 : va_D A (([a] ++ [c]) ++ (b :: R)) := va_D.swap (a := [a]) (b := b :: R) (c := [c]) h
  have h2 : va_D A ([a, c] ++ R ++ [b]) := va_D.swap (a := [a, c]) (b := [b]) (c := R) (by simpa using h1)
  exact va_D.pre h2
set_option maxRecDepth 100000 in
theorem jm_ens0 {D : va_G} {cs : Nat → ClassId} {b : Nat} {ad : Rf → Nat} {adV : Nat → Nat} {sc : Nat × (Nat → Int32)} {l : Launch} {h q cap n : Nat} {f : Nat → Int32} {ml : Int32} {R : va_W} {m : Nat} (hf : sb_Fit f) (hc : cap ≤ 100) (hm : m ≤ cap) : JC (D, cs, b, ad, adV, sc) l yJ5_ensureCapacityInternal_d00df cJ5_ensureCapacityInternal_d00df 3 none 3 1 [.ref h, .int (nI m)] ((h, .inr (8, [.ref q, .int 0, .int ml, .int (nI n)])) :: (q, .inl (cs 5, cap, .inl f)) :: R : va_W) (pE cs h cap m ml (nI n) f R none) := by
  refine jc_of (by decide +kernel) (by simp [Value.category]) (Nat.le_of_ble_eq_true rfl) ?_
  intro x hF hC hO hG hV hK hH hI hE
  show WJ x ((h, .inr (8, [.ref q, .int 0, .int ml, .int (nI n)])) :: (q, .inl (cs 5, cap, .inl f)) :: R : va_W) 0 ([some (.inl (.ref h)), some (.inl (.int (nI m))), none] : Ls) ([] : List AV) 0
  refine jd_aload_n (i := 0) (hF _) (jde hC (by decide +kernel : decode cJ5_ensureCapacityInternal_d00df 0 = .ok (.aload_n 0, 1))) rfl rfl ?_
  refine jd_get (k := 0) (f := 0) (q := (RJ4, TJ4, 4)) (hF _) (jde hC (by decide +kernel : decode cJ5_ensureCapacityInternal_d00df 1 = .ok (.getfield 15, 3))) rfl rfl (Nat.le_of_ble_eq_true rfl) (Or.inl (by (try rw [xwO]); rw [hO]; exact we_292)) rfl ?_
  refine jd_alen (k := 1) (a := (cap, .inl f)) (hF _) (jde hC (by decide +kernel : decode cJ5_ensureCapacityInternal_d00df 4 = .ok (.arraylength, 1))) (by rw [hK]; rfl) ?_
  refine jd_aload_n (i := 0) (hF _) (jde hC (by decide +kernel : decode cJ5_ensureCapacityInternal_d00df 5 = .ok (.aload_n 0, 1))) rfl rfl ?_
  refine jd_get (k := 0) (f := 1) (q := (RJ4, TJ4, 4)) (hF _) (jde hC (by decide +kernel : decode cJ5_ensureCapacityInternal_d00df 6 = .ok (.getfield 22, 3))) rfl rfl (Nat.le_of_ble_eq_true rfl) (Or.inl (by (try rw [xwO]); rw [hO]; exact we_293)) rfl ?_
  refine jd_ishr (hF _) (jde hC (by decide +kernel : decode cJ5_ensureCapacityInternal_d00df 9 = .ok (.ishr, 1))) ?_
  refine jd_top (b := .inl (.int (nI cap))) (congrArg (fun z => (Sum.inl (Value.int z) : AV)) (sb_shr0 _)) ?_
  refine jd_istore_n (i := 2) (hF _) (jde hC (by decide +kernel : decode cJ5_ensureCapacityInternal_d00df 10 = .ok (.istore_n 2, 1))) rfl rfl (Nat.le_of_ble_eq_true rfl) ?_
  refine jd_iload_n (i := 1) (hF _) (jde hC (by decide +kernel : decode cJ5_ensureCapacityInternal_d00df 11 = .ok (.iload_n 1, 1))) rfl rfl ?_
  refine jd_iload_n (i := 2) (hF _) (jde hC (by decide +kernel : decode cJ5_ensureCapacityInternal_d00df 12 = .ok (.iload_n 2, 1))) rfl rfl ?_
  refine sd_isub (hF _) (jde hC (by decide +kernel : decode cJ5_ensureCapacityInternal_d00df 13 = .ok (.isub, 1))) ?_
  refine sd_if_le (tgt := 38) (hF _) (jde hC (by decide +kernel : decode cJ5_ensureCapacityInternal_d00df 14 = .ok (.ifCond .le 24, 3))) rfl (fun _ => ?_) (fun z => absurd (by rw [Int32.le_iff_toInt_le, pk_sub_toInt (by omega) (by omega), Int32.toInt_zero]; omega) z)
  exact hE _ 38 0 _ _ (none) (by decide +kernel : decode cJ5_ensureCapacityInternal_d00df 38 = .ok (.return_, 1)) ⟨rfl, rfl⟩ ⟨rfl, _, _, _, rfl, hm, hc, hf, fun _ _ => rfl⟩ (Nat.le_of_ble_eq_true rfl)
set_option maxRecDepth 100000 in
theorem jm_ens00 {D : va_G} {cs : Nat → ClassId} {b : Nat} {ad : Rf → Nat} {adV : Nat → Nat} {sc : Nat × (Nat → Int32)} {l : Launch} {h q cap n : Nat} {f : Nat → Int32} {ml : Int32} {R : va_W} {m : Nat} (hf : sb_Fit f) (hc : cap ≤ 100) (hm : m ≤ cap) : JC (D, cs, b, ad, adV, sc) l yJ5_ensureCapacityInternal_d00df cJ5_ensureCapacityInternal_d00df 3 none 3 0 [.ref h, .int (nI m)] ((h, .inr (8, [.ref q, .int 0, .int ml, .int (nI n)])) :: (q, .inl (cs 5, cap, .inl f)) :: R : va_W) (pE cs h cap m ml (nI n) f R none) := by
  refine jc_of (by decide +kernel) (by simp [Value.category]) (Nat.le_of_ble_eq_true rfl) ?_
  intro x hF hC hO hG hV hK hH hI hE
  show WJ x ((h, .inr (8, [.ref q, .int 0, .int ml, .int (nI n)])) :: (q, .inl (cs 5, cap, .inl f)) :: R : va_W) 0 ([some (.inl (.ref h)), some (.inl (.int (nI m))), none] : Ls) ([] : List AV) 0
  refine jd_aload_n (i := 0) (hF _) (jde hC (by decide +kernel : decode cJ5_ensureCapacityInternal_d00df 0 = .ok (.aload_n 0, 1))) rfl rfl ?_
  refine jd_get (k := 0) (f := 0) (q := (RJ4, TJ4, 4)) (hF _) (jde hC (by decide +kernel : decode cJ5_ensureCapacityInternal_d00df 1 = .ok (.getfield 15, 3))) rfl rfl (Nat.le_of_ble_eq_true rfl) (Or.inl (by (try rw [xwO]); rw [hO]; exact we_292)) rfl ?_
  refine jd_alen (k := 1) (a := (cap, .inl f)) (hF _) (jde hC (by decide +kernel : decode cJ5_ensureCapacityInternal_d00df 4 = .ok (.arraylength, 1))) (by rw [hK]; rfl) ?_
  refine jd_aload_n (i := 0) (hF _) (jde hC (by decide +kernel : decode cJ5_ensureCapacityInternal_d00df 5 = .ok (.aload_n 0, 1))) rfl rfl ?_
  refine jd_get (k := 0) (f := 1) (q := (RJ4, TJ4, 4)) (hF _) (jde hC (by decide +kernel : decode cJ5_ensureCapacityInternal_d00df 6 = .ok (.getfield 22, 3))) rfl rfl (Nat.le_of_ble_eq_true rfl) (Or.inl (by (try rw [xwO]); rw [hO]; exact we_293)) rfl ?_
  refine jd_ishr (hF _) (jde hC (by decide +kernel : decode cJ5_ensureCapacityInternal_d00df 9 = .ok (.ishr, 1))) ?_
  refine jd_top (b := .inl (.int (nI cap))) (congrArg (fun z => (Sum.inl (Value.int z) : AV)) (sb_shr0 _)) ?_
  refine jd_istore_n (i := 2) (hF _) (jde hC (by decide +kernel : decode cJ5_ensureCapacityInternal_d00df 10 = .ok (.istore_n 2, 1))) rfl rfl (Nat.le_of_ble_eq_true rfl) ?_
  refine jd_iload_n (i := 1) (hF _) (jde hC (by decide +kernel : decode cJ5_ensureCapacityInternal_d00df 11 = .ok (.iload_n 1, 1))) rfl rfl ?_
  refine jd_iload_n (i := 2) (hF _) (jde hC (by decide +kernel : decode cJ5_ensureCapacityInternal_d00df 12 = .ok (.iload_n 2, 1))) rfl rfl ?_
  refine sd_isub (hF _) (jde hC (by decide +kernel : decode cJ5_ensureCapacityInternal_d00df 13 = .ok (.isub, 1))) ?_
  refine sd_if_le (tgt := 38) (hF _) (jde hC (by decide +kernel : decode cJ5_ensureCapacityInternal_d00df 14 = .ok (.ifCond .le 24, 3))) rfl (fun _ => ?_) (fun z => absurd (by rw [Int32.le_iff_toInt_le, pk_sub_toInt (by omega) (by omega), Int32.toInt_zero]; omega) z)
  exact hE _ 38 0 _ _ (none) (by decide +kernel : decode cJ5_ensureCapacityInternal_d00df 38 = .ok (.return_, 1)) ⟨rfl, rfl⟩ ⟨rfl, _, _, _, rfl, hm, hc, hf, fun _ _ => rfl⟩ (Nat.le_of_ble_eq_true rfl)
set_option maxRecDepth 100000 in
theorem jm_ens1 {D : va_G} {cs : Nat → ClassId} {b : Nat} {ad : Rf → Nat} {adV : Nat → Nat} {sc : Nat × (Nat → Int32)} {l : Launch} {h q cap n : Nat} {f : Nat → Int32} {ml : Int32} {R : va_W} {m : Nat} (hf : sb_Fit f) (hc : cap ≤ 100) (hm : cap < m) (hm2 : m ≤ 48) : JC (D, cs, b, ad, adV, sc) l yJ5_ensureCapacityInternal_d00df cJ5_ensureCapacityInternal_d00df 3 none 3 1 [.ref h, .int (nI m)] ((h, .inr (8, [.ref q, .int 0, .int ml, .int (nI n)])) :: (q, .inl (cs 5, cap, .inl f)) :: R : va_W) (pE cs h cap m ml (nI n) f R none) := by
  refine jc_of (by decide +kernel) (by simp [Value.category]) (Nat.le_of_ble_eq_true rfl) ?_
  intro x hF hC hO hG hV hK hH hI hE
  show WJ x ((h, .inr (8, [.ref q, .int 0, .int ml, .int (nI n)])) :: (q, .inl (cs 5, cap, .inl f)) :: R : va_W) 0 ([some (.inl (.ref h)), some (.inl (.int (nI m))), none] : Ls) ([] : List AV) 0
  refine jd_aload_n (i := 0) (hF _) (jde hC (by decide +kernel : decode cJ5_ensureCapacityInternal_d00df 0 = .ok (.aload_n 0, 1))) rfl rfl ?_
  refine jd_get (k := 0) (f := 0) (q := (RJ4, TJ4, 4)) (hF _) (jde hC (by decide +kernel : decode cJ5_ensureCapacityInternal_d00df 1 = .ok (.getfield 15, 3))) rfl rfl (Nat.le_of_ble_eq_true rfl) (Or.inl (by (try rw [xwO]); rw [hO]; exact we_292)) rfl ?_
  refine jd_alen (k := 1) (a := (cap, .inl f)) (hF _) (jde hC (by decide +kernel : decode cJ5_ensureCapacityInternal_d00df 4 = .ok (.arraylength, 1))) (by rw [hK]; rfl) ?_
  refine jd_aload_n (i := 0) (hF _) (jde hC (by decide +kernel : decode cJ5_ensureCapacityInternal_d00df 5 = .ok (.aload_n 0, 1))) rfl rfl ?_
  refine jd_get (k := 0) (f := 1) (q := (RJ4, TJ4, 4)) (hF _) (jde hC (by decide +kernel : decode cJ5_ensureCapacityInternal_d00df 6 = .ok (.getfield 22, 3))) rfl rfl (Nat.le_of_ble_eq_true rfl) (Or.inl (by (try rw [xwO]); rw [hO]; exact we_293)) rfl ?_
  refine jd_ishr (hF _) (jde hC (by decide +kernel : decode cJ5_ensureCapacityInternal_d00df 9 = .ok (.ishr, 1))) ?_
  refine jd_top (b := .inl (.int (nI cap))) (congrArg (fun z => (Sum.inl (Value.int z) : AV)) (sb_shr0 _)) ?_
  refine jd_istore_n (i := 2) (hF _) (jde hC (by decide +kernel : decode cJ5_ensureCapacityInternal_d00df 10 = .ok (.istore_n 2, 1))) rfl rfl (Nat.le_of_ble_eq_true rfl) ?_
  refine jd_iload_n (i := 1) (hF _) (jde hC (by decide +kernel : decode cJ5_ensureCapacityInternal_d00df 11 = .ok (.iload_n 1, 1))) rfl rfl ?_
  refine jd_iload_n (i := 2) (hF _) (jde hC (by decide +kernel : decode cJ5_ensureCapacityInternal_d00df 12 = .ok (.iload_n 2, 1))) rfl rfl ?_
  refine sd_isub (hF _) (jde hC (by decide +kernel : decode cJ5_ensureCapacityInternal_d00df 13 = .ok (.isub, 1))) ?_
  refine sd_if_le (tgt := 38) (hF _) (jde hC (by decide +kernel : decode cJ5_ensureCapacityInternal_d00df 14 = .ok (.ifCond .le 24, 3))) rfl (fun z => absurd z (fun z => by rw [Int32.le_iff_toInt_le, pk_sub_toInt (by omega) (by omega), Int32.toInt_zero] at z; omega)) (fun _ => ?_)
  refine jd_aload_n (i := 0) (hF _) (jde hC (by decide +kernel : decode cJ5_ensureCapacityInternal_d00df 17 = .ok (.aload_n 0, 1))) rfl rfl ?_
  refine jd_aload_n (i := 0) (hF _) (jde hC (by decide +kernel : decode cJ5_ensureCapacityInternal_d00df 18 = .ok (.aload_n 0, 1))) rfl rfl ?_
  refine jd_get (k := 0) (f := 0) (q := (RJ4, TJ4, 4)) (hF _) (jde hC (by decide +kernel : decode cJ5_ensureCapacityInternal_d00df 19 = .ok (.getfield 15, 3))) rfl rfl (Nat.le_of_ble_eq_true rfl) (Or.inl (by (try rw [xwO]); rw [hO]; exact we_292)) rfl ?_
  refine jd_aload_n (i := 0) (hF _) (jde hC (by decide +kernel : decode cJ5_ensureCapacityInternal_d00df 22 = .ok (.aload_n 0, 1))) rfl rfl ?_
  refine jd_iload_n (i := 1) (hF _) (jde hC (by decide +kernel : decode cJ5_ensureCapacityInternal_d00df 23 = .ok (.iload_n 1, 1))) rfl rfl ?_
  refine jd_callU (n := 1) (vs := [.int (nI m)]) (rest := [.inl (.ref q), .inl (.ref h)]) (k := 0) (q := (RJ4, TJ4, 4)) (hF _) (jde hC (by decide +kernel : decode cJ5_ensureCapacityInternal_d00df 24 = .ok (.invokevirtual 104, 3))) (by rw [hK, hH]; exact jm_ncap (by omega) (by omega)) rfl rfl (by (try rw [xwO]); rw [hO]; exact we_810) we_2046 we_812 we_x1 we_93 we_813 ⟨by decide +kernel, by decide +kernel, by decide +kernel⟩ rfl (Nat.le_of_ble_eq_true rfl) (by (try rw [xwV]); rw [hV]; exact Nat.le_of_ble_eq_true rfl) rfl (Nat.le_of_ble_eq_true rfl) (by (try rw [xwG]); rw [hG]; exact Nat.le_of_ble_eq_true rfl) (fun v w hp => ?_)
  obtain ⟨rfl, rfl⟩ := hp
  show WJ x ((h, .inr (8, [.ref q, .int 0, .int ml, .int (nI n)])) :: (q, .inl (cs 5, cap, .inl f)) :: R : va_W) 27 ([some (.inl (.ref h)), some (.inl (.int (nI m))), some (.inl (.int (nI cap)))] : Ls) ([.inl (.int (nI (cap + (if m - cap < cap + 2 then cap + 2 else m - cap)))), .inl (.ref q), .inl (.ref h)] : List AV) 0
  refine jd_aload_n (i := 0) (hF _) (jde hC (by decide +kernel : decode cJ5_ensureCapacityInternal_d00df 27 = .ok (.aload_n 0, 1))) rfl rfl ?_
  refine jd_get (k := 0) (f := 1) (q := (RJ4, TJ4, 4)) (hF _) (jde hC (by decide +kernel : decode cJ5_ensureCapacityInternal_d00df 28 = .ok (.getfield 22, 3))) rfl rfl (Nat.le_of_ble_eq_true rfl) (Or.inl (by (try rw [xwO]); rw [hO]; exact we_293)) rfl ?_
  refine jd_ishl (hF _) (jde hC (by decide +kernel : decode cJ5_ensureCapacityInternal_d00df 31 = .ok (.ishl, 1))) ?_
  refine jd_top (b := .inl (.int (nI (cap + (if m - cap < cap + 2 then cap + 2 else m - cap))))) (congrArg (fun z => (Sum.inl (Value.int z) : AV)) (sb_shl0 _)) ?_
  refine jd_callS (n := 2) (vs := [.ref q, .int (nI (cap + (if m - cap < cap + 2 then cap + 2 else m - cap)))]) (rest := [.inl (.ref h)]) (hF _) (jde hC (by decide +kernel : decode cJ5_ensureCapacityInternal_d00df 32 = .ok (.invokestatic 108, 3))) (by rw [hK, hH]; exact jm_copy (by split <;> omega) (by split <;> omega) hf) (by (try rw [xwO]); rw [hO]; exact we_825) we_826 we_112 we_827 ⟨by decide +kernel, by decide +kernel, by decide +kernel⟩ rfl (Nat.le_of_ble_eq_true rfl) (by (try rw [xwV]); rw [hV]; exact Nat.le_of_ble_eq_true rfl) rfl (Nat.le_of_ble_eq_true rfl) (by (try rw [xwG]); rw [hG]; exact Nat.le_of_ble_eq_true rfl) (fun v w hp => ?_)
  obtain ⟨q2, f2, rfl, rfl, hf2, he2⟩ := hp
  show WJ x ((h, .inr (8, [.ref q, .int 0, .int ml, .int (nI n)])) :: (q, .inl (cs 5, cap, .inl f)) :: (R ++ [(q2, .inl (cs 5, (cap + (if m - cap < cap + 2 then cap + 2 else m - cap)), .inl f2))]) : va_W) 35 ([some (.inl (.ref h)), some (.inl (.int (nI m))), some (.inl (.int (nI cap)))] : Ls) ([.inl (.ref q2), .inl (.ref h)] : List AV) 1
  refine jd_put (k := 0) (f := 0) (q := (RJ4, TJ4, 4)) (ty := (.array .byte)) (hF _) (jde hC (by decide +kernel : decode cJ5_ensureCapacityInternal_d00df 35 = .ok (.putfield 15, 3))) rfl rfl (Nat.le_of_ble_eq_true rfl) (by (try rw [xwO]); rw [hO]; exact we_292) rfl (by decide +kernel) rfl rfl (Nat.le_of_ble_eq_true rfl) ?_
  show WJ x ((h, .inr (8, [.ref q2, .int 0, .int ml, .int (nI n)])) :: (q, .inl (cs 5, cap, .inl f)) :: (R ++ [(q2, .inl (cs 5, (cap + (if m - cap < cap + 2 then cap + 2 else m - cap)), .inl f2))]) : va_W) 38 ([some (.inl (.ref h)), some (.inl (.int (nI m))), some (.inl (.int (nI cap)))] : Ls) ([] : List AV) 1
  refine jd_w (fun _ _ => W_drop _ _ _ _) (fun _ => W_dropD _ _ _ _) ?_
  show WJ x ((h, .inr (8, [.ref q2, .int 0, .int ml, .int (nI n)])) :: (q2, .inl (cs 5, (cap + (if m - cap < cap + 2 then cap + 2 else m - cap)), .inl f2)) :: R : va_W) 38 ([some (.inl (.ref h)), some (.inl (.int (nI m))), some (.inl (.int (nI cap)))] : Ls) ([] : List AV) 1
  exact hE _ 38 1 _ _ (none) (by decide +kernel : decode cJ5_ensureCapacityInternal_d00df 38 = .ok (.return_, 1)) ⟨rfl, rfl⟩ ⟨rfl, _, _, _, rfl, by split <;> omega, by split <;> omega, hf2, he2⟩ (Nat.le_of_ble_eq_true rfl)
theorem jm_ens {D : va_G} {cs : Nat → ClassId} {b : Nat} {ad : Rf → Nat} {adV : Nat → Nat} {sc : Nat × (Nat → Int32)} {l : Launch} {h q cap n : Nat} {f : Nat → Int32} {ml : Int32} {R : va_W} {m : Nat} (hf : sb_Fit f) (hc : cap ≤ 100) (hm2 : m ≤ 48) : JC (D, cs, b, ad, adV, sc) l yJ5_ensureCapacityInternal_d00df cJ5_ensureCapacityInternal_d00df 3 none 3 1 [.ref h, .int (nI m)] ((h, .inr (8, [.ref q, .int 0, .int ml, .int (nI n)])) :: (q, .inl (cs 5, cap, .inl f)) :: R) (pE cs h cap m ml (nI n) f R none) := by
  rcases Nat.lt_or_ge cap m with z | z
  · exact jm_ens1 hf hc z hm2
  · exact jm_ens0 hf hc z
def pA (cs : Nat → ClassId) (h n : Nat) (ml : Int32) (f : Nat → Int32) (R : va_W) (v0 : Option Value) (l : List Int32) : Option Value → va_W → Prop := fun v w => v0 = v ∧ ∃ (q2 cap2 : Nat) (f2 : Nat → Int32), ((h, .inr (8, [.ref q2, .int 0, .int ml, .int (nI (n + l.length))])) :: (q2, .inl (cs 5, cap2, .inl f2)) :: R : va_W) = w ∧ n + l.length ≤ cap2 ∧ cap2 ≤ 100 ∧ sb_Fit f2 ∧ (∀ j, j < n → f2 j = f j) ∧ ∀ j, j < l.length → f2 (n + j) = l.getD j 0
theorem pA_v {cs : Nat → ClassId} {h n : Nat} {ml : Int32} {f : Nat → Int32} {R : va_W} {v0 v1 : Option Value} {l : List Int32} {v : Option Value} {w : va_W} (hp : pA cs h n ml f R v0 l v w) : pA cs h n ml f R v1 l v1 w := ⟨rfl, hp.2⟩
set_option maxRecDepth 100000 in
theorem jm_aac {D : va_G} {cs : Nat → ClassId} {b : Nat} {ad : Rf → Nat} {adV : Nat → Nat} {sc : Nat × (Nat → Int32)} {l : Launch} {h q cap n : Nat} {f : Nat → Int32} {ml : Int32} {R : va_W} {c : Int32} (hf : sb_Fit f) (hn : n < 48) (hnc : n ≤ cap) (hc : cap ≤ 100) (h0 : 0 ≤ c) (h1 : c < 128)  : JC (D, cs, b, ad, adV, sc) l yJ5_append_3fe6f cJ5_append_3fe6f 2 (some (.object "java/lang/AbstractStringBuilder")) 4 1 [.ref h, .int c] ((h, .inr (8, [.ref q, .int 0, .int ml, .int (nI n)])) :: (q, .inl (cs 5, cap, .inl f)) :: R : va_W) (pA cs h n ml f R (some (.ref h)) [c]) := by
  refine jc_of (by decide +kernel) (by simp [Value.category]) (Nat.le_of_ble_eq_true rfl) ?_
  intro x hF hC hO hG hV hK hH hI hE
  show WJ x ((h, .inr (8, [.ref q, .int 0, .int ml, .int (nI n)])) :: (q, .inl (cs 5, cap, .inl f)) :: R : va_W) 0 ([some (.inl (.ref h)), some (.inl (.int c))] : Ls) ([] : List AV) 0
  refine jd_aload_n (i := 0) (hF _) (jde hC (by decide +kernel : decode cJ5_append_3fe6f 0 = .ok (.aload_n 0, 1))) rfl rfl ?_
  refine jd_aload_n (i := 0) (hF _) (jde hC (by decide +kernel : decode cJ5_append_3fe6f 1 = .ok (.aload_n 0, 1))) rfl rfl ?_
  refine jd_get (k := 0) (f := 3) (q := (RJ4, TJ4, 4)) (hF _) (jde hC (by decide +kernel : decode cJ5_append_3fe6f 2 = .ok (.getfield 79, 3))) rfl rfl (Nat.le_of_ble_eq_true rfl) (Or.inl (by (try rw [xwO]); rw [hO]; exact we_296)) rfl ?_
  refine sd_iconst (v := 1) (hF _) (jde hC (by decide +kernel : decode cJ5_append_3fe6f 5 = .ok (.iconst 1, 1))) ?_
  refine sd_iadd (hF _) (jde hC (by decide +kernel : decode cJ5_append_3fe6f 6 = .ok (.iadd, 1))) ?_
  refine jd_top (b := .inl (.int (nI (n + 1)))) (congrArg (fun z => (Sum.inl (Value.int z) : AV)) (nI_1 n)) ?_
  refine jd_callU (n := 1) (vs := [.int (nI (n + 1))]) (rest := []) (k := 0) (q := (RJ4, TJ4, 4)) (hF _) (jde hC (by decide +kernel : decode cJ5_append_3fe6f 7 = .ok (.invokevirtual 100, 3))) (by rw [hK, hH]; exact jm_ens hf hc (by omega)) rfl rfl (by (try rw [xwO]); rw [hO]; exact we_806) we_2045 we_808 we_x0 we_93 we_809 ⟨by decide +kernel, by decide +kernel, by decide +kernel⟩ rfl (Nat.le_of_ble_eq_true rfl) (by (try rw [xwV]); rw [hV]; exact Nat.le_of_ble_eq_true rfl) rfl (Nat.le_of_ble_eq_true rfl) (by (try rw [xwG]); rw [hG]; exact Nat.le_of_ble_eq_true rfl) (fun v w hp => ?_)
  obtain ⟨rfl, q2, cap2, f2, rfl, hm2, hc2, hf2, he2⟩ := hp
  show WJ x ((h, .inr (8, [.ref q2, .int 0, .int ml, .int (nI n)])) :: (q2, .inl (cs 5, cap2, .inl f2)) :: R : va_W) 10 ([some (.inl (.ref h)), some (.inl (.int c))] : Ls) ([] : List AV) 1
  refine jd_aload_n (i := 0) (hF _) (jde hC (by decide +kernel : decode cJ5_append_3fe6f 10 = .ok (.aload_n 0, 1))) rfl rfl ?_
  refine jd_callU (n := 0) (vs := []) (rest := []) (k := 0) (q := (RJ4, TJ4, 4)) (hF _) (jde hC (by decide +kernel : decode cJ5_append_3fe6f 11 = .ok (.invokevirtual 83, 3))) (by rw [hK, hH]; exact jm_isa) rfl rfl (by (try rw [xwO]); rw [hO]; exact we_837) we_839 we_838 we_840 we_93 we_841 ⟨by decide +kernel, by decide +kernel, by decide +kernel⟩ rfl (Nat.le_of_ble_eq_true rfl) (by (try rw [xwV]); rw [hV]; exact Nat.le_of_ble_eq_true rfl) rfl (Nat.le_of_ble_eq_true rfl) (by (try rw [xwG]); rw [hG]; exact Nat.le_of_ble_eq_true rfl) (fun v w hp => ?_)
  obtain ⟨rfl, rfl⟩ := hp
  show WJ x ((h, .inr (8, [.ref q2, .int 0, .int ml, .int (nI n)])) :: (q2, .inl (cs 5, cap2, .inl f2)) :: R : va_W) 14 ([some (.inl (.ref h)), some (.inl (.int c))] : Ls) ([.inl (.int 1)] : List AV) 1
  refine sd_if_eq (tgt := 45) (hF _) (jde hC (by decide +kernel : decode cJ5_append_3fe6f 14 = .ok (.ifCond .eq 31, 3))) rfl (fun z => absurd z (by decide)) (fun _ => ?_)
  refine jd_iload_n (i := 1) (hF _) (jde hC (by decide +kernel : decode cJ5_append_3fe6f 17 = .ok (.iload_n 1, 1))) rfl rfl ?_
  refine jd_callS (n := 1) (vs := [.int c]) (rest := []) (hF _) (jde hC (by decide +kernel : decode cJ5_append_3fe6f 18 = .ok (.invokestatic 191, 3))) (by rw [hK, hH]; exact jm_ce (fun z => absurd (Int32.lt_trans z h1) (by decide))) (by (try rw [xwO]); rw [hO]; exact we_1077) we_1078 we_114 we_1079 ⟨by decide +kernel, by decide +kernel, by decide +kernel⟩ rfl (Nat.le_of_ble_eq_true rfl) (by (try rw [xwV]); rw [hV]; exact Nat.le_of_ble_eq_true rfl) rfl (Nat.le_of_ble_eq_true rfl) (by (try rw [xwG]); rw [hG]; exact Nat.le_of_ble_eq_true rfl) (fun v w hp => ?_)
  obtain ⟨rfl, rfl⟩ := hp
  show WJ x ((h, .inr (8, [.ref q2, .int 0, .int ml, .int (nI n)])) :: (q2, .inl (cs 5, cap2, .inl f2)) :: R : va_W) 21 ([some (.inl (.ref h)), some (.inl (.int c))] : Ls) ([.inl (.int 1)] : List AV) 1
  refine sd_if_eq (tgt := 45) (hF _) (jde hC (by decide +kernel : decode cJ5_append_3fe6f 21 = .ok (.ifCond .eq 24, 3))) rfl (fun z => absurd z (by decide)) (fun _ => ?_)
  refine jd_aload_n (i := 0) (hF _) (jde hC (by decide +kernel : decode cJ5_append_3fe6f 24 = .ok (.aload_n 0, 1))) rfl rfl ?_
  refine jd_get (k := 0) (f := 0) (q := (RJ4, TJ4, 4)) (hF _) (jde hC (by decide +kernel : decode cJ5_append_3fe6f 25 = .ok (.getfield 15, 3))) rfl rfl (Nat.le_of_ble_eq_true rfl) (Or.inl (by (try rw [xwO]); rw [hO]; exact we_292)) rfl ?_
  refine jd_aload_n (i := 0) (hF _) (jde hC (by decide +kernel : decode cJ5_append_3fe6f 28 = .ok (.aload_n 0, 1))) rfl rfl ?_
  refine sd_dup (hF _) (jde hC (by decide +kernel : decode cJ5_append_3fe6f 29 = .ok (.dup, 1))) rfl ?_
  refine jd_get (k := 0) (f := 3) (q := (RJ4, TJ4, 4)) (hF _) (jde hC (by decide +kernel : decode cJ5_append_3fe6f 30 = .ok (.getfield 79, 3))) rfl rfl (Nat.le_of_ble_eq_true rfl) (Or.inl (by (try rw [xwO]); rw [hO]; exact we_296)) rfl ?_
  refine jd_dup_x1 (hF _) (jde hC (by decide +kernel : decode cJ5_append_3fe6f 33 = .ok (.dup_x1, 1))) rfl rfl ?_
  refine sd_iconst (v := 1) (hF _) (jde hC (by decide +kernel : decode cJ5_append_3fe6f 34 = .ok (.iconst 1, 1))) ?_
  refine sd_iadd (hF _) (jde hC (by decide +kernel : decode cJ5_append_3fe6f 35 = .ok (.iadd, 1))) ?_
  refine jd_top (b := .inl (.int (nI (n + 1)))) (congrArg (fun z => (Sum.inl (Value.int z) : AV)) (nI_1 n)) ?_
  refine jd_put (k := 0) (f := 3) (q := (RJ4, TJ4, 4)) (ty := .int) (hF _) (jde hC (by decide +kernel : decode cJ5_append_3fe6f 36 = .ok (.putfield 79, 3))) rfl rfl (Nat.le_of_ble_eq_true rfl) (by (try rw [xwO]); rw [hO]; exact we_296) rfl (by decide +kernel) rfl rfl (Nat.le_of_ble_eq_true rfl) ?_
  show WJ x ((h, .inr (8, [.ref q2, .int 0, .int ml, .int (nI (n + 1))])) :: (q2, .inl (cs 5, cap2, .inl f2)) :: R : va_W) 39 ([some (.inl (.ref h)), some (.inl (.int c))] : Ls) ([.inl (.int (nI n)), .inl (.ref q2)] : List AV) 1
  refine jd_iload_n (i := 1) (hF _) (jde hC (by decide +kernel : decode cJ5_append_3fe6f 39 = .ok (.iload_n 1, 1))) rfl rfl ?_
  refine jd_i2b (hF _) (jde hC (by decide +kernel : decode cJ5_append_3fe6f 40 = .ok (.i2b, 1))) ?_
  refine jd_top (b := .inl (.int c)) (congrArg (fun z => (Sum.inl (Value.int z) : AV)) ((jc_of8 h0 h1).2.2.1)) ?_
  refine jd_bast (k := 1) (n := cap2) (f := f2) (hF _) (jde hC (by decide +kernel : decode cJ5_append_3fe6f 41 = .ok (.bastore, 1))) (by rw [hK]; rfl) (in_of (by omega) (by omega)) ?_
  refine jd_e (ws' := ((h, .inr (8, [.ref q2, .int 0, .int ml, .int (nI (n + 1))])) :: (q2, .inl (cs 5, cap2, .inl (upd f2 n (c)))) :: R : va_W)) (by rw [hK, nI_clamp (by omega), (jc_of8 h0 h1).2.2.2.1]; rfl) ?_
  show WJ x ((h, .inr (8, [.ref q2, .int 0, .int ml, .int (nI (n + 1))])) :: (q2, .inl (cs 5, cap2, .inl (upd f2 n (c)))) :: R : va_W) 42 ([some (.inl (.ref h)), some (.inl (.int c))] : Ls) ([] : List AV) 1
  refine sd_goto (tgt := 75) (hF _) (jde hC (by decide +kernel : decode cJ5_append_3fe6f 42 = .ok (.goto 33, 3))) rfl ?_
  refine jd_aload_n (i := 0) (hF _) (jde hC (by decide +kernel : decode cJ5_append_3fe6f 75 = .ok (.aload_n 0, 1))) rfl rfl ?_
  exact hE _ 76 1 _ _ (some (.ref h)) (by decide +kernel : decode cJ5_append_3fe6f 76 = .ok (.areturn, 1)) ⟨Or.inr ⟨_, rfl⟩, Or.inl ⟨_, rfl⟩⟩ ⟨rfl, _, _, _, rfl, hm2, hc2, sb_fitU hf2 (jc_of8 h0 h1).2.2.2.2.2, fun j hj => by rw [pk_un (by omega)]; exact he2 j (by omega), fun j hj => by have hj : j < 1 := hj; obtain rfl : j = 0 := (by omega); exact pk_us⟩ (Nat.le_of_ble_eq_true rfl)
set_option maxRecDepth 100000 in
theorem jm_bac {D : va_G} {cs : Nat → ClassId} {b : Nat} {ad : Rf → Nat} {adV : Nat → Nat} {sc : Nat × (Nat → Int32)} {l : Launch} {h q cap n : Nat} {f : Nat → Int32} {ml : Int32} {R : va_W} {c : Int32} (hf : sb_Fit f) (hn : n < 48) (hnc : n ≤ cap) (hc : cap ≤ 100) (h0 : 0 ≤ c) (h1 : c < 128)  : JC (D, cs, b, ad, adV, sc) l yJ4_append_cf468 cJ4_append_cf468 2 (some (.object "java/lang/StringBuilder")) 5 1 [.ref h, .int c] ((h, .inr (8, [.ref q, .int 0, .int ml, .int (nI n)])) :: (q, .inl (cs 5, cap, .inl f)) :: R : va_W) (pA cs h n ml f R (some (.ref h)) [c]) := by
  refine jc_of (by decide +kernel) (by simp [Value.category]) (Nat.le_of_ble_eq_true rfl) ?_
  intro x hF hC hO hG hV hK hH hI hE
  show WJ x ((h, .inr (8, [.ref q, .int 0, .int ml, .int (nI n)])) :: (q, .inl (cs 5, cap, .inl f)) :: R : va_W) 0 ([some (.inl (.ref h)), some (.inl (.int c))] : Ls) ([] : List AV) 0
  refine jd_aload_n (i := 0) (hF _) (jde hC (by decide +kernel : decode cJ4_append_cf468 0 = .ok (.aload_n 0, 1))) rfl rfl ?_
  refine jd_iload_n (i := 1) (hF _) (jde hC (by decide +kernel : decode cJ4_append_cf468 1 = .ok (.iload_n 1, 1))) rfl rfl ?_
  refine jd_callSU (n := 1) (vs := [.int c]) (rest := []) (k := 0) (q := (RJ4, TJ4, 4)) (hF _) (jde hC (by decide +kernel : decode cJ4_append_cf468 2 = .ok (.invokespecial 50, 3))) (by rw [hK, hH]; exact jm_aac hf hn hnc hc h0 h1) rfl rfl (by (try rw [xwO]); rw [hO]; exact we_1074) we_2052 (by (try rw [xwO]); rw [hO]; exact we_305) we_1075 we_93 we_1076 ⟨by decide +kernel, by decide +kernel⟩ rfl (Nat.le_of_ble_eq_true rfl) (by (try rw [xwV]); rw [hV]; exact Nat.le_of_ble_eq_true rfl) rfl (Nat.le_of_ble_eq_true rfl) (by (try rw [xwG]); rw [hG]; exact Nat.le_of_ble_eq_true rfl) (fun v w hp => ?_)
  obtain ⟨rfl, q2, cap2, f2, rfl, hp2⟩ := hp
  show WJ x ((h, .inr (8, [.ref q2, .int 0, .int ml, .int (nI (n + 1))])) :: (q2, .inl (cs 5, cap2, .inl f2)) :: R : va_W) 5 ([some (.inl (.ref h)), some (.inl (.int c))] : Ls) ([.inl (.ref h)] : List AV) 1
  refine sd_pop (hF _) (jde hC (by decide +kernel : decode cJ4_append_cf468 5 = .ok (.pop, 1))) rfl ?_
  refine jd_aload_n (i := 0) (hF _) (jde hC (by decide +kernel : decode cJ4_append_cf468 6 = .ok (.aload_n 0, 1))) rfl rfl ?_
  exact hE _ 7 1 _ _ (some (.ref h)) (by decide +kernel : decode cJ4_append_cf468 7 = .ok (.areturn, 1)) ⟨Or.inr ⟨_, rfl⟩, Or.inl ⟨_, rfl⟩⟩ ⟨rfl, _, _, _, rfl, hp2⟩ (Nat.le_of_ble_eq_true rfl)
set_option maxRecDepth 100000 in
theorem jm_asl {D : va_G} {cs : Nat → ClassId} {b : Nat} {ad : Rf → Nat} {adV : Nat → Nat} {sc : Nat × (Nat → Int32)} {l : Launch} {h q cap n : Nat} {f : Nat → Int32} {ml : Int32} {R : va_W} (hf : sb_Fit f) (hn : n < 2 ^ 31) (hc : cap ≤ 100)  : JC (D, cs, b, ad, adV, sc) l yJ5_setLength_d00df cJ5_setLength_d00df 2 none 4 0 [.ref h, .int (nI 0)] ((h, .inr (8, [.ref q, .int 0, .int ml, .int (nI n)])) :: (q, .inl (cs 5, cap, .inl f)) :: R : va_W) (fun v w => none = v ∧ ∃ (q2 cap2 : Nat) (f2 : Nat → Int32) (ml2 : Int32), ((h, .inr (8, [.ref q2, .int 0, .int ml2, .int (nI 0)])) :: (q2, .inl (cs 5, cap2, .inl f2)) :: R : va_W) = w ∧ cap2 ≤ 100 ∧ sb_Fit f2) := by
  refine jc_of (by decide +kernel) (by simp [Value.category]) (Nat.le_of_ble_eq_true rfl) ?_
  intro x hF hC hO hG hV hK hH hI hE
  show WJ x ((h, .inr (8, [.ref q, .int 0, .int ml, .int (nI n)])) :: (q, .inl (cs 5, cap, .inl f)) :: R : va_W) 0 ([some (.inl (.ref h)), some (.inl (.int (nI 0)))] : Ls) ([] : List AV) 0
  refine jd_iload_n (i := 1) (hF _) (jde hC (by decide +kernel : decode cJ5_setLength_d00df 0 = .ok (.iload_n 1, 1))) rfl rfl ?_
  refine sd_if_ge (tgt := 13) (hF _) (jde hC (by decide +kernel : decode cJ5_setLength_d00df 1 = .ok (.ifCond .ge 12, 3))) rfl (fun _ => ?_) (fun z => absurd (show (0 : Int32) ≤ nI 0 by decide) z)
  refine jd_aload_n (i := 0) (hF _) (jde hC (by decide +kernel : decode cJ5_setLength_d00df 13 = .ok (.aload_n 0, 1))) rfl rfl ?_
  refine jd_iload_n (i := 1) (hF _) (jde hC (by decide +kernel : decode cJ5_setLength_d00df 14 = .ok (.iload_n 1, 1))) rfl rfl ?_
  refine jd_callU (n := 1) (vs := [.int (nI 0)]) (rest := []) (k := 0) (q := (RJ4, TJ4, 4)) (hF _) (jde hC (by decide +kernel : decode cJ5_setLength_d00df 15 = .ok (.invokevirtual 100, 3))) (by rw [hK, hH]; exact jm_ens00 hf hc (by omega)) rfl rfl (by (try rw [xwO]); rw [hO]; exact we_806) we_2045 we_808 we_x0 we_93 we_809 ⟨by decide +kernel, by decide +kernel, by decide +kernel⟩ rfl (Nat.le_of_ble_eq_true rfl) (by (try rw [xwV]); rw [hV]; exact Nat.le_of_ble_eq_true rfl) rfl (Nat.le_of_ble_eq_true rfl) (by (try rw [xwG]); rw [hG]; exact Nat.le_of_ble_eq_true rfl) (fun v w hp => ?_)
  obtain ⟨rfl, q2, cap2, f2, rfl, hm2, hc2, hf2, he2⟩ := hp
  show WJ x ((h, .inr (8, [.ref q2, .int 0, .int ml, .int (nI n)])) :: (q2, .inl (cs 5, cap2, .inl f2)) :: R : va_W) 18 ([some (.inl (.ref h)), some (.inl (.int (nI 0)))] : Ls) ([] : List AV) 0
  refine jd_aload_n (i := 0) (hF _) (jde hC (by decide +kernel : decode cJ5_setLength_d00df 18 = .ok (.aload_n 0, 1))) rfl rfl ?_
  refine jd_get (k := 0) (f := 3) (q := (RJ4, TJ4, 4)) (hF _) (jde hC (by decide +kernel : decode cJ5_setLength_d00df 19 = .ok (.getfield 79, 3))) rfl rfl (Nat.le_of_ble_eq_true rfl) (Or.inl (by (try rw [xwO]); rw [hO]; exact we_296)) rfl ?_
  refine jd_iload_n (i := 1) (hF _) (jde hC (by decide +kernel : decode cJ5_setLength_d00df 22 = .ok (.iload_n 1, 1))) rfl rfl ?_
  refine sd_icmp_ge (tgt := 63) (hF _) (jde hC (by decide +kernel : decode cJ5_setLength_d00df 23 = .ok (.if_icmp .ge 40, 3))) rfl (fun _ => ?_) (fun z => absurd (nI_pos' hn) z)
  refine jd_aload_n (i := 0) (hF _) (jde hC (by decide +kernel : decode cJ5_setLength_d00df 63 = .ok (.aload_n 0, 1))) rfl rfl ?_
  refine jd_get (k := 0) (f := 3) (q := (RJ4, TJ4, 4)) (hF _) (jde hC (by decide +kernel : decode cJ5_setLength_d00df 64 = .ok (.getfield 79, 3))) rfl rfl (Nat.le_of_ble_eq_true rfl) (Or.inl (by (try rw [xwO]); rw [hO]; exact we_296)) rfl ?_
  refine jd_iload_n (i := 1) (hF _) (jde hC (by decide +kernel : decode cJ5_setLength_d00df 67 = .ok (.iload_n 1, 1))) rfl rfl ?_
  rcases Nat.eq_zero_or_pos n with hz | hz
  · refine sd_icmp_le (tgt := 76) (hF _) (jde hC (by decide +kernel : decode cJ5_setLength_d00df 68 = .ok (.if_icmp .le 8, 3))) rfl (fun _ => ?_) (fun z => absurd (by rw [hz]; decide) z)
    refine jd_aload_n (i := 0) (hF _) (jde hC (by decide +kernel : decode cJ5_setLength_d00df 76 = .ok (.aload_n 0, 1))) rfl rfl ?_
    refine jd_iload_n (i := 1) (hF _) (jde hC (by decide +kernel : decode cJ5_setLength_d00df 77 = .ok (.iload_n 1, 1))) rfl rfl ?_
    refine jd_put (k := 0) (f := 3) (q := (RJ4, TJ4, 4)) (ty := .int) (hF _) (jde hC (by decide +kernel : decode cJ5_setLength_d00df 78 = .ok (.putfield 79, 3))) rfl rfl (Nat.le_of_ble_eq_true rfl) (by (try rw [xwO]); rw [hO]; exact we_296) rfl (by decide +kernel) rfl rfl (Nat.le_of_ble_eq_true rfl) ?_
    show WJ x ((h, .inr (8, [.ref q2, .int 0, .int ml, .int (nI 0)])) :: (q2, .inl (cs 5, cap2, .inl f2)) :: R : va_W) 81 ([some (.inl (.ref h)), some (.inl (.int (nI 0)))] : Ls) ([] : List AV) 0
    exact hE _ 81 0 _ _ (none) (by decide +kernel : decode cJ5_setLength_d00df 81 = .ok (.return_, 1)) ⟨rfl, rfl⟩ ⟨rfl, _, _, _, _, rfl, hc2, hf2⟩ (Nat.le_of_ble_eq_true rfl)
  · refine sd_icmp_le (tgt := 76) (hF _) (jde hC (by decide +kernel : decode cJ5_setLength_d00df 68 = .ok (.if_icmp .le 8, 3))) rfl (fun z => absurd z (fun z => nI_nle hz hn z)) (fun _ => ?_)
    refine jd_aload_n (i := 0) (hF _) (jde hC (by decide +kernel : decode cJ5_setLength_d00df 71 = .ok (.aload_n 0, 1))) rfl rfl ?_
    refine sd_iconst (v := 1) (hF _) (jde hC (by decide +kernel : decode cJ5_setLength_d00df 72 = .ok (.iconst 1, 1))) ?_
    refine jd_put (k := 0) (f := 2) (q := (RJ4, TJ4, 4)) (ty := .boolean) (hF _) (jde hC (by decide +kernel : decode cJ5_setLength_d00df 73 = .ok (.putfield 73, 3))) rfl rfl (Nat.le_of_ble_eq_true rfl) (by (try rw [xwO]); rw [hO]; exact we_294) rfl (by decide +kernel) rfl rfl (Nat.le_of_ble_eq_true rfl) ?_
    show WJ x ((h, .inr (8, [.ref q2, .int 0, .int 1, .int (nI n)])) :: (q2, .inl (cs 5, cap2, .inl f2)) :: R : va_W) 76 ([some (.inl (.ref h)), some (.inl (.int (nI 0)))] : Ls) ([] : List AV) 0
    refine jd_aload_n (i := 0) (hF _) (jde hC (by decide +kernel : decode cJ5_setLength_d00df 76 = .ok (.aload_n 0, 1))) rfl rfl ?_
    refine jd_iload_n (i := 1) (hF _) (jde hC (by decide +kernel : decode cJ5_setLength_d00df 77 = .ok (.iload_n 1, 1))) rfl rfl ?_
    refine jd_put (k := 0) (f := 3) (q := (RJ4, TJ4, 4)) (ty := .int) (hF _) (jde hC (by decide +kernel : decode cJ5_setLength_d00df 78 = .ok (.putfield 79, 3))) rfl rfl (Nat.le_of_ble_eq_true rfl) (by (try rw [xwO]); rw [hO]; exact we_296) rfl (by decide +kernel) rfl rfl (Nat.le_of_ble_eq_true rfl) ?_
    show WJ x ((h, .inr (8, [.ref q2, .int 0, .int 1, .int (nI 0)])) :: (q2, .inl (cs 5, cap2, .inl f2)) :: R : va_W) 81 ([some (.inl (.ref h)), some (.inl (.int (nI 0)))] : Ls) ([] : List AV) 0
    exact hE _ 81 0 _ _ (none) (by decide +kernel : decode cJ5_setLength_d00df 81 = .ok (.return_, 1)) ⟨rfl, rfl⟩ ⟨rfl, _, _, _, _, rfl, hc2, hf2⟩ (Nat.le_of_ble_eq_true rfl)
set_option maxRecDepth 100000 in
theorem jm_bsl {D : va_G} {cs : Nat → ClassId} {b : Nat} {ad : Rf → Nat} {adV : Nat → Nat} {sc : Nat × (Nat → Int32)} {l : Launch} {h q cap n : Nat} {f : Nat → Int32} {ml : Int32} {R : va_W} (hf : sb_Fit f) (hn : n < 2 ^ 31) (hc : cap ≤ 100)  : JC (D, cs, b, ad, adV, sc) l yJ4_setLength_d00df cJ4_setLength_d00df 2 none 5 0 [.ref h, .int (nI 0)] ((h, .inr (8, [.ref q, .int 0, .int ml, .int (nI n)])) :: (q, .inl (cs 5, cap, .inl f)) :: R : va_W) (fun v w => none = v ∧ ∃ (q2 cap2 : Nat) (f2 : Nat → Int32) (ml2 : Int32), ((h, .inr (8, [.ref q2, .int 0, .int ml2, .int (nI 0)])) :: (q2, .inl (cs 5, cap2, .inl f2)) :: R : va_W) = w ∧ cap2 ≤ 100 ∧ sb_Fit f2) := by
  refine jc_of (by decide +kernel) (by simp [Value.category]) (Nat.le_of_ble_eq_true rfl) ?_
  intro x hF hC hO hG hV hK hH hI hE
  show WJ x ((h, .inr (8, [.ref q, .int 0, .int ml, .int (nI n)])) :: (q, .inl (cs 5, cap, .inl f)) :: R : va_W) 0 ([some (.inl (.ref h)), some (.inl (.int (nI 0)))] : Ls) ([] : List AV) 0
  refine jd_aload_n (i := 0) (hF _) (jde hC (by decide +kernel : decode cJ4_setLength_d00df 0 = .ok (.aload_n 0, 1))) rfl rfl ?_
  refine jd_iload_n (i := 1) (hF _) (jde hC (by decide +kernel : decode cJ4_setLength_d00df 1 = .ok (.iload_n 1, 1))) rfl rfl ?_
  refine jd_callSU (n := 1) (vs := [.int (nI 0)]) (rest := []) (k := 0) (q := (RJ4, TJ4, 4)) (hF _) (jde hC (by decide +kernel : decode cJ4_setLength_d00df 2 = .ok (.invokespecial 333, 3))) (by rw [hK, hH]; exact jm_asl hf hn hc) rfl rfl (by (try rw [xwO]); rw [hO]; exact we_784) we_2042 (by (try rw [xwO]); rw [hO]; exact we_305) we_785 we_93 we_786 ⟨by decide +kernel, by decide +kernel⟩ rfl (Nat.le_of_ble_eq_true rfl) (by (try rw [xwV]); rw [hV]; exact Nat.le_of_ble_eq_true rfl) rfl (Nat.le_of_ble_eq_true rfl) (by (try rw [xwG]); rw [hG]; exact Nat.le_of_ble_eq_true rfl) (fun v w hp => ?_)
  obtain ⟨rfl, q2, cap2, f2, ml2, rfl, hp2⟩ := hp
  show WJ x ((h, .inr (8, [.ref q2, .int 0, .int ml2, .int (nI 0)])) :: (q2, .inl (cs 5, cap2, .inl f2)) :: R : va_W) 5 ([some (.inl (.ref h)), some (.inl (.int (nI 0)))] : Ls) ([] : List AV) 0
  exact hE _ 5 0 _ _ (none) (by decide +kernel : decode cJ4_setLength_d00df 5 = .ok (.return_, 1)) ⟨rfl, rfl⟩ ⟨rfl, _, _, _, _, rfl, hp2⟩ (Nat.le_of_ble_eq_true rfl)
/-- a number's letters -/
def dg0 (n : Nat) : List Int32 := if n < 10 then [Int32.ofNat (48 + n)] else if n < 100 then [Int32.ofNat (48 + n / 10), Int32.ofNat (48 + n % 10)] else [Int32.ofNat (48 + n / 100), Int32.ofNat (48 + n / 10 % 10), Int32.ofNat (48 + n % 10)]
def dg_ (v : Int32) : List Int32 := if v < 0 then 45 :: dg0 v.toInt.natAbs else dg0 v.toInt.natAbs
theorem ng_lt {w : Nat} (h : 0 < w) (hw : w < 2 ^ 31) : -nI w < 0 := by
  rw [Int32.lt_iff_toInt_lt, sb_negT hw, Int32.toInt_zero]; omega
theorem dg_p {w : Nat} (hw : w < 1000) : dg_ (nI w) = dg0 w := by
  unfold dg_
  rw [if_neg (nI_pos (by omega)), nI_toInt (by omega)]; rfl
theorem dg_n {w : Nat} (h : 0 < w) (hw : w < 1000) : dg_ (-nI w) = 45 :: dg0 w := by
  unfold dg_
  rw [if_pos (ng_lt h (by omega)), sb_negT (by omega), Int.natAbs_neg]; rfl
theorem dg_1 {w : Nat} (h : w < 10) : dg0 w = [nI (48 + w)] := by unfold dg0; rw [if_pos h]; rfl
theorem dg_2 {w : Nat} (h0 : 10 ≤ w) (h : w < 100) : dg0 w = [nI (48 + w / 10), nI (48 + w % 10)] := by unfold dg0; rw [if_neg (by omega), if_pos h]; rfl
theorem dg_3 {w : Nat} (h0 : 100 ≤ w) : dg0 w = [nI (48 + w / 100), nI (48 + w / 10 % 10), nI (48 + w % 10)] := by unfold dg0; rw [if_neg (by omega), if_neg (by omega)]; rfl
theorem dec1 (p : Nat) : nI (p + 1) + Int32.ofInt (-1) = nI p := by
  rw [show Int32.ofInt (-1) = -1 from by decide, sb_m1 (Nat.succ_pos p)]; rfl
theorem ng_ng {u : Nat} : -(-nI u) = nI u := Int32.neg_neg
theorem vb_d {d : Nat} (h : d < 128) : vp_nar .byte (nI d) = nI d := (jc_let d h).2.2.2.1
theorem fb_d {d : Nat} (h : d < 128) : fits .byte (.int (nI d)) = true := (jc_let d h).2.2.2.2.2
set_option maxRecDepth 100000 in
theorem jm_ss_01 {D : va_G} {cs : Nat → ClassId} {b : Nat} {ad : Rf → Nat} {adV : Nat → Nat} {sc : Nat × (Nat → Int32)} {l : Launch} {w : Nat} {ws : va_W} (hw : w < 1000) (hd : w < 10) : JC (D, cs, b, ad, adV, sc) l yJ6_stringSize_0f7a4 cJ6_stringSize_0f7a4 4 (some .int) 0 0 [.int (nI w)] (ws : va_W) (pD (some (.int (nI 1))) ws) := by
  refine jc_of (by decide +kernel) (by simp [Value.category]) (Nat.le_of_ble_eq_true rfl) ?_
  intro x hF hC hO hG hV hK hH hI hE
  show WJ x (ws : va_W) 0 ([some (.inl (.int (nI w))), none, none, none] : Ls) ([] : List AV) 0
  refine sd_iconst (v := 1) (hF _) (jde hC (by decide +kernel : decode cJ6_stringSize_0f7a4 0 = .ok (.iconst 1, 1))) ?_
  refine jd_istore_n (i := 1) (hF _) (jde hC (by decide +kernel : decode cJ6_stringSize_0f7a4 1 = .ok (.istore_n 1, 1))) rfl rfl (Nat.le_of_ble_eq_true rfl) ?_
  refine jd_iload_n (i := 0) (hF _) (jde hC (by decide +kernel : decode cJ6_stringSize_0f7a4 2 = .ok (.iload_n 0, 1))) rfl rfl ?_
  refine sd_if_lt (tgt := 11) (hF _) (jde hC (by decide +kernel : decode cJ6_stringSize_0f7a4 3 = .ok (.ifCond .lt 8, 3))) rfl (fun z => absurd z (nI_pos (by omega))) (fun _ => ?_)
  refine sd_iconst (v := 0) (hF _) (jde hC (by decide +kernel : decode cJ6_stringSize_0f7a4 6 = .ok (.iconst 0, 1))) ?_
  refine jd_istore_n (i := 1) (hF _) (jde hC (by decide +kernel : decode cJ6_stringSize_0f7a4 7 = .ok (.istore_n 1, 1))) rfl rfl (Nat.le_of_ble_eq_true rfl) ?_
  refine jd_iload_n (i := 0) (hF _) (jde hC (by decide +kernel : decode cJ6_stringSize_0f7a4 8 = .ok (.iload_n 0, 1))) rfl rfl ?_
  refine sd_ineg (hF _) (jde hC (by decide +kernel : decode cJ6_stringSize_0f7a4 9 = .ok (.ineg, 1))) ?_
  refine jd_istore_n (i := 0) (hF _) (jde hC (by decide +kernel : decode cJ6_stringSize_0f7a4 10 = .ok (.istore_n 0, 1))) rfl rfl (Nat.le_of_ble_eq_true rfl) ?_
  refine sd_bipush (v := -10) (hF _) (jde hC (by decide +kernel : decode cJ6_stringSize_0f7a4 11 = .ok (.bipush (-10), 2))) ?_
  show WJ x (ws : va_W) 13 ([some (.inl (.int (-(nI w)))), some (.inl (.int 0)), none, none] : Ls) ([.inl (.int (-10))] : List AV) 0
  refine jd_istore_n (i := 2) (hF _) (jde hC (by decide +kernel : decode cJ6_stringSize_0f7a4 13 = .ok (.istore_n 2, 1))) rfl rfl (Nat.le_of_ble_eq_true rfl) ?_
  refine sd_iconst (v := 1) (hF _) (jde hC (by decide +kernel : decode cJ6_stringSize_0f7a4 14 = .ok (.iconst 1, 1))) ?_
  refine jd_istore_n (i := 3) (hF _) (jde hC (by decide +kernel : decode cJ6_stringSize_0f7a4 15 = .ok (.istore_n 3, 1))) rfl rfl (Nat.le_of_ble_eq_true rfl) ?_
  refine jd_iload_n (i := 3) (hF _) (jde hC (by decide +kernel : decode cJ6_stringSize_0f7a4 16 = .ok (.iload_n 3, 1))) rfl rfl ?_
  refine sd_bipush (v := 10) (hF _) (jde hC (by decide +kernel : decode cJ6_stringSize_0f7a4 17 = .ok (.bipush 10, 2))) ?_
  show WJ x (ws : va_W) 19 ([some (.inl (.int (-(nI w)))), some (.inl (.int 0)), some (.inl (.int (-10))), some (.inl (.int 1))] : Ls) ([.inl (.int 10), .inl (.int 1)] : List AV) 0
  refine sd_icmp_ge (tgt := 42) (hF _) (jde hC (by decide +kernel : decode cJ6_stringSize_0f7a4 19 = .ok (.if_icmp .ge 23, 3))) rfl (fun z => absurd z (by decide)) (fun _ => ?_)
  refine jd_iload_n (i := 0) (hF _) (jde hC (by decide +kernel : decode cJ6_stringSize_0f7a4 22 = .ok (.iload_n 0, 1))) rfl rfl ?_
  refine jd_iload_n (i := 2) (hF _) (jde hC (by decide +kernel : decode cJ6_stringSize_0f7a4 23 = .ok (.iload_n 2, 1))) rfl rfl ?_
  refine sd_icmp_le (tgt := 31) (hF _) (jde hC (by decide +kernel : decode cJ6_stringSize_0f7a4 24 = .ok (.if_icmp .le 7, 3))) rfl (fun z => absurd z (by rw [show ((-10) : Int32) = -nI 10 from (by decide : ((-10) : Int32) = -nI 10)]; exact fun z => absurd ((sb_nle (by omega) (by omega)).mp z) (by omega))) (fun _ => ?_)
  refine jd_iload_n (i := 3) (hF _) (jde hC (by decide +kernel : decode cJ6_stringSize_0f7a4 27 = .ok (.iload_n 3, 1))) rfl rfl ?_
  refine jd_iload_n (i := 1) (hF _) (jde hC (by decide +kernel : decode cJ6_stringSize_0f7a4 28 = .ok (.iload_n 1, 1))) rfl rfl ?_
  refine sd_iadd (hF _) (jde hC (by decide +kernel : decode cJ6_stringSize_0f7a4 29 = .ok (.iadd, 1))) ?_
  refine jd_top (b := .inl (.int (nI 1))) (congrArg (fun z => (Sum.inl (Value.int z) : AV)) (by decide)) ?_
  exact hE _ 30 0 _ _ (some (.int (nI 1))) (by decide +kernel : decode cJ6_stringSize_0f7a4 30 = .ok (.ireturn, 1)) ⟨_, _, rfl, rfl, rfl⟩ ⟨rfl, rfl⟩ (Nat.le_of_ble_eq_true rfl)
set_option maxRecDepth 100000 in
theorem jm_ss_02 {D : va_G} {cs : Nat → ClassId} {b : Nat} {ad : Rf → Nat} {adV : Nat → Nat} {sc : Nat × (Nat → Int32)} {l : Launch} {w : Nat} {ws : va_W} (hw : w < 1000) (h0 : 10 ≤ w) (hd : w < 100) : JC (D, cs, b, ad, adV, sc) l yJ6_stringSize_0f7a4 cJ6_stringSize_0f7a4 4 (some .int) 0 0 [.int (nI w)] (ws : va_W) (pD (some (.int (nI 2))) ws) := by
  refine jc_of (by decide +kernel) (by simp [Value.category]) (Nat.le_of_ble_eq_true rfl) ?_
  intro x hF hC hO hG hV hK hH hI hE
  show WJ x (ws : va_W) 0 ([some (.inl (.int (nI w))), none, none, none] : Ls) ([] : List AV) 0
  refine sd_iconst (v := 1) (hF _) (jde hC (by decide +kernel : decode cJ6_stringSize_0f7a4 0 = .ok (.iconst 1, 1))) ?_
  refine jd_istore_n (i := 1) (hF _) (jde hC (by decide +kernel : decode cJ6_stringSize_0f7a4 1 = .ok (.istore_n 1, 1))) rfl rfl (Nat.le_of_ble_eq_true rfl) ?_
  refine jd_iload_n (i := 0) (hF _) (jde hC (by decide +kernel : decode cJ6_stringSize_0f7a4 2 = .ok (.iload_n 0, 1))) rfl rfl ?_
  refine sd_if_lt (tgt := 11) (hF _) (jde hC (by decide +kernel : decode cJ6_stringSize_0f7a4 3 = .ok (.ifCond .lt 8, 3))) rfl (fun z => absurd z (nI_pos (by omega))) (fun _ => ?_)
  refine sd_iconst (v := 0) (hF _) (jde hC (by decide +kernel : decode cJ6_stringSize_0f7a4 6 = .ok (.iconst 0, 1))) ?_
  refine jd_istore_n (i := 1) (hF _) (jde hC (by decide +kernel : decode cJ6_stringSize_0f7a4 7 = .ok (.istore_n 1, 1))) rfl rfl (Nat.le_of_ble_eq_true rfl) ?_
  refine jd_iload_n (i := 0) (hF _) (jde hC (by decide +kernel : decode cJ6_stringSize_0f7a4 8 = .ok (.iload_n 0, 1))) rfl rfl ?_
  refine sd_ineg (hF _) (jde hC (by decide +kernel : decode cJ6_stringSize_0f7a4 9 = .ok (.ineg, 1))) ?_
  refine jd_istore_n (i := 0) (hF _) (jde hC (by decide +kernel : decode cJ6_stringSize_0f7a4 10 = .ok (.istore_n 0, 1))) rfl rfl (Nat.le_of_ble_eq_true rfl) ?_
  refine sd_bipush (v := -10) (hF _) (jde hC (by decide +kernel : decode cJ6_stringSize_0f7a4 11 = .ok (.bipush (-10), 2))) ?_
  show WJ x (ws : va_W) 13 ([some (.inl (.int (-(nI w)))), some (.inl (.int 0)), none, none] : Ls) ([.inl (.int (-10))] : List AV) 0
  refine jd_istore_n (i := 2) (hF _) (jde hC (by decide +kernel : decode cJ6_stringSize_0f7a4 13 = .ok (.istore_n 2, 1))) rfl rfl (Nat.le_of_ble_eq_true rfl) ?_
  refine sd_iconst (v := 1) (hF _) (jde hC (by decide +kernel : decode cJ6_stringSize_0f7a4 14 = .ok (.iconst 1, 1))) ?_
  refine jd_istore_n (i := 3) (hF _) (jde hC (by decide +kernel : decode cJ6_stringSize_0f7a4 15 = .ok (.istore_n 3, 1))) rfl rfl (Nat.le_of_ble_eq_true rfl) ?_
  refine jd_iload_n (i := 3) (hF _) (jde hC (by decide +kernel : decode cJ6_stringSize_0f7a4 16 = .ok (.iload_n 3, 1))) rfl rfl ?_
  refine sd_bipush (v := 10) (hF _) (jde hC (by decide +kernel : decode cJ6_stringSize_0f7a4 17 = .ok (.bipush 10, 2))) ?_
  show WJ x (ws : va_W) 19 ([some (.inl (.int (-(nI w)))), some (.inl (.int 0)), some (.inl (.int (-10))), some (.inl (.int 1))] : Ls) ([.inl (.int 10), .inl (.int 1)] : List AV) 0
  refine sd_icmp_ge (tgt := 42) (hF _) (jde hC (by decide +kernel : decode cJ6_stringSize_0f7a4 19 = .ok (.if_icmp .ge 23, 3))) rfl (fun z => absurd z (by decide)) (fun _ => ?_)
  refine jd_iload_n (i := 0) (hF _) (jde hC (by decide +kernel : decode cJ6_stringSize_0f7a4 22 = .ok (.iload_n 0, 1))) rfl rfl ?_
  refine jd_iload_n (i := 2) (hF _) (jde hC (by decide +kernel : decode cJ6_stringSize_0f7a4 23 = .ok (.iload_n 2, 1))) rfl rfl ?_
  refine sd_icmp_le (tgt := 31) (hF _) (jde hC (by decide +kernel : decode cJ6_stringSize_0f7a4 24 = .ok (.if_icmp .le 7, 3))) rfl (fun _ => ?_) (fun z => absurd (by rw [show ((-10) : Int32) = -nI 10 from (by decide : ((-10) : Int32) = -nI 10)]; exact (sb_nle (by omega) (by omega)).mpr (by omega)) z)
  refine sd_bipush (v := 10) (hF _) (jde hC (by decide +kernel : decode cJ6_stringSize_0f7a4 31 = .ok (.bipush 10, 2))) ?_
  show WJ x (ws : va_W) 33 ([some (.inl (.int (-(nI w)))), some (.inl (.int 0)), some (.inl (.int (-10))), some (.inl (.int 1))] : Ls) ([.inl (.int 10)] : List AV) 0
  refine jd_iload_n (i := 2) (hF _) (jde hC (by decide +kernel : decode cJ6_stringSize_0f7a4 33 = .ok (.iload_n 2, 1))) rfl rfl ?_
  refine sd_imul (hF _) (jde hC (by decide +kernel : decode cJ6_stringSize_0f7a4 34 = .ok (.imul, 1))) ?_
  refine jd_istore_n (i := 2) (hF _) (jde hC (by decide +kernel : decode cJ6_stringSize_0f7a4 35 = .ok (.istore_n 2, 1))) rfl rfl (Nat.le_of_ble_eq_true rfl) ?_
  refine sd_iinc (i := 3) (a := 1) (hF _) (jde hC (by decide +kernel : decode cJ6_stringSize_0f7a4 36 = .ok (.iinc 3 1, 3))) rfl rfl (Nat.le_of_ble_eq_true rfl) ?_
  refine sd_goto (tgt := 16) (hF _) (jde hC (by decide +kernel : decode cJ6_stringSize_0f7a4 39 = .ok (.goto (-23), 3))) rfl ?_
  refine jd_iload_n (i := 3) (hF _) (jde hC (by decide +kernel : decode cJ6_stringSize_0f7a4 16 = .ok (.iload_n 3, 1))) rfl rfl ?_
  refine sd_bipush (v := 10) (hF _) (jde hC (by decide +kernel : decode cJ6_stringSize_0f7a4 17 = .ok (.bipush 10, 2))) ?_
  show WJ x (ws : va_W) 19 ([some (.inl (.int (-(nI w)))), some (.inl (.int 0)), some (.inl (.int (10 * (-10)))), some (.inl (.int (1 + 1)))] : Ls) ([.inl (.int 10), .inl (.int (1 + 1))] : List AV) 0
  refine sd_icmp_ge (tgt := 42) (hF _) (jde hC (by decide +kernel : decode cJ6_stringSize_0f7a4 19 = .ok (.if_icmp .ge 23, 3))) rfl (fun z => absurd z (by decide)) (fun _ => ?_)
  refine jd_iload_n (i := 0) (hF _) (jde hC (by decide +kernel : decode cJ6_stringSize_0f7a4 22 = .ok (.iload_n 0, 1))) rfl rfl ?_
  refine jd_iload_n (i := 2) (hF _) (jde hC (by decide +kernel : decode cJ6_stringSize_0f7a4 23 = .ok (.iload_n 2, 1))) rfl rfl ?_
  refine sd_icmp_le (tgt := 31) (hF _) (jde hC (by decide +kernel : decode cJ6_stringSize_0f7a4 24 = .ok (.if_icmp .le 7, 3))) rfl (fun z => absurd z (by rw [show ((10 * (-10)) : Int32) = -nI 100 from (by decide : ((10 * (-10)) : Int32) = -nI 100)]; exact fun z => absurd ((sb_nle (by omega) (by omega)).mp z) (by omega))) (fun _ => ?_)
  refine jd_iload_n (i := 3) (hF _) (jde hC (by decide +kernel : decode cJ6_stringSize_0f7a4 27 = .ok (.iload_n 3, 1))) rfl rfl ?_
  refine jd_iload_n (i := 1) (hF _) (jde hC (by decide +kernel : decode cJ6_stringSize_0f7a4 28 = .ok (.iload_n 1, 1))) rfl rfl ?_
  refine sd_iadd (hF _) (jde hC (by decide +kernel : decode cJ6_stringSize_0f7a4 29 = .ok (.iadd, 1))) ?_
  refine jd_top (b := .inl (.int (nI 2))) (congrArg (fun z => (Sum.inl (Value.int z) : AV)) (by decide)) ?_
  exact hE _ 30 0 _ _ (some (.int (nI 2))) (by decide +kernel : decode cJ6_stringSize_0f7a4 30 = .ok (.ireturn, 1)) ⟨_, _, rfl, rfl, rfl⟩ ⟨rfl, rfl⟩ (Nat.le_of_ble_eq_true rfl)
set_option maxRecDepth 100000 in
theorem jm_ss_03 {D : va_G} {cs : Nat → ClassId} {b : Nat} {ad : Rf → Nat} {adV : Nat → Nat} {sc : Nat × (Nat → Int32)} {l : Launch} {w : Nat} {ws : va_W} (hw : w < 1000) (h0 : 100 ≤ w) : JC (D, cs, b, ad, adV, sc) l yJ6_stringSize_0f7a4 cJ6_stringSize_0f7a4 4 (some .int) 0 0 [.int (nI w)] (ws : va_W) (pD (some (.int (nI 3))) ws) := by
  refine jc_of (by decide +kernel) (by simp [Value.category]) (Nat.le_of_ble_eq_true rfl) ?_
  intro x hF hC hO hG hV hK hH hI hE
  show WJ x (ws : va_W) 0 ([some (.inl (.int (nI w))), none, none, none] : Ls) ([] : List AV) 0
  refine sd_iconst (v := 1) (hF _) (jde hC (by decide +kernel : decode cJ6_stringSize_0f7a4 0 = .ok (.iconst 1, 1))) ?_
  refine jd_istore_n (i := 1) (hF _) (jde hC (by decide +kernel : decode cJ6_stringSize_0f7a4 1 = .ok (.istore_n 1, 1))) rfl rfl (Nat.le_of_ble_eq_true rfl) ?_
  refine jd_iload_n (i := 0) (hF _) (jde hC (by decide +kernel : decode cJ6_stringSize_0f7a4 2 = .ok (.iload_n 0, 1))) rfl rfl ?_
  refine sd_if_lt (tgt := 11) (hF _) (jde hC (by decide +kernel : decode cJ6_stringSize_0f7a4 3 = .ok (.ifCond .lt 8, 3))) rfl (fun z => absurd z (nI_pos (by omega))) (fun _ => ?_)
  refine sd_iconst (v := 0) (hF _) (jde hC (by decide +kernel : decode cJ6_stringSize_0f7a4 6 = .ok (.iconst 0, 1))) ?_
  refine jd_istore_n (i := 1) (hF _) (jde hC (by decide +kernel : decode cJ6_stringSize_0f7a4 7 = .ok (.istore_n 1, 1))) rfl rfl (Nat.le_of_ble_eq_true rfl) ?_
  refine jd_iload_n (i := 0) (hF _) (jde hC (by decide +kernel : decode cJ6_stringSize_0f7a4 8 = .ok (.iload_n 0, 1))) rfl rfl ?_
  refine sd_ineg (hF _) (jde hC (by decide +kernel : decode cJ6_stringSize_0f7a4 9 = .ok (.ineg, 1))) ?_
  refine jd_istore_n (i := 0) (hF _) (jde hC (by decide +kernel : decode cJ6_stringSize_0f7a4 10 = .ok (.istore_n 0, 1))) rfl rfl (Nat.le_of_ble_eq_true rfl) ?_
  refine sd_bipush (v := -10) (hF _) (jde hC (by decide +kernel : decode cJ6_stringSize_0f7a4 11 = .ok (.bipush (-10), 2))) ?_
  show WJ x (ws : va_W) 13 ([some (.inl (.int (-(nI w)))), some (.inl (.int 0)), none, none] : Ls) ([.inl (.int (-10))] : List AV) 0
  refine jd_istore_n (i := 2) (hF _) (jde hC (by decide +kernel : decode cJ6_stringSize_0f7a4 13 = .ok (.istore_n 2, 1))) rfl rfl (Nat.le_of_ble_eq_true rfl) ?_
  refine sd_iconst (v := 1) (hF _) (jde hC (by decide +kernel : decode cJ6_stringSize_0f7a4 14 = .ok (.iconst 1, 1))) ?_
  refine jd_istore_n (i := 3) (hF _) (jde hC (by decide +kernel : decode cJ6_stringSize_0f7a4 15 = .ok (.istore_n 3, 1))) rfl rfl (Nat.le_of_ble_eq_true rfl) ?_
  refine jd_iload_n (i := 3) (hF _) (jde hC (by decide +kernel : decode cJ6_stringSize_0f7a4 16 = .ok (.iload_n 3, 1))) rfl rfl ?_
  refine sd_bipush (v := 10) (hF _) (jde hC (by decide +kernel : decode cJ6_stringSize_0f7a4 17 = .ok (.bipush 10, 2))) ?_
  show WJ x (ws : va_W) 19 ([some (.inl (.int (-(nI w)))), some (.inl (.int 0)), some (.inl (.int (-10))), some (.inl (.int 1))] : Ls) ([.inl (.int 10), .inl (.int 1)] : List AV) 0
  refine sd_icmp_ge (tgt := 42) (hF _) (jde hC (by decide +kernel : decode cJ6_stringSize_0f7a4 19 = .ok (.if_icmp .ge 23, 3))) rfl (fun z => absurd z (by decide)) (fun _ => ?_)
  refine jd_iload_n (i := 0) (hF _) (jde hC (by decide +kernel : decode cJ6_stringSize_0f7a4 22 = .ok (.iload_n 0, 1))) rfl rfl ?_
  refine jd_iload_n (i := 2) (hF _) (jde hC (by decide +kernel : decode cJ6_stringSize_0f7a4 23 = .ok (.iload_n 2, 1))) rfl rfl ?_
  refine sd_icmp_le (tgt := 31) (hF _) (jde hC (by decide +kernel : decode cJ6_stringSize_0f7a4 24 = .ok (.if_icmp .le 7, 3))) rfl (fun _ => ?_) (fun z => absurd (by rw [show ((-10) : Int32) = -nI 10 from (by decide : ((-10) : Int32) = -nI 10)]; exact (sb_nle (by omega) (by omega)).mpr (by omega)) z)
  refine sd_bipush (v := 10) (hF _) (jde hC (by decide +kernel : decode cJ6_stringSize_0f7a4 31 = .ok (.bipush 10, 2))) ?_
  show WJ x (ws : va_W) 33 ([some (.inl (.int (-(nI w)))), some (.inl (.int 0)), some (.inl (.int (-10))), some (.inl (.int 1))] : Ls) ([.inl (.int 10)] : List AV) 0
  refine jd_iload_n (i := 2) (hF _) (jde hC (by decide +kernel : decode cJ6_stringSize_0f7a4 33 = .ok (.iload_n 2, 1))) rfl rfl ?_
  refine sd_imul (hF _) (jde hC (by decide +kernel : decode cJ6_stringSize_0f7a4 34 = .ok (.imul, 1))) ?_
  refine jd_istore_n (i := 2) (hF _) (jde hC (by decide +kernel : decode cJ6_stringSize_0f7a4 35 = .ok (.istore_n 2, 1))) rfl rfl (Nat.le_of_ble_eq_true rfl) ?_
  refine sd_iinc (i := 3) (a := 1) (hF _) (jde hC (by decide +kernel : decode cJ6_stringSize_0f7a4 36 = .ok (.iinc 3 1, 3))) rfl rfl (Nat.le_of_ble_eq_true rfl) ?_
  refine sd_goto (tgt := 16) (hF _) (jde hC (by decide +kernel : decode cJ6_stringSize_0f7a4 39 = .ok (.goto (-23), 3))) rfl ?_
  refine jd_iload_n (i := 3) (hF _) (jde hC (by decide +kernel : decode cJ6_stringSize_0f7a4 16 = .ok (.iload_n 3, 1))) rfl rfl ?_
  refine sd_bipush (v := 10) (hF _) (jde hC (by decide +kernel : decode cJ6_stringSize_0f7a4 17 = .ok (.bipush 10, 2))) ?_
  show WJ x (ws : va_W) 19 ([some (.inl (.int (-(nI w)))), some (.inl (.int 0)), some (.inl (.int (10 * (-10)))), some (.inl (.int (1 + 1)))] : Ls) ([.inl (.int 10), .inl (.int (1 + 1))] : List AV) 0
  refine sd_icmp_ge (tgt := 42) (hF _) (jde hC (by decide +kernel : decode cJ6_stringSize_0f7a4 19 = .ok (.if_icmp .ge 23, 3))) rfl (fun z => absurd z (by decide)) (fun _ => ?_)
  refine jd_iload_n (i := 0) (hF _) (jde hC (by decide +kernel : decode cJ6_stringSize_0f7a4 22 = .ok (.iload_n 0, 1))) rfl rfl ?_
  refine jd_iload_n (i := 2) (hF _) (jde hC (by decide +kernel : decode cJ6_stringSize_0f7a4 23 = .ok (.iload_n 2, 1))) rfl rfl ?_
  refine sd_icmp_le (tgt := 31) (hF _) (jde hC (by decide +kernel : decode cJ6_stringSize_0f7a4 24 = .ok (.if_icmp .le 7, 3))) rfl (fun _ => ?_) (fun z => absurd (by rw [show ((10 * (-10)) : Int32) = -nI 100 from (by decide : ((10 * (-10)) : Int32) = -nI 100)]; exact (sb_nle (by omega) (by omega)).mpr (by omega)) z)
  refine sd_bipush (v := 10) (hF _) (jde hC (by decide +kernel : decode cJ6_stringSize_0f7a4 31 = .ok (.bipush 10, 2))) ?_
  show WJ x (ws : va_W) 33 ([some (.inl (.int (-(nI w)))), some (.inl (.int 0)), some (.inl (.int (10 * (-10)))), some (.inl (.int (1 + 1)))] : Ls) ([.inl (.int 10)] : List AV) 0
  refine jd_iload_n (i := 2) (hF _) (jde hC (by decide +kernel : decode cJ6_stringSize_0f7a4 33 = .ok (.iload_n 2, 1))) rfl rfl ?_
  refine sd_imul (hF _) (jde hC (by decide +kernel : decode cJ6_stringSize_0f7a4 34 = .ok (.imul, 1))) ?_
  refine jd_istore_n (i := 2) (hF _) (jde hC (by decide +kernel : decode cJ6_stringSize_0f7a4 35 = .ok (.istore_n 2, 1))) rfl rfl (Nat.le_of_ble_eq_true rfl) ?_
  refine sd_iinc (i := 3) (a := (1 + 1)) (hF _) (jde hC (by decide +kernel : decode cJ6_stringSize_0f7a4 36 = .ok (.iinc 3 1, 3))) rfl rfl (Nat.le_of_ble_eq_true rfl) ?_
  refine sd_goto (tgt := 16) (hF _) (jde hC (by decide +kernel : decode cJ6_stringSize_0f7a4 39 = .ok (.goto (-23), 3))) rfl ?_
  refine jd_iload_n (i := 3) (hF _) (jde hC (by decide +kernel : decode cJ6_stringSize_0f7a4 16 = .ok (.iload_n 3, 1))) rfl rfl ?_
  refine sd_bipush (v := 10) (hF _) (jde hC (by decide +kernel : decode cJ6_stringSize_0f7a4 17 = .ok (.bipush 10, 2))) ?_
  show WJ x (ws : va_W) 19 ([some (.inl (.int (-(nI w)))), some (.inl (.int 0)), some (.inl (.int (10 * (10 * (-10))))), some (.inl (.int ((1 + 1) + 1)))] : Ls) ([.inl (.int 10), .inl (.int ((1 + 1) + 1))] : List AV) 0
  refine sd_icmp_ge (tgt := 42) (hF _) (jde hC (by decide +kernel : decode cJ6_stringSize_0f7a4 19 = .ok (.if_icmp .ge 23, 3))) rfl (fun z => absurd z (by decide)) (fun _ => ?_)
  refine jd_iload_n (i := 0) (hF _) (jde hC (by decide +kernel : decode cJ6_stringSize_0f7a4 22 = .ok (.iload_n 0, 1))) rfl rfl ?_
  refine jd_iload_n (i := 2) (hF _) (jde hC (by decide +kernel : decode cJ6_stringSize_0f7a4 23 = .ok (.iload_n 2, 1))) rfl rfl ?_
  refine sd_icmp_le (tgt := 31) (hF _) (jde hC (by decide +kernel : decode cJ6_stringSize_0f7a4 24 = .ok (.if_icmp .le 7, 3))) rfl (fun z => absurd z (by rw [show ((10 * (10 * (-10))) : Int32) = -nI 1000 from (by decide : ((10 * (10 * (-10))) : Int32) = -nI 1000)]; exact fun z => absurd ((sb_nle (by omega) (by omega)).mp z) (by omega))) (fun _ => ?_)
  refine jd_iload_n (i := 3) (hF _) (jde hC (by decide +kernel : decode cJ6_stringSize_0f7a4 27 = .ok (.iload_n 3, 1))) rfl rfl ?_
  refine jd_iload_n (i := 1) (hF _) (jde hC (by decide +kernel : decode cJ6_stringSize_0f7a4 28 = .ok (.iload_n 1, 1))) rfl rfl ?_
  refine sd_iadd (hF _) (jde hC (by decide +kernel : decode cJ6_stringSize_0f7a4 29 = .ok (.iadd, 1))) ?_
  refine jd_top (b := .inl (.int (nI 3))) (congrArg (fun z => (Sum.inl (Value.int z) : AV)) (by decide)) ?_
  exact hE _ 30 0 _ _ (some (.int (nI 3))) (by decide +kernel : decode cJ6_stringSize_0f7a4 30 = .ok (.ireturn, 1)) ⟨_, _, rfl, rfl, rfl⟩ ⟨rfl, rfl⟩ (Nat.le_of_ble_eq_true rfl)
set_option maxRecDepth 100000 in
theorem jm_ss_11 {D : va_G} {cs : Nat → ClassId} {b : Nat} {ad : Rf → Nat} {adV : Nat → Nat} {sc : Nat × (Nat → Int32)} {l : Launch} {w : Nat} {ws : va_W} (hw0 : 0 < w) (hw : w < 1000) (hd : w < 10) : JC (D, cs, b, ad, adV, sc) l yJ6_stringSize_0f7a4 cJ6_stringSize_0f7a4 4 (some .int) 0 0 [.int (-nI w)] (ws : va_W) (pD (some (.int (nI 2))) ws) := by
  refine jc_of (by decide +kernel) (by simp [Value.category]) (Nat.le_of_ble_eq_true rfl) ?_
  intro x hF hC hO hG hV hK hH hI hE
  show WJ x (ws : va_W) 0 ([some (.inl (.int (-nI w))), none, none, none] : Ls) ([] : List AV) 0
  refine sd_iconst (v := 1) (hF _) (jde hC (by decide +kernel : decode cJ6_stringSize_0f7a4 0 = .ok (.iconst 1, 1))) ?_
  refine jd_istore_n (i := 1) (hF _) (jde hC (by decide +kernel : decode cJ6_stringSize_0f7a4 1 = .ok (.istore_n 1, 1))) rfl rfl (Nat.le_of_ble_eq_true rfl) ?_
  refine jd_iload_n (i := 0) (hF _) (jde hC (by decide +kernel : decode cJ6_stringSize_0f7a4 2 = .ok (.iload_n 0, 1))) rfl rfl ?_
  refine sd_if_lt (tgt := 11) (hF _) (jde hC (by decide +kernel : decode cJ6_stringSize_0f7a4 3 = .ok (.ifCond .lt 8, 3))) rfl (fun _ => ?_) (fun z => absurd (ng_lt hw0 (by omega)) z)
  refine sd_bipush (v := -10) (hF _) (jde hC (by decide +kernel : decode cJ6_stringSize_0f7a4 11 = .ok (.bipush (-10), 2))) ?_
  show WJ x (ws : va_W) 13 ([some (.inl (.int (-nI w))), some (.inl (.int 1)), none, none] : Ls) ([.inl (.int (-10))] : List AV) 0
  refine jd_istore_n (i := 2) (hF _) (jde hC (by decide +kernel : decode cJ6_stringSize_0f7a4 13 = .ok (.istore_n 2, 1))) rfl rfl (Nat.le_of_ble_eq_true rfl) ?_
  refine sd_iconst (v := 1) (hF _) (jde hC (by decide +kernel : decode cJ6_stringSize_0f7a4 14 = .ok (.iconst 1, 1))) ?_
  refine jd_istore_n (i := 3) (hF _) (jde hC (by decide +kernel : decode cJ6_stringSize_0f7a4 15 = .ok (.istore_n 3, 1))) rfl rfl (Nat.le_of_ble_eq_true rfl) ?_
  refine jd_iload_n (i := 3) (hF _) (jde hC (by decide +kernel : decode cJ6_stringSize_0f7a4 16 = .ok (.iload_n 3, 1))) rfl rfl ?_
  refine sd_bipush (v := 10) (hF _) (jde hC (by decide +kernel : decode cJ6_stringSize_0f7a4 17 = .ok (.bipush 10, 2))) ?_
  show WJ x (ws : va_W) 19 ([some (.inl (.int (-nI w))), some (.inl (.int 1)), some (.inl (.int (-10))), some (.inl (.int 1))] : Ls) ([.inl (.int 10), .inl (.int 1)] : List AV) 0
  refine sd_icmp_ge (tgt := 42) (hF _) (jde hC (by decide +kernel : decode cJ6_stringSize_0f7a4 19 = .ok (.if_icmp .ge 23, 3))) rfl (fun z => absurd z (by decide)) (fun _ => ?_)
  refine jd_iload_n (i := 0) (hF _) (jde hC (by decide +kernel : decode cJ6_stringSize_0f7a4 22 = .ok (.iload_n 0, 1))) rfl rfl ?_
  refine jd_iload_n (i := 2) (hF _) (jde hC (by decide +kernel : decode cJ6_stringSize_0f7a4 23 = .ok (.iload_n 2, 1))) rfl rfl ?_
  refine sd_icmp_le (tgt := 31) (hF _) (jde hC (by decide +kernel : decode cJ6_stringSize_0f7a4 24 = .ok (.if_icmp .le 7, 3))) rfl (fun z => absurd z (by rw [show ((-10) : Int32) = -nI 10 from (by decide : ((-10) : Int32) = -nI 10)]; exact fun z => absurd ((sb_nle (by omega) (by omega)).mp z) (by omega))) (fun _ => ?_)
  refine jd_iload_n (i := 3) (hF _) (jde hC (by decide +kernel : decode cJ6_stringSize_0f7a4 27 = .ok (.iload_n 3, 1))) rfl rfl ?_
  refine jd_iload_n (i := 1) (hF _) (jde hC (by decide +kernel : decode cJ6_stringSize_0f7a4 28 = .ok (.iload_n 1, 1))) rfl rfl ?_
  refine sd_iadd (hF _) (jde hC (by decide +kernel : decode cJ6_stringSize_0f7a4 29 = .ok (.iadd, 1))) ?_
  refine jd_top (b := .inl (.int (nI 2))) (congrArg (fun z => (Sum.inl (Value.int z) : AV)) (by decide)) ?_
  exact hE _ 30 0 _ _ (some (.int (nI 2))) (by decide +kernel : decode cJ6_stringSize_0f7a4 30 = .ok (.ireturn, 1)) ⟨_, _, rfl, rfl, rfl⟩ ⟨rfl, rfl⟩ (Nat.le_of_ble_eq_true rfl)
set_option maxRecDepth 100000 in
theorem jm_ss_12 {D : va_G} {cs : Nat → ClassId} {b : Nat} {ad : Rf → Nat} {adV : Nat → Nat} {sc : Nat × (Nat → Int32)} {l : Launch} {w : Nat} {ws : va_W} (hw0 : 0 < w) (hw : w < 1000) (h0 : 10 ≤ w) (hd : w < 100) : JC (D, cs, b, ad, adV, sc) l yJ6_stringSize_0f7a4 cJ6_stringSize_0f7a4 4 (some .int) 0 0 [.int (-nI w)] (ws : va_W) (pD (some (.int (nI 3))) ws) := by
  refine jc_of (by decide +kernel) (by simp [Value.category]) (Nat.le_of_ble_eq_true rfl) ?_
  intro x hF hC hO hG hV hK hH hI hE
  show WJ x (ws : va_W) 0 ([some (.inl (.int (-nI w))), none, none, none] : Ls) ([] : List AV) 0
  refine sd_iconst (v := 1) (hF _) (jde hC (by decide +kernel : decode cJ6_stringSize_0f7a4 0 = .ok (.iconst 1, 1))) ?_
  refine jd_istore_n (i := 1) (hF _) (jde hC (by decide +kernel : decode cJ6_stringSize_0f7a4 1 = .ok (.istore_n 1, 1))) rfl rfl (Nat.le_of_ble_eq_true rfl) ?_
  refine jd_iload_n (i := 0) (hF _) (jde hC (by decide +kernel : decode cJ6_stringSize_0f7a4 2 = .ok (.iload_n 0, 1))) rfl rfl ?_
  refine sd_if_lt (tgt := 11) (hF _) (jde hC (by decide +kernel : decode cJ6_stringSize_0f7a4 3 = .ok (.ifCond .lt 8, 3))) rfl (fun _ => ?_) (fun z => absurd (ng_lt hw0 (by omega)) z)
  refine sd_bipush (v := -10) (hF _) (jde hC (by decide +kernel : decode cJ6_stringSize_0f7a4 11 = .ok (.bipush (-10), 2))) ?_
  show WJ x (ws : va_W) 13 ([some (.inl (.int (-nI w))), some (.inl (.int 1)), none, none] : Ls) ([.inl (.int (-10))] : List AV) 0
  refine jd_istore_n (i := 2) (hF _) (jde hC (by decide +kernel : decode cJ6_stringSize_0f7a4 13 = .ok (.istore_n 2, 1))) rfl rfl (Nat.le_of_ble_eq_true rfl) ?_
  refine sd_iconst (v := 1) (hF _) (jde hC (by decide +kernel : decode cJ6_stringSize_0f7a4 14 = .ok (.iconst 1, 1))) ?_
  refine jd_istore_n (i := 3) (hF _) (jde hC (by decide +kernel : decode cJ6_stringSize_0f7a4 15 = .ok (.istore_n 3, 1))) rfl rfl (Nat.le_of_ble_eq_true rfl) ?_
  refine jd_iload_n (i := 3) (hF _) (jde hC (by decide +kernel : decode cJ6_stringSize_0f7a4 16 = .ok (.iload_n 3, 1))) rfl rfl ?_
  refine sd_bipush (v := 10) (hF _) (jde hC (by decide +kernel : decode cJ6_stringSize_0f7a4 17 = .ok (.bipush 10, 2))) ?_
  show WJ x (ws : va_W) 19 ([some (.inl (.int (-nI w))), some (.inl (.int 1)), some (.inl (.int (-10))), some (.inl (.int 1))] : Ls) ([.inl (.int 10), .inl (.int 1)] : List AV) 0
  refine sd_icmp_ge (tgt := 42) (hF _) (jde hC (by decide +kernel : decode cJ6_stringSize_0f7a4 19 = .ok (.if_icmp .ge 23, 3))) rfl (fun z => absurd z (by decide)) (fun _ => ?_)
  refine jd_iload_n (i := 0) (hF _) (jde hC (by decide +kernel : decode cJ6_stringSize_0f7a4 22 = .ok (.iload_n 0, 1))) rfl rfl ?_
  refine jd_iload_n (i := 2) (hF _) (jde hC (by decide +kernel : decode cJ6_stringSize_0f7a4 23 = .ok (.iload_n 2, 1))) rfl rfl ?_
  refine sd_icmp_le (tgt := 31) (hF _) (jde hC (by decide +kernel : decode cJ6_stringSize_0f7a4 24 = .ok (.if_icmp .le 7, 3))) rfl (fun _ => ?_) (fun z => absurd (by rw [show ((-10) : Int32) = -nI 10 from (by decide : ((-10) : Int32) = -nI 10)]; exact (sb_nle (by omega) (by omega)).mpr (by omega)) z)
  refine sd_bipush (v := 10) (hF _) (jde hC (by decide +kernel : decode cJ6_stringSize_0f7a4 31 = .ok (.bipush 10, 2))) ?_
  show WJ x (ws : va_W) 33 ([some (.inl (.int (-nI w))), some (.inl (.int 1)), some (.inl (.int (-10))), some (.inl (.int 1))] : Ls) ([.inl (.int 10)] : List AV) 0
  refine jd_iload_n (i := 2) (hF _) (jde hC (by decide +kernel : decode cJ6_stringSize_0f7a4 33 = .ok (.iload_n 2, 1))) rfl rfl ?_
  refine sd_imul (hF _) (jde hC (by decide +kernel : decode cJ6_stringSize_0f7a4 34 = .ok (.imul, 1))) ?_
  refine jd_istore_n (i := 2) (hF _) (jde hC (by decide +kernel : decode cJ6_stringSize_0f7a4 35 = .ok (.istore_n 2, 1))) rfl rfl (Nat.le_of_ble_eq_true rfl) ?_
  refine sd_iinc (i := 3) (a := 1) (hF _) (jde hC (by decide +kernel : decode cJ6_stringSize_0f7a4 36 = .ok (.iinc 3 1, 3))) rfl rfl (Nat.le_of_ble_eq_true rfl) ?_
  refine sd_goto (tgt := 16) (hF _) (jde hC (by decide +kernel : decode cJ6_stringSize_0f7a4 39 = .ok (.goto (-23), 3))) rfl ?_
  refine jd_iload_n (i := 3) (hF _) (jde hC (by decide +kernel : decode cJ6_stringSize_0f7a4 16 = .ok (.iload_n 3, 1))) rfl rfl ?_
  refine sd_bipush (v := 10) (hF _) (jde hC (by decide +kernel : decode cJ6_stringSize_0f7a4 17 = .ok (.bipush 10, 2))) ?_
  show WJ x (ws : va_W) 19 ([some (.inl (.int (-nI w))), some (.inl (.int 1)), some (.inl (.int (10 * (-10)))), some (.inl (.int (1 + 1)))] : Ls) ([.inl (.int 10), .inl (.int (1 + 1))] : List AV) 0
  refine sd_icmp_ge (tgt := 42) (hF _) (jde hC (by decide +kernel : decode cJ6_stringSize_0f7a4 19 = .ok (.if_icmp .ge 23, 3))) rfl (fun z => absurd z (by decide)) (fun _ => ?_)
  refine jd_iload_n (i := 0) (hF _) (jde hC (by decide +kernel : decode cJ6_stringSize_0f7a4 22 = .ok (.iload_n 0, 1))) rfl rfl ?_
  refine jd_iload_n (i := 2) (hF _) (jde hC (by decide +kernel : decode cJ6_stringSize_0f7a4 23 = .ok (.iload_n 2, 1))) rfl rfl ?_
  refine sd_icmp_le (tgt := 31) (hF _) (jde hC (by decide +kernel : decode cJ6_stringSize_0f7a4 24 = .ok (.if_icmp .le 7, 3))) rfl (fun z => absurd z (by rw [show ((10 * (-10)) : Int32) = -nI 100 from (by decide : ((10 * (-10)) : Int32) = -nI 100)]; exact fun z => absurd ((sb_nle (by omega) (by omega)).mp z) (by omega))) (fun _ => ?_)
  refine jd_iload_n (i := 3) (hF _) (jde hC (by decide +kernel : decode cJ6_stringSize_0f7a4 27 = .ok (.iload_n 3, 1))) rfl rfl ?_
  refine jd_iload_n (i := 1) (hF _) (jde hC (by decide +kernel : decode cJ6_stringSize_0f7a4 28 = .ok (.iload_n 1, 1))) rfl rfl ?_
  refine sd_iadd (hF _) (jde hC (by decide +kernel : decode cJ6_stringSize_0f7a4 29 = .ok (.iadd, 1))) ?_
  refine jd_top (b := .inl (.int (nI 3))) (congrArg (fun z => (Sum.inl (Value.int z) : AV)) (by decide)) ?_
  exact hE _ 30 0 _ _ (some (.int (nI 3))) (by decide +kernel : decode cJ6_stringSize_0f7a4 30 = .ok (.ireturn, 1)) ⟨_, _, rfl, rfl, rfl⟩ ⟨rfl, rfl⟩ (Nat.le_of_ble_eq_true rfl)
set_option maxRecDepth 100000 in
theorem jm_ss_13 {D : va_G} {cs : Nat → ClassId} {b : Nat} {ad : Rf → Nat} {adV : Nat → Nat} {sc : Nat × (Nat → Int32)} {l : Launch} {w : Nat} {ws : va_W} (hw0 : 0 < w) (hw : w < 1000) (h0 : 100 ≤ w) : JC (D, cs, b, ad, adV, sc) l yJ6_stringSize_0f7a4 cJ6_stringSize_0f7a4 4 (some .int) 0 0 [.int (-nI w)] (ws : va_W) (pD (some (.int (nI 4))) ws) := by
  refine jc_of (by decide +kernel) (by simp [Value.category]) (Nat.le_of_ble_eq_true rfl) ?_
  intro x hF hC hO hG hV hK hH hI hE
  show WJ x (ws : va_W) 0 ([some (.inl (.int (-nI w))), none, none, none] : Ls) ([] : List AV) 0
  refine sd_iconst (v := 1) (hF _) (jde hC (by decide +kernel : decode cJ6_stringSize_0f7a4 0 = .ok (.iconst 1, 1))) ?_
  refine jd_istore_n (i := 1) (hF _) (jde hC (by decide +kernel : decode cJ6_stringSize_0f7a4 1 = .ok (.istore_n 1, 1))) rfl rfl (Nat.le_of_ble_eq_true rfl) ?_
  refine jd_iload_n (i := 0) (hF _) (jde hC (by decide +kernel : decode cJ6_stringSize_0f7a4 2 = .ok (.iload_n 0, 1))) rfl rfl ?_
  refine sd_if_lt (tgt := 11) (hF _) (jde hC (by decide +kernel : decode cJ6_stringSize_0f7a4 3 = .ok (.ifCond .lt 8, 3))) rfl (fun _ => ?_) (fun z => absurd (ng_lt hw0 (by omega)) z)
  refine sd_bipush (v := -10) (hF _) (jde hC (by decide +kernel : decode cJ6_stringSize_0f7a4 11 = .ok (.bipush (-10), 2))) ?_
  show WJ x (ws : va_W) 13 ([some (.inl (.int (-nI w))), some (.inl (.int 1)), none, none] : Ls) ([.inl (.int (-10))] : List AV) 0
  refine jd_istore_n (i := 2) (hF _) (jde hC (by decide +kernel : decode cJ6_stringSize_0f7a4 13 = .ok (.istore_n 2, 1))) rfl rfl (Nat.le_of_ble_eq_true rfl) ?_
  refine sd_iconst (v := 1) (hF _) (jde hC (by decide +kernel : decode cJ6_stringSize_0f7a4 14 = .ok (.iconst 1, 1))) ?_
  refine jd_istore_n (i := 3) (hF _) (jde hC (by decide +kernel : decode cJ6_stringSize_0f7a4 15 = .ok (.istore_n 3, 1))) rfl rfl (Nat.le_of_ble_eq_true rfl) ?_
  refine jd_iload_n (i := 3) (hF _) (jde hC (by decide +kernel : decode cJ6_stringSize_0f7a4 16 = .ok (.iload_n 3, 1))) rfl rfl ?_
  refine sd_bipush (v := 10) (hF _) (jde hC (by decide +kernel : decode cJ6_stringSize_0f7a4 17 = .ok (.bipush 10, 2))) ?_
  show WJ x (ws : va_W) 19 ([some (.inl (.int (-nI w))), some (.inl (.int 1)), some (.inl (.int (-10))), some (.inl (.int 1))] : Ls) ([.inl (.int 10), .inl (.int 1)] : List AV) 0
  refine sd_icmp_ge (tgt := 42) (hF _) (jde hC (by decide +kernel : decode cJ6_stringSize_0f7a4 19 = .ok (.if_icmp .ge 23, 3))) rfl (fun z => absurd z (by decide)) (fun _ => ?_)
  refine jd_iload_n (i := 0) (hF _) (jde hC (by decide +kernel : decode cJ6_stringSize_0f7a4 22 = .ok (.iload_n 0, 1))) rfl rfl ?_
  refine jd_iload_n (i := 2) (hF _) (jde hC (by decide +kernel : decode cJ6_stringSize_0f7a4 23 = .ok (.iload_n 2, 1))) rfl rfl ?_
  refine sd_icmp_le (tgt := 31) (hF _) (jde hC (by decide +kernel : decode cJ6_stringSize_0f7a4 24 = .ok (.if_icmp .le 7, 3))) rfl (fun _ => ?_) (fun z => absurd (by rw [show ((-10) : Int32) = -nI 10 from (by decide : ((-10) : Int32) = -nI 10)]; exact (sb_nle (by omega) (by omega)).mpr (by omega)) z)
  refine sd_bipush (v := 10) (hF _) (jde hC (by decide +kernel : decode cJ6_stringSize_0f7a4 31 = .ok (.bipush 10, 2))) ?_
  show WJ x (ws : va_W) 33 ([some (.inl (.int (-nI w))), some (.inl (.int 1)), some (.inl (.int (-10))), some (.inl (.int 1))] : Ls) ([.inl (.int 10)] : List AV) 0
  refine jd_iload_n (i := 2) (hF _) (jde hC (by decide +kernel : decode cJ6_stringSize_0f7a4 33 = .ok (.iload_n 2, 1))) rfl rfl ?_
  refine sd_imul (hF _) (jde hC (by decide +kernel : decode cJ6_stringSize_0f7a4 34 = .ok (.imul, 1))) ?_
  refine jd_istore_n (i := 2) (hF _) (jde hC (by decide +kernel : decode cJ6_stringSize_0f7a4 35 = .ok (.istore_n 2, 1))) rfl rfl (Nat.le_of_ble_eq_true rfl) ?_
  refine sd_iinc (i := 3) (a := 1) (hF _) (jde hC (by decide +kernel : decode cJ6_stringSize_0f7a4 36 = .ok (.iinc 3 1, 3))) rfl rfl (Nat.le_of_ble_eq_true rfl) ?_
  refine sd_goto (tgt := 16) (hF _) (jde hC (by decide +kernel : decode cJ6_stringSize_0f7a4 39 = .ok (.goto (-23), 3))) rfl ?_
  refine jd_iload_n (i := 3) (hF _) (jde hC (by decide +kernel : decode cJ6_stringSize_0f7a4 16 = .ok (.iload_n 3, 1))) rfl rfl ?_
  refine sd_bipush (v := 10) (hF _) (jde hC (by decide +kernel : decode cJ6_stringSize_0f7a4 17 = .ok (.bipush 10, 2))) ?_
  show WJ x (ws : va_W) 19 ([some (.inl (.int (-nI w))), some (.inl (.int 1)), some (.inl (.int (10 * (-10)))), some (.inl (.int (1 + 1)))] : Ls) ([.inl (.int 10), .inl (.int (1 + 1))] : List AV) 0
  refine sd_icmp_ge (tgt := 42) (hF _) (jde hC (by decide +kernel : decode cJ6_stringSize_0f7a4 19 = .ok (.if_icmp .ge 23, 3))) rfl (fun z => absurd z (by decide)) (fun _ => ?_)
  refine jd_iload_n (i := 0) (hF _) (jde hC (by decide +kernel : decode cJ6_stringSize_0f7a4 22 = .ok (.iload_n 0, 1))) rfl rfl ?_
  refine jd_iload_n (i := 2) (hF _) (jde hC (by decide +kernel : decode cJ6_stringSize_0f7a4 23 = .ok (.iload_n 2, 1))) rfl rfl ?_
  refine sd_icmp_le (tgt := 31) (hF _) (jde hC (by decide +kernel : decode cJ6_stringSize_0f7a4 24 = .ok (.if_icmp .le 7, 3))) rfl (fun _ => ?_) (fun z => absurd (by rw [show ((10 * (-10)) : Int32) = -nI 100 from (by decide : ((10 * (-10)) : Int32) = -nI 100)]; exact (sb_nle (by omega) (by omega)).mpr (by omega)) z)
  refine sd_bipush (v := 10) (hF _) (jde hC (by decide +kernel : decode cJ6_stringSize_0f7a4 31 = .ok (.bipush 10, 2))) ?_
  show WJ x (ws : va_W) 33 ([some (.inl (.int (-nI w))), some (.inl (.int 1)), some (.inl (.int (10 * (-10)))), some (.inl (.int (1 + 1)))] : Ls) ([.inl (.int 10)] : List AV) 0
  refine jd_iload_n (i := 2) (hF _) (jde hC (by decide +kernel : decode cJ6_stringSize_0f7a4 33 = .ok (.iload_n 2, 1))) rfl rfl ?_
  refine sd_imul (hF _) (jde hC (by decide +kernel : decode cJ6_stringSize_0f7a4 34 = .ok (.imul, 1))) ?_
  refine jd_istore_n (i := 2) (hF _) (jde hC (by decide +kernel : decode cJ6_stringSize_0f7a4 35 = .ok (.istore_n 2, 1))) rfl rfl (Nat.le_of_ble_eq_true rfl) ?_
  refine sd_iinc (i := 3) (a := (1 + 1)) (hF _) (jde hC (by decide +kernel : decode cJ6_stringSize_0f7a4 36 = .ok (.iinc 3 1, 3))) rfl rfl (Nat.le_of_ble_eq_true rfl) ?_
  refine sd_goto (tgt := 16) (hF _) (jde hC (by decide +kernel : decode cJ6_stringSize_0f7a4 39 = .ok (.goto (-23), 3))) rfl ?_
  refine jd_iload_n (i := 3) (hF _) (jde hC (by decide +kernel : decode cJ6_stringSize_0f7a4 16 = .ok (.iload_n 3, 1))) rfl rfl ?_
  refine sd_bipush (v := 10) (hF _) (jde hC (by decide +kernel : decode cJ6_stringSize_0f7a4 17 = .ok (.bipush 10, 2))) ?_
  show WJ x (ws : va_W) 19 ([some (.inl (.int (-nI w))), some (.inl (.int 1)), some (.inl (.int (10 * (10 * (-10))))), some (.inl (.int ((1 + 1) + 1)))] : Ls) ([.inl (.int 10), .inl (.int ((1 + 1) + 1))] : List AV) 0
  refine sd_icmp_ge (tgt := 42) (hF _) (jde hC (by decide +kernel : decode cJ6_stringSize_0f7a4 19 = .ok (.if_icmp .ge 23, 3))) rfl (fun z => absurd z (by decide)) (fun _ => ?_)
  refine jd_iload_n (i := 0) (hF _) (jde hC (by decide +kernel : decode cJ6_stringSize_0f7a4 22 = .ok (.iload_n 0, 1))) rfl rfl ?_
  refine jd_iload_n (i := 2) (hF _) (jde hC (by decide +kernel : decode cJ6_stringSize_0f7a4 23 = .ok (.iload_n 2, 1))) rfl rfl ?_
  refine sd_icmp_le (tgt := 31) (hF _) (jde hC (by decide +kernel : decode cJ6_stringSize_0f7a4 24 = .ok (.if_icmp .le 7, 3))) rfl (fun z => absurd z (by rw [show ((10 * (10 * (-10))) : Int32) = -nI 1000 from (by decide : ((10 * (10 * (-10))) : Int32) = -nI 1000)]; exact fun z => absurd ((sb_nle (by omega) (by omega)).mp z) (by omega))) (fun _ => ?_)
  refine jd_iload_n (i := 3) (hF _) (jde hC (by decide +kernel : decode cJ6_stringSize_0f7a4 27 = .ok (.iload_n 3, 1))) rfl rfl ?_
  refine jd_iload_n (i := 1) (hF _) (jde hC (by decide +kernel : decode cJ6_stringSize_0f7a4 28 = .ok (.iload_n 1, 1))) rfl rfl ?_
  refine sd_iadd (hF _) (jde hC (by decide +kernel : decode cJ6_stringSize_0f7a4 29 = .ok (.iadd, 1))) ?_
  refine jd_top (b := .inl (.int (nI 4))) (congrArg (fun z => (Sum.inl (Value.int z) : AV)) (by decide)) ?_
  exact hE _ 30 0 _ _ (some (.int (nI 4))) (by decide +kernel : decode cJ6_stringSize_0f7a4 30 = .ok (.ireturn, 1)) ⟨_, _, rfl, rfl, rfl⟩ ⟨rfl, rfl⟩ (Nat.le_of_ble_eq_true rfl)
theorem int_cases {v : Int32} (h1 : -1000 < v) (h2 : v < 1000) : ∃ w, w < 1000 ∧ (v = nI w ∨ (0 < w ∧ v = -nI w)) := by
  have a1 : -1000 < v.toInt := by rw [Int32.lt_iff_toInt_lt] at h1; exact h1
  have a2 : v.toInt < 1000 := by rw [Int32.lt_iff_toInt_lt] at h2; exact h2
  refine ⟨v.toInt.natAbs, by omega, ?_⟩
  rcases Int.lt_or_le v.toInt 0 with h | h
  · refine Or.inr ⟨by omega, Int32.toInt_inj.mp ?_⟩
    rw [sb_negT (by omega)]; omega
  · refine Or.inl (Int32.toInt_inj.mp ?_)
    rw [nI_toInt (by omega)]; omega
theorem jm_ss {D : va_G} {cs : Nat → ClassId} {b : Nat} {ad : Rf → Nat} {adV : Nat → Nat} {sc : Nat × (Nat → Int32)} {l : Launch} {v : Int32} {ws : va_W} (h1 : -1000 < v) (h2 : v < 1000) : JC (D, cs, b, ad, adV, sc) l yJ6_stringSize_0f7a4 cJ6_stringSize_0f7a4 4 (some .int) 0 0 [.int v] ws (pD (some (.int (nI (dg_ v).length))) ws) := by
  obtain ⟨w, hw, rfl | ⟨h0, rfl⟩⟩ := int_cases h1 h2
  · rw [dg_p hw]
    rcases Nat.lt_or_ge w 10 with h | h
    · rw [dg_1 h]; exact jm_ss_01 hw h
    · rcases Nat.lt_or_ge w 100 with g | g
      · rw [dg_2 h g]; exact jm_ss_02 hw h g
      · rw [dg_3 g]; exact jm_ss_03 hw g
  · rw [dg_n h0 hw]
    rcases Nat.lt_or_ge w 10 with h | h
    · rw [dg_1 h]; exact jm_ss_11 h0 hw h
    · rcases Nat.lt_or_ge w 100 with g | g
      · rw [dg_2 h g]; exact jm_ss_12 h0 hw h g
      · rw [dg_3 g]; exact jm_ss_13 h0 hw g
set_option maxRecDepth 100000 in
theorem jm_gc_01 {D : va_G} {cs : Nat → ClassId} {b : Nat} {ad : Rf → Nat} {adV : Nat → Nat} {sc : Nat × (Nat → Int32)} {l : Launch} {h q cap n w : Nat} {f : Nat → Int32} {v0 v1 v2 v3 : Value} {R : va_W} (hw : w < 1000) (hd : w < 10) (hf : sb_Fit f) (hn : n + 1 ≤ cap) (hc : cap ≤ 100) : JC (D, cs, b, ad, adV, sc) l yJ6_getChars_ba4f3 cJ6_getChars_ba4f3 7 (some .int) 0 0 [.int (nI w), .int (nI (n + 1)), .ref q] ((h, .inr (8, [v0, v1, v2, v3])) :: (q, .inl (cs 5, cap, .inl f)) :: R : va_W) (fun v w2 => some (.int (nI n)) = v ∧ ∃ f2 : Nat → Int32, ((h, .inr (8, [v0, v1, v2, v3])) :: (q, .inl (cs 5, cap, .inl f2)) :: R : va_W) = w2 ∧ sb_Fit f2 ∧ (∀ j, j < n → f2 j = f j) ∧ ∀ j, j < [nI (48 + w)].length → f2 (n + j) = [nI (48 + w)].getD j 0) := by
  refine jc_of (by decide +kernel) (by simp [Value.category]) (Nat.le_of_ble_eq_true rfl) ?_
  intro x hF hC hO hG hV hK hH hI hE
  show WJ x ((h, .inr (8, [v0, v1, v2, v3])) :: (q, .inl (cs 5, cap, .inl f)) :: R : va_W) 0 ([some (.inl (.int (nI w))), some (.inl (.int (nI (n + 1)))), some (.inl (.ref q)), none, none, none, none] : Ls) ([] : List AV) 0
  refine jd_iload_n (i := 1) (hF _) (jde hC (by decide +kernel : decode cJ6_getChars_ba4f3 0 = .ok (.iload_n 1, 1))) rfl rfl ?_
  refine jd_istore (i := 5) (hF _) (jde hC (by decide +kernel : decode cJ6_getChars_ba4f3 1 = .ok (.istore 5, 2))) rfl (Nat.le_of_ble_eq_true rfl) ?_
  refine jd_iload_n (i := 0) (hF _) (jde hC (by decide +kernel : decode cJ6_getChars_ba4f3 3 = .ok (.iload_n 0, 1))) rfl rfl ?_
  refine sd_if_ge (tgt := 11) (hF _) (jde hC (by decide +kernel : decode cJ6_getChars_ba4f3 4 = .ok (.ifCond .ge 7, 3))) rfl (fun _ => ?_) (fun z => absurd (nI_pos' (by omega)) z)
  refine sd_iconst (v := 0) (hF _) (jde hC (by decide +kernel : decode cJ6_getChars_ba4f3 11 = .ok (.iconst 0, 1))) ?_
  refine jd_istore (i := 6) (hF _) (jde hC (by decide +kernel : decode cJ6_getChars_ba4f3 12 = .ok (.istore 6, 2))) rfl (Nat.le_of_ble_eq_true rfl) ?_
  refine jd_iload (i := 6) (hF _) (jde hC (by decide +kernel : decode cJ6_getChars_ba4f3 14 = .ok (.iload 6, 2))) rfl ?_
  refine sd_if_ne (tgt := 22) (hF _) (jde hC (by decide +kernel : decode cJ6_getChars_ba4f3 16 = .ok (.ifCond .ne 6, 3))) rfl (fun z => absurd (rfl) z) (fun _ => ?_)
  refine jd_iload_n (i := 0) (hF _) (jde hC (by decide +kernel : decode cJ6_getChars_ba4f3 19 = .ok (.iload_n 0, 1))) rfl rfl ?_
  refine sd_ineg (hF _) (jde hC (by decide +kernel : decode cJ6_getChars_ba4f3 20 = .ok (.ineg, 1))) ?_
  refine jd_istore_n (i := 0) (hF _) (jde hC (by decide +kernel : decode cJ6_getChars_ba4f3 21 = .ok (.istore_n 0, 1))) rfl rfl (Nat.le_of_ble_eq_true rfl) ?_
  refine jd_iload_n (i := 0) (hF _) (jde hC (by decide +kernel : decode cJ6_getChars_ba4f3 22 = .ok (.iload_n 0, 1))) rfl rfl ?_
  refine sd_bipush (v := -100) (hF _) (jde hC (by decide +kernel : decode cJ6_getChars_ba4f3 23 = .ok (.bipush (-100), 2))) ?_
  show WJ x ((h, .inr (8, [v0, v1, v2, v3])) :: (q, .inl (cs 5, cap, .inl f)) :: R : va_W) 25 ([some (.inl (.int (-(nI w)))), some (.inl (.int (nI (n + 1)))), some (.inl (.ref q)), none, none, some (.inl (.int (nI (n + 1)))), some (.inl (.int 0))] : Ls) ([.inl (.int (-100)), .inl (.int (-(nI w)))] : List AV) 0
  refine sd_icmp_gt (tgt := 72) (hF _) (jde hC (by decide +kernel : decode cJ6_getChars_ba4f3 25 = .ok (.if_icmp .gt 47, 3))) rfl (fun _ => ?_) (fun z => absurd ((sb_nlt (a := 100) (b := w) (by omega) (by omega)).mpr (by omega)) z)
  refine jd_aload_n (i := 2) (hF _) (jde hC (by decide +kernel : decode cJ6_getChars_ba4f3 72 = .ok (.aload_n 2, 1))) rfl rfl ?_
  refine sd_iinc (i := 5) (a := (nI (n + 1))) (hF _) (jde hC (by decide +kernel : decode cJ6_getChars_ba4f3 73 = .ok (.iinc 5 (-1), 3))) rfl rfl (Nat.le_of_ble_eq_true rfl) ?_
  refine jd_ls (ls' := ([some (.inl (.int (-(nI w)))), some (.inl (.int (nI (n + 1)))), some (.inl (.ref q)), none, none, some (.inl (.int (nI (n + 0)))), some (.inl (.int 0))] : Ls)) (congrArg (fun z => ([some (.inl (.int (-(nI w)))), some (.inl (.int (nI (n + 1)))), some (.inl (.ref q)), none, none, some (.inl (.int z)), some (.inl (.int 0))] : Ls)) (dec1 (n + 0))) ?_
  refine jd_iload (i := 5) (hF _) (jde hC (by decide +kernel : decode cJ6_getChars_ba4f3 76 = .ok (.iload 5, 2))) rfl ?_
  refine jd_ones (hF _) (jde hC (by decide +kernel : decode cJ6_getChars_ba4f3 78 = .ok (.getstatic 83, 3))) (by (try rw [xwO]); rw [hO]; exact we_924) (fun t1 ht1 => ?_)
  refine jd_iload_n (i := 0) (hF _) (jde hC (by decide +kernel : decode cJ6_getChars_ba4f3 81 = .ok (.iload_n 0, 1))) rfl rfl ?_
  refine sd_ineg (hF _) (jde hC (by decide +kernel : decode cJ6_getChars_ba4f3 82 = .ok (.ineg, 1))) ?_
  refine jd_top (b := .inl (.int (nI (w)))) (congrArg (fun z => (Sum.inl (Value.int z) : AV)) (ng_ng)) ?_
  refine ht1 _ _ _ _ _ _ (jde hC (by decide +kernel : decode cJ6_getChars_ba4f3 83 = .ok (.baload, 1))) (in_of (by omega) (by omega)) ?_
  refine jd_top (b := .inl (.int (nI (48 + (w) % 10)))) (congrArg (fun z => (Sum.inl (Value.int z) : AV)) (congrArg (fun z => Int32.ofNat (48 + z % 10)) (nI_clamp (n := w) (by omega)))) ?_
  refine jd_bast (k := 1) (n := cap) (f := f) (hF _) (jde hC (by decide +kernel : decode cJ6_getChars_ba4f3 84 = .ok (.bastore, 1))) (by rw [hK]; rfl) (in_of (by omega) (by omega)) ?_
  refine jd_e (ws' := ((h, .inr (8, [v0, v1, v2, v3])) :: (q, .inl (cs 5, cap, .inl (upd f (n + 0) (nI (48 + (w) % 10))))) :: R : va_W)) (by rw [hK, nI_clamp (by omega), vb_d (by omega)]; rfl) ?_
  show WJ x ((h, .inr (8, [v0, v1, v2, v3])) :: (q, .inl (cs 5, cap, .inl (upd f (n + 0) (nI (48 + (w) % 10))))) :: R : va_W) 85 ([some (.inl (.int (-(nI w)))), some (.inl (.int (nI (n + 1)))), some (.inl (.ref q)), none, none, some (.inl (.int (nI (n + 0)))), some (.inl (.int 0))] : Ls) ([] : List AV) 0
  refine jd_iload_n (i := 0) (hF _) (jde hC (by decide +kernel : decode cJ6_getChars_ba4f3 85 = .ok (.iload_n 0, 1))) rfl rfl ?_
  refine sd_bipush (v := -9) (hF _) (jde hC (by decide +kernel : decode cJ6_getChars_ba4f3 86 = .ok (.bipush (-9), 2))) ?_
  show WJ x ((h, .inr (8, [v0, v1, v2, v3])) :: (q, .inl (cs 5, cap, .inl (upd f (n + 0) (nI (48 + (w) % 10))))) :: R : va_W) 88 ([some (.inl (.int (-(nI w)))), some (.inl (.int (nI (n + 1)))), some (.inl (.ref q)), none, none, some (.inl (.int (nI (n + 0)))), some (.inl (.int 0))] : Ls) ([.inl (.int (-9)), .inl (.int (-(nI w)))] : List AV) 0
  refine sd_icmp_ge (tgt := 104) (hF _) (jde hC (by decide +kernel : decode cJ6_getChars_ba4f3 88 = .ok (.if_icmp .ge 16, 3))) rfl (fun _ => ?_) (fun z => absurd ((sb_nle (a := 9) (b := w) (by omega) (by omega)).mpr (by omega)) z)
  refine jd_iload (i := 6) (hF _) (jde hC (by decide +kernel : decode cJ6_getChars_ba4f3 104 = .ok (.iload 6, 2))) rfl ?_
  refine sd_if_eq (tgt := 118) (hF _) (jde hC (by decide +kernel : decode cJ6_getChars_ba4f3 106 = .ok (.ifCond .eq 12, 3))) rfl (fun _ => ?_) (fun z => absurd (rfl) z)
  refine jd_iload (i := 5) (hF _) (jde hC (by decide +kernel : decode cJ6_getChars_ba4f3 118 = .ok (.iload 5, 2))) rfl ?_
  refine hE _ 120 0 _ _ (some (.int (nI (n + 0)))) (by decide +kernel : decode cJ6_getChars_ba4f3 120 = .ok (.ireturn, 1)) ⟨_, _, rfl, rfl, rfl⟩ ⟨rfl, _, rfl, (sb_fitU hf (fb_d (by omega))), fun j hj => by rw [pk_un (by omega)], ?_⟩ (Nat.le_of_ble_eq_true rfl)
  intro j hj
  rcases Nat.eq_or_lt_of_le (show 0 ≤ j by omega) with hj0 | hj0
  · rw [← hj0]
    exact pk_us.trans (congrArg nI (show 48 + w % 10 = 48 + w by omega))
  exact absurd hj (by simp; omega)
set_option maxRecDepth 100000 in
theorem jm_gc_02 {D : va_G} {cs : Nat → ClassId} {b : Nat} {ad : Rf → Nat} {adV : Nat → Nat} {sc : Nat × (Nat → Int32)} {l : Launch} {h q cap n w : Nat} {f : Nat → Int32} {v0 v1 v2 v3 : Value} {R : va_W} (hw : w < 1000) (h0 : 10 ≤ w) (hd : w < 100) (hf : sb_Fit f) (hn : n + 2 ≤ cap) (hc : cap ≤ 100) : JC (D, cs, b, ad, adV, sc) l yJ6_getChars_ba4f3 cJ6_getChars_ba4f3 7 (some .int) 0 0 [.int (nI w), .int (nI (n + 2)), .ref q] ((h, .inr (8, [v0, v1, v2, v3])) :: (q, .inl (cs 5, cap, .inl f)) :: R : va_W) (fun v w2 => some (.int (nI n)) = v ∧ ∃ f2 : Nat → Int32, ((h, .inr (8, [v0, v1, v2, v3])) :: (q, .inl (cs 5, cap, .inl f2)) :: R : va_W) = w2 ∧ sb_Fit f2 ∧ (∀ j, j < n → f2 j = f j) ∧ ∀ j, j < [nI (48 + w / 10), nI (48 + w % 10)].length → f2 (n + j) = [nI (48 + w / 10), nI (48 + w % 10)].getD j 0) := by
  refine jc_of (by decide +kernel) (by simp [Value.category]) (Nat.le_of_ble_eq_true rfl) ?_
  intro x hF hC hO hG hV hK hH hI hE
  show WJ x ((h, .inr (8, [v0, v1, v2, v3])) :: (q, .inl (cs 5, cap, .inl f)) :: R : va_W) 0 ([some (.inl (.int (nI w))), some (.inl (.int (nI (n + 2)))), some (.inl (.ref q)), none, none, none, none] : Ls) ([] : List AV) 0
  refine jd_iload_n (i := 1) (hF _) (jde hC (by decide +kernel : decode cJ6_getChars_ba4f3 0 = .ok (.iload_n 1, 1))) rfl rfl ?_
  refine jd_istore (i := 5) (hF _) (jde hC (by decide +kernel : decode cJ6_getChars_ba4f3 1 = .ok (.istore 5, 2))) rfl (Nat.le_of_ble_eq_true rfl) ?_
  refine jd_iload_n (i := 0) (hF _) (jde hC (by decide +kernel : decode cJ6_getChars_ba4f3 3 = .ok (.iload_n 0, 1))) rfl rfl ?_
  refine sd_if_ge (tgt := 11) (hF _) (jde hC (by decide +kernel : decode cJ6_getChars_ba4f3 4 = .ok (.ifCond .ge 7, 3))) rfl (fun _ => ?_) (fun z => absurd (nI_pos' (by omega)) z)
  refine sd_iconst (v := 0) (hF _) (jde hC (by decide +kernel : decode cJ6_getChars_ba4f3 11 = .ok (.iconst 0, 1))) ?_
  refine jd_istore (i := 6) (hF _) (jde hC (by decide +kernel : decode cJ6_getChars_ba4f3 12 = .ok (.istore 6, 2))) rfl (Nat.le_of_ble_eq_true rfl) ?_
  refine jd_iload (i := 6) (hF _) (jde hC (by decide +kernel : decode cJ6_getChars_ba4f3 14 = .ok (.iload 6, 2))) rfl ?_
  refine sd_if_ne (tgt := 22) (hF _) (jde hC (by decide +kernel : decode cJ6_getChars_ba4f3 16 = .ok (.ifCond .ne 6, 3))) rfl (fun z => absurd (rfl) z) (fun _ => ?_)
  refine jd_iload_n (i := 0) (hF _) (jde hC (by decide +kernel : decode cJ6_getChars_ba4f3 19 = .ok (.iload_n 0, 1))) rfl rfl ?_
  refine sd_ineg (hF _) (jde hC (by decide +kernel : decode cJ6_getChars_ba4f3 20 = .ok (.ineg, 1))) ?_
  refine jd_istore_n (i := 0) (hF _) (jde hC (by decide +kernel : decode cJ6_getChars_ba4f3 21 = .ok (.istore_n 0, 1))) rfl rfl (Nat.le_of_ble_eq_true rfl) ?_
  refine jd_iload_n (i := 0) (hF _) (jde hC (by decide +kernel : decode cJ6_getChars_ba4f3 22 = .ok (.iload_n 0, 1))) rfl rfl ?_
  refine sd_bipush (v := -100) (hF _) (jde hC (by decide +kernel : decode cJ6_getChars_ba4f3 23 = .ok (.bipush (-100), 2))) ?_
  show WJ x ((h, .inr (8, [v0, v1, v2, v3])) :: (q, .inl (cs 5, cap, .inl f)) :: R : va_W) 25 ([some (.inl (.int (-(nI w)))), some (.inl (.int (nI (n + 2)))), some (.inl (.ref q)), none, none, some (.inl (.int (nI (n + 2)))), some (.inl (.int 0))] : Ls) ([.inl (.int (-100)), .inl (.int (-(nI w)))] : List AV) 0
  refine sd_icmp_gt (tgt := 72) (hF _) (jde hC (by decide +kernel : decode cJ6_getChars_ba4f3 25 = .ok (.if_icmp .gt 47, 3))) rfl (fun _ => ?_) (fun z => absurd ((sb_nlt (a := 100) (b := w) (by omega) (by omega)).mpr (by omega)) z)
  refine jd_aload_n (i := 2) (hF _) (jde hC (by decide +kernel : decode cJ6_getChars_ba4f3 72 = .ok (.aload_n 2, 1))) rfl rfl ?_
  refine sd_iinc (i := 5) (a := (nI (n + 2))) (hF _) (jde hC (by decide +kernel : decode cJ6_getChars_ba4f3 73 = .ok (.iinc 5 (-1), 3))) rfl rfl (Nat.le_of_ble_eq_true rfl) ?_
  refine jd_ls (ls' := ([some (.inl (.int (-(nI w)))), some (.inl (.int (nI (n + 2)))), some (.inl (.ref q)), none, none, some (.inl (.int (nI (n + 1)))), some (.inl (.int 0))] : Ls)) (congrArg (fun z => ([some (.inl (.int (-(nI w)))), some (.inl (.int (nI (n + 2)))), some (.inl (.ref q)), none, none, some (.inl (.int z)), some (.inl (.int 0))] : Ls)) (dec1 (n + 1))) ?_
  refine jd_iload (i := 5) (hF _) (jde hC (by decide +kernel : decode cJ6_getChars_ba4f3 76 = .ok (.iload 5, 2))) rfl ?_
  refine jd_ones (hF _) (jde hC (by decide +kernel : decode cJ6_getChars_ba4f3 78 = .ok (.getstatic 83, 3))) (by (try rw [xwO]); rw [hO]; exact we_924) (fun t1 ht1 => ?_)
  refine jd_iload_n (i := 0) (hF _) (jde hC (by decide +kernel : decode cJ6_getChars_ba4f3 81 = .ok (.iload_n 0, 1))) rfl rfl ?_
  refine sd_ineg (hF _) (jde hC (by decide +kernel : decode cJ6_getChars_ba4f3 82 = .ok (.ineg, 1))) ?_
  refine jd_top (b := .inl (.int (nI (w)))) (congrArg (fun z => (Sum.inl (Value.int z) : AV)) (ng_ng)) ?_
  refine ht1 _ _ _ _ _ _ (jde hC (by decide +kernel : decode cJ6_getChars_ba4f3 83 = .ok (.baload, 1))) (in_of (by omega) (by omega)) ?_
  refine jd_top (b := .inl (.int (nI (48 + (w) % 10)))) (congrArg (fun z => (Sum.inl (Value.int z) : AV)) (congrArg (fun z => Int32.ofNat (48 + z % 10)) (nI_clamp (n := w) (by omega)))) ?_
  refine jd_bast (k := 1) (n := cap) (f := f) (hF _) (jde hC (by decide +kernel : decode cJ6_getChars_ba4f3 84 = .ok (.bastore, 1))) (by rw [hK]; rfl) (in_of (by omega) (by omega)) ?_
  refine jd_e (ws' := ((h, .inr (8, [v0, v1, v2, v3])) :: (q, .inl (cs 5, cap, .inl (upd f (n + 1) (nI (48 + (w) % 10))))) :: R : va_W)) (by rw [hK, nI_clamp (by omega), vb_d (by omega)]; rfl) ?_
  show WJ x ((h, .inr (8, [v0, v1, v2, v3])) :: (q, .inl (cs 5, cap, .inl (upd f (n + 1) (nI (48 + (w) % 10))))) :: R : va_W) 85 ([some (.inl (.int (-(nI w)))), some (.inl (.int (nI (n + 2)))), some (.inl (.ref q)), none, none, some (.inl (.int (nI (n + 1)))), some (.inl (.int 0))] : Ls) ([] : List AV) 0
  refine jd_iload_n (i := 0) (hF _) (jde hC (by decide +kernel : decode cJ6_getChars_ba4f3 85 = .ok (.iload_n 0, 1))) rfl rfl ?_
  refine sd_bipush (v := -9) (hF _) (jde hC (by decide +kernel : decode cJ6_getChars_ba4f3 86 = .ok (.bipush (-9), 2))) ?_
  show WJ x ((h, .inr (8, [v0, v1, v2, v3])) :: (q, .inl (cs 5, cap, .inl (upd f (n + 1) (nI (48 + (w) % 10))))) :: R : va_W) 88 ([some (.inl (.int (-(nI w)))), some (.inl (.int (nI (n + 2)))), some (.inl (.ref q)), none, none, some (.inl (.int (nI (n + 1)))), some (.inl (.int 0))] : Ls) ([.inl (.int (-9)), .inl (.int (-(nI w)))] : List AV) 0
  refine sd_icmp_ge (tgt := 104) (hF _) (jde hC (by decide +kernel : decode cJ6_getChars_ba4f3 88 = .ok (.if_icmp .ge 16, 3))) rfl (fun z => absurd z (fun z => absurd ((sb_nle (a := 9) (b := w) (by omega) (by omega)).mp (show -nI 9 ≤ -nI w from z)) (by omega))) (fun _ => ?_)
  refine jd_aload_n (i := 2) (hF _) (jde hC (by decide +kernel : decode cJ6_getChars_ba4f3 91 = .ok (.aload_n 2, 1))) rfl rfl ?_
  refine sd_iinc (i := 5) (a := (nI (n + 1))) (hF _) (jde hC (by decide +kernel : decode cJ6_getChars_ba4f3 92 = .ok (.iinc 5 (-1), 3))) rfl rfl (Nat.le_of_ble_eq_true rfl) ?_
  refine jd_ls (ls' := ([some (.inl (.int (-(nI w)))), some (.inl (.int (nI (n + 2)))), some (.inl (.ref q)), none, none, some (.inl (.int (nI (n + 0)))), some (.inl (.int 0))] : Ls)) (congrArg (fun z => ([some (.inl (.int (-(nI w)))), some (.inl (.int (nI (n + 2)))), some (.inl (.ref q)), none, none, some (.inl (.int z)), some (.inl (.int 0))] : Ls)) (dec1 (n + 0))) ?_
  refine jd_iload (i := 5) (hF _) (jde hC (by decide +kernel : decode cJ6_getChars_ba4f3 95 = .ok (.iload 5, 2))) rfl ?_
  refine jd_tens (hF _) (jde hC (by decide +kernel : decode cJ6_getChars_ba4f3 97 = .ok (.getstatic 87, 3))) (by (try rw [xwO]); rw [hO]; exact we_926) (fun t2 ht2 => ?_)
  refine jd_iload_n (i := 0) (hF _) (jde hC (by decide +kernel : decode cJ6_getChars_ba4f3 100 = .ok (.iload_n 0, 1))) rfl rfl ?_
  refine sd_ineg (hF _) (jde hC (by decide +kernel : decode cJ6_getChars_ba4f3 101 = .ok (.ineg, 1))) ?_
  refine jd_top (b := .inl (.int (nI (w)))) (congrArg (fun z => (Sum.inl (Value.int z) : AV)) (ng_ng)) ?_
  refine ht2 _ _ _ _ _ _ (jde hC (by decide +kernel : decode cJ6_getChars_ba4f3 102 = .ok (.baload, 1))) (in_of (by omega) (by omega)) ?_
  refine jd_top (b := .inl (.int (nI (48 + (w) / 10)))) (congrArg (fun z => (Sum.inl (Value.int z) : AV)) (congrArg (fun z => Int32.ofNat (48 + z / 10)) (nI_clamp (n := w) (by omega)))) ?_
  refine jd_bast (k := 1) (n := cap) (f := (upd f (n + 1) (nI (48 + (w) % 10)))) (hF _) (jde hC (by decide +kernel : decode cJ6_getChars_ba4f3 103 = .ok (.bastore, 1))) (by rw [hK]; rfl) (in_of (by omega) (by omega)) ?_
  refine jd_e (ws' := ((h, .inr (8, [v0, v1, v2, v3])) :: (q, .inl (cs 5, cap, .inl (upd (upd f (n + 1) (nI (48 + (w) % 10))) (n + 0) (nI (48 + (w) / 10))))) :: R : va_W)) (by rw [hK, nI_clamp (by omega), vb_d (by omega)]; rfl) ?_
  show WJ x ((h, .inr (8, [v0, v1, v2, v3])) :: (q, .inl (cs 5, cap, .inl (upd (upd f (n + 1) (nI (48 + (w) % 10))) (n + 0) (nI (48 + (w) / 10))))) :: R : va_W) 104 ([some (.inl (.int (-(nI w)))), some (.inl (.int (nI (n + 2)))), some (.inl (.ref q)), none, none, some (.inl (.int (nI (n + 0)))), some (.inl (.int 0))] : Ls) ([] : List AV) 0
  refine jd_iload (i := 6) (hF _) (jde hC (by decide +kernel : decode cJ6_getChars_ba4f3 104 = .ok (.iload 6, 2))) rfl ?_
  refine sd_if_eq (tgt := 118) (hF _) (jde hC (by decide +kernel : decode cJ6_getChars_ba4f3 106 = .ok (.ifCond .eq 12, 3))) rfl (fun _ => ?_) (fun z => absurd (rfl) z)
  refine jd_iload (i := 5) (hF _) (jde hC (by decide +kernel : decode cJ6_getChars_ba4f3 118 = .ok (.iload 5, 2))) rfl ?_
  refine hE _ 120 0 _ _ (some (.int (nI (n + 0)))) (by decide +kernel : decode cJ6_getChars_ba4f3 120 = .ok (.ireturn, 1)) ⟨_, _, rfl, rfl, rfl⟩ ⟨rfl, _, rfl, (sb_fitU (sb_fitU hf (fb_d (by omega))) (fb_d (by omega))), fun j hj => by rw [pk_un (by omega)]; rw [pk_un (by omega)], ?_⟩ (Nat.le_of_ble_eq_true rfl)
  intro j hj
  rcases Nat.eq_or_lt_of_le (show 0 ≤ j by omega) with hj0 | hj0
  · rw [← hj0]
    exact pk_us.trans (congrArg nI (show 48 + w / 10 = 48 + w / 10 by omega))
  rcases Nat.eq_or_lt_of_le (show 1 ≤ j by omega) with hj1 | hj1
  · rw [← hj1]
    rw [pk_un (by omega)]
    exact pk_us.trans (congrArg nI (show 48 + w % 10 = 48 + w % 10 by omega))
  exact absurd hj (by simp; omega)
set_option maxRecDepth 100000 in
theorem jm_gc_03 {D : va_G} {cs : Nat → ClassId} {b : Nat} {ad : Rf → Nat} {adV : Nat → Nat} {sc : Nat × (Nat → Int32)} {l : Launch} {h q cap n w : Nat} {f : Nat → Int32} {v0 v1 v2 v3 : Value} {R : va_W} (hw : w < 1000) (h0 : 100 ≤ w) (hf : sb_Fit f) (hn : n + 3 ≤ cap) (hc : cap ≤ 100) : JC (D, cs, b, ad, adV, sc) l yJ6_getChars_ba4f3 cJ6_getChars_ba4f3 7 (some .int) 0 0 [.int (nI w), .int (nI (n + 3)), .ref q] ((h, .inr (8, [v0, v1, v2, v3])) :: (q, .inl (cs 5, cap, .inl f)) :: R : va_W) (fun v w2 => some (.int (nI n)) = v ∧ ∃ f2 : Nat → Int32, ((h, .inr (8, [v0, v1, v2, v3])) :: (q, .inl (cs 5, cap, .inl f2)) :: R : va_W) = w2 ∧ sb_Fit f2 ∧ (∀ j, j < n → f2 j = f j) ∧ ∀ j, j < [nI (48 + w / 100), nI (48 + w / 10 % 10), nI (48 + w % 10)].length → f2 (n + j) = [nI (48 + w / 100), nI (48 + w / 10 % 10), nI (48 + w % 10)].getD j 0) := by
  refine jc_of (by decide +kernel) (by simp [Value.category]) (Nat.le_of_ble_eq_true rfl) ?_
  intro x hF hC hO hG hV hK hH hI hE
  show WJ x ((h, .inr (8, [v0, v1, v2, v3])) :: (q, .inl (cs 5, cap, .inl f)) :: R : va_W) 0 ([some (.inl (.int (nI w))), some (.inl (.int (nI (n + 3)))), some (.inl (.ref q)), none, none, none, none] : Ls) ([] : List AV) 0
  refine jd_iload_n (i := 1) (hF _) (jde hC (by decide +kernel : decode cJ6_getChars_ba4f3 0 = .ok (.iload_n 1, 1))) rfl rfl ?_
  refine jd_istore (i := 5) (hF _) (jde hC (by decide +kernel : decode cJ6_getChars_ba4f3 1 = .ok (.istore 5, 2))) rfl (Nat.le_of_ble_eq_true rfl) ?_
  refine jd_iload_n (i := 0) (hF _) (jde hC (by decide +kernel : decode cJ6_getChars_ba4f3 3 = .ok (.iload_n 0, 1))) rfl rfl ?_
  refine sd_if_ge (tgt := 11) (hF _) (jde hC (by decide +kernel : decode cJ6_getChars_ba4f3 4 = .ok (.ifCond .ge 7, 3))) rfl (fun _ => ?_) (fun z => absurd (nI_pos' (by omega)) z)
  refine sd_iconst (v := 0) (hF _) (jde hC (by decide +kernel : decode cJ6_getChars_ba4f3 11 = .ok (.iconst 0, 1))) ?_
  refine jd_istore (i := 6) (hF _) (jde hC (by decide +kernel : decode cJ6_getChars_ba4f3 12 = .ok (.istore 6, 2))) rfl (Nat.le_of_ble_eq_true rfl) ?_
  refine jd_iload (i := 6) (hF _) (jde hC (by decide +kernel : decode cJ6_getChars_ba4f3 14 = .ok (.iload 6, 2))) rfl ?_
  refine sd_if_ne (tgt := 22) (hF _) (jde hC (by decide +kernel : decode cJ6_getChars_ba4f3 16 = .ok (.ifCond .ne 6, 3))) rfl (fun z => absurd (rfl) z) (fun _ => ?_)
  refine jd_iload_n (i := 0) (hF _) (jde hC (by decide +kernel : decode cJ6_getChars_ba4f3 19 = .ok (.iload_n 0, 1))) rfl rfl ?_
  refine sd_ineg (hF _) (jde hC (by decide +kernel : decode cJ6_getChars_ba4f3 20 = .ok (.ineg, 1))) ?_
  refine jd_istore_n (i := 0) (hF _) (jde hC (by decide +kernel : decode cJ6_getChars_ba4f3 21 = .ok (.istore_n 0, 1))) rfl rfl (Nat.le_of_ble_eq_true rfl) ?_
  refine jd_iload_n (i := 0) (hF _) (jde hC (by decide +kernel : decode cJ6_getChars_ba4f3 22 = .ok (.iload_n 0, 1))) rfl rfl ?_
  refine sd_bipush (v := -100) (hF _) (jde hC (by decide +kernel : decode cJ6_getChars_ba4f3 23 = .ok (.bipush (-100), 2))) ?_
  show WJ x ((h, .inr (8, [v0, v1, v2, v3])) :: (q, .inl (cs 5, cap, .inl f)) :: R : va_W) 25 ([some (.inl (.int (-(nI w)))), some (.inl (.int (nI (n + 3)))), some (.inl (.ref q)), none, none, some (.inl (.int (nI (n + 3)))), some (.inl (.int 0))] : Ls) ([.inl (.int (-100)), .inl (.int (-(nI w)))] : List AV) 0
  refine sd_icmp_gt (tgt := 72) (hF _) (jde hC (by decide +kernel : decode cJ6_getChars_ba4f3 25 = .ok (.if_icmp .gt 47, 3))) rfl (fun z => absurd z (fun z => absurd ((sb_nlt (a := 100) (b := w) (by omega) (by omega)).mp (show -nI 100 < -nI w from z)) (by omega))) (fun _ => ?_)
  refine jd_iload_n (i := 0) (hF _) (jde hC (by decide +kernel : decode cJ6_getChars_ba4f3 28 = .ok (.iload_n 0, 1))) rfl rfl ?_
  refine sd_bipush (v := 100) (hF _) (jde hC (by decide +kernel : decode cJ6_getChars_ba4f3 29 = .ok (.bipush 100, 2))) ?_
  show WJ x ((h, .inr (8, [v0, v1, v2, v3])) :: (q, .inl (cs 5, cap, .inl f)) :: R : va_W) 31 ([some (.inl (.int (-(nI w)))), some (.inl (.int (nI (n + 3)))), some (.inl (.ref q)), none, none, some (.inl (.int (nI (n + 3)))), some (.inl (.int 0))] : Ls) ([.inl (.int 100), .inl (.int (-(nI w)))] : List AV) 0
  refine sd_idiv (hF _) (jde hC (by decide +kernel : decode cJ6_getChars_ba4f3 31 = .ok (.idiv, 1))) (by decide) ?_
  refine jd_top (b := .inl (.int (-nI (w / 100)))) (congrArg (fun z => (Sum.inl (Value.int z) : AV)) (sb_ndiv (by omega))) ?_
  refine jd_istore_n (i := 3) (hF _) (jde hC (by decide +kernel : decode cJ6_getChars_ba4f3 32 = .ok (.istore_n 3, 1))) rfl rfl (Nat.le_of_ble_eq_true rfl) ?_
  refine jd_iload_n (i := 3) (hF _) (jde hC (by decide +kernel : decode cJ6_getChars_ba4f3 33 = .ok (.iload_n 3, 1))) rfl rfl ?_
  refine sd_bipush (v := 100) (hF _) (jde hC (by decide +kernel : decode cJ6_getChars_ba4f3 34 = .ok (.bipush 100, 2))) ?_
  show WJ x ((h, .inr (8, [v0, v1, v2, v3])) :: (q, .inl (cs 5, cap, .inl f)) :: R : va_W) 36 ([some (.inl (.int (-(nI w)))), some (.inl (.int (nI (n + 3)))), some (.inl (.ref q)), some (.inl (.int (-nI (w / 100)))), none, some (.inl (.int (nI (n + 3)))), some (.inl (.int 0))] : Ls) ([.inl (.int 100), .inl (.int (-nI (w / 100)))] : List AV) 0
  refine sd_imul (hF _) (jde hC (by decide +kernel : decode cJ6_getChars_ba4f3 36 = .ok (.imul, 1))) ?_
  refine jd_iload_n (i := 0) (hF _) (jde hC (by decide +kernel : decode cJ6_getChars_ba4f3 37 = .ok (.iload_n 0, 1))) rfl rfl ?_
  refine sd_isub (hF _) (jde hC (by decide +kernel : decode cJ6_getChars_ba4f3 38 = .ok (.isub, 1))) ?_
  refine jd_top (b := .inl (.int (nI (w % 100)))) (congrArg (fun z => (Sum.inl (Value.int z) : AV)) (sb_nrem (by omega))) ?_
  refine jd_istore (i := 4) (hF _) (jde hC (by decide +kernel : decode cJ6_getChars_ba4f3 39 = .ok (.istore 4, 2))) rfl (Nat.le_of_ble_eq_true rfl) ?_
  refine jd_iload_n (i := 3) (hF _) (jde hC (by decide +kernel : decode cJ6_getChars_ba4f3 41 = .ok (.iload_n 3, 1))) rfl rfl ?_
  refine jd_istore_n (i := 0) (hF _) (jde hC (by decide +kernel : decode cJ6_getChars_ba4f3 42 = .ok (.istore_n 0, 1))) rfl rfl (Nat.le_of_ble_eq_true rfl) ?_
  refine jd_aload_n (i := 2) (hF _) (jde hC (by decide +kernel : decode cJ6_getChars_ba4f3 43 = .ok (.aload_n 2, 1))) rfl rfl ?_
  refine sd_iinc (i := 5) (a := (nI (n + 3))) (hF _) (jde hC (by decide +kernel : decode cJ6_getChars_ba4f3 44 = .ok (.iinc 5 (-1), 3))) rfl rfl (Nat.le_of_ble_eq_true rfl) ?_
  refine jd_ls (ls' := ([some (.inl (.int (-nI (w / 100)))), some (.inl (.int (nI (n + 3)))), some (.inl (.ref q)), some (.inl (.int (-nI (w / 100)))), some (.inl (.int (nI (w % 100)))), some (.inl (.int (nI (n + 2)))), some (.inl (.int 0))] : Ls)) (congrArg (fun z => ([some (.inl (.int (-nI (w / 100)))), some (.inl (.int (nI (n + 3)))), some (.inl (.ref q)), some (.inl (.int (-nI (w / 100)))), some (.inl (.int (nI (w % 100)))), some (.inl (.int z)), some (.inl (.int 0))] : Ls)) (dec1 (n + 2))) ?_
  refine jd_iload (i := 5) (hF _) (jde hC (by decide +kernel : decode cJ6_getChars_ba4f3 47 = .ok (.iload 5, 2))) rfl ?_
  refine jd_ones (hF _) (jde hC (by decide +kernel : decode cJ6_getChars_ba4f3 49 = .ok (.getstatic 83, 3))) (by (try rw [xwO]); rw [hO]; exact we_924) (fun t1 ht1 => ?_)
  refine jd_iload (i := 4) (hF _) (jde hC (by decide +kernel : decode cJ6_getChars_ba4f3 52 = .ok (.iload 4, 2))) rfl ?_
  refine ht1 _ _ _ _ _ _ (jde hC (by decide +kernel : decode cJ6_getChars_ba4f3 54 = .ok (.baload, 1))) (in_of (by omega) (by omega)) ?_
  refine jd_top (b := .inl (.int (nI (48 + (w % 100) % 10)))) (congrArg (fun z => (Sum.inl (Value.int z) : AV)) (congrArg (fun z => Int32.ofNat (48 + z % 10)) (nI_clamp (n := w % 100) (by omega)))) ?_
  refine jd_bast (k := 1) (n := cap) (f := f) (hF _) (jde hC (by decide +kernel : decode cJ6_getChars_ba4f3 55 = .ok (.bastore, 1))) (by rw [hK]; rfl) (in_of (by omega) (by omega)) ?_
  refine jd_e (ws' := ((h, .inr (8, [v0, v1, v2, v3])) :: (q, .inl (cs 5, cap, .inl (upd f (n + 2) (nI (48 + (w % 100) % 10))))) :: R : va_W)) (by rw [hK, nI_clamp (by omega), vb_d (by omega)]; rfl) ?_
  show WJ x ((h, .inr (8, [v0, v1, v2, v3])) :: (q, .inl (cs 5, cap, .inl (upd f (n + 2) (nI (48 + (w % 100) % 10))))) :: R : va_W) 56 ([some (.inl (.int (-nI (w / 100)))), some (.inl (.int (nI (n + 3)))), some (.inl (.ref q)), some (.inl (.int (-nI (w / 100)))), some (.inl (.int (nI (w % 100)))), some (.inl (.int (nI (n + 2)))), some (.inl (.int 0))] : Ls) ([] : List AV) 0
  refine jd_aload_n (i := 2) (hF _) (jde hC (by decide +kernel : decode cJ6_getChars_ba4f3 56 = .ok (.aload_n 2, 1))) rfl rfl ?_
  refine sd_iinc (i := 5) (a := (nI (n + 2))) (hF _) (jde hC (by decide +kernel : decode cJ6_getChars_ba4f3 57 = .ok (.iinc 5 (-1), 3))) rfl rfl (Nat.le_of_ble_eq_true rfl) ?_
  refine jd_ls (ls' := ([some (.inl (.int (-nI (w / 100)))), some (.inl (.int (nI (n + 3)))), some (.inl (.ref q)), some (.inl (.int (-nI (w / 100)))), some (.inl (.int (nI (w % 100)))), some (.inl (.int (nI (n + 1)))), some (.inl (.int 0))] : Ls)) (congrArg (fun z => ([some (.inl (.int (-nI (w / 100)))), some (.inl (.int (nI (n + 3)))), some (.inl (.ref q)), some (.inl (.int (-nI (w / 100)))), some (.inl (.int (nI (w % 100)))), some (.inl (.int z)), some (.inl (.int 0))] : Ls)) (dec1 (n + 1))) ?_
  refine jd_iload (i := 5) (hF _) (jde hC (by decide +kernel : decode cJ6_getChars_ba4f3 60 = .ok (.iload 5, 2))) rfl ?_
  refine jd_tens (hF _) (jde hC (by decide +kernel : decode cJ6_getChars_ba4f3 62 = .ok (.getstatic 87, 3))) (by (try rw [xwO]); rw [hO]; exact we_926) (fun t2 ht2 => ?_)
  refine jd_iload (i := 4) (hF _) (jde hC (by decide +kernel : decode cJ6_getChars_ba4f3 65 = .ok (.iload 4, 2))) rfl ?_
  refine ht2 _ _ _ _ _ _ (jde hC (by decide +kernel : decode cJ6_getChars_ba4f3 67 = .ok (.baload, 1))) (in_of (by omega) (by omega)) ?_
  refine jd_top (b := .inl (.int (nI (48 + (w % 100) / 10)))) (congrArg (fun z => (Sum.inl (Value.int z) : AV)) (congrArg (fun z => Int32.ofNat (48 + z / 10)) (nI_clamp (n := w % 100) (by omega)))) ?_
  refine jd_bast (k := 1) (n := cap) (f := (upd f (n + 2) (nI (48 + (w % 100) % 10)))) (hF _) (jde hC (by decide +kernel : decode cJ6_getChars_ba4f3 68 = .ok (.bastore, 1))) (by rw [hK]; rfl) (in_of (by omega) (by omega)) ?_
  refine jd_e (ws' := ((h, .inr (8, [v0, v1, v2, v3])) :: (q, .inl (cs 5, cap, .inl (upd (upd f (n + 2) (nI (48 + (w % 100) % 10))) (n + 1) (nI (48 + (w % 100) / 10))))) :: R : va_W)) (by rw [hK, nI_clamp (by omega), vb_d (by omega)]; rfl) ?_
  show WJ x ((h, .inr (8, [v0, v1, v2, v3])) :: (q, .inl (cs 5, cap, .inl (upd (upd f (n + 2) (nI (48 + (w % 100) % 10))) (n + 1) (nI (48 + (w % 100) / 10))))) :: R : va_W) 69 ([some (.inl (.int (-nI (w / 100)))), some (.inl (.int (nI (n + 3)))), some (.inl (.ref q)), some (.inl (.int (-nI (w / 100)))), some (.inl (.int (nI (w % 100)))), some (.inl (.int (nI (n + 1)))), some (.inl (.int 0))] : Ls) ([] : List AV) 0
  refine sd_goto (tgt := 22) (hF _) (jde hC (by decide +kernel : decode cJ6_getChars_ba4f3 69 = .ok (.goto (-47), 3))) rfl ?_
  refine jd_iload_n (i := 0) (hF _) (jde hC (by decide +kernel : decode cJ6_getChars_ba4f3 22 = .ok (.iload_n 0, 1))) rfl rfl ?_
  refine sd_bipush (v := -100) (hF _) (jde hC (by decide +kernel : decode cJ6_getChars_ba4f3 23 = .ok (.bipush (-100), 2))) ?_
  show WJ x ((h, .inr (8, [v0, v1, v2, v3])) :: (q, .inl (cs 5, cap, .inl (upd (upd f (n + 2) (nI (48 + (w % 100) % 10))) (n + 1) (nI (48 + (w % 100) / 10))))) :: R : va_W) 25 ([some (.inl (.int (-nI (w / 100)))), some (.inl (.int (nI (n + 3)))), some (.inl (.ref q)), some (.inl (.int (-nI (w / 100)))), some (.inl (.int (nI (w % 100)))), some (.inl (.int (nI (n + 1)))), some (.inl (.int 0))] : Ls) ([.inl (.int (-100)), .inl (.int (-nI (w / 100)))] : List AV) 0
  refine sd_icmp_gt (tgt := 72) (hF _) (jde hC (by decide +kernel : decode cJ6_getChars_ba4f3 25 = .ok (.if_icmp .gt 47, 3))) rfl (fun _ => ?_) (fun z => absurd ((sb_nlt (a := 100) (b := w / 100) (by omega) (by omega)).mpr (by omega)) z)
  refine jd_aload_n (i := 2) (hF _) (jde hC (by decide +kernel : decode cJ6_getChars_ba4f3 72 = .ok (.aload_n 2, 1))) rfl rfl ?_
  refine sd_iinc (i := 5) (a := (nI (n + 1))) (hF _) (jde hC (by decide +kernel : decode cJ6_getChars_ba4f3 73 = .ok (.iinc 5 (-1), 3))) rfl rfl (Nat.le_of_ble_eq_true rfl) ?_
  refine jd_ls (ls' := ([some (.inl (.int (-nI (w / 100)))), some (.inl (.int (nI (n + 3)))), some (.inl (.ref q)), some (.inl (.int (-nI (w / 100)))), some (.inl (.int (nI (w % 100)))), some (.inl (.int (nI (n + 0)))), some (.inl (.int 0))] : Ls)) (congrArg (fun z => ([some (.inl (.int (-nI (w / 100)))), some (.inl (.int (nI (n + 3)))), some (.inl (.ref q)), some (.inl (.int (-nI (w / 100)))), some (.inl (.int (nI (w % 100)))), some (.inl (.int z)), some (.inl (.int 0))] : Ls)) (dec1 (n + 0))) ?_
  refine jd_iload (i := 5) (hF _) (jde hC (by decide +kernel : decode cJ6_getChars_ba4f3 76 = .ok (.iload 5, 2))) rfl ?_
  refine jd_ones (hF _) (jde hC (by decide +kernel : decode cJ6_getChars_ba4f3 78 = .ok (.getstatic 83, 3))) (by (try rw [xwO]); rw [hO]; exact we_924) (fun t3 ht3 => ?_)
  refine jd_iload_n (i := 0) (hF _) (jde hC (by decide +kernel : decode cJ6_getChars_ba4f3 81 = .ok (.iload_n 0, 1))) rfl rfl ?_
  refine sd_ineg (hF _) (jde hC (by decide +kernel : decode cJ6_getChars_ba4f3 82 = .ok (.ineg, 1))) ?_
  refine jd_top (b := .inl (.int (nI (w / 100)))) (congrArg (fun z => (Sum.inl (Value.int z) : AV)) (ng_ng)) ?_
  refine ht3 _ _ _ _ _ _ (jde hC (by decide +kernel : decode cJ6_getChars_ba4f3 83 = .ok (.baload, 1))) (in_of (by omega) (by omega)) ?_
  refine jd_top (b := .inl (.int (nI (48 + (w / 100) % 10)))) (congrArg (fun z => (Sum.inl (Value.int z) : AV)) (congrArg (fun z => Int32.ofNat (48 + z % 10)) (nI_clamp (n := w / 100) (by omega)))) ?_
  refine jd_bast (k := 1) (n := cap) (f := (upd (upd f (n + 2) (nI (48 + (w % 100) % 10))) (n + 1) (nI (48 + (w % 100) / 10)))) (hF _) (jde hC (by decide +kernel : decode cJ6_getChars_ba4f3 84 = .ok (.bastore, 1))) (by rw [hK]; rfl) (in_of (by omega) (by omega)) ?_
  refine jd_e (ws' := ((h, .inr (8, [v0, v1, v2, v3])) :: (q, .inl (cs 5, cap, .inl (upd (upd (upd f (n + 2) (nI (48 + (w % 100) % 10))) (n + 1) (nI (48 + (w % 100) / 10))) (n + 0) (nI (48 + (w / 100) % 10))))) :: R : va_W)) (by rw [hK, nI_clamp (by omega), vb_d (by omega)]; rfl) ?_
  show WJ x ((h, .inr (8, [v0, v1, v2, v3])) :: (q, .inl (cs 5, cap, .inl (upd (upd (upd f (n + 2) (nI (48 + (w % 100) % 10))) (n + 1) (nI (48 + (w % 100) / 10))) (n + 0) (nI (48 + (w / 100) % 10))))) :: R : va_W) 85 ([some (.inl (.int (-nI (w / 100)))), some (.inl (.int (nI (n + 3)))), some (.inl (.ref q)), some (.inl (.int (-nI (w / 100)))), some (.inl (.int (nI (w % 100)))), some (.inl (.int (nI (n + 0)))), some (.inl (.int 0))] : Ls) ([] : List AV) 0
  refine jd_iload_n (i := 0) (hF _) (jde hC (by decide +kernel : decode cJ6_getChars_ba4f3 85 = .ok (.iload_n 0, 1))) rfl rfl ?_
  refine sd_bipush (v := -9) (hF _) (jde hC (by decide +kernel : decode cJ6_getChars_ba4f3 86 = .ok (.bipush (-9), 2))) ?_
  show WJ x ((h, .inr (8, [v0, v1, v2, v3])) :: (q, .inl (cs 5, cap, .inl (upd (upd (upd f (n + 2) (nI (48 + (w % 100) % 10))) (n + 1) (nI (48 + (w % 100) / 10))) (n + 0) (nI (48 + (w / 100) % 10))))) :: R : va_W) 88 ([some (.inl (.int (-nI (w / 100)))), some (.inl (.int (nI (n + 3)))), some (.inl (.ref q)), some (.inl (.int (-nI (w / 100)))), some (.inl (.int (nI (w % 100)))), some (.inl (.int (nI (n + 0)))), some (.inl (.int 0))] : Ls) ([.inl (.int (-9)), .inl (.int (-nI (w / 100)))] : List AV) 0
  refine sd_icmp_ge (tgt := 104) (hF _) (jde hC (by decide +kernel : decode cJ6_getChars_ba4f3 88 = .ok (.if_icmp .ge 16, 3))) rfl (fun _ => ?_) (fun z => absurd ((sb_nle (a := 9) (b := w / 100) (by omega) (by omega)).mpr (by omega)) z)
  refine jd_iload (i := 6) (hF _) (jde hC (by decide +kernel : decode cJ6_getChars_ba4f3 104 = .ok (.iload 6, 2))) rfl ?_
  refine sd_if_eq (tgt := 118) (hF _) (jde hC (by decide +kernel : decode cJ6_getChars_ba4f3 106 = .ok (.ifCond .eq 12, 3))) rfl (fun _ => ?_) (fun z => absurd (rfl) z)
  refine jd_iload (i := 5) (hF _) (jde hC (by decide +kernel : decode cJ6_getChars_ba4f3 118 = .ok (.iload 5, 2))) rfl ?_
  refine hE _ 120 0 _ _ (some (.int (nI (n + 0)))) (by decide +kernel : decode cJ6_getChars_ba4f3 120 = .ok (.ireturn, 1)) ⟨_, _, rfl, rfl, rfl⟩ ⟨rfl, _, rfl, (sb_fitU (sb_fitU (sb_fitU hf (fb_d (by omega))) (fb_d (by omega))) (fb_d (by omega))), fun j hj => by rw [pk_un (by omega)]; rw [pk_un (by omega)]; rw [pk_un (by omega)], ?_⟩ (Nat.le_of_ble_eq_true rfl)
  intro j hj
  rcases Nat.eq_or_lt_of_le (show 0 ≤ j by omega) with hj0 | hj0
  · rw [← hj0]
    exact pk_us.trans (congrArg nI (show 48 + w / 100 % 10 = 48 + w / 100 by omega))
  rcases Nat.eq_or_lt_of_le (show 1 ≤ j by omega) with hj1 | hj1
  · rw [← hj1]
    rw [pk_un (by omega)]
    exact pk_us.trans (congrArg nI (show 48 + w % 100 / 10 = 48 + w / 10 % 10 by omega))
  rcases Nat.eq_or_lt_of_le (show 2 ≤ j by omega) with hj2 | hj2
  · rw [← hj2]
    rw [pk_un (by omega)]
    rw [pk_un (by omega)]
    exact pk_us.trans (congrArg nI (show 48 + w % 100 % 10 = 48 + w % 10 by omega))
  exact absurd hj (by simp; omega)
set_option maxRecDepth 100000 in
theorem jm_gc_11 {D : va_G} {cs : Nat → ClassId} {b : Nat} {ad : Rf → Nat} {adV : Nat → Nat} {sc : Nat × (Nat → Int32)} {l : Launch} {h q cap n w : Nat} {f : Nat → Int32} {v0 v1 v2 v3 : Value} {R : va_W} (hw0 : 0 < w) (hw : w < 1000) (hd : w < 10) (hf : sb_Fit f) (hn : n + 2 ≤ cap) (hc : cap ≤ 100) : JC (D, cs, b, ad, adV, sc) l yJ6_getChars_ba4f3 cJ6_getChars_ba4f3 7 (some .int) 0 0 [.int (-nI w), .int (nI (n + 2)), .ref q] ((h, .inr (8, [v0, v1, v2, v3])) :: (q, .inl (cs 5, cap, .inl f)) :: R : va_W) (fun v w2 => some (.int (nI n)) = v ∧ ∃ f2 : Nat → Int32, ((h, .inr (8, [v0, v1, v2, v3])) :: (q, .inl (cs 5, cap, .inl f2)) :: R : va_W) = w2 ∧ sb_Fit f2 ∧ (∀ j, j < n → f2 j = f j) ∧ ∀ j, j < (45 :: [nI (48 + w)]).length → f2 (n + j) = (45 :: [nI (48 + w)]).getD j 0) := by
  refine jc_of (by decide +kernel) (by simp [Value.category]) (Nat.le_of_ble_eq_true rfl) ?_
  intro x hF hC hO hG hV hK hH hI hE
  show WJ x ((h, .inr (8, [v0, v1, v2, v3])) :: (q, .inl (cs 5, cap, .inl f)) :: R : va_W) 0 ([some (.inl (.int (-nI w))), some (.inl (.int (nI (n + 2)))), some (.inl (.ref q)), none, none, none, none] : Ls) ([] : List AV) 0
  refine jd_iload_n (i := 1) (hF _) (jde hC (by decide +kernel : decode cJ6_getChars_ba4f3 0 = .ok (.iload_n 1, 1))) rfl rfl ?_
  refine jd_istore (i := 5) (hF _) (jde hC (by decide +kernel : decode cJ6_getChars_ba4f3 1 = .ok (.istore 5, 2))) rfl (Nat.le_of_ble_eq_true rfl) ?_
  refine jd_iload_n (i := 0) (hF _) (jde hC (by decide +kernel : decode cJ6_getChars_ba4f3 3 = .ok (.iload_n 0, 1))) rfl rfl ?_
  refine sd_if_ge (tgt := 11) (hF _) (jde hC (by decide +kernel : decode cJ6_getChars_ba4f3 4 = .ok (.ifCond .ge 7, 3))) rfl (fun z => absurd z (fun z => absurd (ng_lt hw0 (by omega)) (Int32.not_lt.mpr z))) (fun _ => ?_)
  refine sd_iconst (v := 1) (hF _) (jde hC (by decide +kernel : decode cJ6_getChars_ba4f3 7 = .ok (.iconst 1, 1))) ?_
  refine sd_goto (tgt := 12) (hF _) (jde hC (by decide +kernel : decode cJ6_getChars_ba4f3 8 = .ok (.goto 4, 3))) rfl ?_
  refine jd_istore (i := 6) (hF _) (jde hC (by decide +kernel : decode cJ6_getChars_ba4f3 12 = .ok (.istore 6, 2))) rfl (Nat.le_of_ble_eq_true rfl) ?_
  refine jd_iload (i := 6) (hF _) (jde hC (by decide +kernel : decode cJ6_getChars_ba4f3 14 = .ok (.iload 6, 2))) rfl ?_
  refine sd_if_ne (tgt := 22) (hF _) (jde hC (by decide +kernel : decode cJ6_getChars_ba4f3 16 = .ok (.ifCond .ne 6, 3))) rfl (fun _ => ?_) (fun z => absurd z (by decide))
  refine jd_iload_n (i := 0) (hF _) (jde hC (by decide +kernel : decode cJ6_getChars_ba4f3 22 = .ok (.iload_n 0, 1))) rfl rfl ?_
  refine sd_bipush (v := -100) (hF _) (jde hC (by decide +kernel : decode cJ6_getChars_ba4f3 23 = .ok (.bipush (-100), 2))) ?_
  show WJ x ((h, .inr (8, [v0, v1, v2, v3])) :: (q, .inl (cs 5, cap, .inl f)) :: R : va_W) 25 ([some (.inl (.int (-nI w))), some (.inl (.int (nI (n + 2)))), some (.inl (.ref q)), none, none, some (.inl (.int (nI (n + 2)))), some (.inl (.int 1))] : Ls) ([.inl (.int (-100)), .inl (.int (-nI w))] : List AV) 0
  refine sd_icmp_gt (tgt := 72) (hF _) (jde hC (by decide +kernel : decode cJ6_getChars_ba4f3 25 = .ok (.if_icmp .gt 47, 3))) rfl (fun _ => ?_) (fun z => absurd ((sb_nlt (a := 100) (b := w) (by omega) (by omega)).mpr (by omega)) z)
  refine jd_aload_n (i := 2) (hF _) (jde hC (by decide +kernel : decode cJ6_getChars_ba4f3 72 = .ok (.aload_n 2, 1))) rfl rfl ?_
  refine sd_iinc (i := 5) (a := (nI (n + 2))) (hF _) (jde hC (by decide +kernel : decode cJ6_getChars_ba4f3 73 = .ok (.iinc 5 (-1), 3))) rfl rfl (Nat.le_of_ble_eq_true rfl) ?_
  refine jd_ls (ls' := ([some (.inl (.int (-nI w))), some (.inl (.int (nI (n + 2)))), some (.inl (.ref q)), none, none, some (.inl (.int (nI (n + 1)))), some (.inl (.int 1))] : Ls)) (congrArg (fun z => ([some (.inl (.int (-nI w))), some (.inl (.int (nI (n + 2)))), some (.inl (.ref q)), none, none, some (.inl (.int z)), some (.inl (.int 1))] : Ls)) (dec1 (n + 1))) ?_
  refine jd_iload (i := 5) (hF _) (jde hC (by decide +kernel : decode cJ6_getChars_ba4f3 76 = .ok (.iload 5, 2))) rfl ?_
  refine jd_ones (hF _) (jde hC (by decide +kernel : decode cJ6_getChars_ba4f3 78 = .ok (.getstatic 83, 3))) (by (try rw [xwO]); rw [hO]; exact we_924) (fun t1 ht1 => ?_)
  refine jd_iload_n (i := 0) (hF _) (jde hC (by decide +kernel : decode cJ6_getChars_ba4f3 81 = .ok (.iload_n 0, 1))) rfl rfl ?_
  refine sd_ineg (hF _) (jde hC (by decide +kernel : decode cJ6_getChars_ba4f3 82 = .ok (.ineg, 1))) ?_
  refine jd_top (b := .inl (.int (nI (w)))) (congrArg (fun z => (Sum.inl (Value.int z) : AV)) (ng_ng)) ?_
  refine ht1 _ _ _ _ _ _ (jde hC (by decide +kernel : decode cJ6_getChars_ba4f3 83 = .ok (.baload, 1))) (in_of (by omega) (by omega)) ?_
  refine jd_top (b := .inl (.int (nI (48 + (w) % 10)))) (congrArg (fun z => (Sum.inl (Value.int z) : AV)) (congrArg (fun z => Int32.ofNat (48 + z % 10)) (nI_clamp (n := w) (by omega)))) ?_
  refine jd_bast (k := 1) (n := cap) (f := f) (hF _) (jde hC (by decide +kernel : decode cJ6_getChars_ba4f3 84 = .ok (.bastore, 1))) (by rw [hK]; rfl) (in_of (by omega) (by omega)) ?_
  refine jd_e (ws' := ((h, .inr (8, [v0, v1, v2, v3])) :: (q, .inl (cs 5, cap, .inl (upd f (n + 1) (nI (48 + (w) % 10))))) :: R : va_W)) (by rw [hK, nI_clamp (by omega), vb_d (by omega)]; rfl) ?_
  show WJ x ((h, .inr (8, [v0, v1, v2, v3])) :: (q, .inl (cs 5, cap, .inl (upd f (n + 1) (nI (48 + (w) % 10))))) :: R : va_W) 85 ([some (.inl (.int (-nI w))), some (.inl (.int (nI (n + 2)))), some (.inl (.ref q)), none, none, some (.inl (.int (nI (n + 1)))), some (.inl (.int 1))] : Ls) ([] : List AV) 0
  refine jd_iload_n (i := 0) (hF _) (jde hC (by decide +kernel : decode cJ6_getChars_ba4f3 85 = .ok (.iload_n 0, 1))) rfl rfl ?_
  refine sd_bipush (v := -9) (hF _) (jde hC (by decide +kernel : decode cJ6_getChars_ba4f3 86 = .ok (.bipush (-9), 2))) ?_
  show WJ x ((h, .inr (8, [v0, v1, v2, v3])) :: (q, .inl (cs 5, cap, .inl (upd f (n + 1) (nI (48 + (w) % 10))))) :: R : va_W) 88 ([some (.inl (.int (-nI w))), some (.inl (.int (nI (n + 2)))), some (.inl (.ref q)), none, none, some (.inl (.int (nI (n + 1)))), some (.inl (.int 1))] : Ls) ([.inl (.int (-9)), .inl (.int (-nI w))] : List AV) 0
  refine sd_icmp_ge (tgt := 104) (hF _) (jde hC (by decide +kernel : decode cJ6_getChars_ba4f3 88 = .ok (.if_icmp .ge 16, 3))) rfl (fun _ => ?_) (fun z => absurd ((sb_nle (a := 9) (b := w) (by omega) (by omega)).mpr (by omega)) z)
  refine jd_iload (i := 6) (hF _) (jde hC (by decide +kernel : decode cJ6_getChars_ba4f3 104 = .ok (.iload 6, 2))) rfl ?_
  refine sd_if_eq (tgt := 118) (hF _) (jde hC (by decide +kernel : decode cJ6_getChars_ba4f3 106 = .ok (.ifCond .eq 12, 3))) rfl (fun z => absurd z (by decide)) (fun _ => ?_)
  refine jd_aload_n (i := 2) (hF _) (jde hC (by decide +kernel : decode cJ6_getChars_ba4f3 109 = .ok (.aload_n 2, 1))) rfl rfl ?_
  refine sd_iinc (i := 5) (a := (nI (n + 1))) (hF _) (jde hC (by decide +kernel : decode cJ6_getChars_ba4f3 110 = .ok (.iinc 5 (-1), 3))) rfl rfl (Nat.le_of_ble_eq_true rfl) ?_
  refine jd_ls (ls' := ([some (.inl (.int (-nI w))), some (.inl (.int (nI (n + 2)))), some (.inl (.ref q)), none, none, some (.inl (.int (nI (n + 0)))), some (.inl (.int 1))] : Ls)) (congrArg (fun z => ([some (.inl (.int (-nI w))), some (.inl (.int (nI (n + 2)))), some (.inl (.ref q)), none, none, some (.inl (.int z)), some (.inl (.int 1))] : Ls)) (dec1 (n + 0))) ?_
  refine jd_iload (i := 5) (hF _) (jde hC (by decide +kernel : decode cJ6_getChars_ba4f3 113 = .ok (.iload 5, 2))) rfl ?_
  refine sd_bipush (v := 45) (hF _) (jde hC (by decide +kernel : decode cJ6_getChars_ba4f3 115 = .ok (.bipush 45, 2))) ?_
  show WJ x ((h, .inr (8, [v0, v1, v2, v3])) :: (q, .inl (cs 5, cap, .inl (upd f (n + 1) (nI (48 + (w) % 10))))) :: R : va_W) 117 ([some (.inl (.int (-nI w))), some (.inl (.int (nI (n + 2)))), some (.inl (.ref q)), none, none, some (.inl (.int (nI (n + 0)))), some (.inl (.int 1))] : Ls) ([.inl (.int 45), .inl (.int (nI (n + 0))), .inl (.ref q)] : List AV) 0
  refine jd_bast (k := 1) (n := cap) (f := (upd f (n + 1) (nI (48 + (w) % 10)))) (hF _) (jde hC (by decide +kernel : decode cJ6_getChars_ba4f3 117 = .ok (.bastore, 1))) (by rw [hK]; rfl) (in_of (by omega) (by omega)) ?_
  refine jd_e (ws' := ((h, .inr (8, [v0, v1, v2, v3])) :: (q, .inl (cs 5, cap, .inl (upd (upd f (n + 1) (nI (48 + (w) % 10))) (n + 0) (45)))) :: R : va_W)) (by rw [hK, nI_clamp (by omega), (show vp_nar .byte (45 : Int32) = 45 from vb_d (d := 45) (by decide))]; rfl) ?_
  show WJ x ((h, .inr (8, [v0, v1, v2, v3])) :: (q, .inl (cs 5, cap, .inl (upd (upd f (n + 1) (nI (48 + (w) % 10))) (n + 0) (45)))) :: R : va_W) 118 ([some (.inl (.int (-nI w))), some (.inl (.int (nI (n + 2)))), some (.inl (.ref q)), none, none, some (.inl (.int (nI (n + 0)))), some (.inl (.int 1))] : Ls) ([] : List AV) 0
  refine jd_iload (i := 5) (hF _) (jde hC (by decide +kernel : decode cJ6_getChars_ba4f3 118 = .ok (.iload 5, 2))) rfl ?_
  refine hE _ 120 0 _ _ (some (.int (nI (n + 0)))) (by decide +kernel : decode cJ6_getChars_ba4f3 120 = .ok (.ireturn, 1)) ⟨_, _, rfl, rfl, rfl⟩ ⟨rfl, _, rfl, (sb_fitU (sb_fitU hf (fb_d (by omega))) (fb_d (d := 45) (by decide))), fun j hj => by rw [pk_un (by omega)]; rw [pk_un (by omega)], ?_⟩ (Nat.le_of_ble_eq_true rfl)
  intro j hj
  rcases Nat.eq_or_lt_of_le (show 0 ≤ j by omega) with hj0 | hj0
  · rw [← hj0]
    exact pk_us
  rcases Nat.eq_or_lt_of_le (show 1 ≤ j by omega) with hj1 | hj1
  · rw [← hj1]
    rw [pk_un (by omega)]
    exact pk_us.trans (congrArg nI (show 48 + w % 10 = 48 + w by omega))
  exact absurd hj (by simp; omega)
set_option maxRecDepth 100000 in
theorem jm_gc_12 {D : va_G} {cs : Nat → ClassId} {b : Nat} {ad : Rf → Nat} {adV : Nat → Nat} {sc : Nat × (Nat → Int32)} {l : Launch} {h q cap n w : Nat} {f : Nat → Int32} {v0 v1 v2 v3 : Value} {R : va_W} (hw0 : 0 < w) (hw : w < 1000) (h0 : 10 ≤ w) (hd : w < 100) (hf : sb_Fit f) (hn : n + 3 ≤ cap) (hc : cap ≤ 100) : JC (D, cs, b, ad, adV, sc) l yJ6_getChars_ba4f3 cJ6_getChars_ba4f3 7 (some .int) 0 0 [.int (-nI w), .int (nI (n + 3)), .ref q] ((h, .inr (8, [v0, v1, v2, v3])) :: (q, .inl (cs 5, cap, .inl f)) :: R : va_W) (fun v w2 => some (.int (nI n)) = v ∧ ∃ f2 : Nat → Int32, ((h, .inr (8, [v0, v1, v2, v3])) :: (q, .inl (cs 5, cap, .inl f2)) :: R : va_W) = w2 ∧ sb_Fit f2 ∧ (∀ j, j < n → f2 j = f j) ∧ ∀ j, j < (45 :: [nI (48 + w / 10), nI (48 + w % 10)]).length → f2 (n + j) = (45 :: [nI (48 + w / 10), nI (48 + w % 10)]).getD j 0) := by
  refine jc_of (by decide +kernel) (by simp [Value.category]) (Nat.le_of_ble_eq_true rfl) ?_
  intro x hF hC hO hG hV hK hH hI hE
  show WJ x ((h, .inr (8, [v0, v1, v2, v3])) :: (q, .inl (cs 5, cap, .inl f)) :: R : va_W) 0 ([some (.inl (.int (-nI w))), some (.inl (.int (nI (n + 3)))), some (.inl (.ref q)), none, none, none, none] : Ls) ([] : List AV) 0
  refine jd_iload_n (i := 1) (hF _) (jde hC (by decide +kernel : decode cJ6_getChars_ba4f3 0 = .ok (.iload_n 1, 1))) rfl rfl ?_
  refine jd_istore (i := 5) (hF _) (jde hC (by decide +kernel : decode cJ6_getChars_ba4f3 1 = .ok (.istore 5, 2))) rfl (Nat.le_of_ble_eq_true rfl) ?_
  refine jd_iload_n (i := 0) (hF _) (jde hC (by decide +kernel : decode cJ6_getChars_ba4f3 3 = .ok (.iload_n 0, 1))) rfl rfl ?_
  refine sd_if_ge (tgt := 11) (hF _) (jde hC (by decide +kernel : decode cJ6_getChars_ba4f3 4 = .ok (.ifCond .ge 7, 3))) rfl (fun z => absurd z (fun z => absurd (ng_lt hw0 (by omega)) (Int32.not_lt.mpr z))) (fun _ => ?_)
  refine sd_iconst (v := 1) (hF _) (jde hC (by decide +kernel : decode cJ6_getChars_ba4f3 7 = .ok (.iconst 1, 1))) ?_
  refine sd_goto (tgt := 12) (hF _) (jde hC (by decide +kernel : decode cJ6_getChars_ba4f3 8 = .ok (.goto 4, 3))) rfl ?_
  refine jd_istore (i := 6) (hF _) (jde hC (by decide +kernel : decode cJ6_getChars_ba4f3 12 = .ok (.istore 6, 2))) rfl (Nat.le_of_ble_eq_true rfl) ?_
  refine jd_iload (i := 6) (hF _) (jde hC (by decide +kernel : decode cJ6_getChars_ba4f3 14 = .ok (.iload 6, 2))) rfl ?_
  refine sd_if_ne (tgt := 22) (hF _) (jde hC (by decide +kernel : decode cJ6_getChars_ba4f3 16 = .ok (.ifCond .ne 6, 3))) rfl (fun _ => ?_) (fun z => absurd z (by decide))
  refine jd_iload_n (i := 0) (hF _) (jde hC (by decide +kernel : decode cJ6_getChars_ba4f3 22 = .ok (.iload_n 0, 1))) rfl rfl ?_
  refine sd_bipush (v := -100) (hF _) (jde hC (by decide +kernel : decode cJ6_getChars_ba4f3 23 = .ok (.bipush (-100), 2))) ?_
  show WJ x ((h, .inr (8, [v0, v1, v2, v3])) :: (q, .inl (cs 5, cap, .inl f)) :: R : va_W) 25 ([some (.inl (.int (-nI w))), some (.inl (.int (nI (n + 3)))), some (.inl (.ref q)), none, none, some (.inl (.int (nI (n + 3)))), some (.inl (.int 1))] : Ls) ([.inl (.int (-100)), .inl (.int (-nI w))] : List AV) 0
  refine sd_icmp_gt (tgt := 72) (hF _) (jde hC (by decide +kernel : decode cJ6_getChars_ba4f3 25 = .ok (.if_icmp .gt 47, 3))) rfl (fun _ => ?_) (fun z => absurd ((sb_nlt (a := 100) (b := w) (by omega) (by omega)).mpr (by omega)) z)
  refine jd_aload_n (i := 2) (hF _) (jde hC (by decide +kernel : decode cJ6_getChars_ba4f3 72 = .ok (.aload_n 2, 1))) rfl rfl ?_
  refine sd_iinc (i := 5) (a := (nI (n + 3))) (hF _) (jde hC (by decide +kernel : decode cJ6_getChars_ba4f3 73 = .ok (.iinc 5 (-1), 3))) rfl rfl (Nat.le_of_ble_eq_true rfl) ?_
  refine jd_ls (ls' := ([some (.inl (.int (-nI w))), some (.inl (.int (nI (n + 3)))), some (.inl (.ref q)), none, none, some (.inl (.int (nI (n + 2)))), some (.inl (.int 1))] : Ls)) (congrArg (fun z => ([some (.inl (.int (-nI w))), some (.inl (.int (nI (n + 3)))), some (.inl (.ref q)), none, none, some (.inl (.int z)), some (.inl (.int 1))] : Ls)) (dec1 (n + 2))) ?_
  refine jd_iload (i := 5) (hF _) (jde hC (by decide +kernel : decode cJ6_getChars_ba4f3 76 = .ok (.iload 5, 2))) rfl ?_
  refine jd_ones (hF _) (jde hC (by decide +kernel : decode cJ6_getChars_ba4f3 78 = .ok (.getstatic 83, 3))) (by (try rw [xwO]); rw [hO]; exact we_924) (fun t1 ht1 => ?_)
  refine jd_iload_n (i := 0) (hF _) (jde hC (by decide +kernel : decode cJ6_getChars_ba4f3 81 = .ok (.iload_n 0, 1))) rfl rfl ?_
  refine sd_ineg (hF _) (jde hC (by decide +kernel : decode cJ6_getChars_ba4f3 82 = .ok (.ineg, 1))) ?_
  refine jd_top (b := .inl (.int (nI (w)))) (congrArg (fun z => (Sum.inl (Value.int z) : AV)) (ng_ng)) ?_
  refine ht1 _ _ _ _ _ _ (jde hC (by decide +kernel : decode cJ6_getChars_ba4f3 83 = .ok (.baload, 1))) (in_of (by omega) (by omega)) ?_
  refine jd_top (b := .inl (.int (nI (48 + (w) % 10)))) (congrArg (fun z => (Sum.inl (Value.int z) : AV)) (congrArg (fun z => Int32.ofNat (48 + z % 10)) (nI_clamp (n := w) (by omega)))) ?_
  refine jd_bast (k := 1) (n := cap) (f := f) (hF _) (jde hC (by decide +kernel : decode cJ6_getChars_ba4f3 84 = .ok (.bastore, 1))) (by rw [hK]; rfl) (in_of (by omega) (by omega)) ?_
  refine jd_e (ws' := ((h, .inr (8, [v0, v1, v2, v3])) :: (q, .inl (cs 5, cap, .inl (upd f (n + 2) (nI (48 + (w) % 10))))) :: R : va_W)) (by rw [hK, nI_clamp (by omega), vb_d (by omega)]; rfl) ?_
  show WJ x ((h, .inr (8, [v0, v1, v2, v3])) :: (q, .inl (cs 5, cap, .inl (upd f (n + 2) (nI (48 + (w) % 10))))) :: R : va_W) 85 ([some (.inl (.int (-nI w))), some (.inl (.int (nI (n + 3)))), some (.inl (.ref q)), none, none, some (.inl (.int (nI (n + 2)))), some (.inl (.int 1))] : Ls) ([] : List AV) 0
  refine jd_iload_n (i := 0) (hF _) (jde hC (by decide +kernel : decode cJ6_getChars_ba4f3 85 = .ok (.iload_n 0, 1))) rfl rfl ?_
  refine sd_bipush (v := -9) (hF _) (jde hC (by decide +kernel : decode cJ6_getChars_ba4f3 86 = .ok (.bipush (-9), 2))) ?_
  show WJ x ((h, .inr (8, [v0, v1, v2, v3])) :: (q, .inl (cs 5, cap, .inl (upd f (n + 2) (nI (48 + (w) % 10))))) :: R : va_W) 88 ([some (.inl (.int (-nI w))), some (.inl (.int (nI (n + 3)))), some (.inl (.ref q)), none, none, some (.inl (.int (nI (n + 2)))), some (.inl (.int 1))] : Ls) ([.inl (.int (-9)), .inl (.int (-nI w))] : List AV) 0
  refine sd_icmp_ge (tgt := 104) (hF _) (jde hC (by decide +kernel : decode cJ6_getChars_ba4f3 88 = .ok (.if_icmp .ge 16, 3))) rfl (fun z => absurd z (fun z => absurd ((sb_nle (a := 9) (b := w) (by omega) (by omega)).mp (show -nI 9 ≤ -nI w from z)) (by omega))) (fun _ => ?_)
  refine jd_aload_n (i := 2) (hF _) (jde hC (by decide +kernel : decode cJ6_getChars_ba4f3 91 = .ok (.aload_n 2, 1))) rfl rfl ?_
  refine sd_iinc (i := 5) (a := (nI (n + 2))) (hF _) (jde hC (by decide +kernel : decode cJ6_getChars_ba4f3 92 = .ok (.iinc 5 (-1), 3))) rfl rfl (Nat.le_of_ble_eq_true rfl) ?_
  refine jd_ls (ls' := ([some (.inl (.int (-nI w))), some (.inl (.int (nI (n + 3)))), some (.inl (.ref q)), none, none, some (.inl (.int (nI (n + 1)))), some (.inl (.int 1))] : Ls)) (congrArg (fun z => ([some (.inl (.int (-nI w))), some (.inl (.int (nI (n + 3)))), some (.inl (.ref q)), none, none, some (.inl (.int z)), some (.inl (.int 1))] : Ls)) (dec1 (n + 1))) ?_
  refine jd_iload (i := 5) (hF _) (jde hC (by decide +kernel : decode cJ6_getChars_ba4f3 95 = .ok (.iload 5, 2))) rfl ?_
  refine jd_tens (hF _) (jde hC (by decide +kernel : decode cJ6_getChars_ba4f3 97 = .ok (.getstatic 87, 3))) (by (try rw [xwO]); rw [hO]; exact we_926) (fun t2 ht2 => ?_)
  refine jd_iload_n (i := 0) (hF _) (jde hC (by decide +kernel : decode cJ6_getChars_ba4f3 100 = .ok (.iload_n 0, 1))) rfl rfl ?_
  refine sd_ineg (hF _) (jde hC (by decide +kernel : decode cJ6_getChars_ba4f3 101 = .ok (.ineg, 1))) ?_
  refine jd_top (b := .inl (.int (nI (w)))) (congrArg (fun z => (Sum.inl (Value.int z) : AV)) (ng_ng)) ?_
  refine ht2 _ _ _ _ _ _ (jde hC (by decide +kernel : decode cJ6_getChars_ba4f3 102 = .ok (.baload, 1))) (in_of (by omega) (by omega)) ?_
  refine jd_top (b := .inl (.int (nI (48 + (w) / 10)))) (congrArg (fun z => (Sum.inl (Value.int z) : AV)) (congrArg (fun z => Int32.ofNat (48 + z / 10)) (nI_clamp (n := w) (by omega)))) ?_
  refine jd_bast (k := 1) (n := cap) (f := (upd f (n + 2) (nI (48 + (w) % 10)))) (hF _) (jde hC (by decide +kernel : decode cJ6_getChars_ba4f3 103 = .ok (.bastore, 1))) (by rw [hK]; rfl) (in_of (by omega) (by omega)) ?_
  refine jd_e (ws' := ((h, .inr (8, [v0, v1, v2, v3])) :: (q, .inl (cs 5, cap, .inl (upd (upd f (n + 2) (nI (48 + (w) % 10))) (n + 1) (nI (48 + (w) / 10))))) :: R : va_W)) (by rw [hK, nI_clamp (by omega), vb_d (by omega)]; rfl) ?_
  show WJ x ((h, .inr (8, [v0, v1, v2, v3])) :: (q, .inl (cs 5, cap, .inl (upd (upd f (n + 2) (nI (48 + (w) % 10))) (n + 1) (nI (48 + (w) / 10))))) :: R : va_W) 104 ([some (.inl (.int (-nI w))), some (.inl (.int (nI (n + 3)))), some (.inl (.ref q)), none, none, some (.inl (.int (nI (n + 1)))), some (.inl (.int 1))] : Ls) ([] : List AV) 0
  refine jd_iload (i := 6) (hF _) (jde hC (by decide +kernel : decode cJ6_getChars_ba4f3 104 = .ok (.iload 6, 2))) rfl ?_
  refine sd_if_eq (tgt := 118) (hF _) (jde hC (by decide +kernel : decode cJ6_getChars_ba4f3 106 = .ok (.ifCond .eq 12, 3))) rfl (fun z => absurd z (by decide)) (fun _ => ?_)
  refine jd_aload_n (i := 2) (hF _) (jde hC (by decide +kernel : decode cJ6_getChars_ba4f3 109 = .ok (.aload_n 2, 1))) rfl rfl ?_
  refine sd_iinc (i := 5) (a := (nI (n + 1))) (hF _) (jde hC (by decide +kernel : decode cJ6_getChars_ba4f3 110 = .ok (.iinc 5 (-1), 3))) rfl rfl (Nat.le_of_ble_eq_true rfl) ?_
  refine jd_ls (ls' := ([some (.inl (.int (-nI w))), some (.inl (.int (nI (n + 3)))), some (.inl (.ref q)), none, none, some (.inl (.int (nI (n + 0)))), some (.inl (.int 1))] : Ls)) (congrArg (fun z => ([some (.inl (.int (-nI w))), some (.inl (.int (nI (n + 3)))), some (.inl (.ref q)), none, none, some (.inl (.int z)), some (.inl (.int 1))] : Ls)) (dec1 (n + 0))) ?_
  refine jd_iload (i := 5) (hF _) (jde hC (by decide +kernel : decode cJ6_getChars_ba4f3 113 = .ok (.iload 5, 2))) rfl ?_
  refine sd_bipush (v := 45) (hF _) (jde hC (by decide +kernel : decode cJ6_getChars_ba4f3 115 = .ok (.bipush 45, 2))) ?_
  show WJ x ((h, .inr (8, [v0, v1, v2, v3])) :: (q, .inl (cs 5, cap, .inl (upd (upd f (n + 2) (nI (48 + (w) % 10))) (n + 1) (nI (48 + (w) / 10))))) :: R : va_W) 117 ([some (.inl (.int (-nI w))), some (.inl (.int (nI (n + 3)))), some (.inl (.ref q)), none, none, some (.inl (.int (nI (n + 0)))), some (.inl (.int 1))] : Ls) ([.inl (.int 45), .inl (.int (nI (n + 0))), .inl (.ref q)] : List AV) 0
  refine jd_bast (k := 1) (n := cap) (f := (upd (upd f (n + 2) (nI (48 + (w) % 10))) (n + 1) (nI (48 + (w) / 10)))) (hF _) (jde hC (by decide +kernel : decode cJ6_getChars_ba4f3 117 = .ok (.bastore, 1))) (by rw [hK]; rfl) (in_of (by omega) (by omega)) ?_
  refine jd_e (ws' := ((h, .inr (8, [v0, v1, v2, v3])) :: (q, .inl (cs 5, cap, .inl (upd (upd (upd f (n + 2) (nI (48 + (w) % 10))) (n + 1) (nI (48 + (w) / 10))) (n + 0) (45)))) :: R : va_W)) (by rw [hK, nI_clamp (by omega), (show vp_nar .byte (45 : Int32) = 45 from vb_d (d := 45) (by decide))]; rfl) ?_
  show WJ x ((h, .inr (8, [v0, v1, v2, v3])) :: (q, .inl (cs 5, cap, .inl (upd (upd (upd f (n + 2) (nI (48 + (w) % 10))) (n + 1) (nI (48 + (w) / 10))) (n + 0) (45)))) :: R : va_W) 118 ([some (.inl (.int (-nI w))), some (.inl (.int (nI (n + 3)))), some (.inl (.ref q)), none, none, some (.inl (.int (nI (n + 0)))), some (.inl (.int 1))] : Ls) ([] : List AV) 0
  refine jd_iload (i := 5) (hF _) (jde hC (by decide +kernel : decode cJ6_getChars_ba4f3 118 = .ok (.iload 5, 2))) rfl ?_
  refine hE _ 120 0 _ _ (some (.int (nI (n + 0)))) (by decide +kernel : decode cJ6_getChars_ba4f3 120 = .ok (.ireturn, 1)) ⟨_, _, rfl, rfl, rfl⟩ ⟨rfl, _, rfl, (sb_fitU (sb_fitU (sb_fitU hf (fb_d (by omega))) (fb_d (by omega))) (fb_d (d := 45) (by decide))), fun j hj => by rw [pk_un (by omega)]; rw [pk_un (by omega)]; rw [pk_un (by omega)], ?_⟩ (Nat.le_of_ble_eq_true rfl)
  intro j hj
  rcases Nat.eq_or_lt_of_le (show 0 ≤ j by omega) with hj0 | hj0
  · rw [← hj0]
    exact pk_us
  rcases Nat.eq_or_lt_of_le (show 1 ≤ j by omega) with hj1 | hj1
  · rw [← hj1]
    rw [pk_un (by omega)]
    exact pk_us.trans (congrArg nI (show 48 + w / 10 = 48 + w / 10 by omega))
  rcases Nat.eq_or_lt_of_le (show 2 ≤ j by omega) with hj2 | hj2
  · rw [← hj2]
    rw [pk_un (by omega)]
    rw [pk_un (by omega)]
    exact pk_us.trans (congrArg nI (show 48 + w % 10 = 48 + w % 10 by omega))
  exact absurd hj (by simp; omega)
set_option maxRecDepth 100000 in
theorem jm_gc_13 {D : va_G} {cs : Nat → ClassId} {b : Nat} {ad : Rf → Nat} {adV : Nat → Nat} {sc : Nat × (Nat → Int32)} {l : Launch} {h q cap n w : Nat} {f : Nat → Int32} {v0 v1 v2 v3 : Value} {R : va_W} (hw0 : 0 < w) (hw : w < 1000) (h0 : 100 ≤ w) (hf : sb_Fit f) (hn : n + 4 ≤ cap) (hc : cap ≤ 100) : JC (D, cs, b, ad, adV, sc) l yJ6_getChars_ba4f3 cJ6_getChars_ba4f3 7 (some .int) 0 0 [.int (-nI w), .int (nI (n + 4)), .ref q] ((h, .inr (8, [v0, v1, v2, v3])) :: (q, .inl (cs 5, cap, .inl f)) :: R : va_W) (fun v w2 => some (.int (nI n)) = v ∧ ∃ f2 : Nat → Int32, ((h, .inr (8, [v0, v1, v2, v3])) :: (q, .inl (cs 5, cap, .inl f2)) :: R : va_W) = w2 ∧ sb_Fit f2 ∧ (∀ j, j < n → f2 j = f j) ∧ ∀ j, j < (45 :: [nI (48 + w / 100), nI (48 + w / 10 % 10), nI (48 + w % 10)]).length → f2 (n + j) = (45 :: [nI (48 + w / 100), nI (48 + w / 10 % 10), nI (48 + w % 10)]).getD j 0) := by
  refine jc_of (by decide +kernel) (by simp [Value.category]) (Nat.le_of_ble_eq_true rfl) ?_
  intro x hF hC hO hG hV hK hH hI hE
  show WJ x ((h, .inr (8, [v0, v1, v2, v3])) :: (q, .inl (cs 5, cap, .inl f)) :: R : va_W) 0 ([some (.inl (.int (-nI w))), some (.inl (.int (nI (n + 4)))), some (.inl (.ref q)), none, none, none, none] : Ls) ([] : List AV) 0
  refine jd_iload_n (i := 1) (hF _) (jde hC (by decide +kernel : decode cJ6_getChars_ba4f3 0 = .ok (.iload_n 1, 1))) rfl rfl ?_
  refine jd_istore (i := 5) (hF _) (jde hC (by decide +kernel : decode cJ6_getChars_ba4f3 1 = .ok (.istore 5, 2))) rfl (Nat.le_of_ble_eq_true rfl) ?_
  refine jd_iload_n (i := 0) (hF _) (jde hC (by decide +kernel : decode cJ6_getChars_ba4f3 3 = .ok (.iload_n 0, 1))) rfl rfl ?_
  refine sd_if_ge (tgt := 11) (hF _) (jde hC (by decide +kernel : decode cJ6_getChars_ba4f3 4 = .ok (.ifCond .ge 7, 3))) rfl (fun z => absurd z (fun z => absurd (ng_lt hw0 (by omega)) (Int32.not_lt.mpr z))) (fun _ => ?_)
  refine sd_iconst (v := 1) (hF _) (jde hC (by decide +kernel : decode cJ6_getChars_ba4f3 7 = .ok (.iconst 1, 1))) ?_
  refine sd_goto (tgt := 12) (hF _) (jde hC (by decide +kernel : decode cJ6_getChars_ba4f3 8 = .ok (.goto 4, 3))) rfl ?_
  refine jd_istore (i := 6) (hF _) (jde hC (by decide +kernel : decode cJ6_getChars_ba4f3 12 = .ok (.istore 6, 2))) rfl (Nat.le_of_ble_eq_true rfl) ?_
  refine jd_iload (i := 6) (hF _) (jde hC (by decide +kernel : decode cJ6_getChars_ba4f3 14 = .ok (.iload 6, 2))) rfl ?_
  refine sd_if_ne (tgt := 22) (hF _) (jde hC (by decide +kernel : decode cJ6_getChars_ba4f3 16 = .ok (.ifCond .ne 6, 3))) rfl (fun _ => ?_) (fun z => absurd z (by decide))
  refine jd_iload_n (i := 0) (hF _) (jde hC (by decide +kernel : decode cJ6_getChars_ba4f3 22 = .ok (.iload_n 0, 1))) rfl rfl ?_
  refine sd_bipush (v := -100) (hF _) (jde hC (by decide +kernel : decode cJ6_getChars_ba4f3 23 = .ok (.bipush (-100), 2))) ?_
  show WJ x ((h, .inr (8, [v0, v1, v2, v3])) :: (q, .inl (cs 5, cap, .inl f)) :: R : va_W) 25 ([some (.inl (.int (-nI w))), some (.inl (.int (nI (n + 4)))), some (.inl (.ref q)), none, none, some (.inl (.int (nI (n + 4)))), some (.inl (.int 1))] : Ls) ([.inl (.int (-100)), .inl (.int (-nI w))] : List AV) 0
  refine sd_icmp_gt (tgt := 72) (hF _) (jde hC (by decide +kernel : decode cJ6_getChars_ba4f3 25 = .ok (.if_icmp .gt 47, 3))) rfl (fun z => absurd z (fun z => absurd ((sb_nlt (a := 100) (b := w) (by omega) (by omega)).mp (show -nI 100 < -nI w from z)) (by omega))) (fun _ => ?_)
  refine jd_iload_n (i := 0) (hF _) (jde hC (by decide +kernel : decode cJ6_getChars_ba4f3 28 = .ok (.iload_n 0, 1))) rfl rfl ?_
  refine sd_bipush (v := 100) (hF _) (jde hC (by decide +kernel : decode cJ6_getChars_ba4f3 29 = .ok (.bipush 100, 2))) ?_
  show WJ x ((h, .inr (8, [v0, v1, v2, v3])) :: (q, .inl (cs 5, cap, .inl f)) :: R : va_W) 31 ([some (.inl (.int (-nI w))), some (.inl (.int (nI (n + 4)))), some (.inl (.ref q)), none, none, some (.inl (.int (nI (n + 4)))), some (.inl (.int 1))] : Ls) ([.inl (.int 100), .inl (.int (-nI w))] : List AV) 0
  refine sd_idiv (hF _) (jde hC (by decide +kernel : decode cJ6_getChars_ba4f3 31 = .ok (.idiv, 1))) (by decide) ?_
  refine jd_top (b := .inl (.int (-nI (w / 100)))) (congrArg (fun z => (Sum.inl (Value.int z) : AV)) (sb_ndiv (by omega))) ?_
  refine jd_istore_n (i := 3) (hF _) (jde hC (by decide +kernel : decode cJ6_getChars_ba4f3 32 = .ok (.istore_n 3, 1))) rfl rfl (Nat.le_of_ble_eq_true rfl) ?_
  refine jd_iload_n (i := 3) (hF _) (jde hC (by decide +kernel : decode cJ6_getChars_ba4f3 33 = .ok (.iload_n 3, 1))) rfl rfl ?_
  refine sd_bipush (v := 100) (hF _) (jde hC (by decide +kernel : decode cJ6_getChars_ba4f3 34 = .ok (.bipush 100, 2))) ?_
  show WJ x ((h, .inr (8, [v0, v1, v2, v3])) :: (q, .inl (cs 5, cap, .inl f)) :: R : va_W) 36 ([some (.inl (.int (-nI w))), some (.inl (.int (nI (n + 4)))), some (.inl (.ref q)), some (.inl (.int (-nI (w / 100)))), none, some (.inl (.int (nI (n + 4)))), some (.inl (.int 1))] : Ls) ([.inl (.int 100), .inl (.int (-nI (w / 100)))] : List AV) 0
  refine sd_imul (hF _) (jde hC (by decide +kernel : decode cJ6_getChars_ba4f3 36 = .ok (.imul, 1))) ?_
  refine jd_iload_n (i := 0) (hF _) (jde hC (by decide +kernel : decode cJ6_getChars_ba4f3 37 = .ok (.iload_n 0, 1))) rfl rfl ?_
  refine sd_isub (hF _) (jde hC (by decide +kernel : decode cJ6_getChars_ba4f3 38 = .ok (.isub, 1))) ?_
  refine jd_top (b := .inl (.int (nI (w % 100)))) (congrArg (fun z => (Sum.inl (Value.int z) : AV)) (sb_nrem (by omega))) ?_
  refine jd_istore (i := 4) (hF _) (jde hC (by decide +kernel : decode cJ6_getChars_ba4f3 39 = .ok (.istore 4, 2))) rfl (Nat.le_of_ble_eq_true rfl) ?_
  refine jd_iload_n (i := 3) (hF _) (jde hC (by decide +kernel : decode cJ6_getChars_ba4f3 41 = .ok (.iload_n 3, 1))) rfl rfl ?_
  refine jd_istore_n (i := 0) (hF _) (jde hC (by decide +kernel : decode cJ6_getChars_ba4f3 42 = .ok (.istore_n 0, 1))) rfl rfl (Nat.le_of_ble_eq_true rfl) ?_
  refine jd_aload_n (i := 2) (hF _) (jde hC (by decide +kernel : decode cJ6_getChars_ba4f3 43 = .ok (.aload_n 2, 1))) rfl rfl ?_
  refine sd_iinc (i := 5) (a := (nI (n + 4))) (hF _) (jde hC (by decide +kernel : decode cJ6_getChars_ba4f3 44 = .ok (.iinc 5 (-1), 3))) rfl rfl (Nat.le_of_ble_eq_true rfl) ?_
  refine jd_ls (ls' := ([some (.inl (.int (-nI (w / 100)))), some (.inl (.int (nI (n + 4)))), some (.inl (.ref q)), some (.inl (.int (-nI (w / 100)))), some (.inl (.int (nI (w % 100)))), some (.inl (.int (nI (n + 3)))), some (.inl (.int 1))] : Ls)) (congrArg (fun z => ([some (.inl (.int (-nI (w / 100)))), some (.inl (.int (nI (n + 4)))), some (.inl (.ref q)), some (.inl (.int (-nI (w / 100)))), some (.inl (.int (nI (w % 100)))), some (.inl (.int z)), some (.inl (.int 1))] : Ls)) (dec1 (n + 3))) ?_
  refine jd_iload (i := 5) (hF _) (jde hC (by decide +kernel : decode cJ6_getChars_ba4f3 47 = .ok (.iload 5, 2))) rfl ?_
  refine jd_ones (hF _) (jde hC (by decide +kernel : decode cJ6_getChars_ba4f3 49 = .ok (.getstatic 83, 3))) (by (try rw [xwO]); rw [hO]; exact we_924) (fun t1 ht1 => ?_)
  refine jd_iload (i := 4) (hF _) (jde hC (by decide +kernel : decode cJ6_getChars_ba4f3 52 = .ok (.iload 4, 2))) rfl ?_
  refine ht1 _ _ _ _ _ _ (jde hC (by decide +kernel : decode cJ6_getChars_ba4f3 54 = .ok (.baload, 1))) (in_of (by omega) (by omega)) ?_
  refine jd_top (b := .inl (.int (nI (48 + (w % 100) % 10)))) (congrArg (fun z => (Sum.inl (Value.int z) : AV)) (congrArg (fun z => Int32.ofNat (48 + z % 10)) (nI_clamp (n := w % 100) (by omega)))) ?_
  refine jd_bast (k := 1) (n := cap) (f := f) (hF _) (jde hC (by decide +kernel : decode cJ6_getChars_ba4f3 55 = .ok (.bastore, 1))) (by rw [hK]; rfl) (in_of (by omega) (by omega)) ?_
  refine jd_e (ws' := ((h, .inr (8, [v0, v1, v2, v3])) :: (q, .inl (cs 5, cap, .inl (upd f (n + 3) (nI (48 + (w % 100) % 10))))) :: R : va_W)) (by rw [hK, nI_clamp (by omega), vb_d (by omega)]; rfl) ?_
  show WJ x ((h, .inr (8, [v0, v1, v2, v3])) :: (q, .inl (cs 5, cap, .inl (upd f (n + 3) (nI (48 + (w % 100) % 10))))) :: R : va_W) 56 ([some (.inl (.int (-nI (w / 100)))), some (.inl (.int (nI (n + 4)))), some (.inl (.ref q)), some (.inl (.int (-nI (w / 100)))), some (.inl (.int (nI (w % 100)))), some (.inl (.int (nI (n + 3)))), some (.inl (.int 1))] : Ls) ([] : List AV) 0
  refine jd_aload_n (i := 2) (hF _) (jde hC (by decide +kernel : decode cJ6_getChars_ba4f3 56 = .ok (.aload_n 2, 1))) rfl rfl ?_
  refine sd_iinc (i := 5) (a := (nI (n + 3))) (hF _) (jde hC (by decide +kernel : decode cJ6_getChars_ba4f3 57 = .ok (.iinc 5 (-1), 3))) rfl rfl (Nat.le_of_ble_eq_true rfl) ?_
  refine jd_ls (ls' := ([some (.inl (.int (-nI (w / 100)))), some (.inl (.int (nI (n + 4)))), some (.inl (.ref q)), some (.inl (.int (-nI (w / 100)))), some (.inl (.int (nI (w % 100)))), some (.inl (.int (nI (n + 2)))), some (.inl (.int 1))] : Ls)) (congrArg (fun z => ([some (.inl (.int (-nI (w / 100)))), some (.inl (.int (nI (n + 4)))), some (.inl (.ref q)), some (.inl (.int (-nI (w / 100)))), some (.inl (.int (nI (w % 100)))), some (.inl (.int z)), some (.inl (.int 1))] : Ls)) (dec1 (n + 2))) ?_
  refine jd_iload (i := 5) (hF _) (jde hC (by decide +kernel : decode cJ6_getChars_ba4f3 60 = .ok (.iload 5, 2))) rfl ?_
  refine jd_tens (hF _) (jde hC (by decide +kernel : decode cJ6_getChars_ba4f3 62 = .ok (.getstatic 87, 3))) (by (try rw [xwO]); rw [hO]; exact we_926) (fun t2 ht2 => ?_)
  refine jd_iload (i := 4) (hF _) (jde hC (by decide +kernel : decode cJ6_getChars_ba4f3 65 = .ok (.iload 4, 2))) rfl ?_
  refine ht2 _ _ _ _ _ _ (jde hC (by decide +kernel : decode cJ6_getChars_ba4f3 67 = .ok (.baload, 1))) (in_of (by omega) (by omega)) ?_
  refine jd_top (b := .inl (.int (nI (48 + (w % 100) / 10)))) (congrArg (fun z => (Sum.inl (Value.int z) : AV)) (congrArg (fun z => Int32.ofNat (48 + z / 10)) (nI_clamp (n := w % 100) (by omega)))) ?_
  refine jd_bast (k := 1) (n := cap) (f := (upd f (n + 3) (nI (48 + (w % 100) % 10)))) (hF _) (jde hC (by decide +kernel : decode cJ6_getChars_ba4f3 68 = .ok (.bastore, 1))) (by rw [hK]; rfl) (in_of (by omega) (by omega)) ?_
  refine jd_e (ws' := ((h, .inr (8, [v0, v1, v2, v3])) :: (q, .inl (cs 5, cap, .inl (upd (upd f (n + 3) (nI (48 + (w % 100) % 10))) (n + 2) (nI (48 + (w % 100) / 10))))) :: R : va_W)) (by rw [hK, nI_clamp (by omega), vb_d (by omega)]; rfl) ?_
  show WJ x ((h, .inr (8, [v0, v1, v2, v3])) :: (q, .inl (cs 5, cap, .inl (upd (upd f (n + 3) (nI (48 + (w % 100) % 10))) (n + 2) (nI (48 + (w % 100) / 10))))) :: R : va_W) 69 ([some (.inl (.int (-nI (w / 100)))), some (.inl (.int (nI (n + 4)))), some (.inl (.ref q)), some (.inl (.int (-nI (w / 100)))), some (.inl (.int (nI (w % 100)))), some (.inl (.int (nI (n + 2)))), some (.inl (.int 1))] : Ls) ([] : List AV) 0
  refine sd_goto (tgt := 22) (hF _) (jde hC (by decide +kernel : decode cJ6_getChars_ba4f3 69 = .ok (.goto (-47), 3))) rfl ?_
  refine jd_iload_n (i := 0) (hF _) (jde hC (by decide +kernel : decode cJ6_getChars_ba4f3 22 = .ok (.iload_n 0, 1))) rfl rfl ?_
  refine sd_bipush (v := -100) (hF _) (jde hC (by decide +kernel : decode cJ6_getChars_ba4f3 23 = .ok (.bipush (-100), 2))) ?_
  show WJ x ((h, .inr (8, [v0, v1, v2, v3])) :: (q, .inl (cs 5, cap, .inl (upd (upd f (n + 3) (nI (48 + (w % 100) % 10))) (n + 2) (nI (48 + (w % 100) / 10))))) :: R : va_W) 25 ([some (.inl (.int (-nI (w / 100)))), some (.inl (.int (nI (n + 4)))), some (.inl (.ref q)), some (.inl (.int (-nI (w / 100)))), some (.inl (.int (nI (w % 100)))), some (.inl (.int (nI (n + 2)))), some (.inl (.int 1))] : Ls) ([.inl (.int (-100)), .inl (.int (-nI (w / 100)))] : List AV) 0
  refine sd_icmp_gt (tgt := 72) (hF _) (jde hC (by decide +kernel : decode cJ6_getChars_ba4f3 25 = .ok (.if_icmp .gt 47, 3))) rfl (fun _ => ?_) (fun z => absurd ((sb_nlt (a := 100) (b := w / 100) (by omega) (by omega)).mpr (by omega)) z)
  refine jd_aload_n (i := 2) (hF _) (jde hC (by decide +kernel : decode cJ6_getChars_ba4f3 72 = .ok (.aload_n 2, 1))) rfl rfl ?_
  refine sd_iinc (i := 5) (a := (nI (n + 2))) (hF _) (jde hC (by decide +kernel : decode cJ6_getChars_ba4f3 73 = .ok (.iinc 5 (-1), 3))) rfl rfl (Nat.le_of_ble_eq_true rfl) ?_
  refine jd_ls (ls' := ([some (.inl (.int (-nI (w / 100)))), some (.inl (.int (nI (n + 4)))), some (.inl (.ref q)), some (.inl (.int (-nI (w / 100)))), some (.inl (.int (nI (w % 100)))), some (.inl (.int (nI (n + 1)))), some (.inl (.int 1))] : Ls)) (congrArg (fun z => ([some (.inl (.int (-nI (w / 100)))), some (.inl (.int (nI (n + 4)))), some (.inl (.ref q)), some (.inl (.int (-nI (w / 100)))), some (.inl (.int (nI (w % 100)))), some (.inl (.int z)), some (.inl (.int 1))] : Ls)) (dec1 (n + 1))) ?_
  refine jd_iload (i := 5) (hF _) (jde hC (by decide +kernel : decode cJ6_getChars_ba4f3 76 = .ok (.iload 5, 2))) rfl ?_
  refine jd_ones (hF _) (jde hC (by decide +kernel : decode cJ6_getChars_ba4f3 78 = .ok (.getstatic 83, 3))) (by (try rw [xwO]); rw [hO]; exact we_924) (fun t3 ht3 => ?_)
  refine jd_iload_n (i := 0) (hF _) (jde hC (by decide +kernel : decode cJ6_getChars_ba4f3 81 = .ok (.iload_n 0, 1))) rfl rfl ?_
  refine sd_ineg (hF _) (jde hC (by decide +kernel : decode cJ6_getChars_ba4f3 82 = .ok (.ineg, 1))) ?_
  refine jd_top (b := .inl (.int (nI (w / 100)))) (congrArg (fun z => (Sum.inl (Value.int z) : AV)) (ng_ng)) ?_
  refine ht3 _ _ _ _ _ _ (jde hC (by decide +kernel : decode cJ6_getChars_ba4f3 83 = .ok (.baload, 1))) (in_of (by omega) (by omega)) ?_
  refine jd_top (b := .inl (.int (nI (48 + (w / 100) % 10)))) (congrArg (fun z => (Sum.inl (Value.int z) : AV)) (congrArg (fun z => Int32.ofNat (48 + z % 10)) (nI_clamp (n := w / 100) (by omega)))) ?_
  refine jd_bast (k := 1) (n := cap) (f := (upd (upd f (n + 3) (nI (48 + (w % 100) % 10))) (n + 2) (nI (48 + (w % 100) / 10)))) (hF _) (jde hC (by decide +kernel : decode cJ6_getChars_ba4f3 84 = .ok (.bastore, 1))) (by rw [hK]; rfl) (in_of (by omega) (by omega)) ?_
  refine jd_e (ws' := ((h, .inr (8, [v0, v1, v2, v3])) :: (q, .inl (cs 5, cap, .inl (upd (upd (upd f (n + 3) (nI (48 + (w % 100) % 10))) (n + 2) (nI (48 + (w % 100) / 10))) (n + 1) (nI (48 + (w / 100) % 10))))) :: R : va_W)) (by rw [hK, nI_clamp (by omega), vb_d (by omega)]; rfl) ?_
  show WJ x ((h, .inr (8, [v0, v1, v2, v3])) :: (q, .inl (cs 5, cap, .inl (upd (upd (upd f (n + 3) (nI (48 + (w % 100) % 10))) (n + 2) (nI (48 + (w % 100) / 10))) (n + 1) (nI (48 + (w / 100) % 10))))) :: R : va_W) 85 ([some (.inl (.int (-nI (w / 100)))), some (.inl (.int (nI (n + 4)))), some (.inl (.ref q)), some (.inl (.int (-nI (w / 100)))), some (.inl (.int (nI (w % 100)))), some (.inl (.int (nI (n + 1)))), some (.inl (.int 1))] : Ls) ([] : List AV) 0
  refine jd_iload_n (i := 0) (hF _) (jde hC (by decide +kernel : decode cJ6_getChars_ba4f3 85 = .ok (.iload_n 0, 1))) rfl rfl ?_
  refine sd_bipush (v := -9) (hF _) (jde hC (by decide +kernel : decode cJ6_getChars_ba4f3 86 = .ok (.bipush (-9), 2))) ?_
  show WJ x ((h, .inr (8, [v0, v1, v2, v3])) :: (q, .inl (cs 5, cap, .inl (upd (upd (upd f (n + 3) (nI (48 + (w % 100) % 10))) (n + 2) (nI (48 + (w % 100) / 10))) (n + 1) (nI (48 + (w / 100) % 10))))) :: R : va_W) 88 ([some (.inl (.int (-nI (w / 100)))), some (.inl (.int (nI (n + 4)))), some (.inl (.ref q)), some (.inl (.int (-nI (w / 100)))), some (.inl (.int (nI (w % 100)))), some (.inl (.int (nI (n + 1)))), some (.inl (.int 1))] : Ls) ([.inl (.int (-9)), .inl (.int (-nI (w / 100)))] : List AV) 0
  refine sd_icmp_ge (tgt := 104) (hF _) (jde hC (by decide +kernel : decode cJ6_getChars_ba4f3 88 = .ok (.if_icmp .ge 16, 3))) rfl (fun _ => ?_) (fun z => absurd ((sb_nle (a := 9) (b := w / 100) (by omega) (by omega)).mpr (by omega)) z)
  refine jd_iload (i := 6) (hF _) (jde hC (by decide +kernel : decode cJ6_getChars_ba4f3 104 = .ok (.iload 6, 2))) rfl ?_
  refine sd_if_eq (tgt := 118) (hF _) (jde hC (by decide +kernel : decode cJ6_getChars_ba4f3 106 = .ok (.ifCond .eq 12, 3))) rfl (fun z => absurd z (by decide)) (fun _ => ?_)
  refine jd_aload_n (i := 2) (hF _) (jde hC (by decide +kernel : decode cJ6_getChars_ba4f3 109 = .ok (.aload_n 2, 1))) rfl rfl ?_
  refine sd_iinc (i := 5) (a := (nI (n + 1))) (hF _) (jde hC (by decide +kernel : decode cJ6_getChars_ba4f3 110 = .ok (.iinc 5 (-1), 3))) rfl rfl (Nat.le_of_ble_eq_true rfl) ?_
  refine jd_ls (ls' := ([some (.inl (.int (-nI (w / 100)))), some (.inl (.int (nI (n + 4)))), some (.inl (.ref q)), some (.inl (.int (-nI (w / 100)))), some (.inl (.int (nI (w % 100)))), some (.inl (.int (nI (n + 0)))), some (.inl (.int 1))] : Ls)) (congrArg (fun z => ([some (.inl (.int (-nI (w / 100)))), some (.inl (.int (nI (n + 4)))), some (.inl (.ref q)), some (.inl (.int (-nI (w / 100)))), some (.inl (.int (nI (w % 100)))), some (.inl (.int z)), some (.inl (.int 1))] : Ls)) (dec1 (n + 0))) ?_
  refine jd_iload (i := 5) (hF _) (jde hC (by decide +kernel : decode cJ6_getChars_ba4f3 113 = .ok (.iload 5, 2))) rfl ?_
  refine sd_bipush (v := 45) (hF _) (jde hC (by decide +kernel : decode cJ6_getChars_ba4f3 115 = .ok (.bipush 45, 2))) ?_
  show WJ x ((h, .inr (8, [v0, v1, v2, v3])) :: (q, .inl (cs 5, cap, .inl (upd (upd (upd f (n + 3) (nI (48 + (w % 100) % 10))) (n + 2) (nI (48 + (w % 100) / 10))) (n + 1) (nI (48 + (w / 100) % 10))))) :: R : va_W) 117 ([some (.inl (.int (-nI (w / 100)))), some (.inl (.int (nI (n + 4)))), some (.inl (.ref q)), some (.inl (.int (-nI (w / 100)))), some (.inl (.int (nI (w % 100)))), some (.inl (.int (nI (n + 0)))), some (.inl (.int 1))] : Ls) ([.inl (.int 45), .inl (.int (nI (n + 0))), .inl (.ref q)] : List AV) 0
  refine jd_bast (k := 1) (n := cap) (f := (upd (upd (upd f (n + 3) (nI (48 + (w % 100) % 10))) (n + 2) (nI (48 + (w % 100) / 10))) (n + 1) (nI (48 + (w / 100) % 10)))) (hF _) (jde hC (by decide +kernel : decode cJ6_getChars_ba4f3 117 = .ok (.bastore, 1))) (by rw [hK]; rfl) (in_of (by omega) (by omega)) ?_
  refine jd_e (ws' := ((h, .inr (8, [v0, v1, v2, v3])) :: (q, .inl (cs 5, cap, .inl (upd (upd (upd (upd f (n + 3) (nI (48 + (w % 100) % 10))) (n + 2) (nI (48 + (w % 100) / 10))) (n + 1) (nI (48 + (w / 100) % 10))) (n + 0) (45)))) :: R : va_W)) (by rw [hK, nI_clamp (by omega), (show vp_nar .byte (45 : Int32) = 45 from vb_d (d := 45) (by decide))]; rfl) ?_
  show WJ x ((h, .inr (8, [v0, v1, v2, v3])) :: (q, .inl (cs 5, cap, .inl (upd (upd (upd (upd f (n + 3) (nI (48 + (w % 100) % 10))) (n + 2) (nI (48 + (w % 100) / 10))) (n + 1) (nI (48 + (w / 100) % 10))) (n + 0) (45)))) :: R : va_W) 118 ([some (.inl (.int (-nI (w / 100)))), some (.inl (.int (nI (n + 4)))), some (.inl (.ref q)), some (.inl (.int (-nI (w / 100)))), some (.inl (.int (nI (w % 100)))), some (.inl (.int (nI (n + 0)))), some (.inl (.int 1))] : Ls) ([] : List AV) 0
  refine jd_iload (i := 5) (hF _) (jde hC (by decide +kernel : decode cJ6_getChars_ba4f3 118 = .ok (.iload 5, 2))) rfl ?_
  refine hE _ 120 0 _ _ (some (.int (nI (n + 0)))) (by decide +kernel : decode cJ6_getChars_ba4f3 120 = .ok (.ireturn, 1)) ⟨_, _, rfl, rfl, rfl⟩ ⟨rfl, _, rfl, (sb_fitU (sb_fitU (sb_fitU (sb_fitU hf (fb_d (by omega))) (fb_d (by omega))) (fb_d (by omega))) (fb_d (d := 45) (by decide))), fun j hj => by rw [pk_un (by omega)]; rw [pk_un (by omega)]; rw [pk_un (by omega)]; rw [pk_un (by omega)], ?_⟩ (Nat.le_of_ble_eq_true rfl)
  intro j hj
  rcases Nat.eq_or_lt_of_le (show 0 ≤ j by omega) with hj0 | hj0
  · rw [← hj0]
    exact pk_us
  rcases Nat.eq_or_lt_of_le (show 1 ≤ j by omega) with hj1 | hj1
  · rw [← hj1]
    rw [pk_un (by omega)]
    exact pk_us.trans (congrArg nI (show 48 + w / 100 % 10 = 48 + w / 100 by omega))
  rcases Nat.eq_or_lt_of_le (show 2 ≤ j by omega) with hj2 | hj2
  · rw [← hj2]
    rw [pk_un (by omega)]
    rw [pk_un (by omega)]
    exact pk_us.trans (congrArg nI (show 48 + w % 100 / 10 = 48 + w / 10 % 10 by omega))
  rcases Nat.eq_or_lt_of_le (show 3 ≤ j by omega) with hj3 | hj3
  · rw [← hj3]
    rw [pk_un (by omega)]
    rw [pk_un (by omega)]
    rw [pk_un (by omega)]
    exact pk_us.trans (congrArg nI (show 48 + w % 100 % 10 = 48 + w % 10 by omega))
  exact absurd hj (by simp; omega)
theorem jm_gc {D : va_G} {cs : Nat → ClassId} {b : Nat} {ad : Rf → Nat} {adV : Nat → Nat} {sc : Nat × (Nat → Int32)} {l : Launch} {h q cap n : Nat} {f : Nat → Int32} {v0 v1 v2 v3 : Value} {R : va_W} {v : Int32} (h1 : -1000 < v) (h2 : v < 1000) (hf : sb_Fit f) (hn : n + (dg_ v).length ≤ cap) (hc : cap ≤ 100) : JC (D, cs, b, ad, adV, sc) l yJ6_getChars_ba4f3 cJ6_getChars_ba4f3 7 (some .int) 0 0 [.int v, .int (nI (n + (dg_ v).length)), .ref q] ((h, .inr (8, [v0, v1, v2, v3])) :: (q, .inl (cs 5, cap, .inl f)) :: R) (fun v9 w2 => some (.int (nI n)) = v9 ∧ ∃ f2 : Nat → Int32, ((h, .inr (8, [v0, v1, v2, v3])) :: (q, .inl (cs 5, cap, .inl f2)) :: R : va_W) = w2 ∧ sb_Fit f2 ∧ (∀ j, j < n → f2 j = f j) ∧ ∀ j, j < (dg_ v).length → f2 (n + j) = (dg_ v).getD j 0) := by
  obtain ⟨w, hw, rfl | ⟨h0, rfl⟩⟩ := int_cases h1 h2
  · rw [dg_p hw] at hn ⊢
    rcases Nat.lt_or_ge w 10 with h | h
    · rw [dg_1 h] at hn ⊢; exact jm_gc_01 hw h hf hn hc
    · rcases Nat.lt_or_ge w 100 with g | g
      · rw [dg_2 h g] at hn ⊢; exact jm_gc_02 hw h g hf hn hc
      · rw [dg_3 g] at hn ⊢; exact jm_gc_03 hw g hf hn hc
  · rw [dg_n h0 hw] at hn ⊢
    rcases Nat.lt_or_ge w 10 with h | h
    · rw [dg_1 h] at hn ⊢; exact jm_gc_11 h0 hw h hf hn hc
    · rcases Nat.lt_or_ge w 100 with g | g
      · rw [dg_2 h g] at hn ⊢; exact jm_gc_12 h0 hw h g hf hn hc
      · rw [dg_3 g] at hn ⊢; exact jm_gc_13 h0 hw g hf hn hc
theorem dg_len {v : Int32} (h1 : -1000 < v) (h2 : v < 1000) : (dg_ v).length ≤ 4 := by
  obtain ⟨w, hw, rfl | ⟨h0, rfl⟩⟩ := int_cases h1 h2
  · rw [dg_p hw]; unfold dg0; (repeat' split) <;> simp
  · rw [dg_n h0 hw]; unfold dg0; (repeat' split) <;> simp
set_option maxRecDepth 100000 in
theorem jm_aai {D : va_G} {cs : Nat → ClassId} {b : Nat} {ad : Rf → Nat} {adV : Nat → Nat} {sc : Nat × (Nat → Int32)} {l : Launch} {h q cap n : Nat} {f : Nat → Int32} {ml : Int32} {R : va_W} {v : Int32} (hf : sb_Fit f) (hn : n < 44) (hnc : n ≤ cap) (hc : cap ≤ 100) (h1 : -1000 < v) (h2 : v < 1000)  : JC (D, cs, b, ad, adV, sc) l yJ5_append_c97b9 cJ5_append_c97b9 4 (some (.object "java/lang/AbstractStringBuilder")) 4 1 [.ref h, .int v] ((h, .inr (8, [.ref q, .int 0, .int ml, .int (nI n)])) :: (q, .inl (cs 5, cap, .inl f)) :: R : va_W) (pA cs h n ml f R (some (.ref h)) (dg_ v)) := by
  refine jc_of (by decide +kernel) (by simp [Value.category]) (Nat.le_of_ble_eq_true rfl) ?_
  intro x hF hC hO hG hV hK hH hI hE
  have hl4 := dg_len h1 h2
  show WJ x ((h, .inr (8, [.ref q, .int 0, .int ml, .int (nI n)])) :: (q, .inl (cs 5, cap, .inl f)) :: R : va_W) 0 ([some (.inl (.ref h)), some (.inl (.int v)), none, none] : Ls) ([] : List AV) 0
  refine jd_aload_n (i := 0) (hF _) (jde hC (by decide +kernel : decode cJ5_append_c97b9 0 = .ok (.aload_n 0, 1))) rfl rfl ?_
  refine jd_get (k := 0) (f := 3) (q := (RJ4, TJ4, 4)) (hF _) (jde hC (by decide +kernel : decode cJ5_append_c97b9 1 = .ok (.getfield 79, 3))) rfl rfl (Nat.le_of_ble_eq_true rfl) (Or.inl (by (try rw [xwO]); rw [hO]; exact we_296)) rfl ?_
  refine jd_istore_n (i := 2) (hF _) (jde hC (by decide +kernel : decode cJ5_append_c97b9 4 = .ok (.istore_n 2, 1))) rfl rfl (Nat.le_of_ble_eq_true rfl) ?_
  refine jd_iload_n (i := 2) (hF _) (jde hC (by decide +kernel : decode cJ5_append_c97b9 5 = .ok (.iload_n 2, 1))) rfl rfl ?_
  refine jd_iload_n (i := 1) (hF _) (jde hC (by decide +kernel : decode cJ5_append_c97b9 6 = .ok (.iload_n 1, 1))) rfl rfl ?_
  refine jd_callS (n := 1) (vs := [.int v]) (rest := [.inl (.int (nI n))]) (hF _) (jde hC (by decide +kernel : decode cJ5_append_c97b9 7 = .ok (.invokestatic 245, 3))) (by rw [hK, hH]; exact jm_ss h1 h2) (by (try rw [xwO]); rw [hO]; exact we_918) we_919 we_116 we_920 ⟨by decide +kernel, by decide +kernel, by decide +kernel⟩ rfl (Nat.le_of_ble_eq_true rfl) (by (try rw [xwV]); rw [hV]; exact Nat.le_of_ble_eq_true rfl) rfl (Nat.le_of_ble_eq_true rfl) (by (try rw [xwG]); rw [hG]; exact Nat.le_of_ble_eq_true rfl) (fun v w hp => ?_)
  obtain ⟨rfl, rfl⟩ := hp
  show WJ x ((h, .inr (8, [.ref q, .int 0, .int ml, .int (nI n)])) :: (q, .inl (cs 5, cap, .inl f)) :: R : va_W) 10 ([some (.inl (.ref h)), some (.inl (.int v)), some (.inl (.int (nI n))), none] : Ls) ([.inl (.int (nI (dg_ v).length)), .inl (.int (nI n))] : List AV) 0
  refine sd_iadd (hF _) (jde hC (by decide +kernel : decode cJ5_append_c97b9 10 = .ok (.iadd, 1))) ?_
  refine jd_top (b := .inl (.int (nI (n + (dg_ v).length)))) (congrArg (fun z => (Sum.inl (Value.int z) : AV)) (nI_add _ _)) ?_
  refine jd_istore_n (i := 3) (hF _) (jde hC (by decide +kernel : decode cJ5_append_c97b9 11 = .ok (.istore_n 3, 1))) rfl rfl (Nat.le_of_ble_eq_true rfl) ?_
  refine jd_aload_n (i := 0) (hF _) (jde hC (by decide +kernel : decode cJ5_append_c97b9 12 = .ok (.aload_n 0, 1))) rfl rfl ?_
  refine jd_iload_n (i := 3) (hF _) (jde hC (by decide +kernel : decode cJ5_append_c97b9 13 = .ok (.iload_n 3, 1))) rfl rfl ?_
  refine jd_callU (n := 1) (vs := [.int (nI (n + (dg_ v).length))]) (rest := []) (k := 0) (q := (RJ4, TJ4, 4)) (hF _) (jde hC (by decide +kernel : decode cJ5_append_c97b9 14 = .ok (.invokevirtual 100, 3))) (by rw [hK, hH]; exact jm_ens hf hc (by omega)) rfl rfl (by (try rw [xwO]); rw [hO]; exact we_806) we_2045 we_808 we_x0 we_93 we_809 ⟨by decide +kernel, by decide +kernel, by decide +kernel⟩ rfl (Nat.le_of_ble_eq_true rfl) (by (try rw [xwV]); rw [hV]; exact Nat.le_of_ble_eq_true rfl) rfl (Nat.le_of_ble_eq_true rfl) (by (try rw [xwG]); rw [hG]; exact Nat.le_of_ble_eq_true rfl) (fun v w hp => ?_)
  obtain ⟨rfl, q2, cap2, f2, rfl, hm2, hc2, hf2, he2⟩ := hp
  show WJ x ((h, .inr (8, [.ref q2, .int 0, .int ml, .int (nI n)])) :: (q2, .inl (cs 5, cap2, .inl f2)) :: R : va_W) 17 ([some (.inl (.ref h)), some (.inl (.int v)), some (.inl (.int (nI n))), some (.inl (.int (nI (n + (dg_ v).length))))] : Ls) ([] : List AV) 1
  refine jd_aload_n (i := 0) (hF _) (jde hC (by decide +kernel : decode cJ5_append_c97b9 17 = .ok (.aload_n 0, 1))) rfl rfl ?_
  refine jd_callU (n := 0) (vs := []) (rest := []) (k := 0) (q := (RJ4, TJ4, 4)) (hF _) (jde hC (by decide +kernel : decode cJ5_append_c97b9 18 = .ok (.invokevirtual 83, 3))) (by rw [hK, hH]; exact jm_isa) rfl rfl (by (try rw [xwO]); rw [hO]; exact we_837) we_839 we_838 we_840 we_93 we_841 ⟨by decide +kernel, by decide +kernel, by decide +kernel⟩ rfl (Nat.le_of_ble_eq_true rfl) (by (try rw [xwV]); rw [hV]; exact Nat.le_of_ble_eq_true rfl) rfl (Nat.le_of_ble_eq_true rfl) (by (try rw [xwG]); rw [hG]; exact Nat.le_of_ble_eq_true rfl) (fun v w hp => ?_)
  obtain ⟨rfl, rfl⟩ := hp
  show WJ x ((h, .inr (8, [.ref q2, .int 0, .int ml, .int (nI n)])) :: (q2, .inl (cs 5, cap2, .inl f2)) :: R : va_W) 21 ([some (.inl (.ref h)), some (.inl (.int v)), some (.inl (.int (nI n))), some (.inl (.int (nI (n + (dg_ v).length))))] : Ls) ([.inl (.int 1)] : List AV) 1
  refine sd_if_eq (tgt := 37) (hF _) (jde hC (by decide +kernel : decode cJ5_append_c97b9 21 = .ok (.ifCond .eq 16, 3))) rfl (fun z => absurd z (by decide)) (fun _ => ?_)
  refine jd_iload_n (i := 1) (hF _) (jde hC (by decide +kernel : decode cJ5_append_c97b9 24 = .ok (.iload_n 1, 1))) rfl rfl ?_
  refine jd_iload_n (i := 3) (hF _) (jde hC (by decide +kernel : decode cJ5_append_c97b9 25 = .ok (.iload_n 3, 1))) rfl rfl ?_
  refine jd_aload_n (i := 0) (hF _) (jde hC (by decide +kernel : decode cJ5_append_c97b9 26 = .ok (.aload_n 0, 1))) rfl rfl ?_
  refine jd_get (k := 0) (f := 0) (q := (RJ4, TJ4, 4)) (hF _) (jde hC (by decide +kernel : decode cJ5_append_c97b9 27 = .ok (.getfield 15, 3))) rfl rfl (Nat.le_of_ble_eq_true rfl) (Or.inl (by (try rw [xwO]); rw [hO]; exact we_292)) rfl ?_
  refine jd_callS (n := 3) (vs := [.int v, .int (nI (n + (dg_ v).length)), .ref q2]) (rest := []) (hF _) (jde hC (by decide +kernel : decode cJ5_append_c97b9 30 = .ok (.invokestatic 248, 3))) (by rw [hK, hH]; exact jm_gc h1 h2 hf2 hm2 hc2) (by (try rw [xwO]); rw [hO]; exact we_921) we_922 we_116 we_923 ⟨by decide +kernel, by decide +kernel, by decide +kernel⟩ rfl (Nat.le_of_ble_eq_true rfl) (by (try rw [xwV]); rw [hV]; exact Nat.le_of_ble_eq_true rfl) rfl (Nat.le_of_ble_eq_true rfl) (by (try rw [xwG]); rw [hG]; exact Nat.le_of_ble_eq_true rfl) (fun v w hp => ?_)
  obtain ⟨rfl, f3, rfl, hf3, he3, hd3⟩ := hp
  show WJ x ((h, .inr (8, [.ref q2, .int 0, .int ml, .int (nI n)])) :: (q2, .inl (cs 5, cap2, .inl f3)) :: R : va_W) 33 ([some (.inl (.ref h)), some (.inl (.int v)), some (.inl (.int (nI n))), some (.inl (.int (nI (n + (dg_ v).length))))] : Ls) ([.inl (.int (nI n))] : List AV) 1
  refine sd_pop (hF _) (jde hC (by decide +kernel : decode cJ5_append_c97b9 33 = .ok (.pop, 1))) rfl ?_
  refine sd_goto (tgt := 48) (hF _) (jde hC (by decide +kernel : decode cJ5_append_c97b9 34 = .ok (.goto 14, 3))) rfl ?_
  refine jd_aload_n (i := 0) (hF _) (jde hC (by decide +kernel : decode cJ5_append_c97b9 48 = .ok (.aload_n 0, 1))) rfl rfl ?_
  refine jd_iload_n (i := 3) (hF _) (jde hC (by decide +kernel : decode cJ5_append_c97b9 49 = .ok (.iload_n 3, 1))) rfl rfl ?_
  refine jd_put (k := 0) (f := 3) (q := (RJ4, TJ4, 4)) (ty := .int) (hF _) (jde hC (by decide +kernel : decode cJ5_append_c97b9 50 = .ok (.putfield 79, 3))) rfl rfl (Nat.le_of_ble_eq_true rfl) (by (try rw [xwO]); rw [hO]; exact we_296) rfl (by decide +kernel) rfl rfl (Nat.le_of_ble_eq_true rfl) ?_
  show WJ x ((h, .inr (8, [.ref q2, .int 0, .int ml, .int (nI (n + (dg_ v).length))])) :: (q2, .inl (cs 5, cap2, .inl f3)) :: R : va_W) 53 ([some (.inl (.ref h)), some (.inl (.int v)), some (.inl (.int (nI n))), some (.inl (.int (nI (n + (dg_ v).length))))] : Ls) ([] : List AV) 1
  refine jd_aload_n (i := 0) (hF _) (jde hC (by decide +kernel : decode cJ5_append_c97b9 53 = .ok (.aload_n 0, 1))) rfl rfl ?_
  exact hE _ 54 1 _ _ (some (.ref h)) (by decide +kernel : decode cJ5_append_c97b9 54 = .ok (.areturn, 1)) ⟨Or.inr ⟨_, rfl⟩, Or.inl ⟨_, rfl⟩⟩ ⟨rfl, _, _, _, rfl, hm2, hc2, hf3, fun j hj => (he3 j hj).trans (he2 j (by omega)), hd3⟩ (Nat.le_of_ble_eq_true rfl)
set_option maxRecDepth 100000 in
theorem jm_bai {D : va_G} {cs : Nat → ClassId} {b : Nat} {ad : Rf → Nat} {adV : Nat → Nat} {sc : Nat × (Nat → Int32)} {l : Launch} {h q cap n : Nat} {f : Nat → Int32} {ml : Int32} {R : va_W} {v : Int32} (hf : sb_Fit f) (hn : n < 44) (hnc : n ≤ cap) (hc : cap ≤ 100) (h1 : -1000 < v) (h2 : v < 1000)  : JC (D, cs, b, ad, adV, sc) l yJ4_append_bf812 cJ4_append_bf812 2 (some (.object "java/lang/StringBuilder")) 5 1 [.ref h, .int v] ((h, .inr (8, [.ref q, .int 0, .int ml, .int (nI n)])) :: (q, .inl (cs 5, cap, .inl f)) :: R : va_W) (pA cs h n ml f R (some (.ref h)) (dg_ v)) := by
  refine jc_of (by decide +kernel) (by simp [Value.category]) (Nat.le_of_ble_eq_true rfl) ?_
  intro x hF hC hO hG hV hK hH hI hE
  show WJ x ((h, .inr (8, [.ref q, .int 0, .int ml, .int (nI n)])) :: (q, .inl (cs 5, cap, .inl f)) :: R : va_W) 0 ([some (.inl (.ref h)), some (.inl (.int v))] : Ls) ([] : List AV) 0
  refine jd_aload_n (i := 0) (hF _) (jde hC (by decide +kernel : decode cJ4_append_bf812 0 = .ok (.aload_n 0, 1))) rfl rfl ?_
  refine jd_iload_n (i := 1) (hF _) (jde hC (by decide +kernel : decode cJ4_append_bf812 1 = .ok (.iload_n 1, 1))) rfl rfl ?_
  refine jd_callSU (n := 1) (vs := [.int v]) (rest := []) (k := 0) (q := (RJ4, TJ4, 4)) (hF _) (jde hC (by decide +kernel : decode cJ4_append_bf812 2 = .ok (.invokespecial 53, 3))) (by rw [hK, hH]; exact jm_aai hf hn hnc hc h1 h2) rfl rfl (by (try rw [xwO]); rw [hO]; exact we_915) we_2050 (by (try rw [xwO]); rw [hO]; exact we_305) we_916 we_93 we_917 ⟨by decide +kernel, by decide +kernel⟩ rfl (Nat.le_of_ble_eq_true rfl) (by (try rw [xwV]); rw [hV]; exact Nat.le_of_ble_eq_true rfl) rfl (Nat.le_of_ble_eq_true rfl) (by (try rw [xwG]); rw [hG]; exact Nat.le_of_ble_eq_true rfl) (fun v w hp => ?_)
  obtain ⟨rfl, q2, cap2, f2, rfl, hp2⟩ := hp
  show WJ x ((h, .inr (8, [.ref q2, .int 0, .int ml, .int (nI (n + (dg_ v).length))])) :: (q2, .inl (cs 5, cap2, .inl f2)) :: R : va_W) 5 ([some (.inl (.ref h)), some (.inl (.int v))] : Ls) ([.inl (.ref h)] : List AV) 1
  refine sd_pop (hF _) (jde hC (by decide +kernel : decode cJ4_append_bf812 5 = .ok (.pop, 1))) rfl ?_
  refine jd_aload_n (i := 0) (hF _) (jde hC (by decide +kernel : decode cJ4_append_bf812 6 = .ok (.aload_n 0, 1))) rfl rfl ?_
  exact hE _ 7 1 _ _ (some (.ref h)) (by decide +kernel : decode cJ4_append_bf812 7 = .ok (.areturn, 1)) ⟨Or.inr ⟨_, rfl⟩, Or.inl ⟨_, rfl⟩⟩ ⟨rfl, _, _, _, rfl, hp2⟩ (Nat.le_of_ble_eq_true rfl)
set_option maxRecDepth 100000 in
theorem jm_fmod {D : va_G} {cs : Nat → ClassId} {b : Nat} {ad : Rf → Nat} {adV : Nat → Nat} {sc : Nat × (Nat → Int32)} {l : Launch} {a c : Int32} {ws : va_W} (h0 : ¬ c = 0) : JC (D, cs, b, ad, adV, sc) l yJ9_floorMod_7cf53 cJ9_floorMod_7cf53 3 (some .int) 0 0 [.int a, .int c] (ws : va_W) (pD (some (.int (if (a ^^^ c) < 0 ∧ ¬ a - a / c * c = 0 then a - a / c * c + c else a - a / c * c))) ws) := by
  refine jc_of (by decide +kernel) (by simp [Value.category]) (Nat.le_of_ble_eq_true rfl) ?_
  intro x hF hC hO hG hV hK hH hI hE
  show WJ x (ws : va_W) 0 ([some (.inl (.int a)), some (.inl (.int c)), none] : Ls) ([] : List AV) 0
  refine jd_iload_n (i := 0) (hF _) (jde hC (by decide +kernel : decode cJ9_floorMod_7cf53 0 = .ok (.iload_n 0, 1))) rfl rfl ?_
  refine jd_iload_n (i := 1) (hF _) (jde hC (by decide +kernel : decode cJ9_floorMod_7cf53 1 = .ok (.iload_n 1, 1))) rfl rfl ?_
  refine sd_irem (hF _) (jde hC (by decide +kernel : decode cJ9_floorMod_7cf53 2 = .ok (.irem, 1))) (h0) ?_
  refine jd_istore_n (i := 2) (hF _) (jde hC (by decide +kernel : decode cJ9_floorMod_7cf53 3 = .ok (.istore_n 2, 1))) rfl rfl (Nat.le_of_ble_eq_true rfl) ?_
  refine jd_iload_n (i := 0) (hF _) (jde hC (by decide +kernel : decode cJ9_floorMod_7cf53 4 = .ok (.iload_n 0, 1))) rfl rfl ?_
  refine jd_iload_n (i := 1) (hF _) (jde hC (by decide +kernel : decode cJ9_floorMod_7cf53 5 = .ok (.iload_n 1, 1))) rfl rfl ?_
  refine jd_ixor (hF _) (jde hC (by decide +kernel : decode cJ9_floorMod_7cf53 6 = .ok (.ixor, 1))) ?_
  by_cases g : 0 ≤ a ^^^ c
  · refine sd_if_ge (tgt := 18) (hF _) (jde hC (by decide +kernel : decode cJ9_floorMod_7cf53 7 = .ok (.ifCond .ge 11, 3))) rfl (fun _ => ?_) (fun z => absurd (g) z)
    refine jd_iload_n (i := 2) (hF _) (jde hC (by decide +kernel : decode cJ9_floorMod_7cf53 18 = .ok (.iload_n 2, 1))) rfl rfl ?_
    exact hE _ 19 0 _ _ (some (.int (a - a / c * c))) (by decide +kernel : decode cJ9_floorMod_7cf53 19 = .ok (.ireturn, 1)) ⟨_, _, rfl, rfl, rfl⟩ ⟨congrArg (fun z => some (Value.int z)) (if_neg (fun z => absurd z.1 (Int32.not_lt.mpr g))), rfl⟩ (Nat.le_of_ble_eq_true rfl)
  · refine sd_if_ge (tgt := 18) (hF _) (jde hC (by decide +kernel : decode cJ9_floorMod_7cf53 7 = .ok (.ifCond .ge 11, 3))) rfl (fun z => absurd z (g)) (fun _ => ?_)
    refine jd_iload_n (i := 2) (hF _) (jde hC (by decide +kernel : decode cJ9_floorMod_7cf53 10 = .ok (.iload_n 2, 1))) rfl rfl ?_
    by_cases g2 : a - a / c * c = 0
    · refine sd_if_eq (tgt := 18) (hF _) (jde hC (by decide +kernel : decode cJ9_floorMod_7cf53 11 = .ok (.ifCond .eq 7, 3))) rfl (fun _ => ?_) (fun z => absurd (g2) z)
      refine jd_iload_n (i := 2) (hF _) (jde hC (by decide +kernel : decode cJ9_floorMod_7cf53 18 = .ok (.iload_n 2, 1))) rfl rfl ?_
      exact hE _ 19 0 _ _ (some (.int (a - a / c * c))) (by decide +kernel : decode cJ9_floorMod_7cf53 19 = .ok (.ireturn, 1)) ⟨_, _, rfl, rfl, rfl⟩ ⟨congrArg (fun z => some (Value.int z)) (if_neg (fun z => z.2 g2)), rfl⟩ (Nat.le_of_ble_eq_true rfl)
    · refine sd_if_eq (tgt := 18) (hF _) (jde hC (by decide +kernel : decode cJ9_floorMod_7cf53 11 = .ok (.ifCond .eq 7, 3))) rfl (fun z => absurd z (g2)) (fun _ => ?_)
      refine jd_iload_n (i := 2) (hF _) (jde hC (by decide +kernel : decode cJ9_floorMod_7cf53 14 = .ok (.iload_n 2, 1))) rfl rfl ?_
      refine jd_iload_n (i := 1) (hF _) (jde hC (by decide +kernel : decode cJ9_floorMod_7cf53 15 = .ok (.iload_n 1, 1))) rfl rfl ?_
      refine sd_iadd (hF _) (jde hC (by decide +kernel : decode cJ9_floorMod_7cf53 16 = .ok (.iadd, 1))) ?_
      exact hE _ 17 0 _ _ (some (.int ((a - a / c * c) + c))) (by decide +kernel : decode cJ9_floorMod_7cf53 17 = .ok (.ireturn, 1)) ⟨_, _, rfl, rfl, rfl⟩ ⟨congrArg (fun z => some (Value.int z)) (if_pos ⟨Int32.not_le.mp g, g2⟩), rfl⟩ (Nat.le_of_ble_eq_true rfl)
end
section
/-! From the abstract machine's calls to the walks over an explicit world -/
def cxA (x : CX) : Rf → Nat := x.2.1.2.2.2.1
def cxT (x : CX) : Nat × (Nat → Int32) → va_W → Prop := x.2.1.2.2.2.2.2.2.2
def cxCl (x : CX) (G : GS) : va_W := cells_ x.2.1.2.1 x.2.1.2.2.2.1 x.2.1.2.2.2.2.2.2.1 G
/-- what a call leads to -/
def JT (x : CX) (pc : Nat) (ls : Ls) (rest : List AV) (u : Nat) (post : Option Value → va_W → Prop) : Prop := ∀ v w, post v w → ∃ (o : Option AV) (G1 : GS) (w1 : va_W), v = o.map (rv (cxA x)) ∧ cxT x G1.2.2.1 w1 ∧
  (∀ D H, va_P D cls_ w H → va_P D cls_ (cxCl x G1 ++ w1) H) ∧ (∀ A, va_D A w → va_D A (cxCl x G1 ++ w1)) ∧ WG x pc ls (o.toList ++ rest) G1 u
section JG
variable {x : CX} {pc : Nat} {ls : Ls} {rest as : List AV} {G : GS} {u idx n lev cost maxL : Nat} {y : MethodName} {bytes : ByteArray} {ret : Option FieldType}
theorem jg_S (hF : FX x) (hd : decode (cxC x) pc = .ok (.invokestatic idx, 3))
    (w1 : Cond.methodLink (cxO x) idx y ∈ lw_all) (w2 : Cond.static y ∈ lw_all) (w4 : Cond.initialized y.cls ∈ lw_all) (w5 : Cond.code y bytes maxL ret ∈ lw_all)
    (hy : y.cls ≠ "java/lang/invoke/MethodHandle" ∧ y.cls ≠ "java/lang/invoke/VarHandle" ∧ (parseMethodDescriptor y.desc).map (fun d => d.parameters.length) = some n) (hn : as.length = n) (hm : maxL ≤ 40) (hlv : lev + 1 ≤ cxV x) (hcat : ai_cats rest ≤ 8) (hu : u + cost ≤ cxG x)
    (h : ∀ w0, cxT x G.2.2.1 w0 → ∃ (ws : va_W) (post : Option Value → va_W → Prop), (∀ D H, va_P D cls_ (cxCl x G ++ w0) H → va_P D cls_ ws H) ∧ (∀ A, va_D A (cxCl x G ++ w0) → va_D A ws) ∧ JC (cxK x) (cxH x) y bytes maxL ret lev cost (as.map (rv (cxA x))) ws post ∧ JT x (pc + 3) ls rest (u + cost) post) : WG x pc ls (as.reverse ++ rest) G u := by
  obtain ⟨⟨p, l, e, R, s, m, args, below, meth, c, Q⟩, ⟨D, cs, b, ad, adV, sc, L, XT⟩, cc, nL, own, c0, s0, seg, lv⟩ := x
  obtain ⟨hx, hb, hml, hown, hts, hKS, hbs, hL, hlocks, hR1, hR2, hR3, hR4⟩ := hF
  intro H locs cells slots sl hP hS hl h1 h2
  obtain ⟨w0, hXT, hP, hD⟩ := hP
  obtain ⟨ws, post, q1, q2, hC, hk⟩ := h w0 hXT
  have hP := q1 _ _ hP
  have hD := q2 _ hD
  have hu : u + cost ≤ seg := hu
  have hlv : lev + 1 ≤ lv := hlv
  have hg : GoodIn lw_all (va_wsS own idx y (.code y bytes maxL ret :: lw_all)) := goodIn_all (in_cons w1 (in_cons w2 (in_cons w4 (in_cons w5 in_self))))
  have hrun := va_runS (cells := cells) (slots := slots) (locs := locs) (meth := meth) (As := as.map (rv ad)) (rest := rest.map (rv ad)) (g := F0 m pc sl ((as.reverse ++ rest).map (rv ad))) (p := p) (e := e) (below := below) (R := R) ⟨hx, hb, hml, hown, hts⟩ hC
    (va_cwS n hts hg rfl rfl rfl hy ⟨(by show lev + 1 ≤ R.frames; omega), (by show 8 + (maxL + 11) + 64 * lev ≤ R.locals; omega)⟩) ⟨Pj_blind, fun U hU hW => jd_pre hbs hKS hS hP hD hU hW⟩
    rfl (by rw [List.length_map]; exact hn) hl.2.1 (stk_S ad as rest) (lv_room (by rw [cats_eq]; exact hcat)) hd ⟨by omega, by omega⟩
  refine jd_row hrun hS (fun v w hv H1 locs1 g1 g2 g3 => ?_)
  obtain ⟨o, G1, w1, rfl, t1, t2, t3, t4⟩ := hk v w hv
  have t5 := t4 H1 locs1 (cells + cost) (slots + 100 * cost) sl ⟨w1, t1, t2 _ _ g1, t3 _ g2⟩ g3 hl (by omega) (by omega)
  rw [← toList_map] at t5
  exact t5
theorem jg_V {q : Rf} {tl : List AV} {C : String} (hF : FX x) (hd : decode (cxC x) pc = .ok (.invokevirtual idx, 3)) (has : as = .inr q :: tl)
    (hrc : (∃ (ci : Nat) (qq : vw_C), cls_[ci]? = some qq ∧ qq.1 = C ∧ ∀ w0, cxT x G.2.2.1 w0 → ∃ (k : Nat) (fs : List Value), w0[k]? = some ((cxA x q, .inr (ci, fs)) : Nat × va_E)) ∨ (q.2 = 200 ∧ q.1 < 7 ∧ C = "java/lang/String"))
    (w1 : Cond.methodLink (cxO x) idx y ∈ lw_all) (w2 : Cond.instanceMethod y ∈ lw_all) (w3 : Cond.selects C y y ∈ lw_all) (w4 : Cond.initialized C ∈ lw_all) (w5 : Cond.code y bytes maxL ret ∈ lw_all)
    (hy : y.cls = C ∧ y.cls ≠ "java/lang/invoke/MethodHandle" ∧ y.cls ≠ "java/lang/invoke/VarHandle" ∧ (parseMethodDescriptor y.desc).map (fun d => d.parameters.length) = some n) (hn : tl.length = n) (hm : maxL ≤ 40) (hlv : lev + 1 ≤ cxV x) (hcat : ai_cats rest ≤ 8) (hu : u + cost ≤ cxG x)
    (h : ∀ w0, cxT x G.2.2.1 w0 → ∃ (ws : va_W) (post : Option Value → va_W → Prop), (∀ D H, va_P D cls_ (cxCl x G ++ w0) H → va_P D cls_ ws H) ∧ (∀ A, va_D A (cxCl x G ++ w0) → va_D A ws) ∧ JC (cxK x) (cxH x) y bytes maxL ret lev cost (as.map (rv (cxA x))) ws post ∧ JT x (pc + 3) ls rest (u + cost) post) : WG x pc ls (as.reverse ++ rest) G u := by
  obtain ⟨⟨p, l, e, R, s, m, args, below, meth, c, Q⟩, ⟨D, cs, b, ad, adV, sc, L, XT⟩, cc, nL, own, c0, s0, seg, lv⟩ := x
  obtain ⟨hx, hb, hml, hown, hts, hKS, hbs, hL, hlocks, hR1, hR2, hR3, hR4⟩ := hF
  intro H locs cells slots sl hP hS hl h1 h2
  obtain ⟨w0, hXT, hP0, hD⟩ := hP
  obtain ⟨ws, post, q1, q2, hC, hk⟩ := h w0 hXT
  have hP := q1 _ _ hP0
  have hD := q2 _ hD
  have hu : u + cost ≤ seg := hu
  have hlv : lev + 1 ≤ lv := hlv
  have hg : GoodIn lw_all (wsV own idx C y (.code y bytes maxL ret :: lw_all)) := goodIn_all (in_cons w1 (in_cons w2 (in_cons w3 (in_cons w4 (in_cons w5 in_self)))))
  have hrecv : ∃ cell : Cell, H[ad q]? = some cell ∧ cell.vm.isStatics = false ∧ s.vm.findClass C = some cell.cls := by
    rcases hrc with ⟨ci, qq, g1, rfl, g3⟩ | ⟨g1, g2, rfl⟩
    · obtain ⟨k, fs, g4⟩ := g3 w0 hXT
      refine va_recv hKS.1 hP0 g1 (fs := fs) (q0 := (cells_ cs ad L G).length + k) ?_
      rw [List.getElem?_append_right (Nat.le_add_right _ _), Nat.add_sub_cancel_left]
      exact g4
    · obtain ⟨j, k⟩ := q
      have g1 : k = 200 := g1
      subst g1
      exact vk_recv (i := j) hKS.2.2.2.2.2.1.1 g2 hS
  subst has
  have hrun := va_runV (cells := cells) (slots := slots) (locs := locs) (meth := meth) (As := tl.map (rv ad)) (rest := rest.map (rv ad)) (b := ad q) (C := C) (g := F0 m pc sl (((.inr q :: tl : List AV).reverse ++ rest).map (rv ad))) (p := p) (e := e) (below := below) (R := R) ⟨hx, hb, hml, hown, hts⟩ hC
    (cwV n hts hg rfl rfl rfl hy ⟨(by show lev + 1 ≤ R.frames; omega), (by show 8 + (maxL + 11) + 64 * lev ≤ R.locals; omega)⟩) ⟨Pj_blind, hrecv, fun U hU hW => jd_pre hbs hKS hS hP hD hU hW⟩
    rfl (by rw [List.length_map]; exact hn) hl.2.1 (stk_V ad q tl rest) (lv_room (by rw [cats_eq]; exact hcat)) hd ⟨by omega, by omega⟩
  refine jd_row hrun hS (fun v w hv H1 locs1 g1 g2 g3 => ?_)
  obtain ⟨o, G1, w1, rfl, t1, t2, t3, t4⟩ := hk v w hv
  have t5 := t4 H1 locs1 (cells + cost) (slots + 100 * cost) sl ⟨w1, t1, t2 _ _ g1, t3 _ g2⟩ g3 hl (by omega) (by omega)
  rw [← toList_map] at t5
  exact t5
end JG
theorem W_sw {D : va_G} {cl : List vw_C} {H : Heap} {b c : va_W} (h : va_P D cl (b ++ c) H) : va_P D cl (c ++ b) H := va_P.swap (a := []) (b := b) (c := c) h
theorem W_swD {A : Nat → Prop} {b c : va_W} (h : va_D A (b ++ c)) : va_D A (c ++ b) := va_D.swap (a := []) (b := b) (c := c) h
end
section
def FT_ : Lk := [("PillowBarge$Cargo", 9, 128), ("PillowBarge$Cargo", 15, 130), ("PillowBarge$Cargo", 18, 132), ("PillowBarge$Cargo", 21, 134), ("PillowBarge$Cargo", 24, 136), ("PillowBarge$History", 13, 320), ("PillowBarge$Voyage", 15, 192), ("PillowBarge$Voyage", 19, 194), ("PillowBarge$Voyage", 9, 197), ("PillowBarge$Tally", 7, 256), ("PillowBarge$Tally", 13, 258), ("PillowBarge$Tally", 16, 260), ("PillowBarge$Tally", 19, 262), ("PillowBarge$Tally", 22, 264), ("PillowBarge$State", 12, 64), ("PillowBarge$State", 21, 66), ("PillowBarge$State", 28, 68), ("PillowBarge$State", 32, 70), ("PillowBarge$History", 18, 322), ("PillowBarge$History", 36, 324), ("PillowBarge$Script", 22, 390), ("PillowBarge$Script", 11, 384), ("PillowBarge$Script", 15, 386), ("PillowBarge$Script", 19, 388), ("PillowBarge$Script", 26, 394), ("PillowBarge$Script", 29, 392), ("PillowBarge$State", 58, 194), ("PillowBarge$State", 103, 192), ("PillowBarge$State", 142, 256), ("PillowBarge$State", 152, 258), ("PillowBarge$State", 155, 260), ("PillowBarge$State", 161, 262), ("PillowBarge$State", 164, 264), ("PillowBarge$State", 132, 197), ("PillowBarge", 12, 0), ("PillowBarge", 19, 2), ("PillowBarge", 87, 64), ("PillowBarge", 152, 70), ("PillowBarge", 178, 66), ("PillowBarge", 182, 192), ("PillowBarge", 187, 194), ("PillowBarge", 190, 197), ("PillowBarge", 47, 16), ("PillowBarge", 242, 68), ("PillowBarge", 246, 256), ("PillowBarge", 251, 258), ("PillowBarge", 254, 260), ("PillowBarge", 257, 262), ("PillowBarge", 260, 264), ("PillowBarge", 43, 14), ("PillowBarge", 29, 8), ("PillowBarge", 302, 390), ("PillowBarge", 319, 392), ("PillowBarge", 310, 394), ("PillowBarge", 33, 10), ("PillowBarge", 37, 12), ("PillowBarge", 328, 324), ("PillowBarge", 23, 4), ("PillowBarge", 335, 7), ("PillowBargeModel", 1, 448), ("PillowBargeModel", 23, 456), ("PillowBargeModel", 13, 450), ("PillowBargeModel", 42, 458), ("PillowBargeModel", 45, 460), ("PillowBargeModel", 17, 452), ("PillowBargeModel", 26, 464), ("PillowBargeModel", 185, 466), ("PillowBargeModel", 194, 470), ("PillowBargeModel", 30, 468), ("PillowBargeModel", 197, 472), ("PillowBargeModel", 39, 478), ("PillowBargeModel", 212, 480), ("PillowBargeModel", 228, 482), ("PillowBargeModel", 33, 474), ("PillowBargeModel", 36, 476), ("PillowBargeModel", 20, 454), ("PillowBargeModel", 246, 463)]
theorem fl_0 : FLk "PillowBarge$Cargo" 9 128 := ⟨(RX0, TX0, 5), rfl, Or.inl (all_at 137 (by decide +kernel) rfl)⟩
theorem fl_1 : FLk "PillowBarge$Cargo" 15 130 := ⟨(RX0, TX0, 5), rfl, Or.inl (all_at 138 (by decide +kernel) rfl)⟩
theorem fl_2 : FLk "PillowBarge$Cargo" 18 132 := ⟨(RX0, TX0, 5), rfl, Or.inl (all_at 139 (by decide +kernel) rfl)⟩
theorem fl_3 : FLk "PillowBarge$Cargo" 21 134 := ⟨(RX0, TX0, 5), rfl, Or.inl (all_at 140 (by decide +kernel) rfl)⟩
theorem fl_4 : FLk "PillowBarge$Cargo" 24 136 := ⟨(RX0, TX0, 5), rfl, Or.inl (all_at 141 (by decide +kernel) rfl)⟩
theorem fl_5 : FLk "PillowBarge$History" 13 320 := ⟨(RX1, TX1, 3), rfl, Or.inl (all_at 234 (by decide +kernel) rfl)⟩
theorem fl_6 : FLk "PillowBarge$Voyage" 15 192 := ⟨(RX5, TX5, 3), rfl, Or.inl (all_at 160 (by decide +kernel) rfl)⟩
theorem fl_7 : FLk "PillowBarge$Voyage" 19 194 := ⟨(RX5, TX5, 3), rfl, Or.inl (all_at 163 (by decide +kernel) rfl)⟩
theorem fl_8 : FLk "PillowBarge$Voyage" 9 197 := ⟨(RX5, TX5, 3), rfl, Or.inl (all_at 166 (by decide +kernel) rfl)⟩
theorem fl_9 : FLk "PillowBarge$Tally" 7 256 := ⟨(RX4, TX4, 5), rfl, Or.inl (all_at 182 (by decide +kernel) rfl)⟩
theorem fl_10 : FLk "PillowBarge$Tally" 13 258 := ⟨(RX4, TX4, 5), rfl, Or.inl (all_at 185 (by decide +kernel) rfl)⟩
theorem fl_11 : FLk "PillowBarge$Tally" 16 260 := ⟨(RX4, TX4, 5), rfl, Or.inl (all_at 188 (by decide +kernel) rfl)⟩
theorem fl_12 : FLk "PillowBarge$Tally" 19 262 := ⟨(RX4, TX4, 5), rfl, Or.inl (all_at 191 (by decide +kernel) rfl)⟩
theorem fl_13 : FLk "PillowBarge$Tally" 22 264 := ⟨(RX4, TX4, 5), rfl, Or.inl (all_at 194 (by decide +kernel) rfl)⟩
theorem fl_14 : FLk "PillowBarge$State" 12 64 := ⟨(RX3, TX3, 4), rfl, Or.inl (all_at 208 (by decide +kernel) rfl)⟩
theorem fl_15 : FLk "PillowBarge$State" 21 66 := ⟨(RX3, TX3, 4), rfl, Or.inl (all_at 210 (by decide +kernel) rfl)⟩
theorem fl_16 : FLk "PillowBarge$State" 28 68 := ⟨(RX3, TX3, 4), rfl, Or.inl (all_at 212 (by decide +kernel) rfl)⟩
theorem fl_17 : FLk "PillowBarge$State" 32 70 := ⟨(RX3, TX3, 4), rfl, Or.inl (all_at 214 (by decide +kernel) rfl)⟩
theorem fl_18 : FLk "PillowBarge$History" 18 322 := ⟨(RX1, TX1, 3), rfl, Or.inl (all_at 235 (by decide +kernel) rfl)⟩
theorem fl_19 : FLk "PillowBarge$History" 36 324 := ⟨(RX1, TX1, 3), rfl, Or.inl (all_at 236 (by decide +kernel) rfl)⟩
theorem fl_20 : FLk "PillowBarge$Script" 22 390 := ⟨(RX2, TX2, 6), rfl, Or.inl (all_at 254 (by decide +kernel) rfl)⟩
theorem fl_21 : FLk "PillowBarge$Script" 11 384 := ⟨(RX2, TX2, 6), rfl, Or.inl (all_at 251 (by decide +kernel) rfl)⟩
theorem fl_22 : FLk "PillowBarge$Script" 15 386 := ⟨(RX2, TX2, 6), rfl, Or.inl (all_at 252 (by decide +kernel) rfl)⟩
theorem fl_23 : FLk "PillowBarge$Script" 19 388 := ⟨(RX2, TX2, 6), rfl, Or.inl (all_at 253 (by decide +kernel) rfl)⟩
theorem fl_24 : FLk "PillowBarge$Script" 26 394 := ⟨(RX2, TX2, 6), rfl, Or.inl (all_at 258 (by decide +kernel) rfl)⟩
theorem fl_25 : FLk "PillowBarge$Script" 29 392 := ⟨(RX2, TX2, 6), rfl, Or.inl (all_at 256 (by decide +kernel) rfl)⟩
theorem fl_26 : FLk "PillowBarge$State" 58 194 := ⟨(RX5, TX5, 3), rfl, Or.inr ⟨"PillowBarge", nw_at 164 (by decide +kernel) rfl⟩⟩
theorem fl_27 : FLk "PillowBarge$State" 103 192 := ⟨(RX5, TX5, 3), rfl, Or.inr ⟨"PillowBarge", nw_at 161 (by decide +kernel) rfl⟩⟩
theorem fl_28 : FLk "PillowBarge$State" 142 256 := ⟨(RX4, TX4, 5), rfl, Or.inr ⟨"PillowBarge", nw_at 183 (by decide +kernel) rfl⟩⟩
theorem fl_29 : FLk "PillowBarge$State" 152 258 := ⟨(RX4, TX4, 5), rfl, Or.inr ⟨"PillowBarge", nw_at 186 (by decide +kernel) rfl⟩⟩
theorem fl_30 : FLk "PillowBarge$State" 155 260 := ⟨(RX4, TX4, 5), rfl, Or.inr ⟨"PillowBarge", nw_at 189 (by decide +kernel) rfl⟩⟩
theorem fl_31 : FLk "PillowBarge$State" 161 262 := ⟨(RX4, TX4, 5), rfl, Or.inr ⟨"PillowBarge", nw_at 192 (by decide +kernel) rfl⟩⟩
theorem fl_32 : FLk "PillowBarge$State" 164 264 := ⟨(RX4, TX4, 5), rfl, Or.inr ⟨"PillowBarge", nw_at 195 (by decide +kernel) rfl⟩⟩
theorem fl_33 : FLk "PillowBarge$State" 132 197 := ⟨(RX5, TX5, 3), rfl, Or.inr ⟨"PillowBarge", nw_at 167 (by decide +kernel) rfl⟩⟩
theorem fl_34 : FLk "PillowBarge" 12 0 := ⟨(RX6, TX6, 9), rfl, Or.inl (all_at 307 (by decide +kernel) rfl)⟩
theorem fl_35 : FLk "PillowBarge" 19 2 := ⟨(RX6, TX6, 9), rfl, Or.inl (all_at 308 (by decide +kernel) rfl)⟩
theorem fl_36 : FLk "PillowBarge" 87 64 := ⟨(RX3, TX3, 4), rfl, Or.inr ⟨"PillowBarge", nw_at 209 (by decide +kernel) rfl⟩⟩
theorem fl_37 : FLk "PillowBarge" 152 70 := ⟨(RX3, TX3, 4), rfl, Or.inr ⟨"PillowBarge", nw_at 215 (by decide +kernel) rfl⟩⟩
theorem fl_38 : FLk "PillowBarge" 178 66 := ⟨(RX3, TX3, 4), rfl, Or.inr ⟨"PillowBarge", nw_at 211 (by decide +kernel) rfl⟩⟩
theorem fl_39 : FLk "PillowBarge" 182 192 := ⟨(RX5, TX5, 3), rfl, Or.inr ⟨"PillowBarge", nw_at 162 (by decide +kernel) rfl⟩⟩
theorem fl_40 : FLk "PillowBarge" 187 194 := ⟨(RX5, TX5, 3), rfl, Or.inr ⟨"PillowBarge", nw_at 165 (by decide +kernel) rfl⟩⟩
theorem fl_41 : FLk "PillowBarge" 190 197 := ⟨(RX5, TX5, 3), rfl, Or.inr ⟨"PillowBarge", nw_at 168 (by decide +kernel) rfl⟩⟩
theorem fl_42 : FLk "PillowBarge" 47 16 := ⟨(RX6, TX6, 9), rfl, Or.inl (all_at 315 (by decide +kernel) rfl)⟩
theorem fl_43 : FLk "PillowBarge" 242 68 := ⟨(RX3, TX3, 4), rfl, Or.inr ⟨"PillowBarge", nw_at 213 (by decide +kernel) rfl⟩⟩
theorem fl_44 : FLk "PillowBarge" 246 256 := ⟨(RX4, TX4, 5), rfl, Or.inr ⟨"PillowBarge", nw_at 184 (by decide +kernel) rfl⟩⟩
theorem fl_45 : FLk "PillowBarge" 251 258 := ⟨(RX4, TX4, 5), rfl, Or.inr ⟨"PillowBarge", nw_at 187 (by decide +kernel) rfl⟩⟩
theorem fl_46 : FLk "PillowBarge" 254 260 := ⟨(RX4, TX4, 5), rfl, Or.inr ⟨"PillowBarge", nw_at 190 (by decide +kernel) rfl⟩⟩
theorem fl_47 : FLk "PillowBarge" 257 262 := ⟨(RX4, TX4, 5), rfl, Or.inr ⟨"PillowBarge", nw_at 193 (by decide +kernel) rfl⟩⟩
theorem fl_48 : FLk "PillowBarge" 260 264 := ⟨(RX4, TX4, 5), rfl, Or.inr ⟨"PillowBarge", nw_at 196 (by decide +kernel) rfl⟩⟩
theorem fl_49 : FLk "PillowBarge" 43 14 := ⟨(RX6, TX6, 9), rfl, Or.inl (all_at 314 (by decide +kernel) rfl)⟩
theorem fl_50 : FLk "PillowBarge" 29 8 := ⟨(RX6, TX6, 9), rfl, Or.inl (all_at 311 (by decide +kernel) rfl)⟩
theorem fl_51 : FLk "PillowBarge" 302 390 := ⟨(RX2, TX2, 6), rfl, Or.inr ⟨"PillowBarge", nw_at 255 (by decide +kernel) rfl⟩⟩
theorem fl_52 : FLk "PillowBarge" 319 392 := ⟨(RX2, TX2, 6), rfl, Or.inr ⟨"PillowBarge", nw_at 257 (by decide +kernel) rfl⟩⟩
theorem fl_53 : FLk "PillowBarge" 310 394 := ⟨(RX2, TX2, 6), rfl, Or.inr ⟨"PillowBarge", nw_at 259 (by decide +kernel) rfl⟩⟩
theorem fl_54 : FLk "PillowBarge" 33 10 := ⟨(RX6, TX6, 9), rfl, Or.inl (all_at 312 (by decide +kernel) rfl)⟩
theorem fl_55 : FLk "PillowBarge" 37 12 := ⟨(RX6, TX6, 9), rfl, Or.inl (all_at 313 (by decide +kernel) rfl)⟩
theorem fl_56 : FLk "PillowBarge" 328 324 := ⟨(RX1, TX1, 3), rfl, Or.inr ⟨"PillowBarge", nw_at 237 (by decide +kernel) rfl⟩⟩
theorem fl_57 : FLk "PillowBarge" 23 4 := ⟨(RX6, TX6, 9), rfl, Or.inl (all_at 309 (by decide +kernel) rfl)⟩
theorem fl_58 : FLk "PillowBarge" 335 7 := ⟨(RX6, TX6, 9), rfl, Or.inl (all_at 310 (by decide +kernel) rfl)⟩
theorem fl_59 : FLk "PillowBargeModel" 1 448 := ⟨(RX7, TX7, 18), rfl, Or.inl (all_at 1550 (by decide +kernel) rfl)⟩
theorem fl_60 : FLk "PillowBargeModel" 23 456 := ⟨(RX7, TX7, 18), rfl, Or.inl (all_at 1554 (by decide +kernel) rfl)⟩
theorem fl_61 : FLk "PillowBargeModel" 13 450 := ⟨(RX7, TX7, 18), rfl, Or.inl (all_at 1551 (by decide +kernel) rfl)⟩
theorem fl_62 : FLk "PillowBargeModel" 42 458 := ⟨(RX7, TX7, 18), rfl, Or.inl (all_at 1555 (by decide +kernel) rfl)⟩
theorem fl_63 : FLk "PillowBargeModel" 45 460 := ⟨(RX7, TX7, 18), rfl, Or.inl (all_at 1556 (by decide +kernel) rfl)⟩
theorem fl_64 : FLk "PillowBargeModel" 17 452 := ⟨(RX7, TX7, 18), rfl, Or.inl (all_at 1552 (by decide +kernel) rfl)⟩
theorem fl_65 : FLk "PillowBargeModel" 26 464 := ⟨(RX7, TX7, 18), rfl, Or.inl (all_at 1558 (by decide +kernel) rfl)⟩
theorem fl_66 : FLk "PillowBargeModel" 185 466 := ⟨(RX7, TX7, 18), rfl, Or.inl (all_at 1559 (by decide +kernel) rfl)⟩
theorem fl_67 : FLk "PillowBargeModel" 194 470 := ⟨(RX7, TX7, 18), rfl, Or.inl (all_at 1561 (by decide +kernel) rfl)⟩
theorem fl_68 : FLk "PillowBargeModel" 30 468 := ⟨(RX7, TX7, 18), rfl, Or.inl (all_at 1560 (by decide +kernel) rfl)⟩
theorem fl_69 : FLk "PillowBargeModel" 197 472 := ⟨(RX7, TX7, 18), rfl, Or.inl (all_at 1562 (by decide +kernel) rfl)⟩
theorem fl_70 : FLk "PillowBargeModel" 39 478 := ⟨(RX7, TX7, 18), rfl, Or.inl (all_at 1565 (by decide +kernel) rfl)⟩
theorem fl_71 : FLk "PillowBargeModel" 212 480 := ⟨(RX7, TX7, 18), rfl, Or.inl (all_at 1566 (by decide +kernel) rfl)⟩
theorem fl_72 : FLk "PillowBargeModel" 228 482 := ⟨(RX7, TX7, 18), rfl, Or.inl (all_at 1567 (by decide +kernel) rfl)⟩
theorem fl_73 : FLk "PillowBargeModel" 33 474 := ⟨(RX7, TX7, 18), rfl, Or.inl (all_at 1563 (by decide +kernel) rfl)⟩
theorem fl_74 : FLk "PillowBargeModel" 36 476 := ⟨(RX7, TX7, 18), rfl, Or.inl (all_at 1564 (by decide +kernel) rfl)⟩
theorem fl_75 : FLk "PillowBargeModel" 20 454 := ⟨(RX7, TX7, 18), rfl, Or.inl (all_at 1553 (by decide +kernel) rfl)⟩
theorem fl_76 : FLk "PillowBargeModel" 246 463 := ⟨(RX7, TX7, 18), rfl, Or.inl (all_at 1557 (by decide +kernel) rfl)⟩
theorem FT_ok : ∀ q ∈ FT_, FLk q.1 q.2.1 q.2.2 := (List.forall_mem_cons.mpr ⟨fl_0, (List.forall_mem_cons.mpr ⟨fl_1, (List.forall_mem_cons.mpr ⟨fl_2, (List.forall_mem_cons.mpr ⟨fl_3, (List.forall_mem_cons.mpr ⟨fl_4, (List.forall_mem_cons.mpr ⟨fl_5, (List.forall_mem_cons.mpr ⟨fl_6, (List.forall_mem_cons.mpr ⟨fl_7, (List.forall_mem_cons.mpr ⟨fl_8, (List.forall_mem_cons.mpr ⟨fl_9, (List.forall_mem_cons.mpr ⟨fl_10, (List.forall_mem_cons.mpr ⟨fl_11, (List.forall_mem_cons.mpr ⟨fl_12, (List.forall_mem_cons.mpr ⟨fl_13, (List.forall_mem_cons.mpr ⟨fl_14, (List.forall_mem_cons.mpr ⟨fl_15, (List.forall_mem_cons.mpr ⟨fl_16, (List.forall_mem_cons.mpr ⟨fl_17, (List.forall_mem_cons.mpr ⟨fl_18, (List.forall_mem_cons.mpr ⟨fl_19, (List.forall_mem_cons.mpr ⟨fl_20, (List.forall_mem_cons.mpr ⟨fl_21, (List.forall_mem_cons.mpr ⟨fl_22, (List.forall_mem_cons.mpr ⟨fl_23, (List.forall_mem_cons.mpr ⟨fl_24, (List.forall_mem_cons.mpr ⟨fl_25, (List.forall_mem_cons.mpr ⟨fl_26, (List.forall_mem_cons.mpr ⟨fl_27, (List.forall_mem_cons.mpr ⟨fl_28, (List.forall_mem_cons.mpr ⟨fl_29, (List.forall_mem_cons.mpr ⟨fl_30, (List.forall_mem_cons.mpr ⟨fl_31, (List.forall_mem_cons.mpr ⟨fl_32, (List.forall_mem_cons.mpr ⟨fl_33, (List.forall_mem_cons.mpr ⟨fl_34, (List.forall_mem_cons.mpr ⟨fl_35, (List.forall_mem_cons.mpr ⟨fl_36, (List.forall_mem_cons.mpr ⟨fl_37, (List.forall_mem_cons.mpr ⟨fl_38, (List.forall_mem_cons.mpr ⟨fl_39, (List.forall_mem_cons.mpr ⟨fl_40, (List.forall_mem_cons.mpr ⟨fl_41, (List.forall_mem_cons.mpr ⟨fl_42, (List.forall_mem_cons.mpr ⟨fl_43, (List.forall_mem_cons.mpr ⟨fl_44, (List.forall_mem_cons.mpr ⟨fl_45, (List.forall_mem_cons.mpr ⟨fl_46, (List.forall_mem_cons.mpr ⟨fl_47, (List.forall_mem_cons.mpr ⟨fl_48, (List.forall_mem_cons.mpr ⟨fl_49, (List.forall_mem_cons.mpr ⟨fl_50, (List.forall_mem_cons.mpr ⟨fl_51, (List.forall_mem_cons.mpr ⟨fl_52, (List.forall_mem_cons.mpr ⟨fl_53, (List.forall_mem_cons.mpr ⟨fl_54, (List.forall_mem_cons.mpr ⟨fl_55, (List.forall_mem_cons.mpr ⟨fl_56, (List.forall_mem_cons.mpr ⟨fl_57, (List.forall_mem_cons.mpr ⟨fl_58, (List.forall_mem_cons.mpr ⟨fl_59, (List.forall_mem_cons.mpr ⟨fl_60, (List.forall_mem_cons.mpr ⟨fl_61, (List.forall_mem_cons.mpr ⟨fl_62, (List.forall_mem_cons.mpr ⟨fl_63, (List.forall_mem_cons.mpr ⟨fl_64, (List.forall_mem_cons.mpr ⟨fl_65, (List.forall_mem_cons.mpr ⟨fl_66, (List.forall_mem_cons.mpr ⟨fl_67, (List.forall_mem_cons.mpr ⟨fl_68, (List.forall_mem_cons.mpr ⟨fl_69, (List.forall_mem_cons.mpr ⟨fl_70, (List.forall_mem_cons.mpr ⟨fl_71, (List.forall_mem_cons.mpr ⟨fl_72, (List.forall_mem_cons.mpr ⟨fl_73, (List.forall_mem_cons.mpr ⟨fl_74, (List.forall_mem_cons.mpr ⟨fl_75, (List.forall_mem_cons.mpr ⟨fl_76, (fun _ h => nomatch h)⟩)⟩)⟩)⟩)⟩)⟩)⟩)⟩)⟩)⟩)⟩)⟩)⟩)⟩)⟩)⟩)⟩)⟩)⟩)⟩)⟩)⟩)⟩)⟩)⟩)⟩)⟩)⟩)⟩)⟩)⟩)⟩)⟩)⟩)⟩)⟩)⟩)⟩)⟩)⟩)⟩)⟩)⟩)⟩)⟩)⟩)⟩)⟩)⟩)⟩)⟩)⟩)⟩)⟩)⟩)⟩)⟩)⟩)⟩)⟩)⟩)⟩)⟩)⟩)⟩)⟩)⟩)⟩)⟩)⟩)⟩)⟩)⟩)⟩)⟩)⟩)⟩)
def PT_ : Lk := [("PillowBarge$Voyage", 15, 192), ("PillowBarge$Voyage", 19, 194), ("PillowBarge$Voyage", 9, 197), ("PillowBarge$Tally", 7, 256), ("PillowBarge$Tally", 13, 258), ("PillowBarge$Tally", 16, 260), ("PillowBarge$Tally", 19, 262), ("PillowBarge$Tally", 22, 264), ("PillowBarge$State", 32, 70), ("PillowBarge$History", 18, 322), ("PillowBarge$History", 36, 324), ("PillowBarge$Script", 22, 390), ("PillowBarge$Script", 26, 394), ("PillowBarge$Script", 29, 392), ("PillowBarge$State", 142, 256), ("PillowBarge$State", 152, 258), ("PillowBarge$State", 155, 260), ("PillowBarge$State", 161, 262), ("PillowBarge$State", 164, 264), ("PillowBarge", 33, 10), ("PillowBarge", 37, 12), ("PillowBarge", 335, 7), ("PillowBargeModel", 1, 448), ("PillowBargeModel", 45, 460), ("PillowBargeModel", 42, 458), ("PillowBargeModel", 185, 466), ("PillowBargeModel", 194, 470), ("PillowBargeModel", 197, 472), ("PillowBargeModel", 212, 480), ("PillowBargeModel", 228, 482), ("PillowBargeModel", 33, 474), ("PillowBargeModel", 36, 476), ("PillowBargeModel", 246, 463)]
theorem pl_0 : PLk "PillowBarge$Voyage" 15 192 := ⟨fl_6, (RX5, TX5, 3), rfl, by decide +kernel, by decide +kernel⟩
theorem pl_1 : PLk "PillowBarge$Voyage" 19 194 := ⟨fl_7, (RX5, TX5, 3), rfl, by decide +kernel, by decide +kernel⟩
theorem pl_2 : PLk "PillowBarge$Voyage" 9 197 := ⟨fl_8, (RX5, TX5, 3), rfl, by decide +kernel, by decide +kernel⟩
theorem pl_3 : PLk "PillowBarge$Tally" 7 256 := ⟨fl_9, (RX4, TX4, 5), rfl, by decide +kernel, by decide +kernel⟩
theorem pl_4 : PLk "PillowBarge$Tally" 13 258 := ⟨fl_10, (RX4, TX4, 5), rfl, by decide +kernel, by decide +kernel⟩
theorem pl_5 : PLk "PillowBarge$Tally" 16 260 := ⟨fl_11, (RX4, TX4, 5), rfl, by decide +kernel, by decide +kernel⟩
theorem pl_6 : PLk "PillowBarge$Tally" 19 262 := ⟨fl_12, (RX4, TX4, 5), rfl, by decide +kernel, by decide +kernel⟩
theorem pl_7 : PLk "PillowBarge$Tally" 22 264 := ⟨fl_13, (RX4, TX4, 5), rfl, by decide +kernel, by decide +kernel⟩
theorem pl_8 : PLk "PillowBarge$State" 32 70 := ⟨fl_17, (RX3, TX3, 4), rfl, by decide +kernel, by decide +kernel⟩
theorem pl_9 : PLk "PillowBarge$History" 18 322 := ⟨fl_18, (RX1, TX1, 3), rfl, by decide +kernel, by decide +kernel⟩
theorem pl_10 : PLk "PillowBarge$History" 36 324 := ⟨fl_19, (RX1, TX1, 3), rfl, by decide +kernel, by decide +kernel⟩
theorem pl_11 : PLk "PillowBarge$Script" 22 390 := ⟨fl_20, (RX2, TX2, 6), rfl, by decide +kernel, by decide +kernel⟩
theorem pl_12 : PLk "PillowBarge$Script" 26 394 := ⟨fl_24, (RX2, TX2, 6), rfl, by decide +kernel, by decide +kernel⟩
theorem pl_13 : PLk "PillowBarge$Script" 29 392 := ⟨fl_25, (RX2, TX2, 6), rfl, by decide +kernel, by decide +kernel⟩
theorem pl_14 : PLk "PillowBarge$State" 142 256 := ⟨fl_28, (RX4, TX4, 5), rfl, by decide +kernel, by decide +kernel⟩
theorem pl_15 : PLk "PillowBarge$State" 152 258 := ⟨fl_29, (RX4, TX4, 5), rfl, by decide +kernel, by decide +kernel⟩
theorem pl_16 : PLk "PillowBarge$State" 155 260 := ⟨fl_30, (RX4, TX4, 5), rfl, by decide +kernel, by decide +kernel⟩
theorem pl_17 : PLk "PillowBarge$State" 161 262 := ⟨fl_31, (RX4, TX4, 5), rfl, by decide +kernel, by decide +kernel⟩
theorem pl_18 : PLk "PillowBarge$State" 164 264 := ⟨fl_32, (RX4, TX4, 5), rfl, by decide +kernel, by decide +kernel⟩
theorem pl_19 : PLk "PillowBarge" 33 10 := ⟨fl_54, (RX6, TX6, 9), rfl, by decide +kernel, by decide +kernel⟩
theorem pl_20 : PLk "PillowBarge" 37 12 := ⟨fl_55, (RX6, TX6, 9), rfl, by decide +kernel, by decide +kernel⟩
theorem pl_21 : PLk "PillowBarge" 335 7 := ⟨fl_58, (RX6, TX6, 9), rfl, by decide +kernel, by decide +kernel⟩
theorem pl_22 : PLk "PillowBargeModel" 1 448 := ⟨fl_59, (RX7, TX7, 18), rfl, by decide +kernel, by decide +kernel⟩
theorem pl_23 : PLk "PillowBargeModel" 45 460 := ⟨fl_63, (RX7, TX7, 18), rfl, by decide +kernel, by decide +kernel⟩
theorem pl_24 : PLk "PillowBargeModel" 42 458 := ⟨fl_62, (RX7, TX7, 18), rfl, by decide +kernel, by decide +kernel⟩
theorem pl_25 : PLk "PillowBargeModel" 185 466 := ⟨fl_66, (RX7, TX7, 18), rfl, by decide +kernel, by decide +kernel⟩
theorem pl_26 : PLk "PillowBargeModel" 194 470 := ⟨fl_67, (RX7, TX7, 18), rfl, by decide +kernel, by decide +kernel⟩
theorem pl_27 : PLk "PillowBargeModel" 197 472 := ⟨fl_69, (RX7, TX7, 18), rfl, by decide +kernel, by decide +kernel⟩
theorem pl_28 : PLk "PillowBargeModel" 212 480 := ⟨fl_71, (RX7, TX7, 18), rfl, by decide +kernel, by decide +kernel⟩
theorem pl_29 : PLk "PillowBargeModel" 228 482 := ⟨fl_72, (RX7, TX7, 18), rfl, by decide +kernel, by decide +kernel⟩
theorem pl_30 : PLk "PillowBargeModel" 33 474 := ⟨fl_73, (RX7, TX7, 18), rfl, by decide +kernel, by decide +kernel⟩
theorem pl_31 : PLk "PillowBargeModel" 36 476 := ⟨fl_74, (RX7, TX7, 18), rfl, by decide +kernel, by decide +kernel⟩
theorem pl_32 : PLk "PillowBargeModel" 246 463 := ⟨fl_76, (RX7, TX7, 18), rfl, by decide +kernel, by decide +kernel⟩
theorem PT_ok : ∀ q ∈ PT_, PLk q.1 q.2.1 q.2.2 := (List.forall_mem_cons.mpr ⟨pl_0, (List.forall_mem_cons.mpr ⟨pl_1, (List.forall_mem_cons.mpr ⟨pl_2, (List.forall_mem_cons.mpr ⟨pl_3, (List.forall_mem_cons.mpr ⟨pl_4, (List.forall_mem_cons.mpr ⟨pl_5, (List.forall_mem_cons.mpr ⟨pl_6, (List.forall_mem_cons.mpr ⟨pl_7, (List.forall_mem_cons.mpr ⟨pl_8, (List.forall_mem_cons.mpr ⟨pl_9, (List.forall_mem_cons.mpr ⟨pl_10, (List.forall_mem_cons.mpr ⟨pl_11, (List.forall_mem_cons.mpr ⟨pl_12, (List.forall_mem_cons.mpr ⟨pl_13, (List.forall_mem_cons.mpr ⟨pl_14, (List.forall_mem_cons.mpr ⟨pl_15, (List.forall_mem_cons.mpr ⟨pl_16, (List.forall_mem_cons.mpr ⟨pl_17, (List.forall_mem_cons.mpr ⟨pl_18, (List.forall_mem_cons.mpr ⟨pl_19, (List.forall_mem_cons.mpr ⟨pl_20, (List.forall_mem_cons.mpr ⟨pl_21, (List.forall_mem_cons.mpr ⟨pl_22, (List.forall_mem_cons.mpr ⟨pl_23, (List.forall_mem_cons.mpr ⟨pl_24, (List.forall_mem_cons.mpr ⟨pl_25, (List.forall_mem_cons.mpr ⟨pl_26, (List.forall_mem_cons.mpr ⟨pl_27, (List.forall_mem_cons.mpr ⟨pl_28, (List.forall_mem_cons.mpr ⟨pl_29, (List.forall_mem_cons.mpr ⟨pl_30, (List.forall_mem_cons.mpr ⟨pl_31, (List.forall_mem_cons.mpr ⟨pl_32, (fun _ h => nomatch h)⟩)⟩)⟩)⟩)⟩)⟩)⟩)⟩)⟩)⟩)⟩)⟩)⟩)⟩)⟩)⟩)⟩)⟩)⟩)⟩)⟩)⟩)⟩)⟩)⟩)⟩)⟩)⟩)⟩)⟩)⟩)⟩)⟩)
def NT_ : List (String × Nat × Nat × Nat) := [("PillowBarge", 72, 1, 74), ("PillowBarge", 75, 2, 77), ("PillowBarge", 78, 3, 80), ("PillowBarge", 81, 4, 83), ("PillowBarge", 84, 5, 86), ("PillowBarge", 263, 6, 265)]
theorem nt_of {own : String} {ik ic ex : Nat} (h : (Cond.classLink own ik (exN ex) :: Cond.initialized (exN ex) :: vx_at0 own ic (exN ex) ["java/lang/RuntimeException", "java/lang/Exception"]).all (fun w => decide (w ∈ lw_tbl) && ((goodWord w || nw_is w) && vx_ot w)) = true) : ∀ w ∈ Cond.classLink own ik (exN ex) :: Cond.initialized (exN ex) :: vx_at0 own ic (exN ex) ["java/lang/RuntimeException", "java/lang/Exception"], (w ∈ lw_all ∨ w ∈ nw_all) ∧ vx_ot w = true := by
  intro w hw
  have h1 := List.all_eq_true.mp h w hw
  rw [Bool.and_eq_true, Bool.and_eq_true, Bool.or_eq_true] at h1
  have h2 := of_decide_eq_true h1.1
  exact ⟨h1.2.1.elim (fun g => Or.inl (List.mem_filter.mpr ⟨List.mem_append_left _ h2, g⟩)) (fun g => Or.inr (List.mem_filter.mpr ⟨h2, g⟩)), h1.2.2⟩
theorem nt_0 : ∀ w ∈ Cond.classLink "PillowBarge" 72 (exN 1) :: Cond.initialized (exN 1) :: vx_at0 "PillowBarge" 74 (exN 1) ["java/lang/RuntimeException", "java/lang/Exception"], (w ∈ lw_all ∨ w ∈ nw_all) ∧ vx_ot w = true := nt_of (by decide +kernel)
theorem nt_1 : ∀ w ∈ Cond.classLink "PillowBarge" 75 (exN 2) :: Cond.initialized (exN 2) :: vx_at0 "PillowBarge" 77 (exN 2) ["java/lang/RuntimeException", "java/lang/Exception"], (w ∈ lw_all ∨ w ∈ nw_all) ∧ vx_ot w = true := nt_of (by decide +kernel)
theorem nt_2 : ∀ w ∈ Cond.classLink "PillowBarge" 78 (exN 3) :: Cond.initialized (exN 3) :: vx_at0 "PillowBarge" 80 (exN 3) ["java/lang/RuntimeException", "java/lang/Exception"], (w ∈ lw_all ∨ w ∈ nw_all) ∧ vx_ot w = true := nt_of (by decide +kernel)
theorem nt_3 : ∀ w ∈ Cond.classLink "PillowBarge" 81 (exN 4) :: Cond.initialized (exN 4) :: vx_at0 "PillowBarge" 83 (exN 4) ["java/lang/RuntimeException", "java/lang/Exception"], (w ∈ lw_all ∨ w ∈ nw_all) ∧ vx_ot w = true := nt_of (by decide +kernel)
theorem nt_4 : ∀ w ∈ Cond.classLink "PillowBarge" 84 (exN 5) :: Cond.initialized (exN 5) :: vx_at0 "PillowBarge" 86 (exN 5) ["java/lang/RuntimeException", "java/lang/Exception"], (w ∈ lw_all ∨ w ∈ nw_all) ∧ vx_ot w = true := nt_of (by decide +kernel)
theorem nt_5 : ∀ w ∈ Cond.classLink "PillowBarge" 263 (exN 6) :: Cond.initialized (exN 6) :: vx_at0 "PillowBarge" 265 (exN 6) ["java/lang/RuntimeException", "java/lang/Exception"], (w ∈ lw_all ∨ w ∈ nw_all) ∧ vx_ot w = true := nt_of (by decide +kernel)
theorem NT_ok : ∀ q ∈ NT_, ∀ w ∈ Cond.classLink q.1 q.2.1 (exN q.2.2.1) :: Cond.initialized (exN q.2.2.1) :: vx_at0 q.1 q.2.2.2 (exN q.2.2.1) ["java/lang/RuntimeException", "java/lang/Exception"], (w ∈ lw_all ∨ w ∈ nw_all) ∧ vx_ot w = true := (List.forall_mem_cons.mpr ⟨nt_0, (List.forall_mem_cons.mpr ⟨nt_1, (List.forall_mem_cons.mpr ⟨nt_2, (List.forall_mem_cons.mpr ⟨nt_3, (List.forall_mem_cons.mpr ⟨nt_4, (List.forall_mem_cons.mpr ⟨nt_5, (fun _ h => nomatch h)⟩)⟩)⟩)⟩)⟩)⟩)
def CT_ : List (String × Nat) := [("PillowBarge", 155), ("PillowBargeModel", 159)]
theorem CT_ok : ∀ q ∈ CT_, Cond.constantFloat q.1 q.2 1110704128 ∈ lw_all := (List.forall_mem_cons.mpr ⟨all_at 684 (by decide +kernel) rfl, (List.forall_mem_cons.mpr ⟨all_at 1817 (by decide +kernel) rfl, (fun _ h => nomatch h)⟩)⟩)
end
section
/-! Every method as a function (printed by gen/emit.py from the class files). -/
def D_abs (x : Int32) (G : GS) : Res := okI (if x < 0 then -x else x) G
def D_max (x y : Int32) (G : GS) : Res := okI (if x < y then y else x) G
def D_min (x y : Int32) (G : GS) : Res := okI (if y < x then y else x) G
def D_fmod (x y : Int32) (G : GS) : Res := if y = 0 then none else okI (if x ^^^ y < 0 ∧ ¬ x - x / y * y = 0 then x - x / y * y + y else x - x / y * y) G
/-- whole int arrays alone: from their beginning -/
def D_acopy (a : Rf) (p : Int32) (b : Rf) (q n : Int32) (G : GS) : Res := match kd a.2, kd b.2 with
  | some (.inr (0, m1)), some (.inr (0, m2)) => if p = 0 ∧ q = 0 ∧ ¬ n < 0 ∧ n.toNatClampNeg ≤ m1 ∧ n.toNatClampNeg ≤ m2 then okV (G.1, (fun r i => if r = b then (if i < n.toNatClampNeg then ga G a i else ga G b i) else G.2.1 r i), G.2.2) else none
  | _, _ => none
def D_slen (k : Nat) (G : GS) : Res := if k < 7 then okI (Int32.ofNat (jS.getD k []).length) G else none
def D_sat (k : Nat) (i : Int32) (G : GS) : Res := if k < 7 then (bif inb i (jS.getD k []).length then okI ((jS.getD k []).getD i.toNatClampNeg 0) G else none) else none
/-- the text: at most 48 letters -/
def D_bapc (c : Int32) (G : GS) : Res := if ¬ c < 0 ∧ c < 128 ∧ gn G < 48 then okR (0, 16) (st_ G (gn G + 1) (fun i => if i = gn G then c else gt G i)) else none
def D_bapi (v : Int32) (G : GS) : Res := if -1000 < v ∧ v < 1000 ∧ gn G < 44 then okR (0, 16) (st_ G (gn G + (dg_ v).length) (fun i => if i < gn G then gt G i else (dg_ v).getD (i - gn G) 0)) else none
def D_blen (G : GS) : Res := okI (Int32.ofNat (gn G)) G
def D_bset (n : Int32) (G : GS) : Res := if n = 0 then okV (st_ G 0 (gt G)) else none
def D_bat (i : Int32) (G : GS) : Res := bif inb i (gn G) then okI (gt G i.toNatClampNeg) G else none
def D_Cargo_copyFrom (kk : Nat) (j : Nat) (a0 : Nat) (G : GS) : Res :=
  (D_acopy (a0, 5) (0 : Int32) (j, 5) (0 : Int32) (7 : Int32) G).bind (fun r => oV r (fun G1 =>
  (D_acopy (a0, 6) (0 : Int32) (j, 6) (0 : Int32) (35 : Int32) G1).bind (fun r => oV r (fun G4 =>
  (D_acopy (a0, 7) (0 : Int32) (j, 7) (0 : Int32) (35 : Int32) G4).bind (fun r => oV r (fun G7 =>
  (D_acopy (a0, 8) (0 : Int32) (j, 8) (0 : Int32) (35 : Int32) G7).bind (fun r => oV r (fun G10 =>
  (D_acopy (a0, 9) (0 : Int32) (j, 9) (0 : Int32) (35 : Int32) G10).bind (fun r => oV r (fun G13 =>
  okV G13) exc)) exc)) exc)) exc)) exc)
def D_PB_isBay (kk : Nat) (a0 : Int32) (G : GS) : Res :=
  if a0 < 0 then
    okI (0 : Int32) G
  else
    if (7 : Int32) ≤ a0 then
      okI (0 : Int32) G
    else
      okI (1 : Int32) G
def D_Cargo_heightOf (kk : Nat) (j : Nat) (a0 : Int32) (G : GS) : Res :=
  (D_PB_isBay kk a0 G).bind (fun r => oI r (fun v4 G1 =>
  if v4 = 0 then
    okI (0 : Int32) G1
  else
    bif inb a0 7 then
    okI (ga G1 (j, 5) a0.toNatClampNeg) G1
    else none) exc)
def D_Cargo_isTaken (kk : Nat) (j : Nat) (a0 : Int32) (G : GS) : Res :=
  if a0 < 0 then
    okI (0 : Int32) G
  else
    if (35 : Int32) ≤ a0 then
      okI (0 : Int32) G
    else
      bif inb (a0 / (5 : Int32)) 7 then
      if (ga G (j, 5) (a0 / (5 : Int32)).toNatClampNeg) ≤ (a0 - a0 / (5 : Int32) * (5 : Int32)) then
        okI (0 : Int32) G
      else
        okI (1 : Int32) G
      else none
def D_Cargo_slotAt (kk : Nat) (j : Nat) (a0 : Int32) (a1 : Int32) (G : GS) : Res :=
  (D_PB_isBay kk a0 G).bind (fun r => oI r (fun v4 G1 =>
  if v4 = 0 then
    okI (-1 : Int32) G1
  else
    if a1 < 0 then
      okI (-1 : Int32) G1
    else
      if a1 < (5 : Int32) then
        (D_Cargo_isTaken kk j ((a0 * (5 : Int32)) + a1) G1).bind (fun r => oI r (fun v8 G5 =>
        if v8 = 0 then
          okI (-1 : Int32) G5
        else
          okI ((a0 * (5 : Int32)) + a1) G5) exc)
      else
        okI (-1 : Int32) G1) exc)
def D_Cargo_topSlot (kk : Nat) (j : Nat) (a0 : Int32) (G : GS) : Res :=
  (D_Cargo_heightOf kk j a0 G).bind (fun r => oI r (fun v4 G1 =>
  (D_Cargo_slotAt kk j a0 (v4 - (1 : Int32)) G1).bind (fun r => oI r (fun v8 G5 =>
  okI v8 G5) exc)) exc)
def L_Cargo_slotOf (kk : Nat) : Nat → Nat → Int32 → Int32 → GS → Res
  | 0 => fun _ _ _ _ => none
  | k + 1 => fun x0 x1 x2 G =>
    if (35 : Int32) ≤ x2 then
      okI (-1 : Int32) G
    else
      (D_Cargo_isTaken kk x0 x2 G).bind (fun r => oI r (fun v4 G1 =>
      if v4 = 0 then
        (L_Cargo_slotOf kk k) x0 x1 (x2 + (1 : Int32)) G1
      else
        bif inb x2 35 then
        if (ga G1 (x0, 6) x2.toNatClampNeg) = x1 then
          okI x2 G1
        else
          (L_Cargo_slotOf kk k) x0 x1 (x2 + (1 : Int32)) G1
        else none) exc)
def D_Cargo_slotOf (kk : Nat) (j : Nat) (a0 : Int32) (G : GS) : Res :=
  (L_Cargo_slotOf kk kk) j a0 (0 : Int32) G
def D_PB_isSlot (kk : Nat) (a0 : Int32) (G : GS) : Res :=
  if a0 < 0 then
    okI (0 : Int32) G
  else
    if (35 : Int32) ≤ a0 then
      okI (0 : Int32) G
    else
      okI (1 : Int32) G
def D_Cargo_numberIn (kk : Nat) (j : Nat) (a0 : Int32) (G : GS) : Res :=
  (D_PB_isSlot kk a0 G).bind (fun r => oI r (fun v4 G1 =>
  if v4 = 0 then
    okI (0 : Int32) G1
  else
    bif inb a0 35 then
    okI (ga G1 (j, 6) a0.toNatClampNeg) G1
    else none) exc)
def D_Cargo_weightIn (kk : Nat) (j : Nat) (a0 : Int32) (G : GS) : Res :=
  (D_PB_isSlot kk a0 G).bind (fun r => oI r (fun v4 G1 =>
  if v4 = 0 then
    okI (0 : Int32) G1
  else
    bif inb a0 35 then
    okI (ga G1 (j, 7) a0.toNatClampNeg) G1
    else none) exc)
def D_Cargo_destinationIn (kk : Nat) (j : Nat) (a0 : Int32) (G : GS) : Res :=
  (D_PB_isSlot kk a0 G).bind (fun r => oI r (fun v4 G1 =>
  if v4 = 0 then
    okI (0 : Int32) G1
  else
    bif inb a0 35 then
    okI (ga G1 (j, 8) a0.toNatClampNeg) G1
    else none) exc)
def D_Cargo_dayIn (kk : Nat) (j : Nat) (a0 : Int32) (G : GS) : Res :=
  (D_PB_isSlot kk a0 G).bind (fun r => oI r (fun v4 G1 =>
  if v4 = 0 then
    okI (0 : Int32) G1
  else
    bif inb a0 35 then
    okI (ga G1 (j, 9) a0.toNatClampNeg) G1
    else none) exc)
def L_Cargo_countPillows (kk : Nat) : Nat → Nat → Int32 → Int32 → GS → Res
  | 0 => fun _ _ _ _ => none
  | k + 1 => fun x0 x1 x2 G =>
    if (7 : Int32) ≤ x2 then
      okI x1 G
    else
      bif inb x2 7 then
      (L_Cargo_countPillows kk k) x0 (x1 + (ga G (x0, 5) x2.toNatClampNeg)) (x2 + (1 : Int32)) G
      else none
def D_Cargo_countPillows (kk : Nat) (j : Nat) (G : GS) : Res :=
  (L_Cargo_countPillows kk kk) j (0 : Int32) (0 : Int32) G
def L_Cargo_weightOfAll (kk : Nat) : Nat → Nat → Int32 → Int32 → GS → Res
  | 0 => fun _ _ _ _ => none
  | k + 1 => fun x0 x1 x2 G =>
    if (35 : Int32) ≤ x2 then
      okI x1 G
    else
      (D_Cargo_isTaken kk x0 x2 G).bind (fun r => oI r (fun v4 G1 =>
      if v4 = 0 then
        (L_Cargo_weightOfAll kk k) x0 x1 (x2 + (1 : Int32)) G1
      else
        bif inb x2 35 then
        (L_Cargo_weightOfAll kk k) x0 (x1 + (ga G1 (x0, 7) x2.toNatClampNeg)) (x2 + (1 : Int32)) G1
        else none) exc)
def D_Cargo_weightOfAll (kk : Nat) (j : Nat) (G : GS) : Res :=
  (L_Cargo_weightOfAll kk kk) j (0 : Int32) (0 : Int32) G
def L_Cargo_weightForPort (kk : Nat) : Nat → Nat → Int32 → Int32 → Int32 → GS → Res
  | 0 => fun _ _ _ _ _ => none
  | k + 1 => fun x0 x1 x2 x3 G =>
    if (35 : Int32) ≤ x3 then
      okI x2 G
    else
      (D_Cargo_isTaken kk x0 x3 G).bind (fun r => oI r (fun v4 G1 =>
      if v4 = 0 then
        (L_Cargo_weightForPort kk k) x0 x1 x2 (x3 + (1 : Int32)) G1
      else
        bif inb x3 35 then
        if (ga G1 (x0, 8) x3.toNatClampNeg) = x1 then
          bif inb x3 35 then
          (L_Cargo_weightForPort kk k) x0 x1 (x2 + (ga G1 (x0, 7) x3.toNatClampNeg)) (x3 + (1 : Int32)) G1
          else none
        else
          (L_Cargo_weightForPort kk k) x0 x1 x2 (x3 + (1 : Int32)) G1
        else none) exc)
def D_Cargo_weightForPort (kk : Nat) (j : Nat) (a0 : Int32) (G : GS) : Res :=
  (L_Cargo_weightForPort kk kk) j a0 (0 : Int32) (0 : Int32) G
def L_Cargo_weightOfBay (kk : Nat) : Nat → Nat → Int32 → Int32 → Int32 → GS → Res
  | 0 => fun _ _ _ _ _ => none
  | k + 1 => fun x0 x1 x2 x3 G =>
    if (5 : Int32) ≤ x3 then
      okI x2 G
    else
      (D_Cargo_slotAt kk x0 x1 x3 G).bind (fun r => oI r (fun v4 G1 =>
      (D_PB_isSlot kk v4 G1).bind (fun r => oI r (fun v8 G5 =>
      if v8 = 0 then
        (L_Cargo_weightOfBay kk k) x0 x1 x2 (x3 + (1 : Int32)) G5
      else
        bif inb v4 35 then
        (L_Cargo_weightOfBay kk k) x0 x1 (x2 + (ga G5 (x0, 7) v4.toNatClampNeg)) (x3 + (1 : Int32)) G5
        else none) exc)) exc)
def D_Cargo_weightOfBay (kk : Nat) (j : Nat) (a0 : Int32) (G : GS) : Res :=
  (L_Cargo_weightOfBay kk kk) j a0 (0 : Int32) (0 : Int32) G
def D_PB_leverArm (kk : Nat) (a0 : Int32) (G : GS) : Res :=
  okI (a0 - (3 : Int32)) G
def L_Cargo_momentOfPillows (kk : Nat) : Nat → Nat → Int32 → Int32 → GS → Res
  | 0 => fun _ _ _ _ => none
  | k + 1 => fun x0 x1 x2 G =>
    if (35 : Int32) ≤ x2 then
      okI x1 G
    else
      (D_Cargo_isTaken kk x0 x2 G).bind (fun r => oI r (fun v4 G1 =>
      if v4 = 0 then
        (L_Cargo_momentOfPillows kk k) x0 x1 (x2 + (1 : Int32)) G1
      else
        bif inb x2 35 then
        (D_PB_leverArm kk (x2 / (5 : Int32)) G1).bind (fun r => oI r (fun v8 G5 =>
        (L_Cargo_momentOfPillows kk k) x0 (x1 + ((ga G1 (x0, 7) x2.toNatClampNeg) * v8)) (x2 + (1 : Int32)) G5) exc)
        else none) exc)
def D_Cargo_momentOfPillows (kk : Nat) (j : Nat) (G : GS) : Res :=
  (L_Cargo_momentOfPillows kk kk) j (0 : Int32) (0 : Int32) G
def L_Cargo_momentOfBays (kk : Nat) : Nat → Nat → Int32 → Int32 → GS → Res
  | 0 => fun _ _ _ _ => none
  | k + 1 => fun x0 x1 x2 G =>
    if (7 : Int32) ≤ x2 then
      okI x1 G
    else
      (D_Cargo_weightOfBay kk x0 x2 G).bind (fun r => oI r (fun v4 G1 =>
      (D_PB_leverArm kk x2 G1).bind (fun r => oI r (fun v8 G5 =>
      (L_Cargo_momentOfBays kk k) x0 (x1 + (v4 * v8)) (x2 + (1 : Int32)) G5) exc)) exc)
def D_Cargo_momentOfBays (kk : Nat) (j : Nat) (G : GS) : Res :=
  (L_Cargo_momentOfBays kk kk) j (0 : Int32) (0 : Int32) G
def D_Cargo_put (kk : Nat) (j : Nat) (a0 : Int32) (a1 : Int32) (a2 : Int32) (a3 : Int32) (a4 : Int32) (G : GS) : Res :=
  (D_Cargo_heightOf kk j a0 G).bind (fun r => oI r (fun v4 G1 =>
  (D_PB_isBay kk a0 G1).bind (fun r => oI r (fun v8 G5 =>
  if v8 = 0 then
    okV G5
  else
    if (5 : Int32) ≤ v4 then
      okV G5
    else
      (D_PB_isSlot kk ((a0 * (5 : Int32)) + v4) G5).bind (fun r => oI r (fun v12 G9 =>
      if v12 = 0 then
        okV G9
      else
        bif inb ((a0 * (5 : Int32)) + v4) 35 then
        bif inb ((a0 * (5 : Int32)) + v4) 35 then
        bif inb ((a0 * (5 : Int32)) + v4) 35 then
        bif inb ((a0 * (5 : Int32)) + v4) 35 then
        bif inb a0 7 then
        okV (sa (sa (sa (sa (sa G9 (j, 6) ((a0 * (5 : Int32)) + v4).toNatClampNeg a1) (j, 7) ((a0 * (5 : Int32)) + v4).toNatClampNeg a2) (j, 8) ((a0 * (5 : Int32)) + v4).toNatClampNeg a3) (j, 9) ((a0 * (5 : Int32)) + v4).toNatClampNeg a4) (j, 5) a0.toNatClampNeg (v4 + (1 : Int32)))
        else none
        else none
        else none
        else none
        else none) exc)) exc)) exc)
def D_Cargo_removeTop (kk : Nat) (j : Nat) (a0 : Int32) (G : GS) : Res :=
  (D_PB_isBay kk a0 G).bind (fun r => oI r (fun v4 G1 =>
  if v4 = 0 then
    okV G1
  else
    bif inb a0 7 then
    if (ga G1 (j, 5) a0.toNatClampNeg) ≤ 0 then
      okV G1
    else
      bif inb a0 7 then
      bif inb a0 7 then
      okV (sa G1 (j, 5) a0.toNatClampNeg ((ga G1 (j, 5) a0.toNatClampNeg) - (1 : Int32)))
      else none
      else none
    else none) exc)
def D_History_placeAt (kk : Nat) (a0 : Int32) (G : GS) : Res :=
  if a0 < 0 then
    okN G
  else
    if (9 : Int32) ≤ a0 then
      okN G
    else
      bif inb a0 9 then
      okR ((a0.toNatClampNeg + 2), 1) G
      else none
def D_Voyage_copyFrom (kk : Nat) (j : Nat) (a0 : Nat) (G : GS) : Res :=
  if (gi (si (si G (j, 3) 0 (gi G (a0, 3) 0)) (j, 3) 1 (gi (si G (j, 3) 0 (gi G (a0, 3) 0)) (a0, 3) 1)) (a0, 3) 2) = 0 ∨ (gi (si (si G (j, 3) 0 (gi G (a0, 3) 0)) (j, 3) 1 (gi (si G (j, 3) 0 (gi G (a0, 3) 0)) (a0, 3) 1)) (a0, 3) 2) = 1 then
  okV (si (si (si G (j, 3) 0 (gi G (a0, 3) 0)) (j, 3) 1 (gi (si G (j, 3) 0 (gi G (a0, 3) 0)) (a0, 3) 1)) (j, 3) 2 (gi (si (si G (j, 3) 0 (gi G (a0, 3) 0)) (j, 3) 1 (gi (si G (j, 3) 0 (gi G (a0, 3) 0)) (a0, 3) 1)) (a0, 3) 2))
  else none
def D_Tally_copyFrom (kk : Nat) (j : Nat) (a0 : Nat) (G : GS) : Res :=
  okV (si (si (si (si (si G (j, 4) 0 (gi G (a0, 4) 0)) (j, 4) 1 (gi (si G (j, 4) 0 (gi G (a0, 4) 0)) (a0, 4) 1)) (j, 4) 2 (gi (si (si G (j, 4) 0 (gi G (a0, 4) 0)) (j, 4) 1 (gi (si G (j, 4) 0 (gi G (a0, 4) 0)) (a0, 4) 1)) (a0, 4) 2)) (j, 4) 3 (gi (si (si (si G (j, 4) 0 (gi G (a0, 4) 0)) (j, 4) 1 (gi (si G (j, 4) 0 (gi G (a0, 4) 0)) (a0, 4) 1)) (j, 4) 2 (gi (si (si G (j, 4) 0 (gi G (a0, 4) 0)) (j, 4) 1 (gi (si G (j, 4) 0 (gi G (a0, 4) 0)) (a0, 4) 1)) (a0, 4) 2)) (a0, 4) 3)) (j, 4) 4 (gi (si (si (si (si G (j, 4) 0 (gi G (a0, 4) 0)) (j, 4) 1 (gi (si G (j, 4) 0 (gi G (a0, 4) 0)) (a0, 4) 1)) (j, 4) 2 (gi (si (si G (j, 4) 0 (gi G (a0, 4) 0)) (j, 4) 1 (gi (si G (j, 4) 0 (gi G (a0, 4) 0)) (a0, 4) 1)) (a0, 4) 2)) (j, 4) 3 (gi (si (si (si G (j, 4) 0 (gi G (a0, 4) 0)) (j, 4) 1 (gi (si G (j, 4) 0 (gi G (a0, 4) 0)) (a0, 4) 1)) (j, 4) 2 (gi (si (si G (j, 4) 0 (gi G (a0, 4) 0)) (j, 4) 1 (gi (si G (j, 4) 0 (gi G (a0, 4) 0)) (a0, 4) 1)) (a0, 4) 2)) (a0, 4) 3)) (a0, 4) 4))
def D_State_copyFrom (kk : Nat) (j : Nat) (a0 : Nat) (G : GS) : Res :=
  (D_Cargo_copyFrom kk j a0 G).bind (fun r => oV r (fun G1 =>
  (D_Voyage_copyFrom kk j a0 G1).bind (fun r => oV r (fun G4 =>
  (D_Tally_copyFrom kk j a0 G4).bind (fun r => oV r (fun G7 =>
  okV (si G7 (j, 1) 3 (gi G7 (a0, 1) 3))) exc)) exc)) exc)
def D_History_draft (kk : Nat) (a0 : Nat) (G : GS) : Res :=
  (D_History_placeAt kk (gi G (0, 10) 1) G).bind (fun r => oQ 1 r (fun G1 =>
    okV G1) (fun q4 G1 =>
    (D_State_copyFrom kk q4 a0 G1).bind (fun r => oV r (fun G5 =>
    okV G5) exc)) exc)
def D_History_keepDraft (kk : Nat) (G : GS) : Res :=
  (D_fmod ((gi G (0, 10) 1) + (1 : Int32)) (9 : Int32) G).bind (fun r => oI r (fun v4 G1 =>
  (D_min ((gi (si G1 (0, 10) 1 v4) (0, 10) 2) + (1 : Int32)) (8 : Int32) (si G1 (0, 10) 1 v4)).bind (fun r => oI r (fun v8 G5 =>
  okV (si G5 (0, 10) 2 v8)) exc)) exc)
def D_History_takeDraftBack (kk : Nat) (a0 : Nat) (G : GS) : Res :=
  (D_History_placeAt kk (gi G (0, 10) 1) G).bind (fun r => oQ 1 r (fun G1 =>
    okV G1) (fun q4 G1 =>
    (D_State_copyFrom kk a0 q4 G1).bind (fun r => oV r (fun G5 =>
    okV G5) exc)) exc)
def D_History_takeLatestBack (kk : Nat) (a0 : Nat) (G : GS) : Res :=
  (D_fmod ((gi G (0, 10) 1) - (1 : Int32)) (9 : Int32) G).bind (fun r => oI r (fun v4 G1 =>
  (D_History_takeDraftBack kk a0 (si (si G1 (0, 10) 1 v4) (0, 10) 2 ((gi (si G1 (0, 10) 1 v4) (0, 10) 2) - (1 : Int32)))).bind (fun r => oV r (fun G5 =>
  okV G5) exc)) exc)
def D_History_forget (kk : Nat) (G : GS) : Res :=
  okV (si G (0, 10) 2 (0 : Int32))
def D_Script_isFull (kk : Nat) (G : GS) : Res :=
  if (gi G (0, 12) 3) < (60 : Int32) then
    okI (0 : Int32) G
  else
    okI (1 : Int32) G
def D_Script_append (kk : Nat) (a0 : Int32) (G : GS) : Res :=
  if (gi G (0, 12) 3) < 0 then
    okV G
  else
    if (60 : Int32) ≤ (gi G (0, 12) 3) then
      okV G
    else
      bif inb (gi G (0, 12) 3) 60 then
      okV (si (sa G (0, 13) (gi G (0, 12) 3).toNatClampNeg (vp_nar .char a0)) (0, 12) 3 ((gi (sa G (0, 13) (gi G (0, 12) 3).toNatClampNeg (vp_nar .char a0)) (0, 12) 3) + (1 : Int32)))
      else none
def D_Script_empty (kk : Nat) (G : GS) : Res :=
  okV (si G (0, 12) 3 (0 : Int32))
def D_Script_commandAt (kk : Nat) (a0 : Int32) (G : GS) : Res :=
  if a0 < 0 then
    okI (7 : Int32) G
  else
    if (15 : Int32) ≤ a0 then
      okI (7 : Int32) G
    else
      bif inb a0 15 then
      okI (ga G (0, 14) a0.toNatClampNeg) G
      else none
def D_Script_argumentAt (kk : Nat) (a0 : Int32) (a1 : Int32) (G : GS) : Res :=
  if ((a0 * (3 : Int32)) + a1) < 0 then
    okI (0 : Int32) G
  else
    if (45 : Int32) ≤ ((a0 * (3 : Int32)) + a1) then
      okI (0 : Int32) G
    else
      bif inb ((a0 * (3 : Int32)) + a1) 45 then
      okI (ga G (0, 15) ((a0 * (3 : Int32)) + a1).toNatClampNeg) G
      else none
def D_Script_keywordOf (kk : Nat) (a0 : Int32) (G : GS) : Res :=
  if a0 = (0 : Int32) then
    okR (0, 200) G
  else if a0 = (1 : Int32) then
    okR (1, 200) G
  else if a0 = (2 : Int32) then
    okR (2, 200) G
  else if a0 = (3 : Int32) then
    okR (3, 200) G
  else if a0 = (4 : Int32) then
    okR (4, 200) G
  else if a0 = (5 : Int32) then
    okR (5, 200) G
  else 
    okR (6, 200) G
def D_Script_isNext (kk : Nat) (a0 : Int32) (a1 : Int32) (G : GS) : Res :=
  if ((gi G (0, 12) 5) + a0) < 0 then
    okI (0 : Int32) G
  else
    if (gi G (0, 12) 3) ≤ ((gi G (0, 12) 5) + a0) then
      okI (0 : Int32) G
    else
      if (60 : Int32) ≤ ((gi G (0, 12) 5) + a0) then
        okI (0 : Int32) G
      else
        bif inb ((gi G (0, 12) 5) + a0) 60 then
        if (ga G (0, 13) ((gi G (0, 12) 5) + a0).toNatClampNeg) = a1 then
          okI (1 : Int32) G
        else
          okI (0 : Int32) G
        else none
def L_Script_countMatching (kk : Nat) : Nat → Nat → Int32 → GS → Res
  | 0 => fun _ _ _ => none
  | k + 1 => fun x1 x2 G =>
    (D_slen x1 G).bind (fun r => oI r (fun v4 G1 =>
    if v4 ≤ x2 then
      okI x2 G1
    else
      (D_sat x1 x2 G1).bind (fun r => oI r (fun v8 G5 =>
      (D_Script_isNext kk x2 v8 G5).bind (fun r => oI r (fun v12 G9 =>
      if v12 = 0 then
        okI x2 G9
      else
        (L_Script_countMatching kk k) x1 (x2 + (1 : Int32)) G9) exc)) exc)) exc)
def D_Script_countMatching (kk : Nat) (a0 : Nat) (G : GS) : Res :=
  (L_Script_countMatching kk kk) a0 (0 : Int32) G
def L_Script_readKeyword (kk : Nat) : Nat → Int32 → Int32 → GS → Res
  | 0 => fun _ _ _ => none
  | k + 1 => fun x1 x2 G =>
    if (7 : Int32) ≤ x2 then
      okI (7 : Int32) (si G (0, 12) 5 ((gi G (0, 12) 5) + x1))
    else
      (D_Script_keywordOf kk x2 G).bind (fun r => oR 200 r (fun q4 G1 =>
        (D_Script_countMatching kk q4 G1).bind (fun r => oI r (fun v8 G5 =>
        (D_slen q4 G5).bind (fun r => oI r (fun v12 G9 =>
        if v8 = v12 then
          okI x2 (si G9 (0, 12) 5 ((gi G9 (0, 12) 5) + v8))
        else
          (D_max x1 v8 G9).bind (fun r => oI r (fun v16 G13 =>
          (L_Script_readKeyword kk k) v16 (x2 + (1 : Int32)) G13) exc)) exc)) exc)) exc)
def D_Script_readKeyword (kk : Nat) (G : GS) : Res :=
  (L_Script_readKeyword kk kk) (0 : Int32) (0 : Int32) G
def D_Script_takeDigit (kk : Nat) (G : GS) : Res :=
  if (gi G (0, 12) 5) < 0 then
    okI (-1 : Int32) G
  else
    if (gi G (0, 12) 3) ≤ (gi G (0, 12) 5) then
      okI (-1 : Int32) G
    else
      if (gi G (0, 12) 5) < (60 : Int32) then
        bif inb (gi G (0, 12) 5) 60 then
        if (ga G (0, 13) (gi G (0, 12) 5).toNatClampNeg) < (48 : Int32) then
          okI (-1 : Int32) G
        else
          if (ga G (0, 13) (gi G (0, 12) 5).toNatClampNeg) ≤ (57 : Int32) then
            okI ((ga G (0, 13) (gi G (0, 12) 5).toNatClampNeg) - (48 : Int32)) (si G (0, 12) 5 ((gi G (0, 12) 5) + (1 : Int32)))
          else
            okI (-1 : Int32) G
        else none
      else
        okI (-1 : Int32) G
def D_Script_setArgument (kk : Nat) (a0 : Int32) (a1 : Int32) (G : GS) : Res :=
  if (((gi G (0, 12) 4) * (3 : Int32)) + a0) < 0 then
    okV G
  else
    if (45 : Int32) ≤ (((gi G (0, 12) 4) * (3 : Int32)) + a0) then
      okV G
    else
      bif inb (((gi G (0, 12) 4) * (3 : Int32)) + a0) 45 then
      okV (sa G (0, 15) (((gi G (0, 12) 4) * (3 : Int32)) + a0).toNatClampNeg a1)
      else none
def D_Script_readDigit (kk : Nat) (a0 : Int32) (G : GS) : Res :=
  (D_Script_takeDigit kk G).bind (fun r => oI r (fun v4 G1 =>
  (D_Script_setArgument kk a0 v4 G1).bind (fun r => oV r (fun G5 =>
  if v4 = (-1 : Int32) then
    okI (0 : Int32) G5
  else
    okI (1 : Int32) G5) exc)) exc)
def D_Script_accept (kk : Nat) (a0 : Int32) (G : GS) : Res :=
  (D_Script_isNext kk (0 : Int32) a0 G).bind (fun r => oI r (fun v4 G1 =>
  if v4 = 0 then
    if v4 = 0 ∨ v4 = 1 then okI v4 G1 else none
  else
    if v4 = 0 ∨ v4 = 1 then okI v4 (si G1 (0, 12) 5 ((gi G1 (0, 12) 5) + (1 : Int32))) else none) exc)
def D_Script_readNumber (kk : Nat) (a0 : Int32) (G : GS) : Res :=
  (D_Script_takeDigit kk G).bind (fun r => oI r (fun v4 G1 =>
  if v4 = (-1 : Int32) then
    okI (0 : Int32) G1
  else
    (D_Script_takeDigit kk G1).bind (fun r => oI r (fun v8 G5 =>
    if v8 = (-1 : Int32) then
      (D_Script_setArgument kk a0 v4 G5).bind (fun r => oV r (fun G12 =>
      okI (1 : Int32) G12) exc)
    else
      (D_Script_setArgument kk a0 ((v4 * (10 : Int32)) + v8) G5).bind (fun r => oV r (fun G9 =>
      okI (1 : Int32) G9) exc)) exc)) exc)
def D_Script_readSignedNumber (kk : Nat) (a0 : Int32) (G : GS) : Res :=
  (D_Script_accept kk (45 : Int32) G).bind (fun r => oI r (fun v4 G1 =>
  (D_Script_readNumber kk a0 G1).bind (fun r => oI r (fun v8 G5 =>
  if v8 = 0 then
    if v8 = 0 ∨ v8 = 1 then okI v8 G5 else none
  else
    if v4 = 0 then
      if v8 = 0 ∨ v8 = 1 then okI v8 G5 else none
    else
      (D_Script_argumentAt kk (gi G5 (0, 12) 4) a0 G5).bind (fun r => oI r (fun v12 G9 =>
      (D_Script_setArgument kk a0 (-v12) G9).bind (fun r => oV r (fun G13 =>
      if v8 = 0 ∨ v8 = 1 then okI v8 G13 else none) exc)) exc)) exc)) exc)
def L_Script_readCommand (kk : Nat) : Nat → Int32 → GS → Res
  | 0 => fun _ _ => none
  | k + 1 => fun x1 G =>
    if x1 = (0 : Int32) then
      (D_Script_readDigit kk (0 : Int32) G).bind (fun r => oI r (fun v8 G5 =>
      if v8 = 0 then
        okI (0 : Int32) G5
      else
        (D_Script_accept kk (32 : Int32) G5).bind (fun r => oI r (fun v12 G9 =>
        if v12 = 0 then
          okI (0 : Int32) G9
        else
          (D_Script_readNumber kk (1 : Int32) G9).bind (fun r => oI r (fun v16 G13 =>
          if v16 = 0 then
            okI (0 : Int32) G13
          else
            (D_Script_accept kk (32 : Int32) G13).bind (fun r => oI r (fun v20 G17 =>
            if v20 = 0 then
              okI (0 : Int32) G17
            else
              (D_Script_readDigit kk (2 : Int32) G17).bind (fun r => oI r (fun v24 G21 =>
              if v24 = 0 then
                okI (0 : Int32) G21
              else
                okI (1 : Int32) G21) exc)) exc)) exc)) exc)) exc)
    else if x1 = (1 : Int32) then
      (D_Script_readDigit kk (0 : Int32) G).bind (fun r => oI r (fun v28 G25 =>
      if v28 = 0 ∨ v28 = 1 then okI v28 G25 else none) exc)
    else if x1 = (2 : Int32) then
      (D_Script_readDigit kk (0 : Int32) G).bind (fun r => oI r (fun v32 G29 =>
      if v32 = 0 then
        okI (0 : Int32) G29
      else
        (D_Script_accept kk (32 : Int32) G29).bind (fun r => oI r (fun v36 G33 =>
        if v36 = 0 then
          okI (0 : Int32) G33
        else
          (D_Script_readDigit kk (1 : Int32) G33).bind (fun r => oI r (fun v40 G37 =>
          if v40 = 0 then
            okI (0 : Int32) G37
          else
            okI (1 : Int32) G37) exc)) exc)) exc)
    else if x1 = (3 : Int32) then
      (D_Script_setArgument kk (0 : Int32) (1 : Int32) G).bind (fun r => oV r (fun G41 =>
      (D_Script_accept kk (32 : Int32) G41).bind (fun r => oI r (fun v47 G44 =>
      if v47 = 0 then
        okI (1 : Int32) G44
      else
        (D_Script_readNumber kk (0 : Int32) G44).bind (fun r => oI r (fun v51 G48 =>
        if v51 = 0 then
          okI (0 : Int32) G48
        else
          okI (1 : Int32) G48) exc)) exc)) exc)
    else if x1 = (4 : Int32) then
      okI (1 : Int32) G
    else if x1 = (5 : Int32) then
      (D_Script_readNumber kk (0 : Int32) G).bind (fun r => oI r (fun v55 G52 =>
      if v55 = 0 ∨ v55 = 1 then okI v55 G52 else none) exc)
    else if x1 = (6 : Int32) then
      (D_Script_readSignedNumber kk (0 : Int32) G).bind (fun r => oI r (fun v59 G56 =>
      if v59 = 0 ∨ v59 = 1 then okI v59 G56 else none) exc)
    else 
      okI (0 : Int32) G
def D_Script_readCommand (kk : Nat) (G : GS) : Res :=
  (D_Script_readKeyword kk G).bind (fun r => oI r (fun v4 G1 =>
  if (gi G1 (0, 12) 4) < 0 then
    (L_Script_readCommand kk kk) v4 G1
  else
    if (15 : Int32) ≤ (gi G1 (0, 12) 4) then
      (L_Script_readCommand kk kk) v4 G1
    else
      bif inb (gi G1 (0, 12) 4) 15 then
      (L_Script_readCommand kk kk) v4 (sa G1 (0, 14) (gi G1 (0, 12) 4).toNatClampNeg v4)
      else none) exc)
def L_Script_parse (kk : Nat) : Nat → GS → Res
  | 0 => fun _ => none
  | k + 1 => fun G =>
    if (15 : Int32) ≤ (gi G (0, 12) 4) then
      okI (0 : Int32) G
    else
      (D_Script_readCommand kk G).bind (fun r => oI r (fun v4 G1 =>
      if v4 = 0 then
        okI (0 : Int32) G1
      else
        (D_Script_accept kk (59 : Int32) (si G1 (0, 12) 4 ((gi G1 (0, 12) 4) + (1 : Int32)))).bind (fun r => oI r (fun v8 G5 =>
        if v8 = 0 then
          if (gi G5 (0, 12) 5) = (gi G5 (0, 12) 3) then
            okI (1 : Int32) G5
          else
            okI (0 : Int32) G5
        else
          (L_Script_parse kk k) G5) exc)) exc)
def D_Script_parse (kk : Nat) (G : GS) : Res :=
  (L_Script_parse kk kk) (si (si G (0, 12) 5 (0 : Int32)) (0, 12) 4 (0 : Int32))
def D_State_isWithinLimit (kk : Nat) (j : Nat) (a0 : Int32) (G : GS) : Res :=
  (D_abs a0 G).bind (fun r => oI r (fun v4 G1 =>
  if (gi G1 (j, 1) 3) < v4 then
    okI (0 : Int32) G1
  else
    okI (1 : Int32) G1) exc)
def D_Voyage_countLegsTo (kk : Nat) (j : Nat) (a0 : Int32) (G : GS) : Res :=
  if (gi G (j, 3) 2) = 0 then
    (D_fmod ((gi G (j, 3) 0) - a0) (5 : Int32) G).bind (fun r => oI r (fun v4 G1 =>
    okI v4 G1) exc)
  else
    (D_fmod (a0 - (gi G (j, 3) 0)) (5 : Int32) G).bind (fun r => oI r (fun v8 G5 =>
    okI v8 G5) exc)
def D_State_legsIn (kk : Nat) (j : Nat) (a0 : Int32) (G : GS) : Res :=
  (D_Cargo_destinationIn kk j a0 G).bind (fun r => oI r (fun v4 G1 =>
  (D_Voyage_countLegsTo kk j v4 G1).bind (fun r => oI r (fun v8 G5 =>
  okI v8 G5) exc)) exc)
def D_State_ageIn (kk : Nat) (j : Nat) (a0 : Int32) (G : GS) : Res :=
  (D_Cargo_dayIn kk j a0 G).bind (fun r => oI r (fun v4 G1 =>
  okI ((gi G (j, 3) 1) - v4) G1) exc)
def D_PB_isWeight (kk : Nat) (a0 : Int32) (G : GS) : Res :=
  if a0 < (1 : Int32) then
    okI (0 : Int32) G
  else
    if (20 : Int32) < a0 then
      okI (0 : Int32) G
    else
      okI (1 : Int32) G
def D_PB_isPort (kk : Nat) (a0 : Int32) (G : GS) : Res :=
  if a0 < 0 then
    okI (0 : Int32) G
  else
    if (5 : Int32) ≤ a0 then
      okI (0 : Int32) G
    else
      okI (1 : Int32) G
def D_State_faultOfMoment (kk : Nat) (j : Nat) (a0 : Int32) (G : GS) : Res :=
  (D_Cargo_momentOfPillows kk j G).bind (fun r => oI r (fun v4 G1 =>
  (D_State_isWithinLimit kk j (v4 + a0) G1).bind (fun r => oI r (fun v8 G5 =>
  if v8 = 0 then
    okI (5 : Int32) G5
  else
    okI (0 : Int32) G5) exc)) exc)
def D_State_faultOfLoad (kk : Nat) (j : Nat) (a0 : Int32) (a1 : Int32) (a2 : Int32) (G : GS) : Res :=
  (D_PB_isBay kk a0 G).bind (fun r => oI r (fun v4 G1 =>
  if v4 = 0 then
    okI (1 : Int32) G1
  else
    (D_PB_isWeight kk a1 G1).bind (fun r => oI r (fun v8 G5 =>
    if v8 = 0 then
      okI (2 : Int32) G5
    else
      (D_PB_isPort kk a2 G5).bind (fun r => oI r (fun v12 G9 =>
      if v12 = 0 then
        okI (2 : Int32) G9
      else
        (D_Cargo_heightOf kk j a0 G9).bind (fun r => oI r (fun v16 G13 =>
        if v16 < (5 : Int32) then
          (D_PB_leverArm kk a0 G13).bind (fun r => oI r (fun v20 G17 =>
          (D_State_faultOfMoment kk j (a1 * v20) G17).bind (fun r => oI r (fun v24 G21 =>
          okI v24 G21) exc)) exc)
        else
          okI (4 : Int32) G13) exc)) exc)) exc)) exc)
def D_State_faultOfUnload (kk : Nat) (j : Nat) (a0 : Int32) (G : GS) : Res :=
  (D_PB_isBay kk a0 G).bind (fun r => oI r (fun v4 G1 =>
  if v4 = 0 then
    okI (1 : Int32) G1
  else
    (D_Cargo_topSlot kk j a0 G1).bind (fun r => oI r (fun v8 G5 =>
    (D_PB_isSlot kk v8 G5).bind (fun r => oI r (fun v12 G9 =>
    if v12 = 0 then
      okI (3 : Int32) G9
    else
      (D_Cargo_destinationIn kk j v8 G9).bind (fun r => oI r (fun v16 G13 =>
      if v16 = (gi G13 (j, 3) 0) then
        (D_Cargo_weightIn kk j v8 G13).bind (fun r => oI r (fun v20 G17 =>
        (D_PB_leverArm kk a0 G17).bind (fun r => oI r (fun v24 G21 =>
        (D_State_faultOfMoment kk j ((-v20) * v24) G21).bind (fun r => oI r (fun v28 G25 =>
        okI v28 G25) exc)) exc)) exc)
      else
        okI (4 : Int32) G13) exc)) exc)) exc)) exc)
def D_State_faultOfShift (kk : Nat) (j : Nat) (a0 : Int32) (a1 : Int32) (G : GS) : Res :=
  (D_PB_isBay kk a0 G).bind (fun r => oI r (fun v4 G1 =>
  if v4 = 0 then
    okI (1 : Int32) G1
  else
    (D_PB_isBay kk a1 G1).bind (fun r => oI r (fun v8 G5 =>
    if v8 = 0 then
      okI (1 : Int32) G5
    else
      if a0 = a1 then
        okI (2 : Int32) G5
      else
        (D_Cargo_topSlot kk j a0 G5).bind (fun r => oI r (fun v12 G9 =>
        (D_PB_isSlot kk v12 G9).bind (fun r => oI r (fun v16 G13 =>
        if v16 = 0 then
          okI (3 : Int32) G13
        else
          (D_Cargo_heightOf kk j a1 G13).bind (fun r => oI r (fun v20 G17 =>
          if v20 < (5 : Int32) then
            (D_Cargo_weightIn kk j v12 G17).bind (fun r => oI r (fun v24 G21 =>
            (D_PB_leverArm kk a1 G21).bind (fun r => oI r (fun v28 G25 =>
            (D_PB_leverArm kk a0 G25).bind (fun r => oI r (fun v32 G29 =>
            (D_State_faultOfMoment kk j (v24 * (v28 - v32)) G29).bind (fun r => oI r (fun v36 G33 =>
            okI v36 G33) exc)) exc)) exc)) exc)
          else
            okI (4 : Int32) G17) exc)) exc)) exc)) exc)) exc)
def D_State_faultOfLimit (kk : Nat) (j : Nat) (a0 : Int32) (G : GS) : Res :=
  if a0 < (10 : Int32) then
    okI (2 : Int32) G
  else
    if a0 ≤ (99 : Int32) then
      (D_Cargo_momentOfPillows kk j G).bind (fun r => oI r (fun v4 G1 =>
      (D_abs v4 G1).bind (fun r => oI r (fun v8 G5 =>
      if v8 ≤ a0 then
        okI (0 : Int32) G5
      else
        okI (5 : Int32) G5) exc)) exc)
    else
      okI (2 : Int32) G
def D_State_faultOf (kk : Nat) (j : Nat) (a0 : Int32) (a1 : Int32) (a2 : Int32) (a3 : Int32) (G : GS) : Res :=
  if a0 = (0 : Int32) then
    (D_State_faultOfLoad kk j a1 a2 a3 G).bind (fun r => oI r (fun v4 G1 =>
    okI v4 G1) exc)
  else if a0 = (1 : Int32) then
    (D_State_faultOfUnload kk j a1 G).bind (fun r => oI r (fun v8 G5 =>
    okI v8 G5) exc)
  else if a0 = (2 : Int32) then
    (D_State_faultOfShift kk j a1 a2 G).bind (fun r => oI r (fun v12 G9 =>
    okI v12 G9) exc)
  else if a0 = (3 : Int32) then
    if a1 < (1 : Int32) then
      okI (2 : Int32) G
    else
      if a1 ≤ (20 : Int32) then
        okI (0 : Int32) G
      else
        okI (2 : Int32) G
  else if a0 = (4 : Int32) then
    okI (0 : Int32) G
  else if a0 = (5 : Int32) then
    (D_State_faultOfLimit kk j a1 G).bind (fun r => oI r (fun v16 G13 =>
    okI v16 G13) exc)
  else if a0 = (6 : Int32) then
    if a1 < (-99 : Int32) then
      okI (2 : Int32) G
    else
      if a1 ≤ (99 : Int32) then
        okI (0 : Int32) G
      else
        okI (2 : Int32) G
  else 
    okI (0 : Int32) G
def D_State_addPillow (kk : Nat) (j : Nat) (a0 : Int32) (a1 : Int32) (a2 : Int32) (G : GS) : Res :=
  (D_Cargo_put kk j a0 (gi G (j, 4) 0) a1 a2 (gi G (j, 3) 1) G).bind (fun r => oV r (fun G1 =>
  okI (gi G (j, 4) 0) (si G1 (j, 4) 0 ((gi G1 (j, 4) 0) + (1 : Int32)))) exc)
def D_State_deliverTop (kk : Nat) (j : Nat) (a0 : Int32) (G : GS) : Res :=
  (D_Cargo_topSlot kk j a0 G).bind (fun r => oI r (fun v4 G1 =>
  (D_Cargo_numberIn kk j v4 G1).bind (fun r => oI r (fun v8 G5 =>
  (D_Cargo_weightIn kk j v4 (si G5 (j, 4) 1 ((gi G5 (j, 4) 1) + (1 : Int32)))).bind (fun r => oI r (fun v12 G9 =>
  (D_Cargo_removeTop kk j a0 (si G9 (j, 4) 2 ((gi (si G5 (j, 4) 1 ((gi G5 (j, 4) 1) + (1 : Int32))) (j, 4) 2) + v12))).bind (fun r => oV r (fun G13 =>
  okI v8 G13) exc)) exc)) exc)) exc)
def D_State_moveTop (kk : Nat) (j : Nat) (a0 : Int32) (a1 : Int32) (G : GS) : Res :=
  (D_Cargo_topSlot kk j a0 G).bind (fun r => oI r (fun v4 G1 =>
  (D_Cargo_numberIn kk j v4 G1).bind (fun r => oI r (fun v8 G5 =>
  (D_Cargo_weightIn kk j v4 G5).bind (fun r => oI r (fun v12 G9 =>
  (D_Cargo_destinationIn kk j v4 G9).bind (fun r => oI r (fun v16 G13 =>
  (D_Cargo_dayIn kk j v4 G13).bind (fun r => oI r (fun v20 G17 =>
  (D_Cargo_put kk j a1 v8 v12 v16 v20 G17).bind (fun r => oV r (fun G21 =>
  (D_Cargo_removeTop kk j a0 G21).bind (fun r => oV r (fun G24 =>
  okI v8 G24) exc)) exc)) exc)) exc)) exc)) exc)) exc)
def D_Voyage_portIn (kk : Nat) (j : Nat) (a0 : Int32) (G : GS) : Res :=
  if (gi G (j, 3) 2) = 0 then
    (D_fmod ((gi G (j, 3) 0) - a0) (5 : Int32) G).bind (fun r => oI r (fun v4 G1 =>
    okI v4 G1) exc)
  else
    (D_fmod ((gi G (j, 3) 0) + a0) (5 : Int32) G).bind (fun r => oI r (fun v8 G5 =>
    okI v8 G5) exc)
def D_Voyage_advance (kk : Nat) (j : Nat) (a0 : Int32) (G : GS) : Res :=
  (D_Voyage_portIn kk j a0 G).bind (fun r => oI r (fun v4 G1 =>
  okV (si (si G1 (j, 3) 0 v4) (j, 3) 1 ((gi (si G1 (j, 3) 0 v4) (j, 3) 1) + a0))) exc)
def D_Voyage_reverse (kk : Nat) (j : Nat) (G : GS) : Res :=
  if (gi G (j, 3) 2) = 0 then
    okV (si G (j, 3) 2 (1 : Int32))
  else
    okV (si G (j, 3) 2 (0 : Int32))
def D_State_replaceLimit (kk : Nat) (j : Nat) (a0 : Int32) (G : GS) : Res :=
  okI (gi G (j, 1) 3) (si G (j, 1) 3 a0)
def L_State_practise (kk : Nat) : Nat → Nat → Int32 → GS → Res
  | 0 => fun _ _ _ => none
  | k + 1 => fun x0 y0 G =>
    if y0 = 0 then
      if y0 = 0 ∨ y0 = 1 then okI y0 (si G (x0, 4) 3 ((gi G (x0, 4) 3) + (1 : Int32))) else none
    else
      if y0 = 0 ∨ y0 = 1 then okI y0 (si (si G (x0, 4) 3 ((gi G (x0, 4) 3) + (1 : Int32))) (x0, 4) 4 ((gi (si G (x0, 4) 3 ((gi G (x0, 4) 3) + (1 : Int32))) (x0, 4) 4) + (1 : Int32))) else none
def D_State_practise (kk : Nat) (j : Nat) (a0 : Int32) (G : GS) : Res :=
  (D_Cargo_momentOfPillows kk j G).bind (fun r => oI r (fun v4 G1 =>
  (D_State_isWithinLimit kk j (v4 + a0) G1).bind (fun r => oI r (fun v8 G5 =>
  if v8 = 0 then
    (L_State_practise kk kk) j (1 : Int32) G5
  else
    (L_State_practise kk kk) j (0 : Int32) G5) exc)) exc)
def D_State_perform (kk : Nat) (j : Nat) (a0 : Int32) (a1 : Int32) (a2 : Int32) (a3 : Int32) (G : GS) : Res :=
  if a0 = (0 : Int32) then
    (D_State_addPillow kk j a1 a2 a3 G).bind (fun r => oI r (fun v4 G1 =>
    okI v4 G1) exc)
  else if a0 = (1 : Int32) then
    (D_State_deliverTop kk j a1 G).bind (fun r => oI r (fun v8 G5 =>
    okI v8 G5) exc)
  else if a0 = (2 : Int32) then
    (D_State_moveTop kk j a1 a2 G).bind (fun r => oI r (fun v12 G9 =>
    okI v12 G9) exc)
  else if a0 = (3 : Int32) then
    (D_Voyage_advance kk j a1 G).bind (fun r => oV r (fun G13 =>
    okI (gi G13 (j, 3) 0) G13) exc)
  else if a0 = (4 : Int32) then
    (D_Voyage_reverse kk j G).bind (fun r => oV r (fun G16 =>
    if (gi G16 (j, 3) 2) = 0 then
      okI (0 : Int32) G16
    else
      okI (1 : Int32) G16) exc)
  else if a0 = (5 : Int32) then
    (D_State_replaceLimit kk j a1 G).bind (fun r => oI r (fun v22 G19 =>
    okI v22 G19) exc)
  else if a0 = (6 : Int32) then
    (D_State_practise kk j a1 G).bind (fun r => oI r (fun v26 G23 =>
    if v26 = 0 then
      okI (0 : Int32) G23
    else
      okI (1 : Int32) G23) exc)
  else 
    okI (0 : Int32) G
def D_PB_throwFault (kk : Nat) (a0 : Int32) (G : GS) : Res :=
  if a0 = (1 : Int32) then
    exc 1 G
  else if a0 = (2 : Int32) then
    exc 2 G
  else if a0 = (3 : Int32) then
    exc 3 G
  else if a0 = (4 : Int32) then
    exc 4 G
  else if a0 = (5 : Int32) then
    exc 5 G
  else 
    okV G
def D_PB_change (kk : Nat) (a0 : Int32) (a1 : Int32) (a2 : Int32) (a3 : Int32) (G : GS) : Res :=
  (D_State_faultOf kk 0 a0 a1 a2 a3 G).bind (fun r => oI r (fun v4 G1 =>
  (D_PB_throwFault kk v4 G1).bind (fun r => oV r (fun G5 =>
  (D_History_draft kk 0 G5).bind (fun r => oV r (fun G8 =>
  (D_History_keepDraft kk G8).bind (fun r => oV r (fun G11 =>
  (D_State_perform kk 0 a0 a1 a2 a3 G11).bind (fun r => oI r (fun v17 G14 =>
  okI v17 G14) exc)) exc)) exc)) exc)) exc)
def D_PB_load (kk : Nat) (a0 : Int32) (a1 : Int32) (a2 : Int32) (G : GS) : Res :=
  (D_PB_change kk (0 : Int32) a0 a1 a2 G).bind (fun r => oI r (fun v4 G1 =>
  okI v4 G1) exc)
def D_PB_unload (kk : Nat) (a0 : Int32) (G : GS) : Res :=
  (D_PB_change kk (1 : Int32) a0 (0 : Int32) (0 : Int32) G).bind (fun r => oI r (fun v4 G1 =>
  okI v4 G1) exc)
def D_PB_shift (kk : Nat) (a0 : Int32) (a1 : Int32) (G : GS) : Res :=
  (D_PB_change kk (2 : Int32) a0 a1 (0 : Int32) G).bind (fun r => oI r (fun v4 G1 =>
  okI v4 G1) exc)
def D_PB_sail (kk : Nat) (a0 : Int32) (G : GS) : Res :=
  (D_PB_change kk (3 : Int32) a0 (0 : Int32) (0 : Int32) G).bind (fun r => oI r (fun v4 G1 =>
  okI v4 G1) exc)
def D_PB_turn (kk : Nat) (G : GS) : Res :=
  (D_PB_change kk (4 : Int32) (0 : Int32) (0 : Int32) (0 : Int32) G).bind (fun r => oI r (fun v4 G1 =>
  if v4 = (1 : Int32) then
    okI (1 : Int32) G1
  else
    okI (0 : Int32) G1) exc)
def D_PB_setLimit (kk : Nat) (a0 : Int32) (G : GS) : Res :=
  (D_PB_change kk (5 : Int32) a0 (0 : Int32) (0 : Int32) G).bind (fun r => oI r (fun v4 G1 =>
  okI v4 G1) exc)
def D_PB_drill (kk : Nat) (a0 : Int32) (G : GS) : Res :=
  (D_PB_change kk (6 : Int32) a0 (0 : Int32) (0 : Int32) G).bind (fun r => oI r (fun v4 G1 =>
  if v4 = (1 : Int32) then
    okI (1 : Int32) G1
  else
    okI (0 : Int32) G1) exc)
def D_PB_pillowCount (kk : Nat) (G : GS) : Res :=
  (D_Cargo_countPillows kk 0 G).bind (fun r => oI r (fun v4 G1 =>
  okI v4 G1) exc)
def D_PB_requireBay (kk : Nat) (a0 : Int32) (G : GS) : Res :=
  (D_PB_isBay kk a0 G).bind (fun r => oI r (fun v4 G1 =>
  if v4 = 0 then
    exc 1 G1
  else
    okV G1) exc)
def D_PB_stackHeight (kk : Nat) (a0 : Int32) (G : GS) : Res :=
  (D_PB_requireBay kk a0 G).bind (fun r => oV r (fun G1 =>
  (D_Cargo_heightOf kk 0 a0 G1).bind (fun r => oI r (fun v7 G4 =>
  okI v7 G4) exc)) exc)
def D_PB_requireSlot (kk : Nat) (a0 : Int32) (G : GS) : Res :=
  (D_PB_isSlot kk a0 G).bind (fun r => oI r (fun v4 G1 =>
  if v4 = 0 then
    exc 3 G1
  else
    okV G1) exc)
def D_PB_pillowAt (kk : Nat) (a0 : Int32) (a1 : Int32) (G : GS) : Res :=
  (D_PB_requireBay kk a0 G).bind (fun r => oV r (fun G1 =>
  (D_Cargo_slotAt kk 0 a0 a1 G1).bind (fun r => oI r (fun v7 G4 =>
  (D_PB_requireSlot kk v7 G4).bind (fun r => oV r (fun G8 =>
  (D_Cargo_numberIn kk 0 v7 G8).bind (fun r => oI r (fun v14 G11 =>
  okI v14 G11) exc)) exc)) exc)) exc)
def D_PB_requirePillow (kk : Nat) (a0 : Int32) (G : GS) : Res :=
  (D_Cargo_slotOf kk 0 a0 G).bind (fun r => oI r (fun v4 G1 =>
  (D_PB_requireSlot kk v4 G1).bind (fun r => oV r (fun G5 =>
  okI v4 G5) exc)) exc)
def D_PB_weightOf (kk : Nat) (a0 : Int32) (G : GS) : Res :=
  (D_PB_requirePillow kk a0 G).bind (fun r => oI r (fun v4 G1 =>
  (D_Cargo_weightIn kk 0 v4 G1).bind (fun r => oI r (fun v8 G5 =>
  okI v8 G5) exc)) exc)
def D_PB_destinationOf (kk : Nat) (a0 : Int32) (G : GS) : Res :=
  (D_PB_requirePillow kk a0 G).bind (fun r => oI r (fun v4 G1 =>
  (D_Cargo_destinationIn kk 0 v4 G1).bind (fun r => oI r (fun v8 G5 =>
  okI v8 G5) exc)) exc)
def D_PB_bayOf (kk : Nat) (a0 : Int32) (G : GS) : Res :=
  (D_PB_requirePillow kk a0 G).bind (fun r => oI r (fun v4 G1 =>
  okI (v4 / (5 : Int32)) G1) exc)
def D_PB_positionOf (kk : Nat) (a0 : Int32) (G : GS) : Res :=
  (D_PB_requirePillow kk a0 G).bind (fun r => oI r (fun v4 G1 =>
  okI (v4 - v4 / (5 : Int32) * (5 : Int32)) G1) exc)
def D_PB_ageOf (kk : Nat) (a0 : Int32) (G : GS) : Res :=
  (D_PB_requirePillow kk a0 G).bind (fun r => oI r (fun v4 G1 =>
  (D_State_ageIn kk 0 v4 G1).bind (fun r => oI r (fun v8 G5 =>
  okI v8 G5) exc)) exc)
def D_PB_isOlder (kk : Nat) (a0 : Int32) (a1 : Int32) (G : GS) : Res :=
  (D_State_ageIn kk 0 a0 G).bind (fun r => oI r (fun v4 G1 =>
  (D_State_ageIn kk 0 a1 G1).bind (fun r => oI r (fun v8 G5 =>
  if v4 = v8 then
    (D_Cargo_numberIn kk 0 a0 G5).bind (fun r => oI r (fun v12 G9 =>
    (D_Cargo_numberIn kk 0 a1 G9).bind (fun r => oI r (fun v16 G13 =>
    if v16 ≤ v12 then
      okI (0 : Int32) G13
    else
      okI (1 : Int32) G13) exc)) exc)
  else
    if v4 ≤ v8 then
      okI (0 : Int32) G5
    else
      okI (1 : Int32) G5) exc)) exc)
def L_PB_oldestSlotIn (kk : Nat) : Nat → Int32 → Int32 → Int32 → GS → Res
  | 0 => fun _ _ _ _ => none
  | k + 1 => fun x1 x2 x3 G =>
    if (5 : Int32) ≤ x3 then
      okI x2 G
    else
      (D_Cargo_slotAt kk 0 x1 x3 G).bind (fun r => oI r (fun v4 G1 =>
      (D_PB_isSlot kk v4 G1).bind (fun r => oI r (fun v8 G5 =>
      if v8 = 0 then
        (L_PB_oldestSlotIn kk k) x1 x2 (x3 + (1 : Int32)) G5
      else
        if x2 = (-1 : Int32) then
          (L_PB_oldestSlotIn kk k) x1 v4 (x3 + (1 : Int32)) G5
        else
          (D_PB_isOlder kk v4 x2 G5).bind (fun r => oI r (fun v12 G9 =>
          if v12 = 0 then
            (L_PB_oldestSlotIn kk k) x1 x2 (x3 + (1 : Int32)) G9
          else
            (L_PB_oldestSlotIn kk k) x1 v4 (x3 + (1 : Int32)) G9) exc)) exc)) exc)
def D_PB_oldestSlotIn (kk : Nat) (a0 : Int32) (G : GS) : Res :=
  (L_PB_oldestSlotIn kk kk) a0 (-1 : Int32) (0 : Int32) G
def D_PB_oldestIn (kk : Nat) (a0 : Int32) (G : GS) : Res :=
  (D_PB_requireBay kk a0 G).bind (fun r => oV r (fun G1 =>
  (D_PB_oldestSlotIn kk a0 G1).bind (fun r => oI r (fun v7 G4 =>
  (D_PB_requireSlot kk v7 G4).bind (fun r => oV r (fun G8 =>
  (D_Cargo_numberIn kk 0 v7 G8).bind (fun r => oI r (fun v14 G11 =>
  okI v14 G11) exc)) exc)) exc)) exc)
def D_PB_moment (kk : Nat) (G : GS) : Res :=
  (D_Cargo_momentOfPillows kk 0 G).bind (fun r => oI r (fun v4 G1 =>
  okI v4 G1) exc)
def D_PB_momentByBays (kk : Nat) (G : GS) : Res :=
  (D_Cargo_momentOfBays kk 0 G).bind (fun r => oI r (fun v4 G1 =>
  okI v4 G1) exc)
def D_PB_totalWeight (kk : Nat) (G : GS) : Res :=
  (D_Cargo_weightOfAll kk 0 G).bind (fun r => oI r (fun v4 G1 =>
  okI v4 G1) exc)
def D_PB_requirePort (kk : Nat) (a0 : Int32) (G : GS) : Res :=
  (D_PB_isPort kk a0 G).bind (fun r => oI r (fun v4 G1 =>
  if v4 = 0 then
    exc 1 G1
  else
    okV G1) exc)
def D_PB_weightFor (kk : Nat) (a0 : Int32) (G : GS) : Res :=
  (D_PB_requirePort kk a0 G).bind (fun r => oV r (fun G1 =>
  (D_Cargo_weightForPort kk 0 a0 G1).bind (fun r => oI r (fun v7 G4 =>
  okI v7 G4) exc)) exc)
def D_PB_limit (kk : Nat) (G : GS) : Res :=
  okI (gi G (0, 1) 3) G
def D_PB_listAngle (kk : Nat) (G : GS) : Res :=
  (D_Cargo_momentOfPillows kk 0 G).bind (fun r => oI r (fun v4 G1 =>
  (D_Cargo_weightOfAll kk 0 G1).bind (fun r => oI r (fun v8 G5 =>
  if (FP.fmul (1110704128 : UInt32) (FP.i2f v4)) &&& 0x7fffffff ≤ 0x7f800000 then
  if (FP.fdiv (FP.fmul (1110704128 : UInt32) (FP.i2f v4)) (FP.i2f (v8 + (40 : Int32)))) &&& 0x7fffffff ≤ 0x7f800000 then
  okF (FP.fdiv (FP.fmul (1110704128 : UInt32) (FP.i2f v4)) (FP.i2f (v8 + (40 : Int32)))) G5
  else none
  else none) exc)) exc)
def D_PB_greatestPush (kk : Nat) (G : GS) : Res :=
  (D_Cargo_momentOfPillows kk 0 G).bind (fun r => oI r (fun v4 G1 =>
  okI ((gi G (0, 1) 3) - v4) G1) exc)
def D_PB_isMoreLevel (kk : Nat) (a0 : Int32) (a1 : Int32) (a2 : Int32) (G : GS) : Res :=
  (D_Cargo_momentOfPillows kk 0 G).bind (fun r => oI r (fun v4 G1 =>
  (D_PB_leverArm kk a0 G1).bind (fun r => oI r (fun v8 G5 =>
  (D_abs (v4 + (a2 * v8)) G5).bind (fun r => oI r (fun v12 G9 =>
  (D_PB_leverArm kk a1 G9).bind (fun r => oI r (fun v16 G13 =>
  (D_abs (v4 + (a2 * v16)) G13).bind (fun r => oI r (fun v20 G17 =>
  if v12 = v20 then
    (D_Cargo_heightOf kk 0 a0 G17).bind (fun r => oI r (fun v24 G21 =>
    (D_Cargo_heightOf kk 0 a1 G21).bind (fun r => oI r (fun v28 G25 =>
    if v28 ≤ v24 then
      okI (0 : Int32) G25
    else
      okI (1 : Int32) G25) exc)) exc)
  else
    if v20 ≤ v12 then
      okI (0 : Int32) G17
    else
      okI (1 : Int32) G17) exc)) exc)) exc)) exc)) exc)
def L_PB_mostLevelBay (kk : Nat) : Nat → (Int32 → Int32 → Int32 → GS → Res) × (Int32 → Int32 → Int32 → Int32 → GS → Res)
  | 0 => (fun _ _ _ _ => none, fun _ _ _ _ _ => none)
  | k + 1 => (fun x1 x2 x3 G =>
    if (7 : Int32) ≤ x3 then
      okI x2 G
    else
      (D_State_faultOfLoad kk 0 x3 x1 (0 : Int32) G).bind (fun r => oI r (fun v4 G1 =>
      if v4 = 0 then
        (L_PB_mostLevelBay kk k).2 x1 x2 x3 (1 : Int32) G1
      else
        (L_PB_mostLevelBay kk k).2 x1 x2 x3 (0 : Int32) G1) exc),
    fun x1 x2 x3 y0 G =>
    if y0 = 0 then
      (L_PB_mostLevelBay kk k).1 x1 x2 (x3 + (1 : Int32)) G
    else
      if x2 = (-1 : Int32) then
        (L_PB_mostLevelBay kk k).1 x1 x3 (x3 + (1 : Int32)) G
      else
        (D_PB_isMoreLevel kk x3 x2 x1 G).bind (fun r => oI r (fun v8 G5 =>
        if v8 = 0 then
          (L_PB_mostLevelBay kk k).1 x1 x2 (x3 + (1 : Int32)) G5
        else
          (L_PB_mostLevelBay kk k).1 x1 x3 (x3 + (1 : Int32)) G5) exc))
def D_PB_mostLevelBay (kk : Nat) (a0 : Int32) (G : GS) : Res :=
  (L_PB_mostLevelBay kk kk).1 a0 (-1 : Int32) (0 : Int32) G
def D_PB_levelingBay (kk : Nat) (a0 : Int32) (G : GS) : Res :=
  (D_PB_isWeight kk a0 G).bind (fun r => oI r (fun v4 G1 =>
  if v4 = 0 then
    exc 2 G1
  else
    (D_PB_mostLevelBay kk a0 G1).bind (fun r => oI r (fun v8 G5 =>
    if v8 = (-1 : Int32) then
      exc 3 G5
    else
      okI v8 G5) exc)) exc)
def D_PB_port (kk : Nat) (G : GS) : Res :=
  okI (gi G (0, 3) 0) G
def D_PB_day (kk : Nat) (G : GS) : Res :=
  okI (gi G (0, 3) 1) G
def D_PB_isAscending (kk : Nat) (G : GS) : Res :=
  if (gi G (0, 3) 2) = 0 ∨ (gi G (0, 3) 2) = 1 then okI (gi G (0, 3) 2) G else none
def D_PB_legsTo (kk : Nat) (a0 : Int32) (G : GS) : Res :=
  (D_PB_requirePort kk a0 G).bind (fun r => oV r (fun G1 =>
  (D_Voyage_countLegsTo kk 0 a0 G1).bind (fun r => oI r (fun v7 G4 =>
  okI v7 G4) exc)) exc)
def D_PB_portAfter (kk : Nat) (a0 : Int32) (G : GS) : Res :=
  if a0 < 0 then
    exc 2 G
  else
    if a0 ≤ (99 : Int32) then
      (D_Voyage_portIn kk 0 a0 G).bind (fun r => oI r (fun v4 G1 =>
      okI v4 G1) exc)
    else
      exc 2 G
def L_PB_heaviestPort (kk : Nat) : Nat → Int32 → Int32 → GS → Res
  | 0 => fun _ _ _ => none
  | k + 1 => fun x1 x2 G =>
    if (5 : Int32) ≤ x2 then
      okI x1 G
    else
      (D_Voyage_portIn kk 0 x2 G).bind (fun r => oI r (fun v8 G5 =>
      (D_Cargo_weightForPort kk 0 v8 G5).bind (fun r => oI r (fun v12 G9 =>
      (D_Cargo_weightForPort kk 0 x1 G9).bind (fun r => oI r (fun v16 G13 =>
      if v12 ≤ v16 then
        (L_PB_heaviestPort kk k) x1 (x2 + (1 : Int32)) G13
      else
        (L_PB_heaviestPort kk k) v8 (x2 + (1 : Int32)) G13) exc)) exc)) exc)
def D_PB_heaviestPort (kk : Nat) (G : GS) : Res :=
  (D_Cargo_countPillows kk 0 G).bind (fun r => oI r (fun v4 G1 =>
  if v4 = 0 then
    exc 3 G1
  else
    (L_PB_heaviestPort kk (Nat.min kk 8)) (gi G1 (0, 3) 0) (1 : Int32) G1) exc)
def L_PB_countInTheWayOf (kk : Nat) : Nat → Int32 → Int32 → Int32 → Int32 → GS → Res
  | 0 => fun _ _ _ _ _ => none
  | k + 1 => fun x1 x2 x3 x4 G =>
    if (5 : Int32) ≤ x4 then
      okI x3 G
    else
      (D_Cargo_slotAt kk 0 x2 x4 G).bind (fun r => oI r (fun v4 G1 =>
      (D_PB_isSlot kk v4 G1).bind (fun r => oI r (fun v8 G5 =>
      if v8 = 0 then
        (L_PB_countInTheWayOf kk k) x1 x2 x3 (x4 + (1 : Int32)) G5
      else
        (D_State_legsIn kk 0 v4 G5).bind (fun r => oI r (fun v12 G9 =>
        (D_State_legsIn kk 0 x1 G9).bind (fun r => oI r (fun v16 G13 =>
        if v12 ≤ v16 then
          (L_PB_countInTheWayOf kk k) x1 x2 x3 (x4 + (1 : Int32)) G13
        else
          (L_PB_countInTheWayOf kk k) x1 x2 (x3 + (1 : Int32)) (x4 + (1 : Int32)) G13) exc)) exc)) exc)) exc)
def D_PB_countInTheWayOf (kk : Nat) (a0 : Int32) (G : GS) : Res :=
  (L_PB_countInTheWayOf kk kk) a0 (a0 / (5 : Int32)) (0 : Int32) ((a0 - a0 / (5 : Int32) * (5 : Int32)) + (1 : Int32)) G
def D_PB_pillowsInTheWay (kk : Nat) (a0 : Int32) (G : GS) : Res :=
  (D_PB_requirePillow kk a0 G).bind (fun r => oI r (fun v4 G1 =>
  (D_PB_countInTheWayOf kk v4 G1).bind (fun r => oI r (fun v8 G5 =>
  okI v8 G5) exc)) exc)
def L_PB_countPairs (kk : Nat) : Nat → Int32 → Int32 → GS → Res
  | 0 => fun _ _ _ => none
  | k + 1 => fun x1 x2 G =>
    if (35 : Int32) ≤ x2 then
      okI x1 G
    else
      (D_Cargo_isTaken kk 0 x2 G).bind (fun r => oI r (fun v4 G1 =>
      if v4 = 0 then
        (L_PB_countPairs kk k) x1 (x2 + (1 : Int32)) G1
      else
        (D_PB_countInTheWayOf kk x2 G1).bind (fun r => oI r (fun v8 G5 =>
        (L_PB_countPairs kk k) (x1 + v8) (x2 + (1 : Int32)) G5) exc)) exc)
def D_PB_countPairs (kk : Nat) (G : GS) : Res :=
  (L_PB_countPairs kk kk) (0 : Int32) (0 : Int32) G
def D_PB_pairsInTheWay (kk : Nat) (G : GS) : Res :=
  (D_PB_countPairs kk G).bind (fun r => oI r (fun v4 G1 =>
  okI v4 G1) exc)
def L_PB_seePillow (kk : Nat) : Nat → Int32 → Int32 → Int32 → GS → Res
  | 0 => fun _ _ _ _ => none
  | k + 1 => fun x1 x2 x3 G =>
    if (5 : Int32) ≤ x3 then
      (D_PB_isPort kk x1 G).bind (fun r => oI r (fun v4 G1 =>
      if v4 = 0 then
        okI x2 G1
      else
        bif inb x1 5 then
        bif inb x1 5 then
        okI x2 (sa G1 (0, 17) x1.toNatClampNeg ((ga G1 (0, 17) x1.toNatClampNeg) + (1 : Int32)))
        else none
        else none) exc)
    else
      if x3 ≤ x1 then
        (L_PB_seePillow kk k) x1 x2 (x3 + (1 : Int32)) G
      else
        bif inb x3 5 then
        (L_PB_seePillow kk k) x1 (x2 + (ga G (0, 17) x3.toNatClampNeg)) (x3 + (1 : Int32)) G
        else none
def D_PB_seePillow (kk : Nat) (a0 : Int32) (G : GS) : Res :=
  (L_PB_seePillow kk kk) a0 (0 : Int32) (0 : Int32) G
def L_PB_countPairsInStack (kk : Nat) : Nat → (Int32 → Int32 → GS → Res) × (Int32 → Int32 → Int32 → GS → Res)
  | 0 => (fun _ _ _ => none, fun _ _ _ _ => none)
  | k + 1 => (fun x1 x2 G =>
    if (5 : Int32) ≤ x2 then
      (L_PB_countPairsInStack kk k).2 x1 (0 : Int32) (4 : Int32) G
    else
      bif inb x2 5 then
      (L_PB_countPairsInStack kk k).1 x1 (x2 + (1 : Int32)) (sa G (0, 17) x2.toNatClampNeg (0 : Int32))
      else none,
    fun x1 x2 x3 G =>
    if x3 < 0 then
      okI x2 G
    else
      (D_Cargo_slotAt kk 0 x1 x3 G).bind (fun r => oI r (fun v4 G1 =>
      (D_PB_isSlot kk v4 G1).bind (fun r => oI r (fun v8 G5 =>
      if v8 = 0 then
        (L_PB_countPairsInStack kk k).2 x1 x2 (x3 + (-1 : Int32)) G5
      else
        (D_State_legsIn kk 0 v4 G5).bind (fun r => oI r (fun v12 G9 =>
        (D_PB_seePillow kk v12 G9).bind (fun r => oI r (fun v16 G13 =>
        (L_PB_countPairsInStack kk k).2 x1 (x2 + v16) (x3 + (-1 : Int32)) G13) exc)) exc)) exc)) exc))
def D_PB_countPairsInStack (kk : Nat) (a0 : Int32) (G : GS) : Res :=
  (L_PB_countPairsInStack kk kk).1 a0 (0 : Int32) G
def L_PB_countPairsByStacks (kk : Nat) : Nat → Int32 → Int32 → GS → Res
  | 0 => fun _ _ _ => none
  | k + 1 => fun x1 x2 G =>
    if (7 : Int32) ≤ x2 then
      okI x1 G
    else
      (D_PB_countPairsInStack kk x2 G).bind (fun r => oI r (fun v4 G1 =>
      (L_PB_countPairsByStacks kk k) (x1 + v4) (x2 + (1 : Int32)) G1) exc)
def D_PB_countPairsByStacks (kk : Nat) (G : GS) : Res :=
  (L_PB_countPairsByStacks kk kk) (0 : Int32) (0 : Int32) G
def D_PB_pairsInTheWayByStacks (kk : Nat) (G : GS) : Res :=
  (D_PB_countPairsByStacks kk G).bind (fun r => oI r (fun v4 G1 =>
  okI v4 G1) exc)
def L_PB_unloadableCount (kk : Nat) : Nat → Int32 → Int32 → GS → Res
  | 0 => fun _ _ _ => none
  | k + 1 => fun x1 x2 G =>
    if (7 : Int32) ≤ x2 then
      okI x1 G
    else
      (D_State_faultOfUnload kk 0 x2 G).bind (fun r => oI r (fun v4 G1 =>
      if v4 = 0 then
        (L_PB_unloadableCount kk k) (x1 + (1 : Int32)) (x2 + (1 : Int32)) G1
      else
        (L_PB_unloadableCount kk k) x1 (x2 + (1 : Int32)) G1) exc)
def D_PB_unloadableCount (kk : Nat) (G : GS) : Res :=
  (L_PB_unloadableCount kk kk) (0 : Int32) (0 : Int32) G
def L_PB_possibleShifts (kk : Nat) : Nat → (Int32 → Int32 → GS → Res) × (Int32 → Int32 → Int32 → GS → Res)
  | 0 => (fun _ _ _ => none, fun _ _ _ _ => none)
  | k + 1 => (fun x1 x2 G =>
    if (7 : Int32) ≤ x2 then
      okI x1 G
    else
      (L_PB_possibleShifts kk k).2 x1 x2 (0 : Int32) G,
    fun x1 x2 x3 G =>
    if (7 : Int32) ≤ x3 then
      (L_PB_possibleShifts kk k).1 x1 (x2 + (1 : Int32)) G
    else
      (D_State_faultOfShift kk 0 x2 x3 G).bind (fun r => oI r (fun v4 G1 =>
      if v4 = 0 then
        (L_PB_possibleShifts kk k).2 (x1 + (1 : Int32)) x2 (x3 + (1 : Int32)) G1
      else
        (L_PB_possibleShifts kk k).2 x1 x2 (x3 + (1 : Int32)) G1) exc))
def D_PB_possibleShifts (kk : Nat) (G : GS) : Res :=
  (L_PB_possibleShifts kk kk).1 (0 : Int32) (0 : Int32) G
def D_PB_hasEarlierTurn (kk : Nat) (a0 : Int32) (a1 : Int32) (G : GS) : Res :=
  (D_State_legsIn kk 0 a0 G).bind (fun r => oI r (fun v4 G1 =>
  (D_State_legsIn kk 0 a1 G1).bind (fun r => oI r (fun v8 G5 =>
  if v4 = v8 then
    (D_PB_isOlder kk a0 a1 G5).bind (fun r => oI r (fun v12 G9 =>
    if v12 = 0 ∨ v12 = 1 then okI v12 G9 else none) exc)
  else
    if v8 ≤ v4 then
      okI (0 : Int32) G5
    else
      okI (1 : Int32) G5) exc)) exc)
def L_PB_countEarlierTurns (kk : Nat) : Nat → Int32 → Int32 → Int32 → GS → Res
  | 0 => fun _ _ _ _ => none
  | k + 1 => fun x1 x2 x3 G =>
    if (35 : Int32) ≤ x3 then
      okI x2 G
    else
      (D_Cargo_isTaken kk 0 x3 G).bind (fun r => oI r (fun v4 G1 =>
      if v4 = 0 then
        (L_PB_countEarlierTurns kk k) x1 x2 (x3 + (1 : Int32)) G1
      else
        (D_PB_hasEarlierTurn kk x3 x1 G1).bind (fun r => oI r (fun v8 G5 =>
        if v8 = 0 then
          (L_PB_countEarlierTurns kk k) x1 x2 (x3 + (1 : Int32)) G5
        else
          (L_PB_countEarlierTurns kk k) x1 (x2 + (1 : Int32)) (x3 + (1 : Int32)) G5) exc)) exc)
def D_PB_countEarlierTurns (kk : Nat) (a0 : Int32) (G : GS) : Res :=
  (L_PB_countEarlierTurns kk kk) a0 (0 : Int32) (0 : Int32) G
def L_PB_pillowByTurn (kk : Nat) : Nat → Int32 → Int32 → GS → Res
  | 0 => fun _ _ _ => none
  | k + 1 => fun x1 x2 G =>
    if (35 : Int32) ≤ x2 then
      exc 3 G
    else
      (D_Cargo_isTaken kk 0 x2 G).bind (fun r => oI r (fun v4 G1 =>
      if v4 = 0 then
        (L_PB_pillowByTurn kk k) x1 (x2 + (1 : Int32)) G1
      else
        (D_PB_countEarlierTurns kk x2 G1).bind (fun r => oI r (fun v8 G5 =>
        if v8 = x1 then
          (D_Cargo_numberIn kk 0 x2 G5).bind (fun r => oI r (fun v12 G9 =>
          okI v12 G9) exc)
        else
          (L_PB_pillowByTurn kk k) x1 (x2 + (1 : Int32)) G5) exc)) exc)
def D_PB_pillowByTurn (kk : Nat) (a0 : Int32) (G : GS) : Res :=
  (L_PB_pillowByTurn kk (Nat.min kk 40)) a0 (0 : Int32) G
def L_PB_countHeavierBays (kk : Nat) : Nat → Int32 → Int32 → Int32 → Int32 → GS → Res
  | 0 => fun _ _ _ _ _ => none
  | k + 1 => fun x1 x2 x3 x4 G =>
    if (7 : Int32) ≤ x4 then
      okI x3 G
    else
      (D_Cargo_weightOfBay kk 0 x4 G).bind (fun r => oI r (fun v8 G5 =>
      if x2 < v8 then
        (L_PB_countHeavierBays kk k) x1 x2 (x3 + (1 : Int32)) (x4 + (1 : Int32)) G5
      else
        if v8 = x2 then
          if x1 ≤ x4 then
            (L_PB_countHeavierBays kk k) x1 x2 x3 (x4 + (1 : Int32)) G5
          else
            (L_PB_countHeavierBays kk k) x1 x2 (x3 + (1 : Int32)) (x4 + (1 : Int32)) G5
        else
          (L_PB_countHeavierBays kk k) x1 x2 x3 (x4 + (1 : Int32)) G5) exc)
def D_PB_countHeavierBays (kk : Nat) (a0 : Int32) (G : GS) : Res :=
  (D_Cargo_weightOfBay kk 0 a0 G).bind (fun r => oI r (fun v4 G1 =>
  (L_PB_countHeavierBays kk kk) a0 v4 (0 : Int32) (0 : Int32) G1) exc)
def L_PB_bayByWeight (kk : Nat) : Nat → Int32 → Int32 → GS → Res
  | 0 => fun _ _ _ => none
  | k + 1 => fun x1 x2 G =>
    if (7 : Int32) ≤ x2 then
      exc 3 G
    else
      (D_PB_countHeavierBays kk x2 G).bind (fun r => oI r (fun v4 G1 =>
      if v4 = x1 then
        okI x2 G1
      else
        (L_PB_bayByWeight kk k) x1 (x2 + (1 : Int32)) G1) exc)
def D_PB_bayByWeight (kk : Nat) (a0 : Int32) (G : GS) : Res :=
  (L_PB_bayByWeight kk (Nat.min kk 10)) a0 (0 : Int32) G
def D_PB_loadedTotal (kk : Nat) (G : GS) : Res :=
  okI (gi G (0, 4) 0) G
def D_PB_deliveredTotal (kk : Nat) (G : GS) : Res :=
  okI (gi G (0, 4) 1) G
def D_PB_deliveredWeight (kk : Nat) (G : GS) : Res :=
  okI (gi G (0, 4) 2) G
def D_PB_drillTotal (kk : Nat) (G : GS) : Res :=
  okI (gi G (0, 4) 3) G
def D_PB_capsizedTotal (kk : Nat) (G : GS) : Res :=
  okI (gi G (0, 4) 4) G
def L_PB_sumOfAges (kk : Nat) : Nat → Int32 → Int32 → GS → Res
  | 0 => fun _ _ _ => none
  | k + 1 => fun x1 x2 G =>
    if (35 : Int32) ≤ x2 then
      okI x1 G
    else
      (D_Cargo_isTaken kk 0 x2 G).bind (fun r => oI r (fun v4 G1 =>
      if v4 = 0 then
        (L_PB_sumOfAges kk k) x1 (x2 + (1 : Int32)) G1
      else
        (D_State_ageIn kk 0 x2 G1).bind (fun r => oI r (fun v8 G5 =>
        (L_PB_sumOfAges kk k) (x1 + v8) (x2 + (1 : Int32)) G5) exc)) exc)
def D_PB_sumOfAges (kk : Nat) (G : GS) : Res :=
  (L_PB_sumOfAges kk kk) (0 : Int32) (0 : Int32) G
def D_PB_meanAge (kk : Nat) (G : GS) : Res :=
  (D_Cargo_countPillows kk 0 G).bind (fun r => oI r (fun v4 G1 =>
  if v4 = 0 then
    exc 6 G1
  else
    (D_PB_sumOfAges kk G1).bind (fun r => oI r (fun v8 G5 =>
    if (FP.ddiv (FP.i2d v8) (FP.i2d v4)) &&& 0x7fffffffffffffff ≤ 0x7ff0000000000000 then
    okD (FP.ddiv (FP.i2d v8) (FP.i2d v4)) G5
    else none) exc)) exc)
def D_PB_capsizedShare (kk : Nat) (G : GS) : Res :=
  if (gi G (0, 4) 3) = 0 then
    exc 6 G
  else
    if (FP.fdiv (FP.i2f (gi G (0, 4) 4)) (FP.i2f (gi G (0, 4) 3))) &&& 0x7fffffff ≤ 0x7f800000 then
    okF (FP.fdiv (FP.i2f (gi G (0, 4) 4)) (FP.i2f (gi G (0, 4) 3))) G
    else none
def D_PB_isConsistent (kk : Nat) (G : GS) : Res :=
  (D_Cargo_momentOfPillows kk 0 G).bind (fun r => oI r (fun v4 G1 =>
  (D_Cargo_momentOfBays kk 0 G1).bind (fun r => oI r (fun v8 G5 =>
  if v4 = v8 then
    (D_PB_countPairs kk G5).bind (fun r => oI r (fun v12 G9 =>
    (D_PB_countPairsByStacks kk G9).bind (fun r => oI r (fun v16 G13 =>
    if v12 = v16 then
      (D_State_isWithinLimit kk 0 v4 G13).bind (fun r => oI r (fun v20 G17 =>
      if v20 = 0 then
        okI (0 : Int32) G17
      else
        (D_Cargo_countPillows kk 0 G17).bind (fun r => oI r (fun v24 G21 =>
        if (gi G17 (0, 4) 0) = ((gi G17 (0, 4) 1) + v24) then
          okI (1 : Int32) G21
        else
          okI (0 : Int32) G21) exc)) exc)
    else
      okI (0 : Int32) G13) exc)) exc)
  else
    okI (0 : Int32) G5) exc)) exc)
def D_PB_separate (kk : Nat) (G : GS) : Res :=
  (D_blen G).bind (fun r => oI r (fun v4 G1 =>
  if v4 ≤ 0 then
    okV G1
  else
    (D_bapc (32 : Int32) G1).bind (fun r => oR 16 r (fun q8 G5 =>
      okV G5) exc)) exc)
def D_PB_renderPillow (kk : Nat) (a0 : Int32) (G : GS) : Res :=
  (D_Cargo_numberIn kk 0 a0 G).bind (fun r => oI r (fun v4 G1 =>
  (D_bapi v4 G1).bind (fun r => oR 16 r (fun q8 G5 =>
    (D_bapc (119 : Int32) G5).bind (fun r => oR 16 r (fun q12 G9 =>
      (D_Cargo_weightIn kk 0 a0 G9).bind (fun r => oI r (fun v16 G13 =>
      (D_bapi v16 G13).bind (fun r => oR 16 r (fun q20 G17 =>
        (D_bapc (112 : Int32) G17).bind (fun r => oR 16 r (fun q24 G21 =>
          (D_Cargo_destinationIn kk 0 a0 G21).bind (fun r => oI r (fun v28 G25 =>
          (D_bapi v28 G25).bind (fun r => oR 16 r (fun q32 G29 =>
            okV G29) exc)) exc)) exc)) exc)) exc)) exc)) exc)) exc)
def L_PB_renderStack (kk : Nat) : Nat → Int32 → Int32 → GS → Res
  | 0 => fun _ _ _ => none
  | k + 1 => fun x1 x2 G =>
    if (5 : Int32) ≤ x2 then
      (D_blen G).bind (fun r => oI r (fun v10 G7 =>
      okI v10 G7) exc)
    else
      (D_Cargo_slotAt kk 0 x1 x2 G).bind (fun r => oI r (fun v14 G11 =>
      (D_PB_isSlot kk v14 G11).bind (fun r => oI r (fun v18 G15 =>
      if v18 = 0 then
        (L_PB_renderStack kk k) x1 (x2 + (1 : Int32)) G15
      else
        (D_PB_separate kk G15).bind (fun r => oV r (fun G19 =>
        (D_PB_renderPillow kk v14 G19).bind (fun r => oV r (fun G22 =>
        (L_PB_renderStack kk k) x1 (x2 + (1 : Int32)) G22) exc)) exc)) exc)) exc)
def D_PB_renderStack (kk : Nat) (a0 : Int32) (G : GS) : Res :=
  (D_PB_requireBay kk a0 G).bind (fun r => oV r (fun G1 =>
  (D_bset (0 : Int32) G1).bind (fun r => oV r (fun G4 =>
  (L_PB_renderStack kk (Nat.min kk 14)) a0 (0 : Int32) G4) exc)) exc)
def L_PB_renderBarge (kk : Nat) : Nat → Int32 → GS → Res
  | 0 => fun _ _ => none
  | k + 1 => fun x1 G =>
    if (7 : Int32) ≤ x1 then
      (D_bapc (61 : Int32) G).bind (fun r => oR 16 r (fun q7 G4 =>
        (D_Cargo_momentOfPillows kk 0 G4).bind (fun r => oI r (fun v11 G8 =>
        (D_bapi v11 G8).bind (fun r => oR 16 r (fun q15 G12 =>
          (D_blen G12).bind (fun r => oI r (fun v19 G16 =>
          okI v19 G16) exc)) exc)) exc)) exc)
    else
      (D_PB_separate kk G).bind (fun r => oV r (fun G20 =>
      (D_Cargo_weightOfBay kk 0 x1 G20).bind (fun r => oI r (fun v26 G23 =>
      (D_bapi v26 G23).bind (fun r => oR 16 r (fun q30 G27 =>
        (L_PB_renderBarge kk k) (x1 + (1 : Int32)) G27) exc)) exc)) exc)
def D_PB_renderBarge (kk : Nat) (G : GS) : Res :=
  (D_bset (0 : Int32) G).bind (fun r => oV r (fun G1 =>
  (L_PB_renderBarge kk (Nat.min kk 10)) (0 : Int32) G1) exc)
def D_PB_outputAt (kk : Nat) (a0 : Int32) (G : GS) : Res :=
  if a0 < 0 then
    exc 1 G
  else
    (D_blen G).bind (fun r => oI r (fun v4 G1 =>
    if a0 < v4 then
      (D_bat a0 G1).bind (fun r => oI r (fun v8 G5 =>
      if 0 ≤ v8 ∧ v8 ≤ 65535 then okI v8 G5 else none) exc)
    else
      exc 1 G1) exc)
def D_PB_type (kk : Nat) (a0 : Int32) (G : GS) : Res :=
  if a0 < (32 : Int32) then
    exc 2 G
  else
    if a0 ≤ (126 : Int32) then
      (D_Script_isFull kk G).bind (fun r => oI r (fun v4 G1 =>
      if v4 = 0 then
        (D_Script_append kk a0 G1).bind (fun r => oV r (fun G5 =>
        okI (gi G5 (0, 12) 3) G5) exc)
      else
        exc 4 G1) exc)
    else
      exc 2 G
def L_PB_performCommands (kk : Nat) : Nat → Int32 → GS → Res
  | 0 => fun _ _ => none
  | k + 1 => fun x1 G =>
    if (gi G (0, 12) 4) ≤ x1 then
      okI (-1 : Int32) G
    else
      (D_Script_commandAt kk x1 G).bind (fun r => oI r (fun v4 G1 =>
      (D_Script_argumentAt kk x1 (0 : Int32) G1).bind (fun r => oI r (fun v8 G5 =>
      (D_Script_argumentAt kk x1 (1 : Int32) G5).bind (fun r => oI r (fun v12 G9 =>
      (D_Script_argumentAt kk x1 (2 : Int32) G9).bind (fun r => oI r (fun v16 G13 =>
      (D_State_faultOf kk 0 v4 v8 v12 v16 G13).bind (fun r => oI r (fun v20 G17 =>
      if v20 = 0 then
        (D_State_perform kk 0 v4 v8 v12 v16 G17).bind (fun r => oI r (fun v24 G21 =>
        (L_PB_performCommands kk k) (x1 + (1 : Int32)) G21) exc)
      else
        okI x1 G17) exc)) exc)) exc)) exc)) exc)
def D_PB_performCommands (kk : Nat) (G : GS) : Res :=
  (L_PB_performCommands kk kk) (0 : Int32) G
def D_PB_runScript (kk : Nat) (G : GS) : Res :=
  (D_Script_parse kk G).bind (fun r => oI r (fun v4 G1 =>
  (D_Script_empty kk G1).bind (fun r => oV r (fun G5 =>
  if v4 = 0 then
    exc 2 (si G5 (0, 0) 5 (gi G5 (0, 12) 5))
  else
    (D_History_draft kk 0 G5).bind (fun r => oV r (fun G8 =>
    (D_PB_performCommands kk G8).bind (fun r => oI r (fun v14 G11 =>
    if v14 = (-1 : Int32) then
      (D_History_keepDraft kk G11).bind (fun r => oV r (fun G15 =>
      okI (gi G15 (0, 12) 4) G15) exc)
    else
      (D_History_takeDraftBack kk 0 G11).bind (fun r => oV r (fun G18 =>
      exc 4 (si G18 (0, 0) 6 v14)) exc)) exc)) exc)) exc)) exc)
def D_PB_errorPosition (kk : Nat) (G : GS) : Res :=
  if (gi G (0, 0) 5) = (-1 : Int32) then
    exc 3 G
  else
    okI (gi G (0, 0) 5) G
def D_PB_failedCommand (kk : Nat) (G : GS) : Res :=
  if (gi G (0, 0) 6) = (-1 : Int32) then
    exc 3 G
  else
    okI (gi G (0, 0) 6) G
def D_PB_undo (kk : Nat) (G : GS) : Res :=
  if (gi G (0, 10) 2) = 0 then
    exc 3 G
  else
    (D_History_takeLatestBack kk 0 G).bind (fun r => oV r (fun G1 =>
    okI (gi G1 (0, 10) 2) G1) exc)
def D_PB_save (kk : Nat) (G : GS) : Res :=
  (D_State_copyFrom kk 1 0 G).bind (fun r => oV r (fun G1 =>
  (D_Cargo_countPillows kk 0 (si G1 (0, 0) 3 (1 : Int32))).bind (fun r => oI r (fun v7 G4 =>
  okI v7 G4) exc)) exc)
def D_PB_restore (kk : Nat) (G : GS) : Res :=
  if (gi G (0, 0) 3) = 0 then
    exc 4 G
  else
    (D_State_copyFrom kk 0 1 G).bind (fun r => oV r (fun G1 =>
    (D_History_forget kk G1).bind (fun r => oV r (fun G4 =>
    (D_Cargo_countPillows kk 0 G4).bind (fun r => oI r (fun v10 G7 =>
    okI v10 G7) exc)) exc)) exc)
end
section
/-! Every method as a function (printed by gen/emit.py from the class files). -/
def D_Mo_thrown (kk : Nat) (G : GS) : Res :=
  okI (gi G (0, 50) 0) G
def D_Mo_fails (kk : Nat) (a0 : Int32) (G : GS) : Res :=
  okI (0 : Int32) (si G (0, 50) 0 a0)
def D_Mo_isBetween (kk : Nat) (a0 : Int32) (a1 : Int32) (a2 : Int32) (G : GS) : Res :=
  if a0 < a1 then
    okI (0 : Int32) G
  else
    if a2 < a0 then
      okI (0 : Int32) G
    else
      okI (1 : Int32) G
def L_Mo_copies (kk : Nat) : Nat → Int32 → GS → Res
  | 0 => fun _ _ => none
  | k + 1 => fun x1 G =>
    if (156 : Int32) ≤ x1 then
      okV G
    else
      bif inb x1 156 then
      bif inb x1 156 then
      (L_Mo_copies kk k) (x1 + (1 : Int32)) (sa G (0, 54) x1.toNatClampNeg (ga G (0, 51) x1.toNatClampNeg))
      else none
      else none
def D_Mo_copies (kk : Nat) (G : GS) : Res :=
  (L_Mo_copies kk kk) (0 : Int32) G
def L_Mo_goesBack (kk : Nat) : Nat → Int32 → GS → Res
  | 0 => fun _ _ => none
  | k + 1 => fun x1 G =>
    if (156 : Int32) ≤ x1 then
      okV G
    else
      bif inb x1 156 then
      bif inb x1 156 then
      (L_Mo_goesBack kk k) (x1 + (1 : Int32)) (sa G (0, 51) x1.toNatClampNeg (ga G (0, 54) x1.toNatClampNeg))
      else none
      else none
def D_Mo_goesBack (kk : Nat) (G : GS) : Res :=
  (L_Mo_goesBack kk kk) (0 : Int32) G
def L_Mo_keeps (kk : Nat) : Nat → Int32 → Int32 → GS → Res
  | 0 => fun _ _ _ => none
  | k + 1 => fun x1 x2 G =>
    if (156 : Int32) ≤ x2 then
      okV (si G (0, 50) 5 ((gi G (0, 50) 5) + (1 : Int32)))
    else
      bif inb x2 156 then
      bif inb (((156 : Int32) * x1) + x2) 1248 then
      (L_Mo_keeps kk k) x1 (x2 + (1 : Int32)) (sa G (0, 52) (((156 : Int32) * x1) + x2).toNatClampNeg (ga G (0, 54) x2.toNatClampNeg))
      else none
      else none
def D_Mo_keeps (kk : Nat) (G : GS) : Res :=
  if (gi G (0, 50) 5) = (8 : Int32) then
    (L_Mo_keeps kk kk) (((gi (si (si G (0, 50) 6 (((gi G (0, 50) 6) + (1 : Int32)) - ((gi G (0, 50) 6) + (1 : Int32)) / (8 : Int32) * (8 : Int32))) (0, 50) 5 ((gi (si G (0, 50) 6 (((gi G (0, 50) 6) + (1 : Int32)) - ((gi G (0, 50) 6) + (1 : Int32)) / (8 : Int32) * (8 : Int32))) (0, 50) 5) - (1 : Int32))) (0, 50) 6) + (gi (si (si G (0, 50) 6 (((gi G (0, 50) 6) + (1 : Int32)) - ((gi G (0, 50) 6) + (1 : Int32)) / (8 : Int32) * (8 : Int32))) (0, 50) 5 ((gi (si G (0, 50) 6 (((gi G (0, 50) 6) + (1 : Int32)) - ((gi G (0, 50) 6) + (1 : Int32)) / (8 : Int32) * (8 : Int32))) (0, 50) 5) - (1 : Int32))) (0, 50) 5)) - ((gi (si (si G (0, 50) 6 (((gi G (0, 50) 6) + (1 : Int32)) - ((gi G (0, 50) 6) + (1 : Int32)) / (8 : Int32) * (8 : Int32))) (0, 50) 5 ((gi (si G (0, 50) 6 (((gi G (0, 50) 6) + (1 : Int32)) - ((gi G (0, 50) 6) + (1 : Int32)) / (8 : Int32) * (8 : Int32))) (0, 50) 5) - (1 : Int32))) (0, 50) 6) + (gi (si (si G (0, 50) 6 (((gi G (0, 50) 6) + (1 : Int32)) - ((gi G (0, 50) 6) + (1 : Int32)) / (8 : Int32) * (8 : Int32))) (0, 50) 5 ((gi (si G (0, 50) 6 (((gi G (0, 50) 6) + (1 : Int32)) - ((gi G (0, 50) 6) + (1 : Int32)) / (8 : Int32) * (8 : Int32))) (0, 50) 5) - (1 : Int32))) (0, 50) 5)) / (8 : Int32) * (8 : Int32)) (0 : Int32) (si (si G (0, 50) 6 (((gi G (0, 50) 6) + (1 : Int32)) - ((gi G (0, 50) 6) + (1 : Int32)) / (8 : Int32) * (8 : Int32))) (0, 50) 5 ((gi (si G (0, 50) 6 (((gi G (0, 50) 6) + (1 : Int32)) - ((gi G (0, 50) 6) + (1 : Int32)) / (8 : Int32) * (8 : Int32))) (0, 50) 5) - (1 : Int32)))
  else
    (L_Mo_keeps kk kk) (((gi G (0, 50) 6) + (gi G (0, 50) 5)) - ((gi G (0, 50) 6) + (gi G (0, 50) 5)) / (8 : Int32) * (8 : Int32)) (0 : Int32) G
def D_Mo_remembers (kk : Nat) (G : GS) : Res :=
  (D_Mo_copies kk G).bind (fun r => oV r (fun G1 =>
  (D_Mo_keeps kk G1).bind (fun r => oV r (fun G4 =>
  okV G4) exc)) exc)
def D_Mo_isBay (kk : Nat) (a0 : Int32) (G : GS) : Res :=
  (D_Mo_isBetween kk a0 (0 : Int32) (6 : Int32) G).bind (fun r => oI r (fun v4 G1 =>
  if v4 = 0 ∨ v4 = 1 then okI v4 G1 else none) exc)
def D_Mo_at (kk : Nat) (a0 : Int32) (a1 : Int32) (a2 : Int32) (G : GS) : Res :=
  bif inb ((((16 : Int32) + ((20 : Int32) * a0)) + ((4 : Int32) * a1)) + a2) 156 then
  okI (ga G (0, 51) ((((16 : Int32) + ((20 : Int32) * a0)) + ((4 : Int32) * a1)) + a2).toNatClampNeg) G
  else none
def D_Mo_puts (kk : Nat) (a0 : Int32) (a1 : Int32) (a2 : Int32) (a3 : Int32) (G : GS) : Res :=
  bif inb ((((16 : Int32) + ((20 : Int32) * a0)) + ((4 : Int32) * a1)) + a2) 156 then
  okV (sa G (0, 51) ((((16 : Int32) + ((20 : Int32) * a0)) + ((4 : Int32) * a1)) + a2).toNatClampNeg a3)
  else none
def D_Mo_top (kk : Nat) (a0 : Int32) (a1 : Int32) (G : GS) : Res :=
  bif inb ((9 : Int32) + a0) 156 then
  (D_Mo_at kk a0 ((ga G (0, 51) ((9 : Int32) + a0).toNatClampNeg) - (1 : Int32)) a1 G).bind (fun r => oI r (fun v4 G1 =>
  okI v4 G1) exc)
  else none
def L_Mo_weightOfBay (kk : Nat) : Nat → Int32 → Int32 → Int32 → GS → Res
  | 0 => fun _ _ _ _ => none
  | k + 1 => fun x1 x2 x3 G =>
    bif inb ((9 : Int32) + x1) 156 then
    if (ga G (0, 51) ((9 : Int32) + x1).toNatClampNeg) ≤ x3 then
      okI x2 G
    else
      (D_Mo_at kk x1 x3 (1 : Int32) G).bind (fun r => oI r (fun v4 G1 =>
      (L_Mo_weightOfBay kk k) x1 (x2 + v4) (x3 + (1 : Int32)) G1) exc)
    else none
def D_Mo_weightOfBay (kk : Nat) (a0 : Int32) (G : GS) : Res :=
  (L_Mo_weightOfBay kk kk) a0 (0 : Int32) (0 : Int32) G
def L_Mo_momentNow (kk : Nat) : Nat → Int32 → Int32 → GS → Res
  | 0 => fun _ _ _ => none
  | k + 1 => fun x1 x2 G =>
    if (7 : Int32) ≤ x2 then
      okI x1 G
    else
      (D_Mo_weightOfBay kk x2 G).bind (fun r => oI r (fun v4 G1 =>
      (L_Mo_momentNow kk k) (x1 + ((x2 - (3 : Int32)) * v4)) (x2 + (1 : Int32)) G1) exc)
def D_Mo_momentNow (kk : Nat) (G : GS) : Res :=
  (L_Mo_momentNow kk kk) (0 : Int32) (0 : Int32) G
def L_Mo_weightAll (kk : Nat) : Nat → Int32 → Int32 → GS → Res
  | 0 => fun _ _ _ => none
  | k + 1 => fun x1 x2 G =>
    if (7 : Int32) ≤ x2 then
      okI x1 G
    else
      (D_Mo_weightOfBay kk x2 G).bind (fun r => oI r (fun v4 G1 =>
      (L_Mo_weightAll kk k) (x1 + v4) (x2 + (1 : Int32)) G1) exc)
def D_Mo_weightAll (kk : Nat) (G : GS) : Res :=
  (L_Mo_weightAll kk kk) (0 : Int32) (0 : Int32) G
def L_Mo_countAll (kk : Nat) : Nat → Int32 → Int32 → GS → Res
  | 0 => fun _ _ _ => none
  | k + 1 => fun x1 x2 G =>
    if (7 : Int32) ≤ x2 then
      okI x1 G
    else
      bif inb ((9 : Int32) + x2) 156 then
      (L_Mo_countAll kk k) (x1 + (ga G (0, 51) ((9 : Int32) + x2).toNatClampNeg)) (x2 + (1 : Int32)) G
      else none
def D_Mo_countAll (kk : Nat) (G : GS) : Res :=
  (L_Mo_countAll kk kk) (0 : Int32) (0 : Int32) G
def D_Mo_isBeyond (kk : Nat) (a0 : Int32) (G : GS) : Res :=
  (D_Mo_momentNow kk G).bind (fun r => oI r (fun v4 G1 =>
  if (ga G1 (0, 51) 3) < (v4 + a0) then
    okI (1 : Int32) G1
  else
    if (-(v4 + a0)) ≤ (ga G1 (0, 51) 3) then
      okI (0 : Int32) G1
    else
      okI (1 : Int32) G1) exc)
def D_Mo_lever (kk : Nat) (a0 : Int32) (a1 : Int32) (G : GS) : Res :=
  okI ((a0 - (3 : Int32)) * a1) G
def D_Mo_lays (kk : Nat) (a0 : Int32) (a1 : Int32) (a2 : Int32) (a3 : Int32) (a4 : Int32) (G : GS) : Res :=
  bif inb ((9 : Int32) + a0) 156 then
  (D_Mo_puts kk a0 (ga G (0, 51) ((9 : Int32) + a0).toNatClampNeg) (0 : Int32) a1 G).bind (fun r => oV r (fun G1 =>
  (D_Mo_puts kk a0 (ga G (0, 51) ((9 : Int32) + a0).toNatClampNeg) (1 : Int32) a2 G1).bind (fun r => oV r (fun G4 =>
  (D_Mo_puts kk a0 (ga G (0, 51) ((9 : Int32) + a0).toNatClampNeg) (2 : Int32) a3 G4).bind (fun r => oV r (fun G7 =>
  (D_Mo_puts kk a0 (ga G (0, 51) ((9 : Int32) + a0).toNatClampNeg) (3 : Int32) a4 G7).bind (fun r => oV r (fun G10 =>
  bif inb ((9 : Int32) + a0) 156 then
  bif inb ((9 : Int32) + a0) 156 then
  okV (sa G10 (0, 51) ((9 : Int32) + a0).toNatClampNeg ((ga G10 (0, 51) ((9 : Int32) + a0).toNatClampNeg) + (1 : Int32)))
  else none
  else none) exc)) exc)) exc)) exc)
  else none
def L_Mo_takes (kk : Nat) : Nat → Int32 → Int32 → GS → Res
  | 0 => fun _ _ _ => none
  | k + 1 => fun x1 x2 G =>
    if (4 : Int32) ≤ x2 then
      okV G
    else
      bif inb ((9 : Int32) + x1) 156 then
      (D_Mo_puts kk x1 (ga G (0, 51) ((9 : Int32) + x1).toNatClampNeg) x2 (0 : Int32) G).bind (fun r => oV r (fun G1 =>
      (L_Mo_takes kk k) x1 (x2 + (1 : Int32)) G1) exc)
      else none
def D_Mo_takes (kk : Nat) (a0 : Int32) (G : GS) : Res :=
  bif inb ((9 : Int32) + a0) 156 then
  bif inb ((9 : Int32) + a0) 156 then
  (L_Mo_takes kk kk) a0 (0 : Int32) (sa G (0, 51) ((9 : Int32) + a0).toNatClampNeg ((ga G (0, 51) ((9 : Int32) + a0).toNatClampNeg) - (1 : Int32)))
  else none
  else none
def D_Mo_notLoad (kk : Nat) (a0 : Int32) (a1 : Int32) (a2 : Int32) (G : GS) : Res :=
  (D_Mo_isBay kk a0 G).bind (fun r => oI r (fun v4 G1 =>
  if v4 = 0 then
    okI (1 : Int32) G1
  else
    (D_Mo_isBetween kk a1 (1 : Int32) (20 : Int32) G1).bind (fun r => oI r (fun v8 G5 =>
    if v8 = 0 then
      okI (2 : Int32) G5
    else
      (D_Mo_isBetween kk a2 (0 : Int32) (4 : Int32) G5).bind (fun r => oI r (fun v12 G9 =>
      if v12 = 0 then
        okI (2 : Int32) G9
      else
        bif inb ((9 : Int32) + a0) 156 then
        if (ga G9 (0, 51) ((9 : Int32) + a0).toNatClampNeg) = (5 : Int32) then
          okI (3 : Int32) G9
        else
          (D_Mo_lever kk a0 a1 G9).bind (fun r => oI r (fun v16 G13 =>
          (D_Mo_isBeyond kk v16 G13).bind (fun r => oI r (fun v20 G17 =>
          if v20 = 0 then
            okI (0 : Int32) G17
          else
            okI (4 : Int32) G17) exc)) exc)
        else none) exc)) exc)) exc)
def D_Mo_loads (kk : Nat) (a0 : Int32) (a1 : Int32) (a2 : Int32) (G : GS) : Res :=
  (D_Mo_lays kk a0 (ga G (0, 51) 4) a1 a2 (ga G (0, 51) 0) G).bind (fun r => oV r (fun G1 =>
  okI ((ga (sa G1 (0, 51) 4 ((ga G1 (0, 51) 4) + (1 : Int32))) (0, 51) 4) - (1 : Int32)) (sa G1 (0, 51) 4 ((ga G1 (0, 51) 4) + (1 : Int32)))) exc)
def D_Mo_load (kk : Nat) (a0 : Int32) (a1 : Int32) (a2 : Int32) (G : GS) : Res :=
  (D_Mo_notLoad kk a0 a1 a2 (si G (0, 50) 0 (0 : Int32))).bind (fun r => oI r (fun v4 G1 =>
  if v4 = 0 then
    (D_Mo_remembers kk G1).bind (fun r => oV r (fun G5 =>
    (D_Mo_loads kk a0 a1 a2 G5).bind (fun r => oI r (fun v11 G8 =>
    okI v11 G8) exc)) exc)
  else
    (D_Mo_fails kk v4 G1).bind (fun r => oI r (fun v15 G12 =>
    okI v15 G12) exc)) exc)
def D_Mo_notUnload (kk : Nat) (a0 : Int32) (G : GS) : Res :=
  (D_Mo_isBay kk a0 G).bind (fun r => oI r (fun v4 G1 =>
  if v4 = 0 then
    okI (1 : Int32) G1
  else
    bif inb ((9 : Int32) + a0) 156 then
    if (ga G1 (0, 51) ((9 : Int32) + a0).toNatClampNeg) = 0 then
      okI (2 : Int32) G1
    else
      (D_Mo_top kk a0 (2 : Int32) G1).bind (fun r => oI r (fun v8 G5 =>
      if v8 = (ga G5 (0, 51) 1) then
        (D_Mo_top kk a0 (1 : Int32) G5).bind (fun r => oI r (fun v12 G9 =>
        (D_Mo_lever kk a0 v12 G9).bind (fun r => oI r (fun v16 G13 =>
        (D_Mo_isBeyond kk (-v16) G13).bind (fun r => oI r (fun v20 G17 =>
        if v20 = 0 then
          okI (0 : Int32) G17
        else
          okI (4 : Int32) G17) exc)) exc)) exc)
      else
        okI (3 : Int32) G5) exc)
    else none) exc)
def D_Mo_unloads (kk : Nat) (a0 : Int32) (G : GS) : Res :=
  (D_Mo_top kk a0 (0 : Int32) G).bind (fun r => oI r (fun v4 G1 =>
  (D_Mo_top kk a0 (1 : Int32) (sa G1 (0, 51) 5 ((ga G1 (0, 51) 5) + (1 : Int32)))).bind (fun r => oI r (fun v8 G5 =>
  (D_Mo_takes kk a0 (sa G5 (0, 51) 6 ((ga (sa G1 (0, 51) 5 ((ga G1 (0, 51) 5) + (1 : Int32))) (0, 51) 6) + v8))).bind (fun r => oV r (fun G9 =>
  okI v4 G9) exc)) exc)) exc)
def D_Mo_unload (kk : Nat) (a0 : Int32) (G : GS) : Res :=
  (D_Mo_notUnload kk a0 (si G (0, 50) 0 (0 : Int32))).bind (fun r => oI r (fun v4 G1 =>
  if v4 = 0 then
    (D_Mo_remembers kk G1).bind (fun r => oV r (fun G5 =>
    (D_Mo_unloads kk a0 G5).bind (fun r => oI r (fun v11 G8 =>
    okI v11 G8) exc)) exc)
  else
    (D_Mo_fails kk v4 G1).bind (fun r => oI r (fun v15 G12 =>
    okI v15 G12) exc)) exc)
def D_Mo_notShift (kk : Nat) (a0 : Int32) (a1 : Int32) (G : GS) : Res :=
  (D_Mo_isBay kk a0 G).bind (fun r => oI r (fun v4 G1 =>
  if v4 = 0 then
    okI (1 : Int32) G1
  else
    (D_Mo_isBay kk a1 G1).bind (fun r => oI r (fun v8 G5 =>
    if v8 = 0 then
      okI (1 : Int32) G5
    else
      if a0 = a1 then
        okI (2 : Int32) G5
      else
        bif inb ((9 : Int32) + a0) 156 then
        if (ga G5 (0, 51) ((9 : Int32) + a0).toNatClampNeg) = 0 then
          okI (3 : Int32) G5
        else
          bif inb ((9 : Int32) + a1) 156 then
          if (ga G5 (0, 51) ((9 : Int32) + a1).toNatClampNeg) = (5 : Int32) then
            okI (4 : Int32) G5
          else
            (D_Mo_top kk a0 (1 : Int32) G5).bind (fun r => oI r (fun v12 G9 =>
            (D_Mo_lever kk a1 v12 G9).bind (fun r => oI r (fun v16 G13 =>
            (D_Mo_lever kk a0 v12 G13).bind (fun r => oI r (fun v20 G17 =>
            (D_Mo_isBeyond kk (v16 - v20) G17).bind (fun r => oI r (fun v24 G21 =>
            if v24 = 0 then
              okI (0 : Int32) G21
            else
              okI (5 : Int32) G21) exc)) exc)) exc)) exc)
          else none
        else none) exc)) exc)
def D_Mo_shifts (kk : Nat) (a0 : Int32) (a1 : Int32) (G : GS) : Res :=
  (D_Mo_top kk a0 (0 : Int32) G).bind (fun r => oI r (fun v4 G1 =>
  (D_Mo_top kk a0 (1 : Int32) G1).bind (fun r => oI r (fun v8 G5 =>
  (D_Mo_top kk a0 (2 : Int32) G5).bind (fun r => oI r (fun v12 G9 =>
  (D_Mo_top kk a0 (3 : Int32) G9).bind (fun r => oI r (fun v16 G13 =>
  (D_Mo_lays kk a1 v4 v8 v12 v16 G13).bind (fun r => oV r (fun G17 =>
  (D_Mo_takes kk a0 G17).bind (fun r => oV r (fun G20 =>
  okI v4 G20) exc)) exc)) exc)) exc)) exc)) exc)
def D_Mo_shift (kk : Nat) (a0 : Int32) (a1 : Int32) (G : GS) : Res :=
  (D_Mo_notShift kk a0 a1 (si G (0, 50) 0 (0 : Int32))).bind (fun r => oI r (fun v4 G1 =>
  if v4 = 0 then
    (D_Mo_remembers kk G1).bind (fun r => oV r (fun G5 =>
    (D_Mo_shifts kk a0 a1 G5).bind (fun r => oI r (fun v11 G8 =>
    okI v11 G8) exc)) exc)
  else
    (D_Mo_fails kk v4 G1).bind (fun r => oI r (fun v15 G12 =>
    okI v15 G12) exc)) exc)
def D_Mo_portBehind (kk : Nat) (a0 : Int32) (G : GS) : Res :=
  if (ga G (0, 51) 2) = (1 : Int32) then
    okI (((ga G (0, 51) 1) + ((4 : Int32) * a0)) - ((ga G (0, 51) 1) + ((4 : Int32) * a0)) / (5 : Int32) * (5 : Int32)) G
  else
    okI (((ga G (0, 51) 1) + ((1 : Int32) * a0)) - ((ga G (0, 51) 1) + ((1 : Int32) * a0)) / (5 : Int32) * (5 : Int32)) G
def D_Mo_notSail (kk : Nat) (a0 : Int32) (G : GS) : Res :=
  (D_Mo_isBetween kk a0 (1 : Int32) (20 : Int32) G).bind (fun r => oI r (fun v4 G1 =>
  if v4 = 0 then
    okI (1 : Int32) G1
  else
    okI (0 : Int32) G1) exc)
def D_Mo_sails (kk : Nat) (a0 : Int32) (G : GS) : Res :=
  (D_Mo_portBehind kk a0 G).bind (fun r => oI r (fun v4 G1 =>
  okI (ga (sa (sa G1 (0, 51) 1 v4) (0, 51) 0 ((ga (sa G1 (0, 51) 1 v4) (0, 51) 0) + a0)) (0, 51) 1) (sa (sa G1 (0, 51) 1 v4) (0, 51) 0 ((ga (sa G1 (0, 51) 1 v4) (0, 51) 0) + a0))) exc)
def D_Mo_sail (kk : Nat) (a0 : Int32) (G : GS) : Res :=
  (D_Mo_notSail kk a0 (si G (0, 50) 0 (0 : Int32))).bind (fun r => oI r (fun v4 G1 =>
  if v4 = 0 then
    (D_Mo_remembers kk G1).bind (fun r => oV r (fun G5 =>
    (D_Mo_sails kk a0 G5).bind (fun r => oI r (fun v11 G8 =>
    okI v11 G8) exc)) exc)
  else
    (D_Mo_fails kk (1 : Int32) G1).bind (fun r => oI r (fun v15 G12 =>
    okI v15 G12) exc)) exc)
def D_Mo_turns (kk : Nat) (G : GS) : Res :=
  okI (ga (sa G (0, 51) 2 ((1 : Int32) - (ga G (0, 51) 2))) (0, 51) 2) (sa G (0, 51) 2 ((1 : Int32) - (ga G (0, 51) 2)))
def D_Mo_turn (kk : Nat) (G : GS) : Res :=
  (D_Mo_remembers kk (si G (0, 50) 0 (0 : Int32))).bind (fun r => oV r (fun G1 =>
  (D_Mo_turns kk G1).bind (fun r => oI r (fun v7 G4 =>
  if v7 = 0 then
    okI (1 : Int32) G4
  else
    okI (0 : Int32) G4) exc)) exc)
def D_Mo_notLimit (kk : Nat) (a0 : Int32) (G : GS) : Res :=
  (D_Mo_isBetween kk a0 (10 : Int32) (99 : Int32) G).bind (fun r => oI r (fun v4 G1 =>
  if v4 = 0 then
    okI (1 : Int32) G1
  else
    (D_Mo_momentNow kk G1).bind (fun r => oI r (fun v8 G5 =>
    if a0 < v8 then
      okI (2 : Int32) G5
    else
      if (-v8) ≤ a0 then
        okI (0 : Int32) G5
      else
        okI (2 : Int32) G5) exc)) exc)
def D_Mo_setsLimit (kk : Nat) (a0 : Int32) (G : GS) : Res :=
  okI (ga G (0, 51) 3) (sa G (0, 51) 3 a0)
def D_Mo_setLimit (kk : Nat) (a0 : Int32) (G : GS) : Res :=
  (D_Mo_notLimit kk a0 (si G (0, 50) 0 (0 : Int32))).bind (fun r => oI r (fun v4 G1 =>
  if v4 = 0 then
    (D_Mo_remembers kk G1).bind (fun r => oV r (fun G5 =>
    (D_Mo_setsLimit kk a0 G5).bind (fun r => oI r (fun v11 G8 =>
    okI v11 G8) exc)) exc)
  else
    (D_Mo_fails kk v4 G1).bind (fun r => oI r (fun v15 G12 =>
    okI v15 G12) exc)) exc)
def D_Mo_notDrill (kk : Nat) (a0 : Int32) (G : GS) : Res :=
  (D_Mo_isBetween kk a0 (-99 : Int32) (99 : Int32) G).bind (fun r => oI r (fun v4 G1 =>
  if v4 = 0 then
    okI (1 : Int32) G1
  else
    okI (0 : Int32) G1) exc)
def D_Mo_drills (kk : Nat) (a0 : Int32) (G : GS) : Res :=
  (D_Mo_isBeyond kk a0 (sa G (0, 51) 7 ((ga G (0, 51) 7) + (1 : Int32)))).bind (fun r => oI r (fun v4 G1 =>
  if v4 = 0 then
    okI (0 : Int32) (sa G1 (0, 51) 8 ((ga G1 (0, 51) 8) + (0 : Int32)))
  else
    okI (1 : Int32) (sa G1 (0, 51) 8 ((ga G1 (0, 51) 8) + (1 : Int32)))) exc)
def D_Mo_drill (kk : Nat) (a0 : Int32) (G : GS) : Res :=
  (D_Mo_notDrill kk a0 (si G (0, 50) 0 (0 : Int32))).bind (fun r => oI r (fun v4 G1 =>
  if v4 = 0 then
    (D_Mo_remembers kk G1).bind (fun r => oV r (fun G5 =>
    (D_Mo_drills kk a0 G5).bind (fun r => oI r (fun v11 G8 =>
    if v11 = (1 : Int32) then
      okI (1 : Int32) G8
    else
      okI (0 : Int32) G8) exc)) exc)
  else
    (D_Mo_fails kk (1 : Int32) G1).bind (fun r => oI r (fun v15 G12 =>
    if v15 ≤ 0 then
      okI (0 : Int32) G12
    else
      okI (1 : Int32) G12) exc)) exc)
def D_Mo_pillowCount (kk : Nat) (G : GS) : Res :=
  (D_Mo_countAll kk (si G (0, 50) 0 (0 : Int32))).bind (fun r => oI r (fun v4 G1 =>
  okI v4 G1) exc)
def D_Mo_stackHeight (kk : Nat) (a0 : Int32) (G : GS) : Res :=
  (D_Mo_isBay kk a0 (si G (0, 50) 0 (0 : Int32))).bind (fun r => oI r (fun v4 G1 =>
  if v4 = 0 then
    (D_Mo_fails kk (1 : Int32) G1).bind (fun r => oI r (fun v8 G5 =>
    okI v8 G5) exc)
  else
    bif inb ((9 : Int32) + a0) 156 then
    okI (ga G1 (0, 51) ((9 : Int32) + a0).toNatClampNeg) G1
    else none) exc)
def D_Mo_pillowAt (kk : Nat) (a0 : Int32) (a1 : Int32) (G : GS) : Res :=
  (D_Mo_isBay kk a0 (si G (0, 50) 0 (0 : Int32))).bind (fun r => oI r (fun v4 G1 =>
  if v4 = 0 then
    (D_Mo_fails kk (1 : Int32) G1).bind (fun r => oI r (fun v20 G17 =>
    okI v20 G17) exc)
  else
    bif inb ((9 : Int32) + a0) 156 then
    (D_Mo_isBetween kk a1 (0 : Int32) ((ga G1 (0, 51) ((9 : Int32) + a0).toNatClampNeg) - (1 : Int32)) G1).bind (fun r => oI r (fun v8 G5 =>
    if v8 = 0 then
      (D_Mo_fails kk (2 : Int32) G5).bind (fun r => oI r (fun v12 G9 =>
      okI v12 G9) exc)
    else
      (D_Mo_at kk a0 a1 (0 : Int32) G5).bind (fun r => oI r (fun v16 G13 =>
      okI v16 G13) exc)) exc)
    else none) exc)
def L_Mo_placeOf (kk : Nat) : Nat → (Int32 → Int32 → GS → Res) × (Int32 → Int32 → Int32 → GS → Res)
  | 0 => (fun _ _ _ => none, fun _ _ _ _ => none)
  | k + 1 => (fun x1 x2 G =>
    if (7 : Int32) ≤ x2 then
      okI (-1 : Int32) G
    else
      (L_Mo_placeOf kk k).2 x1 x2 (0 : Int32) G,
    fun x1 x2 x3 G =>
    bif inb ((9 : Int32) + x2) 156 then
    if (ga G (0, 51) ((9 : Int32) + x2).toNatClampNeg) ≤ x3 then
      (L_Mo_placeOf kk k).1 x1 (x2 + (1 : Int32)) G
    else
      (D_Mo_at kk x2 x3 (0 : Int32) G).bind (fun r => oI r (fun v4 G1 =>
      if v4 = x1 then
        okI (((5 : Int32) * x2) + x3) G1
      else
        (L_Mo_placeOf kk k).2 x1 x2 (x3 + (1 : Int32)) G1) exc)
    else none)
def D_Mo_placeOf (kk : Nat) (a0 : Int32) (G : GS) : Res :=
  (L_Mo_placeOf kk kk).1 a0 (0 : Int32) G
def D_Mo_asks (kk : Nat) (a0 : Int32) (a1 : Int32) (G : GS) : Res :=
  (D_Mo_placeOf kk a0 (si G (0, 50) 0 (0 : Int32))).bind (fun r => oI r (fun v4 G1 =>
  if 0 ≤ v4 then
    (D_Mo_at kk (v4 / (5 : Int32)) (v4 - v4 / (5 : Int32) * (5 : Int32)) a1 G1).bind (fun r => oI r (fun v8 G5 =>
    okI v8 G5) exc)
  else
    (D_Mo_fails kk (1 : Int32) G1).bind (fun r => oI r (fun v12 G9 =>
    okI v12 G9) exc)) exc)
def D_Mo_weightOf (kk : Nat) (a0 : Int32) (G : GS) : Res :=
  (D_Mo_asks kk a0 (1 : Int32) G).bind (fun r => oI r (fun v4 G1 =>
  okI v4 G1) exc)
def D_Mo_destinationOf (kk : Nat) (a0 : Int32) (G : GS) : Res :=
  (D_Mo_asks kk a0 (2 : Int32) G).bind (fun r => oI r (fun v4 G1 =>
  okI v4 G1) exc)
def D_Mo_bayOf (kk : Nat) (a0 : Int32) (G : GS) : Res :=
  (D_Mo_placeOf kk a0 (si G (0, 50) 0 (0 : Int32))).bind (fun r => oI r (fun v4 G1 =>
  if 0 ≤ v4 then
    okI (v4 / (5 : Int32)) G1
  else
    (D_Mo_fails kk (1 : Int32) G1).bind (fun r => oI r (fun v8 G5 =>
    okI v8 G5) exc)) exc)
def D_Mo_positionOf (kk : Nat) (a0 : Int32) (G : GS) : Res :=
  (D_Mo_placeOf kk a0 (si G (0, 50) 0 (0 : Int32))).bind (fun r => oI r (fun v4 G1 =>
  if 0 ≤ v4 then
    okI (v4 - v4 / (5 : Int32) * (5 : Int32)) G1
  else
    (D_Mo_fails kk (1 : Int32) G1).bind (fun r => oI r (fun v8 G5 =>
    okI v8 G5) exc)) exc)
def D_Mo_ageOf (kk : Nat) (a0 : Int32) (G : GS) : Res :=
  (D_Mo_asks kk a0 (3 : Int32) G).bind (fun r => oI r (fun v4 G1 =>
  if (gi G1 (0, 50) 0) = 0 then
    okI ((ga G1 (0, 51) 0) - v4) G1
  else
    okI (0 : Int32) G1) exc)
def D_Mo_moment (kk : Nat) (G : GS) : Res :=
  (D_Mo_momentNow kk (si G (0, 50) 0 (0 : Int32))).bind (fun r => oI r (fun v4 G1 =>
  okI v4 G1) exc)
def D_Mo_momentByBays (kk : Nat) (G : GS) : Res :=
  (D_Mo_moment kk G).bind (fun r => oI r (fun v4 G1 =>
  okI v4 G1) exc)
def D_Mo_totalWeight (kk : Nat) (G : GS) : Res :=
  (D_Mo_weightAll kk (si G (0, 50) 0 (0 : Int32))).bind (fun r => oI r (fun v4 G1 =>
  okI v4 G1) exc)
def L_Mo_weightFor (kk : Nat) : Nat → (Int32 → Int32 → Int32 → GS → Res) × (Int32 → Int32 → Int32 → Int32 → GS → Res)
  | 0 => (fun _ _ _ _ => none, fun _ _ _ _ _ => none)
  | k + 1 => (fun x1 x2 x3 G =>
    if (7 : Int32) ≤ x3 then
      okI x2 G
    else
      (L_Mo_weightFor kk k).2 x1 x2 x3 (0 : Int32) G,
    fun x1 x2 x3 x4 G =>
    bif inb ((9 : Int32) + x3) 156 then
    if (ga G (0, 51) ((9 : Int32) + x3).toNatClampNeg) ≤ x4 then
      (L_Mo_weightFor kk k).1 x1 x2 (x3 + (1 : Int32)) G
    else
      (D_Mo_at kk x3 x4 (2 : Int32) G).bind (fun r => oI r (fun v12 G9 =>
      if v12 = x1 then
        (D_Mo_at kk x3 x4 (1 : Int32) G9).bind (fun r => oI r (fun v16 G13 =>
        (L_Mo_weightFor kk k).2 x1 (x2 + v16) x3 (x4 + (1 : Int32)) G13) exc)
      else
        (L_Mo_weightFor kk k).2 x1 (x2 + (0 : Int32)) x3 (x4 + (1 : Int32)) G9) exc)
    else none)
def D_Mo_weightFor (kk : Nat) (a0 : Int32) (G : GS) : Res :=
  (D_Mo_isBetween kk a0 (0 : Int32) (4 : Int32) (si G (0, 50) 0 (0 : Int32))).bind (fun r => oI r (fun v4 G1 =>
  if v4 = 0 then
    (D_Mo_fails kk (1 : Int32) G1).bind (fun r => oI r (fun v8 G5 =>
    okI v8 G5) exc)
  else
    (L_Mo_weightFor kk kk).1 a0 (0 : Int32) (0 : Int32) G1) exc)
def D_Mo_limit (kk : Nat) (G : GS) : Res :=
  okI (ga (si G (0, 50) 0 (0 : Int32)) (0, 51) 3) (si G (0, 50) 0 (0 : Int32))
def D_Mo_listAngle (kk : Nat) (G : GS) : Res :=
  (D_Mo_momentNow kk (si G (0, 50) 0 (0 : Int32))).bind (fun r => oI r (fun v4 G1 =>
  if (FP.fmul (1110704128 : UInt32) (FP.i2f v4)) &&& 0x7fffffff ≤ 0x7f800000 then
  (D_Mo_weightAll kk G1).bind (fun r => oI r (fun v8 G5 =>
  if (FP.fdiv (FP.fmul (1110704128 : UInt32) (FP.i2f v4)) (FP.i2f (v8 + (40 : Int32)))) &&& 0x7fffffff ≤ 0x7f800000 then
  okF (FP.fdiv (FP.fmul (1110704128 : UInt32) (FP.i2f v4)) (FP.i2f (v8 + (40 : Int32)))) G5
  else none) exc)
  else none) exc)
def D_Mo_greatestPush (kk : Nat) (G : GS) : Res :=
  (D_Mo_momentNow kk (si G (0, 50) 0 (0 : Int32))).bind (fun r => oI r (fun v4 G1 =>
  okI ((ga (si G (0, 50) 0 (0 : Int32)) (0, 51) 3) - v4) G1) exc)
def D_Mo_magnitude (kk : Nat) (a0 : Int32) (G : GS) : Res :=
  if 0 ≤ a0 then
    okI a0 G
  else
    okI (-a0) G
def D_Mo_isBetter (kk : Nat) (a0 : Int32) (a1 : Int32) (a2 : Int32) (G : GS) : Res :=
  (D_Mo_momentNow kk G).bind (fun r => oI r (fun v4 G1 =>
  (D_Mo_lever kk a1 a2 G1).bind (fun r => oI r (fun v8 G5 =>
  (D_Mo_magnitude kk (v4 + v8) G5).bind (fun r => oI r (fun v12 G9 =>
  (D_Mo_momentNow kk G9).bind (fun r => oI r (fun v16 G13 =>
  (D_Mo_lever kk a0 a2 G13).bind (fun r => oI r (fun v20 G17 =>
  (D_Mo_magnitude kk (v16 + v20) G17).bind (fun r => oI r (fun v24 G21 =>
  if (v12 - v24) = 0 then
    bif inb ((9 : Int32) + a0) 156 then
    bif inb ((9 : Int32) + a1) 156 then
    if (ga G21 (0, 51) ((9 : Int32) + a1).toNatClampNeg) ≤ (ga G21 (0, 51) ((9 : Int32) + a0).toNatClampNeg) then
      okI (0 : Int32) G21
    else
      okI (1 : Int32) G21
    else none
    else none
  else
    if (v12 - v24) ≤ 0 then
      okI (0 : Int32) G21
    else
      okI (1 : Int32) G21) exc)) exc)) exc)) exc)) exc)) exc)
def L_Mo_levelingBay (kk : Nat) : Nat → Int32 → Int32 → Int32 → GS → Res
  | 0 => fun _ _ _ _ => none
  | k + 1 => fun x1 x2 x3 G =>
    if (7 : Int32) ≤ x3 then
      if 0 ≤ x2 then
        okI x2 G
      else
        (D_Mo_fails kk (2 : Int32) G).bind (fun r => oI r (fun v12 G9 =>
        okI v12 G9) exc)
    else
      bif inb ((9 : Int32) + x3) 156 then
      if (ga G (0, 51) ((9 : Int32) + x3).toNatClampNeg) = (5 : Int32) then
        (L_Mo_levelingBay kk k) x1 x2 (x3 + (1 : Int32)) G
      else
        (D_Mo_lever kk x3 x1 G).bind (fun r => oI r (fun v16 G13 =>
        (D_Mo_isBeyond kk v16 G13).bind (fun r => oI r (fun v20 G17 =>
        if v20 = 0 then
          if x2 < 0 then
            (L_Mo_levelingBay kk k) x1 x3 (x3 + (1 : Int32)) G17
          else
            (D_Mo_isBetter kk x3 x2 x1 G17).bind (fun r => oI r (fun v24 G21 =>
            if v24 = 0 then
              (L_Mo_levelingBay kk k) x1 x2 (x3 + (1 : Int32)) G21
            else
              (L_Mo_levelingBay kk k) x1 x3 (x3 + (1 : Int32)) G21) exc)
        else
          (L_Mo_levelingBay kk k) x1 x2 (x3 + (1 : Int32)) G17) exc)) exc)
      else none
def D_Mo_levelingBay (kk : Nat) (a0 : Int32) (G : GS) : Res :=
  (D_Mo_isBetween kk a0 (1 : Int32) (20 : Int32) (si G (0, 50) 0 (0 : Int32))).bind (fun r => oI r (fun v4 G1 =>
  if v4 = 0 then
    (D_Mo_fails kk (1 : Int32) G1).bind (fun r => oI r (fun v8 G5 =>
    okI v8 G5) exc)
  else
    (L_Mo_levelingBay kk kk) a0 (-1 : Int32) (0 : Int32) G1) exc)
def D_Mo_port (kk : Nat) (G : GS) : Res :=
  okI (ga (si G (0, 50) 0 (0 : Int32)) (0, 51) 1) (si G (0, 50) 0 (0 : Int32))
def D_Mo_day (kk : Nat) (G : GS) : Res :=
  okI (ga (si G (0, 50) 0 (0 : Int32)) (0, 51) 0) (si G (0, 50) 0 (0 : Int32))
def D_Mo_isAscending (kk : Nat) (G : GS) : Res :=
  if (ga (si G (0, 50) 0 (0 : Int32)) (0, 51) 2) = 0 then
    okI (1 : Int32) (si G (0, 50) 0 (0 : Int32))
  else
    okI (0 : Int32) (si G (0, 50) 0 (0 : Int32))
def L_Mo_legs (kk : Nat) : Nat → Int32 → Int32 → GS → Res
  | 0 => fun _ _ _ => none
  | k + 1 => fun x1 x2 G =>
    (D_Mo_portBehind kk x2 G).bind (fun r => oI r (fun v4 G1 =>
    if v4 = x1 then
      okI x2 G1
    else
      (L_Mo_legs kk k) x1 (x2 + (1 : Int32)) G1) exc)
def D_Mo_legs (kk : Nat) (a0 : Int32) (G : GS) : Res :=
  (L_Mo_legs kk kk) a0 (0 : Int32) G
def D_Mo_legsTo (kk : Nat) (a0 : Int32) (G : GS) : Res :=
  (D_Mo_isBetween kk a0 (0 : Int32) (4 : Int32) (si G (0, 50) 0 (0 : Int32))).bind (fun r => oI r (fun v4 G1 =>
  if v4 = 0 then
    (D_Mo_fails kk (1 : Int32) G1).bind (fun r => oI r (fun v8 G5 =>
    okI v8 G5) exc)
  else
    (D_Mo_legs kk a0 G1).bind (fun r => oI r (fun v12 G9 =>
    okI v12 G9) exc)) exc)
def D_Mo_portAfter (kk : Nat) (a0 : Int32) (G : GS) : Res :=
  (D_Mo_isBetween kk a0 (0 : Int32) (99 : Int32) (si G (0, 50) 0 (0 : Int32))).bind (fun r => oI r (fun v4 G1 =>
  if v4 = 0 then
    (D_Mo_fails kk (1 : Int32) G1).bind (fun r => oI r (fun v8 G5 =>
    okI v8 G5) exc)
  else
    (D_Mo_portBehind kk a0 G1).bind (fun r => oI r (fun v12 G9 =>
    okI v12 G9) exc)) exc)
def L_Mo_inTheWay (kk : Nat) : Nat → Int32 → Int32 → Int32 → Int32 → GS → Res
  | 0 => fun _ _ _ _ _ => none
  | k + 1 => fun x1 x3 x4 x5 G =>
    bif inb ((9 : Int32) + x1) 156 then
    if (ga G (0, 51) ((9 : Int32) + x1).toNatClampNeg) ≤ x5 then
      okI x4 G
    else
      (D_Mo_at kk x1 x5 (2 : Int32) G).bind (fun r => oI r (fun v12 G9 =>
      (D_Mo_legs kk v12 G9).bind (fun r => oI r (fun v16 G13 =>
      if v16 ≤ x3 then
        (L_Mo_inTheWay kk k) x1 x3 (x4 + (0 : Int32)) (x5 + (1 : Int32)) G13
      else
        (L_Mo_inTheWay kk k) x1 x3 (x4 + (1 : Int32)) (x5 + (1 : Int32)) G13) exc)) exc)
    else none
def D_Mo_inTheWay (kk : Nat) (a0 : Int32) (a1 : Int32) (G : GS) : Res :=
  (D_Mo_at kk a0 a1 (2 : Int32) G).bind (fun r => oI r (fun v4 G1 =>
  (D_Mo_legs kk v4 G1).bind (fun r => oI r (fun v8 G5 =>
  (L_Mo_inTheWay kk kk) a0 v8 (0 : Int32) (a1 + (1 : Int32)) G5) exc)) exc)
def D_Mo_pillowsInTheWay (kk : Nat) (a0 : Int32) (G : GS) : Res :=
  (D_Mo_placeOf kk a0 (si G (0, 50) 0 (0 : Int32))).bind (fun r => oI r (fun v4 G1 =>
  if 0 ≤ v4 then
    (D_Mo_inTheWay kk (v4 / (5 : Int32)) (v4 - v4 / (5 : Int32) * (5 : Int32)) G1).bind (fun r => oI r (fun v8 G5 =>
    okI v8 G5) exc)
  else
    (D_Mo_fails kk (1 : Int32) G1).bind (fun r => oI r (fun v12 G9 =>
    okI v12 G9) exc)) exc)
def L_Mo_pairsInTheWay (kk : Nat) : Nat → (Int32 → Int32 → GS → Res) × (Int32 → Int32 → Int32 → GS → Res)
  | 0 => (fun _ _ _ => none, fun _ _ _ _ => none)
  | k + 1 => (fun x1 x2 G =>
    if (7 : Int32) ≤ x2 then
      okI x1 G
    else
      (L_Mo_pairsInTheWay kk k).2 x1 x2 (0 : Int32) G,
    fun x1 x2 x3 G =>
    bif inb ((9 : Int32) + x2) 156 then
    if (ga G (0, 51) ((9 : Int32) + x2).toNatClampNeg) ≤ x3 then
      (L_Mo_pairsInTheWay kk k).1 x1 (x2 + (1 : Int32)) G
    else
      (D_Mo_inTheWay kk x2 x3 G).bind (fun r => oI r (fun v4 G1 =>
      (L_Mo_pairsInTheWay kk k).2 (x1 + v4) x2 (x3 + (1 : Int32)) G1) exc)
    else none)
def D_Mo_pairsInTheWay (kk : Nat) (G : GS) : Res :=
  (L_Mo_pairsInTheWay kk kk).1 (0 : Int32) (0 : Int32) (si G (0, 50) 0 (0 : Int32))
def D_Mo_pairsInTheWayByStacks (kk : Nat) (G : GS) : Res :=
  (D_Mo_pairsInTheWay kk G).bind (fun r => oI r (fun v4 G1 =>
  okI v4 G1) exc)
def D_Mo_isAhead (kk : Nat) (a0 : Int32) (a1 : Int32) (G : GS) : Res :=
  (D_Mo_at kk (a1 / (5 : Int32)) (a1 - a1 / (5 : Int32) * (5 : Int32)) (2 : Int32) G).bind (fun r => oI r (fun v4 G1 =>
  (D_Mo_legs kk v4 G1).bind (fun r => oI r (fun v8 G5 =>
  (D_Mo_at kk (a0 / (5 : Int32)) (a0 - a0 / (5 : Int32) * (5 : Int32)) (2 : Int32) G5).bind (fun r => oI r (fun v12 G9 =>
  (D_Mo_legs kk v12 G9).bind (fun r => oI r (fun v16 G13 =>
  (D_Mo_at kk (a1 / (5 : Int32)) (a1 - a1 / (5 : Int32) * (5 : Int32)) (3 : Int32) G13).bind (fun r => oI r (fun v20 G17 =>
  (D_Mo_at kk (a0 / (5 : Int32)) (a0 - a0 / (5 : Int32) * (5 : Int32)) (3 : Int32) G17).bind (fun r => oI r (fun v24 G21 =>
  if (v8 - v16) = 0 then
    if (v20 - v24) = 0 then
      (D_Mo_at kk (a0 / (5 : Int32)) (a0 - a0 / (5 : Int32) * (5 : Int32)) (0 : Int32) G21).bind (fun r => oI r (fun v28 G25 =>
      (D_Mo_at kk (a1 / (5 : Int32)) (a1 - a1 / (5 : Int32) * (5 : Int32)) (0 : Int32) G25).bind (fun r => oI r (fun v32 G29 =>
      if v32 ≤ v28 then
        okI (0 : Int32) G29
      else
        okI (1 : Int32) G29) exc)) exc)
    else
      if (v20 - v24) ≤ 0 then
        okI (0 : Int32) G21
      else
        okI (1 : Int32) G21
  else
    if (v8 - v16) ≤ 0 then
      okI (0 : Int32) G21
    else
      okI (1 : Int32) G21) exc)) exc)) exc)) exc)) exc)) exc)
def D_Mo_isTaken (kk : Nat) (a0 : Int32) (G : GS) : Res :=
  bif inb ((9 : Int32) + (a0 / (5 : Int32))) 156 then
  if (ga G (0, 51) ((9 : Int32) + (a0 / (5 : Int32))).toNatClampNeg) ≤ (a0 - a0 / (5 : Int32) * (5 : Int32)) then
    okI (0 : Int32) G
  else
    okI (1 : Int32) G
  else none
def L_Mo_unloadableCount (kk : Nat) : Nat → Int32 → Int32 → GS → Res
  | 0 => fun _ _ _ => none
  | k + 1 => fun x1 x2 G =>
    if (7 : Int32) ≤ x2 then
      okI x1 G
    else
      (D_Mo_notUnload kk x2 G).bind (fun r => oI r (fun v4 G1 =>
      if v4 = 0 then
        (L_Mo_unloadableCount kk k) (x1 + (1 : Int32)) (x2 + (1 : Int32)) G1
      else
        (L_Mo_unloadableCount kk k) (x1 + (0 : Int32)) (x2 + (1 : Int32)) G1) exc)
def D_Mo_unloadableCount (kk : Nat) (G : GS) : Res :=
  (L_Mo_unloadableCount kk kk) (0 : Int32) (0 : Int32) (si G (0, 50) 0 (0 : Int32))
def L_Mo_oldestIn (kk : Nat) : Nat → Int32 → Int32 → Int32 → GS → Res
  | 0 => fun _ _ _ _ => none
  | k + 1 => fun x1 x2 x3 G =>
    bif inb ((9 : Int32) + x1) 156 then
    if (ga G (0, 51) ((9 : Int32) + x1).toNatClampNeg) ≤ x3 then
      (D_Mo_at kk x1 x2 (0 : Int32) G).bind (fun r => oI r (fun v16 G13 =>
      okI v16 G13) exc)
    else
      (D_Mo_at kk x1 x2 (3 : Int32) G).bind (fun r => oI r (fun v20 G17 =>
      (D_Mo_at kk x1 x3 (3 : Int32) G17).bind (fun r => oI r (fun v24 G21 =>
      if 0 < (v20 - v24) then
        (L_Mo_oldestIn kk k) x1 x3 (x3 + (1 : Int32)) G21
      else
        if (v20 - v24) = 0 then
          (D_Mo_at kk x1 x3 (0 : Int32) G21).bind (fun r => oI r (fun v28 G25 =>
          (D_Mo_at kk x1 x2 (0 : Int32) G25).bind (fun r => oI r (fun v32 G29 =>
          if v32 ≤ v28 then
            (L_Mo_oldestIn kk k) x1 x2 (x3 + (1 : Int32)) G29
          else
            (L_Mo_oldestIn kk k) x1 x3 (x3 + (1 : Int32)) G29) exc)) exc)
        else
          (L_Mo_oldestIn kk k) x1 x2 (x3 + (1 : Int32)) G21) exc)) exc)
    else none
def D_Mo_oldestIn (kk : Nat) (a0 : Int32) (G : GS) : Res :=
  (D_Mo_isBay kk a0 (si G (0, 50) 0 (0 : Int32))).bind (fun r => oI r (fun v4 G1 =>
  if v4 = 0 then
    (D_Mo_fails kk (1 : Int32) G1).bind (fun r => oI r (fun v12 G9 =>
    okI v12 G9) exc)
  else
    bif inb ((9 : Int32) + a0) 156 then
    if (ga G1 (0, 51) ((9 : Int32) + a0).toNatClampNeg) = 0 then
      (D_Mo_fails kk (2 : Int32) G1).bind (fun r => oI r (fun v8 G5 =>
      okI v8 G5) exc)
    else
      (L_Mo_oldestIn kk kk) a0 (0 : Int32) (1 : Int32) G1
    else none) exc)
def L_Mo_heaviestPort (kk : Nat) : Nat → Int32 → Int32 → GS → Res
  | 0 => fun _ _ _ => none
  | k + 1 => fun x1 x2 G =>
    if (5 : Int32) ≤ x2 then
      okI x1 (si G (0, 50) 0 (0 : Int32))
    else
      (D_Mo_portBehind kk x2 G).bind (fun r => oI r (fun v12 G9 =>
      (D_Mo_weightFor kk v12 G9).bind (fun r => oI r (fun v16 G13 =>
      (D_Mo_weightFor kk x1 G13).bind (fun r => oI r (fun v20 G17 =>
      if v16 ≤ v20 then
        (L_Mo_heaviestPort kk k) x1 (x2 + (1 : Int32)) G17
      else
        (L_Mo_heaviestPort kk k) v12 (x2 + (1 : Int32)) G17) exc)) exc)) exc)
def D_Mo_heaviestPort (kk : Nat) (G : GS) : Res :=
  (D_Mo_countAll kk G).bind (fun r => oI r (fun v4 G1 =>
  if v4 = 0 then
    (D_Mo_fails kk (1 : Int32) G1).bind (fun r => oI r (fun v8 G5 =>
    okI v8 G5) exc)
  else
    (L_Mo_heaviestPort kk kk) (ga G1 (0, 51) 1) (1 : Int32) G1) exc)
def L_Mo_possibleShifts (kk : Nat) : Nat → (Int32 → Int32 → GS → Res) × (Int32 → Int32 → Int32 → GS → Res)
  | 0 => (fun _ _ _ => none, fun _ _ _ _ => none)
  | k + 1 => (fun x1 x2 G =>
    if (7 : Int32) ≤ x2 then
      okI x1 G
    else
      (L_Mo_possibleShifts kk k).2 x1 x2 (0 : Int32) G,
    fun x1 x2 x3 G =>
    if (7 : Int32) ≤ x3 then
      (L_Mo_possibleShifts kk k).1 x1 (x2 + (1 : Int32)) G
    else
      (D_Mo_notShift kk x2 x3 G).bind (fun r => oI r (fun v4 G1 =>
      if v4 = 0 then
        (L_Mo_possibleShifts kk k).2 (x1 + (1 : Int32)) x2 (x3 + (1 : Int32)) G1
      else
        (L_Mo_possibleShifts kk k).2 (x1 + (0 : Int32)) x2 (x3 + (1 : Int32)) G1) exc))
def D_Mo_possibleShifts (kk : Nat) (G : GS) : Res :=
  (L_Mo_possibleShifts kk kk).1 (0 : Int32) (0 : Int32) (si G (0, 50) 0 (0 : Int32))
def L_Mo_pillowByTurn (kk : Nat) : Nat → (Int32 → Int32 → GS → Res) × (Int32 → Int32 → Int32 → Int32 → GS → Res)
  | 0 => (fun _ _ _ => none, fun _ _ _ _ _ => none)
  | k + 1 => (fun x1 x2 G =>
    if (35 : Int32) ≤ x2 then
      (D_Mo_fails kk (1 : Int32) G).bind (fun r => oI r (fun v4 G1 =>
      okI v4 G1) exc)
    else
      (D_Mo_isTaken kk x2 G).bind (fun r => oI r (fun v8 G5 =>
      if v8 = 0 then
        (L_Mo_pillowByTurn kk k).1 x1 (x2 + (1 : Int32)) G5
      else
        (L_Mo_pillowByTurn kk k).2 x1 x2 (0 : Int32) (0 : Int32) G5) exc),
    fun x1 x2 x3 x4 G =>
    if (35 : Int32) ≤ x4 then
      if x3 = x1 then
        (D_Mo_at kk (x2 / (5 : Int32)) (x2 - x2 / (5 : Int32) * (5 : Int32)) (0 : Int32) G).bind (fun r => oI r (fun v12 G9 =>
        okI v12 G9) exc)
      else
        (L_Mo_pillowByTurn kk k).1 x1 (x2 + (1 : Int32)) G
    else
      (D_Mo_isTaken kk x4 G).bind (fun r => oI r (fun v16 G13 =>
      if v16 = 0 then
        (L_Mo_pillowByTurn kk k).2 x1 x2 (x3 + (0 : Int32)) (x4 + (1 : Int32)) G13
      else
        (D_Mo_isAhead kk x4 x2 G13).bind (fun r => oI r (fun v20 G17 =>
        if v20 = 0 then
          (L_Mo_pillowByTurn kk k).2 x1 x2 (x3 + (0 : Int32)) (x4 + (1 : Int32)) G17
        else
          (L_Mo_pillowByTurn kk k).2 x1 x2 (x3 + (1 : Int32)) (x4 + (1 : Int32)) G17) exc)) exc))
def D_Mo_pillowByTurn (kk : Nat) (a0 : Int32) (G : GS) : Res :=
  (L_Mo_pillowByTurn kk kk).1 a0 (0 : Int32) (si G (0, 50) 0 (0 : Int32))
def L_Mo_bayByWeight (kk : Nat) : Nat → (Int32 → Int32 → GS → Res) × (Int32 → Int32 → Int32 → Int32 → GS → Res)
  | 0 => (fun _ _ _ => none, fun _ _ _ _ _ => none)
  | k + 1 => (fun x1 x2 G =>
    if (7 : Int32) ≤ x2 then
      (D_Mo_fails kk (1 : Int32) G).bind (fun r => oI r (fun v4 G1 =>
      okI v4 G1) exc)
    else
      (L_Mo_bayByWeight kk k).2 x1 x2 (0 : Int32) (0 : Int32) G,
    fun x1 x2 x3 x4 G =>
    if (7 : Int32) ≤ x4 then
      if x3 = x1 then
        okI x2 G
      else
        (L_Mo_bayByWeight kk k).1 x1 (x2 + (1 : Int32)) G
    else
      (D_Mo_weightOfBay kk x4 G).bind (fun r => oI r (fun v8 G5 =>
      (D_Mo_weightOfBay kk x2 G5).bind (fun r => oI r (fun v12 G9 =>
      if 0 < (v8 - v12) then
        (L_Mo_bayByWeight kk k).2 x1 x2 (x3 + (1 : Int32)) (x4 + (1 : Int32)) G9
      else
        if (v8 - v12) = 0 then
          if x2 ≤ x4 then
            (L_Mo_bayByWeight kk k).2 x1 x2 (x3 + (0 : Int32)) (x4 + (1 : Int32)) G9
          else
            (L_Mo_bayByWeight kk k).2 x1 x2 (x3 + (1 : Int32)) (x4 + (1 : Int32)) G9
        else
          (L_Mo_bayByWeight kk k).2 x1 x2 (x3 + (0 : Int32)) (x4 + (1 : Int32)) G9) exc)) exc))
def D_Mo_bayByWeight (kk : Nat) (a0 : Int32) (G : GS) : Res :=
  (L_Mo_bayByWeight kk kk).1 a0 (0 : Int32) (si G (0, 50) 0 (0 : Int32))
def D_Mo_loadedTotal (kk : Nat) (G : GS) : Res :=
  okI (ga (si G (0, 50) 0 (0 : Int32)) (0, 51) 4) (si G (0, 50) 0 (0 : Int32))
def D_Mo_deliveredTotal (kk : Nat) (G : GS) : Res :=
  okI (ga (si G (0, 50) 0 (0 : Int32)) (0, 51) 5) (si G (0, 50) 0 (0 : Int32))
def D_Mo_deliveredWeight (kk : Nat) (G : GS) : Res :=
  okI (ga (si G (0, 50) 0 (0 : Int32)) (0, 51) 6) (si G (0, 50) 0 (0 : Int32))
def D_Mo_drillTotal (kk : Nat) (G : GS) : Res :=
  okI (ga (si G (0, 50) 0 (0 : Int32)) (0, 51) 7) (si G (0, 50) 0 (0 : Int32))
def D_Mo_capsizedTotal (kk : Nat) (G : GS) : Res :=
  okI (ga (si G (0, 50) 0 (0 : Int32)) (0, 51) 8) (si G (0, 50) 0 (0 : Int32))
def L_Mo_meanAge (kk : Nat) : Nat → Int32 → Int32 → GS → Res
  | 0 => fun _ _ _ => none
  | k + 1 => fun x1 x2 G =>
    if (35 : Int32) ≤ x2 then
      (D_Mo_countAll kk G).bind (fun r => oI r (fun v12 G9 =>
      if (FP.ddiv (FP.i2d x1) (FP.i2d v12)) &&& 0x7fffffffffffffff ≤ 0x7ff0000000000000 then
      okD (FP.ddiv (FP.i2d x1) (FP.i2d v12)) G9
      else none) exc)
    else
      (D_Mo_isTaken kk x2 G).bind (fun r => oI r (fun v16 G13 =>
      if v16 = 0 then
        (L_Mo_meanAge kk k) x1 (x2 + (1 : Int32)) G13
      else
        (D_Mo_at kk (x2 / (5 : Int32)) (x2 - x2 / (5 : Int32) * (5 : Int32)) (3 : Int32) G13).bind (fun r => oI r (fun v20 G17 =>
        (L_Mo_meanAge kk k) (x1 + ((ga G13 (0, 51) 0) - v20)) (x2 + (1 : Int32)) G17) exc)) exc)
def D_Mo_meanAge (kk : Nat) (G : GS) : Res :=
  (D_Mo_countAll kk (si G (0, 50) 0 (0 : Int32))).bind (fun r => oI r (fun v4 G1 =>
  if v4 = 0 then
    (D_Mo_fails kk (1 : Int32) G1).bind (fun r => oI r (fun v8 G5 =>
    okD (FP.i2d v8) G5) exc)
  else
    (L_Mo_meanAge kk kk) (0 : Int32) (0 : Int32) G1) exc)
def D_Mo_capsizedShare (kk : Nat) (G : GS) : Res :=
  if (ga (si G (0, 50) 0 (0 : Int32)) (0, 51) 7) = 0 then
    (D_Mo_fails kk (1 : Int32) (si G (0, 50) 0 (0 : Int32))).bind (fun r => oI r (fun v4 G1 =>
    okF (FP.i2f v4) G1) exc)
  else
    if (FP.fdiv (FP.i2f (ga (si G (0, 50) 0 (0 : Int32)) (0, 51) 8)) (FP.i2f (ga (si G (0, 50) 0 (0 : Int32)) (0, 51) 7))) &&& 0x7fffffff ≤ 0x7f800000 then
    okF (FP.fdiv (FP.i2f (ga (si G (0, 50) 0 (0 : Int32)) (0, 51) 8)) (FP.i2f (ga (si G (0, 50) 0 (0 : Int32)) (0, 51) 7))) (si G (0, 50) 0 (0 : Int32))
    else none
def D_Mo_isConsistent (kk : Nat) (G : GS) : Res :=
  (D_Mo_isBeyond kk (0 : Int32) (si G (0, 50) 0 (0 : Int32))).bind (fun r => oI r (fun v4 G1 =>
  if v4 = 0 then
    (D_Mo_countAll kk G1).bind (fun r => oI r (fun v8 G5 =>
    if (ga G1 (0, 51) 4) = ((ga G1 (0, 51) 5) + v8) then
      okI (1 : Int32) G5
    else
      okI (0 : Int32) G5) exc)
  else
    okI (0 : Int32) G1) exc)
def D_Mo_writes (kk : Nat) (a0 : Int32) (G : GS) : Res :=
  bif inb (gi G (0, 50) 9) 100 then
  okV (si (sa G (0, 55) (gi G (0, 50) 9).toNatClampNeg (vp_nar .char ((a0.toUInt32 % 65536).toInt32))) (0, 50) 9 ((gi (sa G (0, 55) (gi G (0, 50) 9).toNatClampNeg (vp_nar .char ((a0.toUInt32 % 65536).toInt32))) (0, 50) 9) + (1 : Int32)))
  else none
def L_Mo_writesNumber (kk : Nat) : Nat → (Int32 → Int32 → GS → Res) × (Int32 → Int32 → GS → Res)
  | 0 => (fun _ _ _ => none, fun _ _ _ => none)
  | k + 1 => (fun x2 x3 G =>
    if x3 = 0 then none else
    if (x2 / x3) ≤ (9 : Int32) then
      (L_Mo_writesNumber kk k).2 x2 x3 G
    else
      (L_Mo_writesNumber kk k).1 x2 (x3 * (10 : Int32)) G,
    fun x2 x4 G =>
    if x4 ≤ 0 then
      okV G
    else
      if x4 = 0 then none else
      (D_Mo_writes kk ((48 : Int32) + ((x2 / x4) - (x2 / x4) / (10 : Int32) * (10 : Int32))) G).bind (fun r => oV r (fun G12 =>
      (L_Mo_writesNumber kk k).2 x2 (x4 / (10 : Int32)) G12) exc))
def D_Mo_writesNumber (kk : Nat) (a0 : Int32) (G : GS) : Res :=
  if 0 ≤ a0 then
    (D_Mo_magnitude kk a0 G).bind (fun r => oI r (fun v4 G1 =>
    (L_Mo_writesNumber kk kk).1 v4 (1 : Int32) G1) exc)
  else
    (D_Mo_writes kk (45 : Int32) G).bind (fun r => oV r (fun G5 =>
    (D_Mo_magnitude kk a0 G5).bind (fun r => oI r (fun v11 G8 =>
    (L_Mo_writesNumber kk kk).1 v11 (1 : Int32) G8) exc)) exc)
def L_Mo_renderStack (kk : Nat) : Nat → (Int32 → Int32 → GS → Res) × (Int32 → Int32 → GS → Res)
  | 0 => (fun _ _ _ => none, fun _ _ _ => none)
  | k + 1 => (fun x1 x2 G =>
    bif inb ((9 : Int32) + x1) 156 then
    if (ga G (0, 51) ((9 : Int32) + x1).toNatClampNeg) ≤ x2 then
      okI (gi G (0, 50) 9) G
    else
      if x2 ≤ 0 then
        (L_Mo_renderStack kk k).2 x1 x2 G
      else
        (D_Mo_writes kk (32 : Int32) G).bind (fun r => oV r (fun G9 =>
        (L_Mo_renderStack kk k).2 x1 x2 G9) exc)
    else none,
    fun x1 x2 G =>
    (D_Mo_at kk x1 x2 (0 : Int32) G).bind (fun r => oI r (fun v15 G12 =>
    (D_Mo_writesNumber kk v15 G12).bind (fun r => oV r (fun G16 =>
    (D_Mo_writes kk (119 : Int32) G16).bind (fun r => oV r (fun G19 =>
    (D_Mo_at kk x1 x2 (1 : Int32) G19).bind (fun r => oI r (fun v25 G22 =>
    (D_Mo_writesNumber kk v25 G22).bind (fun r => oV r (fun G26 =>
    (D_Mo_writes kk (112 : Int32) G26).bind (fun r => oV r (fun G29 =>
    (D_Mo_at kk x1 x2 (2 : Int32) G29).bind (fun r => oI r (fun v35 G32 =>
    (D_Mo_writesNumber kk v35 G32).bind (fun r => oV r (fun G36 =>
    (L_Mo_renderStack kk k).1 x1 (x2 + (1 : Int32)) G36) exc)) exc)) exc)) exc)) exc)) exc)) exc)) exc))
def D_Mo_renderStack (kk : Nat) (a0 : Int32) (G : GS) : Res :=
  (D_Mo_isBay kk a0 (si G (0, 50) 0 (0 : Int32))).bind (fun r => oI r (fun v4 G1 =>
  if v4 = 0 then
    (D_Mo_fails kk (1 : Int32) G1).bind (fun r => oI r (fun v8 G5 =>
    okI v8 G5) exc)
  else
    (L_Mo_renderStack kk kk).1 a0 (0 : Int32) (si G1 (0, 50) 9 (0 : Int32))) exc)
def L_Mo_renderBarge (kk : Nat) : Nat → Int32 → GS → Res
  | 0 => fun _ _ => none
  | k + 1 => fun x1 G =>
    if (7 : Int32) ≤ x1 then
      (D_Mo_writes kk (61 : Int32) G).bind (fun r => oV r (fun G1 =>
      (D_Mo_momentNow kk G1).bind (fun r => oI r (fun v7 G4 =>
      (D_Mo_writesNumber kk v7 G4).bind (fun r => oV r (fun G8 =>
      okI (gi G8 (0, 50) 9) G8) exc)) exc)) exc)
    else
      if x1 ≤ 0 then
        (D_Mo_weightOfBay kk x1 G).bind (fun r => oI r (fun v14 G11 =>
        (D_Mo_writesNumber kk v14 G11).bind (fun r => oV r (fun G15 =>
        (L_Mo_renderBarge kk k) (x1 + (1 : Int32)) G15) exc)) exc)
      else
        (D_Mo_writes kk (32 : Int32) G).bind (fun r => oV r (fun G18 =>
        (D_Mo_weightOfBay kk x1 G18).bind (fun r => oI r (fun v24 G21 =>
        (D_Mo_writesNumber kk v24 G21).bind (fun r => oV r (fun G25 =>
        (L_Mo_renderBarge kk k) (x1 + (1 : Int32)) G25) exc)) exc)) exc)
def D_Mo_renderBarge (kk : Nat) (G : GS) : Res :=
  (L_Mo_renderBarge kk kk) (0 : Int32) (si (si G (0, 50) 0 (0 : Int32)) (0, 50) 9 (0 : Int32))
def D_Mo_outputAt (kk : Nat) (a0 : Int32) (G : GS) : Res :=
  (D_Mo_isBetween kk a0 (0 : Int32) ((gi (si G (0, 50) 0 (0 : Int32)) (0, 50) 9) - (1 : Int32)) (si G (0, 50) 0 (0 : Int32))).bind (fun r => oI r (fun v4 G1 =>
  if v4 = 0 then
    (D_Mo_fails kk (1 : Int32) G1).bind (fun r => oI r (fun v8 G5 =>
    if 0 ≤ (v8.toUInt32 % 65536).toInt32 ∧ (v8.toUInt32 % 65536).toInt32 ≤ 65535 then okI ((v8.toUInt32 % 65536).toInt32) G5 else none) exc)
  else
    bif inb a0 100 then
    if 0 ≤ (ga G1 (0, 55) a0.toNatClampNeg) ∧ (ga G1 (0, 55) a0.toNatClampNeg) ≤ 65535 then okI (ga G1 (0, 55) a0.toNatClampNeg) G1 else none
    else none) exc)
def D_Mo_type (kk : Nat) (a0 : Int32) (G : GS) : Res :=
  (D_Mo_isBetween kk a0 (32 : Int32) (126 : Int32) (si G (0, 50) 0 (0 : Int32))).bind (fun r => oI r (fun v4 G1 =>
  if v4 = 0 then
    (D_Mo_fails kk (1 : Int32) G1).bind (fun r => oI r (fun v12 G9 =>
    okI v12 G9) exc)
  else
    if (gi G1 (0, 50) 11) = (60 : Int32) then
      (D_Mo_fails kk (2 : Int32) G1).bind (fun r => oI r (fun v8 G5 =>
      okI v8 G5) exc)
    else
      bif inb (gi G1 (0, 50) 11) 60 then
      okI (gi (si (sa G1 (0, 56) (gi G1 (0, 50) 11).toNatClampNeg (vp_nar .char a0)) (0, 50) 11 ((gi (sa G1 (0, 56) (gi G1 (0, 50) 11).toNatClampNeg (vp_nar .char a0)) (0, 50) 11) + (1 : Int32))) (0, 50) 11) (si (sa G1 (0, 56) (gi G1 (0, 50) 11).toNatClampNeg (vp_nar .char a0)) (0, 50) 11 ((gi (sa G1 (0, 56) (gi G1 (0, 50) 11).toNatClampNeg (vp_nar .char a0)) (0, 50) 11) + (1 : Int32)))
      else none) exc)
def D_Mo_nextChar (kk : Nat) (G : GS) : Res :=
  if (gi G (0, 50) 11) ≤ (gi G (0, 50) 12) then
    okI (-1 : Int32) G
  else
    bif inb (gi G (0, 50) 12) 60 then
    okI (ga G (0, 56) (gi G (0, 50) 12).toNatClampNeg) G
    else none
def D_Mo_reads (kk : Nat) (a0 : Int32) (G : GS) : Res :=
  (D_Mo_nextChar kk G).bind (fun r => oI r (fun v4 G1 =>
  if v4 = a0 then
    okI (1 : Int32) (si G1 (0, 50) 12 ((gi G1 (0, 50) 12) + (1 : Int32)))
  else
    okI (0 : Int32) G1) exc)
def D_Mo_readsDigit (kk : Nat) (a0 : Int32) (G : GS) : Res :=
  (D_Mo_nextChar kk G).bind (fun r => oI r (fun v4 G1 =>
  (D_Mo_isBetween kk v4 (48 : Int32) (57 : Int32) G1).bind (fun r => oI r (fun v8 G5 =>
  if v8 = 0 then
    okI (0 : Int32) G5
  else
    (D_Mo_nextChar kk G5).bind (fun r => oI r (fun v12 G9 =>
    bif inb a0 3 then
    okI (1 : Int32) (si (sa G9 (0, 57) a0.toNatClampNeg (v12 - (48 : Int32))) (0, 50) 12 ((gi (sa G9 (0, 57) a0.toNatClampNeg (v12 - (48 : Int32))) (0, 50) 12) + (1 : Int32)))
    else none) exc)) exc)) exc)
def D_Mo_readsNumber (kk : Nat) (a0 : Int32) (G : GS) : Res :=
  (D_Mo_readsDigit kk a0 G).bind (fun r => oI r (fun v4 G1 =>
  if v4 = 0 then
    okI (0 : Int32) G1
  else
    (D_Mo_nextChar kk G1).bind (fun r => oI r (fun v8 G5 =>
    (D_Mo_isBetween kk v8 (48 : Int32) (57 : Int32) G5).bind (fun r => oI r (fun v12 G9 =>
    if v12 = 0 then
      okI (1 : Int32) G9
    else
      bif inb a0 3 then
      (D_Mo_nextChar kk G9).bind (fun r => oI r (fun v16 G13 =>
      bif inb a0 3 then
      okI (1 : Int32) (si (sa G13 (0, 57) a0.toNatClampNeg ((((10 : Int32) * (ga G9 (0, 57) a0.toNatClampNeg)) + v16) - (48 : Int32))) (0, 50) 12 ((gi (sa G13 (0, 57) a0.toNatClampNeg ((((10 : Int32) * (ga G9 (0, 57) a0.toNatClampNeg)) + v16) - (48 : Int32))) (0, 50) 12) + (1 : Int32)))
      else none) exc)
      else none) exc)) exc)) exc)
def D_Mo_readsL (kk : Nat) (G : GS) : Res :=
  (D_Mo_reads kk (111 : Int32) G).bind (fun r => oI r (fun v4 G1 =>
  if v4 = 0 then
    (D_Mo_reads kk (105 : Int32) (si G1 (0, 50) 16 (109 : Int32))).bind (fun r => oI r (fun v8 G5 =>
    if v8 = 0 then
      okI (0 : Int32) G5
    else
      (D_Mo_reads kk (109 : Int32) G5).bind (fun r => oI r (fun v12 G9 =>
      if v12 = 0 then
        okI (0 : Int32) G9
      else
        (D_Mo_reads kk (105 : Int32) G9).bind (fun r => oI r (fun v16 G13 =>
        if v16 = 0 then
          okI (0 : Int32) G13
        else
          (D_Mo_reads kk (116 : Int32) G13).bind (fun r => oI r (fun v20 G17 =>
          if v20 = 0 then
            okI (0 : Int32) G17
          else
            (D_Mo_reads kk (32 : Int32) G17).bind (fun r => oI r (fun v24 G21 =>
            if v24 = 0 then
              okI (0 : Int32) G21
            else
              (D_Mo_readsNumber kk (0 : Int32) G21).bind (fun r => oI r (fun v28 G25 =>
              if v28 = 0 then
                okI (0 : Int32) G25
              else
                okI (1 : Int32) G25) exc)) exc)) exc)) exc)) exc)) exc)
  else
    (D_Mo_reads kk (97 : Int32) G1).bind (fun r => oI r (fun v32 G29 =>
    if v32 = 0 then
      okI (0 : Int32) G29
    else
      (D_Mo_reads kk (100 : Int32) G29).bind (fun r => oI r (fun v36 G33 =>
      if v36 = 0 then
        okI (0 : Int32) G33
      else
        (D_Mo_reads kk (32 : Int32) G33).bind (fun r => oI r (fun v40 G37 =>
        if v40 = 0 then
          okI (0 : Int32) G37
        else
          (D_Mo_readsDigit kk (0 : Int32) G37).bind (fun r => oI r (fun v44 G41 =>
          if v44 = 0 then
            okI (0 : Int32) G41
          else
            (D_Mo_reads kk (32 : Int32) G41).bind (fun r => oI r (fun v48 G45 =>
            if v48 = 0 then
              okI (0 : Int32) G45
            else
              (D_Mo_readsNumber kk (1 : Int32) G45).bind (fun r => oI r (fun v52 G49 =>
              if v52 = 0 then
                okI (0 : Int32) G49
              else
                (D_Mo_reads kk (32 : Int32) G49).bind (fun r => oI r (fun v56 G53 =>
                if v56 = 0 then
                  okI (0 : Int32) G53
                else
                  (D_Mo_readsDigit kk (2 : Int32) G53).bind (fun r => oI r (fun v60 G57 =>
                  if v60 = 0 then
                    okI (0 : Int32) G57
                  else
                    okI (1 : Int32) G57) exc)) exc)) exc)) exc)) exc)) exc)) exc)) exc)) exc)
def D_Mo_readsS (kk : Nat) (G : GS) : Res :=
  (D_Mo_reads kk (104 : Int32) G).bind (fun r => oI r (fun v4 G1 =>
  if v4 = 0 then
    (D_Mo_reads kk (97 : Int32) (si G1 (0, 50) 16 (97 : Int32))).bind (fun r => oI r (fun v8 G5 =>
    if v8 = 0 then
      okI (0 : Int32) G5
    else
      (D_Mo_reads kk (105 : Int32) G5).bind (fun r => oI r (fun v12 G9 =>
      if v12 = 0 then
        okI (0 : Int32) G9
      else
        (D_Mo_reads kk (108 : Int32) G9).bind (fun r => oI r (fun v16 G13 =>
        if v16 = 0 then
          okI (0 : Int32) G13
        else
          (D_Mo_reads kk (32 : Int32) (sa G13 (0, 57) 0 (1 : Int32))).bind (fun r => oI r (fun v20 G17 =>
          if v20 = 0 then
            okI (1 : Int32) G17
          else
            (D_Mo_readsNumber kk (0 : Int32) G17).bind (fun r => oI r (fun v24 G21 =>
            if v24 = 0 then
              okI (0 : Int32) G21
            else
              okI (1 : Int32) G21) exc)) exc)) exc)) exc)) exc)
  else
    (D_Mo_reads kk (105 : Int32) G1).bind (fun r => oI r (fun v28 G25 =>
    if v28 = 0 then
      okI (0 : Int32) G25
    else
      (D_Mo_reads kk (102 : Int32) G25).bind (fun r => oI r (fun v32 G29 =>
      if v32 = 0 then
        okI (0 : Int32) G29
      else
        (D_Mo_reads kk (116 : Int32) G29).bind (fun r => oI r (fun v36 G33 =>
        if v36 = 0 then
          okI (0 : Int32) G33
        else
          (D_Mo_reads kk (32 : Int32) G33).bind (fun r => oI r (fun v40 G37 =>
          if v40 = 0 then
            okI (0 : Int32) G37
          else
            (D_Mo_readsDigit kk (0 : Int32) G37).bind (fun r => oI r (fun v44 G41 =>
            if v44 = 0 then
              okI (0 : Int32) G41
            else
              (D_Mo_reads kk (32 : Int32) G41).bind (fun r => oI r (fun v48 G45 =>
              if v48 = 0 then
                okI (0 : Int32) G45
              else
                (D_Mo_readsDigit kk (1 : Int32) G45).bind (fun r => oI r (fun v52 G49 =>
                if v52 = 0 then
                  okI (0 : Int32) G49
                else
                  okI (1 : Int32) G49) exc)) exc)) exc)) exc)) exc)) exc)) exc)) exc)
def D_Mo_readsDrill (kk : Nat) (G : GS) : Res :=
  (D_Mo_reads kk (114 : Int32) G).bind (fun r => oI r (fun v4 G1 =>
  if v4 = 0 then
    okI (0 : Int32) G1
  else
    (D_Mo_reads kk (105 : Int32) G1).bind (fun r => oI r (fun v8 G5 =>
    if v8 = 0 then
      okI (0 : Int32) G5
    else
      (D_Mo_reads kk (108 : Int32) G5).bind (fun r => oI r (fun v12 G9 =>
      if v12 = 0 then
        okI (0 : Int32) G9
      else
        (D_Mo_reads kk (108 : Int32) G9).bind (fun r => oI r (fun v16 G13 =>
        if v16 = 0 then
          okI (0 : Int32) G13
        else
          (D_Mo_reads kk (32 : Int32) G13).bind (fun r => oI r (fun v20 G17 =>
          if v20 = 0 then
            okI (0 : Int32) G17
          else
            (D_Mo_reads kk (45 : Int32) G17).bind (fun r => oI r (fun v24 G21 =>
            (D_Mo_readsNumber kk (0 : Int32) G21).bind (fun r => oI r (fun v28 G25 =>
            if v28 = 0 then
              okI (0 : Int32) G25
            else
              if v24 = 0 then
                okI (1 : Int32) G25
              else
                okI (1 : Int32) (sa G25 (0, 57) 0 (-(ga G25 (0, 57) 0)))) exc)) exc)) exc)) exc)) exc)) exc)) exc)
def D_Mo_readsCommand (kk : Nat) (G : GS) : Res :=
  (D_Mo_nextChar kk G).bind (fun r => oI r (fun v4 G1 =>
  (D_Mo_reads kk (108 : Int32) (si G1 (0, 50) 16 v4)).bind (fun r => oI r (fun v8 G5 =>
  if v8 = 0 then
    (D_Mo_reads kk (117 : Int32) G5).bind (fun r => oI r (fun v12 G9 =>
    if v12 = 0 then
      (D_Mo_reads kk (115 : Int32) G9).bind (fun r => oI r (fun v16 G13 =>
      if v16 = 0 then
        (D_Mo_reads kk (100 : Int32) G13).bind (fun r => oI r (fun v20 G17 =>
        if v20 = 0 then
          (D_Mo_reads kk (116 : Int32) G17).bind (fun r => oI r (fun v24 G21 =>
          if v24 = 0 then
            okI (0 : Int32) G21
          else
            (D_Mo_reads kk (117 : Int32) G21).bind (fun r => oI r (fun v28 G25 =>
            if v28 = 0 then
              okI (0 : Int32) G25
            else
              (D_Mo_reads kk (114 : Int32) G25).bind (fun r => oI r (fun v32 G29 =>
              if v32 = 0 then
                okI (0 : Int32) G29
              else
                (D_Mo_reads kk (110 : Int32) G29).bind (fun r => oI r (fun v36 G33 =>
                if v36 = 0 then
                  okI (0 : Int32) G33
                else
                  okI (1 : Int32) G33) exc)) exc)) exc)) exc)
        else
          (D_Mo_readsDrill kk G17).bind (fun r => oI r (fun v40 G37 =>
          if v40 = 0 ∨ v40 = 1 then okI v40 G37 else none) exc)) exc)
      else
        (D_Mo_readsS kk G13).bind (fun r => oI r (fun v44 G41 =>
        if v44 = 0 ∨ v44 = 1 then okI v44 G41 else none) exc)) exc)
    else
      (D_Mo_reads kk (110 : Int32) G9).bind (fun r => oI r (fun v48 G45 =>
      if v48 = 0 then
        okI (0 : Int32) G45
      else
        (D_Mo_reads kk (108 : Int32) G45).bind (fun r => oI r (fun v52 G49 =>
        if v52 = 0 then
          okI (0 : Int32) G49
        else
          (D_Mo_reads kk (111 : Int32) G49).bind (fun r => oI r (fun v56 G53 =>
          if v56 = 0 then
            okI (0 : Int32) G53
          else
            (D_Mo_reads kk (97 : Int32) G53).bind (fun r => oI r (fun v60 G57 =>
            if v60 = 0 then
              okI (0 : Int32) G57
            else
              (D_Mo_reads kk (100 : Int32) G57).bind (fun r => oI r (fun v64 G61 =>
              if v64 = 0 then
                okI (0 : Int32) G61
              else
                (D_Mo_reads kk (32 : Int32) G61).bind (fun r => oI r (fun v68 G65 =>
                if v68 = 0 then
                  okI (0 : Int32) G65
                else
                  (D_Mo_readsDigit kk (0 : Int32) G65).bind (fun r => oI r (fun v72 G69 =>
                  if v72 = 0 then
                    okI (0 : Int32) G69
                  else
                    okI (1 : Int32) G69) exc)) exc)) exc)) exc)) exc)) exc)) exc)) exc)
  else
    (D_Mo_readsL kk G5).bind (fun r => oI r (fun v76 G73 =>
    if v76 = 0 ∨ v76 = 1 then okI v76 G73 else none) exc)) exc)) exc)
def L_Mo_readsAll (kk : Nat) : Nat → Int32 → GS → Res
  | 0 => fun _ _ => none
  | k + 1 => fun x1 G =>
    if x1 = 0 then
      if (gi G (0, 50) 12) = (gi G (0, 50) 11) then
        okI (1 : Int32) G
      else
        okI (0 : Int32) G
    else
      (D_Mo_readsCommand kk G).bind (fun r => oI r (fun v4 G1 =>
      if v4 = 0 then
        okI (0 : Int32) G1
      else
        (D_Mo_reads kk (59 : Int32) G1).bind (fun r => oI r (fun v8 G5 =>
        (L_Mo_readsAll kk k) v8 G5) exc)) exc)
def D_Mo_readsAll (kk : Nat) (G : GS) : Res :=
  (L_Mo_readsAll kk kk) (1 : Int32) (si G (0, 50) 12 (0 : Int32))
def D_Mo_notNow (kk : Nat) (G : GS) : Res :=
  if (gi G (0, 50) 16) = (97 : Int32) then
    (D_Mo_notSail kk (ga G (0, 57) 0) G).bind (fun r => oI r (fun v4 G1 =>
    okI v4 G1) exc)
  else if (gi G (0, 50) 16) = (100 : Int32) then
    (D_Mo_notDrill kk (ga G (0, 57) 0) G).bind (fun r => oI r (fun v8 G5 =>
    okI v8 G5) exc)
  else if (gi G (0, 50) 16) = (108 : Int32) then
    (D_Mo_notLoad kk (ga G (0, 57) 0) (ga G (0, 57) 1) (ga G (0, 57) 2) G).bind (fun r => oI r (fun v12 G9 =>
    okI v12 G9) exc)
  else if (gi G (0, 50) 16) = (109 : Int32) then
    (D_Mo_notLimit kk (ga G (0, 57) 0) G).bind (fun r => oI r (fun v16 G13 =>
    okI v16 G13) exc)
  else if (gi G (0, 50) 16) = (115 : Int32) then
    (D_Mo_notShift kk (ga G (0, 57) 0) (ga G (0, 57) 1) G).bind (fun r => oI r (fun v20 G17 =>
    okI v20 G17) exc)
  else if (gi G (0, 50) 16) = (117 : Int32) then
    (D_Mo_notUnload kk (ga G (0, 57) 0) G).bind (fun r => oI r (fun v24 G21 =>
    okI v24 G21) exc)
  else 
    okI (0 : Int32) G
def D_Mo_doesNow (kk : Nat) (G : GS) : Res :=
  if (gi G (0, 50) 16) = (97 : Int32) then
    (D_Mo_sails kk (ga G (0, 57) 0) G).bind (fun r => oI r (fun v4 G1 =>
    okI v4 G1) exc)
  else if (gi G (0, 50) 16) = (100 : Int32) then
    (D_Mo_drills kk (ga G (0, 57) 0) G).bind (fun r => oI r (fun v8 G5 =>
    okI v8 G5) exc)
  else if (gi G (0, 50) 16) = (108 : Int32) then
    (D_Mo_loads kk (ga G (0, 57) 0) (ga G (0, 57) 1) (ga G (0, 57) 2) G).bind (fun r => oI r (fun v12 G9 =>
    okI v12 G9) exc)
  else if (gi G (0, 50) 16) = (109 : Int32) then
    (D_Mo_setsLimit kk (ga G (0, 57) 0) G).bind (fun r => oI r (fun v16 G13 =>
    okI v16 G13) exc)
  else if (gi G (0, 50) 16) = (115 : Int32) then
    (D_Mo_shifts kk (ga G (0, 57) 0) (ga G (0, 57) 1) G).bind (fun r => oI r (fun v20 G17 =>
    okI v20 G17) exc)
  else if (gi G (0, 50) 16) = (117 : Int32) then
    (D_Mo_unloads kk (ga G (0, 57) 0) G).bind (fun r => oI r (fun v24 G21 =>
    okI v24 G21) exc)
  else 
    (D_Mo_turns kk G).bind (fun r => oI r (fun v28 G25 =>
    okI v28 G25) exc)
def L_Mo_doesAll (kk : Nat) : Nat → Int32 → GS → Res
  | 0 => fun _ _ => none
  | k + 1 => fun x1 G =>
    if x1 = 0 then
      okI (1 : Int32) G
    else
      (D_Mo_readsCommand kk G).bind (fun r => oI r (fun v4 G1 =>
      (D_Mo_notNow kk G1).bind (fun r => oI r (fun v8 G5 =>
      if v8 = 0 then
        (D_Mo_doesNow kk G5).bind (fun r => oI r (fun v12 G9 =>
        (D_Mo_reads kk (59 : Int32) (si G9 (0, 50) 17 ((gi G9 (0, 50) 17) + (1 : Int32)))).bind (fun r => oI r (fun v16 G13 =>
        (L_Mo_doesAll kk k) v16 G13) exc)) exc)
      else
        okI (0 : Int32) G5) exc)) exc)
def D_Mo_doesAll (kk : Nat) (G : GS) : Res :=
  (L_Mo_doesAll kk kk) (1 : Int32) (si (si G (0, 50) 17 (0 : Int32)) (0, 50) 12 (0 : Int32))
def D_Mo_runScript (kk : Nat) (G : GS) : Res :=
  (D_Mo_readsAll kk (si G (0, 50) 0 (0 : Int32))).bind (fun r => oI r (fun v4 G1 =>
  if v4 = 0 then
    (D_Mo_fails kk (1 : Int32) (si (si G1 (0, 50) 13 (gi G1 (0, 50) 12)) (0, 50) 11 (0 : Int32))).bind (fun r => oI r (fun v25 G22 =>
    okI v25 G22) exc)
  else
    (D_Mo_copies kk G1).bind (fun r => oV r (fun G5 =>
    (D_Mo_doesAll kk G5).bind (fun r => oI r (fun v11 G8 =>
    if v11 = 0 then
      (D_Mo_goesBack kk (si G8 (0, 50) 11 (0 : Int32))).bind (fun r => oV r (fun G12 =>
      (D_Mo_fails kk (2 : Int32) (si G12 (0, 50) 14 (gi G12 (0, 50) 17))).bind (fun r => oI r (fun v18 G15 =>
      okI v18 G15) exc)) exc)
    else
      (D_Mo_keeps kk (si G8 (0, 50) 11 (0 : Int32))).bind (fun r => oV r (fun G19 =>
      okI (gi G19 (0, 50) 17) G19) exc)) exc)) exc)) exc)
def D_Mo_errorPosition (kk : Nat) (G : GS) : Res :=
  if 0 ≤ (gi (si G (0, 50) 0 (0 : Int32)) (0, 50) 13) then
    okI (gi (si G (0, 50) 0 (0 : Int32)) (0, 50) 13) (si G (0, 50) 0 (0 : Int32))
  else
    (D_Mo_fails kk (1 : Int32) (si G (0, 50) 0 (0 : Int32))).bind (fun r => oI r (fun v4 G1 =>
    okI v4 G1) exc)
def D_Mo_failedCommand (kk : Nat) (G : GS) : Res :=
  if 0 ≤ (gi (si G (0, 50) 0 (0 : Int32)) (0, 50) 14) then
    okI (gi (si G (0, 50) 0 (0 : Int32)) (0, 50) 14) (si G (0, 50) 0 (0 : Int32))
  else
    (D_Mo_fails kk (1 : Int32) (si G (0, 50) 0 (0 : Int32))).bind (fun r => oI r (fun v4 G1 =>
    okI v4 G1) exc)
def L_Mo_undo (kk : Nat) : Nat → Int32 → Int32 → GS → Res
  | 0 => fun _ _ _ => none
  | k + 1 => fun x1 x2 G =>
    if (156 : Int32) ≤ x2 then
      okI (gi G (0, 50) 5) G
    else
      bif inb (((156 : Int32) * x1) + x2) 1248 then
      bif inb x2 156 then
      (L_Mo_undo kk k) x1 (x2 + (1 : Int32)) (sa G (0, 51) x2.toNatClampNeg (ga G (0, 52) (((156 : Int32) * x1) + x2).toNatClampNeg))
      else none
      else none
def D_Mo_undo (kk : Nat) (G : GS) : Res :=
  if (gi (si G (0, 50) 0 (0 : Int32)) (0, 50) 5) = 0 then
    (D_Mo_fails kk (1 : Int32) (si G (0, 50) 0 (0 : Int32))).bind (fun r => oI r (fun v4 G1 =>
    okI v4 G1) exc)
  else
    (L_Mo_undo kk kk) (((gi (si (si G (0, 50) 0 (0 : Int32)) (0, 50) 5 ((gi (si G (0, 50) 0 (0 : Int32)) (0, 50) 5) - (1 : Int32))) (0, 50) 6) + (gi (si (si G (0, 50) 0 (0 : Int32)) (0, 50) 5 ((gi (si G (0, 50) 0 (0 : Int32)) (0, 50) 5) - (1 : Int32))) (0, 50) 5)) - ((gi (si (si G (0, 50) 0 (0 : Int32)) (0, 50) 5 ((gi (si G (0, 50) 0 (0 : Int32)) (0, 50) 5) - (1 : Int32))) (0, 50) 6) + (gi (si (si G (0, 50) 0 (0 : Int32)) (0, 50) 5 ((gi (si G (0, 50) 0 (0 : Int32)) (0, 50) 5) - (1 : Int32))) (0, 50) 5)) / (8 : Int32) * (8 : Int32)) (0 : Int32) (si (si G (0, 50) 0 (0 : Int32)) (0, 50) 5 ((gi (si G (0, 50) 0 (0 : Int32)) (0, 50) 5) - (1 : Int32)))
def L_Mo_save (kk : Nat) : Nat → Int32 → GS → Res
  | 0 => fun _ _ => none
  | k + 1 => fun x1 G =>
    if (156 : Int32) ≤ x1 then
      (D_Mo_countAll kk (si G (0, 50) 7 (1 : Int32))).bind (fun r => oI r (fun v4 G1 =>
      okI v4 G1) exc)
    else
      bif inb x1 156 then
      bif inb x1 156 then
      (L_Mo_save kk k) (x1 + (1 : Int32)) (sa G (0, 53) x1.toNatClampNeg (ga G (0, 51) x1.toNatClampNeg))
      else none
      else none
def D_Mo_save (kk : Nat) (G : GS) : Res :=
  (L_Mo_save kk kk) (0 : Int32) (si G (0, 50) 0 (0 : Int32))
def L_Mo_restore (kk : Nat) : Nat → Int32 → GS → Res
  | 0 => fun _ _ => none
  | k + 1 => fun x1 G =>
    if (156 : Int32) ≤ x1 then
      (D_Mo_countAll kk (si (si G (0, 50) 5 (0 : Int32)) (0, 50) 6 (0 : Int32))).bind (fun r => oI r (fun v8 G5 =>
      okI v8 G5) exc)
    else
      bif inb x1 156 then
      bif inb x1 156 then
      (L_Mo_restore kk k) (x1 + (1 : Int32)) (sa G (0, 51) x1.toNatClampNeg (ga G (0, 53) x1.toNatClampNeg))
      else none
      else none
def D_Mo_restore (kk : Nat) (G : GS) : Res :=
  if (gi (si G (0, 50) 0 (0 : Int32)) (0, 50) 7) = 0 then
    (D_Mo_fails kk (1 : Int32) (si G (0, 50) 0 (0 : Int32))).bind (fun r => oI r (fun v4 G1 =>
    okI v4 G1) exc)
  else
    (L_Mo_restore kk kk) (0 : Int32) (si G (0, 50) 0 (0 : Int32))
end
section
/-! Every method as a function (printed by gen/emit.py from the class files). -/
def D_Law_load (kk : Nat) (a1 : Int32) (a2 : Int32) (a3 : Int32) (G : GS) : Res :=
  (D_PB_load kk a1 a2 a3 G).bind (fun r => oI r (fun v4 G1 =>
  okI (0 : Int32) (so_ G1 v4.toInt64)) (fun e2 G3 => if e2 = 1 then okI (1 : Int32) G3 else if e2 = 2 then okI (2 : Int32) G3 else if e2 = 4 then okI (3 : Int32) G3 else if e2 = 5 then okI (4 : Int32) G3 else none))
def D_Law_unload (kk : Nat) (a1 : Int32) (G : GS) : Res :=
  (D_PB_unload kk a1 G).bind (fun r => oI r (fun v4 G1 =>
  okI (0 : Int32) (so_ G1 v4.toInt64)) (fun e2 G3 => if e2 = 1 then okI (1 : Int32) G3 else if e2 = 3 then okI (2 : Int32) G3 else if e2 = 4 then okI (3 : Int32) G3 else if e2 = 5 then okI (4 : Int32) G3 else none))
def D_Law_shift (kk : Nat) (a1 : Int32) (a2 : Int32) (G : GS) : Res :=
  (D_PB_shift kk a1 a2 G).bind (fun r => oI r (fun v4 G1 =>
  okI (0 : Int32) (so_ G1 v4.toInt64)) (fun e2 G3 => if e2 = 1 then okI (1 : Int32) G3 else if e2 = 2 then okI (2 : Int32) G3 else if e2 = 3 then okI (3 : Int32) G3 else if e2 = 4 then okI (4 : Int32) G3 else if e2 = 5 then okI (5 : Int32) G3 else none))
def D_Law_sail (kk : Nat) (a1 : Int32) (G : GS) : Res :=
  (D_PB_sail kk a1 G).bind (fun r => oI r (fun v4 G1 =>
  okI (0 : Int32) (so_ G1 v4.toInt64)) (fun e2 G3 => if e2 = 2 then okI (1 : Int32) G3 else none))
def D_Law_setLimit (kk : Nat) (a1 : Int32) (G : GS) : Res :=
  (D_PB_setLimit kk a1 G).bind (fun r => oI r (fun v4 G1 =>
  okI (0 : Int32) (so_ G1 v4.toInt64)) (fun e2 G3 => if e2 = 2 then okI (1 : Int32) G3 else if e2 = 5 then okI (2 : Int32) G3 else none))
def D_Law_drill (kk : Nat) (a1 : Int32) (G : GS) : Res :=
  (D_PB_drill kk a1 G).bind (fun r => oI r (fun v4 G1 =>
  if v4 = 0 then
    okI (0 : Int32) (so_ G1 (0 : Int64))
  else
    okI (0 : Int32) (so_ G1 (1 : Int64))) (fun e2 G3 => if e2 = 2 then okI (1 : Int32) G3 else none))
def D_Law_stackHeight (kk : Nat) (a1 : Int32) (G : GS) : Res :=
  (D_PB_stackHeight kk a1 G).bind (fun r => oI r (fun v4 G1 =>
  okI (0 : Int32) (so_ G1 v4.toInt64)) (fun e2 G3 => if e2 = 1 then okI (1 : Int32) G3 else none))
def D_Law_pillowAt (kk : Nat) (a1 : Int32) (a2 : Int32) (G : GS) : Res :=
  (D_PB_pillowAt kk a1 a2 G).bind (fun r => oI r (fun v4 G1 =>
  okI (0 : Int32) (so_ G1 v4.toInt64)) (fun e2 G3 => if e2 = 1 then okI (1 : Int32) G3 else if e2 = 3 then okI (2 : Int32) G3 else none))
def D_Law_weightOf (kk : Nat) (a1 : Int32) (G : GS) : Res :=
  (D_PB_weightOf kk a1 G).bind (fun r => oI r (fun v4 G1 =>
  okI (0 : Int32) (so_ G1 v4.toInt64)) (fun e2 G3 => if e2 = 3 then okI (1 : Int32) G3 else none))
def D_Law_destinationOf (kk : Nat) (a1 : Int32) (G : GS) : Res :=
  (D_PB_destinationOf kk a1 G).bind (fun r => oI r (fun v4 G1 =>
  okI (0 : Int32) (so_ G1 v4.toInt64)) (fun e2 G3 => if e2 = 3 then okI (1 : Int32) G3 else none))
def D_Law_bayOf (kk : Nat) (a1 : Int32) (G : GS) : Res :=
  (D_PB_bayOf kk a1 G).bind (fun r => oI r (fun v4 G1 =>
  okI (0 : Int32) (so_ G1 v4.toInt64)) (fun e2 G3 => if e2 = 3 then okI (1 : Int32) G3 else none))
def D_Law_positionOf (kk : Nat) (a1 : Int32) (G : GS) : Res :=
  (D_PB_positionOf kk a1 G).bind (fun r => oI r (fun v4 G1 =>
  okI (0 : Int32) (so_ G1 v4.toInt64)) (fun e2 G3 => if e2 = 3 then okI (1 : Int32) G3 else none))
def D_Law_ageOf (kk : Nat) (a1 : Int32) (G : GS) : Res :=
  (D_PB_ageOf kk a1 G).bind (fun r => oI r (fun v4 G1 =>
  okI (0 : Int32) (so_ G1 v4.toInt64)) (fun e2 G3 => if e2 = 3 then okI (1 : Int32) G3 else none))
def D_Law_weightFor (kk : Nat) (a1 : Int32) (G : GS) : Res :=
  (D_PB_weightFor kk a1 G).bind (fun r => oI r (fun v4 G1 =>
  okI (0 : Int32) (so_ G1 v4.toInt64)) (fun e2 G3 => if e2 = 1 then okI (1 : Int32) G3 else none))
def D_Law_levelingBay (kk : Nat) (a1 : Int32) (G : GS) : Res :=
  (D_PB_levelingBay kk a1 G).bind (fun r => oI r (fun v4 G1 =>
  okI (0 : Int32) (so_ G1 v4.toInt64)) (fun e2 G3 => if e2 = 2 then okI (1 : Int32) G3 else if e2 = 3 then okI (2 : Int32) G3 else none))
def D_Law_legsTo (kk : Nat) (a1 : Int32) (G : GS) : Res :=
  (D_PB_legsTo kk a1 G).bind (fun r => oI r (fun v4 G1 =>
  okI (0 : Int32) (so_ G1 v4.toInt64)) (fun e2 G3 => if e2 = 1 then okI (1 : Int32) G3 else none))
def D_Law_portAfter (kk : Nat) (a1 : Int32) (G : GS) : Res :=
  (D_PB_portAfter kk a1 G).bind (fun r => oI r (fun v4 G1 =>
  okI (0 : Int32) (so_ G1 v4.toInt64)) (fun e2 G3 => if e2 = 2 then okI (1 : Int32) G3 else none))
def D_Law_pillowsInTheWay (kk : Nat) (a1 : Int32) (G : GS) : Res :=
  (D_PB_pillowsInTheWay kk a1 G).bind (fun r => oI r (fun v4 G1 =>
  okI (0 : Int32) (so_ G1 v4.toInt64)) (fun e2 G3 => if e2 = 3 then okI (1 : Int32) G3 else none))
def D_Law_oldestIn (kk : Nat) (a1 : Int32) (G : GS) : Res :=
  (D_PB_oldestIn kk a1 G).bind (fun r => oI r (fun v4 G1 =>
  okI (0 : Int32) (so_ G1 v4.toInt64)) (fun e2 G3 => if e2 = 1 then okI (1 : Int32) G3 else if e2 = 3 then okI (2 : Int32) G3 else none))
def D_Law_heaviestPort (kk : Nat) (G : GS) : Res :=
  (D_PB_heaviestPort kk G).bind (fun r => oI r (fun v4 G1 =>
  okI (0 : Int32) (so_ G1 v4.toInt64)) (fun e2 G3 => if e2 = 3 then okI (1 : Int32) G3 else none))
def D_Law_pillowByTurn (kk : Nat) (a1 : Int32) (G : GS) : Res :=
  (D_PB_pillowByTurn kk a1 G).bind (fun r => oI r (fun v4 G1 =>
  okI (0 : Int32) (so_ G1 v4.toInt64)) (fun e2 G3 => if e2 = 3 then okI (1 : Int32) G3 else none))
def D_Law_bayByWeight (kk : Nat) (a1 : Int32) (G : GS) : Res :=
  (D_PB_bayByWeight kk a1 G).bind (fun r => oI r (fun v4 G1 =>
  okI (0 : Int32) (so_ G1 v4.toInt64)) (fun e2 G3 => if e2 = 3 then okI (1 : Int32) G3 else none))
def D_Law_meanAge (kk : Nat) (G : GS) : Res :=
  (D_PB_meanAge kk G).bind (fun r => oD r (fun v4 G1 =>
  okI (0 : Int32) (sd_ G1 v4)) (fun e2 G3 => if e2 = 6 then okI (1 : Int32) G3 else none))
def D_Law_capsizedShare (kk : Nat) (G : GS) : Res :=
  (D_PB_capsizedShare kk G).bind (fun r => oF r (fun v4 G1 =>
  if (FP.f2d v4) &&& 0x7fffffffffffffff ≤ 0x7ff0000000000000 then
  okI (0 : Int32) (sd_ G1 (FP.f2d v4))
  else none) (fun e2 G3 => if e2 = 6 then okI (1 : Int32) G3 else none))
def D_Law_renderStack (kk : Nat) (a1 : Int32) (G : GS) : Res :=
  (D_PB_renderStack kk a1 G).bind (fun r => oI r (fun v4 G1 =>
  okI (0 : Int32) (so_ G1 v4.toInt64)) (fun e2 G3 => if e2 = 1 then okI (1 : Int32) G3 else none))
def D_Law_outputAt (kk : Nat) (a1 : Int32) (G : GS) : Res :=
  (D_PB_outputAt kk a1 G).bind (fun r => oI r (fun v4 G1 =>
  okI (0 : Int32) (so_ G1 v4.toInt64)) (fun e2 G3 => if e2 = 1 then okI (1 : Int32) G3 else none))
def D_Law_type (kk : Nat) (a1 : Int32) (G : GS) : Res :=
  (D_PB_type kk a1 G).bind (fun r => oI r (fun v4 G1 =>
  okI (0 : Int32) (so_ G1 v4.toInt64)) (fun e2 G3 => if e2 = 2 then okI (1 : Int32) G3 else if e2 = 4 then okI (2 : Int32) G3 else none))
def D_Law_runScript (kk : Nat) (G : GS) : Res :=
  (D_PB_runScript kk G).bind (fun r => oI r (fun v4 G1 =>
  okI (0 : Int32) (so_ G1 v4.toInt64)) (fun e2 G3 => if e2 = 2 then okI (1 : Int32) G3 else if e2 = 4 then okI (2 : Int32) G3 else none))
def D_Law_errorPosition (kk : Nat) (G : GS) : Res :=
  (D_PB_errorPosition kk G).bind (fun r => oI r (fun v4 G1 =>
  okI (0 : Int32) (so_ G1 v4.toInt64)) (fun e2 G3 => if e2 = 3 then okI (1 : Int32) G3 else none))
def D_Law_failedCommand (kk : Nat) (G : GS) : Res :=
  (D_PB_failedCommand kk G).bind (fun r => oI r (fun v4 G1 =>
  okI (0 : Int32) (so_ G1 v4.toInt64)) (fun e2 G3 => if e2 = 3 then okI (1 : Int32) G3 else none))
def D_Law_undo (kk : Nat) (G : GS) : Res :=
  (D_PB_undo kk G).bind (fun r => oI r (fun v4 G1 =>
  okI (0 : Int32) (so_ G1 v4.toInt64)) (fun e2 G3 => if e2 = 3 then okI (1 : Int32) G3 else none))
def D_Law_restore (kk : Nat) (G : GS) : Res :=
  (D_PB_restore kk G).bind (fun r => oI r (fun v4 G1 =>
  okI (0 : Int32) (so_ G1 v4.toInt64)) (fun e2 G3 => if e2 = 4 then okI (1 : Int32) G3 else none))
end
section
def A_abs (a : List AV) (G : GS) : Res := match a with
  | [.inl (.int a0)] => D_abs a0 G
  | _ => none
def A_max (a : List AV) (G : GS) : Res := match a with
  | [.inl (.int a0), .inl (.int a1)] => D_max a0 a1 G
  | _ => none
def A_min (a : List AV) (G : GS) : Res := match a with
  | [.inl (.int a0), .inl (.int a1)] => D_min a0 a1 G
  | _ => none
def A_fmod (a : List AV) (G : GS) : Res := match a with
  | [.inl (.int a0), .inl (.int a1)] => D_fmod a0 a1 G
  | _ => none
def A_acopy (a : List AV) (G : GS) : Res := match a with
  | [.inr a0, .inl (.int a1), .inr a2, .inl (.int a3), .inl (.int a4)] => D_acopy a0 a1 a2 a3 a4 G
  | _ => none
def A_slen (a : List AV) (G : GS) : Res := match a with
  | [.inr (a9, 200)] => D_slen a9 G
  | _ => none
def A_sat (a : List AV) (G : GS) : Res := match a with
  | [.inr (a9, 200), .inl (.int a0)] => D_sat a9 a0 G
  | _ => none
def A_bapc (a : List AV) (G : GS) : Res := match a with
  | [.inr (0, 16), .inl (.int a0)] => D_bapc a0 G
  | _ => none
def A_bapi (a : List AV) (G : GS) : Res := match a with
  | [.inr (0, 16), .inl (.int a0)] => D_bapi a0 G
  | _ => none
def A_blen (a : List AV) (G : GS) : Res := match a with
  | [.inr (0, 16)] => D_blen G
  | _ => none
def A_bset (a : List AV) (G : GS) : Res := match a with
  | [.inr (0, 16), .inl (.int a0)] => D_bset a0 G
  | _ => none
def A_bat (a : List AV) (G : GS) : Res := match a with
  | [.inr (0, 16), .inl (.int a0)] => D_bat a0 G
  | _ => none
def A_Cargo_copyFrom (kk : Nat) (a : List AV) (G : GS) : Res := match a with
  | [.inr (j, 2), .inr (a0, 2)] => D_Cargo_copyFrom kk j a0 G
  | _ => none
def A_PB_isBay (kk : Nat) (a : List AV) (G : GS) : Res := match a with
  | [.inl (.int a0)] => D_PB_isBay kk a0 G
  | _ => none
def A_Cargo_heightOf (kk : Nat) (a : List AV) (G : GS) : Res := match a with
  | [.inr (j, 2), .inl (.int a0)] => D_Cargo_heightOf kk j a0 G
  | _ => none
def A_Cargo_isTaken (kk : Nat) (a : List AV) (G : GS) : Res := match a with
  | [.inr (j, 2), .inl (.int a0)] => D_Cargo_isTaken kk j a0 G
  | _ => none
def A_Cargo_slotAt (kk : Nat) (a : List AV) (G : GS) : Res := match a with
  | [.inr (j, 2), .inl (.int a0), .inl (.int a1)] => D_Cargo_slotAt kk j a0 a1 G
  | _ => none
def A_Cargo_topSlot (kk : Nat) (a : List AV) (G : GS) : Res := match a with
  | [.inr (j, 2), .inl (.int a0)] => D_Cargo_topSlot kk j a0 G
  | _ => none
def A_Cargo_slotOf (kk : Nat) (a : List AV) (G : GS) : Res := match a with
  | [.inr (j, 2), .inl (.int a0)] => D_Cargo_slotOf kk j a0 G
  | _ => none
def A_PB_isSlot (kk : Nat) (a : List AV) (G : GS) : Res := match a with
  | [.inl (.int a0)] => D_PB_isSlot kk a0 G
  | _ => none
def A_Cargo_numberIn (kk : Nat) (a : List AV) (G : GS) : Res := match a with
  | [.inr (j, 2), .inl (.int a0)] => D_Cargo_numberIn kk j a0 G
  | _ => none
def A_Cargo_weightIn (kk : Nat) (a : List AV) (G : GS) : Res := match a with
  | [.inr (j, 2), .inl (.int a0)] => D_Cargo_weightIn kk j a0 G
  | _ => none
def A_Cargo_destinationIn (kk : Nat) (a : List AV) (G : GS) : Res := match a with
  | [.inr (j, 2), .inl (.int a0)] => D_Cargo_destinationIn kk j a0 G
  | _ => none
def A_Cargo_dayIn (kk : Nat) (a : List AV) (G : GS) : Res := match a with
  | [.inr (j, 2), .inl (.int a0)] => D_Cargo_dayIn kk j a0 G
  | _ => none
def A_Cargo_countPillows (kk : Nat) (a : List AV) (G : GS) : Res := match a with
  | [.inr (j, 2)] => D_Cargo_countPillows kk j G
  | _ => none
def A_Cargo_weightOfAll (kk : Nat) (a : List AV) (G : GS) : Res := match a with
  | [.inr (j, 2)] => D_Cargo_weightOfAll kk j G
  | _ => none
def A_Cargo_weightForPort (kk : Nat) (a : List AV) (G : GS) : Res := match a with
  | [.inr (j, 2), .inl (.int a0)] => D_Cargo_weightForPort kk j a0 G
  | _ => none
def A_Cargo_weightOfBay (kk : Nat) (a : List AV) (G : GS) : Res := match a with
  | [.inr (j, 2), .inl (.int a0)] => D_Cargo_weightOfBay kk j a0 G
  | _ => none
def A_PB_leverArm (kk : Nat) (a : List AV) (G : GS) : Res := match a with
  | [.inl (.int a0)] => D_PB_leverArm kk a0 G
  | _ => none
def A_Cargo_momentOfPillows (kk : Nat) (a : List AV) (G : GS) : Res := match a with
  | [.inr (j, 2)] => D_Cargo_momentOfPillows kk j G
  | _ => none
def A_Cargo_momentOfBays (kk : Nat) (a : List AV) (G : GS) : Res := match a with
  | [.inr (j, 2)] => D_Cargo_momentOfBays kk j G
  | _ => none
def A_Cargo_put (kk : Nat) (a : List AV) (G : GS) : Res := match a with
  | [.inr (j, 2), .inl (.int a0), .inl (.int a1), .inl (.int a2), .inl (.int a3), .inl (.int a4)] => D_Cargo_put kk j a0 a1 a2 a3 a4 G
  | _ => none
def A_Cargo_removeTop (kk : Nat) (a : List AV) (G : GS) : Res := match a with
  | [.inr (j, 2), .inl (.int a0)] => D_Cargo_removeTop kk j a0 G
  | _ => none
def A_History_placeAt (kk : Nat) (a : List AV) (G : GS) : Res := match a with
  | [.inr (0, 10), .inl (.int a0)] => D_History_placeAt kk a0 G
  | _ => none
def A_Voyage_copyFrom (kk : Nat) (a : List AV) (G : GS) : Res := match a with
  | [.inr (j, 3), .inr (a0, 3)] => D_Voyage_copyFrom kk j a0 G
  | _ => none
def A_Tally_copyFrom (kk : Nat) (a : List AV) (G : GS) : Res := match a with
  | [.inr (j, 4), .inr (a0, 4)] => D_Tally_copyFrom kk j a0 G
  | _ => none
def A_State_copyFrom (kk : Nat) (a : List AV) (G : GS) : Res := match a with
  | [.inr (j, 1), .inr (a0, 1)] => D_State_copyFrom kk j a0 G
  | _ => none
def A_History_draft (kk : Nat) (a : List AV) (G : GS) : Res := match a with
  | [.inr (0, 10), .inr (a0, 1)] => D_History_draft kk a0 G
  | _ => none
def A_History_keepDraft (kk : Nat) (a : List AV) (G : GS) : Res := match a with
  | [.inr (0, 10)] => D_History_keepDraft kk G
  | _ => none
def A_History_takeDraftBack (kk : Nat) (a : List AV) (G : GS) : Res := match a with
  | [.inr (0, 10), .inr (a0, 1)] => D_History_takeDraftBack kk a0 G
  | _ => none
def A_History_takeLatestBack (kk : Nat) (a : List AV) (G : GS) : Res := match a with
  | [.inr (0, 10), .inr (a0, 1)] => D_History_takeLatestBack kk a0 G
  | _ => none
def A_History_forget (kk : Nat) (a : List AV) (G : GS) : Res := match a with
  | [.inr (0, 10)] => D_History_forget kk G
  | _ => none
def A_Script_isFull (kk : Nat) (a : List AV) (G : GS) : Res := match a with
  | [.inr (0, 12)] => D_Script_isFull kk G
  | _ => none
def A_Script_append (kk : Nat) (a : List AV) (G : GS) : Res := match a with
  | [.inr (0, 12), .inl (.int a0)] => D_Script_append kk a0 G
  | _ => none
def A_Script_empty (kk : Nat) (a : List AV) (G : GS) : Res := match a with
  | [.inr (0, 12)] => D_Script_empty kk G
  | _ => none
def A_Script_commandAt (kk : Nat) (a : List AV) (G : GS) : Res := match a with
  | [.inr (0, 12), .inl (.int a0)] => D_Script_commandAt kk a0 G
  | _ => none
def A_Script_argumentAt (kk : Nat) (a : List AV) (G : GS) : Res := match a with
  | [.inr (0, 12), .inl (.int a0), .inl (.int a1)] => D_Script_argumentAt kk a0 a1 G
  | _ => none
def A_Script_keywordOf (kk : Nat) (a : List AV) (G : GS) : Res := match a with
  | [.inl (.int a0)] => D_Script_keywordOf kk a0 G
  | _ => none
def A_Script_isNext (kk : Nat) (a : List AV) (G : GS) : Res := match a with
  | [.inr (0, 12), .inl (.int a0), .inl (.int a1)] => D_Script_isNext kk a0 a1 G
  | _ => none
def A_Script_countMatching (kk : Nat) (a : List AV) (G : GS) : Res := match a with
  | [.inr (0, 12), .inr (a0, 200)] => D_Script_countMatching kk a0 G
  | _ => none
def A_Script_readKeyword (kk : Nat) (a : List AV) (G : GS) : Res := match a with
  | [.inr (0, 12)] => D_Script_readKeyword kk G
  | _ => none
def A_Script_takeDigit (kk : Nat) (a : List AV) (G : GS) : Res := match a with
  | [.inr (0, 12)] => D_Script_takeDigit kk G
  | _ => none
def A_Script_setArgument (kk : Nat) (a : List AV) (G : GS) : Res := match a with
  | [.inr (0, 12), .inl (.int a0), .inl (.int a1)] => D_Script_setArgument kk a0 a1 G
  | _ => none
def A_Script_readDigit (kk : Nat) (a : List AV) (G : GS) : Res := match a with
  | [.inr (0, 12), .inl (.int a0)] => D_Script_readDigit kk a0 G
  | _ => none
def A_Script_accept (kk : Nat) (a : List AV) (G : GS) : Res := match a with
  | [.inr (0, 12), .inl (.int a0)] => D_Script_accept kk a0 G
  | _ => none
def A_Script_readNumber (kk : Nat) (a : List AV) (G : GS) : Res := match a with
  | [.inr (0, 12), .inl (.int a0)] => D_Script_readNumber kk a0 G
  | _ => none
def A_Script_readSignedNumber (kk : Nat) (a : List AV) (G : GS) : Res := match a with
  | [.inr (0, 12), .inl (.int a0)] => D_Script_readSignedNumber kk a0 G
  | _ => none
def A_Script_readCommand (kk : Nat) (a : List AV) (G : GS) : Res := match a with
  | [.inr (0, 12)] => D_Script_readCommand kk G
  | _ => none
def A_Script_parse (kk : Nat) (a : List AV) (G : GS) : Res := match a with
  | [.inr (0, 12)] => D_Script_parse kk G
  | _ => none
def A_State_isWithinLimit (kk : Nat) (a : List AV) (G : GS) : Res := match a with
  | [.inr (j, 1), .inl (.int a0)] => D_State_isWithinLimit kk j a0 G
  | _ => none
def A_Voyage_countLegsTo (kk : Nat) (a : List AV) (G : GS) : Res := match a with
  | [.inr (j, 3), .inl (.int a0)] => D_Voyage_countLegsTo kk j a0 G
  | _ => none
def A_State_legsIn (kk : Nat) (a : List AV) (G : GS) : Res := match a with
  | [.inr (j, 1), .inl (.int a0)] => D_State_legsIn kk j a0 G
  | _ => none
def A_State_ageIn (kk : Nat) (a : List AV) (G : GS) : Res := match a with
  | [.inr (j, 1), .inl (.int a0)] => D_State_ageIn kk j a0 G
  | _ => none
def A_PB_isWeight (kk : Nat) (a : List AV) (G : GS) : Res := match a with
  | [.inl (.int a0)] => D_PB_isWeight kk a0 G
  | _ => none
def A_PB_isPort (kk : Nat) (a : List AV) (G : GS) : Res := match a with
  | [.inl (.int a0)] => D_PB_isPort kk a0 G
  | _ => none
def A_State_faultOfMoment (kk : Nat) (a : List AV) (G : GS) : Res := match a with
  | [.inr (j, 1), .inl (.int a0)] => D_State_faultOfMoment kk j a0 G
  | _ => none
def A_State_faultOfLoad (kk : Nat) (a : List AV) (G : GS) : Res := match a with
  | [.inr (j, 1), .inl (.int a0), .inl (.int a1), .inl (.int a2)] => D_State_faultOfLoad kk j a0 a1 a2 G
  | _ => none
def A_State_faultOfUnload (kk : Nat) (a : List AV) (G : GS) : Res := match a with
  | [.inr (j, 1), .inl (.int a0)] => D_State_faultOfUnload kk j a0 G
  | _ => none
def A_State_faultOfShift (kk : Nat) (a : List AV) (G : GS) : Res := match a with
  | [.inr (j, 1), .inl (.int a0), .inl (.int a1)] => D_State_faultOfShift kk j a0 a1 G
  | _ => none
def A_State_faultOfLimit (kk : Nat) (a : List AV) (G : GS) : Res := match a with
  | [.inr (j, 1), .inl (.int a0)] => D_State_faultOfLimit kk j a0 G
  | _ => none
def A_State_faultOf (kk : Nat) (a : List AV) (G : GS) : Res := match a with
  | [.inr (j, 1), .inl (.int a0), .inl (.int a1), .inl (.int a2), .inl (.int a3)] => D_State_faultOf kk j a0 a1 a2 a3 G
  | _ => none
def A_State_addPillow (kk : Nat) (a : List AV) (G : GS) : Res := match a with
  | [.inr (j, 1), .inl (.int a0), .inl (.int a1), .inl (.int a2)] => D_State_addPillow kk j a0 a1 a2 G
  | _ => none
def A_State_deliverTop (kk : Nat) (a : List AV) (G : GS) : Res := match a with
  | [.inr (j, 1), .inl (.int a0)] => D_State_deliverTop kk j a0 G
  | _ => none
def A_State_moveTop (kk : Nat) (a : List AV) (G : GS) : Res := match a with
  | [.inr (j, 1), .inl (.int a0), .inl (.int a1)] => D_State_moveTop kk j a0 a1 G
  | _ => none
def A_Voyage_portIn (kk : Nat) (a : List AV) (G : GS) : Res := match a with
  | [.inr (j, 3), .inl (.int a0)] => D_Voyage_portIn kk j a0 G
  | _ => none
def A_Voyage_advance (kk : Nat) (a : List AV) (G : GS) : Res := match a with
  | [.inr (j, 3), .inl (.int a0)] => D_Voyage_advance kk j a0 G
  | _ => none
def A_Voyage_reverse (kk : Nat) (a : List AV) (G : GS) : Res := match a with
  | [.inr (j, 3)] => D_Voyage_reverse kk j G
  | _ => none
def A_State_replaceLimit (kk : Nat) (a : List AV) (G : GS) : Res := match a with
  | [.inr (j, 1), .inl (.int a0)] => D_State_replaceLimit kk j a0 G
  | _ => none
def A_State_practise (kk : Nat) (a : List AV) (G : GS) : Res := match a with
  | [.inr (j, 1), .inl (.int a0)] => D_State_practise kk j a0 G
  | _ => none
def A_State_perform (kk : Nat) (a : List AV) (G : GS) : Res := match a with
  | [.inr (j, 1), .inl (.int a0), .inl (.int a1), .inl (.int a2), .inl (.int a3)] => D_State_perform kk j a0 a1 a2 a3 G
  | _ => none
def A_PB_throwFault (kk : Nat) (a : List AV) (G : GS) : Res := match a with
  | [.inl (.int a0)] => D_PB_throwFault kk a0 G
  | _ => none
def A_PB_change (kk : Nat) (a : List AV) (G : GS) : Res := match a with
  | [.inr (0, 0), .inl (.int a0), .inl (.int a1), .inl (.int a2), .inl (.int a3)] => D_PB_change kk a0 a1 a2 a3 G
  | _ => none
def A_PB_load (kk : Nat) (a : List AV) (G : GS) : Res := match a with
  | [.inr (0, 0), .inl (.int a0), .inl (.int a1), .inl (.int a2)] => D_PB_load kk a0 a1 a2 G
  | _ => none
def A_PB_unload (kk : Nat) (a : List AV) (G : GS) : Res := match a with
  | [.inr (0, 0), .inl (.int a0)] => D_PB_unload kk a0 G
  | _ => none
def A_PB_shift (kk : Nat) (a : List AV) (G : GS) : Res := match a with
  | [.inr (0, 0), .inl (.int a0), .inl (.int a1)] => D_PB_shift kk a0 a1 G
  | _ => none
def A_PB_sail (kk : Nat) (a : List AV) (G : GS) : Res := match a with
  | [.inr (0, 0), .inl (.int a0)] => D_PB_sail kk a0 G
  | _ => none
def A_PB_turn (kk : Nat) (a : List AV) (G : GS) : Res := match a with
  | [.inr (0, 0)] => D_PB_turn kk G
  | _ => none
def A_PB_setLimit (kk : Nat) (a : List AV) (G : GS) : Res := match a with
  | [.inr (0, 0), .inl (.int a0)] => D_PB_setLimit kk a0 G
  | _ => none
def A_PB_drill (kk : Nat) (a : List AV) (G : GS) : Res := match a with
  | [.inr (0, 0), .inl (.int a0)] => D_PB_drill kk a0 G
  | _ => none
def A_PB_pillowCount (kk : Nat) (a : List AV) (G : GS) : Res := match a with
  | [.inr (0, 0)] => D_PB_pillowCount kk G
  | _ => none
def A_PB_requireBay (kk : Nat) (a : List AV) (G : GS) : Res := match a with
  | [.inl (.int a0)] => D_PB_requireBay kk a0 G
  | _ => none
def A_PB_stackHeight (kk : Nat) (a : List AV) (G : GS) : Res := match a with
  | [.inr (0, 0), .inl (.int a0)] => D_PB_stackHeight kk a0 G
  | _ => none
def A_PB_requireSlot (kk : Nat) (a : List AV) (G : GS) : Res := match a with
  | [.inl (.int a0)] => D_PB_requireSlot kk a0 G
  | _ => none
def A_PB_pillowAt (kk : Nat) (a : List AV) (G : GS) : Res := match a with
  | [.inr (0, 0), .inl (.int a0), .inl (.int a1)] => D_PB_pillowAt kk a0 a1 G
  | _ => none
def A_PB_requirePillow (kk : Nat) (a : List AV) (G : GS) : Res := match a with
  | [.inr (0, 0), .inl (.int a0)] => D_PB_requirePillow kk a0 G
  | _ => none
def A_PB_weightOf (kk : Nat) (a : List AV) (G : GS) : Res := match a with
  | [.inr (0, 0), .inl (.int a0)] => D_PB_weightOf kk a0 G
  | _ => none
def A_PB_destinationOf (kk : Nat) (a : List AV) (G : GS) : Res := match a with
  | [.inr (0, 0), .inl (.int a0)] => D_PB_destinationOf kk a0 G
  | _ => none
def A_PB_bayOf (kk : Nat) (a : List AV) (G : GS) : Res := match a with
  | [.inr (0, 0), .inl (.int a0)] => D_PB_bayOf kk a0 G
  | _ => none
def A_PB_positionOf (kk : Nat) (a : List AV) (G : GS) : Res := match a with
  | [.inr (0, 0), .inl (.int a0)] => D_PB_positionOf kk a0 G
  | _ => none
def A_PB_ageOf (kk : Nat) (a : List AV) (G : GS) : Res := match a with
  | [.inr (0, 0), .inl (.int a0)] => D_PB_ageOf kk a0 G
  | _ => none
def A_PB_isOlder (kk : Nat) (a : List AV) (G : GS) : Res := match a with
  | [.inr (0, 0), .inl (.int a0), .inl (.int a1)] => D_PB_isOlder kk a0 a1 G
  | _ => none
def A_PB_oldestSlotIn (kk : Nat) (a : List AV) (G : GS) : Res := match a with
  | [.inr (0, 0), .inl (.int a0)] => D_PB_oldestSlotIn kk a0 G
  | _ => none
def A_PB_oldestIn (kk : Nat) (a : List AV) (G : GS) : Res := match a with
  | [.inr (0, 0), .inl (.int a0)] => D_PB_oldestIn kk a0 G
  | _ => none
def A_PB_moment (kk : Nat) (a : List AV) (G : GS) : Res := match a with
  | [.inr (0, 0)] => D_PB_moment kk G
  | _ => none
def A_PB_momentByBays (kk : Nat) (a : List AV) (G : GS) : Res := match a with
  | [.inr (0, 0)] => D_PB_momentByBays kk G
  | _ => none
def A_PB_totalWeight (kk : Nat) (a : List AV) (G : GS) : Res := match a with
  | [.inr (0, 0)] => D_PB_totalWeight kk G
  | _ => none
def A_PB_requirePort (kk : Nat) (a : List AV) (G : GS) : Res := match a with
  | [.inl (.int a0)] => D_PB_requirePort kk a0 G
  | _ => none
def A_PB_weightFor (kk : Nat) (a : List AV) (G : GS) : Res := match a with
  | [.inr (0, 0), .inl (.int a0)] => D_PB_weightFor kk a0 G
  | _ => none
def A_PB_limit (kk : Nat) (a : List AV) (G : GS) : Res := match a with
  | [.inr (0, 0)] => D_PB_limit kk G
  | _ => none
def A_PB_listAngle (kk : Nat) (a : List AV) (G : GS) : Res := match a with
  | [.inr (0, 0)] => D_PB_listAngle kk G
  | _ => none
def A_PB_greatestPush (kk : Nat) (a : List AV) (G : GS) : Res := match a with
  | [.inr (0, 0)] => D_PB_greatestPush kk G
  | _ => none
def A_PB_isMoreLevel (kk : Nat) (a : List AV) (G : GS) : Res := match a with
  | [.inr (0, 0), .inl (.int a0), .inl (.int a1), .inl (.int a2)] => D_PB_isMoreLevel kk a0 a1 a2 G
  | _ => none
def A_PB_mostLevelBay (kk : Nat) (a : List AV) (G : GS) : Res := match a with
  | [.inr (0, 0), .inl (.int a0)] => D_PB_mostLevelBay kk a0 G
  | _ => none
def A_PB_levelingBay (kk : Nat) (a : List AV) (G : GS) : Res := match a with
  | [.inr (0, 0), .inl (.int a0)] => D_PB_levelingBay kk a0 G
  | _ => none
def A_PB_port (kk : Nat) (a : List AV) (G : GS) : Res := match a with
  | [.inr (0, 0)] => D_PB_port kk G
  | _ => none
def A_PB_day (kk : Nat) (a : List AV) (G : GS) : Res := match a with
  | [.inr (0, 0)] => D_PB_day kk G
  | _ => none
def A_PB_isAscending (kk : Nat) (a : List AV) (G : GS) : Res := match a with
  | [.inr (0, 0)] => D_PB_isAscending kk G
  | _ => none
def A_PB_legsTo (kk : Nat) (a : List AV) (G : GS) : Res := match a with
  | [.inr (0, 0), .inl (.int a0)] => D_PB_legsTo kk a0 G
  | _ => none
def A_PB_portAfter (kk : Nat) (a : List AV) (G : GS) : Res := match a with
  | [.inr (0, 0), .inl (.int a0)] => D_PB_portAfter kk a0 G
  | _ => none
def A_PB_heaviestPort (kk : Nat) (a : List AV) (G : GS) : Res := match a with
  | [.inr (0, 0)] => D_PB_heaviestPort kk G
  | _ => none
def A_PB_countInTheWayOf (kk : Nat) (a : List AV) (G : GS) : Res := match a with
  | [.inr (0, 0), .inl (.int a0)] => D_PB_countInTheWayOf kk a0 G
  | _ => none
def A_PB_pillowsInTheWay (kk : Nat) (a : List AV) (G : GS) : Res := match a with
  | [.inr (0, 0), .inl (.int a0)] => D_PB_pillowsInTheWay kk a0 G
  | _ => none
def A_PB_countPairs (kk : Nat) (a : List AV) (G : GS) : Res := match a with
  | [.inr (0, 0)] => D_PB_countPairs kk G
  | _ => none
def A_PB_pairsInTheWay (kk : Nat) (a : List AV) (G : GS) : Res := match a with
  | [.inr (0, 0)] => D_PB_pairsInTheWay kk G
  | _ => none
def A_PB_seePillow (kk : Nat) (a : List AV) (G : GS) : Res := match a with
  | [.inr (0, 0), .inl (.int a0)] => D_PB_seePillow kk a0 G
  | _ => none
def A_PB_countPairsInStack (kk : Nat) (a : List AV) (G : GS) : Res := match a with
  | [.inr (0, 0), .inl (.int a0)] => D_PB_countPairsInStack kk a0 G
  | _ => none
def A_PB_countPairsByStacks (kk : Nat) (a : List AV) (G : GS) : Res := match a with
  | [.inr (0, 0)] => D_PB_countPairsByStacks kk G
  | _ => none
def A_PB_pairsInTheWayByStacks (kk : Nat) (a : List AV) (G : GS) : Res := match a with
  | [.inr (0, 0)] => D_PB_pairsInTheWayByStacks kk G
  | _ => none
def A_PB_unloadableCount (kk : Nat) (a : List AV) (G : GS) : Res := match a with
  | [.inr (0, 0)] => D_PB_unloadableCount kk G
  | _ => none
def A_PB_possibleShifts (kk : Nat) (a : List AV) (G : GS) : Res := match a with
  | [.inr (0, 0)] => D_PB_possibleShifts kk G
  | _ => none
def A_PB_hasEarlierTurn (kk : Nat) (a : List AV) (G : GS) : Res := match a with
  | [.inr (0, 0), .inl (.int a0), .inl (.int a1)] => D_PB_hasEarlierTurn kk a0 a1 G
  | _ => none
def A_PB_countEarlierTurns (kk : Nat) (a : List AV) (G : GS) : Res := match a with
  | [.inr (0, 0), .inl (.int a0)] => D_PB_countEarlierTurns kk a0 G
  | _ => none
def A_PB_pillowByTurn (kk : Nat) (a : List AV) (G : GS) : Res := match a with
  | [.inr (0, 0), .inl (.int a0)] => D_PB_pillowByTurn kk a0 G
  | _ => none
def A_PB_countHeavierBays (kk : Nat) (a : List AV) (G : GS) : Res := match a with
  | [.inr (0, 0), .inl (.int a0)] => D_PB_countHeavierBays kk a0 G
  | _ => none
def A_PB_bayByWeight (kk : Nat) (a : List AV) (G : GS) : Res := match a with
  | [.inr (0, 0), .inl (.int a0)] => D_PB_bayByWeight kk a0 G
  | _ => none
def A_PB_loadedTotal (kk : Nat) (a : List AV) (G : GS) : Res := match a with
  | [.inr (0, 0)] => D_PB_loadedTotal kk G
  | _ => none
def A_PB_deliveredTotal (kk : Nat) (a : List AV) (G : GS) : Res := match a with
  | [.inr (0, 0)] => D_PB_deliveredTotal kk G
  | _ => none
def A_PB_deliveredWeight (kk : Nat) (a : List AV) (G : GS) : Res := match a with
  | [.inr (0, 0)] => D_PB_deliveredWeight kk G
  | _ => none
def A_PB_drillTotal (kk : Nat) (a : List AV) (G : GS) : Res := match a with
  | [.inr (0, 0)] => D_PB_drillTotal kk G
  | _ => none
def A_PB_capsizedTotal (kk : Nat) (a : List AV) (G : GS) : Res := match a with
  | [.inr (0, 0)] => D_PB_capsizedTotal kk G
  | _ => none
def A_PB_sumOfAges (kk : Nat) (a : List AV) (G : GS) : Res := match a with
  | [.inr (0, 0)] => D_PB_sumOfAges kk G
  | _ => none
def A_PB_meanAge (kk : Nat) (a : List AV) (G : GS) : Res := match a with
  | [.inr (0, 0)] => D_PB_meanAge kk G
  | _ => none
def A_PB_capsizedShare (kk : Nat) (a : List AV) (G : GS) : Res := match a with
  | [.inr (0, 0)] => D_PB_capsizedShare kk G
  | _ => none
def A_PB_isConsistent (kk : Nat) (a : List AV) (G : GS) : Res := match a with
  | [.inr (0, 0)] => D_PB_isConsistent kk G
  | _ => none
def A_PB_separate (kk : Nat) (a : List AV) (G : GS) : Res := match a with
  | [.inr (0, 0)] => D_PB_separate kk G
  | _ => none
def A_PB_renderPillow (kk : Nat) (a : List AV) (G : GS) : Res := match a with
  | [.inr (0, 0), .inl (.int a0)] => D_PB_renderPillow kk a0 G
  | _ => none
def A_PB_renderStack (kk : Nat) (a : List AV) (G : GS) : Res := match a with
  | [.inr (0, 0), .inl (.int a0)] => D_PB_renderStack kk a0 G
  | _ => none
def A_PB_renderBarge (kk : Nat) (a : List AV) (G : GS) : Res := match a with
  | [.inr (0, 0)] => D_PB_renderBarge kk G
  | _ => none
def A_PB_outputAt (kk : Nat) (a : List AV) (G : GS) : Res := match a with
  | [.inr (0, 0), .inl (.int a0)] => D_PB_outputAt kk a0 G
  | _ => none
def A_PB_type (kk : Nat) (a : List AV) (G : GS) : Res := match a with
  | [.inr (0, 0), .inl (.int a0)] => D_PB_type kk a0 G
  | _ => none
def A_PB_performCommands (kk : Nat) (a : List AV) (G : GS) : Res := match a with
  | [.inr (0, 0)] => D_PB_performCommands kk G
  | _ => none
def A_PB_runScript (kk : Nat) (a : List AV) (G : GS) : Res := match a with
  | [.inr (0, 0)] => D_PB_runScript kk G
  | _ => none
def A_PB_errorPosition (kk : Nat) (a : List AV) (G : GS) : Res := match a with
  | [.inr (0, 0)] => D_PB_errorPosition kk G
  | _ => none
def A_PB_failedCommand (kk : Nat) (a : List AV) (G : GS) : Res := match a with
  | [.inr (0, 0)] => D_PB_failedCommand kk G
  | _ => none
def A_PB_undo (kk : Nat) (a : List AV) (G : GS) : Res := match a with
  | [.inr (0, 0)] => D_PB_undo kk G
  | _ => none
def A_PB_save (kk : Nat) (a : List AV) (G : GS) : Res := match a with
  | [.inr (0, 0)] => D_PB_save kk G
  | _ => none
def A_PB_restore (kk : Nat) (a : List AV) (G : GS) : Res := match a with
  | [.inr (0, 0)] => D_PB_restore kk G
  | _ => none
def A_Mo_thrown (kk : Nat) (a : List AV) (G : GS) : Res := match a with
  | [.inr (0, 50)] => D_Mo_thrown kk G
  | _ => none
def A_Mo_fails (kk : Nat) (a : List AV) (G : GS) : Res := match a with
  | [.inr (0, 50), .inl (.int a0)] => D_Mo_fails kk a0 G
  | _ => none
def A_Mo_isBetween (kk : Nat) (a : List AV) (G : GS) : Res := match a with
  | [.inl (.int a0), .inl (.int a1), .inl (.int a2)] => D_Mo_isBetween kk a0 a1 a2 G
  | _ => none
def A_Mo_copies (kk : Nat) (a : List AV) (G : GS) : Res := match a with
  | [.inr (0, 50)] => D_Mo_copies kk G
  | _ => none
def A_Mo_goesBack (kk : Nat) (a : List AV) (G : GS) : Res := match a with
  | [.inr (0, 50)] => D_Mo_goesBack kk G
  | _ => none
def A_Mo_keeps (kk : Nat) (a : List AV) (G : GS) : Res := match a with
  | [.inr (0, 50)] => D_Mo_keeps kk G
  | _ => none
def A_Mo_remembers (kk : Nat) (a : List AV) (G : GS) : Res := match a with
  | [.inr (0, 50)] => D_Mo_remembers kk G
  | _ => none
def A_Mo_isBay (kk : Nat) (a : List AV) (G : GS) : Res := match a with
  | [.inl (.int a0)] => D_Mo_isBay kk a0 G
  | _ => none
def A_Mo_at (kk : Nat) (a : List AV) (G : GS) : Res := match a with
  | [.inr (0, 50), .inl (.int a0), .inl (.int a1), .inl (.int a2)] => D_Mo_at kk a0 a1 a2 G
  | _ => none
def A_Mo_puts (kk : Nat) (a : List AV) (G : GS) : Res := match a with
  | [.inr (0, 50), .inl (.int a0), .inl (.int a1), .inl (.int a2), .inl (.int a3)] => D_Mo_puts kk a0 a1 a2 a3 G
  | _ => none
def A_Mo_top (kk : Nat) (a : List AV) (G : GS) : Res := match a with
  | [.inr (0, 50), .inl (.int a0), .inl (.int a1)] => D_Mo_top kk a0 a1 G
  | _ => none
def A_Mo_weightOfBay (kk : Nat) (a : List AV) (G : GS) : Res := match a with
  | [.inr (0, 50), .inl (.int a0)] => D_Mo_weightOfBay kk a0 G
  | _ => none
def A_Mo_momentNow (kk : Nat) (a : List AV) (G : GS) : Res := match a with
  | [.inr (0, 50)] => D_Mo_momentNow kk G
  | _ => none
def A_Mo_weightAll (kk : Nat) (a : List AV) (G : GS) : Res := match a with
  | [.inr (0, 50)] => D_Mo_weightAll kk G
  | _ => none
def A_Mo_countAll (kk : Nat) (a : List AV) (G : GS) : Res := match a with
  | [.inr (0, 50)] => D_Mo_countAll kk G
  | _ => none
def A_Mo_isBeyond (kk : Nat) (a : List AV) (G : GS) : Res := match a with
  | [.inr (0, 50), .inl (.int a0)] => D_Mo_isBeyond kk a0 G
  | _ => none
def A_Mo_lever (kk : Nat) (a : List AV) (G : GS) : Res := match a with
  | [.inl (.int a0), .inl (.int a1)] => D_Mo_lever kk a0 a1 G
  | _ => none
def A_Mo_lays (kk : Nat) (a : List AV) (G : GS) : Res := match a with
  | [.inr (0, 50), .inl (.int a0), .inl (.int a1), .inl (.int a2), .inl (.int a3), .inl (.int a4)] => D_Mo_lays kk a0 a1 a2 a3 a4 G
  | _ => none
def A_Mo_takes (kk : Nat) (a : List AV) (G : GS) : Res := match a with
  | [.inr (0, 50), .inl (.int a0)] => D_Mo_takes kk a0 G
  | _ => none
def A_Mo_notLoad (kk : Nat) (a : List AV) (G : GS) : Res := match a with
  | [.inr (0, 50), .inl (.int a0), .inl (.int a1), .inl (.int a2)] => D_Mo_notLoad kk a0 a1 a2 G
  | _ => none
def A_Mo_loads (kk : Nat) (a : List AV) (G : GS) : Res := match a with
  | [.inr (0, 50), .inl (.int a0), .inl (.int a1), .inl (.int a2)] => D_Mo_loads kk a0 a1 a2 G
  | _ => none
def A_Mo_load (kk : Nat) (a : List AV) (G : GS) : Res := match a with
  | [.inr (0, 50), .inl (.int a0), .inl (.int a1), .inl (.int a2)] => D_Mo_load kk a0 a1 a2 G
  | _ => none
def A_Mo_notUnload (kk : Nat) (a : List AV) (G : GS) : Res := match a with
  | [.inr (0, 50), .inl (.int a0)] => D_Mo_notUnload kk a0 G
  | _ => none
def A_Mo_unloads (kk : Nat) (a : List AV) (G : GS) : Res := match a with
  | [.inr (0, 50), .inl (.int a0)] => D_Mo_unloads kk a0 G
  | _ => none
def A_Mo_unload (kk : Nat) (a : List AV) (G : GS) : Res := match a with
  | [.inr (0, 50), .inl (.int a0)] => D_Mo_unload kk a0 G
  | _ => none
def A_Mo_notShift (kk : Nat) (a : List AV) (G : GS) : Res := match a with
  | [.inr (0, 50), .inl (.int a0), .inl (.int a1)] => D_Mo_notShift kk a0 a1 G
  | _ => none
def A_Mo_shifts (kk : Nat) (a : List AV) (G : GS) : Res := match a with
  | [.inr (0, 50), .inl (.int a0), .inl (.int a1)] => D_Mo_shifts kk a0 a1 G
  | _ => none
def A_Mo_shift (kk : Nat) (a : List AV) (G : GS) : Res := match a with
  | [.inr (0, 50), .inl (.int a0), .inl (.int a1)] => D_Mo_shift kk a0 a1 G
  | _ => none
def A_Mo_portBehind (kk : Nat) (a : List AV) (G : GS) : Res := match a with
  | [.inr (0, 50), .inl (.int a0)] => D_Mo_portBehind kk a0 G
  | _ => none
def A_Mo_notSail (kk : Nat) (a : List AV) (G : GS) : Res := match a with
  | [.inl (.int a0)] => D_Mo_notSail kk a0 G
  | _ => none
def A_Mo_sails (kk : Nat) (a : List AV) (G : GS) : Res := match a with
  | [.inr (0, 50), .inl (.int a0)] => D_Mo_sails kk a0 G
  | _ => none
def A_Mo_sail (kk : Nat) (a : List AV) (G : GS) : Res := match a with
  | [.inr (0, 50), .inl (.int a0)] => D_Mo_sail kk a0 G
  | _ => none
def A_Mo_turns (kk : Nat) (a : List AV) (G : GS) : Res := match a with
  | [.inr (0, 50)] => D_Mo_turns kk G
  | _ => none
def A_Mo_turn (kk : Nat) (a : List AV) (G : GS) : Res := match a with
  | [.inr (0, 50)] => D_Mo_turn kk G
  | _ => none
def A_Mo_notLimit (kk : Nat) (a : List AV) (G : GS) : Res := match a with
  | [.inr (0, 50), .inl (.int a0)] => D_Mo_notLimit kk a0 G
  | _ => none
def A_Mo_setsLimit (kk : Nat) (a : List AV) (G : GS) : Res := match a with
  | [.inr (0, 50), .inl (.int a0)] => D_Mo_setsLimit kk a0 G
  | _ => none
def A_Mo_setLimit (kk : Nat) (a : List AV) (G : GS) : Res := match a with
  | [.inr (0, 50), .inl (.int a0)] => D_Mo_setLimit kk a0 G
  | _ => none
def A_Mo_notDrill (kk : Nat) (a : List AV) (G : GS) : Res := match a with
  | [.inl (.int a0)] => D_Mo_notDrill kk a0 G
  | _ => none
def A_Mo_drills (kk : Nat) (a : List AV) (G : GS) : Res := match a with
  | [.inr (0, 50), .inl (.int a0)] => D_Mo_drills kk a0 G
  | _ => none
def A_Mo_drill (kk : Nat) (a : List AV) (G : GS) : Res := match a with
  | [.inr (0, 50), .inl (.int a0)] => D_Mo_drill kk a0 G
  | _ => none
def A_Mo_pillowCount (kk : Nat) (a : List AV) (G : GS) : Res := match a with
  | [.inr (0, 50)] => D_Mo_pillowCount kk G
  | _ => none
def A_Mo_stackHeight (kk : Nat) (a : List AV) (G : GS) : Res := match a with
  | [.inr (0, 50), .inl (.int a0)] => D_Mo_stackHeight kk a0 G
  | _ => none
def A_Mo_pillowAt (kk : Nat) (a : List AV) (G : GS) : Res := match a with
  | [.inr (0, 50), .inl (.int a0), .inl (.int a1)] => D_Mo_pillowAt kk a0 a1 G
  | _ => none
def A_Mo_placeOf (kk : Nat) (a : List AV) (G : GS) : Res := match a with
  | [.inr (0, 50), .inl (.int a0)] => D_Mo_placeOf kk a0 G
  | _ => none
def A_Mo_asks (kk : Nat) (a : List AV) (G : GS) : Res := match a with
  | [.inr (0, 50), .inl (.int a0), .inl (.int a1)] => D_Mo_asks kk a0 a1 G
  | _ => none
def A_Mo_weightOf (kk : Nat) (a : List AV) (G : GS) : Res := match a with
  | [.inr (0, 50), .inl (.int a0)] => D_Mo_weightOf kk a0 G
  | _ => none
def A_Mo_destinationOf (kk : Nat) (a : List AV) (G : GS) : Res := match a with
  | [.inr (0, 50), .inl (.int a0)] => D_Mo_destinationOf kk a0 G
  | _ => none
def A_Mo_bayOf (kk : Nat) (a : List AV) (G : GS) : Res := match a with
  | [.inr (0, 50), .inl (.int a0)] => D_Mo_bayOf kk a0 G
  | _ => none
def A_Mo_positionOf (kk : Nat) (a : List AV) (G : GS) : Res := match a with
  | [.inr (0, 50), .inl (.int a0)] => D_Mo_positionOf kk a0 G
  | _ => none
def A_Mo_ageOf (kk : Nat) (a : List AV) (G : GS) : Res := match a with
  | [.inr (0, 50), .inl (.int a0)] => D_Mo_ageOf kk a0 G
  | _ => none
def A_Mo_moment (kk : Nat) (a : List AV) (G : GS) : Res := match a with
  | [.inr (0, 50)] => D_Mo_moment kk G
  | _ => none
def A_Mo_momentByBays (kk : Nat) (a : List AV) (G : GS) : Res := match a with
  | [.inr (0, 50)] => D_Mo_momentByBays kk G
  | _ => none
def A_Mo_totalWeight (kk : Nat) (a : List AV) (G : GS) : Res := match a with
  | [.inr (0, 50)] => D_Mo_totalWeight kk G
  | _ => none
def A_Mo_weightFor (kk : Nat) (a : List AV) (G : GS) : Res := match a with
  | [.inr (0, 50), .inl (.int a0)] => D_Mo_weightFor kk a0 G
  | _ => none
def A_Mo_limit (kk : Nat) (a : List AV) (G : GS) : Res := match a with
  | [.inr (0, 50)] => D_Mo_limit kk G
  | _ => none
def A_Mo_listAngle (kk : Nat) (a : List AV) (G : GS) : Res := match a with
  | [.inr (0, 50)] => D_Mo_listAngle kk G
  | _ => none
def A_Mo_greatestPush (kk : Nat) (a : List AV) (G : GS) : Res := match a with
  | [.inr (0, 50)] => D_Mo_greatestPush kk G
  | _ => none
def A_Mo_magnitude (kk : Nat) (a : List AV) (G : GS) : Res := match a with
  | [.inl (.int a0)] => D_Mo_magnitude kk a0 G
  | _ => none
def A_Mo_isBetter (kk : Nat) (a : List AV) (G : GS) : Res := match a with
  | [.inr (0, 50), .inl (.int a0), .inl (.int a1), .inl (.int a2)] => D_Mo_isBetter kk a0 a1 a2 G
  | _ => none
def A_Mo_levelingBay (kk : Nat) (a : List AV) (G : GS) : Res := match a with
  | [.inr (0, 50), .inl (.int a0)] => D_Mo_levelingBay kk a0 G
  | _ => none
def A_Mo_port (kk : Nat) (a : List AV) (G : GS) : Res := match a with
  | [.inr (0, 50)] => D_Mo_port kk G
  | _ => none
def A_Mo_day (kk : Nat) (a : List AV) (G : GS) : Res := match a with
  | [.inr (0, 50)] => D_Mo_day kk G
  | _ => none
def A_Mo_isAscending (kk : Nat) (a : List AV) (G : GS) : Res := match a with
  | [.inr (0, 50)] => D_Mo_isAscending kk G
  | _ => none
def A_Mo_legs (kk : Nat) (a : List AV) (G : GS) : Res := match a with
  | [.inr (0, 50), .inl (.int a0)] => D_Mo_legs kk a0 G
  | _ => none
def A_Mo_legsTo (kk : Nat) (a : List AV) (G : GS) : Res := match a with
  | [.inr (0, 50), .inl (.int a0)] => D_Mo_legsTo kk a0 G
  | _ => none
def A_Mo_portAfter (kk : Nat) (a : List AV) (G : GS) : Res := match a with
  | [.inr (0, 50), .inl (.int a0)] => D_Mo_portAfter kk a0 G
  | _ => none
def A_Mo_inTheWay (kk : Nat) (a : List AV) (G : GS) : Res := match a with
  | [.inr (0, 50), .inl (.int a0), .inl (.int a1)] => D_Mo_inTheWay kk a0 a1 G
  | _ => none
def A_Mo_pillowsInTheWay (kk : Nat) (a : List AV) (G : GS) : Res := match a with
  | [.inr (0, 50), .inl (.int a0)] => D_Mo_pillowsInTheWay kk a0 G
  | _ => none
def A_Mo_pairsInTheWay (kk : Nat) (a : List AV) (G : GS) : Res := match a with
  | [.inr (0, 50)] => D_Mo_pairsInTheWay kk G
  | _ => none
def A_Mo_pairsInTheWayByStacks (kk : Nat) (a : List AV) (G : GS) : Res := match a with
  | [.inr (0, 50)] => D_Mo_pairsInTheWayByStacks kk G
  | _ => none
def A_Mo_isAhead (kk : Nat) (a : List AV) (G : GS) : Res := match a with
  | [.inr (0, 50), .inl (.int a0), .inl (.int a1)] => D_Mo_isAhead kk a0 a1 G
  | _ => none
def A_Mo_isTaken (kk : Nat) (a : List AV) (G : GS) : Res := match a with
  | [.inr (0, 50), .inl (.int a0)] => D_Mo_isTaken kk a0 G
  | _ => none
def A_Mo_unloadableCount (kk : Nat) (a : List AV) (G : GS) : Res := match a with
  | [.inr (0, 50)] => D_Mo_unloadableCount kk G
  | _ => none
def A_Mo_oldestIn (kk : Nat) (a : List AV) (G : GS) : Res := match a with
  | [.inr (0, 50), .inl (.int a0)] => D_Mo_oldestIn kk a0 G
  | _ => none
def A_Mo_heaviestPort (kk : Nat) (a : List AV) (G : GS) : Res := match a with
  | [.inr (0, 50)] => D_Mo_heaviestPort kk G
  | _ => none
def A_Mo_possibleShifts (kk : Nat) (a : List AV) (G : GS) : Res := match a with
  | [.inr (0, 50)] => D_Mo_possibleShifts kk G
  | _ => none
def A_Mo_pillowByTurn (kk : Nat) (a : List AV) (G : GS) : Res := match a with
  | [.inr (0, 50), .inl (.int a0)] => D_Mo_pillowByTurn kk a0 G
  | _ => none
def A_Mo_bayByWeight (kk : Nat) (a : List AV) (G : GS) : Res := match a with
  | [.inr (0, 50), .inl (.int a0)] => D_Mo_bayByWeight kk a0 G
  | _ => none
def A_Mo_loadedTotal (kk : Nat) (a : List AV) (G : GS) : Res := match a with
  | [.inr (0, 50)] => D_Mo_loadedTotal kk G
  | _ => none
def A_Mo_deliveredTotal (kk : Nat) (a : List AV) (G : GS) : Res := match a with
  | [.inr (0, 50)] => D_Mo_deliveredTotal kk G
  | _ => none
def A_Mo_deliveredWeight (kk : Nat) (a : List AV) (G : GS) : Res := match a with
  | [.inr (0, 50)] => D_Mo_deliveredWeight kk G
  | _ => none
def A_Mo_drillTotal (kk : Nat) (a : List AV) (G : GS) : Res := match a with
  | [.inr (0, 50)] => D_Mo_drillTotal kk G
  | _ => none
def A_Mo_capsizedTotal (kk : Nat) (a : List AV) (G : GS) : Res := match a with
  | [.inr (0, 50)] => D_Mo_capsizedTotal kk G
  | _ => none
def A_Mo_meanAge (kk : Nat) (a : List AV) (G : GS) : Res := match a with
  | [.inr (0, 50)] => D_Mo_meanAge kk G
  | _ => none
def A_Mo_capsizedShare (kk : Nat) (a : List AV) (G : GS) : Res := match a with
  | [.inr (0, 50)] => D_Mo_capsizedShare kk G
  | _ => none
def A_Mo_isConsistent (kk : Nat) (a : List AV) (G : GS) : Res := match a with
  | [.inr (0, 50)] => D_Mo_isConsistent kk G
  | _ => none
def A_Mo_writes (kk : Nat) (a : List AV) (G : GS) : Res := match a with
  | [.inr (0, 50), .inl (.int a0)] => D_Mo_writes kk a0 G
  | _ => none
def A_Mo_writesNumber (kk : Nat) (a : List AV) (G : GS) : Res := match a with
  | [.inr (0, 50), .inl (.int a0)] => D_Mo_writesNumber kk a0 G
  | _ => none
def A_Mo_renderStack (kk : Nat) (a : List AV) (G : GS) : Res := match a with
  | [.inr (0, 50), .inl (.int a0)] => D_Mo_renderStack kk a0 G
  | _ => none
def A_Mo_renderBarge (kk : Nat) (a : List AV) (G : GS) : Res := match a with
  | [.inr (0, 50)] => D_Mo_renderBarge kk G
  | _ => none
def A_Mo_outputAt (kk : Nat) (a : List AV) (G : GS) : Res := match a with
  | [.inr (0, 50), .inl (.int a0)] => D_Mo_outputAt kk a0 G
  | _ => none
def A_Mo_type (kk : Nat) (a : List AV) (G : GS) : Res := match a with
  | [.inr (0, 50), .inl (.int a0)] => D_Mo_type kk a0 G
  | _ => none
def A_Mo_nextChar (kk : Nat) (a : List AV) (G : GS) : Res := match a with
  | [.inr (0, 50)] => D_Mo_nextChar kk G
  | _ => none
def A_Mo_reads (kk : Nat) (a : List AV) (G : GS) : Res := match a with
  | [.inr (0, 50), .inl (.int a0)] => D_Mo_reads kk a0 G
  | _ => none
def A_Mo_readsDigit (kk : Nat) (a : List AV) (G : GS) : Res := match a with
  | [.inr (0, 50), .inl (.int a0)] => D_Mo_readsDigit kk a0 G
  | _ => none
def A_Mo_readsNumber (kk : Nat) (a : List AV) (G : GS) : Res := match a with
  | [.inr (0, 50), .inl (.int a0)] => D_Mo_readsNumber kk a0 G
  | _ => none
def A_Mo_readsL (kk : Nat) (a : List AV) (G : GS) : Res := match a with
  | [.inr (0, 50)] => D_Mo_readsL kk G
  | _ => none
def A_Mo_readsS (kk : Nat) (a : List AV) (G : GS) : Res := match a with
  | [.inr (0, 50)] => D_Mo_readsS kk G
  | _ => none
def A_Mo_readsDrill (kk : Nat) (a : List AV) (G : GS) : Res := match a with
  | [.inr (0, 50)] => D_Mo_readsDrill kk G
  | _ => none
def A_Mo_readsCommand (kk : Nat) (a : List AV) (G : GS) : Res := match a with
  | [.inr (0, 50)] => D_Mo_readsCommand kk G
  | _ => none
def A_Mo_readsAll (kk : Nat) (a : List AV) (G : GS) : Res := match a with
  | [.inr (0, 50)] => D_Mo_readsAll kk G
  | _ => none
def A_Mo_notNow (kk : Nat) (a : List AV) (G : GS) : Res := match a with
  | [.inr (0, 50)] => D_Mo_notNow kk G
  | _ => none
def A_Mo_doesNow (kk : Nat) (a : List AV) (G : GS) : Res := match a with
  | [.inr (0, 50)] => D_Mo_doesNow kk G
  | _ => none
def A_Mo_doesAll (kk : Nat) (a : List AV) (G : GS) : Res := match a with
  | [.inr (0, 50)] => D_Mo_doesAll kk G
  | _ => none
def A_Mo_runScript (kk : Nat) (a : List AV) (G : GS) : Res := match a with
  | [.inr (0, 50)] => D_Mo_runScript kk G
  | _ => none
def A_Mo_errorPosition (kk : Nat) (a : List AV) (G : GS) : Res := match a with
  | [.inr (0, 50)] => D_Mo_errorPosition kk G
  | _ => none
def A_Mo_failedCommand (kk : Nat) (a : List AV) (G : GS) : Res := match a with
  | [.inr (0, 50)] => D_Mo_failedCommand kk G
  | _ => none
def A_Mo_undo (kk : Nat) (a : List AV) (G : GS) : Res := match a with
  | [.inr (0, 50)] => D_Mo_undo kk G
  | _ => none
def A_Mo_save (kk : Nat) (a : List AV) (G : GS) : Res := match a with
  | [.inr (0, 50)] => D_Mo_save kk G
  | _ => none
def A_Mo_restore (kk : Nat) (a : List AV) (G : GS) : Res := match a with
  | [.inr (0, 50)] => D_Mo_restore kk G
  | _ => none
def A_Law_load (kk : Nat) (a : List AV) (G : GS) : Res := match a with
  | [.inr (0, 0), .inl (.int a1), .inl (.int a2), .inl (.int a3), .inr (0, 18)] => D_Law_load kk a1 a2 a3 G
  | _ => none
def A_Law_unload (kk : Nat) (a : List AV) (G : GS) : Res := match a with
  | [.inr (0, 0), .inl (.int a1), .inr (0, 18)] => D_Law_unload kk a1 G
  | _ => none
def A_Law_shift (kk : Nat) (a : List AV) (G : GS) : Res := match a with
  | [.inr (0, 0), .inl (.int a1), .inl (.int a2), .inr (0, 18)] => D_Law_shift kk a1 a2 G
  | _ => none
def A_Law_sail (kk : Nat) (a : List AV) (G : GS) : Res := match a with
  | [.inr (0, 0), .inl (.int a1), .inr (0, 18)] => D_Law_sail kk a1 G
  | _ => none
def A_Law_setLimit (kk : Nat) (a : List AV) (G : GS) : Res := match a with
  | [.inr (0, 0), .inl (.int a1), .inr (0, 18)] => D_Law_setLimit kk a1 G
  | _ => none
def A_Law_drill (kk : Nat) (a : List AV) (G : GS) : Res := match a with
  | [.inr (0, 0), .inl (.int a1), .inr (0, 18)] => D_Law_drill kk a1 G
  | _ => none
def A_Law_stackHeight (kk : Nat) (a : List AV) (G : GS) : Res := match a with
  | [.inr (0, 0), .inl (.int a1), .inr (0, 18)] => D_Law_stackHeight kk a1 G
  | _ => none
def A_Law_pillowAt (kk : Nat) (a : List AV) (G : GS) : Res := match a with
  | [.inr (0, 0), .inl (.int a1), .inl (.int a2), .inr (0, 18)] => D_Law_pillowAt kk a1 a2 G
  | _ => none
def A_Law_weightOf (kk : Nat) (a : List AV) (G : GS) : Res := match a with
  | [.inr (0, 0), .inl (.int a1), .inr (0, 18)] => D_Law_weightOf kk a1 G
  | _ => none
def A_Law_destinationOf (kk : Nat) (a : List AV) (G : GS) : Res := match a with
  | [.inr (0, 0), .inl (.int a1), .inr (0, 18)] => D_Law_destinationOf kk a1 G
  | _ => none
def A_Law_bayOf (kk : Nat) (a : List AV) (G : GS) : Res := match a with
  | [.inr (0, 0), .inl (.int a1), .inr (0, 18)] => D_Law_bayOf kk a1 G
  | _ => none
def A_Law_positionOf (kk : Nat) (a : List AV) (G : GS) : Res := match a with
  | [.inr (0, 0), .inl (.int a1), .inr (0, 18)] => D_Law_positionOf kk a1 G
  | _ => none
def A_Law_ageOf (kk : Nat) (a : List AV) (G : GS) : Res := match a with
  | [.inr (0, 0), .inl (.int a1), .inr (0, 18)] => D_Law_ageOf kk a1 G
  | _ => none
def A_Law_weightFor (kk : Nat) (a : List AV) (G : GS) : Res := match a with
  | [.inr (0, 0), .inl (.int a1), .inr (0, 18)] => D_Law_weightFor kk a1 G
  | _ => none
def A_Law_levelingBay (kk : Nat) (a : List AV) (G : GS) : Res := match a with
  | [.inr (0, 0), .inl (.int a1), .inr (0, 18)] => D_Law_levelingBay kk a1 G
  | _ => none
def A_Law_legsTo (kk : Nat) (a : List AV) (G : GS) : Res := match a with
  | [.inr (0, 0), .inl (.int a1), .inr (0, 18)] => D_Law_legsTo kk a1 G
  | _ => none
def A_Law_portAfter (kk : Nat) (a : List AV) (G : GS) : Res := match a with
  | [.inr (0, 0), .inl (.int a1), .inr (0, 18)] => D_Law_portAfter kk a1 G
  | _ => none
def A_Law_pillowsInTheWay (kk : Nat) (a : List AV) (G : GS) : Res := match a with
  | [.inr (0, 0), .inl (.int a1), .inr (0, 18)] => D_Law_pillowsInTheWay kk a1 G
  | _ => none
def A_Law_oldestIn (kk : Nat) (a : List AV) (G : GS) : Res := match a with
  | [.inr (0, 0), .inl (.int a1), .inr (0, 18)] => D_Law_oldestIn kk a1 G
  | _ => none
def A_Law_heaviestPort (kk : Nat) (a : List AV) (G : GS) : Res := match a with
  | [.inr (0, 0), .inr (0, 18)] => D_Law_heaviestPort kk G
  | _ => none
def A_Law_pillowByTurn (kk : Nat) (a : List AV) (G : GS) : Res := match a with
  | [.inr (0, 0), .inl (.int a1), .inr (0, 18)] => D_Law_pillowByTurn kk a1 G
  | _ => none
def A_Law_bayByWeight (kk : Nat) (a : List AV) (G : GS) : Res := match a with
  | [.inr (0, 0), .inl (.int a1), .inr (0, 18)] => D_Law_bayByWeight kk a1 G
  | _ => none
def A_Law_meanAge (kk : Nat) (a : List AV) (G : GS) : Res := match a with
  | [.inr (0, 0), .inr (0, 19)] => D_Law_meanAge kk G
  | _ => none
def A_Law_capsizedShare (kk : Nat) (a : List AV) (G : GS) : Res := match a with
  | [.inr (0, 0), .inr (0, 19)] => D_Law_capsizedShare kk G
  | _ => none
def A_Law_renderStack (kk : Nat) (a : List AV) (G : GS) : Res := match a with
  | [.inr (0, 0), .inl (.int a1), .inr (0, 18)] => D_Law_renderStack kk a1 G
  | _ => none
def A_Law_outputAt (kk : Nat) (a : List AV) (G : GS) : Res := match a with
  | [.inr (0, 0), .inl (.int a1), .inr (0, 18)] => D_Law_outputAt kk a1 G
  | _ => none
def A_Law_type (kk : Nat) (a : List AV) (G : GS) : Res := match a with
  | [.inr (0, 0), .inl (.int a1), .inr (0, 18)] => D_Law_type kk a1 G
  | _ => none
def A_Law_runScript (kk : Nat) (a : List AV) (G : GS) : Res := match a with
  | [.inr (0, 0), .inr (0, 18)] => D_Law_runScript kk G
  | _ => none
def A_Law_errorPosition (kk : Nat) (a : List AV) (G : GS) : Res := match a with
  | [.inr (0, 0), .inr (0, 18)] => D_Law_errorPosition kk G
  | _ => none
def A_Law_failedCommand (kk : Nat) (a : List AV) (G : GS) : Res := match a with
  | [.inr (0, 0), .inr (0, 18)] => D_Law_failedCommand kk G
  | _ => none
def A_Law_undo (kk : Nat) (a : List AV) (G : GS) : Res := match a with
  | [.inr (0, 0), .inr (0, 18)] => D_Law_undo kk G
  | _ => none
def A_Law_restore (kk : Nat) (a : List AV) (G : GS) : Res := match a with
  | [.inr (0, 0), .inr (0, 18)] => D_Law_restore kk G
  | _ => none
end
section
theorem hd_nil {x : CX} {pc : Nat} : HdOK x pc [] := fun _ _ _ _ _ _ h => by cases h
theorem tk_use {T : Tb} {N : Nat} {P : Nat → En → Bool} (hN : ∀ pc, N ≤ pc → T pc = none) (h : (List.range N).all (fun pc => match T pc with | none => true | some e => P pc e) = true) (pc : Nat) (e : En) (he : T pc = some e) : P pc e = true := by
  have hlt : pc < N := by
    rcases Nat.lt_or_ge pc N with q | q
    · exact q
    · rw [hN pc q] at he; cases he
  have h1 := List.all_eq_true.mp h pc (List.mem_range.mpr hlt)
  rw [he] at h1
  exact h1
/-- without cuts any fuel serves -/
theorem ro0 {seg maxL F : Nat} {T : Tb} {call : Nat → List AV → GS → Res} {hd : Nat → Hd} {bk : Nat → Kb} {A : List AV → GS → Res} (h : RunOK seg maxL T call hd bk F A) (hb : ∀ k j, bk k = bk j) : RunOK seg maxL T call hd bk 0 A :=
  ⟨fun as G r hr => by obtain ⟨a, b, c⟩ := h.1 as G r hr; exact ⟨a, b, fun sc => by rw [hb 0 F]; exact c sc⟩, h.2.1, h.2.2⟩
def XTsb (cs : Nat → ClassId) (ad : Rf → Nat) (rest : va_W) : Nat × (Nat → Int32) → va_W → Prop := fun tx w =>
  ∃ (q cap : Nat) (f : Nat → Int32) (ml : Int32), w = (ad (0, 16), .inr (8, [.ref q, .int 0, .int ml, .int (Int32.ofNat tx.1)])) :: (q, .inl (cs 5, cap, .inl f)) :: rest ∧ tx.1 ≤ cap ∧ cap ≤ 100 ∧ sb_Fit f ∧ ∀ j, j < tx.1 → f j = tx.2 j ∧ 0 ≤ tx.2 j ∧ tx.2 j < 128
def sdM : Sd := fun _ _ _ _ _ => True
def sdX : Sd := fun _ cs ad _ XT => ∃ rest, XT = XTsb cs ad rest
end
section
/-! The JDK's members as calls of the abstract machine (printed by gen/run4.py) -/
theorem we_386 : (Cond.static Lib.Math.abs.name) ∈ lw_all := all_at 386 (by decide +kernel) rfl
theorem we_387 : (Cond.code Lib.Math.abs.name Lib.Math.abs.code 1 (some .int)) ∈ lw_all := all_at 387 (by decide +kernel) rfl
theorem we_585 : (Cond.static yJ9_floorMod_7cf53) ∈ lw_all := all_at 585 (by decide +kernel) rfl
theorem we_586 : (Cond.code yJ9_floorMod_7cf53 cJ9_floorMod_7cf53 3 (some .int)) ∈ lw_all := all_at 586 (by decide +kernel) rfl
theorem we_869 : (Cond.instanceMethod yJ0_length_8abf5) ∈ lw_all := all_at 869 (by decide +kernel) rfl
theorem we_870 : (Cond.selects RJ0 yJ0_length_8abf5 yJ0_length_8abf5) ∈ lw_all := all_at 870 (by decide +kernel) rfl
theorem we_871 : (Cond.code yJ0_length_8abf5 cJ0_length_8abf5 1 (some .int)) ∈ lw_all := all_at 871 (by decide +kernel) rfl
theorem we_1439 : (Cond.instanceMethod yJ0_charAt_5068e) ∈ lw_all := all_at 1439 (by decide +kernel) rfl
theorem we_1440 : (Cond.selects RJ0 yJ0_charAt_5068e yJ0_charAt_5068e) ∈ lw_all := all_at 1440 (by decide +kernel) rfl
theorem we_1441 : (Cond.code yJ0_charAt_5068e cJ0_charAt_5068e 2 (some .char)) ∈ lw_all := all_at 1441 (by decide +kernel) rfl
theorem we_958 : (Cond.instanceMethod yJ4_length_8abf5) ∈ lw_all := all_at 958 (by decide +kernel) rfl
theorem we_2051 : (Cond.selects RJ4 yJ4_length_8abf5 yJ4_length_8abf5) ∈ lw_all := all_at 2051 (by decide +kernel) rfl
theorem we_94 : (Cond.initialized RJ4) ∈ lw_all := all_at 94 (by decide +kernel) rfl
theorem we_959 : (Cond.code yJ4_length_8abf5 cJ4_length_8abf5 1 (some .int)) ∈ lw_all := all_at 959 (by decide +kernel) rfl
theorem we_1380 : (Cond.instanceMethod yJ4_charAt_5068e) ∈ lw_all := all_at 1380 (by decide +kernel) rfl
theorem we_1381 : (Cond.selects RJ4 yJ4_charAt_5068e yJ4_charAt_5068e) ∈ lw_all := all_at 1381 (by decide +kernel) rfl
theorem we_1382 : (Cond.code yJ4_charAt_5068e cJ4_charAt_5068e 2 (some .char)) ∈ lw_all := all_at 1382 (by decide +kernel) rfl
theorem we_781 : (Cond.instanceMethod yJ4_setLength_d00df) ∈ lw_all := all_at 781 (by decide +kernel) rfl
theorem we_782 : (Cond.selects RJ4 yJ4_setLength_d00df yJ4_setLength_d00df) ∈ lw_all := all_at 782 (by decide +kernel) rfl
theorem we_783 : (Cond.code yJ4_setLength_d00df cJ4_setLength_d00df 2 none) ∈ lw_all := all_at 783 (by decide +kernel) rfl
theorem we_1071 : (Cond.instanceMethod yJ4_append_cf468) ∈ lw_all := all_at 1071 (by decide +kernel) rfl
theorem we_1072 : (Cond.selects RJ4 yJ4_append_cf468 yJ4_append_cf468) ∈ lw_all := all_at 1072 (by decide +kernel) rfl
theorem we_1073 : (Cond.code yJ4_append_cf468 cJ4_append_cf468 2 (some (.object "java/lang/StringBuilder"))) ∈ lw_all := all_at 1073 (by decide +kernel) rfl
theorem we_912 : (Cond.instanceMethod yJ4_append_bf812) ∈ lw_all := all_at 912 (by decide +kernel) rfl
theorem we_913 : (Cond.selects RJ4 yJ4_append_bf812 yJ4_append_bf812) ∈ lw_all := all_at 913 (by decide +kernel) rfl
theorem we_914 : (Cond.code yJ4_append_bf812 cJ4_append_bf812 2 (some (.object "java/lang/StringBuilder"))) ∈ lw_all := all_at 914 (by decide +kernel) rfl
theorem abs_eq (a : Int32) : (if 0 ≤ a then a else 0 - a) = (if a < 0 then -a else a) := by
  by_cases h : 0 ≤ a
  · rw [if_pos h, if_neg (Int32.not_lt.mpr h)]
  · rw [if_neg h, if_pos (Int32.not_le.mp h), Int32.zero_sub]
theorem vAo_int {L : List Rf} {v : Int32} : vAo L (some (.inl (.int v))) := fun w e => by cases e; trivial
theorem cwJ_abs {x : CX} {pc idx : Nat} (hF : FX x) (hd : decode (cxC x) pc = .ok (.invokestatic idx, 3)) (hsd : cxSide sdX x) (w1 : Cond.methodLink (cxO x) idx yJ9_abs_0f7a4 ∈ lw_all) (hlv : 6 ≤ cxV x) : CW x pc 0 A_abs := by
  obtain ⟨⟨p, l, e, R, s, m, args, below, meth, c, Q⟩, ⟨D, cs, b, ad, adV, sc, L, XT⟩, cc, nL, own, c0, s0, seg, lv⟩ := x
  intro as rest G r ls u hr hvs hcat hcost kk kx
  have hlv : 6 ≤ lv := hlv
  have hcost : u + 0 ≤ seg := hcost
  unfold A_abs at hr
  split at hr
  · rename_i a0
    cases hr
    refine jd_mabs hF hd w1 we_386 we_103 we_387 (by show 1 ≤ lv; omega) hcat (by show u ≤ seg; omega) ?_
    refine jd_top (b := .inl (.int (if a0 < 0 then -a0 else a0))) (congrArg (fun z => (Sum.inl (Value.int z) : AV)) (abs_eq a0)) ?_
    exact kk (some (.inl (.int (if a0 < 0 then -a0 else a0)))) rfl vAo_int
  · cases hr
theorem cwJ_max {x : CX} {pc idx : Nat} (hF : FX x) (hd : decode (cxC x) pc = .ok (.invokestatic idx, 3)) (hsd : cxSide sdX x) (w1 : Cond.methodLink (cxO x) idx yJ9_max_7cf53 ∈ lw_all) (hlv : 6 ≤ cxV x) : CW x pc 0 A_max := by
  obtain ⟨⟨p, l, e, R, s, m, args, below, meth, c, Q⟩, ⟨D, cs, b, ad, adV, sc, L, XT⟩, cc, nL, own, c0, s0, seg, lv⟩ := x
  intro as rest G r ls u hr hvs hcat hcost kk kx
  have hlv : 6 ≤ lv := hlv
  have hcost : u + 0 ≤ seg := hcost
  unfold A_max at hr
  split at hr
  · rename_i a0 a1
    cases hr
    refine jd_mmax hF hd w1 we_818 we_103 we_819 (by show 1 ≤ lv; omega) hcat (by show u ≤ seg; omega) ?_
    refine jd_top (b := .inl (.int (if a0 < a1 then a1 else a0))) (congrArg (fun z => (Sum.inl (Value.int z) : AV)) (rfl)) ?_
    exact kk (some (.inl (.int (if a0 < a1 then a1 else a0)))) rfl vAo_int
  · cases hr
theorem cwJ_min {x : CX} {pc idx : Nat} (hF : FX x) (hd : decode (cxC x) pc = .ok (.invokestatic idx, 3)) (hsd : cxSide sdX x) (w1 : Cond.methodLink (cxO x) idx yJ9_min_7cf53 ∈ lw_all) (hlv : 6 ≤ cxV x) : CW x pc 0 A_min := by
  obtain ⟨⟨p, l, e, R, s, m, args, below, meth, c, Q⟩, ⟨D, cs, b, ad, adV, sc, L, XT⟩, cc, nL, own, c0, s0, seg, lv⟩ := x
  intro as rest G r ls u hr hvs hcat hcost kk kx
  have hlv : 6 ≤ lv := hlv
  have hcost : u + 0 ≤ seg := hcost
  unfold A_min at hr
  split at hr
  · rename_i a0 a1
    cases hr
    refine jd_mmin hF hd w1 we_588 we_103 we_589 (by show 1 ≤ lv; omega) hcat (by show u ≤ seg; omega) ?_
    refine jd_top (b := .inl (.int (if a1 < a0 then a1 else a0))) (congrArg (fun z => (Sum.inl (Value.int z) : AV)) (rfl)) ?_
    exact kk (some (.inl (.int (if a1 < a0 then a1 else a0)))) rfl vAo_int
  · cases hr
theorem cwJ_fmod {x : CX} {pc idx : Nat} (hF : FX x) (hd : decode (cxC x) pc = .ok (.invokestatic idx, 3)) (hsd : cxSide sdX x) (w1 : Cond.methodLink (cxO x) idx yJ9_floorMod_7cf53 ∈ lw_all) (hlv : 6 ≤ cxV x) : CW x pc 0 A_fmod := by
  obtain ⟨⟨p, l, e, R, s, m, args, below, meth, c, Q⟩, ⟨D, cs, b, ad, adV, sc, L, XT⟩, cc, nL, own, c0, s0, seg, lv⟩ := x
  intro as rest G r ls u hr hvs hcat hcost kk kx
  have hlv : 6 ≤ lv := hlv
  have hcost : u + 0 ≤ seg := hcost
  unfold A_fmod at hr
  split at hr
  · rename_i a0 a1
    unfold D_fmod at hr
    split at hr
    · cases hr
    · rename_i h0
      cases hr
      refine jg_S (n := 2) (cost := 0) (lev := 0) (as := [.inl (.int a0), .inl (.int a1)]) hF hd w1 we_585 we_103 we_586 ⟨by decide +kernel, by decide +kernel, by decide +kernel⟩ rfl (by decide) (by show 0 + 1 ≤ lv; omega) hcat (by show u + 0 ≤ seg; omega) (fun w0 hw0 => ⟨_, _, fun _ _ h => h, fun _ h => h, jm_fmod h0, fun v w hp => ?_⟩)
      obtain ⟨rfl, rfl⟩ := hp
      exact ⟨some (.inl (.int _)), G, w0, rfl, hw0, fun _ _ h => h, fun _ h => h, kk _ rfl vAo_int⟩
  · cases hr
theorem cwJ_acopy {x : CX} {pc idx : Nat} (hF : FX x) (hd : decode (cxC x) pc = .ok (.invokestatic idx, 3)) (hsd : cxSide sdX x) (w1 : Cond.methodLink (cxO x) idx arraycopyName ∈ lw_all) (hlv : 6 ≤ cxV x) : CW x pc 0 A_acopy := by
  obtain ⟨⟨p, l, e, R, s, m, args, below, meth, c, Q⟩, ⟨D, cs, b, ad, adV, sc, L, XT⟩, cc, nL, own, c0, s0, seg, lv⟩ := x
  intro as rest G r ls u hr hvs hcat hcost kk kx
  have hlv : 6 ≤ lv := hlv
  have hcost : u + 0 ≤ seg := hcost
  unfold A_acopy at hr
  split at hr
  · rename_i a a1 b2 a3 n
    unfold D_acopy at hr
    split at hr
    · rename_i m1 m2 hk1 hk2
      split at hr
      · rename_i hc
        obtain ⟨rfl, rfl, hn, hm1, hm2⟩ := hc
        cases hr
        obtain ⟨hx, hb, hml, hown, hts, hKS, hbs, hL, hlocks, hR1, hR2, hR3, hR4⟩ := hF
        intro H locs cells slots sl hP hS hl h1 h2
        obtain ⟨w0, hXT, hP, hD⟩ := hP
        have va : a ∈ L := hvs (.inr a) (by simp) (by rw [hk1]; rfl)
        have vb : b2 ∈ L := hvs (.inr b2) (by simp) (by rw [hk2]; rfl)
        obtain ⟨k1, e1, -⟩ := cells_get (cs := cs) (ad := ad) hL.1 va G w0
        obtain ⟨k2, e2, f2⟩ := cells_get (cs := cs) (ad := ad) hL.1 vb G w0
        have f3 := f2 (G.1, (fun r i => if r = b2 then (if i < n.toNatClampNeg then ga G a i else ga G b2 i) else G.2.1 r i), G.2.2) _ rfl (fun q _ hq => by
          have g1 : ga (G.1, (fun r i => if r = b2 then (if i < n.toNatClampNeg then ga G a i else ga G b2 i) else G.2.1 r i), G.2.2) q = ga G q := by
            funext i; exact if_neg hq
          unfold ent
          split
          · rfl
          · unfold entA; split <;> first | rfl | rw [g1]
          · rfl)
        rw [ent_a hk1] at e1
        rw [ent_a hk2] at e2
        refine va_copyi (D := D) hx hb (by rw [hml]; exact hl.2.1.symm) hown (hts _ w1) (hts _ we_571) (hts _ we_570) (hts _ we_108) hKS.1 hP hD hS k1 k2 0 0 e1 e2 rfl rfl (by decide) (by decide) (by decide) hn (by show 0 + _ ≤ _; omega) (by show 0 + _ ≤ _; omega) (fun i _ => rfl) (by omega) ?_ hd (fun H1 locs1 g1 g2 g3 => ?_)
        · have z1 : ((rest.map (rv ad)).map fun v => v.category).sum = ai_cats rest := cats_eq ad rest
          rw [z1]
          have z2 : nativeFrameWords "java/lang/System" "arraycopy" 5 + 11 ≤ 40 := by decide +kernel
          omega
        · have z3 : (.inl (cs 0, m2, .inl (va_cpy (ga G a) (ga G b2) (0 : Int32).toNatClampNeg (0 : Int32).toNatClampNeg n.toNatClampNeg)) : va_E) = ent cs ad (G.1, (fun r i => if r = b2 then (if i < n.toNatClampNeg then ga G a i else ga G b2 i) else G.2.1 r i), G.2.2) b2 := by
            rw [ent_a hk2]
            have z4 : va_cpy (ga G a) (ga G b2) (0 : Int32).toNatClampNeg (0 : Int32).toNatClampNeg n.toNatClampNeg = ga (G.1, (fun r i => if r = b2 then (if i < n.toNatClampNeg then ga G a i else ga G b2 i) else G.2.1 r i), G.2.2) b2 := by
              funext i
              show (if (0 : Int32).toNatClampNeg ≤ i ∧ i < (0 : Int32).toNatClampNeg + n.toNatClampNeg then ga G a ((0 : Int32).toNatClampNeg + (i - (0 : Int32).toNatClampNeg)) else ga G b2 i) = if b2 = b2 then (if i < n.toNatClampNeg then ga G a i else ga G b2 i) else G.2.1 b2 i
              rw [if_pos rfl, sb_cl0, Nat.zero_add, Nat.zero_add, Nat.sub_zero]
              by_cases q : i < n.toNatClampNeg
              · rw [if_pos q, if_pos ⟨Nat.zero_le _, q⟩]
              · rw [if_neg q, if_neg (fun z => q z.2)]
            rw [z4]; rfl
          have g1 : va_P D cls_ (List.set _ k2 (ad b2, _)) H1 := g1
          rw [z3, f3] at g1 g2
          exact kk none rfl (fun w e => by cases e) H1 locs1 cells slots sl ⟨w0, hXT, g1, g2⟩ g3 hl h1 h2
      · cases hr
    · cases hr
  · cases hr
theorem jS_len {k : Nat} (hk : k < 7) : (jS.map List.length).getD k 0 = (jS.getD k []).length := by revert k; decide +kernel
theorem cwJ_slen {x : CX} {pc idx : Nat} (hF : FX x) (hd : decode (cxC x) pc = .ok (.invokevirtual idx, 3)) (hsd : cxSide sdX x) (w1 : Cond.methodLink (cxO x) idx yJ0_length_8abf5 ∈ lw_all) (hlv : 6 ≤ cxV x) : CW x pc 0 A_slen := by
  obtain ⟨⟨p, l, e, R, s, m, args, below, meth, c, Q⟩, ⟨D, cs, b, ad, adV, sc, L, XT⟩, cc, nL, own, c0, s0, seg, lv⟩ := x
  intro as rest G r ls u hr hvs hcat hcost kk kx
  have hlv : 6 ≤ lv := hlv
  have hcost : u + 0 ≤ seg := hcost
  unfold A_slen at hr
  split at hr
  · rename_i k
    unfold D_slen at hr
    split at hr
    · rename_i hk
      cases hr
      refine jg_V (n := 0) (cost := 0) (lev := 1) (q := (k, 200)) (tl := []) (as := [.inr (k, 200)]) (C := "java/lang/String") hF hd rfl (Or.inr ⟨rfl, hk, rfl⟩) w1 we_869 we_870 we_95 we_871 ⟨rfl, by decide +kernel, by decide +kernel, by decide +kernel⟩ rfl (by decide) (by show 1 + 1 ≤ lv; omega) hcat (by show u + 0 ≤ seg; omega) (fun w0 hw0 => ⟨_, _, fun _ _ h => h, fun _ h => h, jm_slen hk, fun v w hp => ?_⟩)
      obtain ⟨rfl, rfl⟩ := hp
      refine ⟨some (.inl (.int _)), G, w0, rfl, hw0, fun _ _ h => h, fun _ h => h, ?_⟩
      rw [jS_len hk]
      exact kk _ rfl vAo_int
    · cases hr
  · cases hr
theorem cwJ_sat {x : CX} {pc idx : Nat} (hF : FX x) (hd : decode (cxC x) pc = .ok (.invokevirtual idx, 3)) (hsd : cxSide sdX x) (w1 : Cond.methodLink (cxO x) idx yJ0_charAt_5068e ∈ lw_all) (hlv : 6 ≤ cxV x) : CW x pc 0 A_sat := by
  obtain ⟨⟨p, l, e, R, s, m, args, below, meth, c, Q⟩, ⟨D, cs, b, ad, adV, sc, L, XT⟩, cc, nL, own, c0, s0, seg, lv⟩ := x
  intro as rest G r ls u hr hvs hcat hcost kk kx
  have hlv : 6 ≤ lv := hlv
  have hcost : u + 0 ≤ seg := hcost
  unfold A_sat at hr
  split at hr
  · rename_i k i
    unfold D_sat at hr
    split at hr
    · rename_i hk
      cases hi : inb i (jS.getD k []).length with
      | false => rw [hi] at hr; cases hr
      | true =>
        rw [hi] at hr
        cases hr
        refine jg_V (n := 1) (cost := 0) (lev := 3) (q := (k, 200)) (tl := [.inl (.int i)]) (as := [.inr (k, 200), .inl (.int i)]) (C := "java/lang/String") hF hd rfl (Or.inr ⟨rfl, hk, rfl⟩) w1 we_1439 we_1440 we_95 we_1441 ⟨rfl, by decide +kernel, by decide +kernel, by decide +kernel⟩ rfl (by decide) (by show 3 + 1 ≤ lv; omega) hcat (by show u + 0 ≤ seg; omega) (fun w0 hw0 => ⟨_, _, fun _ _ h => h, fun _ h => h, jm_sat hk (by rw [jS_len hk]; exact hi), fun v w hp => ?_⟩)
        obtain ⟨rfl, rfl⟩ := hp
        exact ⟨some (.inl (.int _)), G, w0, rfl, hw0, fun _ _ h => h, fun _ h => h, kk _ rfl vAo_int⟩
    · cases hr
  · cases hr
theorem vAo_sb {L : List Rf} : vAo L (some (.inr (0, 16))) := fun w e => by cases e; exact fun h => nomatch h
theorem dg0_let {w : Nat} (h : w < 1000) : ∀ j, j < (dg0 w).length → 0 ≤ (dg0 w).getD j 0 ∧ (dg0 w).getD j 0 < 128 := by
  have e1 : ∀ d, d < 10 → (0 : Int32) ≤ nI (48 + d) ∧ nI (48 + d) < 128 := by decide +kernel
  rcases Nat.lt_or_ge w 10 with a | a
  · rw [dg_1 a]; intro j hj; obtain rfl : j = 0 := by simpa using hj
    exact e1 w a
  · rcases Nat.lt_or_ge w 100 with g | g
    · rw [dg_2 a g]; intro j hj
      have hj : j < 2 := hj
      rcases (by omega : j = 0 ∨ j = 1) with rfl | rfl
      · exact e1 _ (by omega)
      · exact e1 _ (by omega)
    · rw [dg_3 g]; intro j hj
      have hj : j < 3 := hj
      rcases (by omega : j = 0 ∨ j = 1 ∨ j = 2) with rfl | rfl | rfl
      · exact e1 _ (by omega)
      · exact e1 _ (by omega)
      · exact e1 _ (by omega)
theorem dg_let {v : Int32} (h1 : -1000 < v) (h2 : v < 1000) : ∀ j, j < (dg_ v).length → 0 ≤ (dg_ v).getD j 0 ∧ (dg_ v).getD j 0 < 128 := by
  obtain ⟨w, hw, rfl | ⟨h0, rfl⟩⟩ := int_cases h1 h2
  · rw [dg_p hw]; exact dg0_let hw
  · rw [dg_n h0 hw]
    intro j hj
    cases j with
    | zero => exact ⟨by decide, by decide⟩
    | succ j => exact dg0_let hw j (by simpa using hj)
theorem cwJ_blen {x : CX} {pc idx : Nat} (hF : FX x) (hd : decode (cxC x) pc = .ok (.invokevirtual idx, 3)) (hsd : cxSide sdX x) (w1 : Cond.methodLink (cxO x) idx yJ4_length_8abf5 ∈ lw_all) (hlv : 6 ≤ cxV x) : CW x pc 0 A_blen := by
  obtain ⟨⟨p, l, e, R, s, m, args, below, meth, c, Q⟩, ⟨D, cs, b, ad, adV, sc, L, XT⟩, cc, nL, own, c0, s0, seg, lv⟩ := x
  intro as rest G r ls u hr hvs hcat hcost kk kx
  have hlv : 6 ≤ lv := hlv
  have hcost : u + 0 ≤ seg := hcost
  unfold A_blen at hr
  split at hr
  · cases hr
    obtain ⟨rest0, hXT⟩ := hsd
    subst hXT
    refine jg_V (n := 0) (cost := 0) (lev := 1) (q := (0, 16)) (C := "java/lang/StringBuilder") (tl := []) (as := [.inr (0, 16)]) hF hd rfl (Or.inl ⟨8, (RJ4, TJ4, 4), rfl, rfl, fun w0 h => by obtain ⟨q, cap, f, ml, rfl, -⟩ := h; exact ⟨0, _, rfl⟩⟩) w1 we_958 we_2051 we_94 we_959 ⟨rfl, by decide +kernel, by decide +kernel, by decide +kernel⟩ rfl (by decide) (by show 1 + 1 ≤ lv; omega) hcat (by show u + 0 ≤ seg; omega) (fun w0 hw0 => ?_)
    obtain ⟨q, cap, f, ml, rfl, hn, hc, hf, hle⟩ := hw0
    refine ⟨_, _, fun _ _ h => W_sw h, fun _ h => W_swD h, jm_blen, fun v w hp => ?_⟩
    obtain ⟨rfl, rfl⟩ := hp
    exact ⟨some (.inl (.int _)), G, _, rfl, ⟨q, cap, f, ml, rfl, hn, hc, hf, hle⟩, fun _ _ h => W_sw h, fun _ h => W_swD h, kk _ rfl vAo_int⟩
  · cases hr
theorem cwJ_bat {x : CX} {pc idx : Nat} (hF : FX x) (hd : decode (cxC x) pc = .ok (.invokevirtual idx, 3)) (hsd : cxSide sdX x) (w1 : Cond.methodLink (cxO x) idx yJ4_charAt_5068e ∈ lw_all) (hlv : 6 ≤ cxV x) : CW x pc 0 A_bat := by
  obtain ⟨⟨p, l, e, R, s, m, args, below, meth, c, Q⟩, ⟨D, cs, b, ad, adV, sc, L, XT⟩, cc, nL, own, c0, s0, seg, lv⟩ := x
  intro as rest G r ls u hr hvs hcat hcost kk kx
  have hlv : 6 ≤ lv := hlv
  have hcost : u + 0 ≤ seg := hcost
  unfold A_bat at hr
  split at hr
  · rename_i i
    unfold D_bat at hr
    cases hi : inb i (gn G) with
    | false => rw [hi] at hr; cases hr
    | true =>
      rw [hi] at hr
      cases hr
      obtain ⟨rest0, hXT⟩ := hsd
      subst hXT
      refine jg_V (n := 1) (cost := 0) (lev := 3) (q := (0, 16)) (C := "java/lang/StringBuilder") (tl := [.inl (.int i)]) (as := [.inr (0, 16), .inl (.int i)]) hF hd rfl (Or.inl ⟨8, (RJ4, TJ4, 4), rfl, rfl, fun w0 h => by obtain ⟨q, cap, f, ml, rfl, -⟩ := h; exact ⟨0, _, rfl⟩⟩) w1 we_1380 we_1381 we_94 we_1382 ⟨rfl, by decide +kernel, by decide +kernel, by decide +kernel⟩ rfl (by decide) (by show 3 + 1 ≤ lv; omega) hcat (by show u + 0 ≤ seg; omega) (fun w0 hw0 => ?_)
      obtain ⟨q, cap, f, ml, rfl, hn, hc, hf, hle⟩ := hw0
      obtain ⟨e1, e2, e3⟩ := hle _ (in_nat hi).2
      refine ⟨_, _, fun _ _ h => W_sw h, fun _ h => W_swD h, jm_bat hn hc hi (by rw [e1]; exact e2) (by rw [e1]; exact e3), fun v w hp => ?_⟩
      obtain ⟨rfl, rfl⟩ := hp
      refine ⟨some (.inl (.int _)), G, _, rfl, ⟨q, cap, f, ml, rfl, hn, hc, hf, hle⟩, fun _ _ h => W_sw h, fun _ h => W_swD h, ?_⟩
      rw [e1]
      exact kk _ rfl vAo_int
  · cases hr
theorem cwJ_bset {x : CX} {pc idx : Nat} (hF : FX x) (hd : decode (cxC x) pc = .ok (.invokevirtual idx, 3)) (hsd : cxSide sdX x) (w1 : Cond.methodLink (cxO x) idx yJ4_setLength_d00df ∈ lw_all) (hlv : 6 ≤ cxV x) : CW x pc 0 A_bset := by
  obtain ⟨⟨p, l, e, R, s, m, args, below, meth, c, Q⟩, ⟨D, cs, b, ad, adV, sc, L, XT⟩, cc, nL, own, c0, s0, seg, lv⟩ := x
  intro as rest G r ls u hr hvs hcat hcost kk kx
  have hlv : 6 ≤ lv := hlv
  have hcost : u + 0 ≤ seg := hcost
  unfold A_bset at hr
  split at hr
  · rename_i i
    unfold D_bset at hr
    split at hr
    · rename_i h0
      subst h0
      cases hr
      obtain ⟨rest0, hXT⟩ := hsd
      subst hXT
      refine jg_V (n := 1) (cost := 0) (lev := 5) (q := (0, 16)) (C := "java/lang/StringBuilder") (tl := [.inl (.int 0)]) (as := [.inr (0, 16), .inl (.int 0)]) hF hd rfl (Or.inl ⟨8, (RJ4, TJ4, 4), rfl, rfl, fun w0 h => by obtain ⟨q, cap, f, ml, rfl, -⟩ := h; exact ⟨0, _, rfl⟩⟩) w1 we_781 we_782 we_94 we_783 ⟨rfl, by decide +kernel, by decide +kernel, by decide +kernel⟩ rfl (by decide) (by show 5 + 1 ≤ lv; omega) hcat (by show u + 0 ≤ seg; omega) (fun w0 hw0 => ?_)
      obtain ⟨q, cap, f, ml, rfl, hn, hc, hf, hle⟩ := hw0
      refine ⟨_, _, fun _ _ h => W_sw h, fun _ h => W_swD h, jm_bsl hf (Nat.lt_of_le_of_lt hn (Nat.lt_of_le_of_lt hc (by decide))) hc, fun v w hp => ?_⟩
      obtain ⟨rfl, q2, cap2, f2, ml2, rfl, g1, g2⟩ := hp
      exact ⟨none, _, _, rfl, ⟨q2, cap2, f2, ml2, rfl, Nat.zero_le _, g1, g2, fun j hj => absurd hj (Nat.not_lt_zero _)⟩, fun _ _ h => W_sw h, fun _ h => W_swD h, kk _ rfl (fun w e => by cases e)⟩
    · cases hr
  · cases hr
theorem cwJ_bapc {x : CX} {pc idx : Nat} (hF : FX x) (hd : decode (cxC x) pc = .ok (.invokevirtual idx, 3)) (hsd : cxSide sdX x) (w1 : Cond.methodLink (cxO x) idx yJ4_append_cf468 ∈ lw_all) (hlv : 6 ≤ cxV x) : CW x pc 1 A_bapc := by
  obtain ⟨⟨p, l, e, R, s, m, args, below, meth, c, Q⟩, ⟨D, cs, b, ad, adV, sc, L, XT⟩, cc, nL, own, c0, s0, seg, lv⟩ := x
  intro as rest G r ls u hr hvs hcat hcost kk kx
  have hlv : 6 ≤ lv := hlv
  have hcost : u + 1 ≤ seg := hcost
  unfold A_bapc at hr
  split at hr
  · rename_i c
    unfold D_bapc at hr
    split at hr
    · rename_i h0
      obtain ⟨h0, h1, h2⟩ := h0
      cases hr
      obtain ⟨rest0, hXT⟩ := hsd
      subst hXT
      refine jg_V (n := 1) (cost := 1) (lev := 5) (q := (0, 16)) (C := "java/lang/StringBuilder") (tl := [.inl (.int c)]) (as := [.inr (0, 16), .inl (.int c)]) hF hd rfl (Or.inl ⟨8, (RJ4, TJ4, 4), rfl, rfl, fun w0 h => by obtain ⟨q, cap, f, ml, rfl, -⟩ := h; exact ⟨0, _, rfl⟩⟩) w1 we_1071 we_1072 we_94 we_1073 ⟨rfl, by decide +kernel, by decide +kernel, by decide +kernel⟩ rfl (by decide) (by show 5 + 1 ≤ lv; omega) hcat (by show u + 1 ≤ seg; omega) (fun w0 hw0 => ?_)
      obtain ⟨q, cap, f, ml, rfl, hn, hc, hf, hle⟩ := hw0
      have hn : gn G ≤ cap := hn
      refine ⟨_, _, fun _ _ h => W_sw h, fun _ h => W_swD h, jm_bac hf h2 hn hc (Int32.not_lt.mp h0) h1, fun v w hp => ?_⟩
      obtain ⟨rfl, q2, cap2, f2, rfl, g1, g2, g3, g4, g5⟩ := hp
      refine ⟨some (.inr (0, 16)), _, _, rfl, ⟨q2, cap2, f2, ml, rfl, g1, g2, g3, fun j hj => ?_⟩, fun _ _ h => W_sw h, fun _ h => W_swD h, kk _ rfl vAo_sb⟩
      have hj : j < gn G + 1 := hj
      show f2 j = (if j = gn G then c else gt G j) ∧ 0 ≤ (if j = gn G then c else gt G j) ∧ (if j = gn G then c else gt G j) < 128
      by_cases z : j = gn G
      · rw [if_pos z, z]
        exact ⟨g5 0 Nat.zero_lt_one, Int32.not_lt.mp h0, h1⟩
      · rw [if_neg z, g4 j (by omega)]
        exact hle j (show j < gn G by omega)
    · cases hr
  · cases hr
theorem cwJ_bapi {x : CX} {pc idx : Nat} (hF : FX x) (hd : decode (cxC x) pc = .ok (.invokevirtual idx, 3)) (hsd : cxSide sdX x) (w1 : Cond.methodLink (cxO x) idx yJ4_append_bf812 ∈ lw_all) (hlv : 6 ≤ cxV x) : CW x pc 1 A_bapi := by
  obtain ⟨⟨p, l, e, R, s, m, args, below, meth, c, Q⟩, ⟨D, cs, b, ad, adV, sc, L, XT⟩, cc, nL, own, c0, s0, seg, lv⟩ := x
  intro as rest G r ls u hr hvs hcat hcost kk kx
  have hlv : 6 ≤ lv := hlv
  have hcost : u + 1 ≤ seg := hcost
  unfold A_bapi at hr
  split at hr
  · rename_i c
    unfold D_bapi at hr
    split at hr
    · rename_i h0
      obtain ⟨h0, h1, h2⟩ := h0
      cases hr
      obtain ⟨rest0, hXT⟩ := hsd
      subst hXT
      refine jg_V (n := 1) (cost := 1) (lev := 5) (q := (0, 16)) (C := "java/lang/StringBuilder") (tl := [.inl (.int c)]) (as := [.inr (0, 16), .inl (.int c)]) hF hd rfl (Or.inl ⟨8, (RJ4, TJ4, 4), rfl, rfl, fun w0 h => by obtain ⟨q, cap, f, ml, rfl, -⟩ := h; exact ⟨0, _, rfl⟩⟩) w1 we_912 we_913 we_94 we_914 ⟨rfl, by decide +kernel, by decide +kernel, by decide +kernel⟩ rfl (by decide) (by show 5 + 1 ≤ lv; omega) hcat (by show u + 1 ≤ seg; omega) (fun w0 hw0 => ?_)
      obtain ⟨q, cap, f, ml, rfl, hn, hc, hf, hle⟩ := hw0
      have hn : gn G ≤ cap := hn
      refine ⟨_, _, fun _ _ h => W_sw h, fun _ h => W_swD h, jm_bai hf h2 hn hc h0 h1, fun v w hp => ?_⟩
      obtain ⟨rfl, q2, cap2, f2, rfl, g1, g2, g3, g4, g5⟩ := hp
      refine ⟨some (.inr (0, 16)), _, _, rfl, ⟨q2, cap2, f2, ml, rfl, g1, g2, g3, fun j hj => ?_⟩, fun _ _ h => W_sw h, fun _ h => W_swD h, kk _ rfl vAo_sb⟩
      have hj : j < gn G + (dg_ c).length := hj
      show f2 j = (if j < gn G then gt G j else (dg_ c).getD (j - gn G) 0) ∧ 0 ≤ (if j < gn G then gt G j else (dg_ c).getD (j - gn G) 0) ∧ (if j < gn G then gt G j else (dg_ c).getD (j - gn G) 0) < 128
      by_cases z : j < gn G
      · rw [if_pos z, g4 j z]
        exact hle j z
      · rw [if_neg z]
        have z2 := g5 (j - gn G) (by omega)
        rw [show gn G + (j - gn G) = j by omega] at z2
        exact ⟨z2, dg_let h0 h1 _ (by omega)⟩
    · cases hr
  · cases hr
end
