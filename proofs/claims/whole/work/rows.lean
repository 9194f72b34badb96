section
-- ===== PART A: goes FIRST, ahead of the names: the tables' words, and 'selects' of the private methods out of them =====
/-- a private method of a class that the tables say can be made, by its rows of tables_1 -/
def lw_okq (q : MethodName × Nat) : Prop := (q.1.cls ≠ "java/lang/invoke/MethodHandle" ∧ q.1.cls ≠ "java/lang/invoke/VarHandle") ∧ Cond.instantiable q.1.cls q.2 ∈ tables_1 ∧ Cond.privateMethod q.1 ∈ tables_1 ∧ Cond.instanceMethod q.1 ∈ tables_1
theorem lw_p0 : lw_okq (⟨"PillowBarge", "change", "(IIII)I"⟩, 9) := ⟨⟨by decide +kernel, by decide +kernel⟩, List.mem_of_getElem? (i := 33) (by decide +kernel), List.mem_of_getElem? (i := 255) (by decide +kernel), List.mem_of_getElem? (i := 256) (by decide +kernel)⟩
theorem lw_p1 : lw_okq (⟨"PillowBarge$State", "faultOfMoment", "(I)I"⟩, 4) := ⟨⟨by decide +kernel, by decide +kernel⟩, List.mem_of_getElem? (i := 41) (by decide +kernel), List.mem_of_getElem? (i := 284) (by decide +kernel), List.mem_of_getElem? (i := 285) (by decide +kernel)⟩
theorem lw_p2 : lw_okq (⟨"PillowBarge$State", "faultOfLimit", "(I)I"⟩, 4) := ⟨⟨by decide +kernel, by decide +kernel⟩, List.mem_of_getElem? (i := 41) (by decide +kernel), List.mem_of_getElem? (i := 333) (by decide +kernel), List.mem_of_getElem? (i := 334) (by decide +kernel)⟩
theorem lw_p3 : lw_okq (⟨"java/lang/Throwable", "fillInStackTrace", "(I)Ljava/lang/Throwable;"⟩, 6) := ⟨⟨by decide +kernel, by decide +kernel⟩, List.mem_of_getElem? (i := 383) (by decide +kernel), List.mem_of_getElem? (i := 381) (by decide +kernel), List.mem_of_getElem? (i := 382) (by decide +kernel)⟩
theorem lw_p4 : lw_okq (⟨"PillowBarge$History", "placeAt", "(I)LPillowBarge$State;"⟩, 3) := ⟨⟨by decide +kernel, by decide +kernel⟩, List.mem_of_getElem? (i := 141) (by decide +kernel), List.mem_of_getElem? (i := 473) (by decide +kernel), List.mem_of_getElem? (i := 474) (by decide +kernel)⟩
theorem lw_p5 : lw_okq (⟨"PillowBarge$State", "addPillow", "(III)I"⟩, 4) := ⟨⟨by decide +kernel, by decide +kernel⟩, List.mem_of_getElem? (i := 41) (by decide +kernel), List.mem_of_getElem? (i := 510) (by decide +kernel), List.mem_of_getElem? (i := 511) (by decide +kernel)⟩
theorem lw_p6 : lw_okq (⟨"PillowBarge$State", "deliverTop", "(I)I"⟩, 4) := ⟨⟨by decide +kernel, by decide +kernel⟩, List.mem_of_getElem? (i := 41) (by decide +kernel), List.mem_of_getElem? (i := 518) (by decide +kernel), List.mem_of_getElem? (i := 519) (by decide +kernel)⟩
theorem lw_p7 : lw_okq (⟨"PillowBarge$State", "moveTop", "(II)I"⟩, 4) := ⟨⟨by decide +kernel, by decide +kernel⟩, List.mem_of_getElem? (i := 41) (by decide +kernel), List.mem_of_getElem? (i := 530) (by decide +kernel), List.mem_of_getElem? (i := 531) (by decide +kernel)⟩
theorem lw_p8 : lw_okq (⟨"PillowBarge$State", "replaceLimit", "(I)I"⟩, 4) := ⟨⟨by decide +kernel, by decide +kernel⟩, List.mem_of_getElem? (i := 41) (by decide +kernel), List.mem_of_getElem? (i := 551) (by decide +kernel), List.mem_of_getElem? (i := 552) (by decide +kernel)⟩
theorem lw_p9 : lw_okq (⟨"PillowBarge$State", "practise", "(I)Z"⟩, 4) := ⟨⟨by decide +kernel, by decide +kernel⟩, List.mem_of_getElem? (i := 41) (by decide +kernel), List.mem_of_getElem? (i := 555) (by decide +kernel), List.mem_of_getElem? (i := 556) (by decide +kernel)⟩
theorem lw_p10 : lw_okq (⟨"PillowBarge", "countPairs", "()I"⟩, 9) := ⟨⟨by decide +kernel, by decide +kernel⟩, List.mem_of_getElem? (i := 33) (by decide +kernel), List.mem_of_getElem? (i := 621) (by decide +kernel), List.mem_of_getElem? (i := 622) (by decide +kernel)⟩
theorem lw_p11 : lw_okq (⟨"PillowBarge", "countInTheWayOf", "(I)I"⟩, 9) := ⟨⟨by decide +kernel, by decide +kernel⟩, List.mem_of_getElem? (i := 33) (by decide +kernel), List.mem_of_getElem? (i := 626) (by decide +kernel), List.mem_of_getElem? (i := 627) (by decide +kernel)⟩
theorem lw_p12 : lw_okq (⟨"PillowBarge", "countPairsByStacks", "()I"⟩, 9) := ⟨⟨by decide +kernel, by decide +kernel⟩, List.mem_of_getElem? (i := 33) (by decide +kernel), List.mem_of_getElem? (i := 644) (by decide +kernel), List.mem_of_getElem? (i := 645) (by decide +kernel)⟩
theorem lw_p13 : lw_okq (⟨"PillowBarge", "countPairsInStack", "(I)I"⟩, 9) := ⟨⟨by decide +kernel, by decide +kernel⟩, List.mem_of_getElem? (i := 33) (by decide +kernel), List.mem_of_getElem? (i := 648) (by decide +kernel), List.mem_of_getElem? (i := 649) (by decide +kernel)⟩
theorem lw_p14 : lw_okq (⟨"PillowBarge", "seePillow", "(I)I"⟩, 9) := ⟨⟨by decide +kernel, by decide +kernel⟩, List.mem_of_getElem? (i := 33) (by decide +kernel), List.mem_of_getElem? (i := 652) (by decide +kernel), List.mem_of_getElem? (i := 653) (by decide +kernel)⟩
theorem lw_p15 : lw_okq (⟨"PillowBarge", "separate", "()V"⟩, 9) := ⟨⟨by decide +kernel, by decide +kernel⟩, List.mem_of_getElem? (i := 33) (by decide +kernel), List.mem_of_getElem? (i := 981) (by decide +kernel), List.mem_of_getElem? (i := 982) (by decide +kernel)⟩
def lw_privs_1 : List (MethodName × Nat) := [(⟨"PillowBarge", "change", "(IIII)I"⟩, 9), (⟨"PillowBarge$State", "faultOfMoment", "(I)I"⟩, 4), (⟨"PillowBarge$State", "faultOfLimit", "(I)I"⟩, 4), (⟨"java/lang/Throwable", "fillInStackTrace", "(I)Ljava/lang/Throwable;"⟩, 6), (⟨"PillowBarge$History", "placeAt", "(I)LPillowBarge$State;"⟩, 3), (⟨"PillowBarge$State", "addPillow", "(III)I"⟩, 4), (⟨"PillowBarge$State", "deliverTop", "(I)I"⟩, 4), (⟨"PillowBarge$State", "moveTop", "(II)I"⟩, 4), (⟨"PillowBarge$State", "replaceLimit", "(I)I"⟩, 4), (⟨"PillowBarge$State", "practise", "(I)Z"⟩, 4), (⟨"PillowBarge", "countPairs", "()I"⟩, 9), (⟨"PillowBarge", "countInTheWayOf", "(I)I"⟩, 9), (⟨"PillowBarge", "countPairsByStacks", "()I"⟩, 9), (⟨"PillowBarge", "countPairsInStack", "(I)I"⟩, 9), (⟨"PillowBarge", "seePillow", "(I)I"⟩, 9), (⟨"PillowBarge", "separate", "()V"⟩, 9)]
theorem lw_r1 : ∀ q ∈ lw_privs_1, lw_okq q := List.forall_mem_cons.mpr ⟨lw_p0, List.forall_mem_cons.mpr ⟨lw_p1, List.forall_mem_cons.mpr ⟨lw_p2, List.forall_mem_cons.mpr ⟨lw_p3, List.forall_mem_cons.mpr ⟨lw_p4, List.forall_mem_cons.mpr ⟨lw_p5, List.forall_mem_cons.mpr ⟨lw_p6, List.forall_mem_cons.mpr ⟨lw_p7, List.forall_mem_cons.mpr ⟨lw_p8, List.forall_mem_cons.mpr ⟨lw_p9, List.forall_mem_cons.mpr ⟨lw_p10, List.forall_mem_cons.mpr ⟨lw_p11, List.forall_mem_cons.mpr ⟨lw_p12, List.forall_mem_cons.mpr ⟨lw_p13, List.forall_mem_cons.mpr ⟨lw_p14, List.forall_mem_cons.mpr ⟨lw_p15, fun _ h => absurd h List.not_mem_nil⟩⟩⟩⟩⟩⟩⟩⟩⟩⟩⟩⟩⟩⟩⟩⟩
theorem lw_p16 : lw_okq (⟨"PillowBarge", "requirePillow", "(I)I"⟩, 9) := ⟨⟨by decide +kernel, by decide +kernel⟩, List.mem_of_getElem? (i := 33) (by decide +kernel), List.mem_of_getElem? (i := 1094) (by decide +kernel), List.mem_of_getElem? (i := 1095) (by decide +kernel)⟩
theorem lw_p17 : lw_okq (⟨"PillowBarge", "mostLevelBay", "(I)I"⟩, 9) := ⟨⟨by decide +kernel, by decide +kernel⟩, List.mem_of_getElem? (i := 33) (by decide +kernel), List.mem_of_getElem? (i := 1158) (by decide +kernel), List.mem_of_getElem? (i := 1159) (by decide +kernel)⟩
theorem lw_p18 : lw_okq (⟨"PillowBarge", "isMoreLevel", "(III)Z"⟩, 9) := ⟨⟨by decide +kernel, by decide +kernel⟩, List.mem_of_getElem? (i := 33) (by decide +kernel), List.mem_of_getElem? (i := 1163) (by decide +kernel), List.mem_of_getElem? (i := 1164) (by decide +kernel)⟩
theorem lw_p19 : lw_okq (⟨"PillowBarge", "oldestSlotIn", "(I)I"⟩, 9) := ⟨⟨by decide +kernel, by decide +kernel⟩, List.mem_of_getElem? (i := 33) (by decide +kernel), List.mem_of_getElem? (i := 1199) (by decide +kernel), List.mem_of_getElem? (i := 1200) (by decide +kernel)⟩
theorem lw_p20 : lw_okq (⟨"PillowBarge", "isOlder", "(II)Z"⟩, 9) := ⟨⟨by decide +kernel, by decide +kernel⟩, List.mem_of_getElem? (i := 33) (by decide +kernel), List.mem_of_getElem? (i := 1203) (by decide +kernel), List.mem_of_getElem? (i := 1204) (by decide +kernel)⟩
theorem lw_p21 : lw_okq (⟨"PillowBarge", "countEarlierTurns", "(I)I"⟩, 9) := ⟨⟨by decide +kernel, by decide +kernel⟩, List.mem_of_getElem? (i := 33) (by decide +kernel), List.mem_of_getElem? (i := 1221) (by decide +kernel), List.mem_of_getElem? (i := 1222) (by decide +kernel)⟩
theorem lw_p22 : lw_okq (⟨"PillowBarge", "hasEarlierTurn", "(II)Z"⟩, 9) := ⟨⟨by decide +kernel, by decide +kernel⟩, List.mem_of_getElem? (i := 33) (by decide +kernel), List.mem_of_getElem? (i := 1225) (by decide +kernel), List.mem_of_getElem? (i := 1226) (by decide +kernel)⟩
theorem lw_p23 : lw_okq (⟨"PillowBarge", "countHeavierBays", "(I)I"⟩, 9) := ⟨⟨by decide +kernel, by decide +kernel⟩, List.mem_of_getElem? (i := 33) (by decide +kernel), List.mem_of_getElem? (i := 1236) (by decide +kernel), List.mem_of_getElem? (i := 1237) (by decide +kernel)⟩
theorem lw_p24 : lw_okq (⟨"PillowBarge", "sumOfAges", "()I"⟩, 9) := ⟨⟨by decide +kernel, by decide +kernel⟩, List.mem_of_getElem? (i := 33) (by decide +kernel), List.mem_of_getElem? (i := 1266) (by decide +kernel), List.mem_of_getElem? (i := 1267) (by decide +kernel)⟩
theorem lw_p25 : lw_okq (⟨"PillowBarge", "renderPillow", "(I)V"⟩, 9) := ⟨⟨by decide +kernel, by decide +kernel⟩, List.mem_of_getElem? (i := 33) (by decide +kernel), List.mem_of_getElem? (i := 1284) (by decide +kernel), List.mem_of_getElem? (i := 1285) (by decide +kernel)⟩
theorem lw_p26 : lw_okq (⟨"PillowBarge$Script", "readCommand", "()Z"⟩, 6) := ⟨⟨by decide +kernel, by decide +kernel⟩, List.mem_of_getElem? (i := 161) (by decide +kernel), List.mem_of_getElem? (i := 1331) (by decide +kernel), List.mem_of_getElem? (i := 1332) (by decide +kernel)⟩
theorem lw_p27 : lw_okq (⟨"PillowBarge$Script", "readKeyword", "()I"⟩, 6) := ⟨⟨by decide +kernel, by decide +kernel⟩, List.mem_of_getElem? (i := 161) (by decide +kernel), List.mem_of_getElem? (i := 1335) (by decide +kernel), List.mem_of_getElem? (i := 1336) (by decide +kernel)⟩
theorem lw_p28 : lw_okq (⟨"PillowBarge$Script", "countMatching", "(Ljava/lang/String;)I"⟩, 6) := ⟨⟨by decide +kernel, by decide +kernel⟩, List.mem_of_getElem? (i := 161) (by decide +kernel), List.mem_of_getElem? (i := 1349) (by decide +kernel), List.mem_of_getElem? (i := 1350) (by decide +kernel)⟩
theorem lw_p29 : lw_okq (⟨"PillowBarge$Script", "isNext", "(IC)Z"⟩, 6) := ⟨⟨by decide +kernel, by decide +kernel⟩, List.mem_of_getElem? (i := 161) (by decide +kernel), List.mem_of_getElem? (i := 1369) (by decide +kernel), List.mem_of_getElem? (i := 1370) (by decide +kernel)⟩
theorem lw_p30 : lw_okq (⟨"PillowBarge$Script", "readDigit", "(I)Z"⟩, 6) := ⟨⟨by decide +kernel, by decide +kernel⟩, List.mem_of_getElem? (i := 161) (by decide +kernel), List.mem_of_getElem? (i := 1374) (by decide +kernel), List.mem_of_getElem? (i := 1375) (by decide +kernel)⟩
theorem lw_p31 : lw_okq (⟨"PillowBarge$Script", "takeDigit", "()I"⟩, 6) := ⟨⟨by decide +kernel, by decide +kernel⟩, List.mem_of_getElem? (i := 161) (by decide +kernel), List.mem_of_getElem? (i := 1378) (by decide +kernel), List.mem_of_getElem? (i := 1379) (by decide +kernel)⟩
def lw_privs_2 : List (MethodName × Nat) := [(⟨"PillowBarge", "requirePillow", "(I)I"⟩, 9), (⟨"PillowBarge", "mostLevelBay", "(I)I"⟩, 9), (⟨"PillowBarge", "isMoreLevel", "(III)Z"⟩, 9), (⟨"PillowBarge", "oldestSlotIn", "(I)I"⟩, 9), (⟨"PillowBarge", "isOlder", "(II)Z"⟩, 9), (⟨"PillowBarge", "countEarlierTurns", "(I)I"⟩, 9), (⟨"PillowBarge", "hasEarlierTurn", "(II)Z"⟩, 9), (⟨"PillowBarge", "countHeavierBays", "(I)I"⟩, 9), (⟨"PillowBarge", "sumOfAges", "()I"⟩, 9), (⟨"PillowBarge", "renderPillow", "(I)V"⟩, 9), (⟨"PillowBarge$Script", "readCommand", "()Z"⟩, 6), (⟨"PillowBarge$Script", "readKeyword", "()I"⟩, 6), (⟨"PillowBarge$Script", "countMatching", "(Ljava/lang/String;)I"⟩, 6), (⟨"PillowBarge$Script", "isNext", "(IC)Z"⟩, 6), (⟨"PillowBarge$Script", "readDigit", "(I)Z"⟩, 6), (⟨"PillowBarge$Script", "takeDigit", "()I"⟩, 6)]
theorem lw_r2 : ∀ q ∈ lw_privs_2, lw_okq q := List.forall_mem_cons.mpr ⟨lw_p16, List.forall_mem_cons.mpr ⟨lw_p17, List.forall_mem_cons.mpr ⟨lw_p18, List.forall_mem_cons.mpr ⟨lw_p19, List.forall_mem_cons.mpr ⟨lw_p20, List.forall_mem_cons.mpr ⟨lw_p21, List.forall_mem_cons.mpr ⟨lw_p22, List.forall_mem_cons.mpr ⟨lw_p23, List.forall_mem_cons.mpr ⟨lw_p24, List.forall_mem_cons.mpr ⟨lw_p25, List.forall_mem_cons.mpr ⟨lw_p26, List.forall_mem_cons.mpr ⟨lw_p27, List.forall_mem_cons.mpr ⟨lw_p28, List.forall_mem_cons.mpr ⟨lw_p29, List.forall_mem_cons.mpr ⟨lw_p30, List.forall_mem_cons.mpr ⟨lw_p31, fun _ h => absurd h List.not_mem_nil⟩⟩⟩⟩⟩⟩⟩⟩⟩⟩⟩⟩⟩⟩⟩⟩
theorem lw_p32 : lw_okq (⟨"PillowBarge$Script", "setArgument", "(II)V"⟩, 6) := ⟨⟨by decide +kernel, by decide +kernel⟩, List.mem_of_getElem? (i := 161) (by decide +kernel), List.mem_of_getElem? (i := 1382) (by decide +kernel), List.mem_of_getElem? (i := 1383) (by decide +kernel)⟩
theorem lw_p33 : lw_okq (⟨"PillowBarge$Script", "accept", "(C)Z"⟩, 6) := ⟨⟨by decide +kernel, by decide +kernel⟩, List.mem_of_getElem? (i := 161) (by decide +kernel), List.mem_of_getElem? (i := 1386) (by decide +kernel), List.mem_of_getElem? (i := 1387) (by decide +kernel)⟩
theorem lw_p34 : lw_okq (⟨"PillowBarge$Script", "readNumber", "(I)Z"⟩, 6) := ⟨⟨by decide +kernel, by decide +kernel⟩, List.mem_of_getElem? (i := 161) (by decide +kernel), List.mem_of_getElem? (i := 1390) (by decide +kernel), List.mem_of_getElem? (i := 1391) (by decide +kernel)⟩
theorem lw_p35 : lw_okq (⟨"PillowBarge$Script", "readSignedNumber", "(I)Z"⟩, 6) := ⟨⟨by decide +kernel, by decide +kernel⟩, List.mem_of_getElem? (i := 161) (by decide +kernel), List.mem_of_getElem? (i := 1394) (by decide +kernel), List.mem_of_getElem? (i := 1395) (by decide +kernel)⟩
theorem lw_p36 : lw_okq (⟨"PillowBarge", "performCommands", "()I"⟩, 9) := ⟨⟨by decide +kernel, by decide +kernel⟩, List.mem_of_getElem? (i := 33) (by decide +kernel), List.mem_of_getElem? (i := 1406) (by decide +kernel), List.mem_of_getElem? (i := 1407) (by decide +kernel)⟩
theorem lw_p37 : lw_okq (⟨"PillowBargeModel", "notLoad", "(III)I"⟩, 18) := ⟨⟨by decide +kernel, by decide +kernel⟩, List.mem_of_getElem? (i := 1460) (by decide +kernel), List.mem_of_getElem? (i := 1525) (by decide +kernel), List.mem_of_getElem? (i := 1526) (by decide +kernel)⟩
theorem lw_p38 : lw_okq (⟨"PillowBargeModel", "isBeyond", "(I)Z"⟩, 18) := ⟨⟨by decide +kernel, by decide +kernel⟩, List.mem_of_getElem? (i := 1460) (by decide +kernel), List.mem_of_getElem? (i := 1538) (by decide +kernel), List.mem_of_getElem? (i := 1539) (by decide +kernel)⟩
theorem lw_p39 : lw_okq (⟨"PillowBargeModel", "momentNow", "()I"⟩, 18) := ⟨⟨by decide +kernel, by decide +kernel⟩, List.mem_of_getElem? (i := 1460) (by decide +kernel), List.mem_of_getElem? (i := 1542) (by decide +kernel), List.mem_of_getElem? (i := 1543) (by decide +kernel)⟩
theorem lw_p40 : lw_okq (⟨"PillowBargeModel", "weightOfBay", "(I)I"⟩, 18) := ⟨⟨by decide +kernel, by decide +kernel⟩, List.mem_of_getElem? (i := 1460) (by decide +kernel), List.mem_of_getElem? (i := 1546) (by decide +kernel), List.mem_of_getElem? (i := 1547) (by decide +kernel)⟩
theorem lw_p41 : lw_okq (⟨"PillowBargeModel", "at", "(III)I"⟩, 18) := ⟨⟨by decide +kernel, by decide +kernel⟩, List.mem_of_getElem? (i := 1460) (by decide +kernel), List.mem_of_getElem? (i := 1550) (by decide +kernel), List.mem_of_getElem? (i := 1551) (by decide +kernel)⟩
theorem lw_p42 : lw_okq (⟨"PillowBargeModel", "fails", "(I)I"⟩, 18) := ⟨⟨by decide +kernel, by decide +kernel⟩, List.mem_of_getElem? (i := 1460) (by decide +kernel), List.mem_of_getElem? (i := 1554) (by decide +kernel), List.mem_of_getElem? (i := 1555) (by decide +kernel)⟩
theorem lw_p43 : lw_okq (⟨"PillowBargeModel", "remembers", "()V"⟩, 18) := ⟨⟨by decide +kernel, by decide +kernel⟩, List.mem_of_getElem? (i := 1460) (by decide +kernel), List.mem_of_getElem? (i := 1558) (by decide +kernel), List.mem_of_getElem? (i := 1559) (by decide +kernel)⟩
theorem lw_p44 : lw_okq (⟨"PillowBargeModel", "copies", "()V"⟩, 18) := ⟨⟨by decide +kernel, by decide +kernel⟩, List.mem_of_getElem? (i := 1460) (by decide +kernel), List.mem_of_getElem? (i := 1562) (by decide +kernel), List.mem_of_getElem? (i := 1563) (by decide +kernel)⟩
theorem lw_p45 : lw_okq (⟨"PillowBargeModel", "keeps", "()V"⟩, 18) := ⟨⟨by decide +kernel, by decide +kernel⟩, List.mem_of_getElem? (i := 1460) (by decide +kernel), List.mem_of_getElem? (i := 1566) (by decide +kernel), List.mem_of_getElem? (i := 1567) (by decide +kernel)⟩
theorem lw_p46 : lw_okq (⟨"PillowBargeModel", "loads", "(III)I"⟩, 18) := ⟨⟨by decide +kernel, by decide +kernel⟩, List.mem_of_getElem? (i := 1460) (by decide +kernel), List.mem_of_getElem? (i := 1570) (by decide +kernel), List.mem_of_getElem? (i := 1571) (by decide +kernel)⟩
theorem lw_p47 : lw_okq (⟨"PillowBargeModel", "lays", "(IIIII)V"⟩, 18) := ⟨⟨by decide +kernel, by decide +kernel⟩, List.mem_of_getElem? (i := 1460) (by decide +kernel), List.mem_of_getElem? (i := 1574) (by decide +kernel), List.mem_of_getElem? (i := 1575) (by decide +kernel)⟩
def lw_privs_3 : List (MethodName × Nat) := [(⟨"PillowBarge$Script", "setArgument", "(II)V"⟩, 6), (⟨"PillowBarge$Script", "accept", "(C)Z"⟩, 6), (⟨"PillowBarge$Script", "readNumber", "(I)Z"⟩, 6), (⟨"PillowBarge$Script", "readSignedNumber", "(I)Z"⟩, 6), (⟨"PillowBarge", "performCommands", "()I"⟩, 9), (⟨"PillowBargeModel", "notLoad", "(III)I"⟩, 18), (⟨"PillowBargeModel", "isBeyond", "(I)Z"⟩, 18), (⟨"PillowBargeModel", "momentNow", "()I"⟩, 18), (⟨"PillowBargeModel", "weightOfBay", "(I)I"⟩, 18), (⟨"PillowBargeModel", "at", "(III)I"⟩, 18), (⟨"PillowBargeModel", "fails", "(I)I"⟩, 18), (⟨"PillowBargeModel", "remembers", "()V"⟩, 18), (⟨"PillowBargeModel", "copies", "()V"⟩, 18), (⟨"PillowBargeModel", "keeps", "()V"⟩, 18), (⟨"PillowBargeModel", "loads", "(III)I"⟩, 18), (⟨"PillowBargeModel", "lays", "(IIIII)V"⟩, 18)]
theorem lw_r3 : ∀ q ∈ lw_privs_3, lw_okq q := List.forall_mem_cons.mpr ⟨lw_p32, List.forall_mem_cons.mpr ⟨lw_p33, List.forall_mem_cons.mpr ⟨lw_p34, List.forall_mem_cons.mpr ⟨lw_p35, List.forall_mem_cons.mpr ⟨lw_p36, List.forall_mem_cons.mpr ⟨lw_p37, List.forall_mem_cons.mpr ⟨lw_p38, List.forall_mem_cons.mpr ⟨lw_p39, List.forall_mem_cons.mpr ⟨lw_p40, List.forall_mem_cons.mpr ⟨lw_p41, List.forall_mem_cons.mpr ⟨lw_p42, List.forall_mem_cons.mpr ⟨lw_p43, List.forall_mem_cons.mpr ⟨lw_p44, List.forall_mem_cons.mpr ⟨lw_p45, List.forall_mem_cons.mpr ⟨lw_p46, List.forall_mem_cons.mpr ⟨lw_p47, fun _ h => absurd h List.not_mem_nil⟩⟩⟩⟩⟩⟩⟩⟩⟩⟩⟩⟩⟩⟩⟩⟩
theorem lw_p48 : lw_okq (⟨"PillowBargeModel", "puts", "(IIII)V"⟩, 18) := ⟨⟨by decide +kernel, by decide +kernel⟩, List.mem_of_getElem? (i := 1460) (by decide +kernel), List.mem_of_getElem? (i := 1578) (by decide +kernel), List.mem_of_getElem? (i := 1579) (by decide +kernel)⟩
theorem lw_p49 : lw_okq (⟨"PillowBargeModel", "notUnload", "(I)I"⟩, 18) := ⟨⟨by decide +kernel, by decide +kernel⟩, List.mem_of_getElem? (i := 1460) (by decide +kernel), List.mem_of_getElem? (i := 1586) (by decide +kernel), List.mem_of_getElem? (i := 1587) (by decide +kernel)⟩
theorem lw_p50 : lw_okq (⟨"PillowBargeModel", "top", "(II)I"⟩, 18) := ⟨⟨by decide +kernel, by decide +kernel⟩, List.mem_of_getElem? (i := 1460) (by decide +kernel), List.mem_of_getElem? (i := 1590) (by decide +kernel), List.mem_of_getElem? (i := 1591) (by decide +kernel)⟩
theorem lw_p51 : lw_okq (⟨"PillowBargeModel", "unloads", "(I)I"⟩, 18) := ⟨⟨by decide +kernel, by decide +kernel⟩, List.mem_of_getElem? (i := 1460) (by decide +kernel), List.mem_of_getElem? (i := 1594) (by decide +kernel), List.mem_of_getElem? (i := 1595) (by decide +kernel)⟩
theorem lw_p52 : lw_okq (⟨"PillowBargeModel", "takes", "(I)V"⟩, 18) := ⟨⟨by decide +kernel, by decide +kernel⟩, List.mem_of_getElem? (i := 1460) (by decide +kernel), List.mem_of_getElem? (i := 1598) (by decide +kernel), List.mem_of_getElem? (i := 1599) (by decide +kernel)⟩
theorem lw_p53 : lw_okq (⟨"PillowBargeModel", "notShift", "(II)I"⟩, 18) := ⟨⟨by decide +kernel, by decide +kernel⟩, List.mem_of_getElem? (i := 1460) (by decide +kernel), List.mem_of_getElem? (i := 1606) (by decide +kernel), List.mem_of_getElem? (i := 1607) (by decide +kernel)⟩
theorem lw_p54 : lw_okq (⟨"PillowBargeModel", "shifts", "(II)I"⟩, 18) := ⟨⟨by decide +kernel, by decide +kernel⟩, List.mem_of_getElem? (i := 1460) (by decide +kernel), List.mem_of_getElem? (i := 1610) (by decide +kernel), List.mem_of_getElem? (i := 1611) (by decide +kernel)⟩
theorem lw_p55 : lw_okq (⟨"PillowBargeModel", "sails", "(I)I"⟩, 18) := ⟨⟨by decide +kernel, by decide +kernel⟩, List.mem_of_getElem? (i := 1460) (by decide +kernel), List.mem_of_getElem? (i := 1621) (by decide +kernel), List.mem_of_getElem? (i := 1622) (by decide +kernel)⟩
theorem lw_p56 : lw_okq (⟨"PillowBargeModel", "portBehind", "(I)I"⟩, 18) := ⟨⟨by decide +kernel, by decide +kernel⟩, List.mem_of_getElem? (i := 1460) (by decide +kernel), List.mem_of_getElem? (i := 1625) (by decide +kernel), List.mem_of_getElem? (i := 1626) (by decide +kernel)⟩
theorem lw_p57 : lw_okq (⟨"PillowBargeModel", "turns", "()I"⟩, 18) := ⟨⟨by decide +kernel, by decide +kernel⟩, List.mem_of_getElem? (i := 1460) (by decide +kernel), List.mem_of_getElem? (i := 1633) (by decide +kernel), List.mem_of_getElem? (i := 1634) (by decide +kernel)⟩
theorem lw_p58 : lw_okq (⟨"PillowBargeModel", "notLimit", "(I)I"⟩, 18) := ⟨⟨by decide +kernel, by decide +kernel⟩, List.mem_of_getElem? (i := 1460) (by decide +kernel), List.mem_of_getElem? (i := 1641) (by decide +kernel), List.mem_of_getElem? (i := 1642) (by decide +kernel)⟩
theorem lw_p59 : lw_okq (⟨"PillowBargeModel", "setsLimit", "(I)I"⟩, 18) := ⟨⟨by decide +kernel, by decide +kernel⟩, List.mem_of_getElem? (i := 1460) (by decide +kernel), List.mem_of_getElem? (i := 1645) (by decide +kernel), List.mem_of_getElem? (i := 1646) (by decide +kernel)⟩
theorem lw_p60 : lw_okq (⟨"PillowBargeModel", "drills", "(I)I"⟩, 18) := ⟨⟨by decide +kernel, by decide +kernel⟩, List.mem_of_getElem? (i := 1460) (by decide +kernel), List.mem_of_getElem? (i := 1656) (by decide +kernel), List.mem_of_getElem? (i := 1657) (by decide +kernel)⟩
theorem lw_p61 : lw_okq (⟨"PillowBargeModel", "countAll", "()I"⟩, 18) := ⟨⟨by decide +kernel, by decide +kernel⟩, List.mem_of_getElem? (i := 1460) (by decide +kernel), List.mem_of_getElem? (i := 1664) (by decide +kernel), List.mem_of_getElem? (i := 1665) (by decide +kernel)⟩
theorem lw_p62 : lw_okq (⟨"PillowBargeModel", "asks", "(II)I"⟩, 18) := ⟨⟨by decide +kernel, by decide +kernel⟩, List.mem_of_getElem? (i := 1460) (by decide +kernel), List.mem_of_getElem? (i := 1680) (by decide +kernel), List.mem_of_getElem? (i := 1681) (by decide +kernel)⟩
theorem lw_p63 : lw_okq (⟨"PillowBargeModel", "placeOf", "(I)I"⟩, 18) := ⟨⟨by decide +kernel, by decide +kernel⟩, List.mem_of_getElem? (i := 1460) (by decide +kernel), List.mem_of_getElem? (i := 1684) (by decide +kernel), List.mem_of_getElem? (i := 1685) (by decide +kernel)⟩
def lw_privs_4 : List (MethodName × Nat) := [(⟨"PillowBargeModel", "puts", "(IIII)V"⟩, 18), (⟨"PillowBargeModel", "notUnload", "(I)I"⟩, 18), (⟨"PillowBargeModel", "top", "(II)I"⟩, 18), (⟨"PillowBargeModel", "unloads", "(I)I"⟩, 18), (⟨"PillowBargeModel", "takes", "(I)V"⟩, 18), (⟨"PillowBargeModel", "notShift", "(II)I"⟩, 18), (⟨"PillowBargeModel", "shifts", "(II)I"⟩, 18), (⟨"PillowBargeModel", "sails", "(I)I"⟩, 18), (⟨"PillowBargeModel", "portBehind", "(I)I"⟩, 18), (⟨"PillowBargeModel", "turns", "()I"⟩, 18), (⟨"PillowBargeModel", "notLimit", "(I)I"⟩, 18), (⟨"PillowBargeModel", "setsLimit", "(I)I"⟩, 18), (⟨"PillowBargeModel", "drills", "(I)I"⟩, 18), (⟨"PillowBargeModel", "countAll", "()I"⟩, 18), (⟨"PillowBargeModel", "asks", "(II)I"⟩, 18), (⟨"PillowBargeModel", "placeOf", "(I)I"⟩, 18)]
theorem lw_r4 : ∀ q ∈ lw_privs_4, lw_okq q := List.forall_mem_cons.mpr ⟨lw_p48, List.forall_mem_cons.mpr ⟨lw_p49, List.forall_mem_cons.mpr ⟨lw_p50, List.forall_mem_cons.mpr ⟨lw_p51, List.forall_mem_cons.mpr ⟨lw_p52, List.forall_mem_cons.mpr ⟨lw_p53, List.forall_mem_cons.mpr ⟨lw_p54, List.forall_mem_cons.mpr ⟨lw_p55, List.forall_mem_cons.mpr ⟨lw_p56, List.forall_mem_cons.mpr ⟨lw_p57, List.forall_mem_cons.mpr ⟨lw_p58, List.forall_mem_cons.mpr ⟨lw_p59, List.forall_mem_cons.mpr ⟨lw_p60, List.forall_mem_cons.mpr ⟨lw_p61, List.forall_mem_cons.mpr ⟨lw_p62, List.forall_mem_cons.mpr ⟨lw_p63, fun _ h => absurd h List.not_mem_nil⟩⟩⟩⟩⟩⟩⟩⟩⟩⟩⟩⟩⟩⟩⟩⟩
theorem lw_p64 : lw_okq (⟨"PillowBargeModel", "weightAll", "()I"⟩, 18) := ⟨⟨by decide +kernel, by decide +kernel⟩, List.mem_of_getElem? (i := 1460) (by decide +kernel), List.mem_of_getElem? (i := 1717) (by decide +kernel), List.mem_of_getElem? (i := 1718) (by decide +kernel)⟩
theorem lw_p65 : lw_okq (⟨"PillowBargeModel", "isBetter", "(III)Z"⟩, 18) := ⟨⟨by decide +kernel, by decide +kernel⟩, List.mem_of_getElem? (i := 1460) (by decide +kernel), List.mem_of_getElem? (i := 1742) (by decide +kernel), List.mem_of_getElem? (i := 1743) (by decide +kernel)⟩
theorem lw_p66 : lw_okq (⟨"PillowBargeModel", "legs", "(I)I"⟩, 18) := ⟨⟨by decide +kernel, by decide +kernel⟩, List.mem_of_getElem? (i := 1460) (by decide +kernel), List.mem_of_getElem? (i := 1765) (by decide +kernel), List.mem_of_getElem? (i := 1766) (by decide +kernel)⟩
theorem lw_p67 : lw_okq (⟨"PillowBargeModel", "inTheWay", "(II)I"⟩, 18) := ⟨⟨by decide +kernel, by decide +kernel⟩, List.mem_of_getElem? (i := 1460) (by decide +kernel), List.mem_of_getElem? (i := 1777) (by decide +kernel), List.mem_of_getElem? (i := 1778) (by decide +kernel)⟩
theorem lw_p68 : lw_okq (⟨"PillowBargeModel", "isTaken", "(I)Z"⟩, 18) := ⟨⟨by decide +kernel, by decide +kernel⟩, List.mem_of_getElem? (i := 1460) (by decide +kernel), List.mem_of_getElem? (i := 1811) (by decide +kernel), List.mem_of_getElem? (i := 1812) (by decide +kernel)⟩
theorem lw_p69 : lw_okq (⟨"PillowBargeModel", "isAhead", "(II)Z"⟩, 18) := ⟨⟨by decide +kernel, by decide +kernel⟩, List.mem_of_getElem? (i := 1460) (by decide +kernel), List.mem_of_getElem? (i := 1815) (by decide +kernel), List.mem_of_getElem? (i := 1816) (by decide +kernel)⟩
theorem lw_p70 : lw_okq (⟨"PillowBargeModel", "writes", "(I)V"⟩, 18) := ⟨⟨by decide +kernel, by decide +kernel⟩, List.mem_of_getElem? (i := 1460) (by decide +kernel), List.mem_of_getElem? (i := 1859) (by decide +kernel), List.mem_of_getElem? (i := 1860) (by decide +kernel)⟩
theorem lw_p71 : lw_okq (⟨"PillowBargeModel", "writesNumber", "(I)V"⟩, 18) := ⟨⟨by decide +kernel, by decide +kernel⟩, List.mem_of_getElem? (i := 1460) (by decide +kernel), List.mem_of_getElem? (i := 1863) (by decide +kernel), List.mem_of_getElem? (i := 1864) (by decide +kernel)⟩
theorem lw_p72 : lw_okq (⟨"PillowBargeModel", "readsAll", "()Z"⟩, 18) := ⟨⟨by decide +kernel, by decide +kernel⟩, List.mem_of_getElem? (i := 1460) (by decide +kernel), List.mem_of_getElem? (i := 1883) (by decide +kernel), List.mem_of_getElem? (i := 1884) (by decide +kernel)⟩
theorem lw_p73 : lw_okq (⟨"PillowBargeModel", "readsCommand", "()Z"⟩, 18) := ⟨⟨by decide +kernel, by decide +kernel⟩, List.mem_of_getElem? (i := 1460) (by decide +kernel), List.mem_of_getElem? (i := 1887) (by decide +kernel), List.mem_of_getElem? (i := 1888) (by decide +kernel)⟩
theorem lw_p74 : lw_okq (⟨"PillowBargeModel", "nextChar", "()I"⟩, 18) := ⟨⟨by decide +kernel, by decide +kernel⟩, List.mem_of_getElem? (i := 1460) (by decide +kernel), List.mem_of_getElem? (i := 1891) (by decide +kernel), List.mem_of_getElem? (i := 1892) (by decide +kernel)⟩
theorem lw_p75 : lw_okq (⟨"PillowBargeModel", "reads", "(I)Z"⟩, 18) := ⟨⟨by decide +kernel, by decide +kernel⟩, List.mem_of_getElem? (i := 1460) (by decide +kernel), List.mem_of_getElem? (i := 1895) (by decide +kernel), List.mem_of_getElem? (i := 1896) (by decide +kernel)⟩
theorem lw_p76 : lw_okq (⟨"PillowBargeModel", "readsL", "()Z"⟩, 18) := ⟨⟨by decide +kernel, by decide +kernel⟩, List.mem_of_getElem? (i := 1460) (by decide +kernel), List.mem_of_getElem? (i := 1899) (by decide +kernel), List.mem_of_getElem? (i := 1900) (by decide +kernel)⟩
theorem lw_p77 : lw_okq (⟨"PillowBargeModel", "readsDigit", "(I)Z"⟩, 18) := ⟨⟨by decide +kernel, by decide +kernel⟩, List.mem_of_getElem? (i := 1460) (by decide +kernel), List.mem_of_getElem? (i := 1903) (by decide +kernel), List.mem_of_getElem? (i := 1904) (by decide +kernel)⟩
theorem lw_p78 : lw_okq (⟨"PillowBargeModel", "readsNumber", "(I)Z"⟩, 18) := ⟨⟨by decide +kernel, by decide +kernel⟩, List.mem_of_getElem? (i := 1460) (by decide +kernel), List.mem_of_getElem? (i := 1907) (by decide +kernel), List.mem_of_getElem? (i := 1908) (by decide +kernel)⟩
theorem lw_p79 : lw_okq (⟨"PillowBargeModel", "readsS", "()Z"⟩, 18) := ⟨⟨by decide +kernel, by decide +kernel⟩, List.mem_of_getElem? (i := 1460) (by decide +kernel), List.mem_of_getElem? (i := 1911) (by decide +kernel), List.mem_of_getElem? (i := 1912) (by decide +kernel)⟩
def lw_privs_5 : List (MethodName × Nat) := [(⟨"PillowBargeModel", "weightAll", "()I"⟩, 18), (⟨"PillowBargeModel", "isBetter", "(III)Z"⟩, 18), (⟨"PillowBargeModel", "legs", "(I)I"⟩, 18), (⟨"PillowBargeModel", "inTheWay", "(II)I"⟩, 18), (⟨"PillowBargeModel", "isTaken", "(I)Z"⟩, 18), (⟨"PillowBargeModel", "isAhead", "(II)Z"⟩, 18), (⟨"PillowBargeModel", "writes", "(I)V"⟩, 18), (⟨"PillowBargeModel", "writesNumber", "(I)V"⟩, 18), (⟨"PillowBargeModel", "readsAll", "()Z"⟩, 18), (⟨"PillowBargeModel", "readsCommand", "()Z"⟩, 18), (⟨"PillowBargeModel", "nextChar", "()I"⟩, 18), (⟨"PillowBargeModel", "reads", "(I)Z"⟩, 18), (⟨"PillowBargeModel", "readsL", "()Z"⟩, 18), (⟨"PillowBargeModel", "readsDigit", "(I)Z"⟩, 18), (⟨"PillowBargeModel", "readsNumber", "(I)Z"⟩, 18), (⟨"PillowBargeModel", "readsS", "()Z"⟩, 18)]
theorem lw_r5 : ∀ q ∈ lw_privs_5, lw_okq q := List.forall_mem_cons.mpr ⟨lw_p64, List.forall_mem_cons.mpr ⟨lw_p65, List.forall_mem_cons.mpr ⟨lw_p66, List.forall_mem_cons.mpr ⟨lw_p67, List.forall_mem_cons.mpr ⟨lw_p68, List.forall_mem_cons.mpr ⟨lw_p69, List.forall_mem_cons.mpr ⟨lw_p70, List.forall_mem_cons.mpr ⟨lw_p71, List.forall_mem_cons.mpr ⟨lw_p72, List.forall_mem_cons.mpr ⟨lw_p73, List.forall_mem_cons.mpr ⟨lw_p74, List.forall_mem_cons.mpr ⟨lw_p75, List.forall_mem_cons.mpr ⟨lw_p76, List.forall_mem_cons.mpr ⟨lw_p77, List.forall_mem_cons.mpr ⟨lw_p78, List.forall_mem_cons.mpr ⟨lw_p79, fun _ h => absurd h List.not_mem_nil⟩⟩⟩⟩⟩⟩⟩⟩⟩⟩⟩⟩⟩⟩⟩⟩
theorem lw_p80 : lw_okq (⟨"PillowBargeModel", "readsDrill", "()Z"⟩, 18) := ⟨⟨by decide +kernel, by decide +kernel⟩, List.mem_of_getElem? (i := 1460) (by decide +kernel), List.mem_of_getElem? (i := 1915) (by decide +kernel), List.mem_of_getElem? (i := 1916) (by decide +kernel)⟩
theorem lw_p81 : lw_okq (⟨"PillowBargeModel", "doesAll", "()Z"⟩, 18) := ⟨⟨by decide +kernel, by decide +kernel⟩, List.mem_of_getElem? (i := 1460) (by decide +kernel), List.mem_of_getElem? (i := 1919) (by decide +kernel), List.mem_of_getElem? (i := 1920) (by decide +kernel)⟩
theorem lw_p82 : lw_okq (⟨"PillowBargeModel", "notNow", "()I"⟩, 18) := ⟨⟨by decide +kernel, by decide +kernel⟩, List.mem_of_getElem? (i := 1460) (by decide +kernel), List.mem_of_getElem? (i := 1923) (by decide +kernel), List.mem_of_getElem? (i := 1924) (by decide +kernel)⟩
theorem lw_p83 : lw_okq (⟨"PillowBargeModel", "doesNow", "()I"⟩, 18) := ⟨⟨by decide +kernel, by decide +kernel⟩, List.mem_of_getElem? (i := 1460) (by decide +kernel), List.mem_of_getElem? (i := 1927) (by decide +kernel), List.mem_of_getElem? (i := 1928) (by decide +kernel)⟩
theorem lw_p84 : lw_okq (⟨"PillowBargeModel", "goesBack", "()V"⟩, 18) := ⟨⟨by decide +kernel, by decide +kernel⟩, List.mem_of_getElem? (i := 1460) (by decide +kernel), List.mem_of_getElem? (i := 1931) (by decide +kernel), List.mem_of_getElem? (i := 1932) (by decide +kernel)⟩
def lw_privs_6 : List (MethodName × Nat) := [(⟨"PillowBargeModel", "readsDrill", "()Z"⟩, 18), (⟨"PillowBargeModel", "doesAll", "()Z"⟩, 18), (⟨"PillowBargeModel", "notNow", "()I"⟩, 18), (⟨"PillowBargeModel", "doesNow", "()I"⟩, 18), (⟨"PillowBargeModel", "goesBack", "()V"⟩, 18)]
theorem lw_r6 : ∀ q ∈ lw_privs_6, lw_okq q := List.forall_mem_cons.mpr ⟨lw_p80, List.forall_mem_cons.mpr ⟨lw_p81, List.forall_mem_cons.mpr ⟨lw_p82, List.forall_mem_cons.mpr ⟨lw_p83, List.forall_mem_cons.mpr ⟨lw_p84, fun _ h => absurd h List.not_mem_nil⟩⟩⟩⟩⟩
def lw_privs : List (MethodName × Nat) := lw_privs_1 ++ (lw_privs_2 ++ (lw_privs_3 ++ (lw_privs_4 ++ (lw_privs_5 ++ (lw_privs_6)))))
def lw_tbl : List Cond := k2_sels lw_privs ++ tables_1
theorem lw_privs_ok : ∀ q ∈ lw_privs, lw_okq q := by
  show ∀ q ∈ lw_privs_1 ++ (lw_privs_2 ++ (lw_privs_3 ++ (lw_privs_4 ++ (lw_privs_5 ++ (lw_privs_6))))), lw_okq q
  exact List.forall_mem_append.mpr ⟨lw_r1, List.forall_mem_append.mpr ⟨lw_r2, List.forall_mem_append.mpr ⟨lw_r3, List.forall_mem_append.mpr ⟨lw_r4, List.forall_mem_append.mpr ⟨lw_r5, lw_r6⟩⟩⟩⟩⟩
/-- the streams that the claim lets the run draw from -/
abbrev lw_cs : List Choice := [Jvm.Choice.named "NaN.bits"]
theorem lw_bits : nanBits ∈ lw_cs := by first | decide | exact List.mem_cons_self | simp [lw_cs, nanBits]
end
section
/-! AN ABSTRACT MACHINE over fixed objects: a reference is (which of its kind, kind); only ints, array contents, the text and the two out cells vary. -/
abbrev Rf : Type := Nat × Nat
abbrev AV : Type := Value ⊕ Rf
abbrev GS : Type := (Rf → Nat → Int32) × (Rf → Nat → Int32) × (Nat × (Nat → Int32)) × (Int64 × UInt64)
abbrev Out : Type := Option AV ⊕ Nat
abbrev Res : Type := Option (Out × GS)
abbrev Ls : Type := List (Option AV)
/-- an instruction, its length, what it names (a target, a field, a callee), the locals to forget, whether it is a cut, a switch's rows -/
abbrev En : Type := Instr × Nat × Nat × List Nat × Bool × List (Int32 × Nat)
abbrev Tb : Type := Nat → Option En
abbrev Kb : Type := Nat → Ls → List AV → GS → Res
abbrev Ks : Type := Nat → Ls → List AV → GS → Nat → Res
def gi (G : GS) (r : Rf) (f : Nat) : Int32 := G.1 r f
def ga (G : GS) (r : Rf) (i : Nat) : Int32 := G.2.1 r i
def gn (G : GS) : Nat := G.2.2.1.1
def gt (G : GS) (i : Nat) : Int32 := G.2.2.1.2 i
def go_ (G : GS) : Int64 := G.2.2.2.1
def gd_ (G : GS) : UInt64 := G.2.2.2.2
def si (G : GS) (r : Rf) (f : Nat) (v : Int32) : GS := (fun r' f' => if r' = r ∧ f' = f then v else G.1 r' f', G.2)
def sa (G : GS) (r : Rf) (i : Nat) (v : Int32) : GS := (G.1, fun r' i' => if r' = r ∧ i' = i then v else G.2.1 r' i', G.2.2)
def st_ (G : GS) (n : Nat) (t : Nat → Int32) : GS := (G.1, G.2.1, (n, t), G.2.2.2)
def so_ (G : GS) (v : Int64) : GS := (G.1, G.2.1, G.2.2.1, (v, G.2.2.2.2))
def sd_ (G : GS) (v : UInt64) : GS := (G.1, G.2.1, G.2.2.1, (G.2.2.2.1, v))
/-- kinds: .inl (class, fields), .inr (element type: 0 int 1 char 2 State 3 long 4 double, length) -/
def kd (k : Nat) : Option (Nat × Nat ⊕ Nat × Nat) := match k with
  | 0 => some (.inl (0, 9)) | 1 => some (.inl (1, 4)) | 2 => some (.inl (2, 5)) | 3 => some (.inl (3, 3)) | 4 => some (.inl (4, 5))
  | 5 => some (.inr (0, 7)) | 6 => some (.inr (0, 35)) | 7 => some (.inr (0, 35)) | 8 => some (.inr (0, 35)) | 9 => some (.inr (0, 35))
  | 10 => some (.inl (5, 3)) | 11 => some (.inr (2, 9)) | 12 => some (.inl (6, 6)) | 13 => some (.inr (1, 60)) | 14 => some (.inr (0, 15)) | 15 => some (.inr (0, 45))
  | 17 => some (.inr (0, 5)) | 18 => some (.inr (3, 1)) | 19 => some (.inr (4, 1))
  | 50 => some (.inl (7, 18)) | 51 => some (.inr (0, 156)) | 52 => some (.inr (0, 1248)) | 53 => some (.inr (0, 156)) | 54 => some (.inr (0, 156)) | 55 => some (.inr (1, 100)) | 56 => some (.inr (1, 60)) | 57 => some (.inr (0, 3))
  | _ => none
/-- the references that the fields hold, for good -/
def gr (r : Rf) (f : Nat) : Option Rf := match r.2 with
  | 0 => (match f with | 0 => some (0, 1) | 1 => some (0, 10) | 2 => some (1, 1) | 4 => some (0, 12) | 7 => some (0, 16) | 8 => some (0, 17) | _ => none)
  | 1 => (match f with | 0 => some (r.1, 2) | 1 => some (r.1, 3) | 2 => some (r.1, 4) | _ => none)
  | 2 => (match f with | 0 => some (r.1, 5) | 1 => some (r.1, 6) | 2 => some (r.1, 7) | 3 => some (r.1, 8) | 4 => some (r.1, 9) | _ => none)
  | 10 => (match f with | 0 => some (0, 11) | _ => none)
  | 12 => (match f with | 0 => some (0, 13) | 1 => some (0, 14) | 2 => some (0, 15) | _ => none)
  | 50 => (match f with | 1 => some (0, 51) | 2 => some (0, 52) | 3 => some (0, 53) | 4 => some (0, 54) | 8 => some (0, 55) | 10 => some (0, 56) | 15 => some (0, 57) | _ => none)
  | _ => none
def ai_kill : List Nat → Ls → Ls
  | [], ls => ls
  | k :: ks, ls => ai_kill ks (ls.set k none)
def ai_pop : Nat → List AV → List AV → Option (List AV × List AV)
  | 0, acc, st => some (acc, st)
  | n + 1, acc, v :: st => ai_pop n (v :: acc) st
  | _ + 1, _, [] => none
def ai_cat : AV → Nat
  | .inl v => v.category
  | .inr _ => 1
def ai_cats : List AV → Nat
  | [] => 0
  | v :: l => ai_cat v + ai_cats l
def oV (r : Out × GS) (k : GS → Res) (kx : Nat → GS → Res) : Res := match r.1 with
  | .inl none => k r.2
  | .inr e => kx e r.2
  | _ => none
def oI (r : Out × GS) (k : Int32 → GS → Res) (kx : Nat → GS → Res) : Res := match r.1 with
  | .inl (some (.inl (.int v))) => k v r.2
  | .inr e => kx e r.2
  | _ => none
def oF (r : Out × GS) (k : UInt32 → GS → Res) (kx : Nat → GS → Res) : Res := match r.1 with
  | .inl (some (.inl (.float v))) => k v r.2
  | .inr e => kx e r.2
  | _ => none
def oD (r : Out × GS) (k : UInt64 → GS → Res) (kx : Nat → GS → Res) : Res := match r.1 with
  | .inl (some (.inl (.double v))) => k v r.2
  | .inr e => kx e r.2
  | _ => none
/-- a reference of one kind, or null -/
def oQ (kn : Nat) (r : Out × GS) (k0 : GS → Res) (k : Nat → GS → Res) (kx : Nat → GS → Res) : Res := match r.1 with
  | .inl (some (.inl .null)) => k0 r.2
  | .inl (some (.inr q)) => bif Nat.beq q.2 kn then k q.1 r.2 else none
  | .inr e => kx e r.2
  | _ => none
def oR (kn : Nat) (r : Out × GS) (k : Nat → GS → Res) (kx : Nat → GS → Res) : Res := match r.1 with
  | .inl (some (.inr q)) => bif Nat.beq q.2 kn then k q.1 r.2 else none
  | .inr e => kx e r.2
  | _ => none
abbrev okI (v : Int32) (G : GS) : Res := some (.inl (some (.inl (.int v))), G)
abbrev okV (G : GS) : Res := some (.inl none, G)
abbrev okR (r : Rf) (G : GS) : Res := some (.inl (some (.inr r)), G)
abbrev okN (G : GS) : Res := some (.inl (some (.inl .null)), G)
abbrev okF (v : UInt32) (G : GS) : Res := some (.inl (some (.inl (.float v))), G)
abbrev okD (v : UInt64) (G : GS) : Res := some (.inl (some (.inl (.double v))), G)
abbrev exc (e : Nat) (G : GS) : Res := some (.inr e, G)
/-- a handler's rows: exception, handler's place, its first instruction's length and local -/
abbrev Hd : Type := List (Nat × Nat × Nat × Nat)
def ai_hs : Hd → Nat → (Nat × Nat × Nat → Res) → Res → Res
  | [], _, _, d => d
  | h :: hs, e, k, d => if e = h.1 then k h.2 else ai_hs hs e k d
def ai_sw : List (Int32 × Nat) → Int32 → (Nat → Res) → Nat → Res
  | [], _, k, d => k d
  | q :: qs, v, k, d => if v = q.1 then k q.2 else ai_sw qs v k d
def ai_call (call : Nat → List AV → GS → Res) (seg : Nat) (hd : Hd) (self : Ks) (pc x : Nat) (ls : Ls) (st : List AV) (G : GS) (u : Nat) : Res :=
  match ai_pop (x / 8 % 8) [] st with
  | none => none
  | some (as, rest) =>
    bif Nat.ble (u + x / 64 % 256) seg && Nat.ble (ai_cats rest) 8 then
      (call (x / 16384) as G).bind (fun r =>
        match x % 8 with
        | 0 => oV r (fun G1 => self (pc + 3) ls rest G1 (u + x / 64 % 256)) (fun e G1 => ai_hs hd e (fun h => self (h.1 + h.2.1) (ls.set h.2.2 none) [] G1 (u + x / 64 % 256)) (exc e G1))
        | 1 => oI r (fun v G1 => self (pc + 3) ls (.inl (.int v) :: rest) G1 (u + x / 64 % 256)) (fun e G1 => ai_hs hd e (fun h => self (h.1 + h.2.1) (ls.set h.2.2 none) [] G1 (u + x / 64 % 256)) (exc e G1))
        | 2 => oF r (fun v G1 => self (pc + 3) ls (.inl (.float v) :: rest) G1 (u + x / 64 % 256)) (fun e G1 => ai_hs hd e (fun h => self (h.1 + h.2.1) (ls.set h.2.2 none) [] G1 (u + x / 64 % 256)) (exc e G1))
        | 3 => oD r (fun v G1 => self (pc + 3) ls (.inl (.double v) :: rest) G1 (u + x / 64 % 256)) (fun e G1 => ai_hs hd e (fun h => self (h.1 + h.2.1) (ls.set h.2.2 none) [] G1 (u + x / 64 % 256)) (exc e G1))
        | 4 => oQ 1 r (fun G1 => self (pc + 3) ls (.inl .null :: rest) G1 (u + x / 64 % 256)) (fun q G1 => self (pc + 3) ls (.inr (q, 1) :: rest) G1 (u + x / 64 % 256)) (fun e G1 => ai_hs hd e (fun h => self (h.1 + h.2.1) (ls.set h.2.2 none) [] G1 (u + x / 64 % 256)) (exc e G1))
        | 5 => oR 200 r (fun q G1 => self (pc + 3) ls (.inr (q, 200) :: rest) G1 (u + x / 64 % 256)) (fun e G1 => ai_hs hd e (fun h => self (h.1 + h.2.1) (ls.set h.2.2 none) [] G1 (u + x / 64 % 256)) (exc e G1))
        | _ => oR 16 r (fun q G1 => self (pc + 3) ls (.inr (q, 16) :: rest) G1 (u + x / 64 % 256)) (fun e G1 => ai_hs hd e (fun h => self (h.1 + h.2.1) (ls.set h.2.2 none) [] G1 (u + x / 64 % 256)) (exc e G1)))
    else none
def ai_ld (self : Ks) (pc n i : Nat) (ls : Ls) (st : List AV) (G : GS) (u : Nat) : Res :=
  match ls[i]? with
  | some (some v) => self (pc + n) ls (v :: st) G u
  | _ => none
/-- a store of one word; the local below must not be a long or double -/
def ai_below : Nat → Ls → Bool
  | 0, _ => true
  | i + 1, ls => match ls[i]? with
    | some (some (.inl v)) => Nat.beq v.category 1
    | _ => true
def ai_sto (self : Ks) (pc n i : Nat) (ls : Ls) (v : AV) (st : List AV) (G : GS) (u : Nat) : Res :=
  bif ai_below i ls && Nat.blt i ls.length then self (pc + n) (ls.set i (some v)) st G u else none
/-- a store of two words -/
def ai_sto2 (self : Ks) (pc n i : Nat) (ls : Ls) (v : AV) (st : List AV) (G : GS) (u : Nat) : Res :=
  bif ai_below i ls && Nat.blt (i + 1) ls.length then self (pc + n) ((ls.set i (some v)).set (i + 1) none) st G u else none
def ai_if (cn : Jvm.ClassFile.Cond) (x : Int32) (t f : Res) : Res := match cn with
  | .eq => if x = 0 then t else f
  | .ne => if x = 0 then f else t
  | .lt => if x < 0 then t else f
  | .ge => if 0 ≤ x then t else f
  | .gt => if 0 < x then t else f
  | .le => if x ≤ 0 then t else f
def ai_icmp (cn : Jvm.ClassFile.Cond) (x y : Int32) (t f : Res) : Res := match cn with
  | .eq => if x = y then t else f
  | .ne => if x = y then f else t
  | .lt => if x < y then t else f
  | .ge => if y ≤ x then t else f
  | .gt => if y < x then t else f
  | .le => if x ≤ y then t else f
def ai_get (G : GS) (r : Rf) (x : Nat) (k : AV → Res) : Res := match kd r.2 with
  | some (.inl (c, n)) => bif Nat.beq c (x / 64) && Nat.blt (x / 2 % 32) n then (match gr r (x / 2 % 32) with
    | some q => k (.inr q)
    | none => k (.inl (.int (gi G r (x / 2 % 32))))) else none
  | _ => none
def ai_put (G : GS) (r : Rf) (x : Nat) (v : Int32) (k : GS → Res) : Res := match kd r.2 with
  | some (.inl (c, n)) => bif Nat.beq c (x / 64) && Nat.blt (x / 2 % 32) n then (match gr r (x / 2 % 32) with
    | some _ => none
    | none => bif Nat.beq (x % 2) 0 then k (si G r (x / 2 % 32) v) else if v = 0 ∨ v = 1 then k (si G r (x / 2 % 32) v) else none) else none
  | _ => none
def inb (i : Int32) (n : Nat) : Bool := !(decide (i < 0)) && Nat.blt i.toNatClampNeg n
def ai_ald (G : GS) (r : Rf) (ty : Nat) (i : Int32) (k : Int32 → Res) : Res := match kd r.2 with
  | some (.inr (t, n)) => bif Nat.beq t ty then (bif inb i n then k (ga G r i.toNatClampNeg) else none) else none
  | _ => none
def ai_ast (G : GS) (r : Rf) (ty : Nat) (i : Int32) (v : Int32) (k : GS → Res) : Res := match kd r.2 with
  | some (.inr (t, n)) => bif Nat.beq t ty then (bif inb i n then k (sa G r i.toNatClampNeg v) else none) else none
  | _ => none
def ai_step (T : Tb) (call : Nat → List AV → GS → Res) (hd : Nat → Hd) (seg : Nat) (self : Ks) (pc : Nat) (e : En) (ls0 : Ls) (st : List AV) (G : GS) (u : Nat) : Res :=
  match e with
  | (i, n, x, ks, _, sw) =>
  match i with
  | .aload_n k => ai_ld self pc n k.val (ai_kill ks ls0) st G u
  | .aload k => ai_ld self pc n k (ai_kill ks ls0) st G u
  | .iload_n k => ai_ld self pc n k.val (ai_kill ks ls0) st G u
  | .iload k => ai_ld self pc n k (ai_kill ks ls0) st G u
  | .istore_n k => (match st with | v :: st => ai_sto self pc n k.val (ai_kill ks ls0) v st G u | _ => none)
  | .istore k => (match st with | v :: st => ai_sto self pc n k (ai_kill ks ls0) v st G u | _ => none)
  | .astore_n k => (match st with | v :: st => ai_sto self pc n k.val (ai_kill ks ls0) v st G u | _ => none)
  | .astore k => (match st with | v :: st => ai_sto self pc n k (ai_kill ks ls0) v st G u | _ => none)
  | .iconst c => self (pc + n) (ai_kill ks ls0) (.inl (.int (Int32.ofInt c)) :: st) G u
  | .bipush c => self (pc + n) (ai_kill ks ls0) (.inl (.int (Int8.ofInt c).toInt32) :: st) G u
  | .sipush c => self (pc + n) (ai_kill ks ls0) (.inl (.int (Int16.ofInt c).toInt32) :: st) G u
  | .aconst_null => self (pc + n) (ai_kill ks ls0) (.inl .null :: st) G u
  | .lconst c => self (pc + n) (ai_kill ks ls0) (.inl (.long (Int64.ofNat c.val)) :: st) G u
  | .ldc _ => (match x with
    | 0 => self (pc + n) (ai_kill ks ls0) (.inl (.float 1110704128) :: st) G u
    | k + 1 => self (pc + n) (ai_kill ks ls0) (.inr (k, 200) :: st) G u)
  | .dup => (match st with | v :: st => bif Nat.beq (ai_cat v) 1 then self (pc + n) (ai_kill ks ls0) (v :: v :: st) G u else none | _ => none)
  | .dup2 => (match st with | v :: w :: st => bif Nat.beq (ai_cat v) 1 && Nat.beq (ai_cat w) 1 then self (pc + n) (ai_kill ks ls0) (v :: w :: v :: w :: st) G u else none | _ => none)
  | .pop => (match st with | v :: st => bif Nat.beq (ai_cat v) 1 then self (pc + n) (ai_kill ks ls0) st G u else none | _ => none)
  | .iadd => (match st with | .inl (.int b) :: .inl (.int a) :: st => self (pc + n) (ai_kill ks ls0) (.inl (.int (a + b)) :: st) G u | _ => none)
  | .isub => (match st with | .inl (.int b) :: .inl (.int a) :: st => self (pc + n) (ai_kill ks ls0) (.inl (.int (a - b)) :: st) G u | _ => none)
  | .imul => (match st with | .inl (.int b) :: .inl (.int a) :: st => self (pc + n) (ai_kill ks ls0) (.inl (.int (a * b)) :: st) G u | _ => none)
  | .iand => (match st with | .inl (.int b) :: .inl (.int a) :: st => self (pc + n) (ai_kill ks ls0) (.inl (.int (a &&& b)) :: st) G u | _ => none)
  | .idiv => (match st with | .inl (.int b) :: .inl (.int a) :: st => if b = 0 then none else self (pc + n) (ai_kill ks ls0) (.inl (.int (a / b)) :: st) G u | _ => none)
  | .irem => (match st with | .inl (.int b) :: .inl (.int a) :: st => if b = 0 then none else self (pc + n) (ai_kill ks ls0) (.inl (.int (a - a / b * b)) :: st) G u | _ => none)
  | .ineg => (match st with | .inl (.int a) :: st => self (pc + n) (ai_kill ks ls0) (.inl (.int (-a)) :: st) G u | _ => none)
  | .iinc k c => (match (ai_kill ks ls0)[k]? with
    | some (some (.inl (.int a))) => ai_sto self pc n k (ai_kill ks ls0) (.inl (.int (a + Int32.ofInt c))) st G u
    | _ => none)
  | .i2c => (match st with | .inl (.int a) :: st => self (pc + n) (ai_kill ks ls0) (.inl (.int (a.toUInt32 % 65536).toInt32) :: st) G u | _ => none)
  | .i2l => (match st with | .inl (.int a) :: st => self (pc + n) (ai_kill ks ls0) (.inl (.long a.toInt64) :: st) G u | _ => none)
  | .i2f => (match st with | .inl (.int a) :: st => self (pc + n) (ai_kill ks ls0) (.inl (.float (FP.i2f a)) :: st) G u | _ => none)
  | .i2d => (match st with | .inl (.int a) :: st => self (pc + n) (ai_kill ks ls0) (.inl (.double (FP.i2d a)) :: st) G u | _ => none)
  | .f2d => (match st with | .inl (.float a) :: st => if (FP.f2d a) &&& 0x7fffffffffffffff ≤ 0x7ff0000000000000 then self (pc + n) (ai_kill ks ls0) (.inl (.double (FP.f2d a)) :: st) G u else none | _ => none)
  | .fmul => (match st with | .inl (.float b) :: .inl (.float a) :: st => if (FP.fmul a b) &&& 0x7fffffff ≤ 0x7f800000 then self (pc + n) (ai_kill ks ls0) (.inl (.float (FP.fmul a b)) :: st) G u else none | _ => none)
  | .fdiv => (match st with | .inl (.float b) :: .inl (.float a) :: st => if (FP.fdiv a b) &&& 0x7fffffff ≤ 0x7f800000 then self (pc + n) (ai_kill ks ls0) (.inl (.float (FP.fdiv a b)) :: st) G u else none | _ => none)
  | .ddiv => (match st with | .inl (.double b) :: .inl (.double a) :: st => if (FP.ddiv a b) &&& 0x7fffffffffffffff ≤ 0x7ff0000000000000 then self (pc + n) (ai_kill ks ls0) (.inl (.double (FP.ddiv a b)) :: st) G u else none | _ => none)
  | .fcmp op => (match st with | .inl (.float b) :: .inl (.float a) :: st => self (pc + n) (ai_kill ks ls0) (.inl (.int (Op.cmpValue (FP.fcmp a b) op)) :: st) G u | _ => none)
  | .dcmp op => (match st with | .inl (.double b) :: .inl (.double a) :: st => self (pc + n) (ai_kill ks ls0) (.inl (.int (Op.cmpValue (FP.dcmp a b) op)) :: st) G u | _ => none)
  | .lcmp => (match st with | .inl (.long b) :: .inl (.long a) :: st => self (pc + n) (ai_kill ks ls0) (.inl (.int (lg_cmp a b)) :: st) G u | _ => none)
  | .fload k => ai_ld self pc n k (ai_kill ks ls0) st G u
  | .dload k => ai_ld self pc n k (ai_kill ks ls0) st G u
  | .fstore k => (match st with | v :: st => ai_sto self pc n k (ai_kill ks ls0) v st G u | _ => none)
  | .dstore k => (match st with | v :: st => ai_sto2 self pc n k (ai_kill ks ls0) v st G u | _ => none)
  | .ifCond c _ => (match st with | .inl (.int a) :: st => ai_if c a (self x (ai_kill ks ls0) st G u) (self (pc + n) (ai_kill ks ls0) st G u) | _ => none)
  | .if_icmp c _ => (match st with | .inl (.int b) :: .inl (.int a) :: st => ai_icmp c a b (self x (ai_kill ks ls0) st G u) (self (pc + n) (ai_kill ks ls0) st G u) | _ => none)
  | .goto _ => self x (ai_kill ks ls0) st G u
  | .ifnull _ => (match st with | .inl .null :: st => self x (ai_kill ks ls0) st G u | .inr _ :: st => self (pc + n) (ai_kill ks ls0) st G u | _ => none)
  | .tableswitch _ _ _ _ => (match st with | .inl (.int a) :: st => ai_sw sw a (fun y => self y (ai_kill ks ls0) st G u) x | _ => none)
  | .lookupswitch _ _ => (match st with | .inl (.int a) :: st => ai_sw sw a (fun y => self y (ai_kill ks ls0) st G u) x | _ => none)
  | .getfield _ => (match st with | .inr r :: st => ai_get G r x (fun v => self (pc + n) (ai_kill ks ls0) (v :: st) G u) | _ => none)
  | .putfield _ => (match st with | .inl (.int v) :: .inr r :: st => ai_put G r x v (fun G1 => self (pc + n) (ai_kill ks ls0) st G1 u) | _ => none)
  | .iaload => (match st with
    | .inl (.int j) :: .inr (0, 250) :: st => bif inb j (gi G (0, 250) 0).toNatClampNeg then self (pc + n) (ai_kill ks ls0) (.inl (.int (ga G (0, 250) j.toNatClampNeg)) :: st) G u else none
    | .inl (.int j) :: .inr r :: st => ai_ald G r 0 j (fun v => self (pc + n) (ai_kill ks ls0) (.inl (.int v) :: st) G u) | _ => none)
  | .caload => (match st with | .inl (.int j) :: .inr r :: st => ai_ald G r 1 j (fun v => self (pc + n) (ai_kill ks ls0) (.inl (.int v) :: st) G u) | _ => none)
  | .aaload => (match st with | .inl (.int j) :: .inr (_, 11) :: st => bif inb j 9 then self (pc + n) (ai_kill ks ls0) (.inr (j.toNatClampNeg + 2, 1) :: st) G u else none | _ => none)
  | .laload => (match st with | .inl (.int j) :: .inr (0, 18) :: st => bif inb j 1 then self (pc + n) (ai_kill ks ls0) (.inl (.long (go_ G)) :: st) G u else none | _ => none)
  | .daload => (match st with | .inl (.int j) :: .inr (0, 19) :: st => bif inb j 1 then self (pc + n) (ai_kill ks ls0) (.inl (.double (gd_ G)) :: st) G u else none | _ => none)
  | .iastore => (match st with | .inl (.int v) :: .inl (.int j) :: .inr r :: st => ai_ast G r 0 j v (fun G1 => self (pc + n) (ai_kill ks ls0) st G1 u) | _ => none)
  | .castore => (match st with | .inl (.int v) :: .inl (.int j) :: .inr r :: st => ai_ast G r 1 j (vp_nar .char v) (fun G1 => self (pc + n) (ai_kill ks ls0) st G1 u) | _ => none)
  | .lastore => (match st with | .inl (.long v) :: .inl (.int j) :: .inr (0, 18) :: st => bif inb j 1 then self (pc + n) (ai_kill ks ls0) st (so_ G v) u else none | _ => none)
  | .dastore => (match st with | .inl (.double v) :: .inl (.int j) :: .inr (0, 19) :: st => bif inb j 1 then self (pc + n) (ai_kill ks ls0) st (sd_ G v) u else none | _ => none)
  | .arraylength => (match st with
    | .inr (0, 250) :: st => self (pc + n) (ai_kill ks ls0) (.inl (.int (gi G (0, 250) 0)) :: st) G u
    | .inr r :: st => (match kd r.2 with
      | some (.inr (_, m)) => self (pc + n) (ai_kill ks ls0) (.inl (.int (Int32.ofNat m)) :: st) G u
      | _ => none)
    | _ => none)
  | .invokevirtual _ => ai_call call seg (hd pc) self pc x (ai_kill ks ls0) st G u
  | .invokestatic _ => ai_call call seg (hd pc) self pc x (ai_kill ks ls0) st G u
  | .new _ => exc x G
  | .ireturn => (match st with | [.inl (.int v)] => okI v G | _ => none)
  | .areturn => (match st with | [.inr q] => okR q G | [.inl .null] => okN G | _ => none)
  | .freturn => (match st with | [.inl (.float v)] => okF v G | _ => none)
  | .dreturn => (match st with | [.inl (.double v)] => okD v G | _ => none)
  | .return_ => (match st with | [] => okV G | _ => none)
  | _ => none
def ai_run (T : Tb) (call : Nat → List AV → GS → Res) (hd : Nat → Hd) (seg : Nat) (back : Kb) : Nat → Ks
  | 0 => fun _ _ _ _ _ => none
  | k + 1 => fun pc ls st G u => match T pc with
    | none => none
    | some e => bif e.2.2.2.2.1 then back pc (ai_kill e.2.2.2.1 ls) st G else ai_step T call hd seg (ai_run T call hd seg back k) pc e ls st G u
end
section
/-! Every method as a function (printed by gen/emit.py from the class files). -/
def D_abs (x : Int32) (G : GS) : Res := okI (if x < 0 then -x else x) G
def D_max (x y : Int32) (G : GS) : Res := okI (if x < y then y else x) G
def D_min (x y : Int32) (G : GS) : Res := okI (if y < x then y else x) G
def D_fmod (x y : Int32) (G : GS) : Res := if y = 0 then none else okI (if (x - x / y * y) ^^^ y < 0 ∧ ¬ x - x / y * y = 0 then x - x / y * y + y else x - x / y * y) G
/-- whole int arrays alone: from their beginning -/
def D_acopy (a : Rf) (p : Int32) (b : Rf) (q n : Int32) (G : GS) : Res := match kd a.2, kd b.2 with
  | some (.inr (0, m1)), some (.inr (0, m2)) => if p = 0 ∧ q = 0 ∧ ¬ n < 0 ∧ n.toNatClampNeg ≤ m1 ∧ n.toNatClampNeg ≤ m2 then okV (G.1, (fun r i => if r = b then (if i < n.toNatClampNeg then ga G a i else ga G b i) else G.2.1 r i), G.2.2) else none
  | _, _ => none
def jS : List (List Int32) := [[108, 111, 97, 100, 32], [117, 110, 108, 111, 97, 100, 32], [115, 104, 105, 102, 116, 32], [115, 97, 105, 108], [116, 117, 114, 110], [108, 105, 109, 105, 116, 32], [100, 114, 105, 108, 108, 32]]
def D_slen (k : Nat) (G : GS) : Res := if k < 7 then okI (Int32.ofNat (jS.getD k []).length) G else none
def D_sat (k : Nat) (i : Int32) (G : GS) : Res := if k < 7 then (bif inb i (jS.getD k []).length then okI ((jS.getD k []).getD i.toNatClampNeg 0) G else none) else none
/-- the text: at most 48 letters -/
def D_bapc (c : Int32) (G : GS) : Res := if ¬ c < 0 ∧ c < 128 ∧ gn G < 48 then okR (0, 16) (st_ G (gn G + 1) (fun i => if i = gn G then c else gt G i)) else none
/-- a number's letters -/
def dg0 (n : Nat) : List Int32 := if n < 10 then [Int32.ofNat (48 + n)] else if n < 100 then [Int32.ofNat (48 + n / 10), Int32.ofNat (48 + n % 10)] else [Int32.ofNat (48 + n / 100), Int32.ofNat (48 + n / 10 % 10), Int32.ofNat (48 + n % 10)]
def dg_ (v : Int32) : List Int32 := if v < 0 then 45 :: dg0 v.toInt.natAbs else dg0 v.toInt.natAbs
def D_bapi (v : Int32) (G : GS) : Res := if -1000 < v ∧ v < 1000 ∧ gn G < 44 then okR (0, 16) (st_ G (gn G + (dg_ v).length) (fun i => if i < gn G then gt G i else (dg_ v).getD (i - gn G) 0)) else none
def D_blen (G : GS) : Res := okI (Int32.ofNat (gn G)) G
def D_bset (n : Int32) (G : GS) : Res := if n = 0 then okV (st_ G 0 (gt G)) else none
def D_bat (i : Int32) (G : GS) : Res := bif inb i (gn G) then okI (gt G i.toNatClampNeg) G else none
def D_Cargo_copyFrom (j : Nat) (a0 : Nat) (G : GS) : Res :=
  (D_acopy (a0, 5) (0 : Int32) (j, 5) (0 : Int32) (7 : Int32) G).bind (fun r => oV r (fun G1 =>
  (D_acopy (a0, 6) (0 : Int32) (j, 6) (0 : Int32) (35 : Int32) G1).bind (fun r => oV r (fun G4 =>
  (D_acopy (a0, 7) (0 : Int32) (j, 7) (0 : Int32) (35 : Int32) G4).bind (fun r => oV r (fun G7 =>
  (D_acopy (a0, 8) (0 : Int32) (j, 8) (0 : Int32) (35 : Int32) G7).bind (fun r => oV r (fun G10 =>
  (D_acopy (a0, 9) (0 : Int32) (j, 9) (0 : Int32) (35 : Int32) G10).bind (fun r => oV r (fun G13 =>
  okV G13) exc)) exc)) exc)) exc)) exc)
def D_PB_isBay (a0 : Int32) (G : GS) : Res :=
  if a0 < 0 then
    okI (0 : Int32) G
  else
    if (7 : Int32) ≤ a0 then
      okI (0 : Int32) G
    else
      okI (1 : Int32) G
def D_Cargo_heightOf (j : Nat) (a0 : Int32) (G : GS) : Res :=
  (D_PB_isBay a0 G).bind (fun r => oI r (fun v4 G1 =>
  if v4 = 0 then
    okI (0 : Int32) G1
  else
    bif inb a0 7 then
    okI (ga G1 (j, 5) a0.toNatClampNeg) G1
    else none) exc)
def D_Cargo_isTaken (j : Nat) (a0 : Int32) (G : GS) : Res :=
  if a0 < 0 then
    okI (0 : Int32) G
  else
    if (35 : Int32) ≤ a0 then
      okI (0 : Int32) G
    else
      bif inb (a0 / (5 : Int32)) 7 then
      if (ga G (j, 5) (a0 / (5 : Int32)).toNatClampNeg) ≤ (a0 - a0 / (5 : Int32) * (5 : Int32)) then
        okI (0 : Int32) G
      else
        okI (1 : Int32) G
      else none
def D_Cargo_slotAt (j : Nat) (a0 : Int32) (a1 : Int32) (G : GS) : Res :=
  (D_PB_isBay a0 G).bind (fun r => oI r (fun v4 G1 =>
  if v4 = 0 then
    okI (-1 : Int32) G1
  else
    if a1 < 0 then
      okI (-1 : Int32) G1
    else
      if a1 < (5 : Int32) then
        (D_Cargo_isTaken j ((a0 * (5 : Int32)) + a1) G1).bind (fun r => oI r (fun v8 G5 =>
        if v8 = 0 then
          okI (-1 : Int32) G5
        else
          okI ((a0 * (5 : Int32)) + a1) G5) exc)
      else
        okI (-1 : Int32) G1) exc)
def D_Cargo_topSlot (j : Nat) (a0 : Int32) (G : GS) : Res :=
  (D_Cargo_heightOf j a0 G).bind (fun r => oI r (fun v4 G1 =>
  (D_Cargo_slotAt j a0 (v4 - (1 : Int32)) G1).bind (fun r => oI r (fun v8 G5 =>
  okI v8 G5) exc)) exc)
def L_Cargo_slotOf : Nat → Nat → Int32 → Int32 → GS → Res
  | 0 => fun _ _ _ _ => none
  | k + 1 => fun x0 x1 x2 G =>
    if (35 : Int32) ≤ x2 then
      okI (-1 : Int32) G
    else
      (D_Cargo_isTaken x0 x2 G).bind (fun r => oI r (fun v4 G1 =>
      if v4 = 0 then
        (L_Cargo_slotOf k) x0 x1 (x2 + (1 : Int32)) G1
      else
        bif inb x2 35 then
        if (ga G1 (x0, 6) x2.toNatClampNeg) = x1 then
          okI x2 G1
        else
          (L_Cargo_slotOf k) x0 x1 (x2 + (1 : Int32)) G1
        else none) exc)
def D_Cargo_slotOf (j : Nat) (a0 : Int32) (G : GS) : Res :=
  (L_Cargo_slotOf 2000) j a0 (0 : Int32) G
def D_PB_isSlot (a0 : Int32) (G : GS) : Res :=
  if a0 < 0 then
    okI (0 : Int32) G
  else
    if (35 : Int32) ≤ a0 then
      okI (0 : Int32) G
    else
      okI (1 : Int32) G
def D_Cargo_numberIn (j : Nat) (a0 : Int32) (G : GS) : Res :=
  (D_PB_isSlot a0 G).bind (fun r => oI r (fun v4 G1 =>
  if v4 = 0 then
    okI (0 : Int32) G1
  else
    bif inb a0 35 then
    okI (ga G1 (j, 6) a0.toNatClampNeg) G1
    else none) exc)
def D_Cargo_weightIn (j : Nat) (a0 : Int32) (G : GS) : Res :=
  (D_PB_isSlot a0 G).bind (fun r => oI r (fun v4 G1 =>
  if v4 = 0 then
    okI (0 : Int32) G1
  else
    bif inb a0 35 then
    okI (ga G1 (j, 7) a0.toNatClampNeg) G1
    else none) exc)
def D_Cargo_destinationIn (j : Nat) (a0 : Int32) (G : GS) : Res :=
  (D_PB_isSlot a0 G).bind (fun r => oI r (fun v4 G1 =>
  if v4 = 0 then
    okI (0 : Int32) G1
  else
    bif inb a0 35 then
    okI (ga G1 (j, 8) a0.toNatClampNeg) G1
    else none) exc)
def D_Cargo_dayIn (j : Nat) (a0 : Int32) (G : GS) : Res :=
  (D_PB_isSlot a0 G).bind (fun r => oI r (fun v4 G1 =>
  if v4 = 0 then
    okI (0 : Int32) G1
  else
    bif inb a0 35 then
    okI (ga G1 (j, 9) a0.toNatClampNeg) G1
    else none) exc)
def L_Cargo_countPillows : Nat → Nat → Int32 → Int32 → GS → Res
  | 0 => fun _ _ _ _ => none
  | k + 1 => fun x0 x1 x2 G =>
    if (7 : Int32) ≤ x2 then
      okI x1 G
    else
      bif inb x2 7 then
      (L_Cargo_countPillows k) x0 (x1 + (ga G (x0, 5) x2.toNatClampNeg)) (x2 + (1 : Int32)) G
      else none
def D_Cargo_countPillows (j : Nat) (G : GS) : Res :=
  (L_Cargo_countPillows 2000) j (0 : Int32) (0 : Int32) G
def L_Cargo_weightOfAll : Nat → Nat → Int32 → Int32 → GS → Res
  | 0 => fun _ _ _ _ => none
  | k + 1 => fun x0 x1 x2 G =>
    if (35 : Int32) ≤ x2 then
      okI x1 G
    else
      (D_Cargo_isTaken x0 x2 G).bind (fun r => oI r (fun v4 G1 =>
      if v4 = 0 then
        (L_Cargo_weightOfAll k) x0 x1 (x2 + (1 : Int32)) G1
      else
        bif inb x2 35 then
        (L_Cargo_weightOfAll k) x0 (x1 + (ga G1 (x0, 7) x2.toNatClampNeg)) (x2 + (1 : Int32)) G1
        else none) exc)
def D_Cargo_weightOfAll (j : Nat) (G : GS) : Res :=
  (L_Cargo_weightOfAll 2000) j (0 : Int32) (0 : Int32) G
def L_Cargo_weightForPort : Nat → Nat → Int32 → Int32 → Int32 → GS → Res
  | 0 => fun _ _ _ _ _ => none
  | k + 1 => fun x0 x1 x2 x3 G =>
    if (35 : Int32) ≤ x3 then
      okI x2 G
    else
      (D_Cargo_isTaken x0 x3 G).bind (fun r => oI r (fun v4 G1 =>
      if v4 = 0 then
        (L_Cargo_weightForPort k) x0 x1 x2 (x3 + (1 : Int32)) G1
      else
        bif inb x3 35 then
        if (ga G1 (x0, 8) x3.toNatClampNeg) = x1 then
          bif inb x3 35 then
          (L_Cargo_weightForPort k) x0 x1 (x2 + (ga G1 (x0, 7) x3.toNatClampNeg)) (x3 + (1 : Int32)) G1
          else none
        else
          (L_Cargo_weightForPort k) x0 x1 x2 (x3 + (1 : Int32)) G1
        else none) exc)
def D_Cargo_weightForPort (j : Nat) (a0 : Int32) (G : GS) : Res :=
  (L_Cargo_weightForPort 2000) j a0 (0 : Int32) (0 : Int32) G
def L_Cargo_weightOfBay : Nat → Nat → Int32 → Int32 → Int32 → GS → Res
  | 0 => fun _ _ _ _ _ => none
  | k + 1 => fun x0 x1 x2 x3 G =>
    if (5 : Int32) ≤ x3 then
      okI x2 G
    else
      (D_Cargo_slotAt x0 x1 x3 G).bind (fun r => oI r (fun v4 G1 =>
      (D_PB_isSlot v4 G1).bind (fun r => oI r (fun v8 G5 =>
      if v8 = 0 then
        (L_Cargo_weightOfBay k) x0 x1 x2 (x3 + (1 : Int32)) G5
      else
        bif inb v4 35 then
        (L_Cargo_weightOfBay k) x0 x1 (x2 + (ga G5 (x0, 7) v4.toNatClampNeg)) (x3 + (1 : Int32)) G5
        else none) exc)) exc)
def D_Cargo_weightOfBay (j : Nat) (a0 : Int32) (G : GS) : Res :=
  (L_Cargo_weightOfBay 2000) j a0 (0 : Int32) (0 : Int32) G
def D_PB_leverArm (a0 : Int32) (G : GS) : Res :=
  okI (a0 - (3 : Int32)) G
def L_Cargo_momentOfPillows : Nat → Nat → Int32 → Int32 → GS → Res
  | 0 => fun _ _ _ _ => none
  | k + 1 => fun x0 x1 x2 G =>
    if (35 : Int32) ≤ x2 then
      okI x1 G
    else
      (D_Cargo_isTaken x0 x2 G).bind (fun r => oI r (fun v4 G1 =>
      if v4 = 0 then
        (L_Cargo_momentOfPillows k) x0 x1 (x2 + (1 : Int32)) G1
      else
        bif inb x2 35 then
        (D_PB_leverArm (x2 / (5 : Int32)) G1).bind (fun r => oI r (fun v8 G5 =>
        (L_Cargo_momentOfPillows k) x0 (x1 + ((ga G1 (x0, 7) x2.toNatClampNeg) * v8)) (x2 + (1 : Int32)) G5) exc)
        else none) exc)
def D_Cargo_momentOfPillows (j : Nat) (G : GS) : Res :=
  (L_Cargo_momentOfPillows 2000) j (0 : Int32) (0 : Int32) G
def L_Cargo_momentOfBays : Nat → Nat → Int32 → Int32 → GS → Res
  | 0 => fun _ _ _ _ => none
  | k + 1 => fun x0 x1 x2 G =>
    if (7 : Int32) ≤ x2 then
      okI x1 G
    else
      (D_Cargo_weightOfBay x0 x2 G).bind (fun r => oI r (fun v4 G1 =>
      (D_PB_leverArm x2 G1).bind (fun r => oI r (fun v8 G5 =>
      (L_Cargo_momentOfBays k) x0 (x1 + (v4 * v8)) (x2 + (1 : Int32)) G5) exc)) exc)
def D_Cargo_momentOfBays (j : Nat) (G : GS) : Res :=
  (L_Cargo_momentOfBays 2000) j (0 : Int32) (0 : Int32) G
def D_Cargo_put (j : Nat) (a0 : Int32) (a1 : Int32) (a2 : Int32) (a3 : Int32) (a4 : Int32) (G : GS) : Res :=
  (D_Cargo_heightOf j a0 G).bind (fun r => oI r (fun v4 G1 =>
  (D_PB_isBay a0 G1).bind (fun r => oI r (fun v8 G5 =>
  if v8 = 0 then
    okV G5
  else
    if (5 : Int32) ≤ v4 then
      okV G5
    else
      (D_PB_isSlot ((a0 * (5 : Int32)) + v4) G5).bind (fun r => oI r (fun v12 G9 =>
      if v12 = 0 then
        okV G9
      else
        bif inb ((a0 * (5 : Int32)) + v4) 35 then
        bif inb ((a0 * (5 : Int32)) + v4) 35 then
        bif inb ((a0 * (5 : Int32)) + v4) 35 then
        bif inb ((a0 * (5 : Int32)) + v4) 35 then
        bif inb a0 7 then
        okV (sa (sa (sa (sa (sa G9 (j, 6) ((a0 * (5 : Int32)) + v4).toNatClampNeg a1) (j, 7) ((a0 * (5 : Int32)) + v4).toNatClampNeg a2) (j, 8) ((a0 * (5 : Int32)) + v4).toNatClampNeg a3) (j, 9) ((a0 * (5 : Int32)) + v4).toNatClampNeg a4) (j, 5) a0.toNatClampNeg (v4 + (1 : Int32)))
        else none
        else none
        else none
        else none
        else none) exc)) exc)) exc)
def D_Cargo_removeTop (j : Nat) (a0 : Int32) (G : GS) : Res :=
  (D_PB_isBay a0 G).bind (fun r => oI r (fun v4 G1 =>
  if v4 = 0 then
    okV G1
  else
    bif inb a0 7 then
    if (ga G1 (j, 5) a0.toNatClampNeg) ≤ 0 then
      okV G1
    else
      bif inb a0 7 then
      bif inb a0 7 then
      okV (sa G1 (j, 5) a0.toNatClampNeg ((ga G1 (j, 5) a0.toNatClampNeg) - (1 : Int32)))
      else none
      else none
    else none) exc)
def D_History_placeAt (a0 : Int32) (G : GS) : Res :=
  if a0 < 0 then
    okN G
  else
    if (9 : Int32) ≤ a0 then
      okN G
    else
      bif inb a0 9 then
      okR ((a0.toNatClampNeg + 2), 1) G
      else none
def D_Voyage_copyFrom (j : Nat) (a0 : Nat) (G : GS) : Res :=
  if (gi (si (si G (j, 3) 0 (gi G (a0, 3) 0)) (j, 3) 1 (gi (si G (j, 3) 0 (gi G (a0, 3) 0)) (a0, 3) 1)) (a0, 3) 2) = 0 ∨ (gi (si (si G (j, 3) 0 (gi G (a0, 3) 0)) (j, 3) 1 (gi (si G (j, 3) 0 (gi G (a0, 3) 0)) (a0, 3) 1)) (a0, 3) 2) = 1 then
  okV (si (si (si G (j, 3) 0 (gi G (a0, 3) 0)) (j, 3) 1 (gi (si G (j, 3) 0 (gi G (a0, 3) 0)) (a0, 3) 1)) (j, 3) 2 (gi (si (si G (j, 3) 0 (gi G (a0, 3) 0)) (j, 3) 1 (gi (si G (j, 3) 0 (gi G (a0, 3) 0)) (a0, 3) 1)) (a0, 3) 2))
  else none
def D_Tally_copyFrom (j : Nat) (a0 : Nat) (G : GS) : Res :=
  okV (si (si (si (si (si G (j, 4) 0 (gi G (a0, 4) 0)) (j, 4) 1 (gi (si G (j, 4) 0 (gi G (a0, 4) 0)) (a0, 4) 1)) (j, 4) 2 (gi (si (si G (j, 4) 0 (gi G (a0, 4) 0)) (j, 4) 1 (gi (si G (j, 4) 0 (gi G (a0, 4) 0)) (a0, 4) 1)) (a0, 4) 2)) (j, 4) 3 (gi (si (si (si G (j, 4) 0 (gi G (a0, 4) 0)) (j, 4) 1 (gi (si G (j, 4) 0 (gi G (a0, 4) 0)) (a0, 4) 1)) (j, 4) 2 (gi (si (si G (j, 4) 0 (gi G (a0, 4) 0)) (j, 4) 1 (gi (si G (j, 4) 0 (gi G (a0, 4) 0)) (a0, 4) 1)) (a0, 4) 2)) (a0, 4) 3)) (j, 4) 4 (gi (si (si (si (si G (j, 4) 0 (gi G (a0, 4) 0)) (j, 4) 1 (gi (si G (j, 4) 0 (gi G (a0, 4) 0)) (a0, 4) 1)) (j, 4) 2 (gi (si (si G (j, 4) 0 (gi G (a0, 4) 0)) (j, 4) 1 (gi (si G (j, 4) 0 (gi G (a0, 4) 0)) (a0, 4) 1)) (a0, 4) 2)) (j, 4) 3 (gi (si (si (si G (j, 4) 0 (gi G (a0, 4) 0)) (j, 4) 1 (gi (si G (j, 4) 0 (gi G (a0, 4) 0)) (a0, 4) 1)) (j, 4) 2 (gi (si (si G (j, 4) 0 (gi G (a0, 4) 0)) (j, 4) 1 (gi (si G (j, 4) 0 (gi G (a0, 4) 0)) (a0, 4) 1)) (a0, 4) 2)) (a0, 4) 3)) (a0, 4) 4))
def D_State_copyFrom (j : Nat) (a0 : Nat) (G : GS) : Res :=
  (D_Cargo_copyFrom j a0 G).bind (fun r => oV r (fun G1 =>
  (D_Voyage_copyFrom j a0 G1).bind (fun r => oV r (fun G4 =>
  (D_Tally_copyFrom j a0 G4).bind (fun r => oV r (fun G7 =>
  okV (si G7 (j, 1) 3 (gi G7 (a0, 1) 3))) exc)) exc)) exc)
def D_History_draft (a0 : Nat) (G : GS) : Res :=
  (D_History_placeAt (gi G (0, 10) 1) G).bind (fun r => oQ 1 r (fun G1 =>
    okV G1) (fun q4 G1 =>
    (D_State_copyFrom q4 a0 G1).bind (fun r => oV r (fun G5 =>
    okV G5) exc)) exc)
def D_History_keepDraft (G : GS) : Res :=
  (D_fmod ((gi G (0, 10) 1) + (1 : Int32)) (9 : Int32) G).bind (fun r => oI r (fun v4 G1 =>
  (D_min ((gi (si G1 (0, 10) 1 v4) (0, 10) 2) + (1 : Int32)) (8 : Int32) (si G1 (0, 10) 1 v4)).bind (fun r => oI r (fun v8 G5 =>
  okV (si G5 (0, 10) 2 v8)) exc)) exc)
def D_History_takeDraftBack (a0 : Nat) (G : GS) : Res :=
  (D_History_placeAt (gi G (0, 10) 1) G).bind (fun r => oQ 1 r (fun G1 =>
    okV G1) (fun q4 G1 =>
    (D_State_copyFrom a0 q4 G1).bind (fun r => oV r (fun G5 =>
    okV G5) exc)) exc)
def D_History_takeLatestBack (a0 : Nat) (G : GS) : Res :=
  (D_fmod ((gi G (0, 10) 1) - (1 : Int32)) (9 : Int32) G).bind (fun r => oI r (fun v4 G1 =>
  (D_History_takeDraftBack a0 (si (si G1 (0, 10) 1 v4) (0, 10) 2 ((gi (si G1 (0, 10) 1 v4) (0, 10) 2) - (1 : Int32)))).bind (fun r => oV r (fun G5 =>
  okV G5) exc)) exc)
def D_History_forget (G : GS) : Res :=
  okV (si G (0, 10) 2 (0 : Int32))
def D_Script_isFull (G : GS) : Res :=
  if (gi G (0, 12) 3) < (60 : Int32) then
    okI (0 : Int32) G
  else
    okI (1 : Int32) G
def D_Script_append (a0 : Int32) (G : GS) : Res :=
  if (gi G (0, 12) 3) < 0 then
    okV G
  else
    if (60 : Int32) ≤ (gi G (0, 12) 3) then
      okV G
    else
      bif inb (gi G (0, 12) 3) 60 then
      okV (si (sa G (0, 13) (gi G (0, 12) 3).toNatClampNeg (vp_nar .char a0)) (0, 12) 3 ((gi (sa G (0, 13) (gi G (0, 12) 3).toNatClampNeg (vp_nar .char a0)) (0, 12) 3) + (1 : Int32)))
      else none
def D_Script_empty (G : GS) : Res :=
  okV (si G (0, 12) 3 (0 : Int32))
def D_Script_commandAt (a0 : Int32) (G : GS) : Res :=
  if a0 < 0 then
    okI (7 : Int32) G
  else
    if (15 : Int32) ≤ a0 then
      okI (7 : Int32) G
    else
      bif inb a0 15 then
      okI (ga G (0, 14) a0.toNatClampNeg) G
      else none
def D_Script_argumentAt (a0 : Int32) (a1 : Int32) (G : GS) : Res :=
  if ((a0 * (3 : Int32)) + a1) < 0 then
    okI (0 : Int32) G
  else
    if (45 : Int32) ≤ ((a0 * (3 : Int32)) + a1) then
      okI (0 : Int32) G
    else
      bif inb ((a0 * (3 : Int32)) + a1) 45 then
      okI (ga G (0, 15) ((a0 * (3 : Int32)) + a1).toNatClampNeg) G
      else none
def D_Script_keywordOf (a0 : Int32) (G : GS) : Res :=
  if a0 = (0 : Int32) then
    okR (0, 200) G
  else if a0 = (1 : Int32) then
    okR (1, 200) G
  else if a0 = (2 : Int32) then
    okR (2, 200) G
  else if a0 = (3 : Int32) then
    okR (3, 200) G
  else if a0 = (4 : Int32) then
    okR (4, 200) G
  else if a0 = (5 : Int32) then
    okR (5, 200) G
  else 
    okR (6, 200) G
def D_Script_isNext (a0 : Int32) (a1 : Int32) (G : GS) : Res :=
  if ((gi G (0, 12) 5) + a0) < 0 then
    okI (0 : Int32) G
  else
    if (gi G (0, 12) 3) ≤ ((gi G (0, 12) 5) + a0) then
      okI (0 : Int32) G
    else
      if (60 : Int32) ≤ ((gi G (0, 12) 5) + a0) then
        okI (0 : Int32) G
      else
        bif inb ((gi G (0, 12) 5) + a0) 60 then
        if (ga G (0, 13) ((gi G (0, 12) 5) + a0).toNatClampNeg) = a1 then
          okI (1 : Int32) G
        else
          okI (0 : Int32) G
        else none
def L_Script_countMatching : Nat → Nat → Int32 → GS → Res
  | 0 => fun _ _ _ => none
  | k + 1 => fun x1 x2 G =>
    (D_slen x1 G).bind (fun r => oI r (fun v4 G1 =>
    if v4 ≤ x2 then
      okI x2 G1
    else
      (D_sat x1 x2 G1).bind (fun r => oI r (fun v8 G5 =>
      (D_Script_isNext x2 v8 G5).bind (fun r => oI r (fun v12 G9 =>
      if v12 = 0 then
        okI x2 G9
      else
        (L_Script_countMatching k) x1 (x2 + (1 : Int32)) G9) exc)) exc)) exc)
def D_Script_countMatching (a0 : Nat) (G : GS) : Res :=
  (L_Script_countMatching 2000) a0 (0 : Int32) G
def L_Script_readKeyword : Nat → Int32 → Int32 → GS → Res
  | 0 => fun _ _ _ => none
  | k + 1 => fun x1 x2 G =>
    if (7 : Int32) ≤ x2 then
      okI (7 : Int32) (si G (0, 12) 5 ((gi G (0, 12) 5) + x1))
    else
      (D_Script_keywordOf x2 G).bind (fun r => oR 200 r (fun q4 G1 =>
        (D_Script_countMatching q4 G1).bind (fun r => oI r (fun v8 G5 =>
        (D_slen q4 G5).bind (fun r => oI r (fun v12 G9 =>
        if v8 = v12 then
          okI x2 (si G9 (0, 12) 5 ((gi G9 (0, 12) 5) + v8))
        else
          (D_max x1 v8 G9).bind (fun r => oI r (fun v16 G13 =>
          (L_Script_readKeyword k) v16 (x2 + (1 : Int32)) G13) exc)) exc)) exc)) exc)
def D_Script_readKeyword (G : GS) : Res :=
  (L_Script_readKeyword 2000) (0 : Int32) (0 : Int32) G
def D_Script_takeDigit (G : GS) : Res :=
  if (gi G (0, 12) 5) < 0 then
    okI (-1 : Int32) G
  else
    if (gi G (0, 12) 3) ≤ (gi G (0, 12) 5) then
      okI (-1 : Int32) G
    else
      if (gi G (0, 12) 5) < (60 : Int32) then
        bif inb (gi G (0, 12) 5) 60 then
        if (ga G (0, 13) (gi G (0, 12) 5).toNatClampNeg) < (48 : Int32) then
          okI (-1 : Int32) G
        else
          if (ga G (0, 13) (gi G (0, 12) 5).toNatClampNeg) ≤ (57 : Int32) then
            okI ((ga G (0, 13) (gi G (0, 12) 5).toNatClampNeg) - (48 : Int32)) (si G (0, 12) 5 ((gi G (0, 12) 5) + (1 : Int32)))
          else
            okI (-1 : Int32) G
        else none
      else
        okI (-1 : Int32) G
def D_Script_setArgument (a0 : Int32) (a1 : Int32) (G : GS) : Res :=
  if (((gi G (0, 12) 4) * (3 : Int32)) + a0) < 0 then
    okV G
  else
    if (45 : Int32) ≤ (((gi G (0, 12) 4) * (3 : Int32)) + a0) then
      okV G
    else
      bif inb (((gi G (0, 12) 4) * (3 : Int32)) + a0) 45 then
      okV (sa G (0, 15) (((gi G (0, 12) 4) * (3 : Int32)) + a0).toNatClampNeg a1)
      else none
def D_Script_readDigit (a0 : Int32) (G : GS) : Res :=
  (D_Script_takeDigit G).bind (fun r => oI r (fun v4 G1 =>
  (D_Script_setArgument a0 v4 G1).bind (fun r => oV r (fun G5 =>
  if v4 = (-1 : Int32) then
    okI (0 : Int32) G5
  else
    okI (1 : Int32) G5) exc)) exc)
def D_Script_accept (a0 : Int32) (G : GS) : Res :=
  (D_Script_isNext (0 : Int32) a0 G).bind (fun r => oI r (fun v4 G1 =>
  if v4 = 0 then
    okI v4 G1
  else
    okI v4 (si G1 (0, 12) 5 ((gi G1 (0, 12) 5) + (1 : Int32)))) exc)
def D_Script_readNumber (a0 : Int32) (G : GS) : Res :=
  (D_Script_takeDigit G).bind (fun r => oI r (fun v4 G1 =>
  if v4 = (-1 : Int32) then
    okI (0 : Int32) G1
  else
    (D_Script_takeDigit G1).bind (fun r => oI r (fun v8 G5 =>
    if v8 = (-1 : Int32) then
      (D_Script_setArgument a0 v4 G5).bind (fun r => oV r (fun G12 =>
      okI (1 : Int32) G12) exc)
    else
      (D_Script_setArgument a0 ((v4 * (10 : Int32)) + v8) G5).bind (fun r => oV r (fun G9 =>
      okI (1 : Int32) G9) exc)) exc)) exc)
def D_Script_readSignedNumber (a0 : Int32) (G : GS) : Res :=
  (D_Script_accept (45 : Int32) G).bind (fun r => oI r (fun v4 G1 =>
  (D_Script_readNumber a0 G1).bind (fun r => oI r (fun v8 G5 =>
  if v8 = 0 then
    okI v8 G5
  else
    if v4 = 0 then
      okI v8 G5
    else
      (D_Script_argumentAt (gi G5 (0, 12) 4) a0 G5).bind (fun r => oI r (fun v12 G9 =>
      (D_Script_setArgument a0 (-v12) G9).bind (fun r => oV r (fun G13 =>
      okI v8 G13) exc)) exc)) exc)) exc)
def L_Script_readCommand : Nat → Int32 → GS → Res
  | 0 => fun _ _ => none
  | k + 1 => fun x1 G =>
    if x1 = (0 : Int32) then
      (D_Script_readDigit (0 : Int32) G).bind (fun r => oI r (fun v8 G5 =>
      if v8 = 0 then
        okI (0 : Int32) G5
      else
        (D_Script_accept (32 : Int32) G5).bind (fun r => oI r (fun v12 G9 =>
        if v12 = 0 then
          okI (0 : Int32) G9
        else
          (D_Script_readNumber (1 : Int32) G9).bind (fun r => oI r (fun v16 G13 =>
          if v16 = 0 then
            okI (0 : Int32) G13
          else
            (D_Script_accept (32 : Int32) G13).bind (fun r => oI r (fun v20 G17 =>
            if v20 = 0 then
              okI (0 : Int32) G17
            else
              (D_Script_readDigit (2 : Int32) G17).bind (fun r => oI r (fun v24 G21 =>
              if v24 = 0 then
                okI (0 : Int32) G21
              else
                okI (1 : Int32) G21) exc)) exc)) exc)) exc)) exc)
    else if x1 = (1 : Int32) then
      (D_Script_readDigit (0 : Int32) G).bind (fun r => oI r (fun v28 G25 =>
      okI v28 G25) exc)
    else if x1 = (2 : Int32) then
      (D_Script_readDigit (0 : Int32) G).bind (fun r => oI r (fun v32 G29 =>
      if v32 = 0 then
        okI (0 : Int32) G29
      else
        (D_Script_accept (32 : Int32) G29).bind (fun r => oI r (fun v36 G33 =>
        if v36 = 0 then
          okI (0 : Int32) G33
        else
          (D_Script_readDigit (1 : Int32) G33).bind (fun r => oI r (fun v40 G37 =>
          if v40 = 0 then
            okI (0 : Int32) G37
          else
            okI (1 : Int32) G37) exc)) exc)) exc)
    else if x1 = (3 : Int32) then
      (D_Script_setArgument (0 : Int32) (1 : Int32) G).bind (fun r => oV r (fun G41 =>
      (D_Script_accept (32 : Int32) G41).bind (fun r => oI r (fun v47 G44 =>
      if v47 = 0 then
        okI (1 : Int32) G44
      else
        (D_Script_readNumber (0 : Int32) G44).bind (fun r => oI r (fun v51 G48 =>
        if v51 = 0 then
          okI (0 : Int32) G48
        else
          okI (1 : Int32) G48) exc)) exc)) exc)
    else if x1 = (4 : Int32) then
      okI (1 : Int32) G
    else if x1 = (5 : Int32) then
      (D_Script_readNumber (0 : Int32) G).bind (fun r => oI r (fun v55 G52 =>
      okI v55 G52) exc)
    else if x1 = (6 : Int32) then
      (D_Script_readSignedNumber (0 : Int32) G).bind (fun r => oI r (fun v59 G56 =>
      okI v59 G56) exc)
    else 
      okI (0 : Int32) G
def D_Script_readCommand (G : GS) : Res :=
  (D_Script_readKeyword G).bind (fun r => oI r (fun v4 G1 =>
  if (gi G1 (0, 12) 4) < 0 then
    (L_Script_readCommand 2000) v4 G1
  else
    if (15 : Int32) ≤ (gi G1 (0, 12) 4) then
      (L_Script_readCommand 2000) v4 G1
    else
      bif inb (gi G1 (0, 12) 4) 15 then
      (L_Script_readCommand 2000) v4 (sa G1 (0, 14) (gi G1 (0, 12) 4).toNatClampNeg v4)
      else none) exc)
def L_Script_parse : Nat → GS → Res
  | 0 => fun _ => none
  | k + 1 => fun G =>
    if (15 : Int32) ≤ (gi G (0, 12) 4) then
      okI (0 : Int32) G
    else
      (D_Script_readCommand G).bind (fun r => oI r (fun v4 G1 =>
      if v4 = 0 then
        okI (0 : Int32) G1
      else
        (D_Script_accept (59 : Int32) (si G1 (0, 12) 4 ((gi G1 (0, 12) 4) + (1 : Int32)))).bind (fun r => oI r (fun v8 G5 =>
        if v8 = 0 then
          if (gi G5 (0, 12) 5) = (gi G5 (0, 12) 3) then
            okI (1 : Int32) G5
          else
            okI (0 : Int32) G5
        else
          (L_Script_parse k) G5) exc)) exc)
def D_Script_parse (G : GS) : Res :=
  (L_Script_parse 2000) (si (si G (0, 12) 5 (0 : Int32)) (0, 12) 4 (0 : Int32))
def D_State_isWithinLimit (j : Nat) (a0 : Int32) (G : GS) : Res :=
  (D_abs a0 G).bind (fun r => oI r (fun v4 G1 =>
  if (gi G1 (j, 1) 3) < v4 then
    okI (0 : Int32) G1
  else
    okI (1 : Int32) G1) exc)
def D_Voyage_countLegsTo (j : Nat) (a0 : Int32) (G : GS) : Res :=
  if (gi G (j, 3) 2) = 0 then
    (D_fmod ((gi G (j, 3) 0) - a0) (5 : Int32) G).bind (fun r => oI r (fun v4 G1 =>
    okI v4 G1) exc)
  else
    (D_fmod (a0 - (gi G (j, 3) 0)) (5 : Int32) G).bind (fun r => oI r (fun v8 G5 =>
    okI v8 G5) exc)
def D_State_legsIn (j : Nat) (a0 : Int32) (G : GS) : Res :=
  (D_Cargo_destinationIn j a0 G).bind (fun r => oI r (fun v4 G1 =>
  (D_Voyage_countLegsTo j v4 G1).bind (fun r => oI r (fun v8 G5 =>
  okI v8 G5) exc)) exc)
def D_State_ageIn (j : Nat) (a0 : Int32) (G : GS) : Res :=
  (D_Cargo_dayIn j a0 G).bind (fun r => oI r (fun v4 G1 =>
  okI ((gi G (j, 3) 1) - v4) G1) exc)
def D_PB_isWeight (a0 : Int32) (G : GS) : Res :=
  if a0 < (1 : Int32) then
    okI (0 : Int32) G
  else
    if (20 : Int32) < a0 then
      okI (0 : Int32) G
    else
      okI (1 : Int32) G
def D_PB_isPort (a0 : Int32) (G : GS) : Res :=
  if a0 < 0 then
    okI (0 : Int32) G
  else
    if (5 : Int32) ≤ a0 then
      okI (0 : Int32) G
    else
      okI (1 : Int32) G
def D_State_faultOfMoment (j : Nat) (a0 : Int32) (G : GS) : Res :=
  (D_Cargo_momentOfPillows j G).bind (fun r => oI r (fun v4 G1 =>
  (D_State_isWithinLimit j (v4 + a0) G1).bind (fun r => oI r (fun v8 G5 =>
  if v8 = 0 then
    okI (5 : Int32) G5
  else
    okI (0 : Int32) G5) exc)) exc)
def D_State_faultOfLoad (j : Nat) (a0 : Int32) (a1 : Int32) (a2 : Int32) (G : GS) : Res :=
  (D_PB_isBay a0 G).bind (fun r => oI r (fun v4 G1 =>
  if v4 = 0 then
    okI (1 : Int32) G1
  else
    (D_PB_isWeight a1 G1).bind (fun r => oI r (fun v8 G5 =>
    if v8 = 0 then
      okI (2 : Int32) G5
    else
      (D_PB_isPort a2 G5).bind (fun r => oI r (fun v12 G9 =>
      if v12 = 0 then
        okI (2 : Int32) G9
      else
        (D_Cargo_heightOf j a0 G9).bind (fun r => oI r (fun v16 G13 =>
        if v16 < (5 : Int32) then
          (D_PB_leverArm a0 G13).bind (fun r => oI r (fun v20 G17 =>
          (D_State_faultOfMoment j (a1 * v20) G17).bind (fun r => oI r (fun v24 G21 =>
          okI v24 G21) exc)) exc)
        else
          okI (4 : Int32) G13) exc)) exc)) exc)) exc)
def D_State_faultOfUnload (j : Nat) (a0 : Int32) (G : GS) : Res :=
  (D_PB_isBay a0 G).bind (fun r => oI r (fun v4 G1 =>
  if v4 = 0 then
    okI (1 : Int32) G1
  else
    (D_Cargo_topSlot j a0 G1).bind (fun r => oI r (fun v8 G5 =>
    (D_PB_isSlot v8 G5).bind (fun r => oI r (fun v12 G9 =>
    if v12 = 0 then
      okI (3 : Int32) G9
    else
      (D_Cargo_destinationIn j v8 G9).bind (fun r => oI r (fun v16 G13 =>
      if v16 = (gi G13 (j, 3) 0) then
        (D_Cargo_weightIn j v8 G13).bind (fun r => oI r (fun v20 G17 =>
        (D_PB_leverArm a0 G17).bind (fun r => oI r (fun v24 G21 =>
        (D_State_faultOfMoment j ((-v20) * v24) G21).bind (fun r => oI r (fun v28 G25 =>
        okI v28 G25) exc)) exc)) exc)
      else
        okI (4 : Int32) G13) exc)) exc)) exc)) exc)
def D_State_faultOfShift (j : Nat) (a0 : Int32) (a1 : Int32) (G : GS) : Res :=
  (D_PB_isBay a0 G).bind (fun r => oI r (fun v4 G1 =>
  if v4 = 0 then
    okI (1 : Int32) G1
  else
    (D_PB_isBay a1 G1).bind (fun r => oI r (fun v8 G5 =>
    if v8 = 0 then
      okI (1 : Int32) G5
    else
      if a0 = a1 then
        okI (2 : Int32) G5
      else
        (D_Cargo_topSlot j a0 G5).bind (fun r => oI r (fun v12 G9 =>
        (D_PB_isSlot v12 G9).bind (fun r => oI r (fun v16 G13 =>
        if v16 = 0 then
          okI (3 : Int32) G13
        else
          (D_Cargo_heightOf j a1 G13).bind (fun r => oI r (fun v20 G17 =>
          if v20 < (5 : Int32) then
            (D_Cargo_weightIn j v12 G17).bind (fun r => oI r (fun v24 G21 =>
            (D_PB_leverArm a1 G21).bind (fun r => oI r (fun v28 G25 =>
            (D_PB_leverArm a0 G25).bind (fun r => oI r (fun v32 G29 =>
            (D_State_faultOfMoment j (v24 * (v28 - v32)) G29).bind (fun r => oI r (fun v36 G33 =>
            okI v36 G33) exc)) exc)) exc)) exc)
          else
            okI (4 : Int32) G17) exc)) exc)) exc)) exc)) exc)
def D_State_faultOfLimit (j : Nat) (a0 : Int32) (G : GS) : Res :=
  if a0 < (10 : Int32) then
    okI (2 : Int32) G
  else
    if a0 ≤ (99 : Int32) then
      (D_Cargo_momentOfPillows j G).bind (fun r => oI r (fun v4 G1 =>
      (D_abs v4 G1).bind (fun r => oI r (fun v8 G5 =>
      if v8 ≤ a0 then
        okI (0 : Int32) G5
      else
        okI (5 : Int32) G5) exc)) exc)
    else
      okI (2 : Int32) G
def D_State_faultOf (j : Nat) (a0 : Int32) (a1 : Int32) (a2 : Int32) (a3 : Int32) (G : GS) : Res :=
  if a0 = (0 : Int32) then
    (D_State_faultOfLoad j a1 a2 a3 G).bind (fun r => oI r (fun v4 G1 =>
    okI v4 G1) exc)
  else if a0 = (1 : Int32) then
    (D_State_faultOfUnload j a1 G).bind (fun r => oI r (fun v8 G5 =>
    okI v8 G5) exc)
  else if a0 = (2 : Int32) then
    (D_State_faultOfShift j a1 a2 G).bind (fun r => oI r (fun v12 G9 =>
    okI v12 G9) exc)
  else if a0 = (3 : Int32) then
    if a1 < (1 : Int32) then
      okI (2 : Int32) G
    else
      if a1 ≤ (20 : Int32) then
        okI (0 : Int32) G
      else
        okI (2 : Int32) G
  else if a0 = (4 : Int32) then
    okI (0 : Int32) G
  else if a0 = (5 : Int32) then
    (D_State_faultOfLimit j a1 G).bind (fun r => oI r (fun v16 G13 =>
    okI v16 G13) exc)
  else if a0 = (6 : Int32) then
    if a1 < (-99 : Int32) then
      okI (2 : Int32) G
    else
      if a1 ≤ (99 : Int32) then
        okI (0 : Int32) G
      else
        okI (2 : Int32) G
  else 
    okI (0 : Int32) G
def D_State_addPillow (j : Nat) (a0 : Int32) (a1 : Int32) (a2 : Int32) (G : GS) : Res :=
  (D_Cargo_put j a0 (gi G (j, 4) 0) a1 a2 (gi G (j, 3) 1) G).bind (fun r => oV r (fun G1 =>
  okI (gi G (j, 4) 0) (si G1 (j, 4) 0 ((gi G1 (j, 4) 0) + (1 : Int32)))) exc)
def D_State_deliverTop (j : Nat) (a0 : Int32) (G : GS) : Res :=
  (D_Cargo_topSlot j a0 G).bind (fun r => oI r (fun v4 G1 =>
  (D_Cargo_numberIn j v4 G1).bind (fun r => oI r (fun v8 G5 =>
  (D_Cargo_weightIn j v4 (si G5 (j, 4) 1 ((gi G5 (j, 4) 1) + (1 : Int32)))).bind (fun r => oI r (fun v12 G9 =>
  (D_Cargo_removeTop j a0 (si G9 (j, 4) 2 ((gi (si G5 (j, 4) 1 ((gi G5 (j, 4) 1) + (1 : Int32))) (j, 4) 2) + v12))).bind (fun r => oV r (fun G13 =>
  okI v8 G13) exc)) exc)) exc)) exc)
def D_State_moveTop (j : Nat) (a0 : Int32) (a1 : Int32) (G : GS) : Res :=
  (D_Cargo_topSlot j a0 G).bind (fun r => oI r (fun v4 G1 =>
  (D_Cargo_numberIn j v4 G1).bind (fun r => oI r (fun v8 G5 =>
  (D_Cargo_weightIn j v4 G5).bind (fun r => oI r (fun v12 G9 =>
  (D_Cargo_destinationIn j v4 G9).bind (fun r => oI r (fun v16 G13 =>
  (D_Cargo_dayIn j v4 G13).bind (fun r => oI r (fun v20 G17 =>
  (D_Cargo_put j a1 v8 v12 v16 v20 G17).bind (fun r => oV r (fun G21 =>
  (D_Cargo_removeTop j a0 G21).bind (fun r => oV r (fun G24 =>
  okI v8 G24) exc)) exc)) exc)) exc)) exc)) exc)) exc)
def D_Voyage_portIn (j : Nat) (a0 : Int32) (G : GS) : Res :=
  if (gi G (j, 3) 2) = 0 then
    (D_fmod ((gi G (j, 3) 0) - a0) (5 : Int32) G).bind (fun r => oI r (fun v4 G1 =>
    okI v4 G1) exc)
  else
    (D_fmod ((gi G (j, 3) 0) + a0) (5 : Int32) G).bind (fun r => oI r (fun v8 G5 =>
    okI v8 G5) exc)
def D_Voyage_advance (j : Nat) (a0 : Int32) (G : GS) : Res :=
  (D_Voyage_portIn j a0 G).bind (fun r => oI r (fun v4 G1 =>
  okV (si (si G1 (j, 3) 0 v4) (j, 3) 1 ((gi (si G1 (j, 3) 0 v4) (j, 3) 1) + a0))) exc)
def D_Voyage_reverse (j : Nat) (G : GS) : Res :=
  if (gi G (j, 3) 2) = 0 then
    okV (si G (j, 3) 2 (1 : Int32))
  else
    okV (si G (j, 3) 2 (0 : Int32))
def D_State_replaceLimit (j : Nat) (a0 : Int32) (G : GS) : Res :=
  okI (gi G (j, 1) 3) (si G (j, 1) 3 a0)
def L_State_practise : Nat → Nat → Int32 → GS → Res
  | 0 => fun _ _ _ => none
  | k + 1 => fun x0 y0 G =>
    if y0 = 0 then
      okI y0 (si G (x0, 4) 3 ((gi G (x0, 4) 3) + (1 : Int32)))
    else
      okI y0 (si (si G (x0, 4) 3 ((gi G (x0, 4) 3) + (1 : Int32))) (x0, 4) 4 ((gi (si G (x0, 4) 3 ((gi G (x0, 4) 3) + (1 : Int32))) (x0, 4) 4) + (1 : Int32)))
def D_State_practise (j : Nat) (a0 : Int32) (G : GS) : Res :=
  (D_Cargo_momentOfPillows j G).bind (fun r => oI r (fun v4 G1 =>
  (D_State_isWithinLimit j (v4 + a0) G1).bind (fun r => oI r (fun v8 G5 =>
  if v8 = 0 then
    (L_State_practise 2000) j (1 : Int32) G5
  else
    (L_State_practise 2000) j (0 : Int32) G5) exc)) exc)
def D_State_perform (j : Nat) (a0 : Int32) (a1 : Int32) (a2 : Int32) (a3 : Int32) (G : GS) : Res :=
  if a0 = (0 : Int32) then
    (D_State_addPillow j a1 a2 a3 G).bind (fun r => oI r (fun v4 G1 =>
    okI v4 G1) exc)
  else if a0 = (1 : Int32) then
    (D_State_deliverTop j a1 G).bind (fun r => oI r (fun v8 G5 =>
    okI v8 G5) exc)
  else if a0 = (2 : Int32) then
    (D_State_moveTop j a1 a2 G).bind (fun r => oI r (fun v12 G9 =>
    okI v12 G9) exc)
  else if a0 = (3 : Int32) then
    (D_Voyage_advance j a1 G).bind (fun r => oV r (fun G13 =>
    okI (gi G13 (j, 3) 0) G13) exc)
  else if a0 = (4 : Int32) then
    (D_Voyage_reverse j G).bind (fun r => oV r (fun G16 =>
    if (gi G16 (j, 3) 2) = 0 then
      okI (0 : Int32) G16
    else
      okI (1 : Int32) G16) exc)
  else if a0 = (5 : Int32) then
    (D_State_replaceLimit j a1 G).bind (fun r => oI r (fun v22 G19 =>
    okI v22 G19) exc)
  else if a0 = (6 : Int32) then
    (D_State_practise j a1 G).bind (fun r => oI r (fun v26 G23 =>
    if v26 = 0 then
      okI (0 : Int32) G23
    else
      okI (1 : Int32) G23) exc)
  else 
    okI (0 : Int32) G
def D_PB_throwFault (a0 : Int32) (G : GS) : Res :=
  if a0 = (1 : Int32) then
    exc 1 G
  else if a0 = (2 : Int32) then
    exc 2 G
  else if a0 = (3 : Int32) then
    exc 3 G
  else if a0 = (4 : Int32) then
    exc 4 G
  else if a0 = (5 : Int32) then
    exc 5 G
  else 
    okV G
def D_PB_change (a0 : Int32) (a1 : Int32) (a2 : Int32) (a3 : Int32) (G : GS) : Res :=
  (D_State_faultOf 0 a0 a1 a2 a3 G).bind (fun r => oI r (fun v4 G1 =>
  (D_PB_throwFault v4 G1).bind (fun r => oV r (fun G5 =>
  (D_History_draft 0 G5).bind (fun r => oV r (fun G8 =>
  (D_History_keepDraft G8).bind (fun r => oV r (fun G11 =>
  (D_State_perform 0 a0 a1 a2 a3 G11).bind (fun r => oI r (fun v17 G14 =>
  okI v17 G14) exc)) exc)) exc)) exc)) exc)
def D_PB_load (a0 : Int32) (a1 : Int32) (a2 : Int32) (G : GS) : Res :=
  (D_PB_change (0 : Int32) a0 a1 a2 G).bind (fun r => oI r (fun v4 G1 =>
  okI v4 G1) exc)
def D_PB_unload (a0 : Int32) (G : GS) : Res :=
  (D_PB_change (1 : Int32) a0 (0 : Int32) (0 : Int32) G).bind (fun r => oI r (fun v4 G1 =>
  okI v4 G1) exc)
def D_PB_shift (a0 : Int32) (a1 : Int32) (G : GS) : Res :=
  (D_PB_change (2 : Int32) a0 a1 (0 : Int32) G).bind (fun r => oI r (fun v4 G1 =>
  okI v4 G1) exc)
def D_PB_sail (a0 : Int32) (G : GS) : Res :=
  (D_PB_change (3 : Int32) a0 (0 : Int32) (0 : Int32) G).bind (fun r => oI r (fun v4 G1 =>
  okI v4 G1) exc)
def D_PB_turn (G : GS) : Res :=
  (D_PB_change (4 : Int32) (0 : Int32) (0 : Int32) (0 : Int32) G).bind (fun r => oI r (fun v4 G1 =>
  if v4 = (1 : Int32) then
    okI (1 : Int32) G1
  else
    okI (0 : Int32) G1) exc)
def D_PB_setLimit (a0 : Int32) (G : GS) : Res :=
  (D_PB_change (5 : Int32) a0 (0 : Int32) (0 : Int32) G).bind (fun r => oI r (fun v4 G1 =>
  okI v4 G1) exc)
def D_PB_drill (a0 : Int32) (G : GS) : Res :=
  (D_PB_change (6 : Int32) a0 (0 : Int32) (0 : Int32) G).bind (fun r => oI r (fun v4 G1 =>
  if v4 = (1 : Int32) then
    okI (1 : Int32) G1
  else
    okI (0 : Int32) G1) exc)
def D_PB_pillowCount (G : GS) : Res :=
  (D_Cargo_countPillows 0 G).bind (fun r => oI r (fun v4 G1 =>
  okI v4 G1) exc)
def D_PB_requireBay (a0 : Int32) (G : GS) : Res :=
  (D_PB_isBay a0 G).bind (fun r => oI r (fun v4 G1 =>
  if v4 = 0 then
    exc 1 G1
  else
    okV G1) exc)
def D_PB_stackHeight (a0 : Int32) (G : GS) : Res :=
  (D_PB_requireBay a0 G).bind (fun r => oV r (fun G1 =>
  (D_Cargo_heightOf 0 a0 G1).bind (fun r => oI r (fun v7 G4 =>
  okI v7 G4) exc)) exc)
def D_PB_requireSlot (a0 : Int32) (G : GS) : Res :=
  (D_PB_isSlot a0 G).bind (fun r => oI r (fun v4 G1 =>
  if v4 = 0 then
    exc 3 G1
  else
    okV G1) exc)
def D_PB_pillowAt (a0 : Int32) (a1 : Int32) (G : GS) : Res :=
  (D_PB_requireBay a0 G).bind (fun r => oV r (fun G1 =>
  (D_Cargo_slotAt 0 a0 a1 G1).bind (fun r => oI r (fun v7 G4 =>
  (D_PB_requireSlot v7 G4).bind (fun r => oV r (fun G8 =>
  (D_Cargo_numberIn 0 v7 G8).bind (fun r => oI r (fun v14 G11 =>
  okI v14 G11) exc)) exc)) exc)) exc)
def D_PB_requirePillow (a0 : Int32) (G : GS) : Res :=
  (D_Cargo_slotOf 0 a0 G).bind (fun r => oI r (fun v4 G1 =>
  (D_PB_requireSlot v4 G1).bind (fun r => oV r (fun G5 =>
  okI v4 G5) exc)) exc)
def D_PB_weightOf (a0 : Int32) (G : GS) : Res :=
  (D_PB_requirePillow a0 G).bind (fun r => oI r (fun v4 G1 =>
  (D_Cargo_weightIn 0 v4 G1).bind (fun r => oI r (fun v8 G5 =>
  okI v8 G5) exc)) exc)
def D_PB_destinationOf (a0 : Int32) (G : GS) : Res :=
  (D_PB_requirePillow a0 G).bind (fun r => oI r (fun v4 G1 =>
  (D_Cargo_destinationIn 0 v4 G1).bind (fun r => oI r (fun v8 G5 =>
  okI v8 G5) exc)) exc)
def D_PB_bayOf (a0 : Int32) (G : GS) : Res :=
  (D_PB_requirePillow a0 G).bind (fun r => oI r (fun v4 G1 =>
  okI (v4 / (5 : Int32)) G1) exc)
def D_PB_positionOf (a0 : Int32) (G : GS) : Res :=
  (D_PB_requirePillow a0 G).bind (fun r => oI r (fun v4 G1 =>
  okI (v4 - v4 / (5 : Int32) * (5 : Int32)) G1) exc)
def D_PB_ageOf (a0 : Int32) (G : GS) : Res :=
  (D_PB_requirePillow a0 G).bind (fun r => oI r (fun v4 G1 =>
  (D_State_ageIn 0 v4 G1).bind (fun r => oI r (fun v8 G5 =>
  okI v8 G5) exc)) exc)
def D_PB_isOlder (a0 : Int32) (a1 : Int32) (G : GS) : Res :=
  (D_State_ageIn 0 a0 G).bind (fun r => oI r (fun v4 G1 =>
  (D_State_ageIn 0 a1 G1).bind (fun r => oI r (fun v8 G5 =>
  if v4 = v8 then
    (D_Cargo_numberIn 0 a0 G5).bind (fun r => oI r (fun v12 G9 =>
    (D_Cargo_numberIn 0 a1 G9).bind (fun r => oI r (fun v16 G13 =>
    if v16 ≤ v12 then
      okI (0 : Int32) G13
    else
      okI (1 : Int32) G13) exc)) exc)
  else
    if v4 ≤ v8 then
      okI (0 : Int32) G5
    else
      okI (1 : Int32) G5) exc)) exc)
def L_PB_oldestSlotIn : Nat → Int32 → Int32 → Int32 → GS → Res
  | 0 => fun _ _ _ _ => none
  | k + 1 => fun x1 x2 x3 G =>
    if (5 : Int32) ≤ x3 then
      okI x2 G
    else
      (D_Cargo_slotAt 0 x1 x3 G).bind (fun r => oI r (fun v4 G1 =>
      (D_PB_isSlot v4 G1).bind (fun r => oI r (fun v8 G5 =>
      if v8 = 0 then
        (L_PB_oldestSlotIn k) x1 x2 (x3 + (1 : Int32)) G5
      else
        if x2 = (-1 : Int32) then
          (L_PB_oldestSlotIn k) x1 v4 (x3 + (1 : Int32)) G5
        else
          (D_PB_isOlder v4 x2 G5).bind (fun r => oI r (fun v12 G9 =>
          if v12 = 0 then
            (L_PB_oldestSlotIn k) x1 x2 (x3 + (1 : Int32)) G9
          else
            (L_PB_oldestSlotIn k) x1 v4 (x3 + (1 : Int32)) G9) exc)) exc)) exc)
def D_PB_oldestSlotIn (a0 : Int32) (G : GS) : Res :=
  (L_PB_oldestSlotIn 2000) a0 (-1 : Int32) (0 : Int32) G
def D_PB_oldestIn (a0 : Int32) (G : GS) : Res :=
  (D_PB_requireBay a0 G).bind (fun r => oV r (fun G1 =>
  (D_PB_oldestSlotIn a0 G1).bind (fun r => oI r (fun v7 G4 =>
  (D_PB_requireSlot v7 G4).bind (fun r => oV r (fun G8 =>
  (D_Cargo_numberIn 0 v7 G8).bind (fun r => oI r (fun v14 G11 =>
  okI v14 G11) exc)) exc)) exc)) exc)
def D_PB_moment (G : GS) : Res :=
  (D_Cargo_momentOfPillows 0 G).bind (fun r => oI r (fun v4 G1 =>
  okI v4 G1) exc)
def D_PB_momentByBays (G : GS) : Res :=
  (D_Cargo_momentOfBays 0 G).bind (fun r => oI r (fun v4 G1 =>
  okI v4 G1) exc)
def D_PB_totalWeight (G : GS) : Res :=
  (D_Cargo_weightOfAll 0 G).bind (fun r => oI r (fun v4 G1 =>
  okI v4 G1) exc)
def D_PB_requirePort (a0 : Int32) (G : GS) : Res :=
  (D_PB_isPort a0 G).bind (fun r => oI r (fun v4 G1 =>
  if v4 = 0 then
    exc 1 G1
  else
    okV G1) exc)
def D_PB_weightFor (a0 : Int32) (G : GS) : Res :=
  (D_PB_requirePort a0 G).bind (fun r => oV r (fun G1 =>
  (D_Cargo_weightForPort 0 a0 G1).bind (fun r => oI r (fun v7 G4 =>
  okI v7 G4) exc)) exc)
def D_PB_limit (G : GS) : Res :=
  okI (gi G (0, 1) 3) G
def D_PB_listAngle (G : GS) : Res :=
  (D_Cargo_momentOfPillows 0 G).bind (fun r => oI r (fun v4 G1 =>
  (D_Cargo_weightOfAll 0 G1).bind (fun r => oI r (fun v8 G5 =>
  if (FP.fmul (1110704128 : UInt32) (FP.i2f v4)) &&& 0x7fffffff ≤ 0x7f800000 then
  if (FP.fdiv (FP.fmul (1110704128 : UInt32) (FP.i2f v4)) (FP.i2f (v8 + (40 : Int32)))) &&& 0x7fffffff ≤ 0x7f800000 then
  okF (FP.fdiv (FP.fmul (1110704128 : UInt32) (FP.i2f v4)) (FP.i2f (v8 + (40 : Int32)))) G5
  else none
  else none) exc)) exc)
def D_PB_greatestPush (G : GS) : Res :=
  (D_Cargo_momentOfPillows 0 G).bind (fun r => oI r (fun v4 G1 =>
  okI ((gi G (0, 1) 3) - v4) G1) exc)
def D_PB_isMoreLevel (a0 : Int32) (a1 : Int32) (a2 : Int32) (G : GS) : Res :=
  (D_Cargo_momentOfPillows 0 G).bind (fun r => oI r (fun v4 G1 =>
  (D_PB_leverArm a0 G1).bind (fun r => oI r (fun v8 G5 =>
  (D_abs (v4 + (a2 * v8)) G5).bind (fun r => oI r (fun v12 G9 =>
  (D_PB_leverArm a1 G9).bind (fun r => oI r (fun v16 G13 =>
  (D_abs (v4 + (a2 * v16)) G13).bind (fun r => oI r (fun v20 G17 =>
  if v12 = v20 then
    (D_Cargo_heightOf 0 a0 G17).bind (fun r => oI r (fun v24 G21 =>
    (D_Cargo_heightOf 0 a1 G21).bind (fun r => oI r (fun v28 G25 =>
    if v28 ≤ v24 then
      okI (0 : Int32) G25
    else
      okI (1 : Int32) G25) exc)) exc)
  else
    if v20 ≤ v12 then
      okI (0 : Int32) G17
    else
      okI (1 : Int32) G17) exc)) exc)) exc)) exc)) exc)
def L_PB_mostLevelBay : Nat → (Int32 → Int32 → Int32 → GS → Res) × (Int32 → Int32 → Int32 → Int32 → GS → Res)
  | 0 => (fun _ _ _ _ => none, fun _ _ _ _ _ => none)
  | k + 1 => (fun x1 x2 x3 G =>
    if (7 : Int32) ≤ x3 then
      okI x2 G
    else
      (D_State_faultOfLoad 0 x3 x1 (0 : Int32) G).bind (fun r => oI r (fun v4 G1 =>
      if v4 = 0 then
        (L_PB_mostLevelBay k).2 x1 x2 x3 (1 : Int32) G1
      else
        (L_PB_mostLevelBay k).2 x1 x2 x3 (0 : Int32) G1) exc),
    fun x1 x2 x3 y0 G =>
    if y0 = 0 then
      (L_PB_mostLevelBay k).1 x1 x2 (x3 + (1 : Int32)) G
    else
      if x2 = (-1 : Int32) then
        (L_PB_mostLevelBay k).1 x1 x3 (x3 + (1 : Int32)) G
      else
        (D_PB_isMoreLevel x3 x2 x1 G).bind (fun r => oI r (fun v8 G5 =>
        if v8 = 0 then
          (L_PB_mostLevelBay k).1 x1 x2 (x3 + (1 : Int32)) G5
        else
          (L_PB_mostLevelBay k).1 x1 x3 (x3 + (1 : Int32)) G5) exc))
def D_PB_mostLevelBay (a0 : Int32) (G : GS) : Res :=
  (L_PB_mostLevelBay 2000).1 a0 (-1 : Int32) (0 : Int32) G
def D_PB_levelingBay (a0 : Int32) (G : GS) : Res :=
  (D_PB_isWeight a0 G).bind (fun r => oI r (fun v4 G1 =>
  if v4 = 0 then
    exc 2 G1
  else
    (D_PB_mostLevelBay a0 G1).bind (fun r => oI r (fun v8 G5 =>
    if v8 = (-1 : Int32) then
      exc 3 G5
    else
      okI v8 G5) exc)) exc)
def D_PB_port (G : GS) : Res :=
  okI (gi G (0, 3) 0) G
def D_PB_day (G : GS) : Res :=
  okI (gi G (0, 3) 1) G
def D_PB_isAscending (G : GS) : Res :=
  okI (gi G (0, 3) 2) G
def D_PB_legsTo (a0 : Int32) (G : GS) : Res :=
  (D_PB_requirePort a0 G).bind (fun r => oV r (fun G1 =>
  (D_Voyage_countLegsTo 0 a0 G1).bind (fun r => oI r (fun v7 G4 =>
  okI v7 G4) exc)) exc)
def D_PB_portAfter (a0 : Int32) (G : GS) : Res :=
  if a0 < 0 then
    exc 2 G
  else
    if a0 ≤ (99 : Int32) then
      (D_Voyage_portIn 0 a0 G).bind (fun r => oI r (fun v4 G1 =>
      okI v4 G1) exc)
    else
      exc 2 G
def L_PB_heaviestPort : Nat → Int32 → Int32 → GS → Res
  | 0 => fun _ _ _ => none
  | k + 1 => fun x1 x2 G =>
    if (5 : Int32) ≤ x2 then
      okI x1 G
    else
      (D_Voyage_portIn 0 x2 G).bind (fun r => oI r (fun v8 G5 =>
      (D_Cargo_weightForPort 0 v8 G5).bind (fun r => oI r (fun v12 G9 =>
      (D_Cargo_weightForPort 0 x1 G9).bind (fun r => oI r (fun v16 G13 =>
      if v12 ≤ v16 then
        (L_PB_heaviestPort k) x1 (x2 + (1 : Int32)) G13
      else
        (L_PB_heaviestPort k) v8 (x2 + (1 : Int32)) G13) exc)) exc)) exc)
def D_PB_heaviestPort (G : GS) : Res :=
  (D_Cargo_countPillows 0 G).bind (fun r => oI r (fun v4 G1 =>
  if v4 = 0 then
    exc 3 G1
  else
    (L_PB_heaviestPort 8) (gi G1 (0, 3) 0) (1 : Int32) G1) exc)
def L_PB_countInTheWayOf : Nat → Int32 → Int32 → Int32 → Int32 → GS → Res
  | 0 => fun _ _ _ _ _ => none
  | k + 1 => fun x1 x2 x3 x4 G =>
    if (5 : Int32) ≤ x4 then
      okI x3 G
    else
      (D_Cargo_slotAt 0 x2 x4 G).bind (fun r => oI r (fun v4 G1 =>
      (D_PB_isSlot v4 G1).bind (fun r => oI r (fun v8 G5 =>
      if v8 = 0 then
        (L_PB_countInTheWayOf k) x1 x2 x3 (x4 + (1 : Int32)) G5
      else
        (D_State_legsIn 0 v4 G5).bind (fun r => oI r (fun v12 G9 =>
        (D_State_legsIn 0 x1 G9).bind (fun r => oI r (fun v16 G13 =>
        if v12 ≤ v16 then
          (L_PB_countInTheWayOf k) x1 x2 x3 (x4 + (1 : Int32)) G13
        else
          (L_PB_countInTheWayOf k) x1 x2 (x3 + (1 : Int32)) (x4 + (1 : Int32)) G13) exc)) exc)) exc)) exc)
def D_PB_countInTheWayOf (a0 : Int32) (G : GS) : Res :=
  (L_PB_countInTheWayOf 2000) a0 (a0 / (5 : Int32)) (0 : Int32) ((a0 - a0 / (5 : Int32) * (5 : Int32)) + (1 : Int32)) G
def D_PB_pillowsInTheWay (a0 : Int32) (G : GS) : Res :=
  (D_PB_requirePillow a0 G).bind (fun r => oI r (fun v4 G1 =>
  (D_PB_countInTheWayOf v4 G1).bind (fun r => oI r (fun v8 G5 =>
  okI v8 G5) exc)) exc)
def L_PB_countPairs : Nat → Int32 → Int32 → GS → Res
  | 0 => fun _ _ _ => none
  | k + 1 => fun x1 x2 G =>
    if (35 : Int32) ≤ x2 then
      okI x1 G
    else
      (D_Cargo_isTaken 0 x2 G).bind (fun r => oI r (fun v4 G1 =>
      if v4 = 0 then
        (L_PB_countPairs k) x1 (x2 + (1 : Int32)) G1
      else
        (D_PB_countInTheWayOf x2 G1).bind (fun r => oI r (fun v8 G5 =>
        (L_PB_countPairs k) (x1 + v8) (x2 + (1 : Int32)) G5) exc)) exc)
def D_PB_countPairs (G : GS) : Res :=
  (L_PB_countPairs 2000) (0 : Int32) (0 : Int32) G
def D_PB_pairsInTheWay (G : GS) : Res :=
  (D_PB_countPairs G).bind (fun r => oI r (fun v4 G1 =>
  okI v4 G1) exc)
def L_PB_seePillow : Nat → Int32 → Int32 → Int32 → GS → Res
  | 0 => fun _ _ _ _ => none
  | k + 1 => fun x1 x2 x3 G =>
    if (5 : Int32) ≤ x3 then
      (D_PB_isPort x1 G).bind (fun r => oI r (fun v4 G1 =>
      if v4 = 0 then
        okI x2 G1
      else
        bif inb x1 5 then
        bif inb x1 5 then
        okI x2 (sa G1 (0, 17) x1.toNatClampNeg ((ga G1 (0, 17) x1.toNatClampNeg) + (1 : Int32)))
        else none
        else none) exc)
    else
      if x3 ≤ x1 then
        (L_PB_seePillow k) x1 x2 (x3 + (1 : Int32)) G
      else
        bif inb x3 5 then
        (L_PB_seePillow k) x1 (x2 + (ga G (0, 17) x3.toNatClampNeg)) (x3 + (1 : Int32)) G
        else none
def D_PB_seePillow (a0 : Int32) (G : GS) : Res :=
  (L_PB_seePillow 2000) a0 (0 : Int32) (0 : Int32) G
def L_PB_countPairsInStack : Nat → (Int32 → Int32 → GS → Res) × (Int32 → Int32 → Int32 → GS → Res)
  | 0 => (fun _ _ _ => none, fun _ _ _ _ => none)
  | k + 1 => (fun x1 x2 G =>
    if (5 : Int32) ≤ x2 then
      (L_PB_countPairsInStack k).2 x1 (0 : Int32) (4 : Int32) G
    else
      bif inb x2 5 then
      (L_PB_countPairsInStack k).1 x1 (x2 + (1 : Int32)) (sa G (0, 17) x2.toNatClampNeg (0 : Int32))
      else none,
    fun x1 x2 x3 G =>
    if x3 < 0 then
      okI x2 G
    else
      (D_Cargo_slotAt 0 x1 x3 G).bind (fun r => oI r (fun v4 G1 =>
      (D_PB_isSlot v4 G1).bind (fun r => oI r (fun v8 G5 =>
      if v8 = 0 then
        (L_PB_countPairsInStack k).2 x1 x2 (x3 + (-1 : Int32)) G5
      else
        (D_State_legsIn 0 v4 G5).bind (fun r => oI r (fun v12 G9 =>
        (D_PB_seePillow v12 G9).bind (fun r => oI r (fun v16 G13 =>
        (L_PB_countPairsInStack k).2 x1 (x2 + v16) (x3 + (-1 : Int32)) G13) exc)) exc)) exc)) exc))
def D_PB_countPairsInStack (a0 : Int32) (G : GS) : Res :=
  (L_PB_countPairsInStack 2000).1 a0 (0 : Int32) G
def L_PB_countPairsByStacks : Nat → Int32 → Int32 → GS → Res
  | 0 => fun _ _ _ => none
  | k + 1 => fun x1 x2 G =>
    if (7 : Int32) ≤ x2 then
      okI x1 G
    else
      (D_PB_countPairsInStack x2 G).bind (fun r => oI r (fun v4 G1 =>
      (L_PB_countPairsByStacks k) (x1 + v4) (x2 + (1 : Int32)) G1) exc)
def D_PB_countPairsByStacks (G : GS) : Res :=
  (L_PB_countPairsByStacks 2000) (0 : Int32) (0 : Int32) G
def D_PB_pairsInTheWayByStacks (G : GS) : Res :=
  (D_PB_countPairsByStacks G).bind (fun r => oI r (fun v4 G1 =>
  okI v4 G1) exc)
def L_PB_unloadableCount : Nat → Int32 → Int32 → GS → Res
  | 0 => fun _ _ _ => none
  | k + 1 => fun x1 x2 G =>
    if (7 : Int32) ≤ x2 then
      okI x1 G
    else
      (D_State_faultOfUnload 0 x2 G).bind (fun r => oI r (fun v4 G1 =>
      if v4 = 0 then
        (L_PB_unloadableCount k) (x1 + (1 : Int32)) (x2 + (1 : Int32)) G1
      else
        (L_PB_unloadableCount k) x1 (x2 + (1 : Int32)) G1) exc)
def D_PB_unloadableCount (G : GS) : Res :=
  (L_PB_unloadableCount 2000) (0 : Int32) (0 : Int32) G
def L_PB_possibleShifts : Nat → (Int32 → Int32 → GS → Res) × (Int32 → Int32 → Int32 → GS → Res)
  | 0 => (fun _ _ _ => none, fun _ _ _ _ => none)
  | k + 1 => (fun x1 x2 G =>
    if (7 : Int32) ≤ x2 then
      okI x1 G
    else
      (L_PB_possibleShifts k).2 x1 x2 (0 : Int32) G,
    fun x1 x2 x3 G =>
    if (7 : Int32) ≤ x3 then
      (L_PB_possibleShifts k).1 x1 (x2 + (1 : Int32)) G
    else
      (D_State_faultOfShift 0 x2 x3 G).bind (fun r => oI r (fun v4 G1 =>
      if v4 = 0 then
        (L_PB_possibleShifts k).2 (x1 + (1 : Int32)) x2 (x3 + (1 : Int32)) G1
      else
        (L_PB_possibleShifts k).2 x1 x2 (x3 + (1 : Int32)) G1) exc))
def D_PB_possibleShifts (G : GS) : Res :=
  (L_PB_possibleShifts 2000).1 (0 : Int32) (0 : Int32) G
def D_PB_hasEarlierTurn (a0 : Int32) (a1 : Int32) (G : GS) : Res :=
  (D_State_legsIn 0 a0 G).bind (fun r => oI r (fun v4 G1 =>
  (D_State_legsIn 0 a1 G1).bind (fun r => oI r (fun v8 G5 =>
  if v4 = v8 then
    (D_PB_isOlder a0 a1 G5).bind (fun r => oI r (fun v12 G9 =>
    okI v12 G9) exc)
  else
    if v8 ≤ v4 then
      okI (0 : Int32) G5
    else
      okI (1 : Int32) G5) exc)) exc)
def L_PB_countEarlierTurns : Nat → Int32 → Int32 → Int32 → GS → Res
  | 0 => fun _ _ _ _ => none
  | k + 1 => fun x1 x2 x3 G =>
    if (35 : Int32) ≤ x3 then
      okI x2 G
    else
      (D_Cargo_isTaken 0 x3 G).bind (fun r => oI r (fun v4 G1 =>
      if v4 = 0 then
        (L_PB_countEarlierTurns k) x1 x2 (x3 + (1 : Int32)) G1
      else
        (D_PB_hasEarlierTurn x3 x1 G1).bind (fun r => oI r (fun v8 G5 =>
        if v8 = 0 then
          (L_PB_countEarlierTurns k) x1 x2 (x3 + (1 : Int32)) G5
        else
          (L_PB_countEarlierTurns k) x1 (x2 + (1 : Int32)) (x3 + (1 : Int32)) G5) exc)) exc)
def D_PB_countEarlierTurns (a0 : Int32) (G : GS) : Res :=
  (L_PB_countEarlierTurns 2000) a0 (0 : Int32) (0 : Int32) G
def L_PB_pillowByTurn : Nat → Int32 → Int32 → GS → Res
  | 0 => fun _ _ _ => none
  | k + 1 => fun x1 x2 G =>
    if (35 : Int32) ≤ x2 then
      exc 3 G
    else
      (D_Cargo_isTaken 0 x2 G).bind (fun r => oI r (fun v4 G1 =>
      if v4 = 0 then
        (L_PB_pillowByTurn k) x1 (x2 + (1 : Int32)) G1
      else
        (D_PB_countEarlierTurns x2 G1).bind (fun r => oI r (fun v8 G5 =>
        if v8 = x1 then
          (D_Cargo_numberIn 0 x2 G5).bind (fun r => oI r (fun v12 G9 =>
          okI v12 G9) exc)
        else
          (L_PB_pillowByTurn k) x1 (x2 + (1 : Int32)) G5) exc)) exc)
def D_PB_pillowByTurn (a0 : Int32) (G : GS) : Res :=
  (L_PB_pillowByTurn 40) a0 (0 : Int32) G
def L_PB_countHeavierBays : Nat → Int32 → Int32 → Int32 → Int32 → GS → Res
  | 0 => fun _ _ _ _ _ => none
  | k + 1 => fun x1 x2 x3 x4 G =>
    if (7 : Int32) ≤ x4 then
      okI x3 G
    else
      (D_Cargo_weightOfBay 0 x4 G).bind (fun r => oI r (fun v8 G5 =>
      if x2 < v8 then
        (L_PB_countHeavierBays k) x1 x2 (x3 + (1 : Int32)) (x4 + (1 : Int32)) G5
      else
        if v8 = x2 then
          if x1 ≤ x4 then
            (L_PB_countHeavierBays k) x1 x2 x3 (x4 + (1 : Int32)) G5
          else
            (L_PB_countHeavierBays k) x1 x2 (x3 + (1 : Int32)) (x4 + (1 : Int32)) G5
        else
          (L_PB_countHeavierBays k) x1 x2 x3 (x4 + (1 : Int32)) G5) exc)
def D_PB_countHeavierBays (a0 : Int32) (G : GS) : Res :=
  (D_Cargo_weightOfBay 0 a0 G).bind (fun r => oI r (fun v4 G1 =>
  (L_PB_countHeavierBays 2000) a0 v4 (0 : Int32) (0 : Int32) G1) exc)
def L_PB_bayByWeight : Nat → Int32 → Int32 → GS → Res
  | 0 => fun _ _ _ => none
  | k + 1 => fun x1 x2 G =>
    if (7 : Int32) ≤ x2 then
      exc 3 G
    else
      (D_PB_countHeavierBays x2 G).bind (fun r => oI r (fun v4 G1 =>
      if v4 = x1 then
        okI x2 G1
      else
        (L_PB_bayByWeight k) x1 (x2 + (1 : Int32)) G1) exc)
def D_PB_bayByWeight (a0 : Int32) (G : GS) : Res :=
  (L_PB_bayByWeight 10) a0 (0 : Int32) G
def D_PB_loadedTotal (G : GS) : Res :=
  okI (gi G (0, 4) 0) G
def D_PB_deliveredTotal (G : GS) : Res :=
  okI (gi G (0, 4) 1) G
def D_PB_deliveredWeight (G : GS) : Res :=
  okI (gi G (0, 4) 2) G
def D_PB_drillTotal (G : GS) : Res :=
  okI (gi G (0, 4) 3) G
def D_PB_capsizedTotal (G : GS) : Res :=
  okI (gi G (0, 4) 4) G
def L_PB_sumOfAges : Nat → Int32 → Int32 → GS → Res
  | 0 => fun _ _ _ => none
  | k + 1 => fun x1 x2 G =>
    if (35 : Int32) ≤ x2 then
      okI x1 G
    else
      (D_Cargo_isTaken 0 x2 G).bind (fun r => oI r (fun v4 G1 =>
      if v4 = 0 then
        (L_PB_sumOfAges k) x1 (x2 + (1 : Int32)) G1
      else
        (D_State_ageIn 0 x2 G1).bind (fun r => oI r (fun v8 G5 =>
        (L_PB_sumOfAges k) (x1 + v8) (x2 + (1 : Int32)) G5) exc)) exc)
def D_PB_sumOfAges (G : GS) : Res :=
  (L_PB_sumOfAges 2000) (0 : Int32) (0 : Int32) G
def D_PB_meanAge (G : GS) : Res :=
  (D_Cargo_countPillows 0 G).bind (fun r => oI r (fun v4 G1 =>
  if v4 = 0 then
    exc 6 G1
  else
    (D_PB_sumOfAges G1).bind (fun r => oI r (fun v8 G5 =>
    if (FP.ddiv (FP.i2d v8) (FP.i2d v4)) &&& 0x7fffffffffffffff ≤ 0x7ff0000000000000 then
    okD (FP.ddiv (FP.i2d v8) (FP.i2d v4)) G5
    else none) exc)) exc)
def D_PB_capsizedShare (G : GS) : Res :=
  if (gi G (0, 4) 3) = 0 then
    exc 6 G
  else
    if (FP.fdiv (FP.i2f (gi G (0, 4) 4)) (FP.i2f (gi G (0, 4) 3))) &&& 0x7fffffff ≤ 0x7f800000 then
    okF (FP.fdiv (FP.i2f (gi G (0, 4) 4)) (FP.i2f (gi G (0, 4) 3))) G
    else none
def D_PB_isConsistent (G : GS) : Res :=
  (D_Cargo_momentOfPillows 0 G).bind (fun r => oI r (fun v4 G1 =>
  (D_Cargo_momentOfBays 0 G1).bind (fun r => oI r (fun v8 G5 =>
  if v4 = v8 then
    (D_PB_countPairs G5).bind (fun r => oI r (fun v12 G9 =>
    (D_PB_countPairsByStacks G9).bind (fun r => oI r (fun v16 G13 =>
    if v12 = v16 then
      (D_State_isWithinLimit 0 v4 G13).bind (fun r => oI r (fun v20 G17 =>
      if v20 = 0 then
        okI (0 : Int32) G17
      else
        (D_Cargo_countPillows 0 G17).bind (fun r => oI r (fun v24 G21 =>
        if (gi G17 (0, 4) 0) = ((gi G17 (0, 4) 1) + v24) then
          okI (1 : Int32) G21
        else
          okI (0 : Int32) G21) exc)) exc)
    else
      okI (0 : Int32) G13) exc)) exc)
  else
    okI (0 : Int32) G5) exc)) exc)
def D_PB_separate (G : GS) : Res :=
  (D_blen G).bind (fun r => oI r (fun v4 G1 =>
  if v4 ≤ 0 then
    okV G1
  else
    (D_bapc (32 : Int32) G1).bind (fun r => oR 16 r (fun q8 G5 =>
      okV G5) exc)) exc)
def D_PB_renderPillow (a0 : Int32) (G : GS) : Res :=
  (D_Cargo_numberIn 0 a0 G).bind (fun r => oI r (fun v4 G1 =>
  (D_bapi v4 G1).bind (fun r => oR 16 r (fun q8 G5 =>
    (D_bapc (119 : Int32) G5).bind (fun r => oR 16 r (fun q12 G9 =>
      (D_Cargo_weightIn 0 a0 G9).bind (fun r => oI r (fun v16 G13 =>
      (D_bapi v16 G13).bind (fun r => oR 16 r (fun q20 G17 =>
        (D_bapc (112 : Int32) G17).bind (fun r => oR 16 r (fun q24 G21 =>
          (D_Cargo_destinationIn 0 a0 G21).bind (fun r => oI r (fun v28 G25 =>
          (D_bapi v28 G25).bind (fun r => oR 16 r (fun q32 G29 =>
            okV G29) exc)) exc)) exc)) exc)) exc)) exc)) exc)) exc)
def L_PB_renderStack : Nat → Int32 → Int32 → GS → Res
  | 0 => fun _ _ _ => none
  | k + 1 => fun x1 x2 G =>
    if (5 : Int32) ≤ x2 then
      (D_blen G).bind (fun r => oI r (fun v10 G7 =>
      okI v10 G7) exc)
    else
      (D_Cargo_slotAt 0 x1 x2 G).bind (fun r => oI r (fun v14 G11 =>
      (D_PB_isSlot v14 G11).bind (fun r => oI r (fun v18 G15 =>
      if v18 = 0 then
        (L_PB_renderStack k) x1 (x2 + (1 : Int32)) G15
      else
        (D_PB_separate G15).bind (fun r => oV r (fun G19 =>
        (D_PB_renderPillow v14 G19).bind (fun r => oV r (fun G22 =>
        (L_PB_renderStack k) x1 (x2 + (1 : Int32)) G22) exc)) exc)) exc)) exc)
def D_PB_renderStack (a0 : Int32) (G : GS) : Res :=
  (D_PB_requireBay a0 G).bind (fun r => oV r (fun G1 =>
  (D_bset (0 : Int32) G1).bind (fun r => oV r (fun G4 =>
  (L_PB_renderStack 14) a0 (0 : Int32) G4) exc)) exc)
def L_PB_renderBarge : Nat → Int32 → GS → Res
  | 0 => fun _ _ => none
  | k + 1 => fun x1 G =>
    if (7 : Int32) ≤ x1 then
      (D_bapc (61 : Int32) G).bind (fun r => oR 16 r (fun q7 G4 =>
        (D_Cargo_momentOfPillows 0 G4).bind (fun r => oI r (fun v11 G8 =>
        (D_bapi v11 G8).bind (fun r => oR 16 r (fun q15 G12 =>
          (D_blen G12).bind (fun r => oI r (fun v19 G16 =>
          okI v19 G16) exc)) exc)) exc)) exc)
    else
      (D_PB_separate G).bind (fun r => oV r (fun G20 =>
      (D_Cargo_weightOfBay 0 x1 G20).bind (fun r => oI r (fun v26 G23 =>
      (D_bapi v26 G23).bind (fun r => oR 16 r (fun q30 G27 =>
        (L_PB_renderBarge k) (x1 + (1 : Int32)) G27) exc)) exc)) exc)
def D_PB_renderBarge (G : GS) : Res :=
  (D_bset (0 : Int32) G).bind (fun r => oV r (fun G1 =>
  (L_PB_renderBarge 10) (0 : Int32) G1) exc)
def D_PB_outputAt (a0 : Int32) (G : GS) : Res :=
  if a0 < 0 then
    exc 1 G
  else
    (D_blen G).bind (fun r => oI r (fun v4 G1 =>
    if a0 < v4 then
      (D_bat a0 G1).bind (fun r => oI r (fun v8 G5 =>
      okI v8 G5) exc)
    else
      exc 1 G1) exc)
def D_PB_type (a0 : Int32) (G : GS) : Res :=
  if a0 < (32 : Int32) then
    exc 2 G
  else
    if a0 ≤ (126 : Int32) then
      (D_Script_isFull G).bind (fun r => oI r (fun v4 G1 =>
      if v4 = 0 then
        (D_Script_append a0 G1).bind (fun r => oV r (fun G5 =>
        okI (gi G5 (0, 12) 3) G5) exc)
      else
        exc 4 G1) exc)
    else
      exc 2 G
def L_PB_performCommands : Nat → Int32 → GS → Res
  | 0 => fun _ _ => none
  | k + 1 => fun x1 G =>
    if (gi G (0, 12) 4) ≤ x1 then
      okI (-1 : Int32) G
    else
      (D_Script_commandAt x1 G).bind (fun r => oI r (fun v4 G1 =>
      (D_Script_argumentAt x1 (0 : Int32) G1).bind (fun r => oI r (fun v8 G5 =>
      (D_Script_argumentAt x1 (1 : Int32) G5).bind (fun r => oI r (fun v12 G9 =>
      (D_Script_argumentAt x1 (2 : Int32) G9).bind (fun r => oI r (fun v16 G13 =>
      (D_State_faultOf 0 v4 v8 v12 v16 G13).bind (fun r => oI r (fun v20 G17 =>
      if v20 = 0 then
        (D_State_perform 0 v4 v8 v12 v16 G17).bind (fun r => oI r (fun v24 G21 =>
        (L_PB_performCommands k) (x1 + (1 : Int32)) G21) exc)
      else
        okI x1 G17) exc)) exc)) exc)) exc)) exc)
def D_PB_performCommands (G : GS) : Res :=
  (L_PB_performCommands 2000) (0 : Int32) G
def D_PB_runScript (G : GS) : Res :=
  (D_Script_parse G).bind (fun r => oI r (fun v4 G1 =>
  (D_Script_empty G1).bind (fun r => oV r (fun G5 =>
  if v4 = 0 then
    exc 2 (si G5 (0, 0) 5 (gi G5 (0, 12) 5))
  else
    (D_History_draft 0 G5).bind (fun r => oV r (fun G8 =>
    (D_PB_performCommands G8).bind (fun r => oI r (fun v14 G11 =>
    if v14 = (-1 : Int32) then
      (D_History_keepDraft G11).bind (fun r => oV r (fun G15 =>
      okI (gi G15 (0, 12) 4) G15) exc)
    else
      (D_History_takeDraftBack 0 G11).bind (fun r => oV r (fun G18 =>
      exc 4 (si G18 (0, 0) 6 v14)) exc)) exc)) exc)) exc)) exc)
def D_PB_errorPosition (G : GS) : Res :=
  if (gi G (0, 0) 5) = (-1 : Int32) then
    exc 3 G
  else
    okI (gi G (0, 0) 5) G
def D_PB_failedCommand (G : GS) : Res :=
  if (gi G (0, 0) 6) = (-1 : Int32) then
    exc 3 G
  else
    okI (gi G (0, 0) 6) G
def D_PB_undo (G : GS) : Res :=
  if (gi G (0, 10) 2) = 0 then
    exc 3 G
  else
    (D_History_takeLatestBack 0 G).bind (fun r => oV r (fun G1 =>
    okI (gi G1 (0, 10) 2) G1) exc)
def D_PB_save (G : GS) : Res :=
  (D_State_copyFrom 1 0 G).bind (fun r => oV r (fun G1 =>
  (D_Cargo_countPillows 0 (si G1 (0, 0) 3 (1 : Int32))).bind (fun r => oI r (fun v7 G4 =>
  okI v7 G4) exc)) exc)
def D_PB_restore (G : GS) : Res :=
  if (gi G (0, 0) 3) = 0 then
    exc 4 G
  else
    (D_State_copyFrom 0 1 G).bind (fun r => oV r (fun G1 =>
    (D_History_forget G1).bind (fun r => oV r (fun G4 =>
    (D_Cargo_countPillows 0 G4).bind (fun r => oI r (fun v10 G7 =>
    okI v10 G7) exc)) exc)) exc)
end
section
/-! Every method as a function (printed by gen/emit.py from the class files). -/
def D_Mo_thrown (G : GS) : Res :=
  okI (gi G (0, 50) 0) G
def D_Mo_fails (a0 : Int32) (G : GS) : Res :=
  okI (0 : Int32) (si G (0, 50) 0 a0)
def D_Mo_isBetween (a0 : Int32) (a1 : Int32) (a2 : Int32) (G : GS) : Res :=
  if a0 < a1 then
    okI (0 : Int32) G
  else
    if a2 < a0 then
      okI (0 : Int32) G
    else
      okI (1 : Int32) G
def L_Mo_copies : Nat → Int32 → GS → Res
  | 0 => fun _ _ => none
  | k + 1 => fun x1 G =>
    if (156 : Int32) ≤ x1 then
      okV G
    else
      bif inb x1 156 then
      bif inb x1 156 then
      (L_Mo_copies k) (x1 + (1 : Int32)) (sa G (0, 54) x1.toNatClampNeg (ga G (0, 51) x1.toNatClampNeg))
      else none
      else none
def D_Mo_copies (G : GS) : Res :=
  (L_Mo_copies 2000) (0 : Int32) G
def L_Mo_goesBack : Nat → Int32 → GS → Res
  | 0 => fun _ _ => none
  | k + 1 => fun x1 G =>
    if (156 : Int32) ≤ x1 then
      okV G
    else
      bif inb x1 156 then
      bif inb x1 156 then
      (L_Mo_goesBack k) (x1 + (1 : Int32)) (sa G (0, 51) x1.toNatClampNeg (ga G (0, 54) x1.toNatClampNeg))
      else none
      else none
def D_Mo_goesBack (G : GS) : Res :=
  (L_Mo_goesBack 2000) (0 : Int32) G
def L_Mo_keeps : Nat → Int32 → Int32 → GS → Res
  | 0 => fun _ _ _ => none
  | k + 1 => fun x1 x2 G =>
    if (156 : Int32) ≤ x2 then
      okV (si G (0, 50) 5 ((gi G (0, 50) 5) + (1 : Int32)))
    else
      bif inb x2 156 then
      bif inb (((156 : Int32) * x1) + x2) 1248 then
      (L_Mo_keeps k) x1 (x2 + (1 : Int32)) (sa G (0, 52) (((156 : Int32) * x1) + x2).toNatClampNeg (ga G (0, 54) x2.toNatClampNeg))
      else none
      else none
def D_Mo_keeps (G : GS) : Res :=
  if (gi G (0, 50) 5) = (8 : Int32) then
    (L_Mo_keeps 2000) (((gi (si (si G (0, 50) 6 (((gi G (0, 50) 6) + (1 : Int32)) - ((gi G (0, 50) 6) + (1 : Int32)) / (8 : Int32) * (8 : Int32))) (0, 50) 5 ((gi (si G (0, 50) 6 (((gi G (0, 50) 6) + (1 : Int32)) - ((gi G (0, 50) 6) + (1 : Int32)) / (8 : Int32) * (8 : Int32))) (0, 50) 5) - (1 : Int32))) (0, 50) 6) + (gi (si (si G (0, 50) 6 (((gi G (0, 50) 6) + (1 : Int32)) - ((gi G (0, 50) 6) + (1 : Int32)) / (8 : Int32) * (8 : Int32))) (0, 50) 5 ((gi (si G (0, 50) 6 (((gi G (0, 50) 6) + (1 : Int32)) - ((gi G (0, 50) 6) + (1 : Int32)) / (8 : Int32) * (8 : Int32))) (0, 50) 5) - (1 : Int32))) (0, 50) 5)) - ((gi (si (si G (0, 50) 6 (((gi G (0, 50) 6) + (1 : Int32)) - ((gi G (0, 50) 6) + (1 : Int32)) / (8 : Int32) * (8 : Int32))) (0, 50) 5 ((gi (si G (0, 50) 6 (((gi G (0, 50) 6) + (1 : Int32)) - ((gi G (0, 50) 6) + (1 : Int32)) / (8 : Int32) * (8 : Int32))) (0, 50) 5) - (1 : Int32))) (0, 50) 6) + (gi (si (si G (0, 50) 6 (((gi G (0, 50) 6) + (1 : Int32)) - ((gi G (0, 50) 6) + (1 : Int32)) / (8 : Int32) * (8 : Int32))) (0, 50) 5 ((gi (si G (0, 50) 6 (((gi G (0, 50) 6) + (1 : Int32)) - ((gi G (0, 50) 6) + (1 : Int32)) / (8 : Int32) * (8 : Int32))) (0, 50) 5) - (1 : Int32))) (0, 50) 5)) / (8 : Int32) * (8 : Int32)) (0 : Int32) (si (si G (0, 50) 6 (((gi G (0, 50) 6) + (1 : Int32)) - ((gi G (0, 50) 6) + (1 : Int32)) / (8 : Int32) * (8 : Int32))) (0, 50) 5 ((gi (si G (0, 50) 6 (((gi G (0, 50) 6) + (1 : Int32)) - ((gi G (0, 50) 6) + (1 : Int32)) / (8 : Int32) * (8 : Int32))) (0, 50) 5) - (1 : Int32)))
  else
    (L_Mo_keeps 2000) (((gi G (0, 50) 6) + (gi G (0, 50) 5)) - ((gi G (0, 50) 6) + (gi G (0, 50) 5)) / (8 : Int32) * (8 : Int32)) (0 : Int32) G
def D_Mo_remembers (G : GS) : Res :=
  (D_Mo_copies G).bind (fun r => oV r (fun G1 =>
  (D_Mo_keeps G1).bind (fun r => oV r (fun G4 =>
  okV G4) exc)) exc)
def D_Mo_isBay (a0 : Int32) (G : GS) : Res :=
  (D_Mo_isBetween a0 (0 : Int32) (6 : Int32) G).bind (fun r => oI r (fun v4 G1 =>
  okI v4 G1) exc)
def D_Mo_at (a0 : Int32) (a1 : Int32) (a2 : Int32) (G : GS) : Res :=
  bif inb ((((16 : Int32) + ((20 : Int32) * a0)) + ((4 : Int32) * a1)) + a2) 156 then
  okI (ga G (0, 51) ((((16 : Int32) + ((20 : Int32) * a0)) + ((4 : Int32) * a1)) + a2).toNatClampNeg) G
  else none
def D_Mo_puts (a0 : Int32) (a1 : Int32) (a2 : Int32) (a3 : Int32) (G : GS) : Res :=
  bif inb ((((16 : Int32) + ((20 : Int32) * a0)) + ((4 : Int32) * a1)) + a2) 156 then
  okV (sa G (0, 51) ((((16 : Int32) + ((20 : Int32) * a0)) + ((4 : Int32) * a1)) + a2).toNatClampNeg a3)
  else none
def D_Mo_top (a0 : Int32) (a1 : Int32) (G : GS) : Res :=
  bif inb ((9 : Int32) + a0) 156 then
  (D_Mo_at a0 ((ga G (0, 51) ((9 : Int32) + a0).toNatClampNeg) - (1 : Int32)) a1 G).bind (fun r => oI r (fun v4 G1 =>
  okI v4 G1) exc)
  else none
def L_Mo_weightOfBay : Nat → Int32 → Int32 → Int32 → GS → Res
  | 0 => fun _ _ _ _ => none
  | k + 1 => fun x1 x2 x3 G =>
    bif inb ((9 : Int32) + x1) 156 then
    if (ga G (0, 51) ((9 : Int32) + x1).toNatClampNeg) ≤ x3 then
      okI x2 G
    else
      (D_Mo_at x1 x3 (1 : Int32) G).bind (fun r => oI r (fun v4 G1 =>
      (L_Mo_weightOfBay k) x1 (x2 + v4) (x3 + (1 : Int32)) G1) exc)
    else none
def D_Mo_weightOfBay (a0 : Int32) (G : GS) : Res :=
  (L_Mo_weightOfBay 2000) a0 (0 : Int32) (0 : Int32) G
def L_Mo_momentNow : Nat → Int32 → Int32 → GS → Res
  | 0 => fun _ _ _ => none
  | k + 1 => fun x1 x2 G =>
    if (7 : Int32) ≤ x2 then
      okI x1 G
    else
      (D_Mo_weightOfBay x2 G).bind (fun r => oI r (fun v4 G1 =>
      (L_Mo_momentNow k) (x1 + ((x2 - (3 : Int32)) * v4)) (x2 + (1 : Int32)) G1) exc)
def D_Mo_momentNow (G : GS) : Res :=
  (L_Mo_momentNow 2000) (0 : Int32) (0 : Int32) G
def L_Mo_weightAll : Nat → Int32 → Int32 → GS → Res
  | 0 => fun _ _ _ => none
  | k + 1 => fun x1 x2 G =>
    if (7 : Int32) ≤ x2 then
      okI x1 G
    else
      (D_Mo_weightOfBay x2 G).bind (fun r => oI r (fun v4 G1 =>
      (L_Mo_weightAll k) (x1 + v4) (x2 + (1 : Int32)) G1) exc)
def D_Mo_weightAll (G : GS) : Res :=
  (L_Mo_weightAll 2000) (0 : Int32) (0 : Int32) G
def L_Mo_countAll : Nat → Int32 → Int32 → GS → Res
  | 0 => fun _ _ _ => none
  | k + 1 => fun x1 x2 G =>
    if (7 : Int32) ≤ x2 then
      okI x1 G
    else
      bif inb ((9 : Int32) + x2) 156 then
      (L_Mo_countAll k) (x1 + (ga G (0, 51) ((9 : Int32) + x2).toNatClampNeg)) (x2 + (1 : Int32)) G
      else none
def D_Mo_countAll (G : GS) : Res :=
  (L_Mo_countAll 2000) (0 : Int32) (0 : Int32) G
def D_Mo_isBeyond (a0 : Int32) (G : GS) : Res :=
  (D_Mo_momentNow G).bind (fun r => oI r (fun v4 G1 =>
  if (ga G1 (0, 51) 3) < (v4 + a0) then
    okI (1 : Int32) G1
  else
    if (-(v4 + a0)) ≤ (ga G1 (0, 51) 3) then
      okI (0 : Int32) G1
    else
      okI (1 : Int32) G1) exc)
def D_Mo_lever (a0 : Int32) (a1 : Int32) (G : GS) : Res :=
  okI ((a0 - (3 : Int32)) * a1) G
def D_Mo_lays (a0 : Int32) (a1 : Int32) (a2 : Int32) (a3 : Int32) (a4 : Int32) (G : GS) : Res :=
  bif inb ((9 : Int32) + a0) 156 then
  (D_Mo_puts a0 (ga G (0, 51) ((9 : Int32) + a0).toNatClampNeg) (0 : Int32) a1 G).bind (fun r => oV r (fun G1 =>
  (D_Mo_puts a0 (ga G (0, 51) ((9 : Int32) + a0).toNatClampNeg) (1 : Int32) a2 G1).bind (fun r => oV r (fun G4 =>
  (D_Mo_puts a0 (ga G (0, 51) ((9 : Int32) + a0).toNatClampNeg) (2 : Int32) a3 G4).bind (fun r => oV r (fun G7 =>
  (D_Mo_puts a0 (ga G (0, 51) ((9 : Int32) + a0).toNatClampNeg) (3 : Int32) a4 G7).bind (fun r => oV r (fun G10 =>
  bif inb ((9 : Int32) + a0) 156 then
  bif inb ((9 : Int32) + a0) 156 then
  okV (sa G10 (0, 51) ((9 : Int32) + a0).toNatClampNeg ((ga G10 (0, 51) ((9 : Int32) + a0).toNatClampNeg) + (1 : Int32)))
  else none
  else none) exc)) exc)) exc)) exc)
  else none
def L_Mo_takes : Nat → Int32 → Int32 → GS → Res
  | 0 => fun _ _ _ => none
  | k + 1 => fun x1 x2 G =>
    if (4 : Int32) ≤ x2 then
      okV G
    else
      bif inb ((9 : Int32) + x1) 156 then
      (D_Mo_puts x1 (ga G (0, 51) ((9 : Int32) + x1).toNatClampNeg) x2 (0 : Int32) G).bind (fun r => oV r (fun G1 =>
      (L_Mo_takes k) x1 (x2 + (1 : Int32)) G1) exc)
      else none
def D_Mo_takes (a0 : Int32) (G : GS) : Res :=
  bif inb ((9 : Int32) + a0) 156 then
  bif inb ((9 : Int32) + a0) 156 then
  (L_Mo_takes 2000) a0 (0 : Int32) (sa G (0, 51) ((9 : Int32) + a0).toNatClampNeg ((ga G (0, 51) ((9 : Int32) + a0).toNatClampNeg) - (1 : Int32)))
  else none
  else none
def D_Mo_notLoad (a0 : Int32) (a1 : Int32) (a2 : Int32) (G : GS) : Res :=
  (D_Mo_isBay a0 G).bind (fun r => oI r (fun v4 G1 =>
  if v4 = 0 then
    okI (1 : Int32) G1
  else
    (D_Mo_isBetween a1 (1 : Int32) (20 : Int32) G1).bind (fun r => oI r (fun v8 G5 =>
    if v8 = 0 then
      okI (2 : Int32) G5
    else
      (D_Mo_isBetween a2 (0 : Int32) (4 : Int32) G5).bind (fun r => oI r (fun v12 G9 =>
      if v12 = 0 then
        okI (2 : Int32) G9
      else
        bif inb ((9 : Int32) + a0) 156 then
        if (ga G9 (0, 51) ((9 : Int32) + a0).toNatClampNeg) = (5 : Int32) then
          okI (3 : Int32) G9
        else
          (D_Mo_lever a0 a1 G9).bind (fun r => oI r (fun v16 G13 =>
          (D_Mo_isBeyond v16 G13).bind (fun r => oI r (fun v20 G17 =>
          if v20 = 0 then
            okI (0 : Int32) G17
          else
            okI (4 : Int32) G17) exc)) exc)
        else none) exc)) exc)) exc)
def D_Mo_loads (a0 : Int32) (a1 : Int32) (a2 : Int32) (G : GS) : Res :=
  (D_Mo_lays a0 (ga G (0, 51) 4) a1 a2 (ga G (0, 51) 0) G).bind (fun r => oV r (fun G1 =>
  okI ((ga (sa G1 (0, 51) 4 ((ga G1 (0, 51) 4) + (1 : Int32))) (0, 51) 4) - (1 : Int32)) (sa G1 (0, 51) 4 ((ga G1 (0, 51) 4) + (1 : Int32)))) exc)
def D_Mo_load (a0 : Int32) (a1 : Int32) (a2 : Int32) (G : GS) : Res :=
  (D_Mo_notLoad a0 a1 a2 (si G (0, 50) 0 (0 : Int32))).bind (fun r => oI r (fun v4 G1 =>
  if v4 = 0 then
    (D_Mo_remembers G1).bind (fun r => oV r (fun G5 =>
    (D_Mo_loads a0 a1 a2 G5).bind (fun r => oI r (fun v11 G8 =>
    okI v11 G8) exc)) exc)
  else
    (D_Mo_fails v4 G1).bind (fun r => oI r (fun v15 G12 =>
    okI v15 G12) exc)) exc)
def D_Mo_notUnload (a0 : Int32) (G : GS) : Res :=
  (D_Mo_isBay a0 G).bind (fun r => oI r (fun v4 G1 =>
  if v4 = 0 then
    okI (1 : Int32) G1
  else
    bif inb ((9 : Int32) + a0) 156 then
    if (ga G1 (0, 51) ((9 : Int32) + a0).toNatClampNeg) = 0 then
      okI (2 : Int32) G1
    else
      (D_Mo_top a0 (2 : Int32) G1).bind (fun r => oI r (fun v8 G5 =>
      if v8 = (ga G5 (0, 51) 1) then
        (D_Mo_top a0 (1 : Int32) G5).bind (fun r => oI r (fun v12 G9 =>
        (D_Mo_lever a0 v12 G9).bind (fun r => oI r (fun v16 G13 =>
        (D_Mo_isBeyond (-v16) G13).bind (fun r => oI r (fun v20 G17 =>
        if v20 = 0 then
          okI (0 : Int32) G17
        else
          okI (4 : Int32) G17) exc)) exc)) exc)
      else
        okI (3 : Int32) G5) exc)
    else none) exc)
def D_Mo_unloads (a0 : Int32) (G : GS) : Res :=
  (D_Mo_top a0 (0 : Int32) G).bind (fun r => oI r (fun v4 G1 =>
  (D_Mo_top a0 (1 : Int32) (sa G1 (0, 51) 5 ((ga G1 (0, 51) 5) + (1 : Int32)))).bind (fun r => oI r (fun v8 G5 =>
  (D_Mo_takes a0 (sa G5 (0, 51) 6 ((ga (sa G1 (0, 51) 5 ((ga G1 (0, 51) 5) + (1 : Int32))) (0, 51) 6) + v8))).bind (fun r => oV r (fun G9 =>
  okI v4 G9) exc)) exc)) exc)
def D_Mo_unload (a0 : Int32) (G : GS) : Res :=
  (D_Mo_notUnload a0 (si G (0, 50) 0 (0 : Int32))).bind (fun r => oI r (fun v4 G1 =>
  if v4 = 0 then
    (D_Mo_remembers G1).bind (fun r => oV r (fun G5 =>
    (D_Mo_unloads a0 G5).bind (fun r => oI r (fun v11 G8 =>
    okI v11 G8) exc)) exc)
  else
    (D_Mo_fails v4 G1).bind (fun r => oI r (fun v15 G12 =>
    okI v15 G12) exc)) exc)
def D_Mo_notShift (a0 : Int32) (a1 : Int32) (G : GS) : Res :=
  (D_Mo_isBay a0 G).bind (fun r => oI r (fun v4 G1 =>
  if v4 = 0 then
    okI (1 : Int32) G1
  else
    (D_Mo_isBay a1 G1).bind (fun r => oI r (fun v8 G5 =>
    if v8 = 0 then
      okI (1 : Int32) G5
    else
      if a0 = a1 then
        okI (2 : Int32) G5
      else
        bif inb ((9 : Int32) + a0) 156 then
        if (ga G5 (0, 51) ((9 : Int32) + a0).toNatClampNeg) = 0 then
          okI (3 : Int32) G5
        else
          bif inb ((9 : Int32) + a1) 156 then
          if (ga G5 (0, 51) ((9 : Int32) + a1).toNatClampNeg) = (5 : Int32) then
            okI (4 : Int32) G5
          else
            (D_Mo_top a0 (1 : Int32) G5).bind (fun r => oI r (fun v12 G9 =>
            (D_Mo_lever a1 v12 G9).bind (fun r => oI r (fun v16 G13 =>
            (D_Mo_lever a0 v12 G13).bind (fun r => oI r (fun v20 G17 =>
            (D_Mo_isBeyond (v16 - v20) G17).bind (fun r => oI r (fun v24 G21 =>
            if v24 = 0 then
              okI (0 : Int32) G21
            else
              okI (5 : Int32) G21) exc)) exc)) exc)) exc)
          else none
        else none) exc)) exc)
def D_Mo_shifts (a0 : Int32) (a1 : Int32) (G : GS) : Res :=
  (D_Mo_top a0 (0 : Int32) G).bind (fun r => oI r (fun v4 G1 =>
  (D_Mo_top a0 (1 : Int32) G1).bind (fun r => oI r (fun v8 G5 =>
  (D_Mo_top a0 (2 : Int32) G5).bind (fun r => oI r (fun v12 G9 =>
  (D_Mo_top a0 (3 : Int32) G9).bind (fun r => oI r (fun v16 G13 =>
  (D_Mo_lays a1 v4 v8 v12 v16 G13).bind (fun r => oV r (fun G17 =>
  (D_Mo_takes a0 G17).bind (fun r => oV r (fun G20 =>
  okI v4 G20) exc)) exc)) exc)) exc)) exc)) exc)
def D_Mo_shift (a0 : Int32) (a1 : Int32) (G : GS) : Res :=
  (D_Mo_notShift a0 a1 (si G (0, 50) 0 (0 : Int32))).bind (fun r => oI r (fun v4 G1 =>
  if v4 = 0 then
    (D_Mo_remembers G1).bind (fun r => oV r (fun G5 =>
    (D_Mo_shifts a0 a1 G5).bind (fun r => oI r (fun v11 G8 =>
    okI v11 G8) exc)) exc)
  else
    (D_Mo_fails v4 G1).bind (fun r => oI r (fun v15 G12 =>
    okI v15 G12) exc)) exc)
def D_Mo_portBehind (a0 : Int32) (G : GS) : Res :=
  if (ga G (0, 51) 2) = (1 : Int32) then
    okI (((ga G (0, 51) 1) + ((4 : Int32) * a0)) - ((ga G (0, 51) 1) + ((4 : Int32) * a0)) / (5 : Int32) * (5 : Int32)) G
  else
    okI (((ga G (0, 51) 1) + ((1 : Int32) * a0)) - ((ga G (0, 51) 1) + ((1 : Int32) * a0)) / (5 : Int32) * (5 : Int32)) G
def D_Mo_notSail (a0 : Int32) (G : GS) : Res :=
  (D_Mo_isBetween a0 (1 : Int32) (20 : Int32) G).bind (fun r => oI r (fun v4 G1 =>
  if v4 = 0 then
    okI (1 : Int32) G1
  else
    okI (0 : Int32) G1) exc)
def D_Mo_sails (a0 : Int32) (G : GS) : Res :=
  (D_Mo_portBehind a0 G).bind (fun r => oI r (fun v4 G1 =>
  okI (ga (sa (sa G1 (0, 51) 1 v4) (0, 51) 0 ((ga (sa G1 (0, 51) 1 v4) (0, 51) 0) + a0)) (0, 51) 1) (sa (sa G1 (0, 51) 1 v4) (0, 51) 0 ((ga (sa G1 (0, 51) 1 v4) (0, 51) 0) + a0))) exc)
def D_Mo_sail (a0 : Int32) (G : GS) : Res :=
  (D_Mo_notSail a0 (si G (0, 50) 0 (0 : Int32))).bind (fun r => oI r (fun v4 G1 =>
  if v4 = 0 then
    (D_Mo_remembers G1).bind (fun r => oV r (fun G5 =>
    (D_Mo_sails a0 G5).bind (fun r => oI r (fun v11 G8 =>
    okI v11 G8) exc)) exc)
  else
    (D_Mo_fails (1 : Int32) G1).bind (fun r => oI r (fun v15 G12 =>
    okI v15 G12) exc)) exc)
def D_Mo_turns (G : GS) : Res :=
  okI (ga (sa G (0, 51) 2 ((1 : Int32) - (ga G (0, 51) 2))) (0, 51) 2) (sa G (0, 51) 2 ((1 : Int32) - (ga G (0, 51) 2)))
def D_Mo_turn (G : GS) : Res :=
  (D_Mo_remembers (si G (0, 50) 0 (0 : Int32))).bind (fun r => oV r (fun G1 =>
  (D_Mo_turns G1).bind (fun r => oI r (fun v7 G4 =>
  if v7 = 0 then
    okI (1 : Int32) G4
  else
    okI (0 : Int32) G4) exc)) exc)
def D_Mo_notLimit (a0 : Int32) (G : GS) : Res :=
  (D_Mo_isBetween a0 (10 : Int32) (99 : Int32) G).bind (fun r => oI r (fun v4 G1 =>
  if v4 = 0 then
    okI (1 : Int32) G1
  else
    (D_Mo_momentNow G1).bind (fun r => oI r (fun v8 G5 =>
    if a0 < v8 then
      okI (2 : Int32) G5
    else
      if (-v8) ≤ a0 then
        okI (0 : Int32) G5
      else
        okI (2 : Int32) G5) exc)) exc)
def D_Mo_setsLimit (a0 : Int32) (G : GS) : Res :=
  okI (ga G (0, 51) 3) (sa G (0, 51) 3 a0)
def D_Mo_setLimit (a0 : Int32) (G : GS) : Res :=
  (D_Mo_notLimit a0 (si G (0, 50) 0 (0 : Int32))).bind (fun r => oI r (fun v4 G1 =>
  if v4 = 0 then
    (D_Mo_remembers G1).bind (fun r => oV r (fun G5 =>
    (D_Mo_setsLimit a0 G5).bind (fun r => oI r (fun v11 G8 =>
    okI v11 G8) exc)) exc)
  else
    (D_Mo_fails v4 G1).bind (fun r => oI r (fun v15 G12 =>
    okI v15 G12) exc)) exc)
def D_Mo_notDrill (a0 : Int32) (G : GS) : Res :=
  (D_Mo_isBetween a0 (-99 : Int32) (99 : Int32) G).bind (fun r => oI r (fun v4 G1 =>
  if v4 = 0 then
    okI (1 : Int32) G1
  else
    okI (0 : Int32) G1) exc)
def D_Mo_drills (a0 : Int32) (G : GS) : Res :=
  (D_Mo_isBeyond a0 (sa G (0, 51) 7 ((ga G (0, 51) 7) + (1 : Int32)))).bind (fun r => oI r (fun v4 G1 =>
  if v4 = 0 then
    okI (0 : Int32) (sa G1 (0, 51) 8 ((ga G1 (0, 51) 8) + (0 : Int32)))
  else
    okI (1 : Int32) (sa G1 (0, 51) 8 ((ga G1 (0, 51) 8) + (1 : Int32)))) exc)
def D_Mo_drill (a0 : Int32) (G : GS) : Res :=
  (D_Mo_notDrill a0 (si G (0, 50) 0 (0 : Int32))).bind (fun r => oI r (fun v4 G1 =>
  if v4 = 0 then
    (D_Mo_remembers G1).bind (fun r => oV r (fun G5 =>
    (D_Mo_drills a0 G5).bind (fun r => oI r (fun v11 G8 =>
    if v11 = (1 : Int32) then
      okI (1 : Int32) G8
    else
      okI (0 : Int32) G8) exc)) exc)
  else
    (D_Mo_fails (1 : Int32) G1).bind (fun r => oI r (fun v15 G12 =>
    if v15 ≤ 0 then
      okI (0 : Int32) G12
    else
      okI (1 : Int32) G12) exc)) exc)
def D_Mo_pillowCount (G : GS) : Res :=
  (D_Mo_countAll (si G (0, 50) 0 (0 : Int32))).bind (fun r => oI r (fun v4 G1 =>
  okI v4 G1) exc)
def D_Mo_stackHeight (a0 : Int32) (G : GS) : Res :=
  (D_Mo_isBay a0 (si G (0, 50) 0 (0 : Int32))).bind (fun r => oI r (fun v4 G1 =>
  if v4 = 0 then
    (D_Mo_fails (1 : Int32) G1).bind (fun r => oI r (fun v8 G5 =>
    okI v8 G5) exc)
  else
    bif inb ((9 : Int32) + a0) 156 then
    okI (ga G1 (0, 51) ((9 : Int32) + a0).toNatClampNeg) G1
    else none) exc)
def D_Mo_pillowAt (a0 : Int32) (a1 : Int32) (G : GS) : Res :=
  (D_Mo_isBay a0 (si G (0, 50) 0 (0 : Int32))).bind (fun r => oI r (fun v4 G1 =>
  if v4 = 0 then
    (D_Mo_fails (1 : Int32) G1).bind (fun r => oI r (fun v20 G17 =>
    okI v20 G17) exc)
  else
    bif inb ((9 : Int32) + a0) 156 then
    (D_Mo_isBetween a1 (0 : Int32) ((ga G1 (0, 51) ((9 : Int32) + a0).toNatClampNeg) - (1 : Int32)) G1).bind (fun r => oI r (fun v8 G5 =>
    if v8 = 0 then
      (D_Mo_fails (2 : Int32) G5).bind (fun r => oI r (fun v12 G9 =>
      okI v12 G9) exc)
    else
      (D_Mo_at a0 a1 (0 : Int32) G5).bind (fun r => oI r (fun v16 G13 =>
      okI v16 G13) exc)) exc)
    else none) exc)
def L_Mo_placeOf : Nat → (Int32 → Int32 → GS → Res) × (Int32 → Int32 → Int32 → GS → Res)
  | 0 => (fun _ _ _ => none, fun _ _ _ _ => none)
  | k + 1 => (fun x1 x2 G =>
    if (7 : Int32) ≤ x2 then
      okI (-1 : Int32) G
    else
      (L_Mo_placeOf k).2 x1 x2 (0 : Int32) G,
    fun x1 x2 x3 G =>
    bif inb ((9 : Int32) + x2) 156 then
    if (ga G (0, 51) ((9 : Int32) + x2).toNatClampNeg) ≤ x3 then
      (L_Mo_placeOf k).1 x1 (x2 + (1 : Int32)) G
    else
      (D_Mo_at x2 x3 (0 : Int32) G).bind (fun r => oI r (fun v4 G1 =>
      if v4 = x1 then
        okI (((5 : Int32) * x2) + x3) G1
      else
        (L_Mo_placeOf k).2 x1 x2 (x3 + (1 : Int32)) G1) exc)
    else none)
def D_Mo_placeOf (a0 : Int32) (G : GS) : Res :=
  (L_Mo_placeOf 2000).1 a0 (0 : Int32) G
def D_Mo_asks (a0 : Int32) (a1 : Int32) (G : GS) : Res :=
  (D_Mo_placeOf a0 (si G (0, 50) 0 (0 : Int32))).bind (fun r => oI r (fun v4 G1 =>
  if 0 ≤ v4 then
    (D_Mo_at (v4 / (5 : Int32)) (v4 - v4 / (5 : Int32) * (5 : Int32)) a1 G1).bind (fun r => oI r (fun v8 G5 =>
    okI v8 G5) exc)
  else
    (D_Mo_fails (1 : Int32) G1).bind (fun r => oI r (fun v12 G9 =>
    okI v12 G9) exc)) exc)
def D_Mo_weightOf (a0 : Int32) (G : GS) : Res :=
  (D_Mo_asks a0 (1 : Int32) G).bind (fun r => oI r (fun v4 G1 =>
  okI v4 G1) exc)
def D_Mo_destinationOf (a0 : Int32) (G : GS) : Res :=
  (D_Mo_asks a0 (2 : Int32) G).bind (fun r => oI r (fun v4 G1 =>
  okI v4 G1) exc)
def D_Mo_bayOf (a0 : Int32) (G : GS) : Res :=
  (D_Mo_placeOf a0 (si G (0, 50) 0 (0 : Int32))).bind (fun r => oI r (fun v4 G1 =>
  if 0 ≤ v4 then
    okI (v4 / (5 : Int32)) G1
  else
    (D_Mo_fails (1 : Int32) G1).bind (fun r => oI r (fun v8 G5 =>
    okI v8 G5) exc)) exc)
def D_Mo_positionOf (a0 : Int32) (G : GS) : Res :=
  (D_Mo_placeOf a0 (si G (0, 50) 0 (0 : Int32))).bind (fun r => oI r (fun v4 G1 =>
  if 0 ≤ v4 then
    okI (v4 - v4 / (5 : Int32) * (5 : Int32)) G1
  else
    (D_Mo_fails (1 : Int32) G1).bind (fun r => oI r (fun v8 G5 =>
    okI v8 G5) exc)) exc)
def D_Mo_ageOf (a0 : Int32) (G : GS) : Res :=
  (D_Mo_asks a0 (3 : Int32) G).bind (fun r => oI r (fun v4 G1 =>
  if (gi G1 (0, 50) 0) = 0 then
    okI ((ga G1 (0, 51) 0) - v4) G1
  else
    okI (0 : Int32) G1) exc)
def D_Mo_moment (G : GS) : Res :=
  (D_Mo_momentNow (si G (0, 50) 0 (0 : Int32))).bind (fun r => oI r (fun v4 G1 =>
  okI v4 G1) exc)
def D_Mo_momentByBays (G : GS) : Res :=
  (D_Mo_moment G).bind (fun r => oI r (fun v4 G1 =>
  okI v4 G1) exc)
def D_Mo_totalWeight (G : GS) : Res :=
  (D_Mo_weightAll (si G (0, 50) 0 (0 : Int32))).bind (fun r => oI r (fun v4 G1 =>
  okI v4 G1) exc)
def L_Mo_weightFor : Nat → (Int32 → Int32 → Int32 → GS → Res) × (Int32 → Int32 → Int32 → Int32 → GS → Res)
  | 0 => (fun _ _ _ _ => none, fun _ _ _ _ _ => none)
  | k + 1 => (fun x1 x2 x3 G =>
    if (7 : Int32) ≤ x3 then
      okI x2 G
    else
      (L_Mo_weightFor k).2 x1 x2 x3 (0 : Int32) G,
    fun x1 x2 x3 x4 G =>
    bif inb ((9 : Int32) + x3) 156 then
    if (ga G (0, 51) ((9 : Int32) + x3).toNatClampNeg) ≤ x4 then
      (L_Mo_weightFor k).1 x1 x2 (x3 + (1 : Int32)) G
    else
      (D_Mo_at x3 x4 (2 : Int32) G).bind (fun r => oI r (fun v12 G9 =>
      if v12 = x1 then
        (D_Mo_at x3 x4 (1 : Int32) G9).bind (fun r => oI r (fun v16 G13 =>
        (L_Mo_weightFor k).2 x1 (x2 + v16) x3 (x4 + (1 : Int32)) G13) exc)
      else
        (L_Mo_weightFor k).2 x1 (x2 + (0 : Int32)) x3 (x4 + (1 : Int32)) G9) exc)
    else none)
def D_Mo_weightFor (a0 : Int32) (G : GS) : Res :=
  (D_Mo_isBetween a0 (0 : Int32) (4 : Int32) (si G (0, 50) 0 (0 : Int32))).bind (fun r => oI r (fun v4 G1 =>
  if v4 = 0 then
    (D_Mo_fails (1 : Int32) G1).bind (fun r => oI r (fun v8 G5 =>
    okI v8 G5) exc)
  else
    (L_Mo_weightFor 2000).1 a0 (0 : Int32) (0 : Int32) G1) exc)
def D_Mo_limit (G : GS) : Res :=
  okI (ga (si G (0, 50) 0 (0 : Int32)) (0, 51) 3) (si G (0, 50) 0 (0 : Int32))
def D_Mo_listAngle (G : GS) : Res :=
  (D_Mo_momentNow (si G (0, 50) 0 (0 : Int32))).bind (fun r => oI r (fun v4 G1 =>
  if (FP.fmul (1110704128 : UInt32) (FP.i2f v4)) &&& 0x7fffffff ≤ 0x7f800000 then
  (D_Mo_weightAll G1).bind (fun r => oI r (fun v8 G5 =>
  if (FP.fdiv (FP.fmul (1110704128 : UInt32) (FP.i2f v4)) (FP.i2f (v8 + (40 : Int32)))) &&& 0x7fffffff ≤ 0x7f800000 then
  okF (FP.fdiv (FP.fmul (1110704128 : UInt32) (FP.i2f v4)) (FP.i2f (v8 + (40 : Int32)))) G5
  else none) exc)
  else none) exc)
def D_Mo_greatestPush (G : GS) : Res :=
  (D_Mo_momentNow (si G (0, 50) 0 (0 : Int32))).bind (fun r => oI r (fun v4 G1 =>
  okI ((ga (si G (0, 50) 0 (0 : Int32)) (0, 51) 3) - v4) G1) exc)
def D_Mo_magnitude (a0 : Int32) (G : GS) : Res :=
  if 0 ≤ a0 then
    okI a0 G
  else
    okI (-a0) G
def D_Mo_isBetter (a0 : Int32) (a1 : Int32) (a2 : Int32) (G : GS) : Res :=
  (D_Mo_momentNow G).bind (fun r => oI r (fun v4 G1 =>
  (D_Mo_lever a1 a2 G1).bind (fun r => oI r (fun v8 G5 =>
  (D_Mo_magnitude (v4 + v8) G5).bind (fun r => oI r (fun v12 G9 =>
  (D_Mo_momentNow G9).bind (fun r => oI r (fun v16 G13 =>
  (D_Mo_lever a0 a2 G13).bind (fun r => oI r (fun v20 G17 =>
  (D_Mo_magnitude (v16 + v20) G17).bind (fun r => oI r (fun v24 G21 =>
  if (v12 - v24) = 0 then
    bif inb ((9 : Int32) + a0) 156 then
    bif inb ((9 : Int32) + a1) 156 then
    if (ga G21 (0, 51) ((9 : Int32) + a1).toNatClampNeg) ≤ (ga G21 (0, 51) ((9 : Int32) + a0).toNatClampNeg) then
      okI (0 : Int32) G21
    else
      okI (1 : Int32) G21
    else none
    else none
  else
    if (v12 - v24) ≤ 0 then
      okI (0 : Int32) G21
    else
      okI (1 : Int32) G21) exc)) exc)) exc)) exc)) exc)) exc)
def L_Mo_levelingBay : Nat → Int32 → Int32 → Int32 → GS → Res
  | 0 => fun _ _ _ _ => none
  | k + 1 => fun x1 x2 x3 G =>
    if (7 : Int32) ≤ x3 then
      if 0 ≤ x2 then
        okI x2 G
      else
        (D_Mo_fails (2 : Int32) G).bind (fun r => oI r (fun v12 G9 =>
        okI v12 G9) exc)
    else
      bif inb ((9 : Int32) + x3) 156 then
      if (ga G (0, 51) ((9 : Int32) + x3).toNatClampNeg) = (5 : Int32) then
        (L_Mo_levelingBay k) x1 x2 (x3 + (1 : Int32)) G
      else
        (D_Mo_lever x3 x1 G).bind (fun r => oI r (fun v16 G13 =>
        (D_Mo_isBeyond v16 G13).bind (fun r => oI r (fun v20 G17 =>
        if v20 = 0 then
          if x2 < 0 then
            (L_Mo_levelingBay k) x1 x3 (x3 + (1 : Int32)) G17
          else
            (D_Mo_isBetter x3 x2 x1 G17).bind (fun r => oI r (fun v24 G21 =>
            if v24 = 0 then
              (L_Mo_levelingBay k) x1 x2 (x3 + (1 : Int32)) G21
            else
              (L_Mo_levelingBay k) x1 x3 (x3 + (1 : Int32)) G21) exc)
        else
          (L_Mo_levelingBay k) x1 x2 (x3 + (1 : Int32)) G17) exc)) exc)
      else none
def D_Mo_levelingBay (a0 : Int32) (G : GS) : Res :=
  (D_Mo_isBetween a0 (1 : Int32) (20 : Int32) (si G (0, 50) 0 (0 : Int32))).bind (fun r => oI r (fun v4 G1 =>
  if v4 = 0 then
    (D_Mo_fails (1 : Int32) G1).bind (fun r => oI r (fun v8 G5 =>
    okI v8 G5) exc)
  else
    (L_Mo_levelingBay 2000) a0 (-1 : Int32) (0 : Int32) G1) exc)
def D_Mo_port (G : GS) : Res :=
  okI (ga (si G (0, 50) 0 (0 : Int32)) (0, 51) 1) (si G (0, 50) 0 (0 : Int32))
def D_Mo_day (G : GS) : Res :=
  okI (ga (si G (0, 50) 0 (0 : Int32)) (0, 51) 0) (si G (0, 50) 0 (0 : Int32))
def D_Mo_isAscending (G : GS) : Res :=
  if (ga (si G (0, 50) 0 (0 : Int32)) (0, 51) 2) = 0 then
    okI (1 : Int32) (si G (0, 50) 0 (0 : Int32))
  else
    okI (0 : Int32) (si G (0, 50) 0 (0 : Int32))
def L_Mo_legs : Nat → Int32 → Int32 → GS → Res
  | 0 => fun _ _ _ => none
  | k + 1 => fun x1 x2 G =>
    (D_Mo_portBehind x2 G).bind (fun r => oI r (fun v4 G1 =>
    if v4 = x1 then
      okI x2 G1
    else
      (L_Mo_legs k) x1 (x2 + (1 : Int32)) G1) exc)
def D_Mo_legs (a0 : Int32) (G : GS) : Res :=
  (L_Mo_legs 2000) a0 (0 : Int32) G
def D_Mo_legsTo (a0 : Int32) (G : GS) : Res :=
  (D_Mo_isBetween a0 (0 : Int32) (4 : Int32) (si G (0, 50) 0 (0 : Int32))).bind (fun r => oI r (fun v4 G1 =>
  if v4 = 0 then
    (D_Mo_fails (1 : Int32) G1).bind (fun r => oI r (fun v8 G5 =>
    okI v8 G5) exc)
  else
    (D_Mo_legs a0 G1).bind (fun r => oI r (fun v12 G9 =>
    okI v12 G9) exc)) exc)
def D_Mo_portAfter (a0 : Int32) (G : GS) : Res :=
  (D_Mo_isBetween a0 (0 : Int32) (99 : Int32) (si G (0, 50) 0 (0 : Int32))).bind (fun r => oI r (fun v4 G1 =>
  if v4 = 0 then
    (D_Mo_fails (1 : Int32) G1).bind (fun r => oI r (fun v8 G5 =>
    okI v8 G5) exc)
  else
    (D_Mo_portBehind a0 G1).bind (fun r => oI r (fun v12 G9 =>
    okI v12 G9) exc)) exc)
def L_Mo_inTheWay : Nat → Int32 → Int32 → Int32 → Int32 → GS → Res
  | 0 => fun _ _ _ _ _ => none
  | k + 1 => fun x1 x3 x4 x5 G =>
    bif inb ((9 : Int32) + x1) 156 then
    if (ga G (0, 51) ((9 : Int32) + x1).toNatClampNeg) ≤ x5 then
      okI x4 G
    else
      (D_Mo_at x1 x5 (2 : Int32) G).bind (fun r => oI r (fun v12 G9 =>
      (D_Mo_legs v12 G9).bind (fun r => oI r (fun v16 G13 =>
      if v16 ≤ x3 then
        (L_Mo_inTheWay k) x1 x3 (x4 + (0 : Int32)) (x5 + (1 : Int32)) G13
      else
        (L_Mo_inTheWay k) x1 x3 (x4 + (1 : Int32)) (x5 + (1 : Int32)) G13) exc)) exc)
    else none
def D_Mo_inTheWay (a0 : Int32) (a1 : Int32) (G : GS) : Res :=
  (D_Mo_at a0 a1 (2 : Int32) G).bind (fun r => oI r (fun v4 G1 =>
  (D_Mo_legs v4 G1).bind (fun r => oI r (fun v8 G5 =>
  (L_Mo_inTheWay 2000) a0 v8 (0 : Int32) (a1 + (1 : Int32)) G5) exc)) exc)
def D_Mo_pillowsInTheWay (a0 : Int32) (G : GS) : Res :=
  (D_Mo_placeOf a0 (si G (0, 50) 0 (0 : Int32))).bind (fun r => oI r (fun v4 G1 =>
  if 0 ≤ v4 then
    (D_Mo_inTheWay (v4 / (5 : Int32)) (v4 - v4 / (5 : Int32) * (5 : Int32)) G1).bind (fun r => oI r (fun v8 G5 =>
    okI v8 G5) exc)
  else
    (D_Mo_fails (1 : Int32) G1).bind (fun r => oI r (fun v12 G9 =>
    okI v12 G9) exc)) exc)
def L_Mo_pairsInTheWay : Nat → (Int32 → Int32 → GS → Res) × (Int32 → Int32 → Int32 → GS → Res)
  | 0 => (fun _ _ _ => none, fun _ _ _ _ => none)
  | k + 1 => (fun x1 x2 G =>
    if (7 : Int32) ≤ x2 then
      okI x1 G
    else
      (L_Mo_pairsInTheWay k).2 x1 x2 (0 : Int32) G,
    fun x1 x2 x3 G =>
    bif inb ((9 : Int32) + x2) 156 then
    if (ga G (0, 51) ((9 : Int32) + x2).toNatClampNeg) ≤ x3 then
      (L_Mo_pairsInTheWay k).1 x1 (x2 + (1 : Int32)) G
    else
      (D_Mo_inTheWay x2 x3 G).bind (fun r => oI r (fun v4 G1 =>
      (L_Mo_pairsInTheWay k).2 (x1 + v4) x2 (x3 + (1 : Int32)) G1) exc)
    else none)
def D_Mo_pairsInTheWay (G : GS) : Res :=
  (L_Mo_pairsInTheWay 2000).1 (0 : Int32) (0 : Int32) (si G (0, 50) 0 (0 : Int32))
def D_Mo_pairsInTheWayByStacks (G : GS) : Res :=
  (D_Mo_pairsInTheWay G).bind (fun r => oI r (fun v4 G1 =>
  okI v4 G1) exc)
def D_Mo_isAhead (a0 : Int32) (a1 : Int32) (G : GS) : Res :=
  (D_Mo_at (a1 / (5 : Int32)) (a1 - a1 / (5 : Int32) * (5 : Int32)) (2 : Int32) G).bind (fun r => oI r (fun v4 G1 =>
  (D_Mo_legs v4 G1).bind (fun r => oI r (fun v8 G5 =>
  (D_Mo_at (a0 / (5 : Int32)) (a0 - a0 / (5 : Int32) * (5 : Int32)) (2 : Int32) G5).bind (fun r => oI r (fun v12 G9 =>
  (D_Mo_legs v12 G9).bind (fun r => oI r (fun v16 G13 =>
  (D_Mo_at (a1 / (5 : Int32)) (a1 - a1 / (5 : Int32) * (5 : Int32)) (3 : Int32) G13).bind (fun r => oI r (fun v20 G17 =>
  (D_Mo_at (a0 / (5 : Int32)) (a0 - a0 / (5 : Int32) * (5 : Int32)) (3 : Int32) G17).bind (fun r => oI r (fun v24 G21 =>
  if (v8 - v16) = 0 then
    if (v20 - v24) = 0 then
      (D_Mo_at (a0 / (5 : Int32)) (a0 - a0 / (5 : Int32) * (5 : Int32)) (0 : Int32) G21).bind (fun r => oI r (fun v28 G25 =>
      (D_Mo_at (a1 / (5 : Int32)) (a1 - a1 / (5 : Int32) * (5 : Int32)) (0 : Int32) G25).bind (fun r => oI r (fun v32 G29 =>
      if v32 ≤ v28 then
        okI (0 : Int32) G29
      else
        okI (1 : Int32) G29) exc)) exc)
    else
      if (v20 - v24) ≤ 0 then
        okI (0 : Int32) G21
      else
        okI (1 : Int32) G21
  else
    if (v8 - v16) ≤ 0 then
      okI (0 : Int32) G21
    else
      okI (1 : Int32) G21) exc)) exc)) exc)) exc)) exc)) exc)
def D_Mo_isTaken (a0 : Int32) (G : GS) : Res :=
  bif inb ((9 : Int32) + (a0 / (5 : Int32))) 156 then
  if (ga G (0, 51) ((9 : Int32) + (a0 / (5 : Int32))).toNatClampNeg) ≤ (a0 - a0 / (5 : Int32) * (5 : Int32)) then
    okI (0 : Int32) G
  else
    okI (1 : Int32) G
  else none
def L_Mo_unloadableCount : Nat → Int32 → Int32 → GS → Res
  | 0 => fun _ _ _ => none
  | k + 1 => fun x1 x2 G =>
    if (7 : Int32) ≤ x2 then
      okI x1 G
    else
      (D_Mo_notUnload x2 G).bind (fun r => oI r (fun v4 G1 =>
      if v4 = 0 then
        (L_Mo_unloadableCount k) (x1 + (1 : Int32)) (x2 + (1 : Int32)) G1
      else
        (L_Mo_unloadableCount k) (x1 + (0 : Int32)) (x2 + (1 : Int32)) G1) exc)
def D_Mo_unloadableCount (G : GS) : Res :=
  (L_Mo_unloadableCount 2000) (0 : Int32) (0 : Int32) (si G (0, 50) 0 (0 : Int32))
def L_Mo_oldestIn : Nat → Int32 → Int32 → Int32 → GS → Res
  | 0 => fun _ _ _ _ => none
  | k + 1 => fun x1 x2 x3 G =>
    bif inb ((9 : Int32) + x1) 156 then
    if (ga G (0, 51) ((9 : Int32) + x1).toNatClampNeg) ≤ x3 then
      (D_Mo_at x1 x2 (0 : Int32) G).bind (fun r => oI r (fun v16 G13 =>
      okI v16 G13) exc)
    else
      (D_Mo_at x1 x2 (3 : Int32) G).bind (fun r => oI r (fun v20 G17 =>
      (D_Mo_at x1 x3 (3 : Int32) G17).bind (fun r => oI r (fun v24 G21 =>
      if 0 < (v20 - v24) then
        (L_Mo_oldestIn k) x1 x3 (x3 + (1 : Int32)) G21
      else
        if (v20 - v24) = 0 then
          (D_Mo_at x1 x3 (0 : Int32) G21).bind (fun r => oI r (fun v28 G25 =>
          (D_Mo_at x1 x2 (0 : Int32) G25).bind (fun r => oI r (fun v32 G29 =>
          if v32 ≤ v28 then
            (L_Mo_oldestIn k) x1 x2 (x3 + (1 : Int32)) G29
          else
            (L_Mo_oldestIn k) x1 x3 (x3 + (1 : Int32)) G29) exc)) exc)
        else
          (L_Mo_oldestIn k) x1 x2 (x3 + (1 : Int32)) G21) exc)) exc)
    else none
def D_Mo_oldestIn (a0 : Int32) (G : GS) : Res :=
  (D_Mo_isBay a0 (si G (0, 50) 0 (0 : Int32))).bind (fun r => oI r (fun v4 G1 =>
  if v4 = 0 then
    (D_Mo_fails (1 : Int32) G1).bind (fun r => oI r (fun v12 G9 =>
    okI v12 G9) exc)
  else
    bif inb ((9 : Int32) + a0) 156 then
    if (ga G1 (0, 51) ((9 : Int32) + a0).toNatClampNeg) = 0 then
      (D_Mo_fails (2 : Int32) G1).bind (fun r => oI r (fun v8 G5 =>
      okI v8 G5) exc)
    else
      (L_Mo_oldestIn 2000) a0 (0 : Int32) (1 : Int32) G1
    else none) exc)
def L_Mo_heaviestPort : Nat → Int32 → Int32 → GS → Res
  | 0 => fun _ _ _ => none
  | k + 1 => fun x1 x2 G =>
    if (5 : Int32) ≤ x2 then
      okI x1 (si G (0, 50) 0 (0 : Int32))
    else
      (D_Mo_portBehind x2 G).bind (fun r => oI r (fun v12 G9 =>
      (D_Mo_weightFor v12 G9).bind (fun r => oI r (fun v16 G13 =>
      (D_Mo_weightFor x1 G13).bind (fun r => oI r (fun v20 G17 =>
      if v16 ≤ v20 then
        (L_Mo_heaviestPort k) x1 (x2 + (1 : Int32)) G17
      else
        (L_Mo_heaviestPort k) v12 (x2 + (1 : Int32)) G17) exc)) exc)) exc)
def D_Mo_heaviestPort (G : GS) : Res :=
  (D_Mo_countAll G).bind (fun r => oI r (fun v4 G1 =>
  if v4 = 0 then
    (D_Mo_fails (1 : Int32) G1).bind (fun r => oI r (fun v8 G5 =>
    okI v8 G5) exc)
  else
    (L_Mo_heaviestPort 2000) (ga G1 (0, 51) 1) (1 : Int32) G1) exc)
def L_Mo_possibleShifts : Nat → (Int32 → Int32 → GS → Res) × (Int32 → Int32 → Int32 → GS → Res)
  | 0 => (fun _ _ _ => none, fun _ _ _ _ => none)
  | k + 1 => (fun x1 x2 G =>
    if (7 : Int32) ≤ x2 then
      okI x1 G
    else
      (L_Mo_possibleShifts k).2 x1 x2 (0 : Int32) G,
    fun x1 x2 x3 G =>
    if (7 : Int32) ≤ x3 then
      (L_Mo_possibleShifts k).1 x1 (x2 + (1 : Int32)) G
    else
      (D_Mo_notShift x2 x3 G).bind (fun r => oI r (fun v4 G1 =>
      if v4 = 0 then
        (L_Mo_possibleShifts k).2 (x1 + (1 : Int32)) x2 (x3 + (1 : Int32)) G1
      else
        (L_Mo_possibleShifts k).2 (x1 + (0 : Int32)) x2 (x3 + (1 : Int32)) G1) exc))
def D_Mo_possibleShifts (G : GS) : Res :=
  (L_Mo_possibleShifts 2000).1 (0 : Int32) (0 : Int32) (si G (0, 50) 0 (0 : Int32))
def L_Mo_pillowByTurn : Nat → (Int32 → Int32 → GS → Res) × (Int32 → Int32 → Int32 → Int32 → GS → Res)
  | 0 => (fun _ _ _ => none, fun _ _ _ _ _ => none)
  | k + 1 => (fun x1 x2 G =>
    if (35 : Int32) ≤ x2 then
      (D_Mo_fails (1 : Int32) G).bind (fun r => oI r (fun v4 G1 =>
      okI v4 G1) exc)
    else
      (D_Mo_isTaken x2 G).bind (fun r => oI r (fun v8 G5 =>
      if v8 = 0 then
        (L_Mo_pillowByTurn k).1 x1 (x2 + (1 : Int32)) G5
      else
        (L_Mo_pillowByTurn k).2 x1 x2 (0 : Int32) (0 : Int32) G5) exc),
    fun x1 x2 x3 x4 G =>
    if (35 : Int32) ≤ x4 then
      if x3 = x1 then
        (D_Mo_at (x2 / (5 : Int32)) (x2 - x2 / (5 : Int32) * (5 : Int32)) (0 : Int32) G).bind (fun r => oI r (fun v12 G9 =>
        okI v12 G9) exc)
      else
        (L_Mo_pillowByTurn k).1 x1 (x2 + (1 : Int32)) G
    else
      (D_Mo_isTaken x4 G).bind (fun r => oI r (fun v16 G13 =>
      if v16 = 0 then
        (L_Mo_pillowByTurn k).2 x1 x2 (x3 + (0 : Int32)) (x4 + (1 : Int32)) G13
      else
        (D_Mo_isAhead x4 x2 G13).bind (fun r => oI r (fun v20 G17 =>
        if v20 = 0 then
          (L_Mo_pillowByTurn k).2 x1 x2 (x3 + (0 : Int32)) (x4 + (1 : Int32)) G17
        else
          (L_Mo_pillowByTurn k).2 x1 x2 (x3 + (1 : Int32)) (x4 + (1 : Int32)) G17) exc)) exc))
def D_Mo_pillowByTurn (a0 : Int32) (G : GS) : Res :=
  (L_Mo_pillowByTurn 2000).1 a0 (0 : Int32) (si G (0, 50) 0 (0 : Int32))
def L_Mo_bayByWeight : Nat → (Int32 → Int32 → GS → Res) × (Int32 → Int32 → Int32 → Int32 → GS → Res)
  | 0 => (fun _ _ _ => none, fun _ _ _ _ _ => none)
  | k + 1 => (fun x1 x2 G =>
    if (7 : Int32) ≤ x2 then
      (D_Mo_fails (1 : Int32) G).bind (fun r => oI r (fun v4 G1 =>
      okI v4 G1) exc)
    else
      (L_Mo_bayByWeight k).2 x1 x2 (0 : Int32) (0 : Int32) G,
    fun x1 x2 x3 x4 G =>
    if (7 : Int32) ≤ x4 then
      if x3 = x1 then
        okI x2 G
      else
        (L_Mo_bayByWeight k).1 x1 (x2 + (1 : Int32)) G
    else
      (D_Mo_weightOfBay x4 G).bind (fun r => oI r (fun v8 G5 =>
      (D_Mo_weightOfBay x2 G5).bind (fun r => oI r (fun v12 G9 =>
      if 0 < (v8 - v12) then
        (L_Mo_bayByWeight k).2 x1 x2 (x3 + (1 : Int32)) (x4 + (1 : Int32)) G9
      else
        if (v8 - v12) = 0 then
          if x2 ≤ x4 then
            (L_Mo_bayByWeight k).2 x1 x2 (x3 + (0 : Int32)) (x4 + (1 : Int32)) G9
          else
            (L_Mo_bayByWeight k).2 x1 x2 (x3 + (1 : Int32)) (x4 + (1 : Int32)) G9
        else
          (L_Mo_bayByWeight k).2 x1 x2 (x3 + (0 : Int32)) (x4 + (1 : Int32)) G9) exc)) exc))
def D_Mo_bayByWeight (a0 : Int32) (G : GS) : Res :=
  (L_Mo_bayByWeight 2000).1 a0 (0 : Int32) (si G (0, 50) 0 (0 : Int32))
def D_Mo_loadedTotal (G : GS) : Res :=
  okI (ga (si G (0, 50) 0 (0 : Int32)) (0, 51) 4) (si G (0, 50) 0 (0 : Int32))
def D_Mo_deliveredTotal (G : GS) : Res :=
  okI (ga (si G (0, 50) 0 (0 : Int32)) (0, 51) 5) (si G (0, 50) 0 (0 : Int32))
def D_Mo_deliveredWeight (G : GS) : Res :=
  okI (ga (si G (0, 50) 0 (0 : Int32)) (0, 51) 6) (si G (0, 50) 0 (0 : Int32))
def D_Mo_drillTotal (G : GS) : Res :=
  okI (ga (si G (0, 50) 0 (0 : Int32)) (0, 51) 7) (si G (0, 50) 0 (0 : Int32))
def D_Mo_capsizedTotal (G : GS) : Res :=
  okI (ga (si G (0, 50) 0 (0 : Int32)) (0, 51) 8) (si G (0, 50) 0 (0 : Int32))
def L_Mo_meanAge : Nat → Int32 → Int32 → GS → Res
  | 0 => fun _ _ _ => none
  | k + 1 => fun x1 x2 G =>
    if (35 : Int32) ≤ x2 then
      (D_Mo_countAll G).bind (fun r => oI r (fun v12 G9 =>
      if (FP.ddiv (FP.i2d x1) (FP.i2d v12)) &&& 0x7fffffffffffffff ≤ 0x7ff0000000000000 then
      okD (FP.ddiv (FP.i2d x1) (FP.i2d v12)) G9
      else none) exc)
    else
      (D_Mo_isTaken x2 G).bind (fun r => oI r (fun v16 G13 =>
      if v16 = 0 then
        (L_Mo_meanAge k) x1 (x2 + (1 : Int32)) G13
      else
        (D_Mo_at (x2 / (5 : Int32)) (x2 - x2 / (5 : Int32) * (5 : Int32)) (3 : Int32) G13).bind (fun r => oI r (fun v20 G17 =>
        (L_Mo_meanAge k) (x1 + ((ga G13 (0, 51) 0) - v20)) (x2 + (1 : Int32)) G17) exc)) exc)
def D_Mo_meanAge (G : GS) : Res :=
  (D_Mo_countAll (si G (0, 50) 0 (0 : Int32))).bind (fun r => oI r (fun v4 G1 =>
  if v4 = 0 then
    (D_Mo_fails (1 : Int32) G1).bind (fun r => oI r (fun v8 G5 =>
    okD (FP.i2d v8) G5) exc)
  else
    (L_Mo_meanAge 2000) (0 : Int32) (0 : Int32) G1) exc)
def D_Mo_capsizedShare (G : GS) : Res :=
  if (ga (si G (0, 50) 0 (0 : Int32)) (0, 51) 7) = 0 then
    (D_Mo_fails (1 : Int32) (si G (0, 50) 0 (0 : Int32))).bind (fun r => oI r (fun v4 G1 =>
    okF (FP.i2f v4) G1) exc)
  else
    if (FP.fdiv (FP.i2f (ga (si G (0, 50) 0 (0 : Int32)) (0, 51) 8)) (FP.i2f (ga (si G (0, 50) 0 (0 : Int32)) (0, 51) 7))) &&& 0x7fffffff ≤ 0x7f800000 then
    okF (FP.fdiv (FP.i2f (ga (si G (0, 50) 0 (0 : Int32)) (0, 51) 8)) (FP.i2f (ga (si G (0, 50) 0 (0 : Int32)) (0, 51) 7))) (si G (0, 50) 0 (0 : Int32))
    else none
def D_Mo_isConsistent (G : GS) : Res :=
  (D_Mo_isBeyond (0 : Int32) (si G (0, 50) 0 (0 : Int32))).bind (fun r => oI r (fun v4 G1 =>
  if v4 = 0 then
    (D_Mo_countAll G1).bind (fun r => oI r (fun v8 G5 =>
    if (ga G1 (0, 51) 4) = ((ga G1 (0, 51) 5) + v8) then
      okI (1 : Int32) G5
    else
      okI (0 : Int32) G5) exc)
  else
    okI (0 : Int32) G1) exc)
def D_Mo_writes (a0 : Int32) (G : GS) : Res :=
  bif inb (gi G (0, 50) 9) 100 then
  okV (si (sa G (0, 55) (gi G (0, 50) 9).toNatClampNeg (vp_nar .char ((a0.toUInt32 % 65536).toInt32))) (0, 50) 9 ((gi (sa G (0, 55) (gi G (0, 50) 9).toNatClampNeg (vp_nar .char ((a0.toUInt32 % 65536).toInt32))) (0, 50) 9) + (1 : Int32)))
  else none
def L_Mo_writesNumber : Nat → (Int32 → Int32 → GS → Res) × (Int32 → Int32 → GS → Res)
  | 0 => (fun _ _ _ => none, fun _ _ _ => none)
  | k + 1 => (fun x2 x3 G =>
    if x3 = 0 then none else
    if (x2 / x3) ≤ (9 : Int32) then
      (L_Mo_writesNumber k).2 x2 x3 G
    else
      (L_Mo_writesNumber k).1 x2 (x3 * (10 : Int32)) G,
    fun x2 x4 G =>
    if x4 ≤ 0 then
      okV G
    else
      if x4 = 0 then none else
      (D_Mo_writes ((48 : Int32) + ((x2 / x4) - (x2 / x4) / (10 : Int32) * (10 : Int32))) G).bind (fun r => oV r (fun G12 =>
      (L_Mo_writesNumber k).2 x2 (x4 / (10 : Int32)) G12) exc))
def D_Mo_writesNumber (a0 : Int32) (G : GS) : Res :=
  if 0 ≤ a0 then
    (D_Mo_magnitude a0 G).bind (fun r => oI r (fun v4 G1 =>
    (L_Mo_writesNumber 2000).1 v4 (1 : Int32) G1) exc)
  else
    (D_Mo_writes (45 : Int32) G).bind (fun r => oV r (fun G5 =>
    (D_Mo_magnitude a0 G5).bind (fun r => oI r (fun v11 G8 =>
    (L_Mo_writesNumber 2000).1 v11 (1 : Int32) G8) exc)) exc)
def L_Mo_renderStack : Nat → (Int32 → Int32 → GS → Res) × (Int32 → Int32 → GS → Res)
  | 0 => (fun _ _ _ => none, fun _ _ _ => none)
  | k + 1 => (fun x1 x2 G =>
    bif inb ((9 : Int32) + x1) 156 then
    if (ga G (0, 51) ((9 : Int32) + x1).toNatClampNeg) ≤ x2 then
      okI (gi G (0, 50) 9) G
    else
      if x2 ≤ 0 then
        (L_Mo_renderStack k).2 x1 x2 G
      else
        (D_Mo_writes (32 : Int32) G).bind (fun r => oV r (fun G9 =>
        (L_Mo_renderStack k).2 x1 x2 G9) exc)
    else none,
    fun x1 x2 G =>
    (D_Mo_at x1 x2 (0 : Int32) G).bind (fun r => oI r (fun v15 G12 =>
    (D_Mo_writesNumber v15 G12).bind (fun r => oV r (fun G16 =>
    (D_Mo_writes (119 : Int32) G16).bind (fun r => oV r (fun G19 =>
    (D_Mo_at x1 x2 (1 : Int32) G19).bind (fun r => oI r (fun v25 G22 =>
    (D_Mo_writesNumber v25 G22).bind (fun r => oV r (fun G26 =>
    (D_Mo_writes (112 : Int32) G26).bind (fun r => oV r (fun G29 =>
    (D_Mo_at x1 x2 (2 : Int32) G29).bind (fun r => oI r (fun v35 G32 =>
    (D_Mo_writesNumber v35 G32).bind (fun r => oV r (fun G36 =>
    (L_Mo_renderStack k).1 x1 (x2 + (1 : Int32)) G36) exc)) exc)) exc)) exc)) exc)) exc)) exc)) exc))
def D_Mo_renderStack (a0 : Int32) (G : GS) : Res :=
  (D_Mo_isBay a0 (si G (0, 50) 0 (0 : Int32))).bind (fun r => oI r (fun v4 G1 =>
  if v4 = 0 then
    (D_Mo_fails (1 : Int32) G1).bind (fun r => oI r (fun v8 G5 =>
    okI v8 G5) exc)
  else
    (L_Mo_renderStack 2000).1 a0 (0 : Int32) (si G1 (0, 50) 9 (0 : Int32))) exc)
def L_Mo_renderBarge : Nat → Int32 → GS → Res
  | 0 => fun _ _ => none
  | k + 1 => fun x1 G =>
    if (7 : Int32) ≤ x1 then
      (D_Mo_writes (61 : Int32) G).bind (fun r => oV r (fun G1 =>
      (D_Mo_momentNow G1).bind (fun r => oI r (fun v7 G4 =>
      (D_Mo_writesNumber v7 G4).bind (fun r => oV r (fun G8 =>
      okI (gi G8 (0, 50) 9) G8) exc)) exc)) exc)
    else
      if x1 ≤ 0 then
        (D_Mo_weightOfBay x1 G).bind (fun r => oI r (fun v14 G11 =>
        (D_Mo_writesNumber v14 G11).bind (fun r => oV r (fun G15 =>
        (L_Mo_renderBarge k) (x1 + (1 : Int32)) G15) exc)) exc)
      else
        (D_Mo_writes (32 : Int32) G).bind (fun r => oV r (fun G18 =>
        (D_Mo_weightOfBay x1 G18).bind (fun r => oI r (fun v24 G21 =>
        (D_Mo_writesNumber v24 G21).bind (fun r => oV r (fun G25 =>
        (L_Mo_renderBarge k) (x1 + (1 : Int32)) G25) exc)) exc)) exc)
def D_Mo_renderBarge (G : GS) : Res :=
  (L_Mo_renderBarge 2000) (0 : Int32) (si (si G (0, 50) 0 (0 : Int32)) (0, 50) 9 (0 : Int32))
def D_Mo_outputAt (a0 : Int32) (G : GS) : Res :=
  (D_Mo_isBetween a0 (0 : Int32) ((gi (si G (0, 50) 0 (0 : Int32)) (0, 50) 9) - (1 : Int32)) (si G (0, 50) 0 (0 : Int32))).bind (fun r => oI r (fun v4 G1 =>
  if v4 = 0 then
    (D_Mo_fails (1 : Int32) G1).bind (fun r => oI r (fun v8 G5 =>
    okI ((v8.toUInt32 % 65536).toInt32) G5) exc)
  else
    bif inb a0 100 then
    okI (ga G1 (0, 55) a0.toNatClampNeg) G1
    else none) exc)
def D_Mo_type (a0 : Int32) (G : GS) : Res :=
  (D_Mo_isBetween a0 (32 : Int32) (126 : Int32) (si G (0, 50) 0 (0 : Int32))).bind (fun r => oI r (fun v4 G1 =>
  if v4 = 0 then
    (D_Mo_fails (1 : Int32) G1).bind (fun r => oI r (fun v12 G9 =>
    okI v12 G9) exc)
  else
    if (gi G1 (0, 50) 11) = (60 : Int32) then
      (D_Mo_fails (2 : Int32) G1).bind (fun r => oI r (fun v8 G5 =>
      okI v8 G5) exc)
    else
      bif inb (gi G1 (0, 50) 11) 60 then
      okI (gi (si (sa G1 (0, 56) (gi G1 (0, 50) 11).toNatClampNeg (vp_nar .char a0)) (0, 50) 11 ((gi (sa G1 (0, 56) (gi G1 (0, 50) 11).toNatClampNeg (vp_nar .char a0)) (0, 50) 11) + (1 : Int32))) (0, 50) 11) (si (sa G1 (0, 56) (gi G1 (0, 50) 11).toNatClampNeg (vp_nar .char a0)) (0, 50) 11 ((gi (sa G1 (0, 56) (gi G1 (0, 50) 11).toNatClampNeg (vp_nar .char a0)) (0, 50) 11) + (1 : Int32)))
      else none) exc)
def D_Mo_nextChar (G : GS) : Res :=
  if (gi G (0, 50) 11) ≤ (gi G (0, 50) 12) then
    okI (-1 : Int32) G
  else
    bif inb (gi G (0, 50) 12) 60 then
    okI (ga G (0, 56) (gi G (0, 50) 12).toNatClampNeg) G
    else none
def D_Mo_reads (a0 : Int32) (G : GS) : Res :=
  (D_Mo_nextChar G).bind (fun r => oI r (fun v4 G1 =>
  if v4 = a0 then
    okI (1 : Int32) (si G1 (0, 50) 12 ((gi G1 (0, 50) 12) + (1 : Int32)))
  else
    okI (0 : Int32) G1) exc)
def D_Mo_readsDigit (a0 : Int32) (G : GS) : Res :=
  (D_Mo_nextChar G).bind (fun r => oI r (fun v4 G1 =>
  (D_Mo_isBetween v4 (48 : Int32) (57 : Int32) G1).bind (fun r => oI r (fun v8 G5 =>
  if v8 = 0 then
    okI (0 : Int32) G5
  else
    (D_Mo_nextChar G5).bind (fun r => oI r (fun v12 G9 =>
    bif inb a0 3 then
    okI (1 : Int32) (si (sa G9 (0, 57) a0.toNatClampNeg (v12 - (48 : Int32))) (0, 50) 12 ((gi (sa G9 (0, 57) a0.toNatClampNeg (v12 - (48 : Int32))) (0, 50) 12) + (1 : Int32)))
    else none) exc)) exc)) exc)
def D_Mo_readsNumber (a0 : Int32) (G : GS) : Res :=
  (D_Mo_readsDigit a0 G).bind (fun r => oI r (fun v4 G1 =>
  if v4 = 0 then
    okI (0 : Int32) G1
  else
    (D_Mo_nextChar G1).bind (fun r => oI r (fun v8 G5 =>
    (D_Mo_isBetween v8 (48 : Int32) (57 : Int32) G5).bind (fun r => oI r (fun v12 G9 =>
    if v12 = 0 then
      okI (1 : Int32) G9
    else
      bif inb a0 3 then
      (D_Mo_nextChar G9).bind (fun r => oI r (fun v16 G13 =>
      bif inb a0 3 then
      okI (1 : Int32) (si (sa G13 (0, 57) a0.toNatClampNeg ((((10 : Int32) * (ga G9 (0, 57) a0.toNatClampNeg)) + v16) - (48 : Int32))) (0, 50) 12 ((gi (sa G13 (0, 57) a0.toNatClampNeg ((((10 : Int32) * (ga G9 (0, 57) a0.toNatClampNeg)) + v16) - (48 : Int32))) (0, 50) 12) + (1 : Int32)))
      else none) exc)
      else none) exc)) exc)) exc)
def D_Mo_readsL (G : GS) : Res :=
  (D_Mo_reads (111 : Int32) G).bind (fun r => oI r (fun v4 G1 =>
  if v4 = 0 then
    (D_Mo_reads (105 : Int32) (si G1 (0, 50) 16 (109 : Int32))).bind (fun r => oI r (fun v8 G5 =>
    if v8 = 0 then
      okI (0 : Int32) G5
    else
      (D_Mo_reads (109 : Int32) G5).bind (fun r => oI r (fun v12 G9 =>
      if v12 = 0 then
        okI (0 : Int32) G9
      else
        (D_Mo_reads (105 : Int32) G9).bind (fun r => oI r (fun v16 G13 =>
        if v16 = 0 then
          okI (0 : Int32) G13
        else
          (D_Mo_reads (116 : Int32) G13).bind (fun r => oI r (fun v20 G17 =>
          if v20 = 0 then
            okI (0 : Int32) G17
          else
            (D_Mo_reads (32 : Int32) G17).bind (fun r => oI r (fun v24 G21 =>
            if v24 = 0 then
              okI (0 : Int32) G21
            else
              (D_Mo_readsNumber (0 : Int32) G21).bind (fun r => oI r (fun v28 G25 =>
              if v28 = 0 then
                okI (0 : Int32) G25
              else
                okI (1 : Int32) G25) exc)) exc)) exc)) exc)) exc)) exc)
  else
    (D_Mo_reads (97 : Int32) G1).bind (fun r => oI r (fun v32 G29 =>
    if v32 = 0 then
      okI (0 : Int32) G29
    else
      (D_Mo_reads (100 : Int32) G29).bind (fun r => oI r (fun v36 G33 =>
      if v36 = 0 then
        okI (0 : Int32) G33
      else
        (D_Mo_reads (32 : Int32) G33).bind (fun r => oI r (fun v40 G37 =>
        if v40 = 0 then
          okI (0 : Int32) G37
        else
          (D_Mo_readsDigit (0 : Int32) G37).bind (fun r => oI r (fun v44 G41 =>
          if v44 = 0 then
            okI (0 : Int32) G41
          else
            (D_Mo_reads (32 : Int32) G41).bind (fun r => oI r (fun v48 G45 =>
            if v48 = 0 then
              okI (0 : Int32) G45
            else
              (D_Mo_readsNumber (1 : Int32) G45).bind (fun r => oI r (fun v52 G49 =>
              if v52 = 0 then
                okI (0 : Int32) G49
              else
                (D_Mo_reads (32 : Int32) G49).bind (fun r => oI r (fun v56 G53 =>
                if v56 = 0 then
                  okI (0 : Int32) G53
                else
                  (D_Mo_readsDigit (2 : Int32) G53).bind (fun r => oI r (fun v60 G57 =>
                  if v60 = 0 then
                    okI (0 : Int32) G57
                  else
                    okI (1 : Int32) G57) exc)) exc)) exc)) exc)) exc)) exc)) exc)) exc)) exc)
def D_Mo_readsS (G : GS) : Res :=
  (D_Mo_reads (104 : Int32) G).bind (fun r => oI r (fun v4 G1 =>
  if v4 = 0 then
    (D_Mo_reads (97 : Int32) (si G1 (0, 50) 16 (97 : Int32))).bind (fun r => oI r (fun v8 G5 =>
    if v8 = 0 then
      okI (0 : Int32) G5
    else
      (D_Mo_reads (105 : Int32) G5).bind (fun r => oI r (fun v12 G9 =>
      if v12 = 0 then
        okI (0 : Int32) G9
      else
        (D_Mo_reads (108 : Int32) G9).bind (fun r => oI r (fun v16 G13 =>
        if v16 = 0 then
          okI (0 : Int32) G13
        else
          (D_Mo_reads (32 : Int32) (sa G13 (0, 57) 0 (1 : Int32))).bind (fun r => oI r (fun v20 G17 =>
          if v20 = 0 then
            okI (1 : Int32) G17
          else
            (D_Mo_readsNumber (0 : Int32) G17).bind (fun r => oI r (fun v24 G21 =>
            if v24 = 0 then
              okI (0 : Int32) G21
            else
              okI (1 : Int32) G21) exc)) exc)) exc)) exc)) exc)
  else
    (D_Mo_reads (105 : Int32) G1).bind (fun r => oI r (fun v28 G25 =>
    if v28 = 0 then
      okI (0 : Int32) G25
    else
      (D_Mo_reads (102 : Int32) G25).bind (fun r => oI r (fun v32 G29 =>
      if v32 = 0 then
        okI (0 : Int32) G29
      else
        (D_Mo_reads (116 : Int32) G29).bind (fun r => oI r (fun v36 G33 =>
        if v36 = 0 then
          okI (0 : Int32) G33
        else
          (D_Mo_reads (32 : Int32) G33).bind (fun r => oI r (fun v40 G37 =>
          if v40 = 0 then
            okI (0 : Int32) G37
          else
            (D_Mo_readsDigit (0 : Int32) G37).bind (fun r => oI r (fun v44 G41 =>
            if v44 = 0 then
              okI (0 : Int32) G41
            else
              (D_Mo_reads (32 : Int32) G41).bind (fun r => oI r (fun v48 G45 =>
              if v48 = 0 then
                okI (0 : Int32) G45
              else
                (D_Mo_readsDigit (1 : Int32) G45).bind (fun r => oI r (fun v52 G49 =>
                if v52 = 0 then
                  okI (0 : Int32) G49
                else
                  okI (1 : Int32) G49) exc)) exc)) exc)) exc)) exc)) exc)) exc)) exc)
def D_Mo_readsDrill (G : GS) : Res :=
  (D_Mo_reads (114 : Int32) G).bind (fun r => oI r (fun v4 G1 =>
  if v4 = 0 then
    okI (0 : Int32) G1
  else
    (D_Mo_reads (105 : Int32) G1).bind (fun r => oI r (fun v8 G5 =>
    if v8 = 0 then
      okI (0 : Int32) G5
    else
      (D_Mo_reads (108 : Int32) G5).bind (fun r => oI r (fun v12 G9 =>
      if v12 = 0 then
        okI (0 : Int32) G9
      else
        (D_Mo_reads (108 : Int32) G9).bind (fun r => oI r (fun v16 G13 =>
        if v16 = 0 then
          okI (0 : Int32) G13
        else
          (D_Mo_reads (32 : Int32) G13).bind (fun r => oI r (fun v20 G17 =>
          if v20 = 0 then
            okI (0 : Int32) G17
          else
            (D_Mo_reads (45 : Int32) G17).bind (fun r => oI r (fun v24 G21 =>
            (D_Mo_readsNumber (0 : Int32) G21).bind (fun r => oI r (fun v28 G25 =>
            if v28 = 0 then
              okI (0 : Int32) G25
            else
              if v24 = 0 then
                okI (1 : Int32) G25
              else
                okI (1 : Int32) (sa G25 (0, 57) 0 (-(ga G25 (0, 57) 0)))) exc)) exc)) exc)) exc)) exc)) exc)) exc)
def D_Mo_readsCommand (G : GS) : Res :=
  (D_Mo_nextChar G).bind (fun r => oI r (fun v4 G1 =>
  (D_Mo_reads (108 : Int32) (si G1 (0, 50) 16 v4)).bind (fun r => oI r (fun v8 G5 =>
  if v8 = 0 then
    (D_Mo_reads (117 : Int32) G5).bind (fun r => oI r (fun v12 G9 =>
    if v12 = 0 then
      (D_Mo_reads (115 : Int32) G9).bind (fun r => oI r (fun v16 G13 =>
      if v16 = 0 then
        (D_Mo_reads (100 : Int32) G13).bind (fun r => oI r (fun v20 G17 =>
        if v20 = 0 then
          (D_Mo_reads (116 : Int32) G17).bind (fun r => oI r (fun v24 G21 =>
          if v24 = 0 then
            okI (0 : Int32) G21
          else
            (D_Mo_reads (117 : Int32) G21).bind (fun r => oI r (fun v28 G25 =>
            if v28 = 0 then
              okI (0 : Int32) G25
            else
              (D_Mo_reads (114 : Int32) G25).bind (fun r => oI r (fun v32 G29 =>
              if v32 = 0 then
                okI (0 : Int32) G29
              else
                (D_Mo_reads (110 : Int32) G29).bind (fun r => oI r (fun v36 G33 =>
                if v36 = 0 then
                  okI (0 : Int32) G33
                else
                  okI (1 : Int32) G33) exc)) exc)) exc)) exc)
        else
          (D_Mo_readsDrill G17).bind (fun r => oI r (fun v40 G37 =>
          okI v40 G37) exc)) exc)
      else
        (D_Mo_readsS G13).bind (fun r => oI r (fun v44 G41 =>
        okI v44 G41) exc)) exc)
    else
      (D_Mo_reads (110 : Int32) G9).bind (fun r => oI r (fun v48 G45 =>
      if v48 = 0 then
        okI (0 : Int32) G45
      else
        (D_Mo_reads (108 : Int32) G45).bind (fun r => oI r (fun v52 G49 =>
        if v52 = 0 then
          okI (0 : Int32) G49
        else
          (D_Mo_reads (111 : Int32) G49).bind (fun r => oI r (fun v56 G53 =>
          if v56 = 0 then
            okI (0 : Int32) G53
          else
            (D_Mo_reads (97 : Int32) G53).bind (fun r => oI r (fun v60 G57 =>
            if v60 = 0 then
              okI (0 : Int32) G57
            else
              (D_Mo_reads (100 : Int32) G57).bind (fun r => oI r (fun v64 G61 =>
              if v64 = 0 then
                okI (0 : Int32) G61
              else
                (D_Mo_reads (32 : Int32) G61).bind (fun r => oI r (fun v68 G65 =>
                if v68 = 0 then
                  okI (0 : Int32) G65
                else
                  (D_Mo_readsDigit (0 : Int32) G65).bind (fun r => oI r (fun v72 G69 =>
                  if v72 = 0 then
                    okI (0 : Int32) G69
                  else
                    okI (1 : Int32) G69) exc)) exc)) exc)) exc)) exc)) exc)) exc)) exc)
  else
    (D_Mo_readsL G5).bind (fun r => oI r (fun v76 G73 =>
    okI v76 G73) exc)) exc)) exc)
def L_Mo_readsAll : Nat → Int32 → GS → Res
  | 0 => fun _ _ => none
  | k + 1 => fun x1 G =>
    if x1 = 0 then
      if (gi G (0, 50) 12) = (gi G (0, 50) 11) then
        okI (1 : Int32) G
      else
        okI (0 : Int32) G
    else
      (D_Mo_readsCommand G).bind (fun r => oI r (fun v4 G1 =>
      if v4 = 0 then
        okI (0 : Int32) G1
      else
        (D_Mo_reads (59 : Int32) G1).bind (fun r => oI r (fun v8 G5 =>
        (L_Mo_readsAll k) v8 G5) exc)) exc)
def D_Mo_readsAll (G : GS) : Res :=
  (L_Mo_readsAll 2000) (1 : Int32) (si G (0, 50) 12 (0 : Int32))
def D_Mo_notNow (G : GS) : Res :=
  if (gi G (0, 50) 16) = (97 : Int32) then
    (D_Mo_notSail (ga G (0, 57) 0) G).bind (fun r => oI r (fun v4 G1 =>
    okI v4 G1) exc)
  else if (gi G (0, 50) 16) = (100 : Int32) then
    (D_Mo_notDrill (ga G (0, 57) 0) G).bind (fun r => oI r (fun v8 G5 =>
    okI v8 G5) exc)
  else if (gi G (0, 50) 16) = (108 : Int32) then
    (D_Mo_notLoad (ga G (0, 57) 0) (ga G (0, 57) 1) (ga G (0, 57) 2) G).bind (fun r => oI r (fun v12 G9 =>
    okI v12 G9) exc)
  else if (gi G (0, 50) 16) = (109 : Int32) then
    (D_Mo_notLimit (ga G (0, 57) 0) G).bind (fun r => oI r (fun v16 G13 =>
    okI v16 G13) exc)
  else if (gi G (0, 50) 16) = (115 : Int32) then
    (D_Mo_notShift (ga G (0, 57) 0) (ga G (0, 57) 1) G).bind (fun r => oI r (fun v20 G17 =>
    okI v20 G17) exc)
  else if (gi G (0, 50) 16) = (117 : Int32) then
    (D_Mo_notUnload (ga G (0, 57) 0) G).bind (fun r => oI r (fun v24 G21 =>
    okI v24 G21) exc)
  else 
    okI (0 : Int32) G
def D_Mo_doesNow (G : GS) : Res :=
  if (gi G (0, 50) 16) = (97 : Int32) then
    (D_Mo_sails (ga G (0, 57) 0) G).bind (fun r => oI r (fun v4 G1 =>
    okI v4 G1) exc)
  else if (gi G (0, 50) 16) = (100 : Int32) then
    (D_Mo_drills (ga G (0, 57) 0) G).bind (fun r => oI r (fun v8 G5 =>
    okI v8 G5) exc)
  else if (gi G (0, 50) 16) = (108 : Int32) then
    (D_Mo_loads (ga G (0, 57) 0) (ga G (0, 57) 1) (ga G (0, 57) 2) G).bind (fun r => oI r (fun v12 G9 =>
    okI v12 G9) exc)
  else if (gi G (0, 50) 16) = (109 : Int32) then
    (D_Mo_setsLimit (ga G (0, 57) 0) G).bind (fun r => oI r (fun v16 G13 =>
    okI v16 G13) exc)
  else if (gi G (0, 50) 16) = (115 : Int32) then
    (D_Mo_shifts (ga G (0, 57) 0) (ga G (0, 57) 1) G).bind (fun r => oI r (fun v20 G17 =>
    okI v20 G17) exc)
  else if (gi G (0, 50) 16) = (117 : Int32) then
    (D_Mo_unloads (ga G (0, 57) 0) G).bind (fun r => oI r (fun v24 G21 =>
    okI v24 G21) exc)
  else 
    (D_Mo_turns G).bind (fun r => oI r (fun v28 G25 =>
    okI v28 G25) exc)
def L_Mo_doesAll : Nat → Int32 → GS → Res
  | 0 => fun _ _ => none
  | k + 1 => fun x1 G =>
    if x1 = 0 then
      okI (1 : Int32) G
    else
      (D_Mo_readsCommand G).bind (fun r => oI r (fun v4 G1 =>
      (D_Mo_notNow G1).bind (fun r => oI r (fun v8 G5 =>
      if v8 = 0 then
        (D_Mo_doesNow G5).bind (fun r => oI r (fun v12 G9 =>
        (D_Mo_reads (59 : Int32) (si G9 (0, 50) 17 ((gi G9 (0, 50) 17) + (1 : Int32)))).bind (fun r => oI r (fun v16 G13 =>
        (L_Mo_doesAll k) v16 G13) exc)) exc)
      else
        okI (0 : Int32) G5) exc)) exc)
def D_Mo_doesAll (G : GS) : Res :=
  (L_Mo_doesAll 2000) (1 : Int32) (si (si G (0, 50) 17 (0 : Int32)) (0, 50) 12 (0 : Int32))
def D_Mo_runScript (G : GS) : Res :=
  (D_Mo_readsAll (si G (0, 50) 0 (0 : Int32))).bind (fun r => oI r (fun v4 G1 =>
  if v4 = 0 then
    (D_Mo_fails (1 : Int32) (si (si G1 (0, 50) 13 (gi G1 (0, 50) 12)) (0, 50) 11 (0 : Int32))).bind (fun r => oI r (fun v25 G22 =>
    okI v25 G22) exc)
  else
    (D_Mo_copies G1).bind (fun r => oV r (fun G5 =>
    (D_Mo_doesAll G5).bind (fun r => oI r (fun v11 G8 =>
    if v11 = 0 then
      (D_Mo_goesBack (si G8 (0, 50) 11 (0 : Int32))).bind (fun r => oV r (fun G12 =>
      (D_Mo_fails (2 : Int32) (si G12 (0, 50) 14 (gi G12 (0, 50) 17))).bind (fun r => oI r (fun v18 G15 =>
      okI v18 G15) exc)) exc)
    else
      (D_Mo_keeps (si G8 (0, 50) 11 (0 : Int32))).bind (fun r => oV r (fun G19 =>
      okI (gi G19 (0, 50) 17) G19) exc)) exc)) exc)) exc)
def D_Mo_errorPosition (G : GS) : Res :=
  if 0 ≤ (gi (si G (0, 50) 0 (0 : Int32)) (0, 50) 13) then
    okI (gi (si G (0, 50) 0 (0 : Int32)) (0, 50) 13) (si G (0, 50) 0 (0 : Int32))
  else
    (D_Mo_fails (1 : Int32) (si G (0, 50) 0 (0 : Int32))).bind (fun r => oI r (fun v4 G1 =>
    okI v4 G1) exc)
def D_Mo_failedCommand (G : GS) : Res :=
  if 0 ≤ (gi (si G (0, 50) 0 (0 : Int32)) (0, 50) 14) then
    okI (gi (si G (0, 50) 0 (0 : Int32)) (0, 50) 14) (si G (0, 50) 0 (0 : Int32))
  else
    (D_Mo_fails (1 : Int32) (si G (0, 50) 0 (0 : Int32))).bind (fun r => oI r (fun v4 G1 =>
    okI v4 G1) exc)
def L_Mo_undo : Nat → Int32 → Int32 → GS → Res
  | 0 => fun _ _ _ => none
  | k + 1 => fun x1 x2 G =>
    if (156 : Int32) ≤ x2 then
      okI (gi G (0, 50) 5) G
    else
      bif inb (((156 : Int32) * x1) + x2) 1248 then
      bif inb x2 156 then
      (L_Mo_undo k) x1 (x2 + (1 : Int32)) (sa G (0, 51) x2.toNatClampNeg (ga G (0, 52) (((156 : Int32) * x1) + x2).toNatClampNeg))
      else none
      else none
def D_Mo_undo (G : GS) : Res :=
  if (gi (si G (0, 50) 0 (0 : Int32)) (0, 50) 5) = 0 then
    (D_Mo_fails (1 : Int32) (si G (0, 50) 0 (0 : Int32))).bind (fun r => oI r (fun v4 G1 =>
    okI v4 G1) exc)
  else
    (L_Mo_undo 2000) (((gi (si (si G (0, 50) 0 (0 : Int32)) (0, 50) 5 ((gi (si G (0, 50) 0 (0 : Int32)) (0, 50) 5) - (1 : Int32))) (0, 50) 6) + (gi (si (si G (0, 50) 0 (0 : Int32)) (0, 50) 5 ((gi (si G (0, 50) 0 (0 : Int32)) (0, 50) 5) - (1 : Int32))) (0, 50) 5)) - ((gi (si (si G (0, 50) 0 (0 : Int32)) (0, 50) 5 ((gi (si G (0, 50) 0 (0 : Int32)) (0, 50) 5) - (1 : Int32))) (0, 50) 6) + (gi (si (si G (0, 50) 0 (0 : Int32)) (0, 50) 5 ((gi (si G (0, 50) 0 (0 : Int32)) (0, 50) 5) - (1 : Int32))) (0, 50) 5)) / (8 : Int32) * (8 : Int32)) (0 : Int32) (si (si G (0, 50) 0 (0 : Int32)) (0, 50) 5 ((gi (si G (0, 50) 0 (0 : Int32)) (0, 50) 5) - (1 : Int32)))
def L_Mo_save : Nat → Int32 → GS → Res
  | 0 => fun _ _ => none
  | k + 1 => fun x1 G =>
    if (156 : Int32) ≤ x1 then
      (D_Mo_countAll (si G (0, 50) 7 (1 : Int32))).bind (fun r => oI r (fun v4 G1 =>
      okI v4 G1) exc)
    else
      bif inb x1 156 then
      bif inb x1 156 then
      (L_Mo_save k) (x1 + (1 : Int32)) (sa G (0, 53) x1.toNatClampNeg (ga G (0, 51) x1.toNatClampNeg))
      else none
      else none
def D_Mo_save (G : GS) : Res :=
  (L_Mo_save 2000) (0 : Int32) (si G (0, 50) 0 (0 : Int32))
def L_Mo_restore : Nat → Int32 → GS → Res
  | 0 => fun _ _ => none
  | k + 1 => fun x1 G =>
    if (156 : Int32) ≤ x1 then
      (D_Mo_countAll (si (si G (0, 50) 5 (0 : Int32)) (0, 50) 6 (0 : Int32))).bind (fun r => oI r (fun v8 G5 =>
      okI v8 G5) exc)
    else
      bif inb x1 156 then
      bif inb x1 156 then
      (L_Mo_restore k) (x1 + (1 : Int32)) (sa G (0, 51) x1.toNatClampNeg (ga G (0, 53) x1.toNatClampNeg))
      else none
      else none
def D_Mo_restore (G : GS) : Res :=
  if (gi (si G (0, 50) 0 (0 : Int32)) (0, 50) 7) = 0 then
    (D_Mo_fails (1 : Int32) (si G (0, 50) 0 (0 : Int32))).bind (fun r => oI r (fun v4 G1 =>
    okI v4 G1) exc)
  else
    (L_Mo_restore 2000) (0 : Int32) (si G (0, 50) 0 (0 : Int32))
end
section
/-! Every method as a function (printed by gen/emit.py from the class files). -/
def D_Law_load (a1 : Int32) (a2 : Int32) (a3 : Int32) (G : GS) : Res :=
  (D_PB_load a1 a2 a3 G).bind (fun r => oI r (fun v4 G1 =>
  okI (0 : Int32) (so_ G1 v4.toInt64)) (fun e2 G3 => if e2 = 1 then okI (1 : Int32) G3 else if e2 = 2 then okI (2 : Int32) G3 else if e2 = 4 then okI (3 : Int32) G3 else if e2 = 5 then okI (4 : Int32) G3 else exc e2 G3))
def D_Law_unload (a1 : Int32) (G : GS) : Res :=
  (D_PB_unload a1 G).bind (fun r => oI r (fun v4 G1 =>
  okI (0 : Int32) (so_ G1 v4.toInt64)) (fun e2 G3 => if e2 = 1 then okI (1 : Int32) G3 else if e2 = 3 then okI (2 : Int32) G3 else if e2 = 4 then okI (3 : Int32) G3 else if e2 = 5 then okI (4 : Int32) G3 else exc e2 G3))
def D_Law_shift (a1 : Int32) (a2 : Int32) (G : GS) : Res :=
  (D_PB_shift a1 a2 G).bind (fun r => oI r (fun v4 G1 =>
  okI (0 : Int32) (so_ G1 v4.toInt64)) (fun e2 G3 => if e2 = 1 then okI (1 : Int32) G3 else if e2 = 2 then okI (2 : Int32) G3 else if e2 = 3 then okI (3 : Int32) G3 else if e2 = 4 then okI (4 : Int32) G3 else if e2 = 5 then okI (5 : Int32) G3 else exc e2 G3))
def D_Law_sail (a1 : Int32) (G : GS) : Res :=
  (D_PB_sail a1 G).bind (fun r => oI r (fun v4 G1 =>
  okI (0 : Int32) (so_ G1 v4.toInt64)) (fun e2 G3 => if e2 = 2 then okI (1 : Int32) G3 else exc e2 G3))
def D_Law_setLimit (a1 : Int32) (G : GS) : Res :=
  (D_PB_setLimit a1 G).bind (fun r => oI r (fun v4 G1 =>
  okI (0 : Int32) (so_ G1 v4.toInt64)) (fun e2 G3 => if e2 = 2 then okI (1 : Int32) G3 else if e2 = 5 then okI (2 : Int32) G3 else exc e2 G3))
def D_Law_drill (a1 : Int32) (G : GS) : Res :=
  (D_PB_drill a1 G).bind (fun r => oI r (fun v4 G1 =>
  if v4 = 0 then
    okI (0 : Int32) (so_ G1 (0 : Int64))
  else
    okI (0 : Int32) (so_ G1 (1 : Int64))) (fun e2 G3 => if e2 = 2 then okI (1 : Int32) G3 else exc e2 G3))
def D_Law_stackHeight (a1 : Int32) (G : GS) : Res :=
  (D_PB_stackHeight a1 G).bind (fun r => oI r (fun v4 G1 =>
  okI (0 : Int32) (so_ G1 v4.toInt64)) (fun e2 G3 => if e2 = 1 then okI (1 : Int32) G3 else exc e2 G3))
def D_Law_pillowAt (a1 : Int32) (a2 : Int32) (G : GS) : Res :=
  (D_PB_pillowAt a1 a2 G).bind (fun r => oI r (fun v4 G1 =>
  okI (0 : Int32) (so_ G1 v4.toInt64)) (fun e2 G3 => if e2 = 1 then okI (1 : Int32) G3 else if e2 = 3 then okI (2 : Int32) G3 else exc e2 G3))
def D_Law_weightOf (a1 : Int32) (G : GS) : Res :=
  (D_PB_weightOf a1 G).bind (fun r => oI r (fun v4 G1 =>
  okI (0 : Int32) (so_ G1 v4.toInt64)) (fun e2 G3 => if e2 = 3 then okI (1 : Int32) G3 else exc e2 G3))
def D_Law_destinationOf (a1 : Int32) (G : GS) : Res :=
  (D_PB_destinationOf a1 G).bind (fun r => oI r (fun v4 G1 =>
  okI (0 : Int32) (so_ G1 v4.toInt64)) (fun e2 G3 => if e2 = 3 then okI (1 : Int32) G3 else exc e2 G3))
def D_Law_bayOf (a1 : Int32) (G : GS) : Res :=
  (D_PB_bayOf a1 G).bind (fun r => oI r (fun v4 G1 =>
  okI (0 : Int32) (so_ G1 v4.toInt64)) (fun e2 G3 => if e2 = 3 then okI (1 : Int32) G3 else exc e2 G3))
def D_Law_positionOf (a1 : Int32) (G : GS) : Res :=
  (D_PB_positionOf a1 G).bind (fun r => oI r (fun v4 G1 =>
  okI (0 : Int32) (so_ G1 v4.toInt64)) (fun e2 G3 => if e2 = 3 then okI (1 : Int32) G3 else exc e2 G3))
def D_Law_ageOf (a1 : Int32) (G : GS) : Res :=
  (D_PB_ageOf a1 G).bind (fun r => oI r (fun v4 G1 =>
  okI (0 : Int32) (so_ G1 v4.toInt64)) (fun e2 G3 => if e2 = 3 then okI (1 : Int32) G3 else exc e2 G3))
def D_Law_weightFor (a1 : Int32) (G : GS) : Res :=
  (D_PB_weightFor a1 G).bind (fun r => oI r (fun v4 G1 =>
  okI (0 : Int32) (so_ G1 v4.toInt64)) (fun e2 G3 => if e2 = 1 then okI (1 : Int32) G3 else exc e2 G3))
def D_Law_levelingBay (a1 : Int32) (G : GS) : Res :=
  (D_PB_levelingBay a1 G).bind (fun r => oI r (fun v4 G1 =>
  okI (0 : Int32) (so_ G1 v4.toInt64)) (fun e2 G3 => if e2 = 2 then okI (1 : Int32) G3 else if e2 = 3 then okI (2 : Int32) G3 else exc e2 G3))
def D_Law_legsTo (a1 : Int32) (G : GS) : Res :=
  (D_PB_legsTo a1 G).bind (fun r => oI r (fun v4 G1 =>
  okI (0 : Int32) (so_ G1 v4.toInt64)) (fun e2 G3 => if e2 = 1 then okI (1 : Int32) G3 else exc e2 G3))
def D_Law_portAfter (a1 : Int32) (G : GS) : Res :=
  (D_PB_portAfter a1 G).bind (fun r => oI r (fun v4 G1 =>
  okI (0 : Int32) (so_ G1 v4.toInt64)) (fun e2 G3 => if e2 = 2 then okI (1 : Int32) G3 else exc e2 G3))
def D_Law_pillowsInTheWay (a1 : Int32) (G : GS) : Res :=
  (D_PB_pillowsInTheWay a1 G).bind (fun r => oI r (fun v4 G1 =>
  okI (0 : Int32) (so_ G1 v4.toInt64)) (fun e2 G3 => if e2 = 3 then okI (1 : Int32) G3 else exc e2 G3))
def D_Law_oldestIn (a1 : Int32) (G : GS) : Res :=
  (D_PB_oldestIn a1 G).bind (fun r => oI r (fun v4 G1 =>
  okI (0 : Int32) (so_ G1 v4.toInt64)) (fun e2 G3 => if e2 = 1 then okI (1 : Int32) G3 else if e2 = 3 then okI (2 : Int32) G3 else exc e2 G3))
def D_Law_heaviestPort (G : GS) : Res :=
  (D_PB_heaviestPort G).bind (fun r => oI r (fun v4 G1 =>
  okI (0 : Int32) (so_ G1 v4.toInt64)) (fun e2 G3 => if e2 = 3 then okI (1 : Int32) G3 else exc e2 G3))
def D_Law_pillowByTurn (a1 : Int32) (G : GS) : Res :=
  (D_PB_pillowByTurn a1 G).bind (fun r => oI r (fun v4 G1 =>
  okI (0 : Int32) (so_ G1 v4.toInt64)) (fun e2 G3 => if e2 = 3 then okI (1 : Int32) G3 else exc e2 G3))
def D_Law_bayByWeight (a1 : Int32) (G : GS) : Res :=
  (D_PB_bayByWeight a1 G).bind (fun r => oI r (fun v4 G1 =>
  okI (0 : Int32) (so_ G1 v4.toInt64)) (fun e2 G3 => if e2 = 3 then okI (1 : Int32) G3 else exc e2 G3))
def D_Law_meanAge (G : GS) : Res :=
  (D_PB_meanAge G).bind (fun r => oD r (fun v4 G1 =>
  okI (0 : Int32) (sd_ G1 v4)) (fun e2 G3 => if e2 = 6 then okI (1 : Int32) G3 else exc e2 G3))
def D_Law_capsizedShare (G : GS) : Res :=
  (D_PB_capsizedShare G).bind (fun r => oF r (fun v4 G1 =>
  if (FP.f2d v4) &&& 0x7fffffffffffffff ≤ 0x7ff0000000000000 then
  okI (0 : Int32) (sd_ G1 (FP.f2d v4))
  else none) (fun e2 G3 => if e2 = 6 then okI (1 : Int32) G3 else exc e2 G3))
def D_Law_renderStack (a1 : Int32) (G : GS) : Res :=
  (D_PB_renderStack a1 G).bind (fun r => oI r (fun v4 G1 =>
  okI (0 : Int32) (so_ G1 v4.toInt64)) (fun e2 G3 => if e2 = 1 then okI (1 : Int32) G3 else exc e2 G3))
def D_Law_outputAt (a1 : Int32) (G : GS) : Res :=
  (D_PB_outputAt a1 G).bind (fun r => oI r (fun v4 G1 =>
  okI (0 : Int32) (so_ G1 v4.toInt64)) (fun e2 G3 => if e2 = 1 then okI (1 : Int32) G3 else exc e2 G3))
def D_Law_type (a1 : Int32) (G : GS) : Res :=
  (D_PB_type a1 G).bind (fun r => oI r (fun v4 G1 =>
  okI (0 : Int32) (so_ G1 v4.toInt64)) (fun e2 G3 => if e2 = 2 then okI (1 : Int32) G3 else if e2 = 4 then okI (2 : Int32) G3 else exc e2 G3))
def D_Law_runScript (G : GS) : Res :=
  (D_PB_runScript G).bind (fun r => oI r (fun v4 G1 =>
  okI (0 : Int32) (so_ G1 v4.toInt64)) (fun e2 G3 => if e2 = 2 then okI (1 : Int32) G3 else if e2 = 4 then okI (2 : Int32) G3 else exc e2 G3))
def D_Law_errorPosition (G : GS) : Res :=
  (D_PB_errorPosition G).bind (fun r => oI r (fun v4 G1 =>
  okI (0 : Int32) (so_ G1 v4.toInt64)) (fun e2 G3 => if e2 = 3 then okI (1 : Int32) G3 else exc e2 G3))
def D_Law_failedCommand (G : GS) : Res :=
  (D_PB_failedCommand G).bind (fun r => oI r (fun v4 G1 =>
  okI (0 : Int32) (so_ G1 v4.toInt64)) (fun e2 G3 => if e2 = 3 then okI (1 : Int32) G3 else exc e2 G3))
def D_Law_undo (G : GS) : Res :=
  (D_PB_undo G).bind (fun r => oI r (fun v4 G1 =>
  okI (0 : Int32) (so_ G1 v4.toInt64)) (fun e2 G3 => if e2 = 3 then okI (1 : Int32) G3 else exc e2 G3))
def D_Law_restore (G : GS) : Res :=
  (D_PB_restore G).bind (fun r => oI r (fun v4 G1 =>
  okI (0 : Int32) (so_ G1 v4.toInt64)) (fun e2 G3 => if e2 = 4 then okI (1 : Int32) G3 else exc e2 G3))
end
