/-! The law's helpers (printed by gen/run5.py) -/
set_option maxRecDepth 100000
theorem wd_1108 : (Cond.methodLink RL 7 yX6_load) ∈ lw_all := all_at 1108 (by decide +kernel) rfl
theorem wd_1109 : (Cond.instanceMethod yX6_load) ∈ lw_all := all_at 1109 (by decide +kernel) rfl
theorem wd_1110 : (Cond.selects RX6 yX6_load yX6_load) ∈ lw_all := all_at 1110 (by decide +kernel) rfl
theorem wd_1111 : (Cond.code yX6_load cX6_load 4 (some .int)) ∈ lw_all := all_at 1111 (by decide +kernel) rfl
theorem wd_1116 : (Cond.methodLink RL 21 yX6_unload) ∈ lw_all := all_at 1116 (by decide +kernel) rfl
theorem wd_1117 : (Cond.instanceMethod yX6_unload) ∈ lw_all := all_at 1117 (by decide +kernel) rfl
theorem wd_1118 : (Cond.selects RX6 yX6_unload yX6_unload) ∈ lw_all := all_at 1118 (by decide +kernel) rfl
theorem wd_1119 : (Cond.code yX6_unload cX6_unload 2 (some .int)) ∈ lw_all := all_at 1119 (by decide +kernel) rfl
theorem wd_1123 : (Cond.methodLink RL 27 yX6_shift) ∈ lw_all := all_at 1123 (by decide +kernel) rfl
theorem wd_1124 : (Cond.instanceMethod yX6_shift) ∈ lw_all := all_at 1124 (by decide +kernel) rfl
theorem wd_1125 : (Cond.selects RX6 yX6_shift yX6_shift) ∈ lw_all := all_at 1125 (by decide +kernel) rfl
theorem wd_1126 : (Cond.code yX6_shift cX6_shift 3 (some .int)) ∈ lw_all := all_at 1126 (by decide +kernel) rfl
theorem wd_1130 : (Cond.methodLink RL 31 yX6_sail) ∈ lw_all := all_at 1130 (by decide +kernel) rfl
theorem wd_1131 : (Cond.instanceMethod yX6_sail) ∈ lw_all := all_at 1131 (by decide +kernel) rfl
theorem wd_1132 : (Cond.selects RX6 yX6_sail yX6_sail) ∈ lw_all := all_at 1132 (by decide +kernel) rfl
theorem wd_1133 : (Cond.code yX6_sail cX6_sail 2 (some .int)) ∈ lw_all := all_at 1133 (by decide +kernel) rfl
theorem wd_1137 : (Cond.methodLink RL 34 yX6_setLimit) ∈ lw_all := all_at 1137 (by decide +kernel) rfl
theorem wd_1138 : (Cond.instanceMethod yX6_setLimit) ∈ lw_all := all_at 1138 (by decide +kernel) rfl
theorem wd_1139 : (Cond.selects RX6 yX6_setLimit yX6_setLimit) ∈ lw_all := all_at 1139 (by decide +kernel) rfl
theorem wd_1140 : (Cond.code yX6_setLimit cX6_setLimit 2 (some .int)) ∈ lw_all := all_at 1140 (by decide +kernel) rfl
theorem wd_1144 : (Cond.methodLink RL 37 yX6_drill) ∈ lw_all := all_at 1144 (by decide +kernel) rfl
theorem wd_1145 : (Cond.instanceMethod yX6_drill) ∈ lw_all := all_at 1145 (by decide +kernel) rfl
theorem wd_1146 : (Cond.selects RX6 yX6_drill yX6_drill) ∈ lw_all := all_at 1146 (by decide +kernel) rfl
theorem wd_1147 : (Cond.code yX6_drill cX6_drill 2 (some .boolean)) ∈ lw_all := all_at 1147 (by decide +kernel) rfl
theorem wd_1151 : (Cond.methodLink RL 41 yX6_stackHeight) ∈ lw_all := all_at 1151 (by decide +kernel) rfl
theorem wd_1152 : (Cond.instanceMethod yX6_stackHeight) ∈ lw_all := all_at 1152 (by decide +kernel) rfl
theorem wd_1153 : (Cond.selects RX6 yX6_stackHeight yX6_stackHeight) ∈ lw_all := all_at 1153 (by decide +kernel) rfl
theorem wd_1154 : (Cond.code yX6_stackHeight cX6_stackHeight 2 (some .int)) ∈ lw_all := all_at 1154 (by decide +kernel) rfl
theorem wd_1163 : (Cond.methodLink RL 44 yX6_pillowAt) ∈ lw_all := all_at 1163 (by decide +kernel) rfl
theorem wd_1164 : (Cond.instanceMethod yX6_pillowAt) ∈ lw_all := all_at 1164 (by decide +kernel) rfl
theorem wd_1165 : (Cond.selects RX6 yX6_pillowAt yX6_pillowAt) ∈ lw_all := all_at 1165 (by decide +kernel) rfl
theorem wd_1166 : (Cond.code yX6_pillowAt cX6_pillowAt 4 (some .int)) ∈ lw_all := all_at 1166 (by decide +kernel) rfl
theorem wd_1174 : (Cond.methodLink RL 47 yX6_weightOf) ∈ lw_all := all_at 1174 (by decide +kernel) rfl
theorem wd_1175 : (Cond.instanceMethod yX6_weightOf) ∈ lw_all := all_at 1175 (by decide +kernel) rfl
theorem wd_1176 : (Cond.selects RX6 yX6_weightOf yX6_weightOf) ∈ lw_all := all_at 1176 (by decide +kernel) rfl
theorem wd_1177 : (Cond.code yX6_weightOf cX6_weightOf 2 (some .int)) ∈ lw_all := all_at 1177 (by decide +kernel) rfl
theorem wd_1190 : (Cond.methodLink RL 50 yX6_destinationOf) ∈ lw_all := all_at 1190 (by decide +kernel) rfl
theorem wd_1191 : (Cond.instanceMethod yX6_destinationOf) ∈ lw_all := all_at 1191 (by decide +kernel) rfl
theorem wd_1192 : (Cond.selects RX6 yX6_destinationOf yX6_destinationOf) ∈ lw_all := all_at 1192 (by decide +kernel) rfl
theorem wd_1193 : (Cond.code yX6_destinationOf cX6_destinationOf 2 (some .int)) ∈ lw_all := all_at 1193 (by decide +kernel) rfl
theorem wd_1198 : (Cond.methodLink RL 53 yX6_bayOf) ∈ lw_all := all_at 1198 (by decide +kernel) rfl
theorem wd_1199 : (Cond.instanceMethod yX6_bayOf) ∈ lw_all := all_at 1199 (by decide +kernel) rfl
theorem wd_1200 : (Cond.selects RX6 yX6_bayOf yX6_bayOf) ∈ lw_all := all_at 1200 (by decide +kernel) rfl
theorem wd_1201 : (Cond.code yX6_bayOf cX6_bayOf 2 (some .int)) ∈ lw_all := all_at 1201 (by decide +kernel) rfl
theorem wd_1205 : (Cond.methodLink RL 56 yX6_positionOf) ∈ lw_all := all_at 1205 (by decide +kernel) rfl
theorem wd_1206 : (Cond.instanceMethod yX6_positionOf) ∈ lw_all := all_at 1206 (by decide +kernel) rfl
theorem wd_1207 : (Cond.selects RX6 yX6_positionOf yX6_positionOf) ∈ lw_all := all_at 1207 (by decide +kernel) rfl
theorem wd_1208 : (Cond.code yX6_positionOf cX6_positionOf 2 (some .int)) ∈ lw_all := all_at 1208 (by decide +kernel) rfl
theorem wd_1212 : (Cond.methodLink RL 59 yX6_ageOf) ∈ lw_all := all_at 1212 (by decide +kernel) rfl
theorem wd_1213 : (Cond.instanceMethod yX6_ageOf) ∈ lw_all := all_at 1213 (by decide +kernel) rfl
theorem wd_1214 : (Cond.selects RX6 yX6_ageOf yX6_ageOf) ∈ lw_all := all_at 1214 (by decide +kernel) rfl
theorem wd_1215 : (Cond.code yX6_ageOf cX6_ageOf 2 (some .int)) ∈ lw_all := all_at 1215 (by decide +kernel) rfl
theorem wd_1223 : (Cond.methodLink RL 62 yX6_weightFor) ∈ lw_all := all_at 1223 (by decide +kernel) rfl
theorem wd_1224 : (Cond.instanceMethod yX6_weightFor) ∈ lw_all := all_at 1224 (by decide +kernel) rfl
theorem wd_1225 : (Cond.selects RX6 yX6_weightFor yX6_weightFor) ∈ lw_all := all_at 1225 (by decide +kernel) rfl
theorem wd_1226 : (Cond.code yX6_weightFor cX6_weightFor 2 (some .int)) ∈ lw_all := all_at 1226 (by decide +kernel) rfl
theorem wd_1237 : (Cond.methodLink RL 65 yX6_levelingBay) ∈ lw_all := all_at 1237 (by decide +kernel) rfl
theorem wd_1238 : (Cond.instanceMethod yX6_levelingBay) ∈ lw_all := all_at 1238 (by decide +kernel) rfl
theorem wd_1239 : (Cond.selects RX6 yX6_levelingBay yX6_levelingBay) ∈ lw_all := all_at 1239 (by decide +kernel) rfl
theorem wd_1240 : (Cond.code yX6_levelingBay cX6_levelingBay 3 (some .int)) ∈ lw_all := all_at 1240 (by decide +kernel) rfl
theorem wd_1256 : (Cond.methodLink RL 68 yX6_legsTo) ∈ lw_all := all_at 1256 (by decide +kernel) rfl
theorem wd_1257 : (Cond.instanceMethod yX6_legsTo) ∈ lw_all := all_at 1257 (by decide +kernel) rfl
theorem wd_1258 : (Cond.selects RX6 yX6_legsTo yX6_legsTo) ∈ lw_all := all_at 1258 (by decide +kernel) rfl
theorem wd_1259 : (Cond.code yX6_legsTo cX6_legsTo 2 (some .int)) ∈ lw_all := all_at 1259 (by decide +kernel) rfl
theorem wd_1264 : (Cond.methodLink RL 71 yX6_portAfter) ∈ lw_all := all_at 1264 (by decide +kernel) rfl
theorem wd_1265 : (Cond.instanceMethod yX6_portAfter) ∈ lw_all := all_at 1265 (by decide +kernel) rfl
theorem wd_1266 : (Cond.selects RX6 yX6_portAfter yX6_portAfter) ∈ lw_all := all_at 1266 (by decide +kernel) rfl
theorem wd_1267 : (Cond.code yX6_portAfter cX6_portAfter 2 (some .int)) ∈ lw_all := all_at 1267 (by decide +kernel) rfl
theorem wd_1272 : (Cond.methodLink RL 74 yX6_pillowsInTheWay) ∈ lw_all := all_at 1272 (by decide +kernel) rfl
theorem wd_1273 : (Cond.instanceMethod yX6_pillowsInTheWay) ∈ lw_all := all_at 1273 (by decide +kernel) rfl
theorem wd_1274 : (Cond.selects RX6 yX6_pillowsInTheWay yX6_pillowsInTheWay) ∈ lw_all := all_at 1274 (by decide +kernel) rfl
theorem wd_1275 : (Cond.code yX6_pillowsInTheWay cX6_pillowsInTheWay 2 (some .int)) ∈ lw_all := all_at 1275 (by decide +kernel) rfl
theorem wd_1279 : (Cond.methodLink RL 77 yX6_oldestIn) ∈ lw_all := all_at 1279 (by decide +kernel) rfl
theorem wd_1280 : (Cond.instanceMethod yX6_oldestIn) ∈ lw_all := all_at 1280 (by decide +kernel) rfl
theorem wd_1281 : (Cond.selects RX6 yX6_oldestIn yX6_oldestIn) ∈ lw_all := all_at 1281 (by decide +kernel) rfl
theorem wd_1282 : (Cond.code yX6_oldestIn cX6_oldestIn 3 (some .int)) ∈ lw_all := all_at 1282 (by decide +kernel) rfl
theorem wd_1294 : (Cond.methodLink RL 80 yX6_heaviestPort) ∈ lw_all := all_at 1294 (by decide +kernel) rfl
theorem wd_1295 : (Cond.instanceMethod yX6_heaviestPort) ∈ lw_all := all_at 1295 (by decide +kernel) rfl
theorem wd_1296 : (Cond.selects RX6 yX6_heaviestPort yX6_heaviestPort) ∈ lw_all := all_at 1296 (by decide +kernel) rfl
theorem wd_1297 : (Cond.code yX6_heaviestPort cX6_heaviestPort 4 (some .int)) ∈ lw_all := all_at 1297 (by decide +kernel) rfl
theorem wd_1301 : (Cond.methodLink RL 84 yX6_pillowByTurn) ∈ lw_all := all_at 1301 (by decide +kernel) rfl
theorem wd_1302 : (Cond.instanceMethod yX6_pillowByTurn) ∈ lw_all := all_at 1302 (by decide +kernel) rfl
theorem wd_1303 : (Cond.selects RX6 yX6_pillowByTurn yX6_pillowByTurn) ∈ lw_all := all_at 1303 (by decide +kernel) rfl
theorem wd_1304 : (Cond.code yX6_pillowByTurn cX6_pillowByTurn 3 (some .int)) ∈ lw_all := all_at 1304 (by decide +kernel) rfl
theorem wd_1316 : (Cond.methodLink RL 87 yX6_bayByWeight) ∈ lw_all := all_at 1316 (by decide +kernel) rfl
theorem wd_1317 : (Cond.instanceMethod yX6_bayByWeight) ∈ lw_all := all_at 1317 (by decide +kernel) rfl
theorem wd_1318 : (Cond.selects RX6 yX6_bayByWeight yX6_bayByWeight) ∈ lw_all := all_at 1318 (by decide +kernel) rfl
theorem wd_1319 : (Cond.code yX6_bayByWeight cX6_bayByWeight 3 (some .int)) ∈ lw_all := all_at 1319 (by decide +kernel) rfl
theorem wd_1341 : (Cond.methodLink RL 90 yX6_meanAge) ∈ lw_all := all_at 1341 (by decide +kernel) rfl
theorem wd_1342 : (Cond.instanceMethod yX6_meanAge) ∈ lw_all := all_at 1342 (by decide +kernel) rfl
theorem wd_1343 : (Cond.selects RX6 yX6_meanAge yX6_meanAge) ∈ lw_all := all_at 1343 (by decide +kernel) rfl
theorem wd_1344 : (Cond.code yX6_meanAge cX6_meanAge 2 (some .double)) ∈ lw_all := all_at 1344 (by decide +kernel) rfl
theorem wd_1357 : (Cond.methodLink RL 96 yX6_capsizedShare) ∈ lw_all := all_at 1357 (by decide +kernel) rfl
theorem wd_1358 : (Cond.instanceMethod yX6_capsizedShare) ∈ lw_all := all_at 1358 (by decide +kernel) rfl
theorem wd_1359 : (Cond.selects RX6 yX6_capsizedShare yX6_capsizedShare) ∈ lw_all := all_at 1359 (by decide +kernel) rfl
theorem wd_1360 : (Cond.code yX6_capsizedShare cX6_capsizedShare 2 (some .float)) ∈ lw_all := all_at 1360 (by decide +kernel) rfl
theorem wd_1364 : (Cond.methodLink RL 100 yX6_renderStack) ∈ lw_all := all_at 1364 (by decide +kernel) rfl
theorem wd_1365 : (Cond.instanceMethod yX6_renderStack) ∈ lw_all := all_at 1365 (by decide +kernel) rfl
theorem wd_1366 : (Cond.selects RX6 yX6_renderStack yX6_renderStack) ∈ lw_all := all_at 1366 (by decide +kernel) rfl
theorem wd_1367 : (Cond.code yX6_renderStack cX6_renderStack 4 (some .int)) ∈ lw_all := all_at 1367 (by decide +kernel) rfl
theorem wd_1375 : (Cond.methodLink RL 103 yX6_outputAt) ∈ lw_all := all_at 1375 (by decide +kernel) rfl
theorem wd_1376 : (Cond.instanceMethod yX6_outputAt) ∈ lw_all := all_at 1376 (by decide +kernel) rfl
theorem wd_1377 : (Cond.selects RX6 yX6_outputAt yX6_outputAt) ∈ lw_all := all_at 1377 (by decide +kernel) rfl
theorem wd_1378 : (Cond.code yX6_outputAt cX6_outputAt 2 (some .char)) ∈ lw_all := all_at 1378 (by decide +kernel) rfl
theorem wd_1392 : (Cond.methodLink RL 107 yX6_type) ∈ lw_all := all_at 1392 (by decide +kernel) rfl
theorem wd_1393 : (Cond.instanceMethod yX6_type) ∈ lw_all := all_at 1393 (by decide +kernel) rfl
theorem wd_1394 : (Cond.selects RX6 yX6_type yX6_type) ∈ lw_all := all_at 1394 (by decide +kernel) rfl
theorem wd_1395 : (Cond.code yX6_type cX6_type 2 (some .int)) ∈ lw_all := all_at 1395 (by decide +kernel) rfl
theorem wd_1407 : (Cond.methodLink RL 111 yX6_runScript) ∈ lw_all := all_at 1407 (by decide +kernel) rfl
theorem wd_1408 : (Cond.instanceMethod yX6_runScript) ∈ lw_all := all_at 1408 (by decide +kernel) rfl
theorem wd_1409 : (Cond.selects RX6 yX6_runScript yX6_runScript) ∈ lw_all := all_at 1409 (by decide +kernel) rfl
theorem wd_1410 : (Cond.code yX6_runScript cX6_runScript 3 (some .int)) ∈ lw_all := all_at 1410 (by decide +kernel) rfl
theorem wd_1506 : (Cond.methodLink RL 114 yX6_errorPosition) ∈ lw_all := all_at 1506 (by decide +kernel) rfl
theorem wd_1507 : (Cond.instanceMethod yX6_errorPosition) ∈ lw_all := all_at 1507 (by decide +kernel) rfl
theorem wd_1508 : (Cond.selects RX6 yX6_errorPosition yX6_errorPosition) ∈ lw_all := all_at 1508 (by decide +kernel) rfl
theorem wd_1509 : (Cond.code yX6_errorPosition cX6_errorPosition 1 (some .int)) ∈ lw_all := all_at 1509 (by decide +kernel) rfl
theorem wd_1513 : (Cond.methodLink RL 117 yX6_failedCommand) ∈ lw_all := all_at 1513 (by decide +kernel) rfl
theorem wd_1514 : (Cond.instanceMethod yX6_failedCommand) ∈ lw_all := all_at 1514 (by decide +kernel) rfl
theorem wd_1515 : (Cond.selects RX6 yX6_failedCommand yX6_failedCommand) ∈ lw_all := all_at 1515 (by decide +kernel) rfl
theorem wd_1516 : (Cond.code yX6_failedCommand cX6_failedCommand 1 (some .int)) ∈ lw_all := all_at 1516 (by decide +kernel) rfl
theorem wd_1520 : (Cond.methodLink RL 120 yX6_undo) ∈ lw_all := all_at 1520 (by decide +kernel) rfl
theorem wd_1521 : (Cond.instanceMethod yX6_undo) ∈ lw_all := all_at 1521 (by decide +kernel) rfl
theorem wd_1522 : (Cond.selects RX6 yX6_undo yX6_undo) ∈ lw_all := all_at 1522 (by decide +kernel) rfl
theorem wd_1523 : (Cond.code yX6_undo cX6_undo 1 (some .int)) ∈ lw_all := all_at 1523 (by decide +kernel) rfl
theorem wd_1532 : (Cond.methodLink RL 123 yX6_restore) ∈ lw_all := all_at 1532 (by decide +kernel) rfl
theorem wd_1533 : (Cond.instanceMethod yX6_restore) ∈ lw_all := all_at 1533 (by decide +kernel) rfl
theorem wd_1534 : (Cond.selects RX6 yX6_restore yX6_restore) ∈ lw_all := all_at 1534 (by decide +kernel) rfl
theorem wd_1535 : (Cond.code yX6_restore cX6_restore 1 (some .int)) ∈ lw_all := all_at 1535 (by decide +kernel) rfl
theorem ro_Law_load (kk : Nat) : RunOK 1 6 T_Law_load (call_Law_load kk) hd_Law_load (bk_Law_load kk) kk (A_Law_load kk) := by
  refine ⟨fun as G r h => ?_, fun pc ls st G r h => ?_, fun k pc ls st G r h => ?_⟩
  · unfold A_Law_load at h
    split at h
    · exact ⟨by simp [ai_cat, Value.category], Nat.le_of_ble_eq_true rfl, fun sc => (R_Law_load sc kk _ _ _ G).trans h⟩
    · cases h
  · cases h
  · cases h
theorem ro_Law_unload (kk : Nat) : RunOK 1 4 T_Law_unload (call_Law_unload kk) hd_Law_unload (bk_Law_unload kk) kk (A_Law_unload kk) := by
  refine ⟨fun as G r h => ?_, fun pc ls st G r h => ?_, fun k pc ls st G r h => ?_⟩
  · unfold A_Law_unload at h
    split at h
    · exact ⟨by simp [ai_cat, Value.category], Nat.le_of_ble_eq_true rfl, fun sc => (R_Law_unload sc kk _ G).trans h⟩
    · cases h
  · cases h
  · cases h
theorem ro_Law_shift (kk : Nat) : RunOK 1 5 T_Law_shift (call_Law_shift kk) hd_Law_shift (bk_Law_shift kk) kk (A_Law_shift kk) := by
  refine ⟨fun as G r h => ?_, fun pc ls st G r h => ?_, fun k pc ls st G r h => ?_⟩
  · unfold A_Law_shift at h
    split at h
    · exact ⟨by simp [ai_cat, Value.category], Nat.le_of_ble_eq_true rfl, fun sc => (R_Law_shift sc kk _ _ G).trans h⟩
    · cases h
  · cases h
  · cases h
theorem ro_Law_sail (kk : Nat) : RunOK 1 4 T_Law_sail (call_Law_sail kk) hd_Law_sail (bk_Law_sail kk) kk (A_Law_sail kk) := by
  refine ⟨fun as G r h => ?_, fun pc ls st G r h => ?_, fun k pc ls st G r h => ?_⟩
  · unfold A_Law_sail at h
    split at h
    · exact ⟨by simp [ai_cat, Value.category], Nat.le_of_ble_eq_true rfl, fun sc => (R_Law_sail sc kk _ G).trans h⟩
    · cases h
  · cases h
  · cases h
theorem ro_Law_setLimit (kk : Nat) : RunOK 1 4 T_Law_setLimit (call_Law_setLimit kk) hd_Law_setLimit (bk_Law_setLimit kk) kk (A_Law_setLimit kk) := by
  refine ⟨fun as G r h => ?_, fun pc ls st G r h => ?_, fun k pc ls st G r h => ?_⟩
  · unfold A_Law_setLimit at h
    split at h
    · exact ⟨by simp [ai_cat, Value.category], Nat.le_of_ble_eq_true rfl, fun sc => (R_Law_setLimit sc kk _ G).trans h⟩
    · cases h
  · cases h
  · cases h
theorem ro_Law_drill (kk : Nat) : RunOK 1 4 T_Law_drill (call_Law_drill kk) hd_Law_drill (bk_Law_drill kk) kk (A_Law_drill kk) := by
  refine ⟨fun as G r h => ?_, fun pc ls st G r h => ?_, fun k pc ls st G r h => ?_⟩
  · unfold A_Law_drill at h
    split at h
    · exact ⟨by simp [ai_cat, Value.category], Nat.le_of_ble_eq_true rfl, fun sc => (R_Law_drill sc kk _ G).trans h⟩
    · cases h
  · cases h
  · cases h
theorem ro_Law_stackHeight (kk : Nat) : RunOK 1 4 T_Law_stackHeight (call_Law_stackHeight kk) hd_Law_stackHeight (bk_Law_stackHeight kk) kk (A_Law_stackHeight kk) := by
  refine ⟨fun as G r h => ?_, fun pc ls st G r h => ?_, fun k pc ls st G r h => ?_⟩
  · unfold A_Law_stackHeight at h
    split at h
    · exact ⟨by simp [ai_cat, Value.category], Nat.le_of_ble_eq_true rfl, fun sc => (R_Law_stackHeight sc kk _ G).trans h⟩
    · cases h
  · cases h
  · cases h
theorem ro_Law_pillowAt (kk : Nat) : RunOK 2 5 T_Law_pillowAt (call_Law_pillowAt kk) hd_Law_pillowAt (bk_Law_pillowAt kk) kk (A_Law_pillowAt kk) := by
  refine ⟨fun as G r h => ?_, fun pc ls st G r h => ?_, fun k pc ls st G r h => ?_⟩
  · unfold A_Law_pillowAt at h
    split at h
    · exact ⟨by simp [ai_cat, Value.category], Nat.le_of_ble_eq_true rfl, fun sc => (R_Law_pillowAt sc kk _ _ G).trans h⟩
    · cases h
  · cases h
  · cases h
theorem ro_Law_weightOf (kk : Nat) : RunOK 1 4 T_Law_weightOf (call_Law_weightOf kk) hd_Law_weightOf (bk_Law_weightOf kk) kk (A_Law_weightOf kk) := by
  refine ⟨fun as G r h => ?_, fun pc ls st G r h => ?_, fun k pc ls st G r h => ?_⟩
  · unfold A_Law_weightOf at h
    split at h
    · exact ⟨by simp [ai_cat, Value.category], Nat.le_of_ble_eq_true rfl, fun sc => (R_Law_weightOf sc kk _ G).trans h⟩
    · cases h
  · cases h
  · cases h
theorem ro_Law_destinationOf (kk : Nat) : RunOK 1 4 T_Law_destinationOf (call_Law_destinationOf kk) hd_Law_destinationOf (bk_Law_destinationOf kk) kk (A_Law_destinationOf kk) := by
  refine ⟨fun as G r h => ?_, fun pc ls st G r h => ?_, fun k pc ls st G r h => ?_⟩
  · unfold A_Law_destinationOf at h
    split at h
    · exact ⟨by simp [ai_cat, Value.category], Nat.le_of_ble_eq_true rfl, fun sc => (R_Law_destinationOf sc kk _ G).trans h⟩
    · cases h
  · cases h
  · cases h
theorem ro_Law_bayOf (kk : Nat) : RunOK 1 4 T_Law_bayOf (call_Law_bayOf kk) hd_Law_bayOf (bk_Law_bayOf kk) kk (A_Law_bayOf kk) := by
  refine ⟨fun as G r h => ?_, fun pc ls st G r h => ?_, fun k pc ls st G r h => ?_⟩
  · unfold A_Law_bayOf at h
    split at h
    · exact ⟨by simp [ai_cat, Value.category], Nat.le_of_ble_eq_true rfl, fun sc => (R_Law_bayOf sc kk _ G).trans h⟩
    · cases h
  · cases h
  · cases h
theorem ro_Law_positionOf (kk : Nat) : RunOK 1 4 T_Law_positionOf (call_Law_positionOf kk) hd_Law_positionOf (bk_Law_positionOf kk) kk (A_Law_positionOf kk) := by
  refine ⟨fun as G r h => ?_, fun pc ls st G r h => ?_, fun k pc ls st G r h => ?_⟩
  · unfold A_Law_positionOf at h
    split at h
    · exact ⟨by simp [ai_cat, Value.category], Nat.le_of_ble_eq_true rfl, fun sc => (R_Law_positionOf sc kk _ G).trans h⟩
    · cases h
  · cases h
  · cases h
theorem ro_Law_ageOf (kk : Nat) : RunOK 1 4 T_Law_ageOf (call_Law_ageOf kk) hd_Law_ageOf (bk_Law_ageOf kk) kk (A_Law_ageOf kk) := by
  refine ⟨fun as G r h => ?_, fun pc ls st G r h => ?_, fun k pc ls st G r h => ?_⟩
  · unfold A_Law_ageOf at h
    split at h
    · exact ⟨by simp [ai_cat, Value.category], Nat.le_of_ble_eq_true rfl, fun sc => (R_Law_ageOf sc kk _ G).trans h⟩
    · cases h
  · cases h
  · cases h
theorem ro_Law_weightFor (kk : Nat) : RunOK 1 4 T_Law_weightFor (call_Law_weightFor kk) hd_Law_weightFor (bk_Law_weightFor kk) kk (A_Law_weightFor kk) := by
  refine ⟨fun as G r h => ?_, fun pc ls st G r h => ?_, fun k pc ls st G r h => ?_⟩
  · unfold A_Law_weightFor at h
    split at h
    · exact ⟨by simp [ai_cat, Value.category], Nat.le_of_ble_eq_true rfl, fun sc => (R_Law_weightFor sc kk _ G).trans h⟩
    · cases h
  · cases h
  · cases h
theorem ro_Law_levelingBay (kk : Nat) : RunOK 1 4 T_Law_levelingBay (call_Law_levelingBay kk) hd_Law_levelingBay (bk_Law_levelingBay kk) kk (A_Law_levelingBay kk) := by
  refine ⟨fun as G r h => ?_, fun pc ls st G r h => ?_, fun k pc ls st G r h => ?_⟩
  · unfold A_Law_levelingBay at h
    split at h
    · exact ⟨by simp [ai_cat, Value.category], Nat.le_of_ble_eq_true rfl, fun sc => (R_Law_levelingBay sc kk _ G).trans h⟩
    · cases h
  · cases h
  · cases h
theorem ro_Law_legsTo (kk : Nat) : RunOK 1 4 T_Law_legsTo (call_Law_legsTo kk) hd_Law_legsTo (bk_Law_legsTo kk) kk (A_Law_legsTo kk) := by
  refine ⟨fun as G r h => ?_, fun pc ls st G r h => ?_, fun k pc ls st G r h => ?_⟩
  · unfold A_Law_legsTo at h
    split at h
    · exact ⟨by simp [ai_cat, Value.category], Nat.le_of_ble_eq_true rfl, fun sc => (R_Law_legsTo sc kk _ G).trans h⟩
    · cases h
  · cases h
  · cases h
theorem ro_Law_portAfter (kk : Nat) : RunOK 1 4 T_Law_portAfter (call_Law_portAfter kk) hd_Law_portAfter (bk_Law_portAfter kk) kk (A_Law_portAfter kk) := by
  refine ⟨fun as G r h => ?_, fun pc ls st G r h => ?_, fun k pc ls st G r h => ?_⟩
  · unfold A_Law_portAfter at h
    split at h
    · exact ⟨by simp [ai_cat, Value.category], Nat.le_of_ble_eq_true rfl, fun sc => (R_Law_portAfter sc kk _ G).trans h⟩
    · cases h
  · cases h
  · cases h
theorem ro_Law_pillowsInTheWay (kk : Nat) : RunOK 1 4 T_Law_pillowsInTheWay (call_Law_pillowsInTheWay kk) hd_Law_pillowsInTheWay (bk_Law_pillowsInTheWay kk) kk (A_Law_pillowsInTheWay kk) := by
  refine ⟨fun as G r h => ?_, fun pc ls st G r h => ?_, fun k pc ls st G r h => ?_⟩
  · unfold A_Law_pillowsInTheWay at h
    split at h
    · exact ⟨by simp [ai_cat, Value.category], Nat.le_of_ble_eq_true rfl, fun sc => (R_Law_pillowsInTheWay sc kk _ G).trans h⟩
    · cases h
  · cases h
  · cases h
theorem ro_Law_oldestIn (kk : Nat) : RunOK 2 4 T_Law_oldestIn (call_Law_oldestIn kk) hd_Law_oldestIn (bk_Law_oldestIn kk) kk (A_Law_oldestIn kk) := by
  refine ⟨fun as G r h => ?_, fun pc ls st G r h => ?_, fun k pc ls st G r h => ?_⟩
  · unfold A_Law_oldestIn at h
    split at h
    · exact ⟨by simp [ai_cat, Value.category], Nat.le_of_ble_eq_true rfl, fun sc => (R_Law_oldestIn sc kk _ G).trans h⟩
    · cases h
  · cases h
  · cases h
theorem ro_Law_heaviestPort (kk : Nat) : RunOK 9 3 T_Law_heaviestPort (call_Law_heaviestPort kk) hd_Law_heaviestPort (bk_Law_heaviestPort kk) kk (A_Law_heaviestPort kk) := by
  refine ⟨fun as G r h => ?_, fun pc ls st G r h => ?_, fun k pc ls st G r h => ?_⟩
  · unfold A_Law_heaviestPort at h
    split at h
    · exact ⟨by simp [ai_cat, Value.category], Nat.le_of_ble_eq_true rfl, fun sc => (R_Law_heaviestPort sc kk G).trans h⟩
    · cases h
  · cases h
  · cases h
theorem ro_Law_pillowByTurn (kk : Nat) : RunOK 41 4 T_Law_pillowByTurn (call_Law_pillowByTurn kk) hd_Law_pillowByTurn (bk_Law_pillowByTurn kk) kk (A_Law_pillowByTurn kk) := by
  refine ⟨fun as G r h => ?_, fun pc ls st G r h => ?_, fun k pc ls st G r h => ?_⟩
  · unfold A_Law_pillowByTurn at h
    split at h
    · exact ⟨by simp [ai_cat, Value.category], Nat.le_of_ble_eq_true rfl, fun sc => (R_Law_pillowByTurn sc kk _ G).trans h⟩
    · cases h
  · cases h
  · cases h
theorem ro_Law_bayByWeight (kk : Nat) : RunOK 11 4 T_Law_bayByWeight (call_Law_bayByWeight kk) hd_Law_bayByWeight (bk_Law_bayByWeight kk) kk (A_Law_bayByWeight kk) := by
  refine ⟨fun as G r h => ?_, fun pc ls st G r h => ?_, fun k pc ls st G r h => ?_⟩
  · unfold A_Law_bayByWeight at h
    split at h
    · exact ⟨by simp [ai_cat, Value.category], Nat.le_of_ble_eq_true rfl, fun sc => (R_Law_bayByWeight sc kk _ G).trans h⟩
    · cases h
  · cases h
  · cases h
theorem ro_Law_meanAge (kk : Nat) : RunOK 1 3 T_Law_meanAge (call_Law_meanAge kk) hd_Law_meanAge (bk_Law_meanAge kk) kk (A_Law_meanAge kk) := by
  refine ⟨fun as G r h => ?_, fun pc ls st G r h => ?_, fun k pc ls st G r h => ?_⟩
  · unfold A_Law_meanAge at h
    split at h
    · exact ⟨by simp [ai_cat, Value.category], Nat.le_of_ble_eq_true rfl, fun sc => (R_Law_meanAge sc kk G).trans h⟩
    · cases h
  · cases h
  · cases h
theorem ro_Law_capsizedShare (kk : Nat) : RunOK 1 3 T_Law_capsizedShare (call_Law_capsizedShare kk) hd_Law_capsizedShare (bk_Law_capsizedShare kk) kk (A_Law_capsizedShare kk) := by
  refine ⟨fun as G r h => ?_, fun pc ls st G r h => ?_, fun k pc ls st G r h => ?_⟩
  · unfold A_Law_capsizedShare at h
    split at h
    · exact ⟨by simp [ai_cat, Value.category], Nat.le_of_ble_eq_true rfl, fun sc => (R_Law_capsizedShare sc kk G).trans h⟩
    · cases h
  · cases h
  · cases h
theorem ro_Law_renderStack (kk : Nat) : RunOK 90 4 T_Law_renderStack (call_Law_renderStack kk) hd_Law_renderStack (bk_Law_renderStack kk) kk (A_Law_renderStack kk) := by
  refine ⟨fun as G r h => ?_, fun pc ls st G r h => ?_, fun k pc ls st G r h => ?_⟩
  · unfold A_Law_renderStack at h
    split at h
    · exact ⟨by simp [ai_cat, Value.category], Nat.le_of_ble_eq_true rfl, fun sc => (R_Law_renderStack sc kk _ G).trans h⟩
    · cases h
  · cases h
  · cases h
theorem ro_Law_outputAt (kk : Nat) : RunOK 1 4 T_Law_outputAt (call_Law_outputAt kk) hd_Law_outputAt (bk_Law_outputAt kk) kk (A_Law_outputAt kk) := by
  refine ⟨fun as G r h => ?_, fun pc ls st G r h => ?_, fun k pc ls st G r h => ?_⟩
  · unfold A_Law_outputAt at h
    split at h
    · exact ⟨by simp [ai_cat, Value.category], Nat.le_of_ble_eq_true rfl, fun sc => (R_Law_outputAt sc kk _ G).trans h⟩
    · cases h
  · cases h
  · cases h
theorem ro_Law_type (kk : Nat) : RunOK 1 4 T_Law_type (call_Law_type kk) hd_Law_type (bk_Law_type kk) kk (A_Law_type kk) := by
  refine ⟨fun as G r h => ?_, fun pc ls st G r h => ?_, fun k pc ls st G r h => ?_⟩
  · unfold A_Law_type at h
    split at h
    · exact ⟨by simp [ai_cat, Value.category], Nat.le_of_ble_eq_true rfl, fun sc => (R_Law_type sc kk _ G).trans h⟩
    · cases h
  · cases h
  · cases h
theorem ro_Law_runScript (kk : Nat) : RunOK 1 3 T_Law_runScript (call_Law_runScript kk) hd_Law_runScript (bk_Law_runScript kk) kk (A_Law_runScript kk) := by
  refine ⟨fun as G r h => ?_, fun pc ls st G r h => ?_, fun k pc ls st G r h => ?_⟩
  · unfold A_Law_runScript at h
    split at h
    · exact ⟨by simp [ai_cat, Value.category], Nat.le_of_ble_eq_true rfl, fun sc => (R_Law_runScript sc kk G).trans h⟩
    · cases h
  · cases h
  · cases h
theorem ro_Law_errorPosition (kk : Nat) : RunOK 1 3 T_Law_errorPosition (call_Law_errorPosition kk) hd_Law_errorPosition (bk_Law_errorPosition kk) kk (A_Law_errorPosition kk) := by
  refine ⟨fun as G r h => ?_, fun pc ls st G r h => ?_, fun k pc ls st G r h => ?_⟩
  · unfold A_Law_errorPosition at h
    split at h
    · exact ⟨by simp [ai_cat, Value.category], Nat.le_of_ble_eq_true rfl, fun sc => (R_Law_errorPosition sc kk G).trans h⟩
    · cases h
  · cases h
  · cases h
theorem ro_Law_failedCommand (kk : Nat) : RunOK 1 3 T_Law_failedCommand (call_Law_failedCommand kk) hd_Law_failedCommand (bk_Law_failedCommand kk) kk (A_Law_failedCommand kk) := by
  refine ⟨fun as G r h => ?_, fun pc ls st G r h => ?_, fun k pc ls st G r h => ?_⟩
  · unfold A_Law_failedCommand at h
    split at h
    · exact ⟨by simp [ai_cat, Value.category], Nat.le_of_ble_eq_true rfl, fun sc => (R_Law_failedCommand sc kk G).trans h⟩
    · cases h
  · cases h
  · cases h
theorem ro_Law_undo (kk : Nat) : RunOK 1 3 T_Law_undo (call_Law_undo kk) hd_Law_undo (bk_Law_undo kk) kk (A_Law_undo kk) := by
  refine ⟨fun as G r h => ?_, fun pc ls st G r h => ?_, fun k pc ls st G r h => ?_⟩
  · unfold A_Law_undo at h
    split at h
    · exact ⟨by simp [ai_cat, Value.category], Nat.le_of_ble_eq_true rfl, fun sc => (R_Law_undo sc kk G).trans h⟩
    · cases h
  · cases h
  · cases h
theorem ro_Law_restore (kk : Nat) : RunOK 1 3 T_Law_restore (call_Law_restore kk) hd_Law_restore (bk_Law_restore kk) kk (A_Law_restore kk) := by
  refine ⟨fun as G r h => ?_, fun pc ls st G r h => ?_, fun k pc ls st G r h => ?_⟩
  · unfold A_Law_restore at h
    split at h
    · exact ⟨by simp [ai_cat, Value.category], Nat.le_of_ble_eq_true rfl, fun sc => (R_Law_restore sc kk G).trans h⟩
    · cases h
  · cases h
  · cases h
theorem nx_Law_load {kk : Nat} : ∀ as G ex G1, A_Law_load kk as G = some (.inr ex, G1) → False := by
  intro as G ex G1 h
  unfold A_Law_load at h
  split at h
  · unfold D_Law_load at h
    obtain ⟨r, -, h⟩ := bind_eq h
    revert h
    unfold oI
    split <;> (try dsimp only) <;> (repeat' split) <;> (intro h; cases h)
  · cases h
theorem nx_Law_unload {kk : Nat} : ∀ as G ex G1, A_Law_unload kk as G = some (.inr ex, G1) → False := by
  intro as G ex G1 h
  unfold A_Law_unload at h
  split at h
  · unfold D_Law_unload at h
    obtain ⟨r, -, h⟩ := bind_eq h
    revert h
    unfold oI
    split <;> (try dsimp only) <;> (repeat' split) <;> (intro h; cases h)
  · cases h
theorem nx_Law_shift {kk : Nat} : ∀ as G ex G1, A_Law_shift kk as G = some (.inr ex, G1) → False := by
  intro as G ex G1 h
  unfold A_Law_shift at h
  split at h
  · unfold D_Law_shift at h
    obtain ⟨r, -, h⟩ := bind_eq h
    revert h
    unfold oI
    split <;> (try dsimp only) <;> (repeat' split) <;> (intro h; cases h)
  · cases h
theorem nx_Law_sail {kk : Nat} : ∀ as G ex G1, A_Law_sail kk as G = some (.inr ex, G1) → False := by
  intro as G ex G1 h
  unfold A_Law_sail at h
  split at h
  · unfold D_Law_sail at h
    obtain ⟨r, -, h⟩ := bind_eq h
    revert h
    unfold oI
    split <;> (try dsimp only) <;> (repeat' split) <;> (intro h; cases h)
  · cases h
theorem nx_Law_setLimit {kk : Nat} : ∀ as G ex G1, A_Law_setLimit kk as G = some (.inr ex, G1) → False := by
  intro as G ex G1 h
  unfold A_Law_setLimit at h
  split at h
  · unfold D_Law_setLimit at h
    obtain ⟨r, -, h⟩ := bind_eq h
    revert h
    unfold oI
    split <;> (try dsimp only) <;> (repeat' split) <;> (intro h; cases h)
  · cases h
theorem nx_Law_drill {kk : Nat} : ∀ as G ex G1, A_Law_drill kk as G = some (.inr ex, G1) → False := by
  intro as G ex G1 h
  unfold A_Law_drill at h
  split at h
  · unfold D_Law_drill at h
    obtain ⟨r, -, h⟩ := bind_eq h
    revert h
    unfold oI
    split <;> (try dsimp only) <;> (repeat' split) <;> (intro h; cases h)
  · cases h
theorem nx_Law_stackHeight {kk : Nat} : ∀ as G ex G1, A_Law_stackHeight kk as G = some (.inr ex, G1) → False := by
  intro as G ex G1 h
  unfold A_Law_stackHeight at h
  split at h
  · unfold D_Law_stackHeight at h
    obtain ⟨r, -, h⟩ := bind_eq h
    revert h
    unfold oI
    split <;> (try dsimp only) <;> (repeat' split) <;> (intro h; cases h)
  · cases h
theorem nx_Law_pillowAt {kk : Nat} : ∀ as G ex G1, A_Law_pillowAt kk as G = some (.inr ex, G1) → False := by
  intro as G ex G1 h
  unfold A_Law_pillowAt at h
  split at h
  · unfold D_Law_pillowAt at h
    obtain ⟨r, -, h⟩ := bind_eq h
    revert h
    unfold oI
    split <;> (try dsimp only) <;> (repeat' split) <;> (intro h; cases h)
  · cases h
theorem nx_Law_weightOf {kk : Nat} : ∀ as G ex G1, A_Law_weightOf kk as G = some (.inr ex, G1) → False := by
  intro as G ex G1 h
  unfold A_Law_weightOf at h
  split at h
  · unfold D_Law_weightOf at h
    obtain ⟨r, -, h⟩ := bind_eq h
    revert h
    unfold oI
    split <;> (try dsimp only) <;> (repeat' split) <;> (intro h; cases h)
  · cases h
theorem nx_Law_destinationOf {kk : Nat} : ∀ as G ex G1, A_Law_destinationOf kk as G = some (.inr ex, G1) → False := by
  intro as G ex G1 h
  unfold A_Law_destinationOf at h
  split at h
  · unfold D_Law_destinationOf at h
    obtain ⟨r, -, h⟩ := bind_eq h
    revert h
    unfold oI
    split <;> (try dsimp only) <;> (repeat' split) <;> (intro h; cases h)
  · cases h
theorem nx_Law_bayOf {kk : Nat} : ∀ as G ex G1, A_Law_bayOf kk as G = some (.inr ex, G1) → False := by
  intro as G ex G1 h
  unfold A_Law_bayOf at h
  split at h
  · unfold D_Law_bayOf at h
    obtain ⟨r, -, h⟩ := bind_eq h
    revert h
    unfold oI
    split <;> (try dsimp only) <;> (repeat' split) <;> (intro h; cases h)
  · cases h
theorem nx_Law_positionOf {kk : Nat} : ∀ as G ex G1, A_Law_positionOf kk as G = some (.inr ex, G1) → False := by
  intro as G ex G1 h
  unfold A_Law_positionOf at h
  split at h
  · unfold D_Law_positionOf at h
    obtain ⟨r, -, h⟩ := bind_eq h
    revert h
    unfold oI
    split <;> (try dsimp only) <;> (repeat' split) <;> (intro h; cases h)
  · cases h
theorem nx_Law_ageOf {kk : Nat} : ∀ as G ex G1, A_Law_ageOf kk as G = some (.inr ex, G1) → False := by
  intro as G ex G1 h
  unfold A_Law_ageOf at h
  split at h
  · unfold D_Law_ageOf at h
    obtain ⟨r, -, h⟩ := bind_eq h
    revert h
    unfold oI
    split <;> (try dsimp only) <;> (repeat' split) <;> (intro h; cases h)
  · cases h
theorem nx_Law_weightFor {kk : Nat} : ∀ as G ex G1, A_Law_weightFor kk as G = some (.inr ex, G1) → False := by
  intro as G ex G1 h
  unfold A_Law_weightFor at h
  split at h
  · unfold D_Law_weightFor at h
    obtain ⟨r, -, h⟩ := bind_eq h
    revert h
    unfold oI
    split <;> (try dsimp only) <;> (repeat' split) <;> (intro h; cases h)
  · cases h
theorem nx_Law_levelingBay {kk : Nat} : ∀ as G ex G1, A_Law_levelingBay kk as G = some (.inr ex, G1) → False := by
  intro as G ex G1 h
  unfold A_Law_levelingBay at h
  split at h
  · unfold D_Law_levelingBay at h
    obtain ⟨r, -, h⟩ := bind_eq h
    revert h
    unfold oI
    split <;> (try dsimp only) <;> (repeat' split) <;> (intro h; cases h)
  · cases h
theorem nx_Law_legsTo {kk : Nat} : ∀ as G ex G1, A_Law_legsTo kk as G = some (.inr ex, G1) → False := by
  intro as G ex G1 h
  unfold A_Law_legsTo at h
  split at h
  · unfold D_Law_legsTo at h
    obtain ⟨r, -, h⟩ := bind_eq h
    revert h
    unfold oI
    split <;> (try dsimp only) <;> (repeat' split) <;> (intro h; cases h)
  · cases h
theorem nx_Law_portAfter {kk : Nat} : ∀ as G ex G1, A_Law_portAfter kk as G = some (.inr ex, G1) → False := by
  intro as G ex G1 h
  unfold A_Law_portAfter at h
  split at h
  · unfold D_Law_portAfter at h
    obtain ⟨r, -, h⟩ := bind_eq h
    revert h
    unfold oI
    split <;> (try dsimp only) <;> (repeat' split) <;> (intro h; cases h)
  · cases h
theorem nx_Law_pillowsInTheWay {kk : Nat} : ∀ as G ex G1, A_Law_pillowsInTheWay kk as G = some (.inr ex, G1) → False := by
  intro as G ex G1 h
  unfold A_Law_pillowsInTheWay at h
  split at h
  · unfold D_Law_pillowsInTheWay at h
    obtain ⟨r, -, h⟩ := bind_eq h
    revert h
    unfold oI
    split <;> (try dsimp only) <;> (repeat' split) <;> (intro h; cases h)
  · cases h
theorem nx_Law_oldestIn {kk : Nat} : ∀ as G ex G1, A_Law_oldestIn kk as G = some (.inr ex, G1) → False := by
  intro as G ex G1 h
  unfold A_Law_oldestIn at h
  split at h
  · unfold D_Law_oldestIn at h
    obtain ⟨r, -, h⟩ := bind_eq h
    revert h
    unfold oI
    split <;> (try dsimp only) <;> (repeat' split) <;> (intro h; cases h)
  · cases h
theorem nx_Law_heaviestPort {kk : Nat} : ∀ as G ex G1, A_Law_heaviestPort kk as G = some (.inr ex, G1) → False := by
  intro as G ex G1 h
  unfold A_Law_heaviestPort at h
  split at h
  · unfold D_Law_heaviestPort at h
    obtain ⟨r, -, h⟩ := bind_eq h
    revert h
    unfold oI
    split <;> (try dsimp only) <;> (repeat' split) <;> (intro h; cases h)
  · cases h
theorem nx_Law_pillowByTurn {kk : Nat} : ∀ as G ex G1, A_Law_pillowByTurn kk as G = some (.inr ex, G1) → False := by
  intro as G ex G1 h
  unfold A_Law_pillowByTurn at h
  split at h
  · unfold D_Law_pillowByTurn at h
    obtain ⟨r, -, h⟩ := bind_eq h
    revert h
    unfold oI
    split <;> (try dsimp only) <;> (repeat' split) <;> (intro h; cases h)
  · cases h
theorem nx_Law_bayByWeight {kk : Nat} : ∀ as G ex G1, A_Law_bayByWeight kk as G = some (.inr ex, G1) → False := by
  intro as G ex G1 h
  unfold A_Law_bayByWeight at h
  split at h
  · unfold D_Law_bayByWeight at h
    obtain ⟨r, -, h⟩ := bind_eq h
    revert h
    unfold oI
    split <;> (try dsimp only) <;> (repeat' split) <;> (intro h; cases h)
  · cases h
theorem nx_Law_meanAge {kk : Nat} : ∀ as G ex G1, A_Law_meanAge kk as G = some (.inr ex, G1) → False := by
  intro as G ex G1 h
  unfold A_Law_meanAge at h
  split at h
  · unfold D_Law_meanAge at h
    obtain ⟨r, -, h⟩ := bind_eq h
    revert h
    unfold oD
    split <;> (try dsimp only) <;> (repeat' split) <;> (intro h; cases h)
  · cases h
theorem nx_Law_capsizedShare {kk : Nat} : ∀ as G ex G1, A_Law_capsizedShare kk as G = some (.inr ex, G1) → False := by
  intro as G ex G1 h
  unfold A_Law_capsizedShare at h
  split at h
  · unfold D_Law_capsizedShare at h
    obtain ⟨r, -, h⟩ := bind_eq h
    revert h
    unfold oF
    split <;> (try dsimp only) <;> (repeat' split) <;> (intro h; cases h)
  · cases h
theorem nx_Law_renderStack {kk : Nat} : ∀ as G ex G1, A_Law_renderStack kk as G = some (.inr ex, G1) → False := by
  intro as G ex G1 h
  unfold A_Law_renderStack at h
  split at h
  · unfold D_Law_renderStack at h
    obtain ⟨r, -, h⟩ := bind_eq h
    revert h
    unfold oI
    split <;> (try dsimp only) <;> (repeat' split) <;> (intro h; cases h)
  · cases h
theorem nx_Law_outputAt {kk : Nat} : ∀ as G ex G1, A_Law_outputAt kk as G = some (.inr ex, G1) → False := by
  intro as G ex G1 h
  unfold A_Law_outputAt at h
  split at h
  · unfold D_Law_outputAt at h
    obtain ⟨r, -, h⟩ := bind_eq h
    revert h
    unfold oI
    split <;> (try dsimp only) <;> (repeat' split) <;> (intro h; cases h)
  · cases h
theorem nx_Law_type {kk : Nat} : ∀ as G ex G1, A_Law_type kk as G = some (.inr ex, G1) → False := by
  intro as G ex G1 h
  unfold A_Law_type at h
  split at h
  · unfold D_Law_type at h
    obtain ⟨r, -, h⟩ := bind_eq h
    revert h
    unfold oI
    split <;> (try dsimp only) <;> (repeat' split) <;> (intro h; cases h)
  · cases h
theorem nx_Law_runScript {kk : Nat} : ∀ as G ex G1, A_Law_runScript kk as G = some (.inr ex, G1) → False := by
  intro as G ex G1 h
  unfold A_Law_runScript at h
  split at h
  · unfold D_Law_runScript at h
    obtain ⟨r, -, h⟩ := bind_eq h
    revert h
    unfold oI
    split <;> (try dsimp only) <;> (repeat' split) <;> (intro h; cases h)
  · cases h
theorem nx_Law_errorPosition {kk : Nat} : ∀ as G ex G1, A_Law_errorPosition kk as G = some (.inr ex, G1) → False := by
  intro as G ex G1 h
  unfold A_Law_errorPosition at h
  split at h
  · unfold D_Law_errorPosition at h
    obtain ⟨r, -, h⟩ := bind_eq h
    revert h
    unfold oI
    split <;> (try dsimp only) <;> (repeat' split) <;> (intro h; cases h)
  · cases h
theorem nx_Law_failedCommand {kk : Nat} : ∀ as G ex G1, A_Law_failedCommand kk as G = some (.inr ex, G1) → False := by
  intro as G ex G1 h
  unfold A_Law_failedCommand at h
  split at h
  · unfold D_Law_failedCommand at h
    obtain ⟨r, -, h⟩ := bind_eq h
    revert h
    unfold oI
    split <;> (try dsimp only) <;> (repeat' split) <;> (intro h; cases h)
  · cases h
theorem nx_Law_undo {kk : Nat} : ∀ as G ex G1, A_Law_undo kk as G = some (.inr ex, G1) → False := by
  intro as G ex G1 h
  unfold A_Law_undo at h
  split at h
  · unfold D_Law_undo at h
    obtain ⟨r, -, h⟩ := bind_eq h
    revert h
    unfold oI
    split <;> (try dsimp only) <;> (repeat' split) <;> (intro h; cases h)
  · cases h
theorem nx_Law_restore {kk : Nat} : ∀ as G ex G1, A_Law_restore kk as G = some (.inr ex, G1) → False := by
  intro as G ex G1 h
  unfold A_Law_restore at h
  split at h
  · unfold D_Law_restore at h
    obtain ⟨r, -, h⟩ := bind_eq h
    revert h
    unfold oI
    split <;> (try dsimp only) <;> (repeat' split) <;> (intro h; cases h)
  · cases h
def iv_Law_load : List (Instr × Nat) := [(.invokevirtual 7, 1163361)]
theorem tk_Law_load : (List.range 33).all (fun pc => match T_Law_load pc with | none => true | some e => ck FT_ PT_ NT_ CT_ yL_load.cls cL_load (some .int) iv_Law_load pc e) = true := by decide +kernel
theorem Ct_Law_load (kk : Nat) (l : Launch) (hst : l.stackTraces = false) : CtN sdX l yL_load (.codeWith yL_load cL_load 6 (some .int) [(0, 12, 15, 13), (0, 12, 19, 15), (0, 12, 23, 17), (0, 12, 27, 19)] :: lw_all) 13 1 (A_Law_load kk) := by
  have hT : TabOKH sdX l yL_load.cls cL_load 6 1 13 (some .int) T_Law_load (call_Law_load kk) hd_Law_load [(0, 12, 15, 13), (0, 12, 19, 15), (0, 12, 23, 17), (0, 12, 27, 19)] := by
    intro x hF hH hO hC hG hV hR hsd htab hNN pc e he
    have hh0 : HdOK x 7 (hd_Law_load 7) := hdok_of hF htab (by rw [hO, hC, hNN]; decide +kernel)
    refine ck_sound FT_ok PT_ok NT_ok CT_ok (invs := iv_Law_load) ?_ ?_
    · exact (List.forall_mem_cons.mpr ⟨fun pc hd => ⟨cwX_V (C := RX6) (n := 3) hF hd (by rw [hH]; exact Ct_PB_load kk l hst) hsd (by rw [hO]; exact wd_1108) wd_1109 wd_1110 wd_86 wd_1111 ⟨rfl, by decide +kernel, by decide +kernel, by decide +kernel⟩ (by decide) (by rw [hV]; decide) (sh_PB_load kk), hd_one hh0⟩, (fun _ h => nomatch h)⟩)
    · rw [hO, hC, hR]; exact tk_use (fun pc h => by unfold T_Law_load; rw [Nat.ble_eq_true_of_le h]) tk_Law_load pc e he
  exact CtNH_of (F := 0) (by decide +kernel) hT (ro0 (ro_Law_load kk) (fun _ _ => rfl)) nx_Law_load (by decide)
def iv_Law_unload : List (Instr × Nat) := [(.invokevirtual 21, 1179729)]
theorem tk_Law_unload : (List.range 26).all (fun pc => match T_Law_unload pc with | none => true | some e => ck FT_ PT_ NT_ CT_ yL_unload.cls cL_unload (some .int) iv_Law_unload pc e) = true := by decide +kernel
theorem Ct_Law_unload (kk : Nat) (l : Launch) (hst : l.stackTraces = false) : CtN sdX l yL_unload (.codeWith yL_unload cL_unload 4 (some .int) [(0, 9, 12, 13), (0, 9, 15, 25), (0, 9, 18, 17), (0, 9, 21, 19)] :: lw_all) 13 1 (A_Law_unload kk) := by
  have hT : TabOKH sdX l yL_unload.cls cL_unload 4 1 13 (some .int) T_Law_unload (call_Law_unload kk) hd_Law_unload [(0, 9, 12, 13), (0, 9, 15, 25), (0, 9, 18, 17), (0, 9, 21, 19)] := by
    intro x hF hH hO hC hG hV hR hsd htab hNN pc e he
    have hh0 : HdOK x 4 (hd_Law_unload 4) := hdok_of hF htab (by rw [hO, hC, hNN]; decide +kernel)
    refine ck_sound FT_ok PT_ok NT_ok CT_ok (invs := iv_Law_unload) ?_ ?_
    · exact (List.forall_mem_cons.mpr ⟨fun pc hd => ⟨cwX_V (C := RX6) (n := 1) hF hd (by rw [hH]; exact Ct_PB_unload kk l hst) hsd (by rw [hO]; exact wd_1116) wd_1117 wd_1118 wd_86 wd_1119 ⟨rfl, by decide +kernel, by decide +kernel, by decide +kernel⟩ (by decide) (by rw [hV]; decide) (sh_PB_unload kk), hd_one hh0⟩, (fun _ h => nomatch h)⟩)
    · rw [hO, hC, hR]; exact tk_use (fun pc h => by unfold T_Law_unload; rw [Nat.ble_eq_true_of_le h]) tk_Law_unload pc e he
  exact CtNH_of (F := 0) (by decide +kernel) hT (ro0 (ro_Law_unload kk) (fun _ _ => rfl)) nx_Law_unload (by decide)
def iv_Law_shift : List (Instr × Nat) := [(.invokevirtual 27, 1196121)]
theorem tk_Law_shift : (List.range 35).all (fun pc => match T_Law_shift pc with | none => true | some e => ck FT_ PT_ NT_ CT_ yL_shift.cls cL_shift (some .int) iv_Law_shift pc e) = true := by decide +kernel
theorem Ct_Law_shift (kk : Nat) (l : Launch) (hst : l.stackTraces = false) : CtN sdX l yL_shift (.codeWith yL_shift cL_shift 5 (some .int) [(0, 10, 13, 13), (0, 10, 17, 15), (0, 10, 21, 25), (0, 10, 25, 17), (0, 10, 29, 19)] :: lw_all) 13 1 (A_Law_shift kk) := by
  have hT : TabOKH sdX l yL_shift.cls cL_shift 5 1 13 (some .int) T_Law_shift (call_Law_shift kk) hd_Law_shift [(0, 10, 13, 13), (0, 10, 17, 15), (0, 10, 21, 25), (0, 10, 25, 17), (0, 10, 29, 19)] := by
    intro x hF hH hO hC hG hV hR hsd htab hNN pc e he
    have hh0 : HdOK x 5 (hd_Law_shift 5) := hdok_of hF htab (by rw [hO, hC, hNN]; decide +kernel)
    refine ck_sound FT_ok PT_ok NT_ok CT_ok (invs := iv_Law_shift) ?_ ?_
    · exact (List.forall_mem_cons.mpr ⟨fun pc hd => ⟨cwX_V (C := RX6) (n := 2) hF hd (by rw [hH]; exact Ct_PB_shift kk l hst) hsd (by rw [hO]; exact wd_1123) wd_1124 wd_1125 wd_86 wd_1126 ⟨rfl, by decide +kernel, by decide +kernel, by decide +kernel⟩ (by decide) (by rw [hV]; decide) (sh_PB_shift kk), hd_one hh0⟩, (fun _ h => nomatch h)⟩)
    · rw [hO, hC, hR]; exact tk_use (fun pc h => by unfold T_Law_shift; rw [Nat.ble_eq_true_of_le h]) tk_Law_shift pc e he
  exact CtNH_of (F := 0) (by decide +kernel) hT (ro0 (ro_Law_shift kk) (fun _ _ => rfl)) nx_Law_shift (by decide)
def iv_Law_sail : List (Instr × Nat) := [(.invokevirtual 31, 1212497)]
theorem tk_Law_sail : (List.range 17).all (fun pc => match T_Law_sail pc with | none => true | some e => ck FT_ PT_ NT_ CT_ yL_sail.cls cL_sail (some .int) iv_Law_sail pc e) = true := by decide +kernel
theorem Ct_Law_sail (kk : Nat) (l : Launch) (hst : l.stackTraces = false) : CtN sdX l yL_sail (.codeWith yL_sail cL_sail 4 (some .int) [(0, 9, 12, 15)] :: lw_all) 13 1 (A_Law_sail kk) := by
  have hT : TabOKH sdX l yL_sail.cls cL_sail 4 1 13 (some .int) T_Law_sail (call_Law_sail kk) hd_Law_sail [(0, 9, 12, 15)] := by
    intro x hF hH hO hC hG hV hR hsd htab hNN pc e he
    have hh0 : HdOK x 4 (hd_Law_sail 4) := hdok_of hF htab (by rw [hO, hC, hNN]; decide +kernel)
    refine ck_sound FT_ok PT_ok NT_ok CT_ok (invs := iv_Law_sail) ?_ ?_
    · exact (List.forall_mem_cons.mpr ⟨fun pc hd => ⟨cwX_V (C := RX6) (n := 1) hF hd (by rw [hH]; exact Ct_PB_sail kk l hst) hsd (by rw [hO]; exact wd_1130) wd_1131 wd_1132 wd_86 wd_1133 ⟨rfl, by decide +kernel, by decide +kernel, by decide +kernel⟩ (by decide) (by rw [hV]; decide) (sh_PB_sail kk), hd_one hh0⟩, (fun _ h => nomatch h)⟩)
    · rw [hO, hC, hR]; exact tk_use (fun pc h => by unfold T_Law_sail; rw [Nat.ble_eq_true_of_le h]) tk_Law_sail pc e he
  exact CtNH_of (F := 0) (by decide +kernel) hT (ro0 (ro_Law_sail kk) (fun _ _ => rfl)) nx_Law_sail (by decide)
def iv_Law_setLimit : List (Instr × Nat) := [(.invokevirtual 34, 1245265)]
theorem tk_Law_setLimit : (List.range 20).all (fun pc => match T_Law_setLimit pc with | none => true | some e => ck FT_ PT_ NT_ CT_ yL_setLimit.cls cL_setLimit (some .int) iv_Law_setLimit pc e) = true := by decide +kernel
theorem Ct_Law_setLimit (kk : Nat) (l : Launch) (hst : l.stackTraces = false) : CtN sdX l yL_setLimit (.codeWith yL_setLimit cL_setLimit 4 (some .int) [(0, 9, 12, 15), (0, 9, 15, 19)] :: lw_all) 13 1 (A_Law_setLimit kk) := by
  have hT : TabOKH sdX l yL_setLimit.cls cL_setLimit 4 1 13 (some .int) T_Law_setLimit (call_Law_setLimit kk) hd_Law_setLimit [(0, 9, 12, 15), (0, 9, 15, 19)] := by
    intro x hF hH hO hC hG hV hR hsd htab hNN pc e he
    have hh0 : HdOK x 4 (hd_Law_setLimit 4) := hdok_of hF htab (by rw [hO, hC, hNN]; decide +kernel)
    refine ck_sound FT_ok PT_ok NT_ok CT_ok (invs := iv_Law_setLimit) ?_ ?_
    · exact (List.forall_mem_cons.mpr ⟨fun pc hd => ⟨cwX_V (C := RX6) (n := 1) hF hd (by rw [hH]; exact Ct_PB_setLimit kk l hst) hsd (by rw [hO]; exact wd_1137) wd_1138 wd_1139 wd_86 wd_1140 ⟨rfl, by decide +kernel, by decide +kernel, by decide +kernel⟩ (by decide) (by rw [hV]; decide) (sh_PB_setLimit kk), hd_one hh0⟩, (fun _ h => nomatch h)⟩)
    · rw [hO, hC, hR]; exact tk_use (fun pc h => by unfold T_Law_setLimit; rw [Nat.ble_eq_true_of_le h]) tk_Law_setLimit pc e he
  exact CtNH_of (F := 0) (by decide +kernel) hT (ro0 (ro_Law_setLimit kk) (fun _ _ => rfl)) nx_Law_setLimit (by decide)
def iv_Law_drill : List (Instr × Nat) := [(.invokevirtual 37, 1261649)]
theorem tk_Law_drill : (List.range 24).all (fun pc => match T_Law_drill pc with | none => true | some e => ck FT_ PT_ NT_ CT_ yL_drill.cls cL_drill (some .int) iv_Law_drill pc e) = true := by decide +kernel
theorem Ct_Law_drill (kk : Nat) (l : Launch) (hst : l.stackTraces = false) : CtN sdX l yL_drill (.codeWith yL_drill cL_drill 4 (some .int) [(0, 16, 19, 15)] :: lw_all) 13 1 (A_Law_drill kk) := by
  have hT : TabOKH sdX l yL_drill.cls cL_drill 4 1 13 (some .int) T_Law_drill (call_Law_drill kk) hd_Law_drill [(0, 16, 19, 15)] := by
    intro x hF hH hO hC hG hV hR hsd htab hNN pc e he
    have hh0 : HdOK x 4 (hd_Law_drill 4) := hdok_of hF htab (by rw [hO, hC, hNN]; decide +kernel)
    refine ck_sound FT_ok PT_ok NT_ok CT_ok (invs := iv_Law_drill) ?_ ?_
    · exact (List.forall_mem_cons.mpr ⟨fun pc hd => ⟨cwX_V (C := RX6) (n := 1) hF hd (by rw [hH]; exact Ct_PB_drill kk l hst) hsd (by rw [hO]; exact wd_1144) wd_1145 wd_1146 wd_86 wd_1147 ⟨rfl, by decide +kernel, by decide +kernel, by decide +kernel⟩ (by decide) (by rw [hV]; decide) (sh_PB_drill kk), hd_one hh0⟩, (fun _ h => nomatch h)⟩)
    · rw [hO, hC, hR]; exact tk_use (fun pc h => by unfold T_Law_drill; rw [Nat.ble_eq_true_of_le h]) tk_Law_drill pc e he
  exact CtNH_of (F := 0) (by decide +kernel) hT (ro0 (ro_Law_drill kk) (fun _ _ => rfl)) nx_Law_drill (by decide)
def iv_Law_stackHeight : List (Instr × Nat) := [(.invokevirtual 41, 1327185)]
theorem tk_Law_stackHeight : (List.range 17).all (fun pc => match T_Law_stackHeight pc with | none => true | some e => ck FT_ PT_ NT_ CT_ yL_stackHeight.cls cL_stackHeight (some .int) iv_Law_stackHeight pc e) = true := by decide +kernel
theorem Ct_Law_stackHeight (kk : Nat) (l : Launch) (hst : l.stackTraces = false) : CtN sdX l yL_stackHeight (.codeWith yL_stackHeight cL_stackHeight 4 (some .int) [(0, 9, 12, 13)] :: lw_all) 9 1 (A_Law_stackHeight kk) := by
  have hT : TabOKH sdX l yL_stackHeight.cls cL_stackHeight 4 1 9 (some .int) T_Law_stackHeight (call_Law_stackHeight kk) hd_Law_stackHeight [(0, 9, 12, 13)] := by
    intro x hF hH hO hC hG hV hR hsd htab hNN pc e he
    have hh0 : HdOK x 4 (hd_Law_stackHeight 4) := hdok_of hF htab (by rw [hO, hC, hNN]; decide +kernel)
    refine ck_sound FT_ok PT_ok NT_ok CT_ok (invs := iv_Law_stackHeight) ?_ ?_
    · exact (List.forall_mem_cons.mpr ⟨fun pc hd => ⟨cwX_V (C := RX6) (n := 1) hF hd (by rw [hH]; exact Ct_PB_stackHeight kk l hst) hsd (by rw [hO]; exact wd_1151) wd_1152 wd_1153 wd_86 wd_1154 ⟨rfl, by decide +kernel, by decide +kernel, by decide +kernel⟩ (by decide) (by rw [hV]; decide) (sh_PB_stackHeight kk), hd_one hh0⟩, (fun _ h => nomatch h)⟩)
    · rw [hO, hC, hR]; exact tk_use (fun pc h => by unfold T_Law_stackHeight; rw [Nat.ble_eq_true_of_le h]) tk_Law_stackHeight pc e he
  exact CtNH_of (F := 0) (by decide +kernel) hT (ro0 (ro_Law_stackHeight kk) (fun _ _ => rfl)) nx_Law_stackHeight (by decide)
def iv_Law_pillowAt : List (Instr × Nat) := [(.invokevirtual 44, 1343641)]
theorem tk_Law_pillowAt : (List.range 23).all (fun pc => match T_Law_pillowAt pc with | none => true | some e => ck FT_ PT_ NT_ CT_ yL_pillowAt.cls cL_pillowAt (some .int) iv_Law_pillowAt pc e) = true := by decide +kernel
theorem Ct_Law_pillowAt (kk : Nat) (l : Launch) (hst : l.stackTraces = false) : CtN sdX l yL_pillowAt (.codeWith yL_pillowAt cL_pillowAt 5 (some .int) [(0, 10, 13, 13), (0, 10, 17, 25)] :: lw_all) 9 2 (A_Law_pillowAt kk) := by
  have hT : TabOKH sdX l yL_pillowAt.cls cL_pillowAt 5 2 9 (some .int) T_Law_pillowAt (call_Law_pillowAt kk) hd_Law_pillowAt [(0, 10, 13, 13), (0, 10, 17, 25)] := by
    intro x hF hH hO hC hG hV hR hsd htab hNN pc e he
    have hh0 : HdOK x 5 (hd_Law_pillowAt 5) := hdok_of hF htab (by rw [hO, hC, hNN]; decide +kernel)
    refine ck_sound FT_ok PT_ok NT_ok CT_ok (invs := iv_Law_pillowAt) ?_ ?_
    · exact (List.forall_mem_cons.mpr ⟨fun pc hd => ⟨cwX_V (C := RX6) (n := 2) hF hd (by rw [hH]; exact Ct_PB_pillowAt kk l hst) hsd (by rw [hO]; exact wd_1163) wd_1164 wd_1165 wd_86 wd_1166 ⟨rfl, by decide +kernel, by decide +kernel, by decide +kernel⟩ (by decide) (by rw [hV]; decide) (sh_PB_pillowAt kk), hd_one hh0⟩, (fun _ h => nomatch h)⟩)
    · rw [hO, hC, hR]; exact tk_use (fun pc h => by unfold T_Law_pillowAt; rw [Nat.ble_eq_true_of_le h]) tk_Law_pillowAt pc e he
  exact CtNH_of (F := 0) (by decide +kernel) hT (ro0 (ro_Law_pillowAt kk) (fun _ _ => rfl)) nx_Law_pillowAt (by decide)
def iv_Law_weightOf : List (Instr × Nat) := [(.invokevirtual 47, 1359953)]
theorem tk_Law_weightOf : (List.range 17).all (fun pc => match T_Law_weightOf pc with | none => true | some e => ck FT_ PT_ NT_ CT_ yL_weightOf.cls cL_weightOf (some .int) iv_Law_weightOf pc e) = true := by decide +kernel
theorem Ct_Law_weightOf (kk : Nat) (l : Launch) (hst : l.stackTraces = false) : CtN sdX l yL_weightOf (.codeWith yL_weightOf cL_weightOf 4 (some .int) [(0, 9, 12, 25)] :: lw_all) 10 1 (A_Law_weightOf kk) := by
  have hT : TabOKH sdX l yL_weightOf.cls cL_weightOf 4 1 10 (some .int) T_Law_weightOf (call_Law_weightOf kk) hd_Law_weightOf [(0, 9, 12, 25)] := by
    intro x hF hH hO hC hG hV hR hsd htab hNN pc e he
    have hh0 : HdOK x 4 (hd_Law_weightOf 4) := hdok_of hF htab (by rw [hO, hC, hNN]; decide +kernel)
    refine ck_sound FT_ok PT_ok NT_ok CT_ok (invs := iv_Law_weightOf) ?_ ?_
    · exact (List.forall_mem_cons.mpr ⟨fun pc hd => ⟨cwX_V (C := RX6) (n := 1) hF hd (by rw [hH]; exact Ct_PB_weightOf kk l hst) hsd (by rw [hO]; exact wd_1174) wd_1175 wd_1176 wd_86 wd_1177 ⟨rfl, by decide +kernel, by decide +kernel, by decide +kernel⟩ (by decide) (by rw [hV]; decide) (sh_PB_weightOf kk), hd_one hh0⟩, (fun _ h => nomatch h)⟩)
    · rw [hO, hC, hR]; exact tk_use (fun pc h => by unfold T_Law_weightOf; rw [Nat.ble_eq_true_of_le h]) tk_Law_weightOf pc e he
  exact CtNH_of (F := 0) (by decide +kernel) hT (ro0 (ro_Law_weightOf kk) (fun _ _ => rfl)) nx_Law_weightOf (by decide)
def iv_Law_destinationOf : List (Instr × Nat) := [(.invokevirtual 50, 1376337)]
theorem tk_Law_destinationOf : (List.range 17).all (fun pc => match T_Law_destinationOf pc with | none => true | some e => ck FT_ PT_ NT_ CT_ yL_destinationOf.cls cL_destinationOf (some .int) iv_Law_destinationOf pc e) = true := by decide +kernel
theorem Ct_Law_destinationOf (kk : Nat) (l : Launch) (hst : l.stackTraces = false) : CtN sdX l yL_destinationOf (.codeWith yL_destinationOf cL_destinationOf 4 (some .int) [(0, 9, 12, 25)] :: lw_all) 10 1 (A_Law_destinationOf kk) := by
  have hT : TabOKH sdX l yL_destinationOf.cls cL_destinationOf 4 1 10 (some .int) T_Law_destinationOf (call_Law_destinationOf kk) hd_Law_destinationOf [(0, 9, 12, 25)] := by
    intro x hF hH hO hC hG hV hR hsd htab hNN pc e he
    have hh0 : HdOK x 4 (hd_Law_destinationOf 4) := hdok_of hF htab (by rw [hO, hC, hNN]; decide +kernel)
    refine ck_sound FT_ok PT_ok NT_ok CT_ok (invs := iv_Law_destinationOf) ?_ ?_
    · exact (List.forall_mem_cons.mpr ⟨fun pc hd => ⟨cwX_V (C := RX6) (n := 1) hF hd (by rw [hH]; exact Ct_PB_destinationOf kk l hst) hsd (by rw [hO]; exact wd_1190) wd_1191 wd_1192 wd_86 wd_1193 ⟨rfl, by decide +kernel, by decide +kernel, by decide +kernel⟩ (by decide) (by rw [hV]; decide) (sh_PB_destinationOf kk), hd_one hh0⟩, (fun _ h => nomatch h)⟩)
    · rw [hO, hC, hR]; exact tk_use (fun pc h => by unfold T_Law_destinationOf; rw [Nat.ble_eq_true_of_le h]) tk_Law_destinationOf pc e he
  exact CtNH_of (F := 0) (by decide +kernel) hT (ro0 (ro_Law_destinationOf kk) (fun _ _ => rfl)) nx_Law_destinationOf (by decide)
def iv_Law_bayOf : List (Instr × Nat) := [(.invokevirtual 53, 1392721)]
theorem tk_Law_bayOf : (List.range 17).all (fun pc => match T_Law_bayOf pc with | none => true | some e => ck FT_ PT_ NT_ CT_ yL_bayOf.cls cL_bayOf (some .int) iv_Law_bayOf pc e) = true := by decide +kernel
theorem Ct_Law_bayOf (kk : Nat) (l : Launch) (hst : l.stackTraces = false) : CtN sdX l yL_bayOf (.codeWith yL_bayOf cL_bayOf 4 (some .int) [(0, 9, 12, 25)] :: lw_all) 10 1 (A_Law_bayOf kk) := by
  have hT : TabOKH sdX l yL_bayOf.cls cL_bayOf 4 1 10 (some .int) T_Law_bayOf (call_Law_bayOf kk) hd_Law_bayOf [(0, 9, 12, 25)] := by
    intro x hF hH hO hC hG hV hR hsd htab hNN pc e he
    have hh0 : HdOK x 4 (hd_Law_bayOf 4) := hdok_of hF htab (by rw [hO, hC, hNN]; decide +kernel)
    refine ck_sound FT_ok PT_ok NT_ok CT_ok (invs := iv_Law_bayOf) ?_ ?_
    · exact (List.forall_mem_cons.mpr ⟨fun pc hd => ⟨cwX_V (C := RX6) (n := 1) hF hd (by rw [hH]; exact Ct_PB_bayOf kk l hst) hsd (by rw [hO]; exact wd_1198) wd_1199 wd_1200 wd_86 wd_1201 ⟨rfl, by decide +kernel, by decide +kernel, by decide +kernel⟩ (by decide) (by rw [hV]; decide) (sh_PB_bayOf kk), hd_one hh0⟩, (fun _ h => nomatch h)⟩)
    · rw [hO, hC, hR]; exact tk_use (fun pc h => by unfold T_Law_bayOf; rw [Nat.ble_eq_true_of_le h]) tk_Law_bayOf pc e he
  exact CtNH_of (F := 0) (by decide +kernel) hT (ro0 (ro_Law_bayOf kk) (fun _ _ => rfl)) nx_Law_bayOf (by decide)
def iv_Law_positionOf : List (Instr × Nat) := [(.invokevirtual 56, 1409105)]
theorem tk_Law_positionOf : (List.range 17).all (fun pc => match T_Law_positionOf pc with | none => true | some e => ck FT_ PT_ NT_ CT_ yL_positionOf.cls cL_positionOf (some .int) iv_Law_positionOf pc e) = true := by decide +kernel
theorem Ct_Law_positionOf (kk : Nat) (l : Launch) (hst : l.stackTraces = false) : CtN sdX l yL_positionOf (.codeWith yL_positionOf cL_positionOf 4 (some .int) [(0, 9, 12, 25)] :: lw_all) 10 1 (A_Law_positionOf kk) := by
  have hT : TabOKH sdX l yL_positionOf.cls cL_positionOf 4 1 10 (some .int) T_Law_positionOf (call_Law_positionOf kk) hd_Law_positionOf [(0, 9, 12, 25)] := by
    intro x hF hH hO hC hG hV hR hsd htab hNN pc e he
    have hh0 : HdOK x 4 (hd_Law_positionOf 4) := hdok_of hF htab (by rw [hO, hC, hNN]; decide +kernel)
    refine ck_sound FT_ok PT_ok NT_ok CT_ok (invs := iv_Law_positionOf) ?_ ?_
    · exact (List.forall_mem_cons.mpr ⟨fun pc hd => ⟨cwX_V (C := RX6) (n := 1) hF hd (by rw [hH]; exact Ct_PB_positionOf kk l hst) hsd (by rw [hO]; exact wd_1205) wd_1206 wd_1207 wd_86 wd_1208 ⟨rfl, by decide +kernel, by decide +kernel, by decide +kernel⟩ (by decide) (by rw [hV]; decide) (sh_PB_positionOf kk), hd_one hh0⟩, (fun _ h => nomatch h)⟩)
    · rw [hO, hC, hR]; exact tk_use (fun pc h => by unfold T_Law_positionOf; rw [Nat.ble_eq_true_of_le h]) tk_Law_positionOf pc e he
  exact CtNH_of (F := 0) (by decide +kernel) hT (ro0 (ro_Law_positionOf kk) (fun _ _ => rfl)) nx_Law_positionOf (by decide)
def iv_Law_ageOf : List (Instr × Nat) := [(.invokevirtual 59, 1425489)]
theorem tk_Law_ageOf : (List.range 17).all (fun pc => match T_Law_ageOf pc with | none => true | some e => ck FT_ PT_ NT_ CT_ yL_ageOf.cls cL_ageOf (some .int) iv_Law_ageOf pc e) = true := by decide +kernel
theorem Ct_Law_ageOf (kk : Nat) (l : Launch) (hst : l.stackTraces = false) : CtN sdX l yL_ageOf (.codeWith yL_ageOf cL_ageOf 4 (some .int) [(0, 9, 12, 25)] :: lw_all) 10 1 (A_Law_ageOf kk) := by
  have hT : TabOKH sdX l yL_ageOf.cls cL_ageOf 4 1 10 (some .int) T_Law_ageOf (call_Law_ageOf kk) hd_Law_ageOf [(0, 9, 12, 25)] := by
    intro x hF hH hO hC hG hV hR hsd htab hNN pc e he
    have hh0 : HdOK x 4 (hd_Law_ageOf 4) := hdok_of hF htab (by rw [hO, hC, hNN]; decide +kernel)
    refine ck_sound FT_ok PT_ok NT_ok CT_ok (invs := iv_Law_ageOf) ?_ ?_
    · exact (List.forall_mem_cons.mpr ⟨fun pc hd => ⟨cwX_V (C := RX6) (n := 1) hF hd (by rw [hH]; exact Ct_PB_ageOf kk l hst) hsd (by rw [hO]; exact wd_1212) wd_1213 wd_1214 wd_86 wd_1215 ⟨rfl, by decide +kernel, by decide +kernel, by decide +kernel⟩ (by decide) (by rw [hV]; decide) (sh_PB_ageOf kk), hd_one hh0⟩, (fun _ h => nomatch h)⟩)
    · rw [hO, hC, hR]; exact tk_use (fun pc h => by unfold T_Law_ageOf; rw [Nat.ble_eq_true_of_le h]) tk_Law_ageOf pc e he
  exact CtNH_of (F := 0) (by decide +kernel) hT (ro0 (ro_Law_ageOf kk) (fun _ _ => rfl)) nx_Law_ageOf (by decide)
def iv_Law_weightFor : List (Instr × Nat) := [(.invokevirtual 62, 1540177)]
theorem tk_Law_weightFor : (List.range 17).all (fun pc => match T_Law_weightFor pc with | none => true | some e => ck FT_ PT_ NT_ CT_ yL_weightFor.cls cL_weightFor (some .int) iv_Law_weightFor pc e) = true := by decide +kernel
theorem Ct_Law_weightFor (kk : Nat) (l : Launch) (hst : l.stackTraces = false) : CtN sdX l yL_weightFor (.codeWith yL_weightFor cL_weightFor 4 (some .int) [(0, 9, 12, 13)] :: lw_all) 9 1 (A_Law_weightFor kk) := by
  have hT : TabOKH sdX l yL_weightFor.cls cL_weightFor 4 1 9 (some .int) T_Law_weightFor (call_Law_weightFor kk) hd_Law_weightFor [(0, 9, 12, 13)] := by
    intro x hF hH hO hC hG hV hR hsd htab hNN pc e he
    have hh0 : HdOK x 4 (hd_Law_weightFor 4) := hdok_of hF htab (by rw [hO, hC, hNN]; decide +kernel)
    refine ck_sound FT_ok PT_ok NT_ok CT_ok (invs := iv_Law_weightFor) ?_ ?_
    · exact (List.forall_mem_cons.mpr ⟨fun pc hd => ⟨cwX_V (C := RX6) (n := 1) hF hd (by rw [hH]; exact Ct_PB_weightFor kk l hst) hsd (by rw [hO]; exact wd_1223) wd_1224 wd_1225 wd_86 wd_1226 ⟨rfl, by decide +kernel, by decide +kernel, by decide +kernel⟩ (by decide) (by rw [hV]; decide) (sh_PB_weightFor kk), hd_one hh0⟩, (fun _ h => nomatch h)⟩)
    · rw [hO, hC, hR]; exact tk_use (fun pc h => by unfold T_Law_weightFor; rw [Nat.ble_eq_true_of_le h]) tk_Law_weightFor pc e he
  exact CtNH_of (F := 0) (by decide +kernel) hT (ro0 (ro_Law_weightFor kk) (fun _ _ => rfl)) nx_Law_weightFor (by decide)
def iv_Law_levelingBay : List (Instr × Nat) := [(.invokevirtual 65, 1605713)]
theorem tk_Law_levelingBay : (List.range 20).all (fun pc => match T_Law_levelingBay pc with | none => true | some e => ck FT_ PT_ NT_ CT_ yL_levelingBay.cls cL_levelingBay (some .int) iv_Law_levelingBay pc e) = true := by decide +kernel
theorem Ct_Law_levelingBay (kk : Nat) (l : Launch) (hst : l.stackTraces = false) : CtN sdX l yL_levelingBay (.codeWith yL_levelingBay cL_levelingBay 4 (some .int) [(0, 9, 12, 15), (0, 9, 15, 25)] :: lw_all) 12 1 (A_Law_levelingBay kk) := by
  have hT : TabOKH sdX l yL_levelingBay.cls cL_levelingBay 4 1 12 (some .int) T_Law_levelingBay (call_Law_levelingBay kk) hd_Law_levelingBay [(0, 9, 12, 15), (0, 9, 15, 25)] := by
    intro x hF hH hO hC hG hV hR hsd htab hNN pc e he
    have hh0 : HdOK x 4 (hd_Law_levelingBay 4) := hdok_of hF htab (by rw [hO, hC, hNN]; decide +kernel)
    refine ck_sound FT_ok PT_ok NT_ok CT_ok (invs := iv_Law_levelingBay) ?_ ?_
    · exact (List.forall_mem_cons.mpr ⟨fun pc hd => ⟨cwX_V (C := RX6) (n := 1) hF hd (by rw [hH]; exact Ct_PB_levelingBay kk l hst) hsd (by rw [hO]; exact wd_1237) wd_1238 wd_1239 wd_86 wd_1240 ⟨rfl, by decide +kernel, by decide +kernel, by decide +kernel⟩ (by decide) (by rw [hV]; decide) (sh_PB_levelingBay kk), hd_one hh0⟩, (fun _ h => nomatch h)⟩)
    · rw [hO, hC, hR]; exact tk_use (fun pc h => by unfold T_Law_levelingBay; rw [Nat.ble_eq_true_of_le h]) tk_Law_levelingBay pc e he
  exact CtNH_of (F := 0) (by decide +kernel) hT (ro0 (ro_Law_levelingBay kk) (fun _ _ => rfl)) nx_Law_levelingBay (by decide)
def iv_Law_legsTo : List (Instr × Nat) := [(.invokevirtual 68, 1704017)]
theorem tk_Law_legsTo : (List.range 17).all (fun pc => match T_Law_legsTo pc with | none => true | some e => ck FT_ PT_ NT_ CT_ yL_legsTo.cls cL_legsTo (some .int) iv_Law_legsTo pc e) = true := by decide +kernel
theorem Ct_Law_legsTo (kk : Nat) (l : Launch) (hst : l.stackTraces = false) : CtN sdX l yL_legsTo (.codeWith yL_legsTo cL_legsTo 4 (some .int) [(0, 9, 12, 13)] :: lw_all) 9 1 (A_Law_legsTo kk) := by
  have hT : TabOKH sdX l yL_legsTo.cls cL_legsTo 4 1 9 (some .int) T_Law_legsTo (call_Law_legsTo kk) hd_Law_legsTo [(0, 9, 12, 13)] := by
    intro x hF hH hO hC hG hV hR hsd htab hNN pc e he
    have hh0 : HdOK x 4 (hd_Law_legsTo 4) := hdok_of hF htab (by rw [hO, hC, hNN]; decide +kernel)
    refine ck_sound FT_ok PT_ok NT_ok CT_ok (invs := iv_Law_legsTo) ?_ ?_
    · exact (List.forall_mem_cons.mpr ⟨fun pc hd => ⟨cwX_V (C := RX6) (n := 1) hF hd (by rw [hH]; exact Ct_PB_legsTo kk l hst) hsd (by rw [hO]; exact wd_1256) wd_1257 wd_1258 wd_86 wd_1259 ⟨rfl, by decide +kernel, by decide +kernel, by decide +kernel⟩ (by decide) (by rw [hV]; decide) (sh_PB_legsTo kk), hd_one hh0⟩, (fun _ h => nomatch h)⟩)
    · rw [hO, hC, hR]; exact tk_use (fun pc h => by unfold T_Law_legsTo; rw [Nat.ble_eq_true_of_le h]) tk_Law_legsTo pc e he
  exact CtNH_of (F := 0) (by decide +kernel) hT (ro0 (ro_Law_legsTo kk) (fun _ _ => rfl)) nx_Law_legsTo (by decide)
def iv_Law_portAfter : List (Instr × Nat) := [(.invokevirtual 71, 1720401)]
theorem tk_Law_portAfter : (List.range 17).all (fun pc => match T_Law_portAfter pc with | none => true | some e => ck FT_ PT_ NT_ CT_ yL_portAfter.cls cL_portAfter (some .int) iv_Law_portAfter pc e) = true := by decide +kernel
theorem Ct_Law_portAfter (kk : Nat) (l : Launch) (hst : l.stackTraces = false) : CtN sdX l yL_portAfter (.codeWith yL_portAfter cL_portAfter 4 (some .int) [(0, 9, 12, 15)] :: lw_all) 9 1 (A_Law_portAfter kk) := by
  have hT : TabOKH sdX l yL_portAfter.cls cL_portAfter 4 1 9 (some .int) T_Law_portAfter (call_Law_portAfter kk) hd_Law_portAfter [(0, 9, 12, 15)] := by
    intro x hF hH hO hC hG hV hR hsd htab hNN pc e he
    have hh0 : HdOK x 4 (hd_Law_portAfter 4) := hdok_of hF htab (by rw [hO, hC, hNN]; decide +kernel)
    refine ck_sound FT_ok PT_ok NT_ok CT_ok (invs := iv_Law_portAfter) ?_ ?_
    · exact (List.forall_mem_cons.mpr ⟨fun pc hd => ⟨cwX_V (C := RX6) (n := 1) hF hd (by rw [hH]; exact Ct_PB_portAfter kk l hst) hsd (by rw [hO]; exact wd_1264) wd_1265 wd_1266 wd_86 wd_1267 ⟨rfl, by decide +kernel, by decide +kernel, by decide +kernel⟩ (by decide) (by rw [hV]; decide) (sh_PB_portAfter kk), hd_one hh0⟩, (fun _ h => nomatch h)⟩)
    · rw [hO, hC, hR]; exact tk_use (fun pc h => by unfold T_Law_portAfter; rw [Nat.ble_eq_true_of_le h]) tk_Law_portAfter pc e he
  exact CtNH_of (F := 0) (by decide +kernel) hT (ro0 (ro_Law_portAfter kk) (fun _ _ => rfl)) nx_Law_portAfter (by decide)
def iv_Law_pillowsInTheWay : List (Instr × Nat) := [(.invokevirtual 74, 1753169)]
theorem tk_Law_pillowsInTheWay : (List.range 17).all (fun pc => match T_Law_pillowsInTheWay pc with | none => true | some e => ck FT_ PT_ NT_ CT_ yL_pillowsInTheWay.cls cL_pillowsInTheWay (some .int) iv_Law_pillowsInTheWay pc e) = true := by decide +kernel
theorem Ct_Law_pillowsInTheWay (kk : Nat) (l : Launch) (hst : l.stackTraces = false) : CtN sdX l yL_pillowsInTheWay (.codeWith yL_pillowsInTheWay cL_pillowsInTheWay 4 (some .int) [(0, 9, 12, 25)] :: lw_all) 11 1 (A_Law_pillowsInTheWay kk) := by
  have hT : TabOKH sdX l yL_pillowsInTheWay.cls cL_pillowsInTheWay 4 1 11 (some .int) T_Law_pillowsInTheWay (call_Law_pillowsInTheWay kk) hd_Law_pillowsInTheWay [(0, 9, 12, 25)] := by
    intro x hF hH hO hC hG hV hR hsd htab hNN pc e he
    have hh0 : HdOK x 4 (hd_Law_pillowsInTheWay 4) := hdok_of hF htab (by rw [hO, hC, hNN]; decide +kernel)
    refine ck_sound FT_ok PT_ok NT_ok CT_ok (invs := iv_Law_pillowsInTheWay) ?_ ?_
    · exact (List.forall_mem_cons.mpr ⟨fun pc hd => ⟨cwX_V (C := RX6) (n := 1) hF hd (by rw [hH]; exact Ct_PB_pillowsInTheWay kk l hst) hsd (by rw [hO]; exact wd_1272) wd_1273 wd_1274 wd_86 wd_1275 ⟨rfl, by decide +kernel, by decide +kernel, by decide +kernel⟩ (by decide) (by rw [hV]; decide) (sh_PB_pillowsInTheWay kk), hd_one hh0⟩, (fun _ h => nomatch h)⟩)
    · rw [hO, hC, hR]; exact tk_use (fun pc h => by unfold T_Law_pillowsInTheWay; rw [Nat.ble_eq_true_of_le h]) tk_Law_pillowsInTheWay pc e he
  exact CtNH_of (F := 0) (by decide +kernel) hT (ro0 (ro_Law_pillowsInTheWay kk) (fun _ _ => rfl)) nx_Law_pillowsInTheWay (by decide)
def iv_Law_oldestIn : List (Instr × Nat) := [(.invokevirtual 77, 1441937)]
theorem tk_Law_oldestIn : (List.range 20).all (fun pc => match T_Law_oldestIn pc with | none => true | some e => ck FT_ PT_ NT_ CT_ yL_oldestIn.cls cL_oldestIn (some .int) iv_Law_oldestIn pc e) = true := by decide +kernel
theorem Ct_Law_oldestIn (kk : Nat) (l : Launch) (hst : l.stackTraces = false) : CtN sdX l yL_oldestIn (.codeWith yL_oldestIn cL_oldestIn 4 (some .int) [(0, 9, 12, 13), (0, 9, 15, 25)] :: lw_all) 12 2 (A_Law_oldestIn kk) := by
  have hT : TabOKH sdX l yL_oldestIn.cls cL_oldestIn 4 2 12 (some .int) T_Law_oldestIn (call_Law_oldestIn kk) hd_Law_oldestIn [(0, 9, 12, 13), (0, 9, 15, 25)] := by
    intro x hF hH hO hC hG hV hR hsd htab hNN pc e he
    have hh0 : HdOK x 4 (hd_Law_oldestIn 4) := hdok_of hF htab (by rw [hO, hC, hNN]; decide +kernel)
    refine ck_sound FT_ok PT_ok NT_ok CT_ok (invs := iv_Law_oldestIn) ?_ ?_
    · exact (List.forall_mem_cons.mpr ⟨fun pc hd => ⟨cwX_V (C := RX6) (n := 1) hF hd (by rw [hH]; exact Ct_PB_oldestIn kk l hst) hsd (by rw [hO]; exact wd_1279) wd_1280 wd_1281 wd_86 wd_1282 ⟨rfl, by decide +kernel, by decide +kernel, by decide +kernel⟩ (by decide) (by rw [hV]; decide) (sh_PB_oldestIn kk), hd_one hh0⟩, (fun _ h => nomatch h)⟩)
    · rw [hO, hC, hR]; exact tk_use (fun pc h => by unfold T_Law_oldestIn; rw [Nat.ble_eq_true_of_le h]) tk_Law_oldestIn pc e he
  exact CtNH_of (F := 0) (by decide +kernel) hT (ro0 (ro_Law_oldestIn kk) (fun _ _ => rfl)) nx_Law_oldestIn (by decide)
def iv_Law_heaviestPort : List (Instr × Nat) := [(.invokevirtual 80, 1737289)]
theorem tk_Law_heaviestPort : (List.range 16).all (fun pc => match T_Law_heaviestPort pc with | none => true | some e => ck FT_ PT_ NT_ CT_ yL_heaviestPort.cls cL_heaviestPort (some .int) iv_Law_heaviestPort pc e) = true := by decide +kernel
theorem Ct_Law_heaviestPort (kk : Nat) (l : Launch) (hst : l.stackTraces = false) : CtN sdX l yL_heaviestPort (.codeWith yL_heaviestPort cL_heaviestPort 3 (some .int) [(0, 8, 11, 25)] :: lw_all) 9 9 (A_Law_heaviestPort kk) := by
  have hT : TabOKH sdX l yL_heaviestPort.cls cL_heaviestPort 3 9 9 (some .int) T_Law_heaviestPort (call_Law_heaviestPort kk) hd_Law_heaviestPort [(0, 8, 11, 25)] := by
    intro x hF hH hO hC hG hV hR hsd htab hNN pc e he
    have hh0 : HdOK x 3 (hd_Law_heaviestPort 3) := hdok_of hF htab (by rw [hO, hC, hNN]; decide +kernel)
    refine ck_sound FT_ok PT_ok NT_ok CT_ok (invs := iv_Law_heaviestPort) ?_ ?_
    · exact (List.forall_mem_cons.mpr ⟨fun pc hd => ⟨cwX_V (C := RX6) (n := 0) hF hd (by rw [hH]; exact Ct_PB_heaviestPort kk l hst) hsd (by rw [hO]; exact wd_1294) wd_1295 wd_1296 wd_86 wd_1297 ⟨rfl, by decide +kernel, by decide +kernel, by decide +kernel⟩ (by decide) (by rw [hV]; decide) (sh_PB_heaviestPort kk), hd_one hh0⟩, (fun _ h => nomatch h)⟩)
    · rw [hO, hC, hR]; exact tk_use (fun pc h => by unfold T_Law_heaviestPort; rw [Nat.ble_eq_true_of_le h]) tk_Law_heaviestPort pc e he
  exact CtNH_of (F := 0) (by decide +kernel) hT (ro0 (ro_Law_heaviestPort kk) (fun _ _ => rfl)) nx_Law_heaviestPort (by decide)
def iv_Law_pillowByTurn : List (Instr × Nat) := [(.invokevirtual 84, 1919569)]
theorem tk_Law_pillowByTurn : (List.range 17).all (fun pc => match T_Law_pillowByTurn pc with | none => true | some e => ck FT_ PT_ NT_ CT_ yL_pillowByTurn.cls cL_pillowByTurn (some .int) iv_Law_pillowByTurn pc e) = true := by decide +kernel
theorem Ct_Law_pillowByTurn (kk : Nat) (l : Launch) (hst : l.stackTraces = false) : CtN sdX l yL_pillowByTurn (.codeWith yL_pillowByTurn cL_pillowByTurn 4 (some .int) [(0, 9, 12, 25)] :: lw_all) 13 41 (A_Law_pillowByTurn kk) := by
  have hT : TabOKH sdX l yL_pillowByTurn.cls cL_pillowByTurn 4 41 13 (some .int) T_Law_pillowByTurn (call_Law_pillowByTurn kk) hd_Law_pillowByTurn [(0, 9, 12, 25)] := by
    intro x hF hH hO hC hG hV hR hsd htab hNN pc e he
    have hh0 : HdOK x 4 (hd_Law_pillowByTurn 4) := hdok_of hF htab (by rw [hO, hC, hNN]; decide +kernel)
    refine ck_sound FT_ok PT_ok NT_ok CT_ok (invs := iv_Law_pillowByTurn) ?_ ?_
    · exact (List.forall_mem_cons.mpr ⟨fun pc hd => ⟨cwX_V (C := RX6) (n := 1) hF hd (by rw [hH]; exact Ct_PB_pillowByTurn kk l hst) hsd (by rw [hO]; exact wd_1301) wd_1302 wd_1303 wd_86 wd_1304 ⟨rfl, by decide +kernel, by decide +kernel, by decide +kernel⟩ (by decide) (by rw [hV]; decide) (sh_PB_pillowByTurn kk), hd_one hh0⟩, (fun _ h => nomatch h)⟩)
    · rw [hO, hC, hR]; exact tk_use (fun pc h => by unfold T_Law_pillowByTurn; rw [Nat.ble_eq_true_of_le h]) tk_Law_pillowByTurn pc e he
  exact CtNH_of (F := 0) (by decide +kernel) hT (ro0 (ro_Law_pillowByTurn kk) (fun _ _ => rfl)) nx_Law_pillowByTurn (by decide)
def iv_Law_bayByWeight : List (Instr × Nat) := [(.invokevirtual 87, 1966801)]
theorem tk_Law_bayByWeight : (List.range 17).all (fun pc => match T_Law_bayByWeight pc with | none => true | some e => ck FT_ PT_ NT_ CT_ yL_bayByWeight.cls cL_bayByWeight (some .int) iv_Law_bayByWeight pc e) = true := by decide +kernel
theorem Ct_Law_bayByWeight (kk : Nat) (l : Launch) (hst : l.stackTraces = false) : CtN sdX l yL_bayByWeight (.codeWith yL_bayByWeight cL_bayByWeight 4 (some .int) [(0, 9, 12, 25)] :: lw_all) 11 11 (A_Law_bayByWeight kk) := by
  have hT : TabOKH sdX l yL_bayByWeight.cls cL_bayByWeight 4 11 11 (some .int) T_Law_bayByWeight (call_Law_bayByWeight kk) hd_Law_bayByWeight [(0, 9, 12, 25)] := by
    intro x hF hH hO hC hG hV hR hsd htab hNN pc e he
    have hh0 : HdOK x 4 (hd_Law_bayByWeight 4) := hdok_of hF htab (by rw [hO, hC, hNN]; decide +kernel)
    refine ck_sound FT_ok PT_ok NT_ok CT_ok (invs := iv_Law_bayByWeight) ?_ ?_
    · exact (List.forall_mem_cons.mpr ⟨fun pc hd => ⟨cwX_V (C := RX6) (n := 1) hF hd (by rw [hH]; exact Ct_PB_bayByWeight kk l hst) hsd (by rw [hO]; exact wd_1316) wd_1317 wd_1318 wd_86 wd_1319 ⟨rfl, by decide +kernel, by decide +kernel, by decide +kernel⟩ (by decide) (by rw [hV]; decide) (sh_PB_bayByWeight kk), hd_one hh0⟩, (fun _ h => nomatch h)⟩)
    · rw [hO, hC, hR]; exact tk_use (fun pc h => by unfold T_Law_bayByWeight; rw [Nat.ble_eq_true_of_le h]) tk_Law_bayByWeight pc e he
  exact CtNH_of (F := 0) (by decide +kernel) hT (ro0 (ro_Law_bayByWeight kk) (fun _ _ => rfl)) nx_Law_bayByWeight (by decide)
def iv_Law_meanAge : List (Instr × Nat) := [(.invokevirtual 90, 2080843)]
theorem tk_Law_meanAge : (List.range 15).all (fun pc => match T_Law_meanAge pc with | none => true | some e => ck FT_ PT_ NT_ CT_ yL_meanAge.cls cL_meanAge (some .int) iv_Law_meanAge pc e) = true := by decide +kernel
theorem Ct_Law_meanAge (kk : Nat) (l : Launch) (hst : l.stackTraces = false) : CtN sdX l yL_meanAge (.codeWith yL_meanAge cL_meanAge 3 (some .int) [(0, 7, 10, 94)] :: lw_all) 11 1 (A_Law_meanAge kk) := by
  have hT : TabOKH sdX l yL_meanAge.cls cL_meanAge 3 1 11 (some .int) T_Law_meanAge (call_Law_meanAge kk) hd_Law_meanAge [(0, 7, 10, 94)] := by
    intro x hF hH hO hC hG hV hR hsd htab hNN pc e he
    have hh0 : HdOK x 3 (hd_Law_meanAge 3) := hdok_of hF htab (by rw [hO, hC, hNN]; decide +kernel)
    refine ck_sound FT_ok PT_ok NT_ok CT_ok (invs := iv_Law_meanAge) ?_ ?_
    · exact (List.forall_mem_cons.mpr ⟨fun pc hd => ⟨cwX_V (C := RX6) (n := 0) hF hd (by rw [hH]; exact Ct_PB_meanAge kk l hst) hsd (by rw [hO]; exact wd_1341) wd_1342 wd_1343 wd_86 wd_1344 ⟨rfl, by decide +kernel, by decide +kernel, by decide +kernel⟩ (by decide) (by rw [hV]; decide) (sh_PB_meanAge kk), hd_one hh0⟩, (fun _ h => nomatch h)⟩)
    · rw [hO, hC, hR]; exact tk_use (fun pc h => by unfold T_Law_meanAge; rw [Nat.ble_eq_true_of_le h]) tk_Law_meanAge pc e he
  exact CtNH_of (F := 0) (by decide +kernel) hT (ro0 (ro_Law_meanAge kk) (fun _ _ => rfl)) nx_Law_meanAge (by decide)
def iv_Law_capsizedShare : List (Instr × Nat) := [(.invokevirtual 96, 2113610)]
theorem tk_Law_capsizedShare : (List.range 16).all (fun pc => match T_Law_capsizedShare pc with | none => true | some e => ck FT_ PT_ NT_ CT_ yL_capsizedShare.cls cL_capsizedShare (some .int) iv_Law_capsizedShare pc e) = true := by decide +kernel
theorem Ct_Law_capsizedShare (kk : Nat) (l : Launch) (hst : l.stackTraces = false) : CtN sdX l yL_capsizedShare (.codeWith yL_capsizedShare cL_capsizedShare 3 (some .int) [(0, 8, 11, 94)] :: lw_all) 7 1 (A_Law_capsizedShare kk) := by
  have hT : TabOKH sdX l yL_capsizedShare.cls cL_capsizedShare 3 1 7 (some .int) T_Law_capsizedShare (call_Law_capsizedShare kk) hd_Law_capsizedShare [(0, 8, 11, 94)] := by
    intro x hF hH hO hC hG hV hR hsd htab hNN pc e he
    have hh0 : HdOK x 3 (hd_Law_capsizedShare 3) := hdok_of hF htab (by rw [hO, hC, hNN]; decide +kernel)
    refine ck_sound FT_ok PT_ok NT_ok CT_ok (invs := iv_Law_capsizedShare) ?_ ?_
    · exact (List.forall_mem_cons.mpr ⟨fun pc hd => ⟨cwX_V (C := RX6) (n := 0) hF hd (by rw [hH]; exact Ct_PB_capsizedShare kk l hst) hsd (by rw [hO]; exact wd_1357) wd_1358 wd_1359 wd_86 wd_1360 ⟨rfl, by decide +kernel, by decide +kernel, by decide +kernel⟩ (by decide) (by rw [hV]; decide) (sh_PB_capsizedShare kk), hd_one hh0⟩, (fun _ h => nomatch h)⟩)
    · rw [hO, hC, hR]; exact tk_use (fun pc h => by unfold T_Law_capsizedShare; rw [Nat.ble_eq_true_of_le h]) tk_Law_capsizedShare pc e he
  exact CtNH_of (F := 0) (by decide +kernel) hT (ro0 (ro_Law_capsizedShare kk) (fun _ _ => rfl)) nx_Law_capsizedShare (by decide)
def iv_Law_renderStack : List (Instr × Nat) := [(.invokevirtual 100, 2152081)]
theorem tk_Law_renderStack : (List.range 17).all (fun pc => match T_Law_renderStack pc with | none => true | some e => ck FT_ PT_ NT_ CT_ yL_renderStack.cls cL_renderStack (some .int) iv_Law_renderStack pc e) = true := by decide +kernel
theorem Ct_Law_renderStack (kk : Nat) (l : Launch) (hst : l.stackTraces = false) : CtN sdX l yL_renderStack (.codeWith yL_renderStack cL_renderStack 4 (some .int) [(0, 9, 12, 13)] :: lw_all) 11 90 (A_Law_renderStack kk) := by
  have hT : TabOKH sdX l yL_renderStack.cls cL_renderStack 4 90 11 (some .int) T_Law_renderStack (call_Law_renderStack kk) hd_Law_renderStack [(0, 9, 12, 13)] := by
    intro x hF hH hO hC hG hV hR hsd htab hNN pc e he
    have hh0 : HdOK x 4 (hd_Law_renderStack 4) := hdok_of hF htab (by rw [hO, hC, hNN]; decide +kernel)
    refine ck_sound FT_ok PT_ok NT_ok CT_ok (invs := iv_Law_renderStack) ?_ ?_
    · exact (List.forall_mem_cons.mpr ⟨fun pc hd => ⟨cwX_V (C := RX6) (n := 1) hF hd (by rw [hH]; exact Ct_PB_renderStack kk l hst) hsd (by rw [hO]; exact wd_1364) wd_1365 wd_1366 wd_86 wd_1367 ⟨rfl, by decide +kernel, by decide +kernel, by decide +kernel⟩ (by decide) (by rw [hV]; decide) (sh_PB_renderStack kk), hd_one hh0⟩, (fun _ h => nomatch h)⟩)
    · rw [hO, hC, hR]; exact tk_use (fun pc h => by unfold T_Law_renderStack; rw [Nat.ble_eq_true_of_le h]) tk_Law_renderStack pc e he
  exact CtNH_of (F := 0) (by decide +kernel) hT (ro0 (ro_Law_renderStack kk) (fun _ _ => rfl)) nx_Law_renderStack (by decide)
def iv_Law_outputAt : List (Instr × Nat) := [(.invokevirtual 103, 2211921)]
theorem tk_Law_outputAt : (List.range 17).all (fun pc => match T_Law_outputAt pc with | none => true | some e => ck FT_ PT_ NT_ CT_ yL_outputAt.cls cL_outputAt (some .int) iv_Law_outputAt pc e) = true := by decide +kernel
theorem Ct_Law_outputAt (kk : Nat) (l : Launch) (hst : l.stackTraces = false) : CtN sdX l yL_outputAt (.codeWith yL_outputAt cL_outputAt 4 (some .int) [(0, 9, 12, 13)] :: lw_all) 8 1 (A_Law_outputAt kk) := by
  have hT : TabOKH sdX l yL_outputAt.cls cL_outputAt 4 1 8 (some .int) T_Law_outputAt (call_Law_outputAt kk) hd_Law_outputAt [(0, 9, 12, 13)] := by
    intro x hF hH hO hC hG hV hR hsd htab hNN pc e he
    have hh0 : HdOK x 4 (hd_Law_outputAt 4) := hdok_of hF htab (by rw [hO, hC, hNN]; decide +kernel)
    refine ck_sound FT_ok PT_ok NT_ok CT_ok (invs := iv_Law_outputAt) ?_ ?_
    · exact (List.forall_mem_cons.mpr ⟨fun pc hd => ⟨cwX_V (C := RX6) (n := 1) hF hd (by rw [hH]; exact Ct_PB_outputAt kk l hst) hsd (by rw [hO]; exact wd_1375) wd_1376 wd_1377 wd_86 wd_1378 ⟨rfl, by decide +kernel, by decide +kernel, by decide +kernel⟩ (by decide) (by rw [hV]; decide) (sh_PB_outputAt kk), hd_one hh0⟩, (fun _ h => nomatch h)⟩)
    · rw [hO, hC, hR]; exact tk_use (fun pc h => by unfold T_Law_outputAt; rw [Nat.ble_eq_true_of_le h]) tk_Law_outputAt pc e he
  exact CtNH_of (F := 0) (by decide +kernel) hT (ro0 (ro_Law_outputAt kk) (fun _ _ => rfl)) nx_Law_outputAt (by decide)
def iv_Law_type : List (Instr × Nat) := [(.invokevirtual 107, 2228305)]
theorem tk_Law_type : (List.range 20).all (fun pc => match T_Law_type pc with | none => true | some e => ck FT_ PT_ NT_ CT_ yL_type.cls cL_type (some .int) iv_Law_type pc e) = true := by decide +kernel
theorem Ct_Law_type (kk : Nat) (l : Launch) (hst : l.stackTraces = false) : CtN sdX l yL_type (.codeWith yL_type cL_type 4 (some .int) [(0, 9, 12, 15), (0, 9, 15, 17)] :: lw_all) 8 1 (A_Law_type kk) := by
  have hT : TabOKH sdX l yL_type.cls cL_type 4 1 8 (some .int) T_Law_type (call_Law_type kk) hd_Law_type [(0, 9, 12, 15), (0, 9, 15, 17)] := by
    intro x hF hH hO hC hG hV hR hsd htab hNN pc e he
    have hh0 : HdOK x 4 (hd_Law_type 4) := hdok_of hF htab (by rw [hO, hC, hNN]; decide +kernel)
    refine ck_sound FT_ok PT_ok NT_ok CT_ok (invs := iv_Law_type) ?_ ?_
    · exact (List.forall_mem_cons.mpr ⟨fun pc hd => ⟨cwX_V (C := RX6) (n := 1) hF hd (by rw [hH]; exact Ct_PB_type kk l hst) hsd (by rw [hO]; exact wd_1392) wd_1393 wd_1394 wd_86 wd_1395 ⟨rfl, by decide +kernel, by decide +kernel, by decide +kernel⟩ (by decide) (by rw [hV]; decide) (sh_PB_type kk), hd_one hh0⟩, (fun _ h => nomatch h)⟩)
    · rw [hO, hC, hR]; exact tk_use (fun pc h => by unfold T_Law_type; rw [Nat.ble_eq_true_of_le h]) tk_Law_type pc e he
  exact CtNH_of (F := 0) (by decide +kernel) hT (ro0 (ro_Law_type kk) (fun _ _ => rfl)) nx_Law_type (by decide)
def iv_Law_runScript : List (Instr × Nat) := [(.invokevirtual 111, 2244681)]
theorem tk_Law_runScript : (List.range 19).all (fun pc => match T_Law_runScript pc with | none => true | some e => ck FT_ PT_ NT_ CT_ yL_runScript.cls cL_runScript (some .int) iv_Law_runScript pc e) = true := by decide +kernel
theorem Ct_Law_runScript (kk : Nat) (l : Launch) (hst : l.stackTraces = false) : CtN sdX l yL_runScript (.codeWith yL_runScript cL_runScript 3 (some .int) [(0, 8, 11, 15), (0, 8, 14, 17)] :: lw_all) 13 1 (A_Law_runScript kk) := by
  have hT : TabOKH sdX l yL_runScript.cls cL_runScript 3 1 13 (some .int) T_Law_runScript (call_Law_runScript kk) hd_Law_runScript [(0, 8, 11, 15), (0, 8, 14, 17)] := by
    intro x hF hH hO hC hG hV hR hsd htab hNN pc e he
    have hh0 : HdOK x 3 (hd_Law_runScript 3) := hdok_of hF htab (by rw [hO, hC, hNN]; decide +kernel)
    refine ck_sound FT_ok PT_ok NT_ok CT_ok (invs := iv_Law_runScript) ?_ ?_
    · exact (List.forall_mem_cons.mpr ⟨fun pc hd => ⟨cwX_V (C := RX6) (n := 0) hF hd (by rw [hH]; exact Ct_PB_runScript kk l hst) hsd (by rw [hO]; exact wd_1407) wd_1408 wd_1409 wd_86 wd_1410 ⟨rfl, by decide +kernel, by decide +kernel, by decide +kernel⟩ (by decide) (by rw [hV]; decide) (sh_PB_runScript kk), hd_one hh0⟩, (fun _ h => nomatch h)⟩)
    · rw [hO, hC, hR]; exact tk_use (fun pc h => by unfold T_Law_runScript; rw [Nat.ble_eq_true_of_le h]) tk_Law_runScript pc e he
  exact CtNH_of (F := 0) (by decide +kernel) hT (ro0 (ro_Law_runScript kk) (fun _ _ => rfl)) nx_Law_runScript (by decide)
def iv_Law_errorPosition : List (Instr × Nat) := [(.invokevirtual 114, 2277449)]
theorem tk_Law_errorPosition : (List.range 16).all (fun pc => match T_Law_errorPosition pc with | none => true | some e => ck FT_ PT_ NT_ CT_ yL_errorPosition.cls cL_errorPosition (some .int) iv_Law_errorPosition pc e) = true := by decide +kernel
theorem Ct_Law_errorPosition (kk : Nat) (l : Launch) (hst : l.stackTraces = false) : CtN sdX l yL_errorPosition (.codeWith yL_errorPosition cL_errorPosition 3 (some .int) [(0, 8, 11, 25)] :: lw_all) 7 1 (A_Law_errorPosition kk) := by
  have hT : TabOKH sdX l yL_errorPosition.cls cL_errorPosition 3 1 7 (some .int) T_Law_errorPosition (call_Law_errorPosition kk) hd_Law_errorPosition [(0, 8, 11, 25)] := by
    intro x hF hH hO hC hG hV hR hsd htab hNN pc e he
    have hh0 : HdOK x 3 (hd_Law_errorPosition 3) := hdok_of hF htab (by rw [hO, hC, hNN]; decide +kernel)
    refine ck_sound FT_ok PT_ok NT_ok CT_ok (invs := iv_Law_errorPosition) ?_ ?_
    · exact (List.forall_mem_cons.mpr ⟨fun pc hd => ⟨cwX_V (C := RX6) (n := 0) hF hd (by rw [hH]; exact Ct_PB_errorPosition kk l hst) hsd (by rw [hO]; exact wd_1506) wd_1507 wd_1508 wd_86 wd_1509 ⟨rfl, by decide +kernel, by decide +kernel, by decide +kernel⟩ (by decide) (by rw [hV]; decide) (sh_PB_errorPosition kk), hd_one hh0⟩, (fun _ h => nomatch h)⟩)
    · rw [hO, hC, hR]; exact tk_use (fun pc h => by unfold T_Law_errorPosition; rw [Nat.ble_eq_true_of_le h]) tk_Law_errorPosition pc e he
  exact CtNH_of (F := 0) (by decide +kernel) hT (ro0 (ro_Law_errorPosition kk) (fun _ _ => rfl)) nx_Law_errorPosition (by decide)
def iv_Law_failedCommand : List (Instr × Nat) := [(.invokevirtual 117, 2293833)]
theorem tk_Law_failedCommand : (List.range 16).all (fun pc => match T_Law_failedCommand pc with | none => true | some e => ck FT_ PT_ NT_ CT_ yL_failedCommand.cls cL_failedCommand (some .int) iv_Law_failedCommand pc e) = true := by decide +kernel
theorem Ct_Law_failedCommand (kk : Nat) (l : Launch) (hst : l.stackTraces = false) : CtN sdX l yL_failedCommand (.codeWith yL_failedCommand cL_failedCommand 3 (some .int) [(0, 8, 11, 25)] :: lw_all) 7 1 (A_Law_failedCommand kk) := by
  have hT : TabOKH sdX l yL_failedCommand.cls cL_failedCommand 3 1 7 (some .int) T_Law_failedCommand (call_Law_failedCommand kk) hd_Law_failedCommand [(0, 8, 11, 25)] := by
    intro x hF hH hO hC hG hV hR hsd htab hNN pc e he
    have hh0 : HdOK x 3 (hd_Law_failedCommand 3) := hdok_of hF htab (by rw [hO, hC, hNN]; decide +kernel)
    refine ck_sound FT_ok PT_ok NT_ok CT_ok (invs := iv_Law_failedCommand) ?_ ?_
    · exact (List.forall_mem_cons.mpr ⟨fun pc hd => ⟨cwX_V (C := RX6) (n := 0) hF hd (by rw [hH]; exact Ct_PB_failedCommand kk l hst) hsd (by rw [hO]; exact wd_1513) wd_1514 wd_1515 wd_86 wd_1516 ⟨rfl, by decide +kernel, by decide +kernel, by decide +kernel⟩ (by decide) (by rw [hV]; decide) (sh_PB_failedCommand kk), hd_one hh0⟩, (fun _ h => nomatch h)⟩)
    · rw [hO, hC, hR]; exact tk_use (fun pc h => by unfold T_Law_failedCommand; rw [Nat.ble_eq_true_of_le h]) tk_Law_failedCommand pc e he
  exact CtNH_of (F := 0) (by decide +kernel) hT (ro0 (ro_Law_failedCommand kk) (fun _ _ => rfl)) nx_Law_failedCommand (by decide)
def iv_Law_undo : List (Instr × Nat) := [(.invokevirtual 120, 2310217)]
theorem tk_Law_undo : (List.range 16).all (fun pc => match T_Law_undo pc with | none => true | some e => ck FT_ PT_ NT_ CT_ yL_undo.cls cL_undo (some .int) iv_Law_undo pc e) = true := by decide +kernel
theorem Ct_Law_undo (kk : Nat) (l : Launch) (hst : l.stackTraces = false) : CtN sdX l yL_undo (.codeWith yL_undo cL_undo 3 (some .int) [(0, 8, 11, 25)] :: lw_all) 12 1 (A_Law_undo kk) := by
  have hT : TabOKH sdX l yL_undo.cls cL_undo 3 1 12 (some .int) T_Law_undo (call_Law_undo kk) hd_Law_undo [(0, 8, 11, 25)] := by
    intro x hF hH hO hC hG hV hR hsd htab hNN pc e he
    have hh0 : HdOK x 3 (hd_Law_undo 3) := hdok_of hF htab (by rw [hO, hC, hNN]; decide +kernel)
    refine ck_sound FT_ok PT_ok NT_ok CT_ok (invs := iv_Law_undo) ?_ ?_
    · exact (List.forall_mem_cons.mpr ⟨fun pc hd => ⟨cwX_V (C := RX6) (n := 0) hF hd (by rw [hH]; exact Ct_PB_undo kk l hst) hsd (by rw [hO]; exact wd_1520) wd_1521 wd_1522 wd_86 wd_1523 ⟨rfl, by decide +kernel, by decide +kernel, by decide +kernel⟩ (by decide) (by rw [hV]; decide) (sh_PB_undo kk), hd_one hh0⟩, (fun _ h => nomatch h)⟩)
    · rw [hO, hC, hR]; exact tk_use (fun pc h => by unfold T_Law_undo; rw [Nat.ble_eq_true_of_le h]) tk_Law_undo pc e he
  exact CtNH_of (F := 0) (by decide +kernel) hT (ro0 (ro_Law_undo kk) (fun _ _ => rfl)) nx_Law_undo (by decide)
def iv_Law_restore : List (Instr × Nat) := [(.invokevirtual 123, 2342985)]
theorem tk_Law_restore : (List.range 16).all (fun pc => match T_Law_restore pc with | none => true | some e => ck FT_ PT_ NT_ CT_ yL_restore.cls cL_restore (some .int) iv_Law_restore pc e) = true := by decide +kernel
theorem Ct_Law_restore (kk : Nat) (l : Launch) (hst : l.stackTraces = false) : CtN sdX l yL_restore (.codeWith yL_restore cL_restore 3 (some .int) [(0, 8, 11, 17)] :: lw_all) 10 1 (A_Law_restore kk) := by
  have hT : TabOKH sdX l yL_restore.cls cL_restore 3 1 10 (some .int) T_Law_restore (call_Law_restore kk) hd_Law_restore [(0, 8, 11, 17)] := by
    intro x hF hH hO hC hG hV hR hsd htab hNN pc e he
    have hh0 : HdOK x 3 (hd_Law_restore 3) := hdok_of hF htab (by rw [hO, hC, hNN]; decide +kernel)
    refine ck_sound FT_ok PT_ok NT_ok CT_ok (invs := iv_Law_restore) ?_ ?_
    · exact (List.forall_mem_cons.mpr ⟨fun pc hd => ⟨cwX_V (C := RX6) (n := 0) hF hd (by rw [hH]; exact Ct_PB_restore kk l hst) hsd (by rw [hO]; exact wd_1532) wd_1533 wd_1534 wd_86 wd_1535 ⟨rfl, by decide +kernel, by decide +kernel, by decide +kernel⟩ (by decide) (by rw [hV]; decide) (sh_PB_restore kk), hd_one hh0⟩, (fun _ h => nomatch h)⟩)
    · rw [hO, hC, hR]; exact tk_use (fun pc h => by unfold T_Law_restore; rw [Nat.ble_eq_true_of_le h]) tk_Law_restore pc e he
  exact CtNH_of (F := 0) (by decide +kernel) hT (ro0 (ro_Law_restore kk) (fun _ _ => rfl)) nx_Law_restore (by decide)
