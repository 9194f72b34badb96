set_option maxRecDepth 100000
def iv_Cargo_copyFrom : List (Instr × Nat) := [(.invokestatic 27, 14827560)]
theorem tk_Cargo_copyFrom : (List.range 76).all (fun pc => match T_Cargo_copyFrom pc with | none => true | some e => ck FT_ PT_ NT_ CT_ yX0_copyFrom.cls cX0_copyFrom none iv_Cargo_copyFrom pc e) = true := by decide +kernel
theorem Ct_Cargo_copyFrom (kk : Nat) (l : Launch) (hst : l.stackTraces = false) : CtX sdX l yX0_copyFrom (.code yX0_copyFrom cX0_copyFrom 2 none :: lw_all) 7 0 (A_Cargo_copyFrom kk) := by
  have hT : TabOK sdX l yX0_copyFrom.cls cX0_copyFrom 0 7 none T_Cargo_copyFrom (call_Cargo_copyFrom kk) (fun _ => []) := by
    intro x hF hH hO hC hG hV hR hsd pc e he
    refine ck_sound FT_ok PT_ok NT_ok CT_ok (invs := iv_Cargo_copyFrom) ?_ ?_
    · exact (List.forall_mem_cons.mpr ⟨fun pc hd => ⟨cwJ_acopy hF hd hsd (by rw [hO]; exact wd_569) (by rw [hV]; decide), hd_nil⟩, (fun _ h => nomatch h)⟩)
    · rw [hO, hC, hR]; exact tk_use (fun pc h => by unfold T_Cargo_copyFrom; rw [Nat.ble_eq_true_of_le h]) tk_Cargo_copyFrom pc e he
  exact CtX_of hst (by decide) (by decide +kernel) hT (ro_Cargo_copyFrom kk) (by rw [Nat.zero_mul]; exact Nat.zero_le _)
def iv_PB_isBay : List (Instr × Nat) := []
theorem tk_PB_isBay : (List.range 16).all (fun pc => match T_PB_isBay pc with | none => true | some e => ck FT_ PT_ NT_ CT_ yX6_isBay.cls cX6_isBay (some .boolean) iv_PB_isBay pc e) = true := by decide +kernel
theorem Ct_PB_isBay (kk : Nat) (l : Launch) (hst : l.stackTraces = false) : CtN sdX l yX6_isBay (.code yX6_isBay cX6_isBay 1 (some .boolean) :: lw_all) 6 0 (A_PB_isBay kk) := by
  have hT : TabOK sdX l yX6_isBay.cls cX6_isBay 0 6 (some .boolean) T_PB_isBay (call_PB_isBay kk) (fun _ => []) := by
    intro x hF hH hO hC hG hV hR hsd pc e he
    refine ck_sound FT_ok PT_ok NT_ok CT_ok (invs := iv_PB_isBay) ?_ ?_
    · exact (fun _ h => nomatch h)
    · rw [hO, hC, hR]; exact tk_use (fun pc h => by unfold T_PB_isBay; rw [Nat.ble_eq_true_of_le h]) tk_PB_isBay pc e he
  exact CtN_of (by decide +kernel) hT (ro_PB_isBay kk) nx_PB_isBay (by rw [Nat.zero_mul]; exact Nat.zero_le _)
def iv_Cargo_heightOf : List (Instr × Nat) := [(.invokestatic 33, 2359305)]
theorem tk_Cargo_heightOf : (List.range 18).all (fun pc => match T_Cargo_heightOf pc with | none => true | some e => ck FT_ PT_ NT_ CT_ yX0_heightOf.cls cX0_heightOf (some .int) iv_Cargo_heightOf pc e) = true := by decide +kernel
theorem Ct_Cargo_heightOf (kk : Nat) (l : Launch) (hst : l.stackTraces = false) : CtX sdX l yX0_heightOf (.code yX0_heightOf cX0_heightOf 2 (some .int) :: lw_all) 7 0 (A_Cargo_heightOf kk) := by
  have hT : TabOK sdX l yX0_heightOf.cls cX0_heightOf 0 7 (some .int) T_Cargo_heightOf (call_Cargo_heightOf kk) (fun _ => []) := by
    intro x hF hH hO hC hG hV hR hsd pc e he
    refine ck_sound FT_ok PT_ok NT_ok CT_ok (invs := iv_Cargo_heightOf) ?_ ?_
    · exact (List.forall_mem_cons.mpr ⟨fun pc hd => ⟨cwN_SN (n := 1) hF hd (by rw [hH]; exact Ct_PB_isBay kk l hst) hsd (by rw [hO]; exact wn_364) wd_352 wd_86 wd_353 ⟨by decide +kernel, by decide +kernel, by decide +kernel⟩ (by decide) (by rw [hV]; decide) (sh_PB_isBay kk), hd_nil⟩, (fun _ h => nomatch h)⟩)
    · rw [hO, hC, hR]; exact tk_use (fun pc h => by unfold T_Cargo_heightOf; rw [Nat.ble_eq_true_of_le h]) tk_Cargo_heightOf pc e he
  exact CtX_of hst (by decide) (by decide +kernel) hT (ro_Cargo_heightOf kk) (by rw [Nat.zero_mul]; exact Nat.zero_le _)
def iv_Cargo_isTaken : List (Instr × Nat) := []
theorem tk_Cargo_isTaken : (List.range 30).all (fun pc => match T_Cargo_isTaken pc with | none => true | some e => ck FT_ PT_ NT_ CT_ yX0_isTaken.cls cX0_isTaken (some .boolean) iv_Cargo_isTaken pc e) = true := by decide +kernel
theorem Ct_Cargo_isTaken (kk : Nat) (l : Launch) (hst : l.stackTraces = false) : CtX sdX l yX0_isTaken (.code yX0_isTaken cX0_isTaken 2 (some .boolean) :: lw_all) 6 0 (A_Cargo_isTaken kk) := by
  have hT : TabOK sdX l yX0_isTaken.cls cX0_isTaken 0 6 (some .boolean) T_Cargo_isTaken (call_Cargo_isTaken kk) (fun _ => []) := by
    intro x hF hH hO hC hG hV hR hsd pc e he
    refine ck_sound FT_ok PT_ok NT_ok CT_ok (invs := iv_Cargo_isTaken) ?_ ?_
    · exact (fun _ h => nomatch h)
    · rw [hO, hC, hR]; exact tk_use (fun pc h => by unfold T_Cargo_isTaken; rw [Nat.ble_eq_true_of_le h]) tk_Cargo_isTaken pc e he
  exact CtX_of hst (by decide) (by decide +kernel) hT (ro_Cargo_isTaken kk) (by rw [Nat.zero_mul]; exact Nat.zero_le _)
def iv_Cargo_slotAt : List (Instr × Nat) := [(.invokestatic 33, 2359305), (.invokevirtual 37, 65553)]
theorem tk_Cargo_slotAt : (List.range 38).all (fun pc => match T_Cargo_slotAt pc with | none => true | some e => ck FT_ PT_ NT_ CT_ yX0_slotAt.cls cX0_slotAt (some .int) iv_Cargo_slotAt pc e) = true := by decide +kernel
theorem Ct_Cargo_slotAt (kk : Nat) (l : Launch) (hst : l.stackTraces = false) : CtX sdX l yX0_slotAt (.code yX0_slotAt cX0_slotAt 4 (some .int) :: lw_all) 7 0 (A_Cargo_slotAt kk) := by
  have hT : TabOK sdX l yX0_slotAt.cls cX0_slotAt 0 7 (some .int) T_Cargo_slotAt (call_Cargo_slotAt kk) (fun _ => []) := by
    intro x hF hH hO hC hG hV hR hsd pc e he
    refine ck_sound FT_ok PT_ok NT_ok CT_ok (invs := iv_Cargo_slotAt) ?_ ?_
    · exact (List.forall_mem_cons.mpr ⟨fun pc hd => ⟨cwN_SN (n := 1) hF hd (by rw [hH]; exact Ct_PB_isBay kk l hst) hsd (by rw [hO]; exact wn_364) wd_352 wd_86 wd_353 ⟨by decide +kernel, by decide +kernel, by decide +kernel⟩ (by decide) (by rw [hV]; decide) (sh_PB_isBay kk), hd_nil⟩, (List.forall_mem_cons.mpr ⟨fun pc hd => ⟨cwX_V (C := RX0) (n := 1) hF hd (by rw [hH]; exact Ct_Cargo_isTaken kk l hst) hsd (by rw [hO]; exact wd_376) wd_377 wd_378 wd_88 wd_379 ⟨rfl, by decide +kernel, by decide +kernel, by decide +kernel⟩ (by decide) (by rw [hV]; decide) (sh_Cargo_isTaken kk), hd_nil⟩, (fun _ h => nomatch h)⟩)⟩)
    · rw [hO, hC, hR]; exact tk_use (fun pc h => by unfold T_Cargo_slotAt; rw [Nat.ble_eq_true_of_le h]) tk_Cargo_slotAt pc e he
  exact CtX_of hst (by decide) (by decide +kernel) hT (ro_Cargo_slotAt kk) (by rw [Nat.zero_mul]; exact Nat.zero_le _)
def iv_Cargo_topSlot : List (Instr × Nat) := [(.invokevirtual 40, 49169), (.invokevirtual 44, 81945)]
theorem tk_Cargo_topSlot : (List.range 13).all (fun pc => match T_Cargo_topSlot pc with | none => true | some e => ck FT_ PT_ NT_ CT_ yX0_topSlot.cls cX0_topSlot (some .int) iv_Cargo_topSlot pc e) = true := by decide +kernel
theorem Ct_Cargo_topSlot (kk : Nat) (l : Launch) (hst : l.stackTraces = false) : CtX sdX l yX0_topSlot (.code yX0_topSlot cX0_topSlot 2 (some .int) :: lw_all) 8 0 (A_Cargo_topSlot kk) := by
  have hT : TabOK sdX l yX0_topSlot.cls cX0_topSlot 0 8 (some .int) T_Cargo_topSlot (call_Cargo_topSlot kk) (fun _ => []) := by
    intro x hF hH hO hC hG hV hR hsd pc e he
    refine ck_sound FT_ok PT_ok NT_ok CT_ok (invs := iv_Cargo_topSlot) ?_ ?_
    · exact (List.forall_mem_cons.mpr ⟨fun pc hd => ⟨cwX_V (C := RX0) (n := 1) hF hd (by rw [hH]; exact Ct_Cargo_heightOf kk l hst) hsd (by rw [hO]; exact wd_396) wd_361 wd_362 wd_88 wd_363 ⟨rfl, by decide +kernel, by decide +kernel, by decide +kernel⟩ (by decide) (by rw [hV]; decide) (sh_Cargo_heightOf kk), hd_nil⟩, (List.forall_mem_cons.mpr ⟨fun pc hd => ⟨cwX_V (C := RX0) (n := 2) hF hd (by rw [hH]; exact Ct_Cargo_slotAt kk l hst) hsd (by rw [hO]; exact wd_397) wd_398 wd_399 wd_88 wd_400 ⟨rfl, by decide +kernel, by decide +kernel, by decide +kernel⟩ (by decide) (by rw [hV]; decide) (sh_Cargo_slotAt kk), hd_nil⟩, (fun _ h => nomatch h)⟩)⟩)
    · rw [hO, hC, hR]; exact tk_use (fun pc h => by unfold T_Cargo_topSlot; rw [Nat.ble_eq_true_of_le h]) tk_Cargo_topSlot pc e he
  exact CtX_of hst (by decide) (by decide +kernel) hT (ro_Cargo_topSlot kk) (by rw [Nat.zero_mul]; exact Nat.zero_le _)
def iv_Cargo_slotOf : List (Instr × Nat) := [(.invokevirtual 37, 65553)]
theorem tk_Cargo_slotOf : (List.range 36).all (fun pc => match T_Cargo_slotOf pc with | none => true | some e => ck FT_ PT_ NT_ CT_ yX0_slotOf.cls cX0_slotOf (some .int) iv_Cargo_slotOf pc e) = true := by decide +kernel
theorem Ct_Cargo_slotOf (kk : Nat) (l : Launch) (hst : l.stackTraces = false) : CtX sdX l yX0_slotOf (.code yX0_slotOf cX0_slotOf 3 (some .int) :: lw_all) 7 0 (A_Cargo_slotOf kk) := by
  have hT : TabOK sdX l yX0_slotOf.cls cX0_slotOf 0 7 (some .int) T_Cargo_slotOf (call_Cargo_slotOf kk) (fun _ => []) := by
    intro x hF hH hO hC hG hV hR hsd pc e he
    refine ck_sound FT_ok PT_ok NT_ok CT_ok (invs := iv_Cargo_slotOf) ?_ ?_
    · exact (List.forall_mem_cons.mpr ⟨fun pc hd => ⟨cwX_V (C := RX0) (n := 1) hF hd (by rw [hH]; exact Ct_Cargo_isTaken kk l hst) hsd (by rw [hO]; exact wd_376) wd_377 wd_378 wd_88 wd_379 ⟨rfl, by decide +kernel, by decide +kernel, by decide +kernel⟩ (by decide) (by rw [hV]; decide) (sh_Cargo_isTaken kk), hd_nil⟩, (fun _ h => nomatch h)⟩)
    · rw [hO, hC, hR]; exact tk_use (fun pc h => by unfold T_Cargo_slotOf; rw [Nat.ble_eq_true_of_le h]) tk_Cargo_slotOf pc e he
  exact CtX_of hst (by decide) (by decide +kernel) hT (ro_Cargo_slotOf kk) (by rw [Nat.zero_mul]; exact Nat.zero_le _)
def iv_PB_isSlot : List (Instr × Nat) := []
theorem tk_PB_isSlot : (List.range 16).all (fun pc => match T_PB_isSlot pc with | none => true | some e => ck FT_ PT_ NT_ CT_ yX6_isSlot.cls cX6_isSlot (some .boolean) iv_PB_isSlot pc e) = true := by decide +kernel
theorem Ct_PB_isSlot (kk : Nat) (l : Launch) (hst : l.stackTraces = false) : CtN sdX l yX6_isSlot (.code yX6_isSlot cX6_isSlot 1 (some .boolean) :: lw_all) 6 0 (A_PB_isSlot kk) := by
  have hT : TabOK sdX l yX6_isSlot.cls cX6_isSlot 0 6 (some .boolean) T_PB_isSlot (call_PB_isSlot kk) (fun _ => []) := by
    intro x hF hH hO hC hG hV hR hsd pc e he
    refine ck_sound FT_ok PT_ok NT_ok CT_ok (invs := iv_PB_isSlot) ?_ ?_
    · exact (fun _ h => nomatch h)
    · rw [hO, hC, hR]; exact tk_use (fun pc h => by unfold T_PB_isSlot; rw [Nat.ble_eq_true_of_le h]) tk_PB_isSlot pc e he
  exact CtN_of (by decide +kernel) hT (ro_PB_isSlot kk) nx_PB_isSlot (by rw [Nat.zero_mul]; exact Nat.zero_le _)
def iv_Cargo_numberIn : List (Instr × Nat) := [(.invokestatic 48, 2375689)]
theorem tk_Cargo_numberIn : (List.range 18).all (fun pc => match T_Cargo_numberIn pc with | none => true | some e => ck FT_ PT_ NT_ CT_ yX0_numberIn.cls cX0_numberIn (some .int) iv_Cargo_numberIn pc e) = true := by decide +kernel
theorem Ct_Cargo_numberIn (kk : Nat) (l : Launch) (hst : l.stackTraces = false) : CtX sdX l yX0_numberIn (.code yX0_numberIn cX0_numberIn 2 (some .int) :: lw_all) 7 0 (A_Cargo_numberIn kk) := by
  have hT : TabOK sdX l yX0_numberIn.cls cX0_numberIn 0 7 (some .int) T_Cargo_numberIn (call_Cargo_numberIn kk) (fun _ => []) := by
    intro x hF hH hO hC hG hV hR hsd pc e he
    refine ck_sound FT_ok PT_ok NT_ok CT_ok (invs := iv_Cargo_numberIn) ?_ ?_
    · exact (List.forall_mem_cons.mpr ⟨fun pc hd => ⟨cwN_SN (n := 1) hF hd (by rw [hH]; exact Ct_PB_isSlot kk l hst) hsd (by rw [hO]; exact wn_408) wd_402 wd_86 wd_403 ⟨by decide +kernel, by decide +kernel, by decide +kernel⟩ (by decide) (by rw [hV]; decide) (sh_PB_isSlot kk), hd_nil⟩, (fun _ h => nomatch h)⟩)
    · rw [hO, hC, hR]; exact tk_use (fun pc h => by unfold T_Cargo_numberIn; rw [Nat.ble_eq_true_of_le h]) tk_Cargo_numberIn pc e he
  exact CtX_of hst (by decide) (by decide +kernel) hT (ro_Cargo_numberIn kk) (by rw [Nat.zero_mul]; exact Nat.zero_le _)
def iv_Cargo_weightIn : List (Instr × Nat) := [(.invokestatic 48, 2375689)]
theorem tk_Cargo_weightIn : (List.range 18).all (fun pc => match T_Cargo_weightIn pc with | none => true | some e => ck FT_ PT_ NT_ CT_ yX0_weightIn.cls cX0_weightIn (some .int) iv_Cargo_weightIn pc e) = true := by decide +kernel
theorem Ct_Cargo_weightIn (kk : Nat) (l : Launch) (hst : l.stackTraces = false) : CtX sdX l yX0_weightIn (.code yX0_weightIn cX0_weightIn 2 (some .int) :: lw_all) 7 0 (A_Cargo_weightIn kk) := by
  have hT : TabOK sdX l yX0_weightIn.cls cX0_weightIn 0 7 (some .int) T_Cargo_weightIn (call_Cargo_weightIn kk) (fun _ => []) := by
    intro x hF hH hO hC hG hV hR hsd pc e he
    refine ck_sound FT_ok PT_ok NT_ok CT_ok (invs := iv_Cargo_weightIn) ?_ ?_
    · exact (List.forall_mem_cons.mpr ⟨fun pc hd => ⟨cwN_SN (n := 1) hF hd (by rw [hH]; exact Ct_PB_isSlot kk l hst) hsd (by rw [hO]; exact wn_408) wd_402 wd_86 wd_403 ⟨by decide +kernel, by decide +kernel, by decide +kernel⟩ (by decide) (by rw [hV]; decide) (sh_PB_isSlot kk), hd_nil⟩, (fun _ h => nomatch h)⟩)
    · rw [hO, hC, hR]; exact tk_use (fun pc h => by unfold T_Cargo_weightIn; rw [Nat.ble_eq_true_of_le h]) tk_Cargo_weightIn pc e he
  exact CtX_of hst (by decide) (by decide +kernel) hT (ro_Cargo_weightIn kk) (by rw [Nat.zero_mul]; exact Nat.zero_le _)
def iv_Cargo_destinationIn : List (Instr × Nat) := [(.invokestatic 48, 2375689)]
theorem tk_Cargo_destinationIn : (List.range 18).all (fun pc => match T_Cargo_destinationIn pc with | none => true | some e => ck FT_ PT_ NT_ CT_ yX0_destinationIn.cls cX0_destinationIn (some .int) iv_Cargo_destinationIn pc e) = true := by decide +kernel
theorem Ct_Cargo_destinationIn (kk : Nat) (l : Launch) (hst : l.stackTraces = false) : CtX sdX l yX0_destinationIn (.code yX0_destinationIn cX0_destinationIn 2 (some .int) :: lw_all) 7 0 (A_Cargo_destinationIn kk) := by
  have hT : TabOK sdX l yX0_destinationIn.cls cX0_destinationIn 0 7 (some .int) T_Cargo_destinationIn (call_Cargo_destinationIn kk) (fun _ => []) := by
    intro x hF hH hO hC hG hV hR hsd pc e he
    refine ck_sound FT_ok PT_ok NT_ok CT_ok (invs := iv_Cargo_destinationIn) ?_ ?_
    · exact (List.forall_mem_cons.mpr ⟨fun pc hd => ⟨cwN_SN (n := 1) hF hd (by rw [hH]; exact Ct_PB_isSlot kk l hst) hsd (by rw [hO]; exact wn_408) wd_402 wd_86 wd_403 ⟨by decide +kernel, by decide +kernel, by decide +kernel⟩ (by decide) (by rw [hV]; decide) (sh_PB_isSlot kk), hd_nil⟩, (fun _ h => nomatch h)⟩)
    · rw [hO, hC, hR]; exact tk_use (fun pc h => by unfold T_Cargo_destinationIn; rw [Nat.ble_eq_true_of_le h]) tk_Cargo_destinationIn pc e he
  exact CtX_of hst (by decide) (by decide +kernel) hT (ro_Cargo_destinationIn kk) (by rw [Nat.zero_mul]; exact Nat.zero_le _)
def iv_Cargo_dayIn : List (Instr × Nat) := [(.invokestatic 48, 2375689)]
theorem tk_Cargo_dayIn : (List.range 18).all (fun pc => match T_Cargo_dayIn pc with | none => true | some e => ck FT_ PT_ NT_ CT_ yX0_dayIn.cls cX0_dayIn (some .int) iv_Cargo_dayIn pc e) = true := by decide +kernel
theorem Ct_Cargo_dayIn (kk : Nat) (l : Launch) (hst : l.stackTraces = false) : CtX sdX l yX0_dayIn (.code yX0_dayIn cX0_dayIn 2 (some .int) :: lw_all) 7 0 (A_Cargo_dayIn kk) := by
  have hT : TabOK sdX l yX0_dayIn.cls cX0_dayIn 0 7 (some .int) T_Cargo_dayIn (call_Cargo_dayIn kk) (fun _ => []) := by
    intro x hF hH hO hC hG hV hR hsd pc e he
    refine ck_sound FT_ok PT_ok NT_ok CT_ok (invs := iv_Cargo_dayIn) ?_ ?_
    · exact (List.forall_mem_cons.mpr ⟨fun pc hd => ⟨cwN_SN (n := 1) hF hd (by rw [hH]; exact Ct_PB_isSlot kk l hst) hsd (by rw [hO]; exact wn_408) wd_402 wd_86 wd_403 ⟨by decide +kernel, by decide +kernel, by decide +kernel⟩ (by decide) (by rw [hV]; decide) (sh_PB_isSlot kk), hd_nil⟩, (fun _ h => nomatch h)⟩)
    · rw [hO, hC, hR]; exact tk_use (fun pc h => by unfold T_Cargo_dayIn; rw [Nat.ble_eq_true_of_le h]) tk_Cargo_dayIn pc e he
  exact CtX_of hst (by decide) (by decide +kernel) hT (ro_Cargo_dayIn kk) (by rw [Nat.zero_mul]; exact Nat.zero_le _)
def iv_Cargo_countPillows : List (Instr × Nat) := []
theorem tk_Cargo_countPillows : (List.range 27).all (fun pc => match T_Cargo_countPillows pc with | none => true | some e => ck FT_ PT_ NT_ CT_ yX0_countPillows.cls cX0_countPillows (some .int) iv_Cargo_countPillows pc e) = true := by decide +kernel
theorem Ct_Cargo_countPillows (kk : Nat) (l : Launch) (hst : l.stackTraces = false) : CtX sdX l yX0_countPillows (.code yX0_countPillows cX0_countPillows 3 (some .int) :: lw_all) 6 0 (A_Cargo_countPillows kk) := by
  have hT : TabOK sdX l yX0_countPillows.cls cX0_countPillows 0 6 (some .int) T_Cargo_countPillows (call_Cargo_countPillows kk) (fun _ => []) := by
    intro x hF hH hO hC hG hV hR hsd pc e he
    refine ck_sound FT_ok PT_ok NT_ok CT_ok (invs := iv_Cargo_countPillows) ?_ ?_
    · exact (fun _ h => nomatch h)
    · rw [hO, hC, hR]; exact tk_use (fun pc h => by unfold T_Cargo_countPillows; rw [Nat.ble_eq_true_of_le h]) tk_Cargo_countPillows pc e he
  exact CtX_of hst (by decide) (by decide +kernel) hT (ro_Cargo_countPillows kk) (by rw [Nat.zero_mul]; exact Nat.zero_le _)
def iv_Cargo_weightOfAll : List (Instr × Nat) := [(.invokevirtual 37, 65553)]
theorem tk_Cargo_weightOfAll : (List.range 35).all (fun pc => match T_Cargo_weightOfAll pc with | none => true | some e => ck FT_ PT_ NT_ CT_ yX0_weightOfAll.cls cX0_weightOfAll (some .int) iv_Cargo_weightOfAll pc e) = true := by decide +kernel
theorem Ct_Cargo_weightOfAll (kk : Nat) (l : Launch) (hst : l.stackTraces = false) : CtX sdX l yX0_weightOfAll (.code yX0_weightOfAll cX0_weightOfAll 3 (some .int) :: lw_all) 7 0 (A_Cargo_weightOfAll kk) := by
  have hT : TabOK sdX l yX0_weightOfAll.cls cX0_weightOfAll 0 7 (some .int) T_Cargo_weightOfAll (call_Cargo_weightOfAll kk) (fun _ => []) := by
    intro x hF hH hO hC hG hV hR hsd pc e he
    refine ck_sound FT_ok PT_ok NT_ok CT_ok (invs := iv_Cargo_weightOfAll) ?_ ?_
    · exact (List.forall_mem_cons.mpr ⟨fun pc hd => ⟨cwX_V (C := RX0) (n := 1) hF hd (by rw [hH]; exact Ct_Cargo_isTaken kk l hst) hsd (by rw [hO]; exact wd_376) wd_377 wd_378 wd_88 wd_379 ⟨rfl, by decide +kernel, by decide +kernel, by decide +kernel⟩ (by decide) (by rw [hV]; decide) (sh_Cargo_isTaken kk), hd_nil⟩, (fun _ h => nomatch h)⟩)
    · rw [hO, hC, hR]; exact tk_use (fun pc h => by unfold T_Cargo_weightOfAll; rw [Nat.ble_eq_true_of_le h]) tk_Cargo_weightOfAll pc e he
  exact CtX_of hst (by decide) (by decide +kernel) hT (ro_Cargo_weightOfAll kk) (by rw [Nat.zero_mul]; exact Nat.zero_le _)
def iv_Cargo_weightForPort : List (Instr × Nat) := [(.invokevirtual 37, 65553)]
theorem tk_Cargo_weightForPort : (List.range 45).all (fun pc => match T_Cargo_weightForPort pc with | none => true | some e => ck FT_ PT_ NT_ CT_ yX0_weightForPort.cls cX0_weightForPort (some .int) iv_Cargo_weightForPort pc e) = true := by decide +kernel
theorem Ct_Cargo_weightForPort (kk : Nat) (l : Launch) (hst : l.stackTraces = false) : CtX sdX l yX0_weightForPort (.code yX0_weightForPort cX0_weightForPort 4 (some .int) :: lw_all) 7 0 (A_Cargo_weightForPort kk) := by
  have hT : TabOK sdX l yX0_weightForPort.cls cX0_weightForPort 0 7 (some .int) T_Cargo_weightForPort (call_Cargo_weightForPort kk) (fun _ => []) := by
    intro x hF hH hO hC hG hV hR hsd pc e he
    refine ck_sound FT_ok PT_ok NT_ok CT_ok (invs := iv_Cargo_weightForPort) ?_ ?_
    · exact (List.forall_mem_cons.mpr ⟨fun pc hd => ⟨cwX_V (C := RX0) (n := 1) hF hd (by rw [hH]; exact Ct_Cargo_isTaken kk l hst) hsd (by rw [hO]; exact wd_376) wd_377 wd_378 wd_88 wd_379 ⟨rfl, by decide +kernel, by decide +kernel, by decide +kernel⟩ (by decide) (by rw [hV]; decide) (sh_Cargo_isTaken kk), hd_nil⟩, (fun _ h => nomatch h)⟩)
    · rw [hO, hC, hR]; exact tk_use (fun pc h => by unfold T_Cargo_weightForPort; rw [Nat.ble_eq_true_of_le h]) tk_Cargo_weightForPort pc e he
  exact CtX_of hst (by decide) (by decide +kernel) hT (ro_Cargo_weightForPort kk) (by rw [Nat.zero_mul]; exact Nat.zero_le _)
def iv_Cargo_weightOfBay : List (Instr × Nat) := [(.invokevirtual 44, 81945), (.invokestatic 48, 2375689)]
theorem tk_Cargo_weightOfBay : (List.range 43).all (fun pc => match T_Cargo_weightOfBay pc with | none => true | some e => ck FT_ PT_ NT_ CT_ yX0_weightOfBay.cls cX0_weightOfBay (some .int) iv_Cargo_weightOfBay pc e) = true := by decide +kernel
theorem Ct_Cargo_weightOfBay (kk : Nat) (l : Launch) (hst : l.stackTraces = false) : CtX sdX l yX0_weightOfBay (.code yX0_weightOfBay cX0_weightOfBay 5 (some .int) :: lw_all) 8 0 (A_Cargo_weightOfBay kk) := by
  have hT : TabOK sdX l yX0_weightOfBay.cls cX0_weightOfBay 0 8 (some .int) T_Cargo_weightOfBay (call_Cargo_weightOfBay kk) (fun _ => []) := by
    intro x hF hH hO hC hG hV hR hsd pc e he
    refine ck_sound FT_ok PT_ok NT_ok CT_ok (invs := iv_Cargo_weightOfBay) ?_ ?_
    · exact (List.forall_mem_cons.mpr ⟨fun pc hd => ⟨cwX_V (C := RX0) (n := 2) hF hd (by rw [hH]; exact Ct_Cargo_slotAt kk l hst) hsd (by rw [hO]; exact wd_397) wd_398 wd_399 wd_88 wd_400 ⟨rfl, by decide +kernel, by decide +kernel, by decide +kernel⟩ (by decide) (by rw [hV]; decide) (sh_Cargo_slotAt kk), hd_nil⟩, (List.forall_mem_cons.mpr ⟨fun pc hd => ⟨cwN_SN (n := 1) hF hd (by rw [hH]; exact Ct_PB_isSlot kk l hst) hsd (by rw [hO]; exact wn_408) wd_402 wd_86 wd_403 ⟨by decide +kernel, by decide +kernel, by decide +kernel⟩ (by decide) (by rw [hV]; decide) (sh_PB_isSlot kk), hd_nil⟩, (fun _ h => nomatch h)⟩)⟩)
    · rw [hO, hC, hR]; exact tk_use (fun pc h => by unfold T_Cargo_weightOfBay; rw [Nat.ble_eq_true_of_le h]) tk_Cargo_weightOfBay pc e he
  exact CtX_of hst (by decide) (by decide +kernel) hT (ro_Cargo_weightOfBay kk) (by rw [Nat.zero_mul]; exact Nat.zero_le _)
def iv_PB_leverArm : List (Instr × Nat) := []
theorem tk_PB_leverArm : (List.range 4).all (fun pc => match T_PB_leverArm pc with | none => true | some e => ck FT_ PT_ NT_ CT_ yX6_leverArm.cls cX6_leverArm (some .int) iv_PB_leverArm pc e) = true := by decide +kernel
theorem Ct_PB_leverArm (kk : Nat) (l : Launch) (hst : l.stackTraces = false) : CtN sdX l yX6_leverArm (.code yX6_leverArm cX6_leverArm 1 (some .int) :: lw_all) 6 0 (A_PB_leverArm kk) := by
  have hT : TabOK sdX l yX6_leverArm.cls cX6_leverArm 0 6 (some .int) T_PB_leverArm (call_PB_leverArm kk) (fun _ => []) := by
    intro x hF hH hO hC hG hV hR hsd pc e he
    refine ck_sound FT_ok PT_ok NT_ok CT_ok (invs := iv_PB_leverArm) ?_ ?_
    · exact (fun _ h => nomatch h)
    · rw [hO, hC, hR]; exact tk_use (fun pc h => by unfold T_PB_leverArm; rw [Nat.ble_eq_true_of_le h]) tk_PB_leverArm pc e he
  exact CtN_of (by decide +kernel) hT (ro_PB_leverArm kk) nx_PB_leverArm (by rw [Nat.zero_mul]; exact Nat.zero_le _)
def iv_Cargo_momentOfPillows : List (Instr × Nat) := [(.invokevirtual 37, 65553), (.invokestatic 51, 2424841)]
theorem tk_Cargo_momentOfPillows : (List.range 42).all (fun pc => match T_Cargo_momentOfPillows pc with | none => true | some e => ck FT_ PT_ NT_ CT_ yX0_momentOfPillows.cls cX0_momentOfPillows (some .int) iv_Cargo_momentOfPillows pc e) = true := by decide +kernel
theorem Ct_Cargo_momentOfPillows (kk : Nat) (l : Launch) (hst : l.stackTraces = false) : CtX sdX l yX0_momentOfPillows (.code yX0_momentOfPillows cX0_momentOfPillows 3 (some .int) :: lw_all) 7 0 (A_Cargo_momentOfPillows kk) := by
  have hT : TabOK sdX l yX0_momentOfPillows.cls cX0_momentOfPillows 0 7 (some .int) T_Cargo_momentOfPillows (call_Cargo_momentOfPillows kk) (fun _ => []) := by
    intro x hF hH hO hC hG hV hR hsd pc e he
    refine ck_sound FT_ok PT_ok NT_ok CT_ok (invs := iv_Cargo_momentOfPillows) ?_ ?_
    · exact (List.forall_mem_cons.mpr ⟨fun pc hd => ⟨cwX_V (C := RX0) (n := 1) hF hd (by rw [hH]; exact Ct_Cargo_isTaken kk l hst) hsd (by rw [hO]; exact wd_376) wd_377 wd_378 wd_88 wd_379 ⟨rfl, by decide +kernel, by decide +kernel, by decide +kernel⟩ (by decide) (by rw [hV]; decide) (sh_Cargo_isTaken kk), hd_nil⟩, (List.forall_mem_cons.mpr ⟨fun pc hd => ⟨cwN_SN (n := 1) hF hd (by rw [hH]; exact Ct_PB_leverArm kk l hst) hsd (by rw [hO]; exact wn_380) wd_366 wd_86 wd_367 ⟨by decide +kernel, by decide +kernel, by decide +kernel⟩ (by decide) (by rw [hV]; decide) (sh_PB_leverArm kk), hd_nil⟩, (fun _ h => nomatch h)⟩)⟩)
    · rw [hO, hC, hR]; exact tk_use (fun pc h => by unfold T_Cargo_momentOfPillows; rw [Nat.ble_eq_true_of_le h]) tk_Cargo_momentOfPillows pc e he
  exact CtX_of hst (by decide) (by decide +kernel) hT (ro_Cargo_momentOfPillows kk) (by rw [Nat.zero_mul]; exact Nat.zero_le _)
def iv_Cargo_momentOfBays : List (Instr × Nat) := [(.invokevirtual 54, 245777), (.invokestatic 51, 2424841)]
theorem tk_Cargo_momentOfBays : (List.range 31).all (fun pc => match T_Cargo_momentOfBays pc with | none => true | some e => ck FT_ PT_ NT_ CT_ yX0_momentOfBays.cls cX0_momentOfBays (some .int) iv_Cargo_momentOfBays pc e) = true := by decide +kernel
theorem Ct_Cargo_momentOfBays (kk : Nat) (l : Launch) (hst : l.stackTraces = false) : CtX sdX l yX0_momentOfBays (.code yX0_momentOfBays cX0_momentOfBays 3 (some .int) :: lw_all) 9 0 (A_Cargo_momentOfBays kk) := by
  have hT : TabOK sdX l yX0_momentOfBays.cls cX0_momentOfBays 0 9 (some .int) T_Cargo_momentOfBays (call_Cargo_momentOfBays kk) (fun _ => []) := by
    intro x hF hH hO hC hG hV hR hsd pc e he
    refine ck_sound FT_ok PT_ok NT_ok CT_ok (invs := iv_Cargo_momentOfBays) ?_ ?_
    · exact (List.forall_mem_cons.mpr ⟨fun pc hd => ⟨cwX_V (C := RX0) (n := 1) hF hd (by rw [hH]; exact Ct_Cargo_weightOfBay kk l hst) hsd (by rw [hO]; exact wd_664) wd_665 wd_666 wd_88 wd_667 ⟨rfl, by decide +kernel, by decide +kernel, by decide +kernel⟩ (by decide) (by rw [hV]; decide) (sh_Cargo_weightOfBay kk), hd_nil⟩, (List.forall_mem_cons.mpr ⟨fun pc hd => ⟨cwN_SN (n := 1) hF hd (by rw [hH]; exact Ct_PB_leverArm kk l hst) hsd (by rw [hO]; exact wn_380) wd_366 wd_86 wd_367 ⟨by decide +kernel, by decide +kernel, by decide +kernel⟩ (by decide) (by rw [hV]; decide) (sh_PB_leverArm kk), hd_nil⟩, (fun _ h => nomatch h)⟩)⟩)
    · rw [hO, hC, hR]; exact tk_use (fun pc h => by unfold T_Cargo_momentOfBays; rw [Nat.ble_eq_true_of_le h]) tk_Cargo_momentOfBays pc e he
  exact CtX_of hst (by decide) (by decide +kernel) hT (ro_Cargo_momentOfBays kk) (by rw [Nat.zero_mul]; exact Nat.zero_le _)
def iv_Cargo_put : List (Instr × Nat) := [(.invokevirtual 40, 49169), (.invokestatic 33, 2359305), (.invokestatic 48, 2375689)]
theorem tk_Cargo_put : (List.range 81).all (fun pc => match T_Cargo_put pc with | none => true | some e => ck FT_ PT_ NT_ CT_ yX0_put.cls cX0_put none iv_Cargo_put pc e) = true := by decide +kernel
theorem Ct_Cargo_put (kk : Nat) (l : Launch) (hst : l.stackTraces = false) : CtX sdX l yX0_put (.code yX0_put cX0_put 8 none :: lw_all) 8 0 (A_Cargo_put kk) := by
  have hT : TabOK sdX l yX0_put.cls cX0_put 0 8 none T_Cargo_put (call_Cargo_put kk) (fun _ => []) := by
    intro x hF hH hO hC hG hV hR hsd pc e he
    refine ck_sound FT_ok PT_ok NT_ok CT_ok (invs := iv_Cargo_put) ?_ ?_
    · exact (List.forall_mem_cons.mpr ⟨fun pc hd => ⟨cwX_V (C := RX0) (n := 1) hF hd (by rw [hH]; exact Ct_Cargo_heightOf kk l hst) hsd (by rw [hO]; exact wd_396) wd_361 wd_362 wd_88 wd_363 ⟨rfl, by decide +kernel, by decide +kernel, by decide +kernel⟩ (by decide) (by rw [hV]; decide) (sh_Cargo_heightOf kk), hd_nil⟩, (List.forall_mem_cons.mpr ⟨fun pc hd => ⟨cwN_SN (n := 1) hF hd (by rw [hH]; exact Ct_PB_isBay kk l hst) hsd (by rw [hO]; exact wn_364) wd_352 wd_86 wd_353 ⟨by decide +kernel, by decide +kernel, by decide +kernel⟩ (by decide) (by rw [hV]; decide) (sh_PB_isBay kk), hd_nil⟩, (List.forall_mem_cons.mpr ⟨fun pc hd => ⟨cwN_SN (n := 1) hF hd (by rw [hH]; exact Ct_PB_isSlot kk l hst) hsd (by rw [hO]; exact wn_408) wd_402 wd_86 wd_403 ⟨by decide +kernel, by decide +kernel, by decide +kernel⟩ (by decide) (by rw [hV]; decide) (sh_PB_isSlot kk), hd_nil⟩, (fun _ h => nomatch h)⟩)⟩)⟩)
    · rw [hO, hC, hR]; exact tk_use (fun pc h => by unfold T_Cargo_put; rw [Nat.ble_eq_true_of_le h]) tk_Cargo_put pc e he
  exact CtX_of hst (by decide) (by decide +kernel) hT (ro_Cargo_put kk) (by rw [Nat.zero_mul]; exact Nat.zero_le _)
def iv_Cargo_removeTop : List (Instr × Nat) := [(.invokestatic 33, 2359305)]
theorem tk_Cargo_removeTop : (List.range 27).all (fun pc => match T_Cargo_removeTop pc with | none => true | some e => ck FT_ PT_ NT_ CT_ yX0_removeTop.cls cX0_removeTop none iv_Cargo_removeTop pc e) = true := by decide +kernel
theorem Ct_Cargo_removeTop (kk : Nat) (l : Launch) (hst : l.stackTraces = false) : CtX sdX l yX0_removeTop (.code yX0_removeTop cX0_removeTop 2 none :: lw_all) 7 0 (A_Cargo_removeTop kk) := by
  have hT : TabOK sdX l yX0_removeTop.cls cX0_removeTop 0 7 none T_Cargo_removeTop (call_Cargo_removeTop kk) (fun _ => []) := by
    intro x hF hH hO hC hG hV hR hsd pc e he
    refine ck_sound FT_ok PT_ok NT_ok CT_ok (invs := iv_Cargo_removeTop) ?_ ?_
    · exact (List.forall_mem_cons.mpr ⟨fun pc hd => ⟨cwN_SN (n := 1) hF hd (by rw [hH]; exact Ct_PB_isBay kk l hst) hsd (by rw [hO]; exact wn_364) wd_352 wd_86 wd_353 ⟨by decide +kernel, by decide +kernel, by decide +kernel⟩ (by decide) (by rw [hV]; decide) (sh_PB_isBay kk), hd_nil⟩, (fun _ h => nomatch h)⟩)
    · rw [hO, hC, hR]; exact tk_use (fun pc h => by unfold T_Cargo_removeTop; rw [Nat.ble_eq_true_of_le h]) tk_Cargo_removeTop pc e he
  exact CtX_of hst (by decide) (by decide +kernel) hT (ro_Cargo_removeTop kk) (by rw [Nat.zero_mul]; exact Nat.zero_le _)
def iv_History_placeAt : List (Instr × Nat) := []
theorem tk_History_placeAt : (List.range 21).all (fun pc => match T_History_placeAt pc with | none => true | some e => ck FT_ PT_ NT_ CT_ yX1_placeAt.cls cX1_placeAt (some (.object "PillowBarge$State")) iv_History_placeAt pc e) = true := by decide +kernel
theorem Ct_History_placeAt (kk : Nat) (l : Launch) (hst : l.stackTraces = false) : CtX sdX l yX1_placeAt (.code yX1_placeAt cX1_placeAt 2 (some (.object "PillowBarge$State")) :: lw_all) 6 0 (A_History_placeAt kk) := by
  have hT : TabOK sdX l yX1_placeAt.cls cX1_placeAt 0 6 (some (.object "PillowBarge$State")) T_History_placeAt (call_History_placeAt kk) (fun _ => []) := by
    intro x hF hH hO hC hG hV hR hsd pc e he
    refine ck_sound FT_ok PT_ok NT_ok CT_ok (invs := iv_History_placeAt) ?_ ?_
    · exact (fun _ h => nomatch h)
    · rw [hO, hC, hR]; exact tk_use (fun pc h => by unfold T_History_placeAt; rw [Nat.ble_eq_true_of_le h]) tk_History_placeAt pc e he
  exact CtX_of hst (by decide) (by decide +kernel) hT (ro_History_placeAt kk) (by rw [Nat.zero_mul]; exact Nat.zero_le _)
def iv_Voyage_copyFrom : List (Instr × Nat) := []
theorem tk_Voyage_copyFrom : (List.range 25).all (fun pc => match T_Voyage_copyFrom pc with | none => true | some e => ck FT_ PT_ NT_ CT_ yX5_copyFrom.cls cX5_copyFrom none iv_Voyage_copyFrom pc e) = true := by decide +kernel
theorem Ct_Voyage_copyFrom (kk : Nat) (l : Launch) (hst : l.stackTraces = false) : CtX sdX l yX5_copyFrom (.code yX5_copyFrom cX5_copyFrom 2 none :: lw_all) 6 0 (A_Voyage_copyFrom kk) := by
  have hT : TabOK sdX l yX5_copyFrom.cls cX5_copyFrom 0 6 none T_Voyage_copyFrom (call_Voyage_copyFrom kk) (fun _ => []) := by
    intro x hF hH hO hC hG hV hR hsd pc e he
    refine ck_sound FT_ok PT_ok NT_ok CT_ok (invs := iv_Voyage_copyFrom) ?_ ?_
    · exact (fun _ h => nomatch h)
    · rw [hO, hC, hR]; exact tk_use (fun pc h => by unfold T_Voyage_copyFrom; rw [Nat.ble_eq_true_of_le h]) tk_Voyage_copyFrom pc e he
  exact CtX_of hst (by decide) (by decide +kernel) hT (ro_Voyage_copyFrom kk) (by rw [Nat.zero_mul]; exact Nat.zero_le _)
def iv_Tally_copyFrom : List (Instr × Nat) := []
theorem tk_Tally_copyFrom : (List.range 41).all (fun pc => match T_Tally_copyFrom pc with | none => true | some e => ck FT_ PT_ NT_ CT_ yX4_copyFrom.cls cX4_copyFrom none iv_Tally_copyFrom pc e) = true := by decide +kernel
theorem Ct_Tally_copyFrom (kk : Nat) (l : Launch) (hst : l.stackTraces = false) : CtX sdX l yX4_copyFrom (.code yX4_copyFrom cX4_copyFrom 2 none :: lw_all) 6 0 (A_Tally_copyFrom kk) := by
  have hT : TabOK sdX l yX4_copyFrom.cls cX4_copyFrom 0 6 none T_Tally_copyFrom (call_Tally_copyFrom kk) (fun _ => []) := by
    intro x hF hH hO hC hG hV hR hsd pc e he
    refine ck_sound FT_ok PT_ok NT_ok CT_ok (invs := iv_Tally_copyFrom) ?_ ?_
    · exact (fun _ h => nomatch h)
    · rw [hO, hC, hR]; exact tk_use (fun pc h => by unfold T_Tally_copyFrom; rw [Nat.ble_eq_true_of_le h]) tk_Tally_copyFrom pc e he
  exact CtX_of hst (by decide) (by decide +kernel) hT (ro_Tally_copyFrom kk) (by rw [Nat.zero_mul]; exact Nat.zero_le _)
def iv_State_copyFrom : List (Instr × Nat) := [(.invokevirtual 36, 32784), (.invokevirtual 40, 1064976), (.invokevirtual 43, 1032208)]
theorem tk_State_copyFrom : (List.range 42).all (fun pc => match T_State_copyFrom pc with | none => true | some e => ck FT_ PT_ NT_ CT_ yX3_copyFrom.cls cX3_copyFrom none iv_State_copyFrom pc e) = true := by decide +kernel
theorem Ct_State_copyFrom (kk : Nat) (l : Launch) (hst : l.stackTraces = false) : CtX sdX l yX3_copyFrom (.code yX3_copyFrom cX3_copyFrom 2 none :: lw_all) 8 0 (A_State_copyFrom kk) := by
  have hT : TabOK sdX l yX3_copyFrom.cls cX3_copyFrom 0 8 none T_State_copyFrom (call_State_copyFrom kk) (fun _ => []) := by
    intro x hF hH hO hC hG hV hR hsd pc e he
    refine ck_sound FT_ok PT_ok NT_ok CT_ok (invs := iv_State_copyFrom) ?_ ?_
    · exact (List.forall_mem_cons.mpr ⟨fun pc hd => ⟨cwX_V (C := RX0) (n := 1) hF hd (by rw [hH]; exact Ct_Cargo_copyFrom kk l hst) hsd (by rw [hO]; exact wd_565) wd_566 wd_567 wd_88 wd_568 ⟨rfl, by decide +kernel, by decide +kernel, by decide +kernel⟩ (by decide) (by rw [hV]; decide) (sh_Cargo_copyFrom kk), hd_nil⟩, (List.forall_mem_cons.mpr ⟨fun pc hd => ⟨cwX_V (C := RX5) (n := 1) hF hd (by rw [hH]; exact Ct_Voyage_copyFrom kk l hst) hsd (by rw [hO]; exact wd_572) wd_573 wd_574 wd_89 wd_575 ⟨rfl, by decide +kernel, by decide +kernel, by decide +kernel⟩ (by decide) (by rw [hV]; decide) (sh_Voyage_copyFrom kk), hd_nil⟩, (List.forall_mem_cons.mpr ⟨fun pc hd => ⟨cwX_V (C := RX4) (n := 1) hF hd (by rw [hH]; exact Ct_Tally_copyFrom kk l hst) hsd (by rw [hO]; exact wd_576) wd_577 wd_578 wd_90 wd_579 ⟨rfl, by decide +kernel, by decide +kernel, by decide +kernel⟩ (by decide) (by rw [hV]; decide) (sh_Tally_copyFrom kk), hd_nil⟩, (fun _ h => nomatch h)⟩)⟩)⟩)
    · rw [hO, hC, hR]; exact tk_use (fun pc h => by unfold T_State_copyFrom; rw [Nat.ble_eq_true_of_le h]) tk_State_copyFrom pc e he
  exact CtX_of hst (by decide) (by decide +kernel) hT (ro_State_copyFrom kk) (by rw [Nat.zero_mul]; exact Nat.zero_le _)
def iv_History_draft : List (Instr × Nat) := [(.invokevirtual 22, 426004), (.invokevirtual 26, 753680)]
theorem tk_History_draft : (List.range 19).all (fun pc => match T_History_draft pc with | none => true | some e => ck FT_ PT_ NT_ CT_ yX1_draft.cls cX1_draft none iv_History_draft pc e) = true := by decide +kernel
theorem Ct_History_draft (kk : Nat) (l : Launch) (hst : l.stackTraces = false) : CtX sdX l yX1_draft (.code yX1_draft cX1_draft 3 none :: lw_all) 9 0 (A_History_draft kk) := by
  have hT : TabOK sdX l yX1_draft.cls cX1_draft 0 9 none T_History_draft (call_History_draft kk) (fun _ => []) := by
    intro x hF hH hO hC hG hV hR hsd pc e he
    refine ck_sound FT_ok PT_ok NT_ok CT_ok (invs := iv_History_draft) ?_ ?_
    · exact (List.forall_mem_cons.mpr ⟨fun pc hd => ⟨cwX_V (C := RX1) (n := 1) hF hd (by rw [hH]; exact Ct_History_placeAt kk l hst) hsd (by rw [hO]; exact wd_557) wd_559 wd_4 wd_91 wd_560 ⟨rfl, by decide +kernel, by decide +kernel, by decide +kernel⟩ (by decide) (by rw [hV]; decide) (sh_History_placeAt kk), hd_nil⟩, (List.forall_mem_cons.mpr ⟨fun pc hd => ⟨cwX_V (C := RX3) (n := 1) hF hd (by rw [hH]; exact Ct_State_copyFrom kk l hst) hsd (by rw [hO]; exact wd_561) wd_562 wd_563 wd_87 wd_564 ⟨rfl, by decide +kernel, by decide +kernel, by decide +kernel⟩ (by decide) (by rw [hV]; decide) (sh_State_copyFrom kk), hd_nil⟩, (fun _ h => nomatch h)⟩)⟩)
    · rw [hO, hC, hR]; exact tk_use (fun pc h => by unfold T_History_draft; rw [Nat.ble_eq_true_of_le h]) tk_History_draft pc e he
  exact CtX_of hst (by decide) (by decide +kernel) hT (ro_History_draft kk) (by rw [Nat.zero_mul]; exact Nat.zero_le _)
def iv_History_keepDraft : List (Instr × Nat) := [(.invokestatic 30, 14811153), (.invokestatic 39, 14794769)]
theorem tk_History_keepDraft : (List.range 31).all (fun pc => match T_History_keepDraft pc with | none => true | some e => ck FT_ PT_ NT_ CT_ yX1_keepDraft.cls cX1_keepDraft none iv_History_keepDraft pc e) = true := by decide +kernel
theorem Ct_History_keepDraft (kk : Nat) (l : Launch) (hst : l.stackTraces = false) : CtX sdX l yX1_keepDraft (.code yX1_keepDraft cX1_keepDraft 1 none :: lw_all) 7 0 (A_History_keepDraft kk) := by
  have hT : TabOK sdX l yX1_keepDraft.cls cX1_keepDraft 0 7 none T_History_keepDraft (call_History_keepDraft kk) (fun _ => []) := by
    intro x hF hH hO hC hG hV hR hsd pc e he
    refine ck_sound FT_ok PT_ok NT_ok CT_ok (invs := iv_History_keepDraft) ?_ ?_
    · exact (List.forall_mem_cons.mpr ⟨fun pc hd => ⟨cwJ_fmod hF hd hsd (by rw [hO]; exact wd_584) (by rw [hV]; decide), hd_nil⟩, (List.forall_mem_cons.mpr ⟨fun pc hd => ⟨cwJ_min hF hd hsd (by rw [hO]; exact wd_587) (by rw [hV]; decide), hd_nil⟩, (fun _ h => nomatch h)⟩)⟩)
    · rw [hO, hC, hR]; exact tk_use (fun pc h => by unfold T_History_keepDraft; rw [Nat.ble_eq_true_of_le h]) tk_History_keepDraft pc e he
  exact CtX_of hst (by decide) (by decide +kernel) hT (ro_History_keepDraft kk) (by rw [Nat.zero_mul]; exact Nat.zero_le _)
def iv_History_takeDraftBack : List (Instr × Nat) := [(.invokevirtual 22, 426004), (.invokevirtual 26, 753680)]
theorem tk_History_takeDraftBack : (List.range 19).all (fun pc => match T_History_takeDraftBack pc with | none => true | some e => ck FT_ PT_ NT_ CT_ yX1_takeDraftBack.cls cX1_takeDraftBack none iv_History_takeDraftBack pc e) = true := by decide +kernel
theorem Ct_History_takeDraftBack (kk : Nat) (l : Launch) (hst : l.stackTraces = false) : CtX sdX l yX1_takeDraftBack (.code yX1_takeDraftBack cX1_takeDraftBack 3 none :: lw_all) 9 0 (A_History_takeDraftBack kk) := by
  have hT : TabOK sdX l yX1_takeDraftBack.cls cX1_takeDraftBack 0 9 none T_History_takeDraftBack (call_History_takeDraftBack kk) (fun _ => []) := by
    intro x hF hH hO hC hG hV hR hsd pc e he
    refine ck_sound FT_ok PT_ok NT_ok CT_ok (invs := iv_History_takeDraftBack) ?_ ?_
    · exact (List.forall_mem_cons.mpr ⟨fun pc hd => ⟨cwX_V (C := RX1) (n := 1) hF hd (by rw [hH]; exact Ct_History_placeAt kk l hst) hsd (by rw [hO]; exact wd_557) wd_559 wd_4 wd_91 wd_560 ⟨rfl, by decide +kernel, by decide +kernel, by decide +kernel⟩ (by decide) (by rw [hV]; decide) (sh_History_placeAt kk), hd_nil⟩, (List.forall_mem_cons.mpr ⟨fun pc hd => ⟨cwX_V (C := RX3) (n := 1) hF hd (by rw [hH]; exact Ct_State_copyFrom kk l hst) hsd (by rw [hO]; exact wd_561) wd_562 wd_563 wd_87 wd_564 ⟨rfl, by decide +kernel, by decide +kernel, by decide +kernel⟩ (by decide) (by rw [hV]; decide) (sh_State_copyFrom kk), hd_nil⟩, (fun _ h => nomatch h)⟩)⟩)
    · rw [hO, hC, hR]; exact tk_use (fun pc h => by unfold T_History_takeDraftBack; rw [Nat.ble_eq_true_of_le h]) tk_History_takeDraftBack pc e he
  exact CtX_of hst (by decide) (by decide +kernel) hT (ro_History_takeDraftBack kk) (by rw [Nat.zero_mul]; exact Nat.zero_le _)
def iv_History_takeLatestBack : List (Instr × Nat) := [(.invokestatic 30, 14811153), (.invokevirtual 42, 376848)]
theorem tk_History_takeLatestBack : (List.range 31).all (fun pc => match T_History_takeLatestBack pc with | none => true | some e => ck FT_ PT_ NT_ CT_ yX1_takeLatestBack.cls cX1_takeLatestBack none iv_History_takeLatestBack pc e) = true := by decide +kernel
theorem Ct_History_takeLatestBack (kk : Nat) (l : Launch) (hst : l.stackTraces = false) : CtX sdX l yX1_takeLatestBack (.code yX1_takeLatestBack cX1_takeLatestBack 2 none :: lw_all) 10 0 (A_History_takeLatestBack kk) := by
  have hT : TabOK sdX l yX1_takeLatestBack.cls cX1_takeLatestBack 0 10 none T_History_takeLatestBack (call_History_takeLatestBack kk) (fun _ => []) := by
    intro x hF hH hO hC hG hV hR hsd pc e he
    refine ck_sound FT_ok PT_ok NT_ok CT_ok (invs := iv_History_takeLatestBack) ?_ ?_
    · exact (List.forall_mem_cons.mpr ⟨fun pc hd => ⟨cwJ_fmod hF hd hsd (by rw [hO]; exact wd_584) (by rw [hV]; decide), hd_nil⟩, (List.forall_mem_cons.mpr ⟨fun pc hd => ⟨cwX_V (C := RX1) (n := 1) hF hd (by rw [hH]; exact Ct_History_takeDraftBack kk l hst) hsd (by rw [hO]; exact wd_1528) wd_1500 wd_1501 wd_91 wd_1502 ⟨rfl, by decide +kernel, by decide +kernel, by decide +kernel⟩ (by decide) (by rw [hV]; decide) (sh_History_takeDraftBack kk), hd_nil⟩, (fun _ h => nomatch h)⟩)⟩)
    · rw [hO, hC, hR]; exact tk_use (fun pc h => by unfold T_History_takeLatestBack; rw [Nat.ble_eq_true_of_le h]) tk_History_takeLatestBack pc e he
  exact CtX_of hst (by decide) (by decide +kernel) hT (ro_History_takeLatestBack kk) (by rw [Nat.zero_mul]; exact Nat.zero_le _)
def iv_History_forget : List (Instr × Nat) := []
theorem tk_History_forget : (List.range 6).all (fun pc => match T_History_forget pc with | none => true | some e => ck FT_ PT_ NT_ CT_ yX1_forget.cls cX1_forget none iv_History_forget pc e) = true := by decide +kernel
theorem Ct_History_forget (kk : Nat) (l : Launch) (hst : l.stackTraces = false) : CtX sdX l yX1_forget (.code yX1_forget cX1_forget 1 none :: lw_all) 6 0 (A_History_forget kk) := by
  have hT : TabOK sdX l yX1_forget.cls cX1_forget 0 6 none T_History_forget (call_History_forget kk) (fun _ => []) := by
    intro x hF hH hO hC hG hV hR hsd pc e he
    refine ck_sound FT_ok PT_ok NT_ok CT_ok (invs := iv_History_forget) ?_ ?_
    · exact (fun _ h => nomatch h)
    · rw [hO, hC, hR]; exact tk_use (fun pc h => by unfold T_History_forget; rw [Nat.ble_eq_true_of_le h]) tk_History_forget pc e he
  exact CtX_of hst (by decide) (by decide +kernel) hT (ro_History_forget kk) (by rw [Nat.zero_mul]; exact Nat.zero_le _)
def iv_Script_isFull : List (Instr × Nat) := []
theorem tk_Script_isFull : (List.range 15).all (fun pc => match T_Script_isFull pc with | none => true | some e => ck FT_ PT_ NT_ CT_ yX2_isFull.cls cX2_isFull (some .boolean) iv_Script_isFull pc e) = true := by decide +kernel
theorem Ct_Script_isFull (kk : Nat) (l : Launch) (hst : l.stackTraces = false) : CtX sdX l yX2_isFull (.code yX2_isFull cX2_isFull 1 (some .boolean) :: lw_all) 6 0 (A_Script_isFull kk) := by
  have hT : TabOK sdX l yX2_isFull.cls cX2_isFull 0 6 (some .boolean) T_Script_isFull (call_Script_isFull kk) (fun _ => []) := by
    intro x hF hH hO hC hG hV hR hsd pc e he
    refine ck_sound FT_ok PT_ok NT_ok CT_ok (invs := iv_Script_isFull) ?_ ?_
    · exact (fun _ h => nomatch h)
    · rw [hO, hC, hR]; exact tk_use (fun pc h => by unfold T_Script_isFull; rw [Nat.ble_eq_true_of_le h]) tk_Script_isFull pc e he
  exact CtX_of hst (by decide) (by decide +kernel) hT (ro_Script_isFull kk) (by rw [Nat.zero_mul]; exact Nat.zero_le _)
def iv_Script_append : List (Instr × Nat) := []
theorem tk_Script_append : (List.range 37).all (fun pc => match T_Script_append pc with | none => true | some e => ck FT_ PT_ NT_ CT_ yX2_append.cls cX2_append none iv_Script_append pc e) = true := by decide +kernel
theorem Ct_Script_append (kk : Nat) (l : Launch) (hst : l.stackTraces = false) : CtX sdX l yX2_append (.code yX2_append cX2_append 2 none :: lw_all) 6 0 (A_Script_append kk) := by
  have hT : TabOK sdX l yX2_append.cls cX2_append 0 6 none T_Script_append (call_Script_append kk) (fun _ => []) := by
    intro x hF hH hO hC hG hV hR hsd pc e he
    refine ck_sound FT_ok PT_ok NT_ok CT_ok (invs := iv_Script_append) ?_ ?_
    · exact (fun _ h => nomatch h)
    · rw [hO, hC, hR]; exact tk_use (fun pc h => by unfold T_Script_append; rw [Nat.ble_eq_true_of_le h]) tk_Script_append pc e he
  exact CtX_of hst (by decide) (by decide +kernel) hT (ro_Script_append kk) (by rw [Nat.zero_mul]; exact Nat.zero_le _)
def iv_Script_empty : List (Instr × Nat) := []
theorem tk_Script_empty : (List.range 6).all (fun pc => match T_Script_empty pc with | none => true | some e => ck FT_ PT_ NT_ CT_ yX2_empty.cls cX2_empty none iv_Script_empty pc e) = true := by decide +kernel
theorem Ct_Script_empty (kk : Nat) (l : Launch) (hst : l.stackTraces = false) : CtX sdX l yX2_empty (.code yX2_empty cX2_empty 1 none :: lw_all) 6 0 (A_Script_empty kk) := by
  have hT : TabOK sdX l yX2_empty.cls cX2_empty 0 6 none T_Script_empty (call_Script_empty kk) (fun _ => []) := by
    intro x hF hH hO hC hG hV hR hsd pc e he
    refine ck_sound FT_ok PT_ok NT_ok CT_ok (invs := iv_Script_empty) ?_ ?_
    · exact (fun _ h => nomatch h)
    · rw [hO, hC, hR]; exact tk_use (fun pc h => by unfold T_Script_empty; rw [Nat.ble_eq_true_of_le h]) tk_Script_empty pc e he
  exact CtX_of hst (by decide) (by decide +kernel) hT (ro_Script_empty kk) (by rw [Nat.zero_mul]; exact Nat.zero_le _)
def iv_Script_commandAt : List (Instr × Nat) := []
theorem tk_Script_commandAt : (List.range 22).all (fun pc => match T_Script_commandAt pc with | none => true | some e => ck FT_ PT_ NT_ CT_ yX2_commandAt.cls cX2_commandAt (some .int) iv_Script_commandAt pc e) = true := by decide +kernel
theorem Ct_Script_commandAt (kk : Nat) (l : Launch) (hst : l.stackTraces = false) : CtX sdX l yX2_commandAt (.code yX2_commandAt cX2_commandAt 2 (some .int) :: lw_all) 6 0 (A_Script_commandAt kk) := by
  have hT : TabOK sdX l yX2_commandAt.cls cX2_commandAt 0 6 (some .int) T_Script_commandAt (call_Script_commandAt kk) (fun _ => []) := by
    intro x hF hH hO hC hG hV hR hsd pc e he
    refine ck_sound FT_ok PT_ok NT_ok CT_ok (invs := iv_Script_commandAt) ?_ ?_
    · exact (fun _ h => nomatch h)
    · rw [hO, hC, hR]; exact tk_use (fun pc h => by unfold T_Script_commandAt; rw [Nat.ble_eq_true_of_le h]) tk_Script_commandAt pc e he
  exact CtX_of hst (by decide) (by decide +kernel) hT (ro_Script_commandAt kk) (by rw [Nat.zero_mul]; exact Nat.zero_le _)
def iv_Script_argumentAt : List (Instr × Nat) := []
theorem tk_Script_argumentAt : (List.range 30).all (fun pc => match T_Script_argumentAt pc with | none => true | some e => ck FT_ PT_ NT_ CT_ yX2_argumentAt.cls cX2_argumentAt (some .int) iv_Script_argumentAt pc e) = true := by decide +kernel
theorem Ct_Script_argumentAt (kk : Nat) (l : Launch) (hst : l.stackTraces = false) : CtX sdX l yX2_argumentAt (.code yX2_argumentAt cX2_argumentAt 4 (some .int) :: lw_all) 6 0 (A_Script_argumentAt kk) := by
  have hT : TabOK sdX l yX2_argumentAt.cls cX2_argumentAt 0 6 (some .int) T_Script_argumentAt (call_Script_argumentAt kk) (fun _ => []) := by
    intro x hF hH hO hC hG hV hR hsd pc e he
    refine ck_sound FT_ok PT_ok NT_ok CT_ok (invs := iv_Script_argumentAt) ?_ ?_
    · exact (fun _ h => nomatch h)
    · rw [hO, hC, hR]; exact tk_use (fun pc h => by unfold T_Script_argumentAt; rw [Nat.ble_eq_true_of_le h]) tk_Script_argumentAt pc e he
  exact CtX_of hst (by decide) (by decide +kernel) hT (ro_Script_argumentAt kk) (by rw [Nat.zero_mul]; exact Nat.zero_le _)
def iv_Script_keywordOf : List (Instr × Nat) := []
theorem tk_Script_keywordOf : (List.range 61).all (fun pc => match T_Script_keywordOf pc with | none => true | some e => ck FT_ PT_ NT_ CT_ yX2_keywordOf.cls cX2_keywordOf (some (.object "java/lang/String")) iv_Script_keywordOf pc e) = true := by decide +kernel
theorem Ct_Script_keywordOf (kk : Nat) (l : Launch) (hst : l.stackTraces = false) : CtX sdX l yX2_keywordOf (.code yX2_keywordOf cX2_keywordOf 1 (some (.object "java/lang/String")) :: lw_all) 6 0 (A_Script_keywordOf kk) := by
  have hT : TabOK sdX l yX2_keywordOf.cls cX2_keywordOf 0 6 (some (.object "java/lang/String")) T_Script_keywordOf (call_Script_keywordOf kk) (fun _ => []) := by
    intro x hF hH hO hC hG hV hR hsd pc e he
    refine ck_sound FT_ok PT_ok NT_ok CT_ok (invs := iv_Script_keywordOf) ?_ ?_
    · exact (fun _ h => nomatch h)
    · rw [hO, hC, hR]; exact tk_use (fun pc h => by unfold T_Script_keywordOf; rw [Nat.ble_eq_true_of_le h]) tk_Script_keywordOf pc e he
  exact CtX_of hst (by decide) (by decide +kernel) hT (ro_Script_keywordOf kk) (by rw [Nat.zero_mul]; exact Nat.zero_le _)
def iv_Script_isNext : List (Instr × Nat) := []
theorem tk_Script_isNext : (List.range 41).all (fun pc => match T_Script_isNext pc with | none => true | some e => ck FT_ PT_ NT_ CT_ yX2_isNext.cls cX2_isNext (some .boolean) iv_Script_isNext pc e) = true := by decide +kernel
theorem Ct_Script_isNext (kk : Nat) (l : Launch) (hst : l.stackTraces = false) : CtX sdX l yX2_isNext (.code yX2_isNext cX2_isNext 4 (some .boolean) :: lw_all) 6 0 (A_Script_isNext kk) := by
  have hT : TabOK sdX l yX2_isNext.cls cX2_isNext 0 6 (some .boolean) T_Script_isNext (call_Script_isNext kk) (fun _ => []) := by
    intro x hF hH hO hC hG hV hR hsd pc e he
    refine ck_sound FT_ok PT_ok NT_ok CT_ok (invs := iv_Script_isNext) ?_ ?_
    · exact (fun _ h => nomatch h)
    · rw [hO, hC, hR]; exact tk_use (fun pc h => by unfold T_Script_isNext; rw [Nat.ble_eq_true_of_le h]) tk_Script_isNext pc e he
  exact CtX_of hst (by decide) (by decide +kernel) hT (ro_Script_isNext kk) (by rw [Nat.zero_mul]; exact Nat.zero_le _)
def iv_Script_countMatching : List (Instr × Nat) := [(.invokevirtual 80, 14843913), (.invokevirtual 90, 14860305), (.invokevirtual 94, 622617)]
theorem tk_Script_countMatching : (List.range 31).all (fun pc => match T_Script_countMatching pc with | none => true | some e => ck FT_ PT_ NT_ CT_ yX2_countMatching.cls cX2_countMatching (some .int) iv_Script_countMatching pc e) = true := by decide +kernel
theorem Ct_Script_countMatching (kk : Nat) (l : Launch) (hst : l.stackTraces = false) : CtX sdX l yX2_countMatching (.code yX2_countMatching cX2_countMatching 3 (some .int) :: lw_all) 7 0 (A_Script_countMatching kk) := by
  have hT : TabOK sdX l yX2_countMatching.cls cX2_countMatching 0 7 (some .int) T_Script_countMatching (call_Script_countMatching kk) (fun _ => []) := by
    intro x hF hH hO hC hG hV hR hsd pc e he
    refine ck_sound FT_ok PT_ok NT_ok CT_ok (invs := iv_Script_countMatching) ?_ ?_
    · exact (List.forall_mem_cons.mpr ⟨fun pc hd => ⟨cwJ_slen hF hd hsd (by rw [hO]; exact wd_1437) (by rw [hV]; decide), hd_nil⟩, (List.forall_mem_cons.mpr ⟨fun pc hd => ⟨cwJ_sat hF hd hsd (by rw [hO]; exact wd_1438) (by rw [hV]; decide), hd_nil⟩, (List.forall_mem_cons.mpr ⟨fun pc hd => ⟨cwX_V (C := RX2) (n := 2) hF hd (by rw [hH]; exact Ct_Script_isNext kk l hst) hsd (by rw [hO]; exact wd_1453) wd_1455 wd_29 wd_92 wd_1456 ⟨rfl, by decide +kernel, by decide +kernel, by decide +kernel⟩ (by decide) (by rw [hV]; decide) (sh_Script_isNext kk), hd_nil⟩, (fun _ h => nomatch h)⟩)⟩)⟩)
    · rw [hO, hC, hR]; exact tk_use (fun pc h => by unfold T_Script_countMatching; rw [Nat.ble_eq_true_of_le h]) tk_Script_countMatching pc e he
  exact CtX_of hst (by decide) (by decide +kernel) hT (ro_Script_countMatching kk) (by rw [Nat.zero_mul]; exact Nat.zero_le _)
def iv_Script_readKeyword : List (Instr × Nat) := [(.invokestatic 72, 573453), (.invokevirtual 76, 606225), (.invokevirtual 80, 14843913), (.invokestatic 84, 14778385)]
theorem tk_Script_readKeyword : (List.range 70).all (fun pc => match T_Script_readKeyword pc with | none => true | some e => ck FT_ PT_ NT_ CT_ yX2_readKeyword.cls cX2_readKeyword (some .int) iv_Script_readKeyword pc e) = true := by decide +kernel
theorem Ct_Script_readKeyword (kk : Nat) (l : Launch) (hst : l.stackTraces = false) : CtX sdX l yX2_readKeyword (.code yX2_readKeyword cX2_readKeyword 5 (some .int) :: lw_all) 8 0 (A_Script_readKeyword kk) := by
  have hT : TabOK sdX l yX2_readKeyword.cls cX2_readKeyword 0 8 (some .int) T_Script_readKeyword (call_Script_readKeyword kk) (fun _ => []) := by
    intro x hF hH hO hC hG hV hR hsd pc e he
    refine ck_sound FT_ok PT_ok NT_ok CT_ok (invs := iv_Script_readKeyword) ?_ ?_
    · exact (List.forall_mem_cons.mpr ⟨fun pc hd => ⟨cwX_S (n := 1) hF hd (by rw [hH]; exact Ct_Script_keywordOf kk l hst) hsd (by rw [hO]; exact wd_1423) wd_1424 wd_92 wd_1425 ⟨by decide +kernel, by decide +kernel, by decide +kernel⟩ (by decide) (by rw [hV]; decide) (sh_Script_keywordOf kk), hd_nil⟩, (List.forall_mem_cons.mpr ⟨fun pc hd => ⟨cwX_V (C := RX2) (n := 1) hF hd (by rw [hH]; exact Ct_Script_countMatching kk l hst) hsd (by rw [hO]; exact wd_1433) wd_1435 wd_28 wd_92 wd_1436 ⟨rfl, by decide +kernel, by decide +kernel, by decide +kernel⟩ (by decide) (by rw [hV]; decide) (sh_Script_countMatching kk), hd_nil⟩, (List.forall_mem_cons.mpr ⟨fun pc hd => ⟨cwJ_slen hF hd hsd (by rw [hO]; exact wd_1437) (by rw [hV]; decide), hd_nil⟩, (List.forall_mem_cons.mpr ⟨fun pc hd => ⟨cwJ_max hF hd hsd (by rw [hO]; exact wd_1457) (by rw [hV]; decide), hd_nil⟩, (fun _ h => nomatch h)⟩)⟩)⟩)⟩)
    · rw [hO, hC, hR]; exact tk_use (fun pc h => by unfold T_Script_readKeyword; rw [Nat.ble_eq_true_of_le h]) tk_Script_readKeyword pc e he
  exact CtX_of hst (by decide) (by decide +kernel) hT (ro_Script_readKeyword kk) (by rw [Nat.zero_mul]; exact Nat.zero_le _)
def iv_Script_takeDigit : List (Instr × Nat) := []
theorem tk_Script_takeDigit : (List.range 68).all (fun pc => match T_Script_takeDigit pc with | none => true | some e => ck FT_ PT_ NT_ CT_ yX2_takeDigit.cls cX2_takeDigit (some .int) iv_Script_takeDigit pc e) = true := by decide +kernel
theorem Ct_Script_takeDigit (kk : Nat) (l : Launch) (hst : l.stackTraces = false) : CtX sdX l yX2_takeDigit (.code yX2_takeDigit cX2_takeDigit 2 (some .int) :: lw_all) 6 0 (A_Script_takeDigit kk) := by
  have hT : TabOK sdX l yX2_takeDigit.cls cX2_takeDigit 0 6 (some .int) T_Script_takeDigit (call_Script_takeDigit kk) (fun _ => []) := by
    intro x hF hH hO hC hG hV hR hsd pc e he
    refine ck_sound FT_ok PT_ok NT_ok CT_ok (invs := iv_Script_takeDigit) ?_ ?_
    · exact (fun _ h => nomatch h)
    · rw [hO, hC, hR]; exact tk_use (fun pc h => by unfold T_Script_takeDigit; rw [Nat.ble_eq_true_of_le h]) tk_Script_takeDigit pc e he
  exact CtX_of hst (by decide) (by decide +kernel) hT (ro_Script_takeDigit kk) (by rw [Nat.zero_mul]; exact Nat.zero_le _)
def iv_Script_setArgument : List (Instr × Nat) := []
theorem tk_Script_setArgument : (List.range 30).all (fun pc => match T_Script_setArgument pc with | none => true | some e => ck FT_ PT_ NT_ CT_ yX2_setArgument.cls cX2_setArgument none iv_Script_setArgument pc e) = true := by decide +kernel
theorem Ct_Script_setArgument (kk : Nat) (l : Launch) (hst : l.stackTraces = false) : CtX sdX l yX2_setArgument (.code yX2_setArgument cX2_setArgument 4 none :: lw_all) 6 0 (A_Script_setArgument kk) := by
  have hT : TabOK sdX l yX2_setArgument.cls cX2_setArgument 0 6 none T_Script_setArgument (call_Script_setArgument kk) (fun _ => []) := by
    intro x hF hH hO hC hG hV hR hsd pc e he
    refine ck_sound FT_ok PT_ok NT_ok CT_ok (invs := iv_Script_setArgument) ?_ ?_
    · exact (fun _ h => nomatch h)
    · rw [hO, hC, hR]; exact tk_use (fun pc h => by unfold T_Script_setArgument; rw [Nat.ble_eq_true_of_le h]) tk_Script_setArgument pc e he
  exact CtX_of hst (by decide) (by decide +kernel) hT (ro_Script_setArgument kk) (by rw [Nat.zero_mul]; exact Nat.zero_le _)
def iv_Script_readDigit : List (Instr × Nat) := [(.invokevirtual 98, 704521), (.invokevirtual 51, 720920)]
theorem tk_Script_readDigit : (List.range 22).all (fun pc => match T_Script_readDigit pc with | none => true | some e => ck FT_ PT_ NT_ CT_ yX2_readDigit.cls cX2_readDigit (some .boolean) iv_Script_readDigit pc e) = true := by decide +kernel
theorem Ct_Script_readDigit (kk : Nat) (l : Launch) (hst : l.stackTraces = false) : CtX sdX l yX2_readDigit (.code yX2_readDigit cX2_readDigit 3 (some .boolean) :: lw_all) 7 0 (A_Script_readDigit kk) := by
  have hT : TabOK sdX l yX2_readDigit.cls cX2_readDigit 0 7 (some .boolean) T_Script_readDigit (call_Script_readDigit kk) (fun _ => []) := by
    intro x hF hH hO hC hG hV hR hsd pc e he
    refine ck_sound FT_ok PT_ok NT_ok CT_ok (invs := iv_Script_readDigit) ?_ ?_
    · exact (List.forall_mem_cons.mpr ⟨fun pc hd => ⟨cwX_V (C := RX2) (n := 0) hF hd (by rw [hH]; exact Ct_Script_takeDigit kk l hst) hsd (by rw [hO]; exact wd_1462) wd_1464 wd_31 wd_92 wd_1465 ⟨rfl, by decide +kernel, by decide +kernel, by decide +kernel⟩ (by decide) (by rw [hV]; decide) (sh_Script_takeDigit kk), hd_nil⟩, (List.forall_mem_cons.mpr ⟨fun pc hd => ⟨cwX_V (C := RX2) (n := 2) hF hd (by rw [hH]; exact Ct_Script_setArgument kk l hst) hsd (by rw [hO]; exact wd_1466) wd_1468 wd_32 wd_92 wd_1469 ⟨rfl, by decide +kernel, by decide +kernel, by decide +kernel⟩ (by decide) (by rw [hV]; decide) (sh_Script_setArgument kk), hd_nil⟩, (fun _ h => nomatch h)⟩)⟩)
    · rw [hO, hC, hR]; exact tk_use (fun pc h => by unfold T_Script_readDigit; rw [Nat.ble_eq_true_of_le h]) tk_Script_readDigit pc e he
  exact CtX_of hst (by decide) (by decide +kernel) hT (ro_Script_readDigit kk) (by rw [Nat.zero_mul]; exact Nat.zero_le _)
def iv_Script_accept : List (Instr × Nat) := [(.invokevirtual 94, 622617)]
theorem tk_Script_accept : (List.range 23).all (fun pc => match T_Script_accept pc with | none => true | some e => ck FT_ PT_ NT_ CT_ yX2_accept.cls cX2_accept (some .boolean) iv_Script_accept pc e) = true := by decide +kernel
theorem Ct_Script_accept (kk : Nat) (l : Launch) (hst : l.stackTraces = false) : CtX sdX l yX2_accept (.code yX2_accept cX2_accept 3 (some .boolean) :: lw_all) 7 0 (A_Script_accept kk) := by
  have hT : TabOK sdX l yX2_accept.cls cX2_accept 0 7 (some .boolean) T_Script_accept (call_Script_accept kk) (fun _ => []) := by
    intro x hF hH hO hC hG hV hR hsd pc e he
    refine ck_sound FT_ok PT_ok NT_ok CT_ok (invs := iv_Script_accept) ?_ ?_
    · exact (List.forall_mem_cons.mpr ⟨fun pc hd => ⟨cwX_V (C := RX2) (n := 2) hF hd (by rw [hH]; exact Ct_Script_isNext kk l hst) hsd (by rw [hO]; exact wd_1453) wd_1455 wd_29 wd_92 wd_1456 ⟨rfl, by decide +kernel, by decide +kernel, by decide +kernel⟩ (by decide) (by rw [hV]; decide) (sh_Script_isNext kk), hd_nil⟩, (fun _ h => nomatch h)⟩)
    · rw [hO, hC, hR]; exact tk_use (fun pc h => by unfold T_Script_accept; rw [Nat.ble_eq_true_of_le h]) tk_Script_accept pc e he
  exact CtX_of hst (by decide) (by decide +kernel) hT (ro_Script_accept kk) (by rw [Nat.zero_mul]; exact Nat.zero_le _)
def iv_Script_readNumber : List (Instr × Nat) := [(.invokevirtual 98, 704521), (.invokevirtual 51, 720920)]
theorem tk_Script_readNumber : (List.range 39).all (fun pc => match T_Script_readNumber pc with | none => true | some e => ck FT_ PT_ NT_ CT_ yX2_readNumber.cls cX2_readNumber (some .boolean) iv_Script_readNumber pc e) = true := by decide +kernel
theorem Ct_Script_readNumber (kk : Nat) (l : Launch) (hst : l.stackTraces = false) : CtX sdX l yX2_readNumber (.code yX2_readNumber cX2_readNumber 4 (some .boolean) :: lw_all) 7 0 (A_Script_readNumber kk) := by
  have hT : TabOK sdX l yX2_readNumber.cls cX2_readNumber 0 7 (some .boolean) T_Script_readNumber (call_Script_readNumber kk) (fun _ => []) := by
    intro x hF hH hO hC hG hV hR hsd pc e he
    refine ck_sound FT_ok PT_ok NT_ok CT_ok (invs := iv_Script_readNumber) ?_ ?_
    · exact (List.forall_mem_cons.mpr ⟨fun pc hd => ⟨cwX_V (C := RX2) (n := 0) hF hd (by rw [hH]; exact Ct_Script_takeDigit kk l hst) hsd (by rw [hO]; exact wd_1462) wd_1464 wd_31 wd_92 wd_1465 ⟨rfl, by decide +kernel, by decide +kernel, by decide +kernel⟩ (by decide) (by rw [hV]; decide) (sh_Script_takeDigit kk), hd_nil⟩, (List.forall_mem_cons.mpr ⟨fun pc hd => ⟨cwX_V (C := RX2) (n := 2) hF hd (by rw [hH]; exact Ct_Script_setArgument kk l hst) hsd (by rw [hO]; exact wd_1466) wd_1468 wd_32 wd_92 wd_1469 ⟨rfl, by decide +kernel, by decide +kernel, by decide +kernel⟩ (by decide) (by rw [hV]; decide) (sh_Script_setArgument kk), hd_nil⟩, (fun _ h => nomatch h)⟩)⟩)
    · rw [hO, hC, hR]; exact tk_use (fun pc h => by unfold T_Script_readNumber; rw [Nat.ble_eq_true_of_le h]) tk_Script_readNumber pc e he
  exact CtX_of hst (by decide) (by decide +kernel) hT (ro_Script_readNumber kk) (by rw [Nat.zero_mul]; exact Nat.zero_le _)
def iv_Script_readSignedNumber : List (Instr × Nat) := [(.invokevirtual 36, 638993), (.invokevirtual 48, 671761), (.invokevirtual 101, 524313), (.invokevirtual 51, 720920)]
theorem tk_Script_readSignedNumber : (List.range 38).all (fun pc => match T_Script_readSignedNumber pc with | none => true | some e => ck FT_ PT_ NT_ CT_ yX2_readSignedNumber.cls cX2_readSignedNumber (some .boolean) iv_Script_readSignedNumber pc e) = true := by decide +kernel
theorem Ct_Script_readSignedNumber (kk : Nat) (l : Launch) (hst : l.stackTraces = false) : CtX sdX l yX2_readSignedNumber (.code yX2_readSignedNumber cX2_readSignedNumber 4 (some .boolean) :: lw_all) 8 0 (A_Script_readSignedNumber kk) := by
  have hT : TabOK sdX l yX2_readSignedNumber.cls cX2_readSignedNumber 0 8 (some .boolean) T_Script_readSignedNumber (call_Script_readSignedNumber kk) (fun _ => []) := by
    intro x hF hH hO hC hG hV hR hsd pc e he
    refine ck_sound FT_ok PT_ok NT_ok CT_ok (invs := iv_Script_readSignedNumber) ?_ ?_
    · exact (List.forall_mem_cons.mpr ⟨fun pc hd => ⟨cwX_V (C := RX2) (n := 1) hF hd (by rw [hH]; exact Ct_Script_accept kk l hst) hsd (by rw [hO]; exact wd_1470) wd_1472 wd_33 wd_92 wd_1473 ⟨rfl, by decide +kernel, by decide +kernel, by decide +kernel⟩ (by decide) (by rw [hV]; decide) (sh_Script_accept kk), hd_nil⟩, (List.forall_mem_cons.mpr ⟨fun pc hd => ⟨cwX_V (C := RX2) (n := 1) hF hd (by rw [hH]; exact Ct_Script_readNumber kk l hst) hsd (by rw [hO]; exact wd_1474) wd_1476 wd_34 wd_92 wd_1477 ⟨rfl, by decide +kernel, by decide +kernel, by decide +kernel⟩ (by decide) (by rw [hV]; decide) (sh_Script_readNumber kk), hd_nil⟩, (List.forall_mem_cons.mpr ⟨fun pc hd => ⟨cwX_V (C := RX2) (n := 2) hF hd (by rw [hH]; exact Ct_Script_argumentAt kk l hst) hsd (by rw [hO]; exact wd_1482) wd_1483 wd_1484 wd_92 wd_1485 ⟨rfl, by decide +kernel, by decide +kernel, by decide +kernel⟩ (by decide) (by rw [hV]; decide) (sh_Script_argumentAt kk), hd_nil⟩, (List.forall_mem_cons.mpr ⟨fun pc hd => ⟨cwX_V (C := RX2) (n := 2) hF hd (by rw [hH]; exact Ct_Script_setArgument kk l hst) hsd (by rw [hO]; exact wd_1466) wd_1468 wd_32 wd_92 wd_1469 ⟨rfl, by decide +kernel, by decide +kernel, by decide +kernel⟩ (by decide) (by rw [hV]; decide) (sh_Script_setArgument kk), hd_nil⟩, (fun _ h => nomatch h)⟩)⟩)⟩)⟩)
    · rw [hO, hC, hR]; exact tk_use (fun pc h => by unfold T_Script_readSignedNumber; rw [Nat.ble_eq_true_of_le h]) tk_Script_readSignedNumber pc e he
  exact CtX_of hst (by decide) (by decide +kernel) hT (ro_Script_readSignedNumber kk) (by rw [Nat.zero_mul]; exact Nat.zero_le _)
def iv_Script_readCommand : List (Instr × Nat) := [(.invokevirtual 40, 589833), (.invokevirtual 44, 655377), (.invokevirtual 36, 638993), (.invokevirtual 48, 671761), (.invokevirtual 51, 720920), (.invokevirtual 55, 688145)]
theorem tk_Script_readCommand : (List.range 206).all (fun pc => match T_Script_readCommand pc with | none => true | some e => ck FT_ PT_ NT_ CT_ yX2_readCommand.cls cX2_readCommand (some .boolean) iv_Script_readCommand pc e) = true := by decide +kernel
theorem Ct_Script_readCommand (kk : Nat) (l : Launch) (hst : l.stackTraces = false) : CtX sdX l yX2_readCommand (.code yX2_readCommand cX2_readCommand 2 (some .boolean) :: lw_all) 9 0 (A_Script_readCommand kk) := by
  have hT : TabOK sdX l yX2_readCommand.cls cX2_readCommand 0 9 (some .boolean) T_Script_readCommand (call_Script_readCommand kk) (fun _ => []) := by
    intro x hF hH hO hC hG hV hR hsd pc e he
    refine ck_sound FT_ok PT_ok NT_ok CT_ok (invs := iv_Script_readCommand) ?_ ?_
    · exact (List.forall_mem_cons.mpr ⟨fun pc hd => ⟨cwX_V (C := RX2) (n := 0) hF hd (by rw [hH]; exact Ct_Script_readKeyword kk l hst) hsd (by rw [hO]; exact wd_1419) wd_1421 wd_27 wd_92 wd_1422 ⟨rfl, by decide +kernel, by decide +kernel, by decide +kernel⟩ (by decide) (by rw [hV]; decide) (sh_Script_readKeyword kk), hd_nil⟩, (List.forall_mem_cons.mpr ⟨fun pc hd => ⟨cwX_V (C := RX2) (n := 1) hF hd (by rw [hH]; exact Ct_Script_readDigit kk l hst) hsd (by rw [hO]; exact wd_1458) wd_1460 wd_30 wd_92 wd_1461 ⟨rfl, by decide +kernel, by decide +kernel, by decide +kernel⟩ (by decide) (by rw [hV]; decide) (sh_Script_readDigit kk), hd_nil⟩, (List.forall_mem_cons.mpr ⟨fun pc hd => ⟨cwX_V (C := RX2) (n := 1) hF hd (by rw [hH]; exact Ct_Script_accept kk l hst) hsd (by rw [hO]; exact wd_1470) wd_1472 wd_33 wd_92 wd_1473 ⟨rfl, by decide +kernel, by decide +kernel, by decide +kernel⟩ (by decide) (by rw [hV]; decide) (sh_Script_accept kk), hd_nil⟩, (List.forall_mem_cons.mpr ⟨fun pc hd => ⟨cwX_V (C := RX2) (n := 1) hF hd (by rw [hH]; exact Ct_Script_readNumber kk l hst) hsd (by rw [hO]; exact wd_1474) wd_1476 wd_34 wd_92 wd_1477 ⟨rfl, by decide +kernel, by decide +kernel, by decide +kernel⟩ (by decide) (by rw [hV]; decide) (sh_Script_readNumber kk), hd_nil⟩, (List.forall_mem_cons.mpr ⟨fun pc hd => ⟨cwX_V (C := RX2) (n := 2) hF hd (by rw [hH]; exact Ct_Script_setArgument kk l hst) hsd (by rw [hO]; exact wd_1466) wd_1468 wd_32 wd_92 wd_1469 ⟨rfl, by decide +kernel, by decide +kernel, by decide +kernel⟩ (by decide) (by rw [hV]; decide) (sh_Script_setArgument kk), hd_nil⟩, (List.forall_mem_cons.mpr ⟨fun pc hd => ⟨cwX_V (C := RX2) (n := 1) hF hd (by rw [hH]; exact Ct_Script_readSignedNumber kk l hst) hsd (by rw [hO]; exact wd_1478) wd_1480 wd_35 wd_92 wd_1481 ⟨rfl, by decide +kernel, by decide +kernel, by decide +kernel⟩ (by decide) (by rw [hV]; decide) (sh_Script_readSignedNumber kk), hd_nil⟩, (fun _ h => nomatch h)⟩)⟩)⟩)⟩)⟩)⟩)
    · rw [hO, hC, hR]; exact tk_use (fun pc h => by unfold T_Script_readCommand; rw [Nat.ble_eq_true_of_le h]) tk_Script_readCommand pc e he
  exact CtX_of hst (by decide) (by decide +kernel) hT (ro_Script_readCommand kk) (by rw [Nat.zero_mul]; exact Nat.zero_le _)
def iv_Script_parse : List (Instr × Nat) := [(.invokevirtual 32, 557065), (.invokevirtual 36, 638993)]
theorem tk_Script_parse : (List.range 66).all (fun pc => match T_Script_parse pc with | none => true | some e => ck FT_ PT_ NT_ CT_ yX2_parse.cls cX2_parse (some .boolean) iv_Script_parse pc e) = true := by decide +kernel
theorem Ct_Script_parse (kk : Nat) (l : Launch) (hst : l.stackTraces = false) : CtX sdX l yX2_parse (.code yX2_parse cX2_parse 1 (some .boolean) :: lw_all) 10 0 (A_Script_parse kk) := by
  have hT : TabOK sdX l yX2_parse.cls cX2_parse 0 10 (some .boolean) T_Script_parse (call_Script_parse kk) (fun _ => []) := by
    intro x hF hH hO hC hG hV hR hsd pc e he
    refine ck_sound FT_ok PT_ok NT_ok CT_ok (invs := iv_Script_parse) ?_ ?_
    · exact (List.forall_mem_cons.mpr ⟨fun pc hd => ⟨cwX_V (C := RX2) (n := 0) hF hd (by rw [hH]; exact Ct_Script_readCommand kk l hst) hsd (by rw [hO]; exact wd_1415) wd_1417 wd_26 wd_92 wd_1418 ⟨rfl, by decide +kernel, by decide +kernel, by decide +kernel⟩ (by decide) (by rw [hV]; decide) (sh_Script_readCommand kk), hd_nil⟩, (List.forall_mem_cons.mpr ⟨fun pc hd => ⟨cwX_V (C := RX2) (n := 1) hF hd (by rw [hH]; exact Ct_Script_accept kk l hst) hsd (by rw [hO]; exact wd_1470) wd_1472 wd_33 wd_92 wd_1473 ⟨rfl, by decide +kernel, by decide +kernel, by decide +kernel⟩ (by decide) (by rw [hV]; decide) (sh_Script_accept kk), hd_nil⟩, (fun _ h => nomatch h)⟩)⟩)
    · rw [hO, hC, hR]; exact tk_use (fun pc h => by unfold T_Script_parse; rw [Nat.ble_eq_true_of_le h]) tk_Script_parse pc e he
  exact CtX_of hst (by decide) (by decide +kernel) hT (ro_Script_parse kk) (by rw [Nat.zero_mul]; exact Nat.zero_le _)
def iv_State_isWithinLimit : List (Instr × Nat) := [(.invokestatic 46, 14761993)]
theorem tk_State_isWithinLimit : (List.range 17).all (fun pc => match T_State_isWithinLimit pc with | none => true | some e => ck FT_ PT_ NT_ CT_ yX3_isWithinLimit.cls cX3_isWithinLimit (some .boolean) iv_State_isWithinLimit pc e) = true := by decide +kernel
theorem Ct_State_isWithinLimit (kk : Nat) (l : Launch) (hst : l.stackTraces = false) : CtX sdX l yX3_isWithinLimit (.code yX3_isWithinLimit cX3_isWithinLimit 2 (some .boolean) :: lw_all) 7 0 (A_State_isWithinLimit kk) := by
  have hT : TabOK sdX l yX3_isWithinLimit.cls cX3_isWithinLimit 0 7 (some .boolean) T_State_isWithinLimit (call_State_isWithinLimit kk) (fun _ => []) := by
    intro x hF hH hO hC hG hV hR hsd pc e he
    refine ck_sound FT_ok PT_ok NT_ok CT_ok (invs := iv_State_isWithinLimit) ?_ ?_
    · exact (List.forall_mem_cons.mpr ⟨fun pc hd => ⟨cwJ_abs hF hd hsd (by rw [hO]; exact wd_385) (by rw [hV]; decide), hd_nil⟩, (fun _ h => nomatch h)⟩)
    · rw [hO, hC, hR]; exact tk_use (fun pc h => by unfold T_State_isWithinLimit; rw [Nat.ble_eq_true_of_le h]) tk_State_isWithinLimit pc e he
  exact CtX_of hst (by decide) (by decide +kernel) hT (ro_State_isWithinLimit kk) (by rw [Nat.zero_mul]; exact Nat.zero_le _)
def iv_Voyage_countLegsTo : List (Instr × Nat) := [(.invokestatic 22, 14811153)]
theorem tk_Voyage_countLegsTo : (List.range 27).all (fun pc => match T_Voyage_countLegsTo pc with | none => true | some e => ck FT_ PT_ NT_ CT_ yX5_countLegsTo.cls cX5_countLegsTo (some .int) iv_Voyage_countLegsTo pc e) = true := by decide +kernel
theorem Ct_Voyage_countLegsTo (kk : Nat) (l : Launch) (hst : l.stackTraces = false) : CtX sdX l yX5_countLegsTo (.code yX5_countLegsTo cX5_countLegsTo 2 (some .int) :: lw_all) 7 0 (A_Voyage_countLegsTo kk) := by
  have hT : TabOK sdX l yX5_countLegsTo.cls cX5_countLegsTo 0 7 (some .int) T_Voyage_countLegsTo (call_Voyage_countLegsTo kk) (fun _ => []) := by
    intro x hF hH hO hC hG hV hR hsd pc e he
    refine ck_sound FT_ok PT_ok NT_ok CT_ok (invs := iv_Voyage_countLegsTo) ?_ ?_
    · exact (List.forall_mem_cons.mpr ⟨fun pc hd => ⟨cwJ_fmod hF hd hsd (by rw [hO]; exact wd_630) (by rw [hV]; decide), hd_nil⟩, (fun _ h => nomatch h)⟩)
    · rw [hO, hC, hR]; exact tk_use (fun pc h => by unfold T_Voyage_countLegsTo; rw [Nat.ble_eq_true_of_le h]) tk_Voyage_countLegsTo pc e he
  exact CtX_of hst (by decide) (by decide +kernel) hT (ro_Voyage_countLegsTo kk) (by rw [Nat.zero_mul]; exact Nat.zero_le _)
def iv_State_legsIn : List (Instr × Nat) := [(.invokevirtual 52, 163857), (.invokevirtual 55, 1081361)]
theorem tk_State_legsIn : (List.range 16).all (fun pc => match T_State_legsIn pc with | none => true | some e => ck FT_ PT_ NT_ CT_ yX3_legsIn.cls cX3_legsIn (some .int) iv_State_legsIn pc e) = true := by decide +kernel
theorem Ct_State_legsIn (kk : Nat) (l : Launch) (hst : l.stackTraces = false) : CtX sdX l yX3_legsIn (.code yX3_legsIn cX3_legsIn 2 (some .int) :: lw_all) 8 0 (A_State_legsIn kk) := by
  have hT : TabOK sdX l yX3_legsIn.cls cX3_legsIn 0 8 (some .int) T_State_legsIn (call_State_legsIn kk) (fun _ => []) := by
    intro x hF hH hO hC hG hV hR hsd pc e he
    refine ck_sound FT_ok PT_ok NT_ok CT_ok (invs := iv_State_legsIn) ?_ ?_
    · exact (List.forall_mem_cons.mpr ⟨fun pc hd => ⟨cwX_V (C := RX0) (n := 1) hF hd (by rw [hH]; exact Ct_Cargo_destinationIn kk l hst) hsd (by rw [hO]; exact wd_404) wd_405 wd_406 wd_88 wd_407 ⟨rfl, by decide +kernel, by decide +kernel, by decide +kernel⟩ (by decide) (by rw [hV]; decide) (sh_Cargo_destinationIn kk), hd_nil⟩, (List.forall_mem_cons.mpr ⟨fun pc hd => ⟨cwX_V (C := RX5) (n := 1) hF hd (by rw [hH]; exact Ct_Voyage_countLegsTo kk l hst) hsd (by rw [hO]; exact wd_720) wd_721 wd_722 wd_89 wd_723 ⟨rfl, by decide +kernel, by decide +kernel, by decide +kernel⟩ (by decide) (by rw [hV]; decide) (sh_Voyage_countLegsTo kk), hd_nil⟩, (fun _ h => nomatch h)⟩)⟩)
    · rw [hO, hC, hR]; exact tk_use (fun pc h => by unfold T_State_legsIn; rw [Nat.ble_eq_true_of_le h]) tk_State_legsIn pc e he
  exact CtX_of hst (by decide) (by decide +kernel) hT (ro_State_legsIn kk) (by rw [Nat.zero_mul]; exact Nat.zero_le _)
def iv_State_ageIn : List (Instr × Nat) := [(.invokevirtual 61, 180241)]
theorem tk_State_ageIn : (List.range 17).all (fun pc => match T_State_ageIn pc with | none => true | some e => ck FT_ PT_ NT_ CT_ yX3_ageIn.cls cX3_ageIn (some .int) iv_State_ageIn pc e) = true := by decide +kernel
theorem Ct_State_ageIn (kk : Nat) (l : Launch) (hst : l.stackTraces = false) : CtX sdX l yX3_ageIn (.code yX3_ageIn cX3_ageIn 2 (some .int) :: lw_all) 8 0 (A_State_ageIn kk) := by
  have hT : TabOK sdX l yX3_ageIn.cls cX3_ageIn 0 8 (some .int) T_State_ageIn (call_State_ageIn kk) (fun _ => []) := by
    intro x hF hH hO hC hG hV hR hsd pc e he
    refine ck_sound FT_ok PT_ok NT_ok CT_ok (invs := iv_State_ageIn) ?_ ?_
    · exact (List.forall_mem_cons.mpr ⟨fun pc hd => ⟨cwX_V (C := RX0) (n := 1) hF hd (by rw [hH]; exact Ct_Cargo_dayIn kk l hst) hsd (by rw [hO]; exact wd_618) wd_619 wd_620 wd_88 wd_621 ⟨rfl, by decide +kernel, by decide +kernel, by decide +kernel⟩ (by decide) (by rw [hV]; decide) (sh_Cargo_dayIn kk), hd_nil⟩, (fun _ h => nomatch h)⟩)
    · rw [hO, hC, hR]; exact tk_use (fun pc h => by unfold T_State_ageIn; rw [Nat.ble_eq_true_of_le h]) tk_State_ageIn pc e he
  exact CtX_of hst (by decide) (by decide +kernel) hT (ro_State_ageIn kk) (by rw [Nat.zero_mul]; exact Nat.zero_le _)
def iv_PB_isWeight : List (Instr × Nat) := []
theorem tk_PB_isWeight : (List.range 17).all (fun pc => match T_PB_isWeight pc with | none => true | some e => ck FT_ PT_ NT_ CT_ yX6_isWeight.cls cX6_isWeight (some .boolean) iv_PB_isWeight pc e) = true := by decide +kernel
theorem Ct_PB_isWeight (kk : Nat) (l : Launch) (hst : l.stackTraces = false) : CtN sdX l yX6_isWeight (.code yX6_isWeight cX6_isWeight 1 (some .boolean) :: lw_all) 6 0 (A_PB_isWeight kk) := by
  have hT : TabOK sdX l yX6_isWeight.cls cX6_isWeight 0 6 (some .boolean) T_PB_isWeight (call_PB_isWeight kk) (fun _ => []) := by
    intro x hF hH hO hC hG hV hR hsd pc e he
    refine ck_sound FT_ok PT_ok NT_ok CT_ok (invs := iv_PB_isWeight) ?_ ?_
    · exact (fun _ h => nomatch h)
    · rw [hO, hC, hR]; exact tk_use (fun pc h => by unfold T_PB_isWeight; rw [Nat.ble_eq_true_of_le h]) tk_PB_isWeight pc e he
  exact CtN_of (by decide +kernel) hT (ro_PB_isWeight kk) nx_PB_isWeight (by rw [Nat.zero_mul]; exact Nat.zero_le _)
def iv_PB_isPort : List (Instr × Nat) := []
theorem tk_PB_isPort : (List.range 15).all (fun pc => match T_PB_isPort pc with | none => true | some e => ck FT_ PT_ NT_ CT_ yX6_isPort.cls cX6_isPort (some .boolean) iv_PB_isPort pc e) = true := by decide +kernel
theorem Ct_PB_isPort (kk : Nat) (l : Launch) (hst : l.stackTraces = false) : CtN sdX l yX6_isPort (.code yX6_isPort cX6_isPort 1 (some .boolean) :: lw_all) 6 0 (A_PB_isPort kk) := by
  have hT : TabOK sdX l yX6_isPort.cls cX6_isPort 0 6 (some .boolean) T_PB_isPort (call_PB_isPort kk) (fun _ => []) := by
    intro x hF hH hO hC hG hV hR hsd pc e he
    refine ck_sound FT_ok PT_ok NT_ok CT_ok (invs := iv_PB_isPort) ?_ ?_
    · exact (fun _ h => nomatch h)
    · rw [hO, hC, hR]; exact tk_use (fun pc h => by unfold T_PB_isPort; rw [Nat.ble_eq_true_of_le h]) tk_PB_isPort pc e he
  exact CtN_of (by decide +kernel) hT (ro_PB_isPort kk) nx_PB_isPort (by rw [Nat.zero_mul]; exact Nat.zero_le _)
def iv_State_faultOfMoment : List (Instr × Nat) := [(.invokevirtual 109, 262153), (.invokevirtual 113, 770065)]
theorem tk_State_faultOfMoment : (List.range 22).all (fun pc => match T_State_faultOfMoment pc with | none => true | some e => ck FT_ PT_ NT_ CT_ yX3_faultOfMoment.cls cX3_faultOfMoment (some .int) iv_State_faultOfMoment pc e) = true := by decide +kernel
theorem Ct_State_faultOfMoment (kk : Nat) (l : Launch) (hst : l.stackTraces = false) : CtX sdX l yX3_faultOfMoment (.code yX3_faultOfMoment cX3_faultOfMoment 2 (some .int) :: lw_all) 8 0 (A_State_faultOfMoment kk) := by
  have hT : TabOK sdX l yX3_faultOfMoment.cls cX3_faultOfMoment 0 8 (some .int) T_State_faultOfMoment (call_State_faultOfMoment kk) (fun _ => []) := by
    intro x hF hH hO hC hG hV hR hsd pc e he
    refine ck_sound FT_ok PT_ok NT_ok CT_ok (invs := iv_State_faultOfMoment) ?_ ?_
    · exact (List.forall_mem_cons.mpr ⟨fun pc hd => ⟨cwX_V (C := RX0) (n := 0) hF hd (by rw [hH]; exact Ct_Cargo_momentOfPillows kk l hst) hsd (by rw [hO]; exact wd_372) wd_373 wd_374 wd_88 wd_375 ⟨rfl, by decide +kernel, by decide +kernel, by decide +kernel⟩ (by decide) (by rw [hV]; decide) (sh_Cargo_momentOfPillows kk), hd_nil⟩, (List.forall_mem_cons.mpr ⟨fun pc hd => ⟨cwX_V (C := RX3) (n := 1) hF hd (by rw [hH]; exact Ct_State_isWithinLimit kk l hst) hsd (by rw [hO]; exact wd_381) wd_382 wd_383 wd_87 wd_384 ⟨rfl, by decide +kernel, by decide +kernel, by decide +kernel⟩ (by decide) (by rw [hV]; decide) (sh_State_isWithinLimit kk), hd_nil⟩, (fun _ h => nomatch h)⟩)⟩)
    · rw [hO, hC, hR]; exact tk_use (fun pc h => by unfold T_State_faultOfMoment; rw [Nat.ble_eq_true_of_le h]) tk_State_faultOfMoment pc e he
  exact CtX_of hst (by decide) (by decide +kernel) hT (ro_State_faultOfMoment kk) (by rw [Nat.zero_mul]; exact Nat.zero_le _)
def iv_State_faultOfLoad : List (Instr × Nat) := [(.invokestatic 78, 2359305), (.invokestatic 82, 2408457), (.invokestatic 85, 2392073), (.invokevirtual 88, 49169), (.invokestatic 91, 2424841), (.invokevirtual 94, 884753)]
theorem tk_State_faultOfLoad : (List.range 50).all (fun pc => match T_State_faultOfLoad pc with | none => true | some e => ck FT_ PT_ NT_ CT_ yX3_faultOfLoad.cls cX3_faultOfLoad (some .int) iv_State_faultOfLoad pc e) = true := by decide +kernel
theorem Ct_State_faultOfLoad (kk : Nat) (l : Launch) (hst : l.stackTraces = false) : CtX sdX l yX3_faultOfLoad (.code yX3_faultOfLoad cX3_faultOfLoad 4 (some .int) :: lw_all) 9 0 (A_State_faultOfLoad kk) := by
  have hT : TabOK sdX l yX3_faultOfLoad.cls cX3_faultOfLoad 0 9 (some .int) T_State_faultOfLoad (call_State_faultOfLoad kk) (fun _ => []) := by
    intro x hF hH hO hC hG hV hR hsd pc e he
    refine ck_sound FT_ok PT_ok NT_ok CT_ok (invs := iv_State_faultOfLoad) ?_ ?_
    · exact (List.forall_mem_cons.mpr ⟨fun pc hd => ⟨cwN_SN (n := 1) hF hd (by rw [hH]; exact Ct_PB_isBay kk l hst) hsd (by rw [hO]; exact wn_351) wd_352 wd_86 wd_353 ⟨by decide +kernel, by decide +kernel, by decide +kernel⟩ (by decide) (by rw [hV]; decide) (sh_PB_isBay kk), hd_nil⟩, (List.forall_mem_cons.mpr ⟨fun pc hd => ⟨cwN_SN (n := 1) hF hd (by rw [hH]; exact Ct_PB_isWeight kk l hst) hsd (by rw [hO]; exact wn_354) wd_355 wd_86 wd_356 ⟨by decide +kernel, by decide +kernel, by decide +kernel⟩ (by decide) (by rw [hV]; decide) (sh_PB_isWeight kk), hd_nil⟩, (List.forall_mem_cons.mpr ⟨fun pc hd => ⟨cwN_SN (n := 1) hF hd (by rw [hH]; exact Ct_PB_isPort kk l hst) hsd (by rw [hO]; exact wn_357) wd_358 wd_86 wd_359 ⟨by decide +kernel, by decide +kernel, by decide +kernel⟩ (by decide) (by rw [hV]; decide) (sh_PB_isPort kk), hd_nil⟩, (List.forall_mem_cons.mpr ⟨fun pc hd => ⟨cwX_V (C := RX0) (n := 1) hF hd (by rw [hH]; exact Ct_Cargo_heightOf kk l hst) hsd (by rw [hO]; exact wd_360) wd_361 wd_362 wd_88 wd_363 ⟨rfl, by decide +kernel, by decide +kernel, by decide +kernel⟩ (by decide) (by rw [hV]; decide) (sh_Cargo_heightOf kk), hd_nil⟩, (List.forall_mem_cons.mpr ⟨fun pc hd => ⟨cwN_SN (n := 1) hF hd (by rw [hH]; exact Ct_PB_leverArm kk l hst) hsd (by rw [hO]; exact wn_365) wd_366 wd_86 wd_367 ⟨by decide +kernel, by decide +kernel, by decide +kernel⟩ (by decide) (by rw [hV]; decide) (sh_PB_leverArm kk), hd_nil⟩, (List.forall_mem_cons.mpr ⟨fun pc hd => ⟨cwX_V (C := RX3) (n := 1) hF hd (by rw [hH]; exact Ct_State_faultOfMoment kk l hst) hsd (by rw [hO]; exact wd_368) wd_370 wd_1 wd_87 wd_371 ⟨rfl, by decide +kernel, by decide +kernel, by decide +kernel⟩ (by decide) (by rw [hV]; decide) (sh_State_faultOfMoment kk), hd_nil⟩, (fun _ h => nomatch h)⟩)⟩)⟩)⟩)⟩)⟩)
    · rw [hO, hC, hR]; exact tk_use (fun pc h => by unfold T_State_faultOfLoad; rw [Nat.ble_eq_true_of_le h]) tk_State_faultOfLoad pc e he
  exact CtX_of hst (by decide) (by decide +kernel) hT (ro_State_faultOfLoad kk) (by rw [Nat.zero_mul]; exact Nat.zero_le _)
def iv_State_faultOfUnload : List (Instr × Nat) := [(.invokestatic 78, 2359305), (.invokevirtual 97, 98321), (.invokestatic 100, 2375689), (.invokevirtual 52, 163857), (.invokevirtual 106, 147473), (.invokestatic 91, 2424841), (.invokevirtual 94, 884753)]
theorem tk_State_faultOfUnload : (List.range 66).all (fun pc => match T_State_faultOfUnload pc with | none => true | some e => ck FT_ PT_ NT_ CT_ yX3_faultOfUnload.cls cX3_faultOfUnload (some .int) iv_State_faultOfUnload pc e) = true := by decide +kernel
theorem Ct_State_faultOfUnload (kk : Nat) (l : Launch) (hst : l.stackTraces = false) : CtX sdX l yX3_faultOfUnload (.code yX3_faultOfUnload cX3_faultOfUnload 3 (some .int) :: lw_all) 9 0 (A_State_faultOfUnload kk) := by
  have hT : TabOK sdX l yX3_faultOfUnload.cls cX3_faultOfUnload 0 9 (some .int) T_State_faultOfUnload (call_State_faultOfUnload kk) (fun _ => []) := by
    intro x hF hH hO hC hG hV hR hsd pc e he
    refine ck_sound FT_ok PT_ok NT_ok CT_ok (invs := iv_State_faultOfUnload) ?_ ?_
    · exact (List.forall_mem_cons.mpr ⟨fun pc hd => ⟨cwN_SN (n := 1) hF hd (by rw [hH]; exact Ct_PB_isBay kk l hst) hsd (by rw [hO]; exact wn_351) wd_352 wd_86 wd_353 ⟨by decide +kernel, by decide +kernel, by decide +kernel⟩ (by decide) (by rw [hV]; decide) (sh_PB_isBay kk), hd_nil⟩, (List.forall_mem_cons.mpr ⟨fun pc hd => ⟨cwX_V (C := RX0) (n := 1) hF hd (by rw [hH]; exact Ct_Cargo_topSlot kk l hst) hsd (by rw [hO]; exact wd_392) wd_393 wd_394 wd_88 wd_395 ⟨rfl, by decide +kernel, by decide +kernel, by decide +kernel⟩ (by decide) (by rw [hV]; decide) (sh_Cargo_topSlot kk), hd_nil⟩, (List.forall_mem_cons.mpr ⟨fun pc hd => ⟨cwN_SN (n := 1) hF hd (by rw [hH]; exact Ct_PB_isSlot kk l hst) hsd (by rw [hO]; exact wn_401) wd_402 wd_86 wd_403 ⟨by decide +kernel, by decide +kernel, by decide +kernel⟩ (by decide) (by rw [hV]; decide) (sh_PB_isSlot kk), hd_nil⟩, (List.forall_mem_cons.mpr ⟨fun pc hd => ⟨cwX_V (C := RX0) (n := 1) hF hd (by rw [hH]; exact Ct_Cargo_destinationIn kk l hst) hsd (by rw [hO]; exact wd_404) wd_405 wd_406 wd_88 wd_407 ⟨rfl, by decide +kernel, by decide +kernel, by decide +kernel⟩ (by decide) (by rw [hV]; decide) (sh_Cargo_destinationIn kk), hd_nil⟩, (List.forall_mem_cons.mpr ⟨fun pc hd => ⟨cwX_V (C := RX0) (n := 1) hF hd (by rw [hH]; exact Ct_Cargo_weightIn kk l hst) hsd (by rw [hO]; exact wd_409) wd_410 wd_411 wd_88 wd_412 ⟨rfl, by decide +kernel, by decide +kernel, by decide +kernel⟩ (by decide) (by rw [hV]; decide) (sh_Cargo_weightIn kk), hd_nil⟩, (List.forall_mem_cons.mpr ⟨fun pc hd => ⟨cwN_SN (n := 1) hF hd (by rw [hH]; exact Ct_PB_leverArm kk l hst) hsd (by rw [hO]; exact wn_365) wd_366 wd_86 wd_367 ⟨by decide +kernel, by decide +kernel, by decide +kernel⟩ (by decide) (by rw [hV]; decide) (sh_PB_leverArm kk), hd_nil⟩, (List.forall_mem_cons.mpr ⟨fun pc hd => ⟨cwX_V (C := RX3) (n := 1) hF hd (by rw [hH]; exact Ct_State_faultOfMoment kk l hst) hsd (by rw [hO]; exact wd_368) wd_370 wd_1 wd_87 wd_371 ⟨rfl, by decide +kernel, by decide +kernel, by decide +kernel⟩ (by decide) (by rw [hV]; decide) (sh_State_faultOfMoment kk), hd_nil⟩, (fun _ h => nomatch h)⟩)⟩)⟩)⟩)⟩)⟩)⟩)
    · rw [hO, hC, hR]; exact tk_use (fun pc h => by unfold T_State_faultOfUnload; rw [Nat.ble_eq_true_of_le h]) tk_State_faultOfUnload pc e he
  exact CtX_of hst (by decide) (by decide +kernel) hT (ro_State_faultOfUnload kk) (by rw [Nat.zero_mul]; exact Nat.zero_le _)
def iv_State_faultOfShift : List (Instr × Nat) := [(.invokestatic 78, 2359305), (.invokevirtual 97, 98321), (.invokestatic 100, 2375689), (.invokevirtual 88, 49169), (.invokevirtual 106, 147473), (.invokestatic 91, 2424841), (.invokevirtual 94, 884753)]
theorem tk_State_faultOfShift : (List.range 78).all (fun pc => match T_State_faultOfShift pc with | none => true | some e => ck FT_ PT_ NT_ CT_ yX3_faultOfShift.cls cX3_faultOfShift (some .int) iv_State_faultOfShift pc e) = true := by decide +kernel
theorem Ct_State_faultOfShift (kk : Nat) (l : Launch) (hst : l.stackTraces = false) : CtX sdX l yX3_faultOfShift (.code yX3_faultOfShift cX3_faultOfShift 4 (some .int) :: lw_all) 9 0 (A_State_faultOfShift kk) := by
  have hT : TabOK sdX l yX3_faultOfShift.cls cX3_faultOfShift 0 9 (some .int) T_State_faultOfShift (call_State_faultOfShift kk) (fun _ => []) := by
    intro x hF hH hO hC hG hV hR hsd pc e he
    refine ck_sound FT_ok PT_ok NT_ok CT_ok (invs := iv_State_faultOfShift) ?_ ?_
    · exact (List.forall_mem_cons.mpr ⟨fun pc hd => ⟨cwN_SN (n := 1) hF hd (by rw [hH]; exact Ct_PB_isBay kk l hst) hsd (by rw [hO]; exact wn_351) wd_352 wd_86 wd_353 ⟨by decide +kernel, by decide +kernel, by decide +kernel⟩ (by decide) (by rw [hV]; decide) (sh_PB_isBay kk), hd_nil⟩, (List.forall_mem_cons.mpr ⟨fun pc hd => ⟨cwX_V (C := RX0) (n := 1) hF hd (by rw [hH]; exact Ct_Cargo_topSlot kk l hst) hsd (by rw [hO]; exact wd_392) wd_393 wd_394 wd_88 wd_395 ⟨rfl, by decide +kernel, by decide +kernel, by decide +kernel⟩ (by decide) (by rw [hV]; decide) (sh_Cargo_topSlot kk), hd_nil⟩, (List.forall_mem_cons.mpr ⟨fun pc hd => ⟨cwN_SN (n := 1) hF hd (by rw [hH]; exact Ct_PB_isSlot kk l hst) hsd (by rw [hO]; exact wn_401) wd_402 wd_86 wd_403 ⟨by decide +kernel, by decide +kernel, by decide +kernel⟩ (by decide) (by rw [hV]; decide) (sh_PB_isSlot kk), hd_nil⟩, (List.forall_mem_cons.mpr ⟨fun pc hd => ⟨cwX_V (C := RX0) (n := 1) hF hd (by rw [hH]; exact Ct_Cargo_heightOf kk l hst) hsd (by rw [hO]; exact wd_360) wd_361 wd_362 wd_88 wd_363 ⟨rfl, by decide +kernel, by decide +kernel, by decide +kernel⟩ (by decide) (by rw [hV]; decide) (sh_Cargo_heightOf kk), hd_nil⟩, (List.forall_mem_cons.mpr ⟨fun pc hd => ⟨cwX_V (C := RX0) (n := 1) hF hd (by rw [hH]; exact Ct_Cargo_weightIn kk l hst) hsd (by rw [hO]; exact wd_409) wd_410 wd_411 wd_88 wd_412 ⟨rfl, by decide +kernel, by decide +kernel, by decide +kernel⟩ (by decide) (by rw [hV]; decide) (sh_Cargo_weightIn kk), hd_nil⟩, (List.forall_mem_cons.mpr ⟨fun pc hd => ⟨cwN_SN (n := 1) hF hd (by rw [hH]; exact Ct_PB_leverArm kk l hst) hsd (by rw [hO]; exact wn_365) wd_366 wd_86 wd_367 ⟨by decide +kernel, by decide +kernel, by decide +kernel⟩ (by decide) (by rw [hV]; decide) (sh_PB_leverArm kk), hd_nil⟩, (List.forall_mem_cons.mpr ⟨fun pc hd => ⟨cwX_V (C := RX3) (n := 1) hF hd (by rw [hH]; exact Ct_State_faultOfMoment kk l hst) hsd (by rw [hO]; exact wd_368) wd_370 wd_1 wd_87 wd_371 ⟨rfl, by decide +kernel, by decide +kernel, by decide +kernel⟩ (by decide) (by rw [hV]; decide) (sh_State_faultOfMoment kk), hd_nil⟩, (fun _ h => nomatch h)⟩)⟩)⟩)⟩)⟩)⟩)⟩)
    · rw [hO, hC, hR]; exact tk_use (fun pc h => by unfold T_State_faultOfShift; rw [Nat.ble_eq_true_of_le h]) tk_State_faultOfShift pc e he
  exact CtX_of hst (by decide) (by decide +kernel) hT (ro_State_faultOfShift kk) (by rw [Nat.zero_mul]; exact Nat.zero_le _)
def iv_State_faultOfLimit : List (Instr × Nat) := [(.invokevirtual 109, 262153), (.invokestatic 46, 14761993)]
theorem tk_State_faultOfLimit : (List.range 34).all (fun pc => match T_State_faultOfLimit pc with | none => true | some e => ck FT_ PT_ NT_ CT_ yX3_faultOfLimit.cls cX3_faultOfLimit (some .int) iv_State_faultOfLimit pc e) = true := by decide +kernel
theorem Ct_State_faultOfLimit (kk : Nat) (l : Launch) (hst : l.stackTraces = false) : CtX sdX l yX3_faultOfLimit (.code yX3_faultOfLimit cX3_faultOfLimit 2 (some .int) :: lw_all) 8 0 (A_State_faultOfLimit kk) := by
  have hT : TabOK sdX l yX3_faultOfLimit.cls cX3_faultOfLimit 0 8 (some .int) T_State_faultOfLimit (call_State_faultOfLimit kk) (fun _ => []) := by
    intro x hF hH hO hC hG hV hR hsd pc e he
    refine ck_sound FT_ok PT_ok NT_ok CT_ok (invs := iv_State_faultOfLimit) ?_ ?_
    · exact (List.forall_mem_cons.mpr ⟨fun pc hd => ⟨cwX_V (C := RX0) (n := 0) hF hd (by rw [hH]; exact Ct_Cargo_momentOfPillows kk l hst) hsd (by rw [hO]; exact wd_372) wd_373 wd_374 wd_88 wd_375 ⟨rfl, by decide +kernel, by decide +kernel, by decide +kernel⟩ (by decide) (by rw [hV]; decide) (sh_Cargo_momentOfPillows kk), hd_nil⟩, (List.forall_mem_cons.mpr ⟨fun pc hd => ⟨cwJ_abs hF hd hsd (by rw [hO]; exact wd_385) (by rw [hV]; decide), hd_nil⟩, (fun _ h => nomatch h)⟩)⟩)
    · rw [hO, hC, hR]; exact tk_use (fun pc h => by unfold T_State_faultOfLimit; rw [Nat.ble_eq_true_of_le h]) tk_State_faultOfLimit pc e he
  exact CtX_of hst (by decide) (by decide +kernel) hT (ro_State_faultOfLimit kk) (by rw [Nat.zero_mul]; exact Nat.zero_le _)
def iv_State_faultOf : List (Instr × Nat) := [(.invokevirtual 64, 835617), (.invokevirtual 68, 851985), (.invokevirtual 71, 868377), (.invokevirtual 75, 901137)]
theorem tk_State_faultOf : (List.range 109).all (fun pc => match T_State_faultOf pc with | none => true | some e => ck FT_ PT_ NT_ CT_ yX3_faultOf.cls cX3_faultOf (some .int) iv_State_faultOf pc e) = true := by decide +kernel
theorem Ct_State_faultOf (kk : Nat) (l : Launch) (hst : l.stackTraces = false) : CtX sdX l yX3_faultOf (.code yX3_faultOf cX3_faultOf 5 (some .int) :: lw_all) 10 0 (A_State_faultOf kk) := by
  have hT : TabOK sdX l yX3_faultOf.cls cX3_faultOf 0 10 (some .int) T_State_faultOf (call_State_faultOf kk) (fun _ => []) := by
    intro x hF hH hO hC hG hV hR hsd pc e he
    refine ck_sound FT_ok PT_ok NT_ok CT_ok (invs := iv_State_faultOf) ?_ ?_
    · exact (List.forall_mem_cons.mpr ⟨fun pc hd => ⟨cwX_V (C := RX3) (n := 3) hF hd (by rw [hH]; exact Ct_State_faultOfLoad kk l hst) hsd (by rw [hO]; exact wd_347) wd_348 wd_349 wd_87 wd_350 ⟨rfl, by decide +kernel, by decide +kernel, by decide +kernel⟩ (by decide) (by rw [hV]; decide) (sh_State_faultOfLoad kk), hd_nil⟩, (List.forall_mem_cons.mpr ⟨fun pc hd => ⟨cwX_V (C := RX3) (n := 1) hF hd (by rw [hH]; exact Ct_State_faultOfUnload kk l hst) hsd (by rw [hO]; exact wd_388) wd_389 wd_390 wd_87 wd_391 ⟨rfl, by decide +kernel, by decide +kernel, by decide +kernel⟩ (by decide) (by rw [hV]; decide) (sh_State_faultOfUnload kk), hd_nil⟩, (List.forall_mem_cons.mpr ⟨fun pc hd => ⟨cwX_V (C := RX3) (n := 2) hF hd (by rw [hH]; exact Ct_State_faultOfShift kk l hst) hsd (by rw [hO]; exact wd_413) wd_414 wd_415 wd_87 wd_416 ⟨rfl, by decide +kernel, by decide +kernel, by decide +kernel⟩ (by decide) (by rw [hV]; decide) (sh_State_faultOfShift kk), hd_nil⟩, (List.forall_mem_cons.mpr ⟨fun pc hd => ⟨cwX_V (C := RX3) (n := 1) hF hd (by rw [hH]; exact Ct_State_faultOfLimit kk l hst) hsd (by rw [hO]; exact wd_417) wd_419 wd_2 wd_87 wd_420 ⟨rfl, by decide +kernel, by decide +kernel, by decide +kernel⟩ (by decide) (by rw [hV]; decide) (sh_State_faultOfLimit kk), hd_nil⟩, (fun _ h => nomatch h)⟩)⟩)⟩)⟩)
    · rw [hO, hC, hR]; exact tk_use (fun pc h => by unfold T_State_faultOf; rw [Nat.ble_eq_true_of_le h]) tk_State_faultOf pc e he
  exact CtX_of hst (by decide) (by decide +kernel) hT (ro_State_faultOf kk) (by rw [Nat.zero_mul]; exact Nat.zero_le _)
def iv_State_addPillow : List (Instr × Nat) := [(.invokevirtual 145, 294960)]
theorem tk_State_addPillow : (List.range 44).all (fun pc => match T_State_addPillow pc with | none => true | some e => ck FT_ PT_ NT_ CT_ yX3_addPillow.cls cX3_addPillow (some .int) iv_State_addPillow pc e) = true := by decide +kernel
theorem Ct_State_addPillow (kk : Nat) (l : Launch) (hst : l.stackTraces = false) : CtX sdX l yX3_addPillow (.code yX3_addPillow cX3_addPillow 5 (some .int) :: lw_all) 9 0 (A_State_addPillow kk) := by
  have hT : TabOK sdX l yX3_addPillow.cls cX3_addPillow 0 9 (some .int) T_State_addPillow (call_State_addPillow kk) (fun _ => []) := by
    intro x hF hH hO hC hG hV hR hsd pc e he
    refine ck_sound FT_ok PT_ok NT_ok CT_ok (invs := iv_State_addPillow) ?_ ?_
    · exact (List.forall_mem_cons.mpr ⟨fun pc hd => ⟨cwX_V (C := RX0) (n := 5) hF hd (by rw [hH]; exact Ct_Cargo_put kk l hst) hsd (by rw [hO]; exact wd_598) wd_599 wd_600 wd_88 wd_601 ⟨rfl, by decide +kernel, by decide +kernel, by decide +kernel⟩ (by decide) (by rw [hV]; decide) (sh_Cargo_put kk), hd_nil⟩, (fun _ h => nomatch h)⟩)
    · rw [hO, hC, hR]; exact tk_use (fun pc h => by unfold T_State_addPillow; rw [Nat.ble_eq_true_of_le h]) tk_State_addPillow pc e he
  exact CtX_of hst (by decide) (by decide +kernel) hT (ro_State_addPillow kk) (by rw [Nat.zero_mul]; exact Nat.zero_le _)
def iv_State_deliverTop : List (Instr × Nat) := [(.invokevirtual 97, 98321), (.invokevirtual 149, 131089), (.invokevirtual 106, 147473), (.invokevirtual 158, 311312)]
theorem tk_State_deliverTop : (List.range 61).all (fun pc => match T_State_deliverTop pc with | none => true | some e => ck FT_ PT_ NT_ CT_ yX3_deliverTop.cls cX3_deliverTop (some .int) iv_State_deliverTop pc e) = true := by decide +kernel
theorem Ct_State_deliverTop (kk : Nat) (l : Launch) (hst : l.stackTraces = false) : CtX sdX l yX3_deliverTop (.code yX3_deliverTop cX3_deliverTop 4 (some .int) :: lw_all) 9 0 (A_State_deliverTop kk) := by
  have hT : TabOK sdX l yX3_deliverTop.cls cX3_deliverTop 0 9 (some .int) T_State_deliverTop (call_State_deliverTop kk) (fun _ => []) := by
    intro x hF hH hO hC hG hV hR hsd pc e he
    refine ck_sound FT_ok PT_ok NT_ok CT_ok (invs := iv_State_deliverTop) ?_ ?_
    · exact (List.forall_mem_cons.mpr ⟨fun pc hd => ⟨cwX_V (C := RX0) (n := 1) hF hd (by rw [hH]; exact Ct_Cargo_topSlot kk l hst) hsd (by rw [hO]; exact wd_392) wd_393 wd_394 wd_88 wd_395 ⟨rfl, by decide +kernel, by decide +kernel, by decide +kernel⟩ (by decide) (by rw [hV]; decide) (sh_Cargo_topSlot kk), hd_nil⟩, (List.forall_mem_cons.mpr ⟨fun pc hd => ⟨cwX_V (C := RX0) (n := 1) hF hd (by rw [hH]; exact Ct_Cargo_numberIn kk l hst) hsd (by rw [hO]; exact wd_606) wd_607 wd_608 wd_88 wd_609 ⟨rfl, by decide +kernel, by decide +kernel, by decide +kernel⟩ (by decide) (by rw [hV]; decide) (sh_Cargo_numberIn kk), hd_nil⟩, (List.forall_mem_cons.mpr ⟨fun pc hd => ⟨cwX_V (C := RX0) (n := 1) hF hd (by rw [hH]; exact Ct_Cargo_weightIn kk l hst) hsd (by rw [hO]; exact wd_409) wd_410 wd_411 wd_88 wd_412 ⟨rfl, by decide +kernel, by decide +kernel, by decide +kernel⟩ (by decide) (by rw [hV]; decide) (sh_Cargo_weightIn kk), hd_nil⟩, (List.forall_mem_cons.mpr ⟨fun pc hd => ⟨cwX_V (C := RX0) (n := 1) hF hd (by rw [hH]; exact Ct_Cargo_removeTop kk l hst) hsd (by rw [hO]; exact wd_610) wd_611 wd_612 wd_88 wd_613 ⟨rfl, by decide +kernel, by decide +kernel, by decide +kernel⟩ (by decide) (by rw [hV]; decide) (sh_Cargo_removeTop kk), hd_nil⟩, (fun _ h => nomatch h)⟩)⟩)⟩)⟩)
    · rw [hO, hC, hR]; exact tk_use (fun pc h => by unfold T_State_deliverTop; rw [Nat.ble_eq_true_of_le h]) tk_State_deliverTop pc e he
  exact CtX_of hst (by decide) (by decide +kernel) hT (ro_State_deliverTop kk) (by rw [Nat.zero_mul]; exact Nat.zero_le _)
def iv_State_moveTop : List (Instr × Nat) := [(.invokevirtual 97, 98321), (.invokevirtual 149, 131089), (.invokevirtual 106, 147473), (.invokevirtual 52, 163857), (.invokevirtual 61, 180241), (.invokevirtual 145, 294960), (.invokevirtual 158, 311312)]
theorem tk_State_moveTop : (List.range 64).all (fun pc => match T_State_moveTop pc with | none => true | some e => ck FT_ PT_ NT_ CT_ yX3_moveTop.cls cX3_moveTop (some .int) iv_State_moveTop pc e) = true := by decide +kernel
theorem Ct_State_moveTop (kk : Nat) (l : Launch) (hst : l.stackTraces = false) : CtX sdX l yX3_moveTop (.code yX3_moveTop cX3_moveTop 5 (some .int) :: lw_all) 9 0 (A_State_moveTop kk) := by
  have hT : TabOK sdX l yX3_moveTop.cls cX3_moveTop 0 9 (some .int) T_State_moveTop (call_State_moveTop kk) (fun _ => []) := by
    intro x hF hH hO hC hG hV hR hsd pc e he
    refine ck_sound FT_ok PT_ok NT_ok CT_ok (invs := iv_State_moveTop) ?_ ?_
    · exact (List.forall_mem_cons.mpr ⟨fun pc hd => ⟨cwX_V (C := RX0) (n := 1) hF hd (by rw [hH]; exact Ct_Cargo_topSlot kk l hst) hsd (by rw [hO]; exact wd_392) wd_393 wd_394 wd_88 wd_395 ⟨rfl, by decide +kernel, by decide +kernel, by decide +kernel⟩ (by decide) (by rw [hV]; decide) (sh_Cargo_topSlot kk), hd_nil⟩, (List.forall_mem_cons.mpr ⟨fun pc hd => ⟨cwX_V (C := RX0) (n := 1) hF hd (by rw [hH]; exact Ct_Cargo_numberIn kk l hst) hsd (by rw [hO]; exact wd_606) wd_607 wd_608 wd_88 wd_609 ⟨rfl, by decide +kernel, by decide +kernel, by decide +kernel⟩ (by decide) (by rw [hV]; decide) (sh_Cargo_numberIn kk), hd_nil⟩, (List.forall_mem_cons.mpr ⟨fun pc hd => ⟨cwX_V (C := RX0) (n := 1) hF hd (by rw [hH]; exact Ct_Cargo_weightIn kk l hst) hsd (by rw [hO]; exact wd_409) wd_410 wd_411 wd_88 wd_412 ⟨rfl, by decide +kernel, by decide +kernel, by decide +kernel⟩ (by decide) (by rw [hV]; decide) (sh_Cargo_weightIn kk), hd_nil⟩, (List.forall_mem_cons.mpr ⟨fun pc hd => ⟨cwX_V (C := RX0) (n := 1) hF hd (by rw [hH]; exact Ct_Cargo_destinationIn kk l hst) hsd (by rw [hO]; exact wd_404) wd_405 wd_406 wd_88 wd_407 ⟨rfl, by decide +kernel, by decide +kernel, by decide +kernel⟩ (by decide) (by rw [hV]; decide) (sh_Cargo_destinationIn kk), hd_nil⟩, (List.forall_mem_cons.mpr ⟨fun pc hd => ⟨cwX_V (C := RX0) (n := 1) hF hd (by rw [hH]; exact Ct_Cargo_dayIn kk l hst) hsd (by rw [hO]; exact wd_618) wd_619 wd_620 wd_88 wd_621 ⟨rfl, by decide +kernel, by decide +kernel, by decide +kernel⟩ (by decide) (by rw [hV]; decide) (sh_Cargo_dayIn kk), hd_nil⟩, (List.forall_mem_cons.mpr ⟨fun pc hd => ⟨cwX_V (C := RX0) (n := 5) hF hd (by rw [hH]; exact Ct_Cargo_put kk l hst) hsd (by rw [hO]; exact wd_598) wd_599 wd_600 wd_88 wd_601 ⟨rfl, by decide +kernel, by decide +kernel, by decide +kernel⟩ (by decide) (by rw [hV]; decide) (sh_Cargo_put kk), hd_nil⟩, (List.forall_mem_cons.mpr ⟨fun pc hd => ⟨cwX_V (C := RX0) (n := 1) hF hd (by rw [hH]; exact Ct_Cargo_removeTop kk l hst) hsd (by rw [hO]; exact wd_610) wd_611 wd_612 wd_88 wd_613 ⟨rfl, by decide +kernel, by decide +kernel, by decide +kernel⟩ (by decide) (by rw [hV]; decide) (sh_Cargo_removeTop kk), hd_nil⟩, (fun _ h => nomatch h)⟩)⟩)⟩)⟩)⟩)⟩)⟩)
    · rw [hO, hC, hR]; exact tk_use (fun pc h => by unfold T_State_moveTop; rw [Nat.ble_eq_true_of_le h]) tk_State_moveTop pc e he
  exact CtX_of hst (by decide) (by decide +kernel) hT (ro_State_moveTop kk) (by rw [Nat.zero_mul]; exact Nat.zero_le _)
def iv_Voyage_portIn : List (Instr × Nat) := [(.invokestatic 22, 14811153)]
theorem tk_Voyage_portIn : (List.range 27).all (fun pc => match T_Voyage_portIn pc with | none => true | some e => ck FT_ PT_ NT_ CT_ yX5_portIn.cls cX5_portIn (some .int) iv_Voyage_portIn pc e) = true := by decide +kernel
theorem Ct_Voyage_portIn (kk : Nat) (l : Launch) (hst : l.stackTraces = false) : CtX sdX l yX5_portIn (.code yX5_portIn cX5_portIn 2 (some .int) :: lw_all) 7 0 (A_Voyage_portIn kk) := by
  have hT : TabOK sdX l yX5_portIn.cls cX5_portIn 0 7 (some .int) T_Voyage_portIn (call_Voyage_portIn kk) (fun _ => []) := by
    intro x hF hH hO hC hG hV hR hsd pc e he
    refine ck_sound FT_ok PT_ok NT_ok CT_ok (invs := iv_Voyage_portIn) ?_ ?_
    · exact (List.forall_mem_cons.mpr ⟨fun pc hd => ⟨cwJ_fmod hF hd hsd (by rw [hO]; exact wd_630) (by rw [hV]; decide), hd_nil⟩, (fun _ h => nomatch h)⟩)
    · rw [hO, hC, hR]; exact tk_use (fun pc h => by unfold T_Voyage_portIn; rw [Nat.ble_eq_true_of_le h]) tk_Voyage_portIn pc e he
  exact CtX_of hst (by decide) (by decide +kernel) hT (ro_Voyage_portIn kk) (by rw [Nat.zero_mul]; exact Nat.zero_le _)
def iv_Voyage_advance : List (Instr × Nat) := [(.invokevirtual 28, 1097745)]
theorem tk_Voyage_advance : (List.range 20).all (fun pc => match T_Voyage_advance pc with | none => true | some e => ck FT_ PT_ NT_ CT_ yX5_advance.cls cX5_advance none iv_Voyage_advance pc e) = true := by decide +kernel
theorem Ct_Voyage_advance (kk : Nat) (l : Launch) (hst : l.stackTraces = false) : CtX sdX l yX5_advance (.code yX5_advance cX5_advance 2 none :: lw_all) 8 0 (A_Voyage_advance kk) := by
  have hT : TabOK sdX l yX5_advance.cls cX5_advance 0 8 none T_Voyage_advance (call_Voyage_advance kk) (fun _ => []) := by
    intro x hF hH hO hC hG hV hR hsd pc e he
    refine ck_sound FT_ok PT_ok NT_ok CT_ok (invs := iv_Voyage_advance) ?_ ?_
    · exact (List.forall_mem_cons.mpr ⟨fun pc hd => ⟨cwX_V (C := RX5) (n := 1) hF hd (by rw [hH]; exact Ct_Voyage_portIn kk l hst) hsd (by rw [hO]; exact wd_626) wd_627 wd_628 wd_89 wd_629 ⟨rfl, by decide +kernel, by decide +kernel, by decide +kernel⟩ (by decide) (by rw [hV]; decide) (sh_Voyage_portIn kk), hd_nil⟩, (fun _ h => nomatch h)⟩)
    · rw [hO, hC, hR]; exact tk_use (fun pc h => by unfold T_Voyage_advance; rw [Nat.ble_eq_true_of_le h]) tk_Voyage_advance pc e he
  exact CtX_of hst (by decide) (by decide +kernel) hT (ro_Voyage_advance kk) (by rw [Nat.zero_mul]; exact Nat.zero_le _)
def iv_Voyage_reverse : List (Instr × Nat) := []
theorem tk_Voyage_reverse : (List.range 17).all (fun pc => match T_Voyage_reverse pc with | none => true | some e => ck FT_ PT_ NT_ CT_ yX5_reverse.cls cX5_reverse none iv_Voyage_reverse pc e) = true := by decide +kernel
theorem Ct_Voyage_reverse (kk : Nat) (l : Launch) (hst : l.stackTraces = false) : CtX sdX l yX5_reverse (.code yX5_reverse cX5_reverse 1 none :: lw_all) 6 0 (A_Voyage_reverse kk) := by
  have hT : TabOK sdX l yX5_reverse.cls cX5_reverse 0 6 none T_Voyage_reverse (call_Voyage_reverse kk) (fun _ => []) := by
    intro x hF hH hO hC hG hV hR hsd pc e he
    refine ck_sound FT_ok PT_ok NT_ok CT_ok (invs := iv_Voyage_reverse) ?_ ?_
    · exact (fun _ h => nomatch h)
    · rw [hO, hC, hR]; exact tk_use (fun pc h => by unfold T_Voyage_reverse; rw [Nat.ble_eq_true_of_le h]) tk_Voyage_reverse pc e he
  exact CtX_of hst (by decide) (by decide +kernel) hT (ro_Voyage_reverse kk) (by rw [Nat.zero_mul]; exact Nat.zero_le _)
def iv_State_replaceLimit : List (Instr × Nat) := []
theorem tk_State_replaceLimit : (List.range 12).all (fun pc => match T_State_replaceLimit pc with | none => true | some e => ck FT_ PT_ NT_ CT_ yX3_replaceLimit.cls cX3_replaceLimit (some .int) iv_State_replaceLimit pc e) = true := by decide +kernel
theorem Ct_State_replaceLimit (kk : Nat) (l : Launch) (hst : l.stackTraces = false) : CtX sdX l yX3_replaceLimit (.code yX3_replaceLimit cX3_replaceLimit 3 (some .int) :: lw_all) 6 0 (A_State_replaceLimit kk) := by
  have hT : TabOK sdX l yX3_replaceLimit.cls cX3_replaceLimit 0 6 (some .int) T_State_replaceLimit (call_State_replaceLimit kk) (fun _ => []) := by
    intro x hF hH hO hC hG hV hR hsd pc e he
    refine ck_sound FT_ok PT_ok NT_ok CT_ok (invs := iv_State_replaceLimit) ?_ ?_
    · exact (fun _ h => nomatch h)
    · rw [hO, hC, hR]; exact tk_use (fun pc h => by unfold T_State_replaceLimit; rw [Nat.ble_eq_true_of_le h]) tk_State_replaceLimit pc e he
  exact CtX_of hst (by decide) (by decide +kernel) hT (ro_State_replaceLimit kk) (by rw [Nat.zero_mul]; exact Nat.zero_le _)
def iv_State_practise : List (Instr × Nat) := [(.invokevirtual 109, 262153), (.invokevirtual 113, 770065)]
theorem tk_State_practise : (List.range 54).all (fun pc => match T_State_practise pc with | none => true | some e => ck FT_ PT_ NT_ CT_ yX3_practise.cls cX3_practise (some .boolean) iv_State_practise pc e) = true := by decide +kernel
theorem Ct_State_practise (kk : Nat) (l : Launch) (hst : l.stackTraces = false) : CtX sdX l yX3_practise (.code yX3_practise cX3_practise 3 (some .boolean) :: lw_all) 8 0 (A_State_practise kk) := by
  have hT : TabOK sdX l yX3_practise.cls cX3_practise 0 8 (some .boolean) T_State_practise (call_State_practise kk) (fun _ => []) := by
    intro x hF hH hO hC hG hV hR hsd pc e he
    refine ck_sound FT_ok PT_ok NT_ok CT_ok (invs := iv_State_practise) ?_ ?_
    · exact (List.forall_mem_cons.mpr ⟨fun pc hd => ⟨cwX_V (C := RX0) (n := 0) hF hd (by rw [hH]; exact Ct_Cargo_momentOfPillows kk l hst) hsd (by rw [hO]; exact wd_372) wd_373 wd_374 wd_88 wd_375 ⟨rfl, by decide +kernel, by decide +kernel, by decide +kernel⟩ (by decide) (by rw [hV]; decide) (sh_Cargo_momentOfPillows kk), hd_nil⟩, (List.forall_mem_cons.mpr ⟨fun pc hd => ⟨cwX_V (C := RX3) (n := 1) hF hd (by rw [hH]; exact Ct_State_isWithinLimit kk l hst) hsd (by rw [hO]; exact wd_381) wd_382 wd_383 wd_87 wd_384 ⟨rfl, by decide +kernel, by decide +kernel, by decide +kernel⟩ (by decide) (by rw [hV]; decide) (sh_State_isWithinLimit kk), hd_nil⟩, (fun _ h => nomatch h)⟩)⟩)
    · rw [hO, hC, hR]; exact tk_use (fun pc h => by unfold T_State_practise; rw [Nat.ble_eq_true_of_le h]) tk_State_practise pc e he
  exact CtX_of hst (by decide) (by decide +kernel) hT (ro_State_practise kk) (by rw [Nat.zero_mul]; exact Nat.zero_le _)
def iv_State_perform : List (Instr × Nat) := [(.invokevirtual 116, 933921), (.invokevirtual 119, 950289), (.invokevirtual 122, 966681), (.invokevirtual 125, 1114128), (.invokevirtual 129, 1130504), (.invokevirtual 136, 983057), (.invokevirtual 139, 999441)]
theorem tk_State_perform : (List.range 127).all (fun pc => match T_State_perform pc with | none => true | some e => ck FT_ PT_ NT_ CT_ yX3_perform.cls cX3_perform (some .int) iv_State_perform pc e) = true := by decide +kernel
theorem Ct_State_perform (kk : Nat) (l : Launch) (hst : l.stackTraces = false) : CtX sdX l yX3_perform (.code yX3_perform cX3_perform 5 (some .int) :: lw_all) 10 0 (A_State_perform kk) := by
  have hT : TabOK sdX l yX3_perform.cls cX3_perform 0 10 (some .int) T_State_perform (call_State_perform kk) (fun _ => []) := by
    intro x hF hH hO hC hG hV hR hsd pc e he
    refine ck_sound FT_ok PT_ok NT_ok CT_ok (invs := iv_State_perform) ?_ ?_
    · exact (List.forall_mem_cons.mpr ⟨fun pc hd => ⟨cwX_V (C := RX3) (n := 3) hF hd (by rw [hH]; exact Ct_State_addPillow kk l hst) hsd (by rw [hO]; exact wd_594) wd_596 wd_5 wd_87 wd_597 ⟨rfl, by decide +kernel, by decide +kernel, by decide +kernel⟩ (by decide) (by rw [hV]; decide) (sh_State_addPillow kk), hd_nil⟩, (List.forall_mem_cons.mpr ⟨fun pc hd => ⟨cwX_V (C := RX3) (n := 1) hF hd (by rw [hH]; exact Ct_State_deliverTop kk l hst) hsd (by rw [hO]; exact wd_602) wd_604 wd_6 wd_87 wd_605 ⟨rfl, by decide +kernel, by decide +kernel, by decide +kernel⟩ (by decide) (by rw [hV]; decide) (sh_State_deliverTop kk), hd_nil⟩, (List.forall_mem_cons.mpr ⟨fun pc hd => ⟨cwX_V (C := RX3) (n := 2) hF hd (by rw [hH]; exact Ct_State_moveTop kk l hst) hsd (by rw [hO]; exact wd_614) wd_616 wd_7 wd_87 wd_617 ⟨rfl, by decide +kernel, by decide +kernel, by decide +kernel⟩ (by decide) (by rw [hV]; decide) (sh_State_moveTop kk), hd_nil⟩, (List.forall_mem_cons.mpr ⟨fun pc hd => ⟨cwX_V (C := RX5) (n := 1) hF hd (by rw [hH]; exact Ct_Voyage_advance kk l hst) hsd (by rw [hO]; exact wd_622) wd_623 wd_624 wd_89 wd_625 ⟨rfl, by decide +kernel, by decide +kernel, by decide +kernel⟩ (by decide) (by rw [hV]; decide) (sh_Voyage_advance kk), hd_nil⟩, (List.forall_mem_cons.mpr ⟨fun pc hd => ⟨cwX_V (C := RX5) (n := 0) hF hd (by rw [hH]; exact Ct_Voyage_reverse kk l hst) hsd (by rw [hO]; exact wd_631) wd_632 wd_633 wd_89 wd_634 ⟨rfl, by decide +kernel, by decide +kernel, by decide +kernel⟩ (by decide) (by rw [hV]; decide) (sh_Voyage_reverse kk), hd_nil⟩, (List.forall_mem_cons.mpr ⟨fun pc hd => ⟨cwX_V (C := RX3) (n := 1) hF hd (by rw [hH]; exact Ct_State_replaceLimit kk l hst) hsd (by rw [hO]; exact wd_635) wd_637 wd_8 wd_87 wd_638 ⟨rfl, by decide +kernel, by decide +kernel, by decide +kernel⟩ (by decide) (by rw [hV]; decide) (sh_State_replaceLimit kk), hd_nil⟩, (List.forall_mem_cons.mpr ⟨fun pc hd => ⟨cwX_V (C := RX3) (n := 1) hF hd (by rw [hH]; exact Ct_State_practise kk l hst) hsd (by rw [hO]; exact wd_639) wd_641 wd_9 wd_87 wd_642 ⟨rfl, by decide +kernel, by decide +kernel, by decide +kernel⟩ (by decide) (by rw [hV]; decide) (sh_State_practise kk), hd_nil⟩, (fun _ h => nomatch h)⟩)⟩)⟩)⟩)⟩)⟩)⟩)
    · rw [hO, hC, hR]; exact tk_use (fun pc h => by unfold T_State_perform; rw [Nat.ble_eq_true_of_le h]) tk_State_perform pc e he
  exact CtX_of hst (by decide) (by decide +kernel) hT (ro_State_perform kk) (by rw [Nat.zero_mul]; exact Nat.zero_le _)
def iv_PB_throwFault : List (Instr × Nat) := []
theorem tk_PB_throwFault : (List.range 77).all (fun pc => match T_PB_throwFault pc with | none => true | some e => ck FT_ PT_ NT_ CT_ yX6_throwFault.cls cX6_throwFault none iv_PB_throwFault pc e) = true := by decide +kernel
theorem Ct_PB_throwFault (kk : Nat) (l : Launch) (hst : l.stackTraces = false) : CtX sdX l yX6_throwFault (.code yX6_throwFault cX6_throwFault 1 none :: lw_all) 6 1 (A_PB_throwFault kk) := by
  have hT : TabOK sdX l yX6_throwFault.cls cX6_throwFault 1 6 none T_PB_throwFault (call_PB_throwFault kk) (fun _ => []) := by
    intro x hF hH hO hC hG hV hR hsd pc e he
    refine ck_sound FT_ok PT_ok NT_ok CT_ok (invs := iv_PB_throwFault) ?_ ?_
    · exact (fun _ h => nomatch h)
    · rw [hO, hC, hR]; exact tk_use (fun pc h => by unfold T_PB_throwFault; rw [Nat.ble_eq_true_of_le h]) tk_PB_throwFault pc e he
  exact CtX_of (F := 0) hst (by decide) (by decide +kernel) hT (ro0 (ro_PB_throwFault kk) (fun _ _ => rfl)) (by decide)
def iv_PB_change : List (Instr × Nat) := [(.invokevirtual 55, 819241), (.invokestatic 58, 1294408), (.invokevirtual 62, 344080), (.invokevirtual 66, 360456), (.invokevirtual 69, 917545)]
theorem tk_PB_change : (List.range 46).all (fun pc => match T_PB_change pc with | none => true | some e => ck FT_ PT_ NT_ CT_ yX6_change.cls cX6_change (some .int) iv_PB_change pc e) = true := by decide +kernel
theorem Ct_PB_change (kk : Nat) (l : Launch) (hst : l.stackTraces = false) : CtX sdX l yX6_change (.code yX6_change cX6_change 5 (some .int) :: lw_all) 11 1 (A_PB_change kk) := by
  have hT : TabOK sdX l yX6_change.cls cX6_change 1 11 (some .int) T_PB_change (call_PB_change kk) (fun _ => []) := by
    intro x hF hH hO hC hG hV hR hsd pc e he
    refine ck_sound FT_ok PT_ok NT_ok CT_ok (invs := iv_PB_change) ?_ ?_
    · exact (List.forall_mem_cons.mpr ⟨fun pc hd => ⟨cwX_V (C := RX3) (n := 4) hF hd (by rw [hH]; exact Ct_State_faultOf kk l hst) hsd (by rw [hO]; exact wd_343) wd_344 wd_345 wd_87 wd_346 ⟨rfl, by decide +kernel, by decide +kernel, by decide +kernel⟩ (by decide) (by rw [hV]; decide) (sh_State_faultOf kk), hd_nil⟩, (List.forall_mem_cons.mpr ⟨fun pc hd => ⟨cwX_S (n := 1) hF hd (by rw [hH]; exact Ct_PB_throwFault kk l hst) hsd (by rw [hO]; exact wd_421) wd_422 wd_86 wd_423 ⟨by decide +kernel, by decide +kernel, by decide +kernel⟩ (by decide) (by rw [hV]; decide) (sh_PB_throwFault kk), hd_nil⟩, (List.forall_mem_cons.mpr ⟨fun pc hd => ⟨cwX_V (C := RX1) (n := 1) hF hd (by rw [hH]; exact Ct_History_draft kk l hst) hsd (by rw [hO]; exact wd_553) wd_554 wd_555 wd_91 wd_556 ⟨rfl, by decide +kernel, by decide +kernel, by decide +kernel⟩ (by decide) (by rw [hV]; decide) (sh_History_draft kk), hd_nil⟩, (List.forall_mem_cons.mpr ⟨fun pc hd => ⟨cwX_V (C := RX1) (n := 0) hF hd (by rw [hH]; exact Ct_History_keepDraft kk l hst) hsd (by rw [hO]; exact wd_580) wd_581 wd_582 wd_91 wd_583 ⟨rfl, by decide +kernel, by decide +kernel, by decide +kernel⟩ (by decide) (by rw [hV]; decide) (sh_History_keepDraft kk), hd_nil⟩, (List.forall_mem_cons.mpr ⟨fun pc hd => ⟨cwX_V (C := RX3) (n := 4) hF hd (by rw [hH]; exact Ct_State_perform kk l hst) hsd (by rw [hO]; exact wd_590) wd_591 wd_592 wd_87 wd_593 ⟨rfl, by decide +kernel, by decide +kernel, by decide +kernel⟩ (by decide) (by rw [hV]; decide) (sh_State_perform kk), hd_nil⟩, (fun _ h => nomatch h)⟩)⟩)⟩)⟩)⟩)
    · rw [hO, hC, hR]; exact tk_use (fun pc h => by unfold T_PB_change; rw [Nat.ble_eq_true_of_le h]) tk_PB_change pc e he
  exact CtX_of (F := 0) hst (by decide) (by decide +kernel) hT (ro0 (ro_PB_change kk) (fun _ _ => rfl)) (by decide)
def iv_PB_load : List (Instr × Nat) := [(.invokevirtual 51, 1278057)]
theorem tk_PB_load : (List.range 9).all (fun pc => match T_PB_load pc with | none => true | some e => ck FT_ PT_ NT_ CT_ yX6_load.cls cX6_load (some .int) iv_PB_load pc e) = true := by decide +kernel
theorem Ct_PB_load (kk : Nat) (l : Launch) (hst : l.stackTraces = false) : CtX sdX l yX6_load (.code yX6_load cX6_load 4 (some .int) :: lw_all) 12 1 (A_PB_load kk) := by
  have hT : TabOK sdX l yX6_load.cls cX6_load 1 12 (some .int) T_PB_load (call_PB_load kk) (fun _ => []) := by
    intro x hF hH hO hC hG hV hR hsd pc e he
    refine ck_sound FT_ok PT_ok NT_ok CT_ok (invs := iv_PB_load) ?_ ?_
    · exact (List.forall_mem_cons.mpr ⟨fun pc hd => ⟨cwX_V (C := RX6) (n := 4) hF hd (by rw [hH]; exact Ct_PB_change kk l hst) hsd (by rw [hO]; exact wd_339) wd_341 wd_0 wd_86 wd_342 ⟨rfl, by decide +kernel, by decide +kernel, by decide +kernel⟩ (by decide) (by rw [hV]; decide) (sh_PB_change kk), hd_nil⟩, (fun _ h => nomatch h)⟩)
    · rw [hO, hC, hR]; exact tk_use (fun pc h => by unfold T_PB_load; rw [Nat.ble_eq_true_of_le h]) tk_PB_load pc e he
  exact CtX_of (F := 0) hst (by decide) (by decide +kernel) hT (ro0 (ro_PB_load kk) (fun _ _ => rfl)) (by decide)
def iv_PB_unload : List (Instr × Nat) := [(.invokevirtual 51, 1278057)]
theorem tk_PB_unload : (List.range 9).all (fun pc => match T_PB_unload pc with | none => true | some e => ck FT_ PT_ NT_ CT_ yX6_unload.cls cX6_unload (some .int) iv_PB_unload pc e) = true := by decide +kernel
theorem Ct_PB_unload (kk : Nat) (l : Launch) (hst : l.stackTraces = false) : CtX sdX l yX6_unload (.code yX6_unload cX6_unload 2 (some .int) :: lw_all) 12 1 (A_PB_unload kk) := by
  have hT : TabOK sdX l yX6_unload.cls cX6_unload 1 12 (some .int) T_PB_unload (call_PB_unload kk) (fun _ => []) := by
    intro x hF hH hO hC hG hV hR hsd pc e he
    refine ck_sound FT_ok PT_ok NT_ok CT_ok (invs := iv_PB_unload) ?_ ?_
    · exact (List.forall_mem_cons.mpr ⟨fun pc hd => ⟨cwX_V (C := RX6) (n := 4) hF hd (by rw [hH]; exact Ct_PB_change kk l hst) hsd (by rw [hO]; exact wd_339) wd_341 wd_0 wd_86 wd_342 ⟨rfl, by decide +kernel, by decide +kernel, by decide +kernel⟩ (by decide) (by rw [hV]; decide) (sh_PB_change kk), hd_nil⟩, (fun _ h => nomatch h)⟩)
    · rw [hO, hC, hR]; exact tk_use (fun pc h => by unfold T_PB_unload; rw [Nat.ble_eq_true_of_le h]) tk_PB_unload pc e he
  exact CtX_of (F := 0) hst (by decide) (by decide +kernel) hT (ro0 (ro_PB_unload kk) (fun _ _ => rfl)) (by decide)
def iv_PB_shift : List (Instr × Nat) := [(.invokevirtual 51, 1278057)]
theorem tk_PB_shift : (List.range 9).all (fun pc => match T_PB_shift pc with | none => true | some e => ck FT_ PT_ NT_ CT_ yX6_shift.cls cX6_shift (some .int) iv_PB_shift pc e) = true := by decide +kernel
theorem Ct_PB_shift (kk : Nat) (l : Launch) (hst : l.stackTraces = false) : CtX sdX l yX6_shift (.code yX6_shift cX6_shift 3 (some .int) :: lw_all) 12 1 (A_PB_shift kk) := by
  have hT : TabOK sdX l yX6_shift.cls cX6_shift 1 12 (some .int) T_PB_shift (call_PB_shift kk) (fun _ => []) := by
    intro x hF hH hO hC hG hV hR hsd pc e he
    refine ck_sound FT_ok PT_ok NT_ok CT_ok (invs := iv_PB_shift) ?_ ?_
    · exact (List.forall_mem_cons.mpr ⟨fun pc hd => ⟨cwX_V (C := RX6) (n := 4) hF hd (by rw [hH]; exact Ct_PB_change kk l hst) hsd (by rw [hO]; exact wd_339) wd_341 wd_0 wd_86 wd_342 ⟨rfl, by decide +kernel, by decide +kernel, by decide +kernel⟩ (by decide) (by rw [hV]; decide) (sh_PB_change kk), hd_nil⟩, (fun _ h => nomatch h)⟩)
    · rw [hO, hC, hR]; exact tk_use (fun pc h => by unfold T_PB_shift; rw [Nat.ble_eq_true_of_le h]) tk_PB_shift pc e he
  exact CtX_of (F := 0) hst (by decide) (by decide +kernel) hT (ro0 (ro_PB_shift kk) (fun _ _ => rfl)) (by decide)
def iv_PB_sail : List (Instr × Nat) := [(.invokevirtual 51, 1278057)]
theorem tk_PB_sail : (List.range 9).all (fun pc => match T_PB_sail pc with | none => true | some e => ck FT_ PT_ NT_ CT_ yX6_sail.cls cX6_sail (some .int) iv_PB_sail pc e) = true := by decide +kernel
theorem Ct_PB_sail (kk : Nat) (l : Launch) (hst : l.stackTraces = false) : CtX sdX l yX6_sail (.code yX6_sail cX6_sail 2 (some .int) :: lw_all) 12 1 (A_PB_sail kk) := by
  have hT : TabOK sdX l yX6_sail.cls cX6_sail 1 12 (some .int) T_PB_sail (call_PB_sail kk) (fun _ => []) := by
    intro x hF hH hO hC hG hV hR hsd pc e he
    refine ck_sound FT_ok PT_ok NT_ok CT_ok (invs := iv_PB_sail) ?_ ?_
    · exact (List.forall_mem_cons.mpr ⟨fun pc hd => ⟨cwX_V (C := RX6) (n := 4) hF hd (by rw [hH]; exact Ct_PB_change kk l hst) hsd (by rw [hO]; exact wd_339) wd_341 wd_0 wd_86 wd_342 ⟨rfl, by decide +kernel, by decide +kernel, by decide +kernel⟩ (by decide) (by rw [hV]; decide) (sh_PB_change kk), hd_nil⟩, (fun _ h => nomatch h)⟩)
    · rw [hO, hC, hR]; exact tk_use (fun pc h => by unfold T_PB_sail; rw [Nat.ble_eq_true_of_le h]) tk_PB_sail pc e he
  exact CtX_of (F := 0) hst (by decide) (by decide +kernel) hT (ro0 (ro_PB_sail kk) (fun _ _ => rfl)) (by decide)
def iv_PB_turn : List (Instr × Nat) := [(.invokevirtual 51, 1278057)]
theorem tk_PB_turn : (List.range 18).all (fun pc => match T_PB_turn pc with | none => true | some e => ck FT_ PT_ NT_ CT_ yX6_turn.cls cX6_turn (some .boolean) iv_PB_turn pc e) = true := by decide +kernel
theorem Ct_PB_turn (kk : Nat) (l : Launch) (hst : l.stackTraces = false) : CtX sdX l yX6_turn (.code yX6_turn cX6_turn 1 (some .boolean) :: lw_all) 12 1 (A_PB_turn kk) := by
  have hT : TabOK sdX l yX6_turn.cls cX6_turn 1 12 (some .boolean) T_PB_turn (call_PB_turn kk) (fun _ => []) := by
    intro x hF hH hO hC hG hV hR hsd pc e he
    refine ck_sound FT_ok PT_ok NT_ok CT_ok (invs := iv_PB_turn) ?_ ?_
    · exact (List.forall_mem_cons.mpr ⟨fun pc hd => ⟨cwX_V (C := RX6) (n := 4) hF hd (by rw [hH]; exact Ct_PB_change kk l hst) hsd (by rw [hO]; exact wd_339) wd_341 wd_0 wd_86 wd_342 ⟨rfl, by decide +kernel, by decide +kernel, by decide +kernel⟩ (by decide) (by rw [hV]; decide) (sh_PB_change kk), hd_nil⟩, (fun _ h => nomatch h)⟩)
    · rw [hO, hC, hR]; exact tk_use (fun pc h => by unfold T_PB_turn; rw [Nat.ble_eq_true_of_le h]) tk_PB_turn pc e he
  exact CtX_of (F := 0) hst (by decide) (by decide +kernel) hT (ro0 (ro_PB_turn kk) (fun _ _ => rfl)) (by decide)
def iv_PB_setLimit : List (Instr × Nat) := [(.invokevirtual 51, 1278057)]
theorem tk_PB_setLimit : (List.range 9).all (fun pc => match T_PB_setLimit pc with | none => true | some e => ck FT_ PT_ NT_ CT_ yX6_setLimit.cls cX6_setLimit (some .int) iv_PB_setLimit pc e) = true := by decide +kernel
theorem Ct_PB_setLimit (kk : Nat) (l : Launch) (hst : l.stackTraces = false) : CtX sdX l yX6_setLimit (.code yX6_setLimit cX6_setLimit 2 (some .int) :: lw_all) 12 1 (A_PB_setLimit kk) := by
  have hT : TabOK sdX l yX6_setLimit.cls cX6_setLimit 1 12 (some .int) T_PB_setLimit (call_PB_setLimit kk) (fun _ => []) := by
    intro x hF hH hO hC hG hV hR hsd pc e he
    refine ck_sound FT_ok PT_ok NT_ok CT_ok (invs := iv_PB_setLimit) ?_ ?_
    · exact (List.forall_mem_cons.mpr ⟨fun pc hd => ⟨cwX_V (C := RX6) (n := 4) hF hd (by rw [hH]; exact Ct_PB_change kk l hst) hsd (by rw [hO]; exact wd_339) wd_341 wd_0 wd_86 wd_342 ⟨rfl, by decide +kernel, by decide +kernel, by decide +kernel⟩ (by decide) (by rw [hV]; decide) (sh_PB_change kk), hd_nil⟩, (fun _ h => nomatch h)⟩)
    · rw [hO, hC, hR]; exact tk_use (fun pc h => by unfold T_PB_setLimit; rw [Nat.ble_eq_true_of_le h]) tk_PB_setLimit pc e he
  exact CtX_of (F := 0) hst (by decide) (by decide +kernel) hT (ro0 (ro_PB_setLimit kk) (fun _ _ => rfl)) (by decide)
def iv_PB_drill : List (Instr × Nat) := [(.invokevirtual 51, 1278057)]
theorem tk_PB_drill : (List.range 19).all (fun pc => match T_PB_drill pc with | none => true | some e => ck FT_ PT_ NT_ CT_ yX6_drill.cls cX6_drill (some .boolean) iv_PB_drill pc e) = true := by decide +kernel
theorem Ct_PB_drill (kk : Nat) (l : Launch) (hst : l.stackTraces = false) : CtX sdX l yX6_drill (.code yX6_drill cX6_drill 2 (some .boolean) :: lw_all) 12 1 (A_PB_drill kk) := by
  have hT : TabOK sdX l yX6_drill.cls cX6_drill 1 12 (some .boolean) T_PB_drill (call_PB_drill kk) (fun _ => []) := by
    intro x hF hH hO hC hG hV hR hsd pc e he
    refine ck_sound FT_ok PT_ok NT_ok CT_ok (invs := iv_PB_drill) ?_ ?_
    · exact (List.forall_mem_cons.mpr ⟨fun pc hd => ⟨cwX_V (C := RX6) (n := 4) hF hd (by rw [hH]; exact Ct_PB_change kk l hst) hsd (by rw [hO]; exact wd_339) wd_341 wd_0 wd_86 wd_342 ⟨rfl, by decide +kernel, by decide +kernel, by decide +kernel⟩ (by decide) (by rw [hV]; decide) (sh_PB_change kk), hd_nil⟩, (fun _ h => nomatch h)⟩)
    · rw [hO, hC, hR]; exact tk_use (fun pc h => by unfold T_PB_drill; rw [Nat.ble_eq_true_of_le h]) tk_PB_drill pc e he
  exact CtX_of (F := 0) hst (by decide) (by decide +kernel) hT (ro0 (ro_PB_drill kk) (fun _ _ => rfl)) (by decide)
def iv_PB_pillowCount : List (Instr × Nat) := [(.invokevirtual 91, 196617)]
theorem tk_PB_pillowCount : (List.range 11).all (fun pc => match T_PB_pillowCount pc with | none => true | some e => ck FT_ PT_ NT_ CT_ yX6_pillowCount.cls cX6_pillowCount (some .int) iv_PB_pillowCount pc e) = true := by decide +kernel
theorem Ct_PB_pillowCount (kk : Nat) (l : Launch) (hst : l.stackTraces = false) : CtX sdX l yX6_pillowCount (.code yX6_pillowCount cX6_pillowCount 1 (some .int) :: lw_all) 7 0 (A_PB_pillowCount kk) := by
  have hT : TabOK sdX l yX6_pillowCount.cls cX6_pillowCount 0 7 (some .int) T_PB_pillowCount (call_PB_pillowCount kk) (fun _ => []) := by
    intro x hF hH hO hC hG hV hR hsd pc e he
    refine ck_sound FT_ok PT_ok NT_ok CT_ok (invs := iv_PB_pillowCount) ?_ ?_
    · exact (List.forall_mem_cons.mpr ⟨fun pc hd => ⟨cwX_V (C := RX0) (n := 0) hF hd (by rw [hH]; exact Ct_Cargo_countPillows kk l hst) hsd (by rw [hO]; exact wd_647) wd_648 wd_649 wd_88 wd_650 ⟨rfl, by decide +kernel, by decide +kernel, by decide +kernel⟩ (by decide) (by rw [hV]; decide) (sh_Cargo_countPillows kk), hd_nil⟩, (fun _ h => nomatch h)⟩)
    · rw [hO, hC, hR]; exact tk_use (fun pc h => by unfold T_PB_pillowCount; rw [Nat.ble_eq_true_of_le h]) tk_PB_pillowCount pc e he
  exact CtX_of hst (by decide) (by decide +kernel) hT (ro_PB_pillowCount kk) (by rw [Nat.zero_mul]; exact Nat.zero_le _)
def iv_PB_requireBay : List (Instr × Nat) := [(.invokestatic 341, 2359305)]
theorem tk_PB_requireBay : (List.range 16).all (fun pc => match T_PB_requireBay pc with | none => true | some e => ck FT_ PT_ NT_ CT_ yX6_requireBay.cls cX6_requireBay none iv_PB_requireBay pc e) = true := by decide +kernel
theorem Ct_PB_requireBay (kk : Nat) (l : Launch) (hst : l.stackTraces = false) : CtX sdX l yX6_requireBay (.code yX6_requireBay cX6_requireBay 1 none :: lw_all) 7 1 (A_PB_requireBay kk) := by
  have hT : TabOK sdX l yX6_requireBay.cls cX6_requireBay 1 7 none T_PB_requireBay (call_PB_requireBay kk) (fun _ => []) := by
    intro x hF hH hO hC hG hV hR hsd pc e he
    refine ck_sound FT_ok PT_ok NT_ok CT_ok (invs := iv_PB_requireBay) ?_ ?_
    · exact (List.forall_mem_cons.mpr ⟨fun pc hd => ⟨cwN_S (n := 1) hF hd (by rw [hH]; exact Ct_PB_isBay kk l hst) hsd (by rw [hO]; exact wd_1158) wd_352 wd_86 wd_353 ⟨by decide +kernel, by decide +kernel, by decide +kernel⟩ (by decide) (by rw [hV]; decide) (sh_PB_isBay kk), hd_nil⟩, (fun _ h => nomatch h)⟩)
    · rw [hO, hC, hR]; exact tk_use (fun pc h => by unfold T_PB_requireBay; rw [Nat.ble_eq_true_of_le h]) tk_PB_requireBay pc e he
  exact CtX_of (F := 0) hst (by decide) (by decide +kernel) hT (ro0 (ro_PB_requireBay kk) (fun _ _ => rfl)) (by decide)
def iv_PB_stackHeight : List (Instr × Nat) := [(.invokestatic 97, 2441288), (.invokevirtual 100, 49169)]
theorem tk_PB_stackHeight : (List.range 16).all (fun pc => match T_PB_stackHeight pc with | none => true | some e => ck FT_ PT_ NT_ CT_ yX6_stackHeight.cls cX6_stackHeight (some .int) iv_PB_stackHeight pc e) = true := by decide +kernel
theorem Ct_PB_stackHeight (kk : Nat) (l : Launch) (hst : l.stackTraces = false) : CtX sdX l yX6_stackHeight (.code yX6_stackHeight cX6_stackHeight 2 (some .int) :: lw_all) 8 1 (A_PB_stackHeight kk) := by
  have hT : TabOK sdX l yX6_stackHeight.cls cX6_stackHeight 1 8 (some .int) T_PB_stackHeight (call_PB_stackHeight kk) (fun _ => []) := by
    intro x hF hH hO hC hG hV hR hsd pc e he
    refine ck_sound FT_ok PT_ok NT_ok CT_ok (invs := iv_PB_stackHeight) ?_ ?_
    · exact (List.forall_mem_cons.mpr ⟨fun pc hd => ⟨cwX_S (n := 1) hF hd (by rw [hH]; exact Ct_PB_requireBay kk l hst) hsd (by rw [hO]; exact wd_1155) wd_1156 wd_86 wd_1157 ⟨by decide +kernel, by decide +kernel, by decide +kernel⟩ (by decide) (by rw [hV]; decide) (sh_PB_requireBay kk), hd_nil⟩, (List.forall_mem_cons.mpr ⟨fun pc hd => ⟨cwX_V (C := RX0) (n := 1) hF hd (by rw [hH]; exact Ct_Cargo_heightOf kk l hst) hsd (by rw [hO]; exact wd_1159) wd_361 wd_362 wd_88 wd_363 ⟨rfl, by decide +kernel, by decide +kernel, by decide +kernel⟩ (by decide) (by rw [hV]; decide) (sh_Cargo_heightOf kk), hd_nil⟩, (fun _ h => nomatch h)⟩)⟩)
    · rw [hO, hC, hR]; exact tk_use (fun pc h => by unfold T_PB_stackHeight; rw [Nat.ble_eq_true_of_le h]) tk_PB_stackHeight pc e he
  exact CtX_of (F := 0) hst (by decide) (by decide +kernel) hT (ro0 (ro_PB_stackHeight kk) (fun _ _ => rfl)) (by decide)
def iv_PB_requireSlot : List (Instr × Nat) := [(.invokestatic 129, 2375689)]
theorem tk_PB_requireSlot : (List.range 16).all (fun pc => match T_PB_requireSlot pc with | none => true | some e => ck FT_ PT_ NT_ CT_ yX6_requireSlot.cls cX6_requireSlot none iv_PB_requireSlot pc e) = true := by decide +kernel
theorem Ct_PB_requireSlot (kk : Nat) (l : Launch) (hst : l.stackTraces = false) : CtX sdX l yX6_requireSlot (.code yX6_requireSlot cX6_requireSlot 1 none :: lw_all) 7 1 (A_PB_requireSlot kk) := by
  have hT : TabOK sdX l yX6_requireSlot.cls cX6_requireSlot 1 7 none T_PB_requireSlot (call_PB_requireSlot kk) (fun _ => []) := by
    intro x hF hH hO hC hG hV hR hsd pc e he
    refine ck_sound FT_ok PT_ok NT_ok CT_ok (invs := iv_PB_requireSlot) ?_ ?_
    · exact (List.forall_mem_cons.mpr ⟨fun pc hd => ⟨cwN_S (n := 1) hF hd (by rw [hH]; exact Ct_PB_isSlot kk l hst) hsd (by rw [hO]; exact wd_715) wd_402 wd_86 wd_403 ⟨by decide +kernel, by decide +kernel, by decide +kernel⟩ (by decide) (by rw [hV]; decide) (sh_PB_isSlot kk), hd_nil⟩, (fun _ h => nomatch h)⟩)
    · rw [hO, hC, hR]; exact tk_use (fun pc h => by unfold T_PB_requireSlot; rw [Nat.ble_eq_true_of_le h]) tk_PB_requireSlot pc e he
  exact CtX_of (F := 0) hst (by decide) (by decide +kernel) hT (ro0 (ro_PB_requireSlot kk) (fun _ _ => rfl)) (by decide)
def iv_PB_pillowAt : List (Instr × Nat) := [(.invokestatic 97, 2441288), (.invokevirtual 104, 81945), (.invokestatic 108, 2474056), (.invokevirtual 111, 131089)]
theorem tk_PB_pillowAt : (List.range 33).all (fun pc => match T_PB_pillowAt pc with | none => true | some e => ck FT_ PT_ NT_ CT_ yX6_pillowAt.cls cX6_pillowAt (some .int) iv_PB_pillowAt pc e) = true := by decide +kernel
theorem Ct_PB_pillowAt (kk : Nat) (l : Launch) (hst : l.stackTraces = false) : CtX sdX l yX6_pillowAt (.code yX6_pillowAt cX6_pillowAt 4 (some .int) :: lw_all) 8 2 (A_PB_pillowAt kk) := by
  have hT : TabOK sdX l yX6_pillowAt.cls cX6_pillowAt 2 8 (some .int) T_PB_pillowAt (call_PB_pillowAt kk) (fun _ => []) := by
    intro x hF hH hO hC hG hV hR hsd pc e he
    refine ck_sound FT_ok PT_ok NT_ok CT_ok (invs := iv_PB_pillowAt) ?_ ?_
    · exact (List.forall_mem_cons.mpr ⟨fun pc hd => ⟨cwX_S (n := 1) hF hd (by rw [hH]; exact Ct_PB_requireBay kk l hst) hsd (by rw [hO]; exact wd_1155) wd_1156 wd_86 wd_1157 ⟨by decide +kernel, by decide +kernel, by decide +kernel⟩ (by decide) (by rw [hV]; decide) (sh_PB_requireBay kk), hd_nil⟩, (List.forall_mem_cons.mpr ⟨fun pc hd => ⟨cwX_V (C := RX0) (n := 2) hF hd (by rw [hH]; exact Ct_Cargo_slotAt kk l hst) hsd (by rw [hO]; exact wd_714) wd_398 wd_399 wd_88 wd_400 ⟨rfl, by decide +kernel, by decide +kernel, by decide +kernel⟩ (by decide) (by rw [hV]; decide) (sh_Cargo_slotAt kk), hd_nil⟩, (List.forall_mem_cons.mpr ⟨fun pc hd => ⟨cwX_S (n := 1) hF hd (by rw [hH]; exact Ct_PB_requireSlot kk l hst) hsd (by rw [hO]; exact wd_1167) wd_1168 wd_86 wd_1169 ⟨by decide +kernel, by decide +kernel, by decide +kernel⟩ (by decide) (by rw [hV]; decide) (sh_PB_requireSlot kk), hd_nil⟩, (List.forall_mem_cons.mpr ⟨fun pc hd => ⟨cwX_V (C := RX0) (n := 1) hF hd (by rw [hH]; exact Ct_Cargo_numberIn kk l hst) hsd (by rw [hO]; exact wd_1170) wd_607 wd_608 wd_88 wd_609 ⟨rfl, by decide +kernel, by decide +kernel, by decide +kernel⟩ (by decide) (by rw [hV]; decide) (sh_Cargo_numberIn kk), hd_nil⟩, (fun _ h => nomatch h)⟩)⟩)⟩)⟩)
    · rw [hO, hC, hR]; exact tk_use (fun pc h => by unfold T_PB_pillowAt; rw [Nat.ble_eq_true_of_le h]) tk_PB_pillowAt pc e he
  exact CtX_of (F := 0) hst (by decide) (by decide +kernel) hT (ro0 (ro_PB_pillowAt kk) (fun _ _ => rfl)) (by decide)
def iv_PB_requirePillow : List (Instr × Nat) := [(.invokevirtual 344, 114705), (.invokestatic 108, 2474056)]
theorem tk_PB_requirePillow : (List.range 18).all (fun pc => match T_PB_requirePillow pc with | none => true | some e => ck FT_ PT_ NT_ CT_ yX6_requirePillow.cls cX6_requirePillow (some .int) iv_PB_requirePillow pc e) = true := by decide +kernel
theorem Ct_PB_requirePillow (kk : Nat) (l : Launch) (hst : l.stackTraces = false) : CtX sdX l yX6_requirePillow (.code yX6_requirePillow cX6_requirePillow 3 (some .int) :: lw_all) 8 1 (A_PB_requirePillow kk) := by
  have hT : TabOK sdX l yX6_requirePillow.cls cX6_requirePillow 1 8 (some .int) T_PB_requirePillow (call_PB_requirePillow kk) (fun _ => []) := by
    intro x hF hH hO hC hG hV hR hsd pc e he
    refine ck_sound FT_ok PT_ok NT_ok CT_ok (invs := iv_PB_requirePillow) ?_ ?_
    · exact (List.forall_mem_cons.mpr ⟨fun pc hd => ⟨cwX_V (C := RX0) (n := 1) hF hd (by rw [hH]; exact Ct_Cargo_slotOf kk l hst) hsd (by rw [hO]; exact wd_1182) wd_1183 wd_1184 wd_88 wd_1185 ⟨rfl, by decide +kernel, by decide +kernel, by decide +kernel⟩ (by decide) (by rw [hV]; decide) (sh_Cargo_slotOf kk), hd_nil⟩, (List.forall_mem_cons.mpr ⟨fun pc hd => ⟨cwX_S (n := 1) hF hd (by rw [hH]; exact Ct_PB_requireSlot kk l hst) hsd (by rw [hO]; exact wd_1167) wd_1168 wd_86 wd_1169 ⟨by decide +kernel, by decide +kernel, by decide +kernel⟩ (by decide) (by rw [hV]; decide) (sh_PB_requireSlot kk), hd_nil⟩, (fun _ h => nomatch h)⟩)⟩)
    · rw [hO, hC, hR]; exact tk_use (fun pc h => by unfold T_PB_requirePillow; rw [Nat.ble_eq_true_of_le h]) tk_PB_requirePillow pc e he
  exact CtX_of (F := 0) hst (by decide) (by decide +kernel) hT (ro0 (ro_PB_requirePillow kk) (fun _ _ => rfl)) (by decide)
def iv_PB_weightOf : List (Instr × Nat) := [(.invokevirtual 114, 2490449), (.invokevirtual 117, 147473)]
theorem tk_PB_weightOf : (List.range 16).all (fun pc => match T_PB_weightOf pc with | none => true | some e => ck FT_ PT_ NT_ CT_ yX6_weightOf.cls cX6_weightOf (some .int) iv_PB_weightOf pc e) = true := by decide +kernel
theorem Ct_PB_weightOf (kk : Nat) (l : Launch) (hst : l.stackTraces = false) : CtX sdX l yX6_weightOf (.code yX6_weightOf cX6_weightOf 2 (some .int) :: lw_all) 9 1 (A_PB_weightOf kk) := by
  have hT : TabOK sdX l yX6_weightOf.cls cX6_weightOf 1 9 (some .int) T_PB_weightOf (call_PB_weightOf kk) (fun _ => []) := by
    intro x hF hH hO hC hG hV hR hsd pc e he
    refine ck_sound FT_ok PT_ok NT_ok CT_ok (invs := iv_PB_weightOf) ?_ ?_
    · exact (List.forall_mem_cons.mpr ⟨fun pc hd => ⟨cwX_V (C := RX6) (n := 1) hF hd (by rw [hH]; exact Ct_PB_requirePillow kk l hst) hsd (by rw [hO]; exact wd_1178) wd_1180 wd_16 wd_86 wd_1181 ⟨rfl, by decide +kernel, by decide +kernel, by decide +kernel⟩ (by decide) (by rw [hV]; decide) (sh_PB_requirePillow kk), hd_nil⟩, (List.forall_mem_cons.mpr ⟨fun pc hd => ⟨cwX_V (C := RX0) (n := 1) hF hd (by rw [hH]; exact Ct_Cargo_weightIn kk l hst) hsd (by rw [hO]; exact wd_1186) wd_410 wd_411 wd_88 wd_412 ⟨rfl, by decide +kernel, by decide +kernel, by decide +kernel⟩ (by decide) (by rw [hV]; decide) (sh_Cargo_weightIn kk), hd_nil⟩, (fun _ h => nomatch h)⟩)⟩)
    · rw [hO, hC, hR]; exact tk_use (fun pc h => by unfold T_PB_weightOf; rw [Nat.ble_eq_true_of_le h]) tk_PB_weightOf pc e he
  exact CtX_of (F := 0) hst (by decide) (by decide +kernel) hT (ro0 (ro_PB_weightOf kk) (fun _ _ => rfl)) (by decide)
def iv_PB_destinationOf : List (Instr × Nat) := [(.invokevirtual 114, 2490449), (.invokevirtual 120, 163857)]
theorem tk_PB_destinationOf : (List.range 16).all (fun pc => match T_PB_destinationOf pc with | none => true | some e => ck FT_ PT_ NT_ CT_ yX6_destinationOf.cls cX6_destinationOf (some .int) iv_PB_destinationOf pc e) = true := by decide +kernel
theorem Ct_PB_destinationOf (kk : Nat) (l : Launch) (hst : l.stackTraces = false) : CtX sdX l yX6_destinationOf (.code yX6_destinationOf cX6_destinationOf 2 (some .int) :: lw_all) 9 1 (A_PB_destinationOf kk) := by
  have hT : TabOK sdX l yX6_destinationOf.cls cX6_destinationOf 1 9 (some .int) T_PB_destinationOf (call_PB_destinationOf kk) (fun _ => []) := by
    intro x hF hH hO hC hG hV hR hsd pc e he
    refine ck_sound FT_ok PT_ok NT_ok CT_ok (invs := iv_PB_destinationOf) ?_ ?_
    · exact (List.forall_mem_cons.mpr ⟨fun pc hd => ⟨cwX_V (C := RX6) (n := 1) hF hd (by rw [hH]; exact Ct_PB_requirePillow kk l hst) hsd (by rw [hO]; exact wd_1178) wd_1180 wd_16 wd_86 wd_1181 ⟨rfl, by decide +kernel, by decide +kernel, by decide +kernel⟩ (by decide) (by rw [hV]; decide) (sh_PB_requirePillow kk), hd_nil⟩, (List.forall_mem_cons.mpr ⟨fun pc hd => ⟨cwX_V (C := RX0) (n := 1) hF hd (by rw [hH]; exact Ct_Cargo_destinationIn kk l hst) hsd (by rw [hO]; exact wd_1194) wd_405 wd_406 wd_88 wd_407 ⟨rfl, by decide +kernel, by decide +kernel, by decide +kernel⟩ (by decide) (by rw [hV]; decide) (sh_Cargo_destinationIn kk), hd_nil⟩, (fun _ h => nomatch h)⟩)⟩)
    · rw [hO, hC, hR]; exact tk_use (fun pc h => by unfold T_PB_destinationOf; rw [Nat.ble_eq_true_of_le h]) tk_PB_destinationOf pc e he
  exact CtX_of (F := 0) hst (by decide) (by decide +kernel) hT (ro0 (ro_PB_destinationOf kk) (fun _ _ => rfl)) (by decide)
def iv_PB_bayOf : List (Instr × Nat) := [(.invokevirtual 114, 2490449)]
theorem tk_PB_bayOf : (List.range 8).all (fun pc => match T_PB_bayOf pc with | none => true | some e => ck FT_ PT_ NT_ CT_ yX6_bayOf.cls cX6_bayOf (some .int) iv_PB_bayOf pc e) = true := by decide +kernel
theorem Ct_PB_bayOf (kk : Nat) (l : Launch) (hst : l.stackTraces = false) : CtX sdX l yX6_bayOf (.code yX6_bayOf cX6_bayOf 2 (some .int) :: lw_all) 9 1 (A_PB_bayOf kk) := by
  have hT : TabOK sdX l yX6_bayOf.cls cX6_bayOf 1 9 (some .int) T_PB_bayOf (call_PB_bayOf kk) (fun _ => []) := by
    intro x hF hH hO hC hG hV hR hsd pc e he
    refine ck_sound FT_ok PT_ok NT_ok CT_ok (invs := iv_PB_bayOf) ?_ ?_
    · exact (List.forall_mem_cons.mpr ⟨fun pc hd => ⟨cwX_V (C := RX6) (n := 1) hF hd (by rw [hH]; exact Ct_PB_requirePillow kk l hst) hsd (by rw [hO]; exact wd_1178) wd_1180 wd_16 wd_86 wd_1181 ⟨rfl, by decide +kernel, by decide +kernel, by decide +kernel⟩ (by decide) (by rw [hV]; decide) (sh_PB_requirePillow kk), hd_nil⟩, (fun _ h => nomatch h)⟩)
    · rw [hO, hC, hR]; exact tk_use (fun pc h => by unfold T_PB_bayOf; rw [Nat.ble_eq_true_of_le h]) tk_PB_bayOf pc e he
  exact CtX_of (F := 0) hst (by decide) (by decide +kernel) hT (ro0 (ro_PB_bayOf kk) (fun _ _ => rfl)) (by decide)
def iv_PB_positionOf : List (Instr × Nat) := [(.invokevirtual 114, 2490449)]
theorem tk_PB_positionOf : (List.range 8).all (fun pc => match T_PB_positionOf pc with | none => true | some e => ck FT_ PT_ NT_ CT_ yX6_positionOf.cls cX6_positionOf (some .int) iv_PB_positionOf pc e) = true := by decide +kernel
theorem Ct_PB_positionOf (kk : Nat) (l : Launch) (hst : l.stackTraces = false) : CtX sdX l yX6_positionOf (.code yX6_positionOf cX6_positionOf 2 (some .int) :: lw_all) 9 1 (A_PB_positionOf kk) := by
  have hT : TabOK sdX l yX6_positionOf.cls cX6_positionOf 1 9 (some .int) T_PB_positionOf (call_PB_positionOf kk) (fun _ => []) := by
    intro x hF hH hO hC hG hV hR hsd pc e he
    refine ck_sound FT_ok PT_ok NT_ok CT_ok (invs := iv_PB_positionOf) ?_ ?_
    · exact (List.forall_mem_cons.mpr ⟨fun pc hd => ⟨cwX_V (C := RX6) (n := 1) hF hd (by rw [hH]; exact Ct_PB_requirePillow kk l hst) hsd (by rw [hO]; exact wd_1178) wd_1180 wd_16 wd_86 wd_1181 ⟨rfl, by decide +kernel, by decide +kernel, by decide +kernel⟩ (by decide) (by rw [hV]; decide) (sh_PB_requirePillow kk), hd_nil⟩, (fun _ h => nomatch h)⟩)
    · rw [hO, hC, hR]; exact tk_use (fun pc h => by unfold T_PB_positionOf; rw [Nat.ble_eq_true_of_le h]) tk_PB_positionOf pc e he
  exact CtX_of (F := 0) hst (by decide) (by decide +kernel) hT (ro0 (ro_PB_positionOf kk) (fun _ _ => rfl)) (by decide)
def iv_PB_ageOf : List (Instr × Nat) := [(.invokevirtual 114, 2490449), (.invokevirtual 123, 802833)]
theorem tk_PB_ageOf : (List.range 13).all (fun pc => match T_PB_ageOf pc with | none => true | some e => ck FT_ PT_ NT_ CT_ yX6_ageOf.cls cX6_ageOf (some .int) iv_PB_ageOf pc e) = true := by decide +kernel
theorem Ct_PB_ageOf (kk : Nat) (l : Launch) (hst : l.stackTraces = false) : CtX sdX l yX6_ageOf (.code yX6_ageOf cX6_ageOf 2 (some .int) :: lw_all) 9 1 (A_PB_ageOf kk) := by
  have hT : TabOK sdX l yX6_ageOf.cls cX6_ageOf 1 9 (some .int) T_PB_ageOf (call_PB_ageOf kk) (fun _ => []) := by
    intro x hF hH hO hC hG hV hR hsd pc e he
    refine ck_sound FT_ok PT_ok NT_ok CT_ok (invs := iv_PB_ageOf) ?_ ?_
    · exact (List.forall_mem_cons.mpr ⟨fun pc hd => ⟨cwX_V (C := RX6) (n := 1) hF hd (by rw [hH]; exact Ct_PB_requirePillow kk l hst) hsd (by rw [hO]; exact wd_1178) wd_1180 wd_16 wd_86 wd_1181 ⟨rfl, by decide +kernel, by decide +kernel, by decide +kernel⟩ (by decide) (by rw [hV]; decide) (sh_PB_requirePillow kk), hd_nil⟩, (List.forall_mem_cons.mpr ⟨fun pc hd => ⟨cwX_V (C := RX3) (n := 1) hF hd (by rw [hH]; exact Ct_State_ageIn kk l hst) hsd (by rw [hO]; exact wd_1216) wd_1217 wd_1218 wd_87 wd_1219 ⟨rfl, by decide +kernel, by decide +kernel, by decide +kernel⟩ (by decide) (by rw [hV]; decide) (sh_State_ageIn kk), hd_nil⟩, (fun _ h => nomatch h)⟩)⟩)
    · rw [hO, hC, hR]; exact tk_use (fun pc h => by unfold T_PB_ageOf; rw [Nat.ble_eq_true_of_le h]) tk_PB_ageOf pc e he
  exact CtX_of (F := 0) hst (by decide) (by decide +kernel) hT (ro0 (ro_PB_ageOf kk) (fun _ _ => rfl)) (by decide)
def iv_PB_isOlder : List (Instr × Nat) := [(.invokevirtual 123, 802833), (.invokevirtual 111, 131089)]
theorem tk_PB_isOlder : (List.range 68).all (fun pc => match T_PB_isOlder pc with | none => true | some e => ck FT_ PT_ NT_ CT_ yX6_isOlder.cls cX6_isOlder (some .boolean) iv_PB_isOlder pc e) = true := by decide +kernel
theorem Ct_PB_isOlder (kk : Nat) (l : Launch) (hst : l.stackTraces = false) : CtX sdX l yX6_isOlder (.code yX6_isOlder cX6_isOlder 5 (some .boolean) :: lw_all) 9 0 (A_PB_isOlder kk) := by
  have hT : TabOK sdX l yX6_isOlder.cls cX6_isOlder 0 9 (some .boolean) T_PB_isOlder (call_PB_isOlder kk) (fun _ => []) := by
    intro x hF hH hO hC hG hV hR hsd pc e he
    refine ck_sound FT_ok PT_ok NT_ok CT_ok (invs := iv_PB_isOlder) ?_ ?_
    · exact (List.forall_mem_cons.mpr ⟨fun pc hd => ⟨cwX_V (C := RX3) (n := 1) hF hd (by rw [hH]; exact Ct_State_ageIn kk l hst) hsd (by rw [hO]; exact wd_1216) wd_1217 wd_1218 wd_87 wd_1219 ⟨rfl, by decide +kernel, by decide +kernel, by decide +kernel⟩ (by decide) (by rw [hV]; decide) (sh_State_ageIn kk), hd_nil⟩, (List.forall_mem_cons.mpr ⟨fun pc hd => ⟨cwX_V (C := RX0) (n := 1) hF hd (by rw [hH]; exact Ct_Cargo_numberIn kk l hst) hsd (by rw [hO]; exact wd_1170) wd_607 wd_608 wd_88 wd_609 ⟨rfl, by decide +kernel, by decide +kernel, by decide +kernel⟩ (by decide) (by rw [hV]; decide) (sh_Cargo_numberIn kk), hd_nil⟩, (fun _ h => nomatch h)⟩)⟩)
    · rw [hO, hC, hR]; exact tk_use (fun pc h => by unfold T_PB_isOlder; rw [Nat.ble_eq_true_of_le h]) tk_PB_isOlder pc e he
  exact CtX_of hst (by decide) (by decide +kernel) hT (ro_PB_isOlder kk) (by rw [Nat.zero_mul]; exact Nat.zero_le _)
def iv_PB_oldestSlotIn : List (Instr × Nat) := [(.invokevirtual 104, 81945), (.invokestatic 129, 2375689), (.invokevirtual 133, 1474585)]
theorem tk_PB_oldestSlotIn : (List.range 57).all (fun pc => match T_PB_oldestSlotIn pc with | none => true | some e => ck FT_ PT_ NT_ CT_ yX6_oldestSlotIn.cls cX6_oldestSlotIn (some .int) iv_PB_oldestSlotIn pc e) = true := by decide +kernel
theorem Ct_PB_oldestSlotIn (kk : Nat) (l : Launch) (hst : l.stackTraces = false) : CtX sdX l yX6_oldestSlotIn (.code yX6_oldestSlotIn cX6_oldestSlotIn 5 (some .int) :: lw_all) 10 0 (A_PB_oldestSlotIn kk) := by
  have hT : TabOK sdX l yX6_oldestSlotIn.cls cX6_oldestSlotIn 0 10 (some .int) T_PB_oldestSlotIn (call_PB_oldestSlotIn kk) (fun _ => []) := by
    intro x hF hH hO hC hG hV hR hsd pc e he
    refine ck_sound FT_ok PT_ok NT_ok CT_ok (invs := iv_PB_oldestSlotIn) ?_ ?_
    · exact (List.forall_mem_cons.mpr ⟨fun pc hd => ⟨cwX_V (C := RX0) (n := 2) hF hd (by rw [hH]; exact Ct_Cargo_slotAt kk l hst) hsd (by rw [hO]; exact wd_714) wd_398 wd_399 wd_88 wd_400 ⟨rfl, by decide +kernel, by decide +kernel, by decide +kernel⟩ (by decide) (by rw [hV]; decide) (sh_Cargo_slotAt kk), hd_nil⟩, (List.forall_mem_cons.mpr ⟨fun pc hd => ⟨cwN_S (n := 1) hF hd (by rw [hH]; exact Ct_PB_isSlot kk l hst) hsd (by rw [hO]; exact wd_715) wd_402 wd_86 wd_403 ⟨by decide +kernel, by decide +kernel, by decide +kernel⟩ (by decide) (by rw [hV]; decide) (sh_PB_isSlot kk), hd_nil⟩, (List.forall_mem_cons.mpr ⟨fun pc hd => ⟨cwX_V (C := RX6) (n := 2) hF hd (by rw [hH]; exact Ct_PB_isOlder kk l hst) hsd (by rw [hO]; exact wd_1287) wd_1289 wd_20 wd_86 wd_1290 ⟨rfl, by decide +kernel, by decide +kernel, by decide +kernel⟩ (by decide) (by rw [hV]; decide) (sh_PB_isOlder kk), hd_nil⟩, (fun _ h => nomatch h)⟩)⟩)⟩)
    · rw [hO, hC, hR]; exact tk_use (fun pc h => by unfold T_PB_oldestSlotIn; rw [Nat.ble_eq_true_of_le h]) tk_PB_oldestSlotIn pc e he
  exact CtX_of hst (by decide) (by decide +kernel) hT (ro_PB_oldestSlotIn kk) (by rw [Nat.zero_mul]; exact Nat.zero_le _)
def iv_PB_oldestIn : List (Instr × Nat) := [(.invokestatic 97, 2441288), (.invokevirtual 126, 1458193), (.invokestatic 108, 2474056), (.invokevirtual 111, 131089)]
theorem tk_PB_oldestIn : (List.range 26).all (fun pc => match T_PB_oldestIn pc with | none => true | some e => ck FT_ PT_ NT_ CT_ yX6_oldestIn.cls cX6_oldestIn (some .int) iv_PB_oldestIn pc e) = true := by decide +kernel
theorem Ct_PB_oldestIn (kk : Nat) (l : Launch) (hst : l.stackTraces = false) : CtX sdX l yX6_oldestIn (.code yX6_oldestIn cX6_oldestIn 3 (some .int) :: lw_all) 11 2 (A_PB_oldestIn kk) := by
  have hT : TabOK sdX l yX6_oldestIn.cls cX6_oldestIn 2 11 (some .int) T_PB_oldestIn (call_PB_oldestIn kk) (fun _ => []) := by
    intro x hF hH hO hC hG hV hR hsd pc e he
    refine ck_sound FT_ok PT_ok NT_ok CT_ok (invs := iv_PB_oldestIn) ?_ ?_
    · exact (List.forall_mem_cons.mpr ⟨fun pc hd => ⟨cwX_S (n := 1) hF hd (by rw [hH]; exact Ct_PB_requireBay kk l hst) hsd (by rw [hO]; exact wd_1155) wd_1156 wd_86 wd_1157 ⟨by decide +kernel, by decide +kernel, by decide +kernel⟩ (by decide) (by rw [hV]; decide) (sh_PB_requireBay kk), hd_nil⟩, (List.forall_mem_cons.mpr ⟨fun pc hd => ⟨cwX_V (C := RX6) (n := 1) hF hd (by rw [hH]; exact Ct_PB_oldestSlotIn kk l hst) hsd (by rw [hO]; exact wd_1283) wd_1285 wd_19 wd_86 wd_1286 ⟨rfl, by decide +kernel, by decide +kernel, by decide +kernel⟩ (by decide) (by rw [hV]; decide) (sh_PB_oldestSlotIn kk), hd_nil⟩, (List.forall_mem_cons.mpr ⟨fun pc hd => ⟨cwX_S (n := 1) hF hd (by rw [hH]; exact Ct_PB_requireSlot kk l hst) hsd (by rw [hO]; exact wd_1167) wd_1168 wd_86 wd_1169 ⟨by decide +kernel, by decide +kernel, by decide +kernel⟩ (by decide) (by rw [hV]; decide) (sh_PB_requireSlot kk), hd_nil⟩, (List.forall_mem_cons.mpr ⟨fun pc hd => ⟨cwX_V (C := RX0) (n := 1) hF hd (by rw [hH]; exact Ct_Cargo_numberIn kk l hst) hsd (by rw [hO]; exact wd_1170) wd_607 wd_608 wd_88 wd_609 ⟨rfl, by decide +kernel, by decide +kernel, by decide +kernel⟩ (by decide) (by rw [hV]; decide) (sh_Cargo_numberIn kk), hd_nil⟩, (fun _ h => nomatch h)⟩)⟩)⟩)⟩)
    · rw [hO, hC, hR]; exact tk_use (fun pc h => by unfold T_PB_oldestIn; rw [Nat.ble_eq_true_of_le h]) tk_PB_oldestIn pc e he
  exact CtX_of (F := 0) hst (by decide) (by decide +kernel) hT (ro0 (ro_PB_oldestIn kk) (fun _ _ => rfl)) (by decide)
def iv_PB_moment : List (Instr × Nat) := [(.invokevirtual 137, 262153)]
theorem tk_PB_moment : (List.range 11).all (fun pc => match T_PB_moment pc with | none => true | some e => ck FT_ PT_ NT_ CT_ yX6_moment.cls cX6_moment (some .int) iv_PB_moment pc e) = true := by decide +kernel
theorem Ct_PB_moment (kk : Nat) (l : Launch) (hst : l.stackTraces = false) : CtX sdX l yX6_moment (.code yX6_moment cX6_moment 1 (some .int) :: lw_all) 8 0 (A_PB_moment kk) := by
  have hT : TabOK sdX l yX6_moment.cls cX6_moment 0 8 (some .int) T_PB_moment (call_PB_moment kk) (fun _ => []) := by
    intro x hF hH hO hC hG hV hR hsd pc e he
    refine ck_sound FT_ok PT_ok NT_ok CT_ok (invs := iv_PB_moment) ?_ ?_
    · exact (List.forall_mem_cons.mpr ⟨fun pc hd => ⟨cwX_V (C := RX0) (n := 0) hF hd (by rw [hH]; exact Ct_Cargo_momentOfPillows kk l hst) hsd (by rw [hO]; exact wd_655) wd_373 wd_374 wd_88 wd_375 ⟨rfl, by decide +kernel, by decide +kernel, by decide +kernel⟩ (by decide) (by rw [hV]; decide) (sh_Cargo_momentOfPillows kk), hd_nil⟩, (fun _ h => nomatch h)⟩)
    · rw [hO, hC, hR]; exact tk_use (fun pc h => by unfold T_PB_moment; rw [Nat.ble_eq_true_of_le h]) tk_PB_moment pc e he
  exact CtX_of hst (by decide) (by decide +kernel) hT (ro_PB_moment kk) (by rw [Nat.zero_mul]; exact Nat.zero_le _)
def iv_PB_momentByBays : List (Instr × Nat) := [(.invokevirtual 140, 278537)]
theorem tk_PB_momentByBays : (List.range 11).all (fun pc => match T_PB_momentByBays pc with | none => true | some e => ck FT_ PT_ NT_ CT_ yX6_momentByBays.cls cX6_momentByBays (some .int) iv_PB_momentByBays pc e) = true := by decide +kernel
theorem Ct_PB_momentByBays (kk : Nat) (l : Launch) (hst : l.stackTraces = false) : CtX sdX l yX6_momentByBays (.code yX6_momentByBays cX6_momentByBays 1 (some .int) :: lw_all) 10 0 (A_PB_momentByBays kk) := by
  have hT : TabOK sdX l yX6_momentByBays.cls cX6_momentByBays 0 10 (some .int) T_PB_momentByBays (call_PB_momentByBays kk) (fun _ => []) := by
    intro x hF hH hO hC hG hV hR hsd pc e he
    refine ck_sound FT_ok PT_ok NT_ok CT_ok (invs := iv_PB_momentByBays) ?_ ?_
    · exact (List.forall_mem_cons.mpr ⟨fun pc hd => ⟨cwX_V (C := RX0) (n := 0) hF hd (by rw [hH]; exact Ct_Cargo_momentOfBays kk l hst) hsd (by rw [hO]; exact wd_660) wd_661 wd_662 wd_88 wd_663 ⟨rfl, by decide +kernel, by decide +kernel, by decide +kernel⟩ (by decide) (by rw [hV]; decide) (sh_Cargo_momentOfBays kk), hd_nil⟩, (fun _ h => nomatch h)⟩)
    · rw [hO, hC, hR]; exact tk_use (fun pc h => by unfold T_PB_momentByBays; rw [Nat.ble_eq_true_of_le h]) tk_PB_momentByBays pc e he
  exact CtX_of hst (by decide) (by decide +kernel) hT (ro_PB_momentByBays kk) (by rw [Nat.zero_mul]; exact Nat.zero_le _)
def iv_PB_totalWeight : List (Instr × Nat) := [(.invokevirtual 143, 213001)]
theorem tk_PB_totalWeight : (List.range 11).all (fun pc => match T_PB_totalWeight pc with | none => true | some e => ck FT_ PT_ NT_ CT_ yX6_totalWeight.cls cX6_totalWeight (some .int) iv_PB_totalWeight pc e) = true := by decide +kernel
theorem Ct_PB_totalWeight (kk : Nat) (l : Launch) (hst : l.stackTraces = false) : CtX sdX l yX6_totalWeight (.code yX6_totalWeight cX6_totalWeight 1 (some .int) :: lw_all) 8 0 (A_PB_totalWeight kk) := by
  have hT : TabOK sdX l yX6_totalWeight.cls cX6_totalWeight 0 8 (some .int) T_PB_totalWeight (call_PB_totalWeight kk) (fun _ => []) := by
    intro x hF hH hO hC hG hV hR hsd pc e he
    refine ck_sound FT_ok PT_ok NT_ok CT_ok (invs := iv_PB_totalWeight) ?_ ?_
    · exact (List.forall_mem_cons.mpr ⟨fun pc hd => ⟨cwX_V (C := RX0) (n := 0) hF hd (by rw [hH]; exact Ct_Cargo_weightOfAll kk l hst) hsd (by rw [hO]; exact wd_672) wd_673 wd_674 wd_88 wd_675 ⟨rfl, by decide +kernel, by decide +kernel, by decide +kernel⟩ (by decide) (by rw [hV]; decide) (sh_Cargo_weightOfAll kk), hd_nil⟩, (fun _ h => nomatch h)⟩)
    · rw [hO, hC, hR]; exact tk_use (fun pc h => by unfold T_PB_totalWeight; rw [Nat.ble_eq_true_of_le h]) tk_PB_totalWeight pc e he
  exact CtX_of hst (by decide) (by decide +kernel) hT (ro_PB_totalWeight kk) (by rw [Nat.zero_mul]; exact Nat.zero_le _)
def iv_PB_requirePort : List (Instr × Nat) := [(.invokestatic 221, 2392073)]
theorem tk_PB_requirePort : (List.range 16).all (fun pc => match T_PB_requirePort pc with | none => true | some e => ck FT_ PT_ NT_ CT_ yX6_requirePort.cls cX6_requirePort none iv_PB_requirePort pc e) = true := by decide +kernel
theorem Ct_PB_requirePort (kk : Nat) (l : Launch) (hst : l.stackTraces = false) : CtX sdX l yX6_requirePort (.code yX6_requirePort cX6_requirePort 1 none :: lw_all) 7 1 (A_PB_requirePort kk) := by
  have hT : TabOK sdX l yX6_requirePort.cls cX6_requirePort 1 7 none T_PB_requirePort (call_PB_requirePort kk) (fun _ => []) := by
    intro x hF hH hO hC hG hV hR hsd pc e he
    refine ck_sound FT_ok PT_ok NT_ok CT_ok (invs := iv_PB_requirePort) ?_ ?_
    · exact (List.forall_mem_cons.mpr ⟨fun pc hd => ⟨cwN_S (n := 1) hF hd (by rw [hH]; exact Ct_PB_isPort kk l hst) hsd (by rw [hO]; exact wd_740) wd_358 wd_86 wd_359 ⟨by decide +kernel, by decide +kernel, by decide +kernel⟩ (by decide) (by rw [hV]; decide) (sh_PB_isPort kk), hd_nil⟩, (fun _ h => nomatch h)⟩)
    · rw [hO, hC, hR]; exact tk_use (fun pc h => by unfold T_PB_requirePort; rw [Nat.ble_eq_true_of_le h]) tk_PB_requirePort pc e he
  exact CtX_of (F := 0) hst (by decide) (by decide +kernel) hT (ro0 (ro_PB_requirePort kk) (fun _ _ => rfl)) (by decide)
def iv_PB_weightFor : List (Instr × Nat) := [(.invokestatic 146, 2457672), (.invokevirtual 149, 229393)]
theorem tk_PB_weightFor : (List.range 16).all (fun pc => match T_PB_weightFor pc with | none => true | some e => ck FT_ PT_ NT_ CT_ yX6_weightFor.cls cX6_weightFor (some .int) iv_PB_weightFor pc e) = true := by decide +kernel
theorem Ct_PB_weightFor (kk : Nat) (l : Launch) (hst : l.stackTraces = false) : CtX sdX l yX6_weightFor (.code yX6_weightFor cX6_weightFor 2 (some .int) :: lw_all) 8 1 (A_PB_weightFor kk) := by
  have hT : TabOK sdX l yX6_weightFor.cls cX6_weightFor 1 8 (some .int) T_PB_weightFor (call_PB_weightFor kk) (fun _ => []) := by
    intro x hF hH hO hC hG hV hR hsd pc e he
    refine ck_sound FT_ok PT_ok NT_ok CT_ok (invs := iv_PB_weightFor) ?_ ?_
    · exact (List.forall_mem_cons.mpr ⟨fun pc hd => ⟨cwX_S (n := 1) hF hd (by rw [hH]; exact Ct_PB_requirePort kk l hst) hsd (by rw [hO]; exact wd_1227) wd_1228 wd_86 wd_1229 ⟨by decide +kernel, by decide +kernel, by decide +kernel⟩ (by decide) (by rw [hV]; decide) (sh_PB_requirePort kk), hd_nil⟩, (List.forall_mem_cons.mpr ⟨fun pc hd => ⟨cwX_V (C := RX0) (n := 1) hF hd (by rw [hH]; exact Ct_Cargo_weightForPort kk l hst) hsd (by rw [hO]; exact wd_1230) wd_1231 wd_1232 wd_88 wd_1233 ⟨rfl, by decide +kernel, by decide +kernel, by decide +kernel⟩ (by decide) (by rw [hV]; decide) (sh_Cargo_weightForPort kk), hd_nil⟩, (fun _ h => nomatch h)⟩)⟩)
    · rw [hO, hC, hR]; exact tk_use (fun pc h => by unfold T_PB_weightFor; rw [Nat.ble_eq_true_of_le h]) tk_PB_weightFor pc e he
  exact CtX_of (F := 0) hst (by decide) (by decide +kernel) hT (ro0 (ro_PB_weightFor kk) (fun _ _ => rfl)) (by decide)
def iv_PB_limit : List (Instr × Nat) := []
theorem tk_PB_limit : (List.range 8).all (fun pc => match T_PB_limit pc with | none => true | some e => ck FT_ PT_ NT_ CT_ yX6_limit.cls cX6_limit (some .int) iv_PB_limit pc e) = true := by decide +kernel
theorem Ct_PB_limit (kk : Nat) (l : Launch) (hst : l.stackTraces = false) : CtX sdX l yX6_limit (.code yX6_limit cX6_limit 1 (some .int) :: lw_all) 6 0 (A_PB_limit kk) := by
  have hT : TabOK sdX l yX6_limit.cls cX6_limit 0 6 (some .int) T_PB_limit (call_PB_limit kk) (fun _ => []) := by
    intro x hF hH hO hC hG hV hR hsd pc e he
    refine ck_sound FT_ok PT_ok NT_ok CT_ok (invs := iv_PB_limit) ?_ ?_
    · exact (fun _ h => nomatch h)
    · rw [hO, hC, hR]; exact tk_use (fun pc h => by unfold T_PB_limit; rw [Nat.ble_eq_true_of_le h]) tk_PB_limit pc e he
  exact CtX_of hst (by decide) (by decide +kernel) hT (ro_PB_limit kk) (by rw [Nat.zero_mul]; exact Nat.zero_le _)
def iv_PB_listAngle : List (Instr × Nat) := [(.invokevirtual 137, 262153), (.invokevirtual 143, 213001)]
theorem tk_PB_listAngle : (List.range 34).all (fun pc => match T_PB_listAngle pc with | none => true | some e => ck FT_ PT_ NT_ CT_ yX6_listAngle.cls cX6_listAngle (some .float) iv_PB_listAngle pc e) = true := by decide +kernel
theorem Ct_PB_listAngle (kk : Nat) (l : Launch) (hst : l.stackTraces = false) : CtX sdX l yX6_listAngle (.code yX6_listAngle cX6_listAngle 3 (some .float) :: lw_all) 8 0 (A_PB_listAngle kk) := by
  have hT : TabOK sdX l yX6_listAngle.cls cX6_listAngle 0 8 (some .float) T_PB_listAngle (call_PB_listAngle kk) (fun _ => []) := by
    intro x hF hH hO hC hG hV hR hsd pc e he
    refine ck_sound FT_ok PT_ok NT_ok CT_ok (invs := iv_PB_listAngle) ?_ ?_
    · exact (List.forall_mem_cons.mpr ⟨fun pc hd => ⟨cwX_V (C := RX0) (n := 0) hF hd (by rw [hH]; exact Ct_Cargo_momentOfPillows kk l hst) hsd (by rw [hO]; exact wd_655) wd_373 wd_374 wd_88 wd_375 ⟨rfl, by decide +kernel, by decide +kernel, by decide +kernel⟩ (by decide) (by rw [hV]; decide) (sh_Cargo_momentOfPillows kk), hd_nil⟩, (List.forall_mem_cons.mpr ⟨fun pc hd => ⟨cwX_V (C := RX0) (n := 0) hF hd (by rw [hH]; exact Ct_Cargo_weightOfAll kk l hst) hsd (by rw [hO]; exact wd_672) wd_673 wd_674 wd_88 wd_675 ⟨rfl, by decide +kernel, by decide +kernel, by decide +kernel⟩ (by decide) (by rw [hV]; decide) (sh_Cargo_weightOfAll kk), hd_nil⟩, (fun _ h => nomatch h)⟩)⟩)
    · rw [hO, hC, hR]; exact tk_use (fun pc h => by unfold T_PB_listAngle; rw [Nat.ble_eq_true_of_le h]) tk_PB_listAngle pc e he
  exact CtX_of hst (by decide) (by decide +kernel) hT (ro_PB_listAngle kk) (by rw [Nat.zero_mul]; exact Nat.zero_le _)
def iv_PB_greatestPush : List (Instr × Nat) := [(.invokevirtual 137, 262153)]
theorem tk_PB_greatestPush : (List.range 19).all (fun pc => match T_PB_greatestPush pc with | none => true | some e => ck FT_ PT_ NT_ CT_ yX6_greatestPush.cls cX6_greatestPush (some .int) iv_PB_greatestPush pc e) = true := by decide +kernel
theorem Ct_PB_greatestPush (kk : Nat) (l : Launch) (hst : l.stackTraces = false) : CtX sdX l yX6_greatestPush (.code yX6_greatestPush cX6_greatestPush 1 (some .int) :: lw_all) 8 0 (A_PB_greatestPush kk) := by
  have hT : TabOK sdX l yX6_greatestPush.cls cX6_greatestPush 0 8 (some .int) T_PB_greatestPush (call_PB_greatestPush kk) (fun _ => []) := by
    intro x hF hH hO hC hG hV hR hsd pc e he
    refine ck_sound FT_ok PT_ok NT_ok CT_ok (invs := iv_PB_greatestPush) ?_ ?_
    · exact (List.forall_mem_cons.mpr ⟨fun pc hd => ⟨cwX_V (C := RX0) (n := 0) hF hd (by rw [hH]; exact Ct_Cargo_momentOfPillows kk l hst) hsd (by rw [hO]; exact wd_655) wd_373 wd_374 wd_88 wd_375 ⟨rfl, by decide +kernel, by decide +kernel, by decide +kernel⟩ (by decide) (by rw [hV]; decide) (sh_Cargo_momentOfPillows kk), hd_nil⟩, (fun _ h => nomatch h)⟩)
    · rw [hO, hC, hR]; exact tk_use (fun pc h => by unfold T_PB_greatestPush; rw [Nat.ble_eq_true_of_le h]) tk_PB_greatestPush pc e he
  exact CtX_of hst (by decide) (by decide +kernel) hT (ro_PB_greatestPush kk) (by rw [Nat.zero_mul]; exact Nat.zero_le _)
def iv_PB_isMoreLevel : List (Instr × Nat) := [(.invokevirtual 137, 262153), (.invokestatic 170, 2424841), (.invokestatic 173, 14761993), (.invokevirtual 100, 49169)]
theorem tk_PB_isMoreLevel : (List.range 91).all (fun pc => match T_PB_isMoreLevel pc with | none => true | some e => ck FT_ PT_ NT_ CT_ yX6_isMoreLevel.cls cX6_isMoreLevel (some .boolean) iv_PB_isMoreLevel pc e) = true := by decide +kernel
theorem Ct_PB_isMoreLevel (kk : Nat) (l : Launch) (hst : l.stackTraces = false) : CtX sdX l yX6_isMoreLevel (.code yX6_isMoreLevel cX6_isMoreLevel 7 (some .boolean) :: lw_all) 8 0 (A_PB_isMoreLevel kk) := by
  have hT : TabOK sdX l yX6_isMoreLevel.cls cX6_isMoreLevel 0 8 (some .boolean) T_PB_isMoreLevel (call_PB_isMoreLevel kk) (fun _ => []) := by
    intro x hF hH hO hC hG hV hR hsd pc e he
    refine ck_sound FT_ok PT_ok NT_ok CT_ok (invs := iv_PB_isMoreLevel) ?_ ?_
    · exact (List.forall_mem_cons.mpr ⟨fun pc hd => ⟨cwX_V (C := RX0) (n := 0) hF hd (by rw [hH]; exact Ct_Cargo_momentOfPillows kk l hst) hsd (by rw [hO]; exact wd_655) wd_373 wd_374 wd_88 wd_375 ⟨rfl, by decide +kernel, by decide +kernel, by decide +kernel⟩ (by decide) (by rw [hV]; decide) (sh_Cargo_momentOfPillows kk), hd_nil⟩, (List.forall_mem_cons.mpr ⟨fun pc hd => ⟨cwN_S (n := 1) hF hd (by rw [hH]; exact Ct_PB_leverArm kk l hst) hsd (by rw [hO]; exact wd_1251) wd_366 wd_86 wd_367 ⟨by decide +kernel, by decide +kernel, by decide +kernel⟩ (by decide) (by rw [hV]; decide) (sh_PB_leverArm kk), hd_nil⟩, (List.forall_mem_cons.mpr ⟨fun pc hd => ⟨cwJ_abs hF hd hsd (by rw [hO]; exact wd_1252) (by rw [hV]; decide), hd_nil⟩, (List.forall_mem_cons.mpr ⟨fun pc hd => ⟨cwX_V (C := RX0) (n := 1) hF hd (by rw [hH]; exact Ct_Cargo_heightOf kk l hst) hsd (by rw [hO]; exact wd_1159) wd_361 wd_362 wd_88 wd_363 ⟨rfl, by decide +kernel, by decide +kernel, by decide +kernel⟩ (by decide) (by rw [hV]; decide) (sh_Cargo_heightOf kk), hd_nil⟩, (fun _ h => nomatch h)⟩)⟩)⟩)⟩)
    · rw [hO, hC, hR]; exact tk_use (fun pc h => by unfold T_PB_isMoreLevel; rw [Nat.ble_eq_true_of_le h]) tk_PB_isMoreLevel pc e he
  exact CtX_of hst (by decide) (by decide +kernel) hT (ro_PB_isMoreLevel kk) (by rw [Nat.zero_mul]; exact Nat.zero_le _)
def iv_PB_mostLevelBay : List (Instr × Nat) := [(.invokevirtual 162, 835617), (.invokevirtual 166, 1638433)]
theorem tk_PB_mostLevelBay : (List.range 60).all (fun pc => match T_PB_mostLevelBay pc with | none => true | some e => ck FT_ PT_ NT_ CT_ yX6_mostLevelBay.cls cX6_mostLevelBay (some .int) iv_PB_mostLevelBay pc e) = true := by decide +kernel
theorem Ct_PB_mostLevelBay (kk : Nat) (l : Launch) (hst : l.stackTraces = false) : CtX sdX l yX6_mostLevelBay (.code yX6_mostLevelBay cX6_mostLevelBay 5 (some .int) :: lw_all) 10 0 (A_PB_mostLevelBay kk) := by
  have hT : TabOK sdX l yX6_mostLevelBay.cls cX6_mostLevelBay 0 10 (some .int) T_PB_mostLevelBay (call_PB_mostLevelBay kk) (fun _ => []) := by
    intro x hF hH hO hC hG hV hR hsd pc e he
    refine ck_sound FT_ok PT_ok NT_ok CT_ok (invs := iv_PB_mostLevelBay) ?_ ?_
    · exact (List.forall_mem_cons.mpr ⟨fun pc hd => ⟨cwX_V (C := RX3) (n := 3) hF hd (by rw [hH]; exact Ct_State_faultOfLoad kk l hst) hsd (by rw [hO]; exact wd_1246) wd_348 wd_349 wd_87 wd_350 ⟨rfl, by decide +kernel, by decide +kernel, by decide +kernel⟩ (by decide) (by rw [hV]; decide) (sh_State_faultOfLoad kk), hd_nil⟩, (List.forall_mem_cons.mpr ⟨fun pc hd => ⟨cwX_V (C := RX6) (n := 3) hF hd (by rw [hH]; exact Ct_PB_isMoreLevel kk l hst) hsd (by rw [hO]; exact wd_1247) wd_1249 wd_18 wd_86 wd_1250 ⟨rfl, by decide +kernel, by decide +kernel, by decide +kernel⟩ (by decide) (by rw [hV]; decide) (sh_PB_isMoreLevel kk), hd_nil⟩, (fun _ h => nomatch h)⟩)⟩)
    · rw [hO, hC, hR]; exact tk_use (fun pc h => by unfold T_PB_mostLevelBay; rw [Nat.ble_eq_true_of_le h]) tk_PB_mostLevelBay pc e he
  exact CtX_of hst (by decide) (by decide +kernel) hT (ro_PB_mostLevelBay kk) (by rw [Nat.zero_mul]; exact Nat.zero_le _)
def iv_PB_levelingBay : List (Instr × Nat) := [(.invokestatic 156, 2408457), (.invokevirtual 159, 1622033)]
theorem tk_PB_levelingBay : (List.range 36).all (fun pc => match T_PB_levelingBay pc with | none => true | some e => ck FT_ PT_ NT_ CT_ yX6_levelingBay.cls cX6_levelingBay (some .int) iv_PB_levelingBay pc e) = true := by decide +kernel
theorem Ct_PB_levelingBay (kk : Nat) (l : Launch) (hst : l.stackTraces = false) : CtX sdX l yX6_levelingBay (.code yX6_levelingBay cX6_levelingBay 3 (some .int) :: lw_all) 11 1 (A_PB_levelingBay kk) := by
  have hT : TabOK sdX l yX6_levelingBay.cls cX6_levelingBay 1 11 (some .int) T_PB_levelingBay (call_PB_levelingBay kk) (fun _ => []) := by
    intro x hF hH hO hC hG hV hR hsd pc e he
    refine ck_sound FT_ok PT_ok NT_ok CT_ok (invs := iv_PB_levelingBay) ?_ ?_
    · exact (List.forall_mem_cons.mpr ⟨fun pc hd => ⟨cwN_S (n := 1) hF hd (by rw [hH]; exact Ct_PB_isWeight kk l hst) hsd (by rw [hO]; exact wd_1241) wd_355 wd_86 wd_356 ⟨by decide +kernel, by decide +kernel, by decide +kernel⟩ (by decide) (by rw [hV]; decide) (sh_PB_isWeight kk), hd_nil⟩, (List.forall_mem_cons.mpr ⟨fun pc hd => ⟨cwX_V (C := RX6) (n := 1) hF hd (by rw [hH]; exact Ct_PB_mostLevelBay kk l hst) hsd (by rw [hO]; exact wd_1242) wd_1244 wd_17 wd_86 wd_1245 ⟨rfl, by decide +kernel, by decide +kernel, by decide +kernel⟩ (by decide) (by rw [hV]; decide) (sh_PB_mostLevelBay kk), hd_nil⟩, (fun _ h => nomatch h)⟩)⟩)
    · rw [hO, hC, hR]; exact tk_use (fun pc h => by unfold T_PB_levelingBay; rw [Nat.ble_eq_true_of_le h]) tk_PB_levelingBay pc e he
  exact CtX_of (F := 0) hst (by decide) (by decide +kernel) hT (ro0 (ro_PB_levelingBay kk) (fun _ _ => rfl)) (by decide)
def iv_PB_port : List (Instr × Nat) := []
theorem tk_PB_port : (List.range 11).all (fun pc => match T_PB_port pc with | none => true | some e => ck FT_ PT_ NT_ CT_ yX6_port.cls cX6_port (some .int) iv_PB_port pc e) = true := by decide +kernel
theorem Ct_PB_port (kk : Nat) (l : Launch) (hst : l.stackTraces = false) : CtX sdX l yX6_port (.code yX6_port cX6_port 1 (some .int) :: lw_all) 6 0 (A_PB_port kk) := by
  have hT : TabOK sdX l yX6_port.cls cX6_port 0 6 (some .int) T_PB_port (call_PB_port kk) (fun _ => []) := by
    intro x hF hH hO hC hG hV hR hsd pc e he
    refine ck_sound FT_ok PT_ok NT_ok CT_ok (invs := iv_PB_port) ?_ ?_
    · exact (fun _ h => nomatch h)
    · rw [hO, hC, hR]; exact tk_use (fun pc h => by unfold T_PB_port; rw [Nat.ble_eq_true_of_le h]) tk_PB_port pc e he
  exact CtX_of hst (by decide) (by decide +kernel) hT (ro_PB_port kk) (by rw [Nat.zero_mul]; exact Nat.zero_le _)
def iv_PB_day : List (Instr × Nat) := []
theorem tk_PB_day : (List.range 11).all (fun pc => match T_PB_day pc with | none => true | some e => ck FT_ PT_ NT_ CT_ yX6_day.cls cX6_day (some .int) iv_PB_day pc e) = true := by decide +kernel
theorem Ct_PB_day (kk : Nat) (l : Launch) (hst : l.stackTraces = false) : CtX sdX l yX6_day (.code yX6_day cX6_day 1 (some .int) :: lw_all) 6 0 (A_PB_day kk) := by
  have hT : TabOK sdX l yX6_day.cls cX6_day 0 6 (some .int) T_PB_day (call_PB_day kk) (fun _ => []) := by
    intro x hF hH hO hC hG hV hR hsd pc e he
    refine ck_sound FT_ok PT_ok NT_ok CT_ok (invs := iv_PB_day) ?_ ?_
    · exact (fun _ h => nomatch h)
    · rw [hO, hC, hR]; exact tk_use (fun pc h => by unfold T_PB_day; rw [Nat.ble_eq_true_of_le h]) tk_PB_day pc e he
  exact CtX_of hst (by decide) (by decide +kernel) hT (ro_PB_day kk) (by rw [Nat.zero_mul]; exact Nat.zero_le _)
def iv_PB_isAscending : List (Instr × Nat) := []
theorem tk_PB_isAscending : (List.range 11).all (fun pc => match T_PB_isAscending pc with | none => true | some e => ck FT_ PT_ NT_ CT_ yX6_isAscending.cls cX6_isAscending (some .boolean) iv_PB_isAscending pc e) = true := by decide +kernel
theorem Ct_PB_isAscending (kk : Nat) (l : Launch) (hst : l.stackTraces = false) : CtX sdX l yX6_isAscending (.code yX6_isAscending cX6_isAscending 1 (some .boolean) :: lw_all) 6 0 (A_PB_isAscending kk) := by
  have hT : TabOK sdX l yX6_isAscending.cls cX6_isAscending 0 6 (some .boolean) T_PB_isAscending (call_PB_isAscending kk) (fun _ => []) := by
    intro x hF hH hO hC hG hV hR hsd pc e he
    refine ck_sound FT_ok PT_ok NT_ok CT_ok (invs := iv_PB_isAscending) ?_ ?_
    · exact (fun _ h => nomatch h)
    · rw [hO, hC, hR]; exact tk_use (fun pc h => by unfold T_PB_isAscending; rw [Nat.ble_eq_true_of_le h]) tk_PB_isAscending pc e he
  exact CtX_of hst (by decide) (by decide +kernel) hT (ro_PB_isAscending kk) (by rw [Nat.zero_mul]; exact Nat.zero_le _)
def iv_PB_legsTo : List (Instr × Nat) := [(.invokestatic 146, 2457672), (.invokevirtual 194, 1081361)]
theorem tk_PB_legsTo : (List.range 16).all (fun pc => match T_PB_legsTo pc with | none => true | some e => ck FT_ PT_ NT_ CT_ yX6_legsTo.cls cX6_legsTo (some .int) iv_PB_legsTo pc e) = true := by decide +kernel
theorem Ct_PB_legsTo (kk : Nat) (l : Launch) (hst : l.stackTraces = false) : CtX sdX l yX6_legsTo (.code yX6_legsTo cX6_legsTo 2 (some .int) :: lw_all) 8 1 (A_PB_legsTo kk) := by
  have hT : TabOK sdX l yX6_legsTo.cls cX6_legsTo 1 8 (some .int) T_PB_legsTo (call_PB_legsTo kk) (fun _ => []) := by
    intro x hF hH hO hC hG hV hR hsd pc e he
    refine ck_sound FT_ok PT_ok NT_ok CT_ok (invs := iv_PB_legsTo) ?_ ?_
    · exact (List.forall_mem_cons.mpr ⟨fun pc hd => ⟨cwX_S (n := 1) hF hd (by rw [hH]; exact Ct_PB_requirePort kk l hst) hsd (by rw [hO]; exact wd_1227) wd_1228 wd_86 wd_1229 ⟨by decide +kernel, by decide +kernel, by decide +kernel⟩ (by decide) (by rw [hV]; decide) (sh_PB_requirePort kk), hd_nil⟩, (List.forall_mem_cons.mpr ⟨fun pc hd => ⟨cwX_V (C := RX5) (n := 1) hF hd (by rw [hH]; exact Ct_Voyage_countLegsTo kk l hst) hsd (by rw [hO]; exact wd_1260) wd_721 wd_722 wd_89 wd_723 ⟨rfl, by decide +kernel, by decide +kernel, by decide +kernel⟩ (by decide) (by rw [hV]; decide) (sh_Voyage_countLegsTo kk), hd_nil⟩, (fun _ h => nomatch h)⟩)⟩)
    · rw [hO, hC, hR]; exact tk_use (fun pc h => by unfold T_PB_legsTo; rw [Nat.ble_eq_true_of_le h]) tk_PB_legsTo pc e he
  exact CtX_of (F := 0) hst (by decide) (by decide +kernel) hT (ro0 (ro_PB_legsTo kk) (fun _ _ => rfl)) (by decide)
def iv_PB_portAfter : List (Instr × Nat) := [(.invokevirtual 197, 1097745)]
theorem tk_PB_portAfter : (List.range 30).all (fun pc => match T_PB_portAfter pc with | none => true | some e => ck FT_ PT_ NT_ CT_ yX6_portAfter.cls cX6_portAfter (some .int) iv_PB_portAfter pc e) = true := by decide +kernel
theorem Ct_PB_portAfter (kk : Nat) (l : Launch) (hst : l.stackTraces = false) : CtX sdX l yX6_portAfter (.code yX6_portAfter cX6_portAfter 2 (some .int) :: lw_all) 8 1 (A_PB_portAfter kk) := by
  have hT : TabOK sdX l yX6_portAfter.cls cX6_portAfter 1 8 (some .int) T_PB_portAfter (call_PB_portAfter kk) (fun _ => []) := by
    intro x hF hH hO hC hG hV hR hsd pc e he
    refine ck_sound FT_ok PT_ok NT_ok CT_ok (invs := iv_PB_portAfter) ?_ ?_
    · exact (List.forall_mem_cons.mpr ⟨fun pc hd => ⟨cwX_V (C := RX5) (n := 1) hF hd (by rw [hH]; exact Ct_Voyage_portIn kk l hst) hsd (by rw [hO]; exact wd_1268) wd_627 wd_628 wd_89 wd_629 ⟨rfl, by decide +kernel, by decide +kernel, by decide +kernel⟩ (by decide) (by rw [hV]; decide) (sh_Voyage_portIn kk), hd_nil⟩, (fun _ h => nomatch h)⟩)
    · rw [hO, hC, hR]; exact tk_use (fun pc h => by unfold T_PB_portAfter; rw [Nat.ble_eq_true_of_le h]) tk_PB_portAfter pc e he
  exact CtX_of (F := 0) hst (by decide) (by decide +kernel) hT (ro0 (ro_PB_portAfter kk) (fun _ _ => rfl)) (by decide)
def iv_PB_heaviestPort : List (Instr × Nat) := [(.invokevirtual 91, 196617), (.invokevirtual 197, 1097745), (.invokevirtual 149, 229393)]
theorem tk_PB_heaviestPort : (List.range 86).all (fun pc => match T_PB_heaviestPort pc with | none => true | some e => ck FT_ PT_ NT_ CT_ yX6_heaviestPort.cls cX6_heaviestPort (some .int) iv_PB_heaviestPort pc e) = true := by decide +kernel
theorem Ct_PB_heaviestPort (kk : Nat) (l : Launch) (hst : l.stackTraces = false) : CtX sdX l yX6_heaviestPort (.code yX6_heaviestPort cX6_heaviestPort 4 (some .int) :: lw_all) 8 9 (A_PB_heaviestPort kk) := by
  have hT : TabOK sdX l yX6_heaviestPort.cls cX6_heaviestPort 1 8 (some .int) T_PB_heaviestPort (call_PB_heaviestPort kk) (fun _ => []) := by
    intro x hF hH hO hC hG hV hR hsd pc e he
    refine ck_sound FT_ok PT_ok NT_ok CT_ok (invs := iv_PB_heaviestPort) ?_ ?_
    · exact (List.forall_mem_cons.mpr ⟨fun pc hd => ⟨cwX_V (C := RX0) (n := 0) hF hd (by rw [hH]; exact Ct_Cargo_countPillows kk l hst) hsd (by rw [hO]; exact wd_647) wd_648 wd_649 wd_88 wd_650 ⟨rfl, by decide +kernel, by decide +kernel, by decide +kernel⟩ (by decide) (by rw [hV]; decide) (sh_Cargo_countPillows kk), hd_nil⟩, (List.forall_mem_cons.mpr ⟨fun pc hd => ⟨cwX_V (C := RX5) (n := 1) hF hd (by rw [hH]; exact Ct_Voyage_portIn kk l hst) hsd (by rw [hO]; exact wd_1268) wd_627 wd_628 wd_89 wd_629 ⟨rfl, by decide +kernel, by decide +kernel, by decide +kernel⟩ (by decide) (by rw [hV]; decide) (sh_Voyage_portIn kk), hd_nil⟩, (List.forall_mem_cons.mpr ⟨fun pc hd => ⟨cwX_V (C := RX0) (n := 1) hF hd (by rw [hH]; exact Ct_Cargo_weightForPort kk l hst) hsd (by rw [hO]; exact wd_1230) wd_1231 wd_1232 wd_88 wd_1233 ⟨rfl, by decide +kernel, by decide +kernel, by decide +kernel⟩ (by decide) (by rw [hV]; decide) (sh_Cargo_weightForPort kk), hd_nil⟩, (fun _ h => nomatch h)⟩)⟩)⟩)
    · rw [hO, hC, hR]; exact tk_use (fun pc h => by unfold T_PB_heaviestPort; rw [Nat.ble_eq_true_of_le h]) tk_PB_heaviestPort pc e he
  exact CtX_of hst (by decide) (by decide +kernel) hT (ro_PB_heaviestPort kk) (Nat.mul_le_mul_left 1 (Nat.succ_le_succ (Nat.min_le_right _ _)))
def iv_PB_countInTheWayOf : List (Instr × Nat) := [(.invokevirtual 104, 81945), (.invokestatic 129, 2375689), (.invokevirtual 212, 786449)]
theorem tk_PB_countInTheWayOf : (List.range 73).all (fun pc => match T_PB_countInTheWayOf pc with | none => true | some e => ck FT_ PT_ NT_ CT_ yX6_countInTheWayOf.cls cX6_countInTheWayOf (some .int) iv_PB_countInTheWayOf pc e) = true := by decide +kernel
theorem Ct_PB_countInTheWayOf (kk : Nat) (l : Launch) (hst : l.stackTraces = false) : CtX sdX l yX6_countInTheWayOf (.code yX6_countInTheWayOf cX6_countInTheWayOf 6 (some .int) :: lw_all) 9 0 (A_PB_countInTheWayOf kk) := by
  have hT : TabOK sdX l yX6_countInTheWayOf.cls cX6_countInTheWayOf 0 9 (some .int) T_PB_countInTheWayOf (call_PB_countInTheWayOf kk) (fun _ => []) := by
    intro x hF hH hO hC hG hV hR hsd pc e he
    refine ck_sound FT_ok PT_ok NT_ok CT_ok (invs := iv_PB_countInTheWayOf) ?_ ?_
    · exact (List.forall_mem_cons.mpr ⟨fun pc hd => ⟨cwX_V (C := RX0) (n := 2) hF hd (by rw [hH]; exact Ct_Cargo_slotAt kk l hst) hsd (by rw [hO]; exact wd_714) wd_398 wd_399 wd_88 wd_400 ⟨rfl, by decide +kernel, by decide +kernel, by decide +kernel⟩ (by decide) (by rw [hV]; decide) (sh_Cargo_slotAt kk), hd_nil⟩, (List.forall_mem_cons.mpr ⟨fun pc hd => ⟨cwN_S (n := 1) hF hd (by rw [hH]; exact Ct_PB_isSlot kk l hst) hsd (by rw [hO]; exact wd_715) wd_402 wd_86 wd_403 ⟨by decide +kernel, by decide +kernel, by decide +kernel⟩ (by decide) (by rw [hV]; decide) (sh_PB_isSlot kk), hd_nil⟩, (List.forall_mem_cons.mpr ⟨fun pc hd => ⟨cwX_V (C := RX3) (n := 1) hF hd (by rw [hH]; exact Ct_State_legsIn kk l hst) hsd (by rw [hO]; exact wd_716) wd_717 wd_718 wd_87 wd_719 ⟨rfl, by decide +kernel, by decide +kernel, by decide +kernel⟩ (by decide) (by rw [hV]; decide) (sh_State_legsIn kk), hd_nil⟩, (fun _ h => nomatch h)⟩)⟩)⟩)
    · rw [hO, hC, hR]; exact tk_use (fun pc h => by unfold T_PB_countInTheWayOf; rw [Nat.ble_eq_true_of_le h]) tk_PB_countInTheWayOf pc e he
  exact CtX_of hst (by decide) (by decide +kernel) hT (ro_PB_countInTheWayOf kk) (by rw [Nat.zero_mul]; exact Nat.zero_le _)
def iv_PB_pillowsInTheWay : List (Instr × Nat) := [(.invokevirtual 114, 2490449), (.invokevirtual 200, 1818641)]
theorem tk_PB_pillowsInTheWay : (List.range 10).all (fun pc => match T_PB_pillowsInTheWay pc with | none => true | some e => ck FT_ PT_ NT_ CT_ yX6_pillowsInTheWay.cls cX6_pillowsInTheWay (some .int) iv_PB_pillowsInTheWay pc e) = true := by decide +kernel
theorem Ct_PB_pillowsInTheWay (kk : Nat) (l : Launch) (hst : l.stackTraces = false) : CtX sdX l yX6_pillowsInTheWay (.code yX6_pillowsInTheWay cX6_pillowsInTheWay 2 (some .int) :: lw_all) 10 1 (A_PB_pillowsInTheWay kk) := by
  have hT : TabOK sdX l yX6_pillowsInTheWay.cls cX6_pillowsInTheWay 1 10 (some .int) T_PB_pillowsInTheWay (call_PB_pillowsInTheWay kk) (fun _ => []) := by
    intro x hF hH hO hC hG hV hR hsd pc e he
    refine ck_sound FT_ok PT_ok NT_ok CT_ok (invs := iv_PB_pillowsInTheWay) ?_ ?_
    · exact (List.forall_mem_cons.mpr ⟨fun pc hd => ⟨cwX_V (C := RX6) (n := 1) hF hd (by rw [hH]; exact Ct_PB_requirePillow kk l hst) hsd (by rw [hO]; exact wd_1178) wd_1180 wd_16 wd_86 wd_1181 ⟨rfl, by decide +kernel, by decide +kernel, by decide +kernel⟩ (by decide) (by rw [hV]; decide) (sh_PB_requirePillow kk), hd_nil⟩, (List.forall_mem_cons.mpr ⟨fun pc hd => ⟨cwX_V (C := RX6) (n := 1) hF hd (by rw [hH]; exact Ct_PB_countInTheWayOf kk l hst) hsd (by rw [hO]; exact wd_710) wd_712 wd_11 wd_86 wd_713 ⟨rfl, by decide +kernel, by decide +kernel, by decide +kernel⟩ (by decide) (by rw [hV]; decide) (sh_PB_countInTheWayOf kk), hd_nil⟩, (fun _ h => nomatch h)⟩)⟩)
    · rw [hO, hC, hR]; exact tk_use (fun pc h => by unfold T_PB_pillowsInTheWay; rw [Nat.ble_eq_true_of_le h]) tk_PB_pillowsInTheWay pc e he
  exact CtX_of (F := 0) hst (by decide) (by decide +kernel) hT (ro0 (ro_PB_pillowsInTheWay kk) (fun _ _ => rfl)) (by decide)
def iv_PB_countPairs : List (Instr × Nat) := [(.invokevirtual 209, 65553), (.invokevirtual 200, 1818641)]
theorem tk_PB_countPairs : (List.range 40).all (fun pc => match T_PB_countPairs pc with | none => true | some e => ck FT_ PT_ NT_ CT_ yX6_countPairs.cls cX6_countPairs (some .int) iv_PB_countPairs pc e) = true := by decide +kernel
theorem Ct_PB_countPairs (kk : Nat) (l : Launch) (hst : l.stackTraces = false) : CtX sdX l yX6_countPairs (.code yX6_countPairs cX6_countPairs 3 (some .int) :: lw_all) 10 0 (A_PB_countPairs kk) := by
  have hT : TabOK sdX l yX6_countPairs.cls cX6_countPairs 0 10 (some .int) T_PB_countPairs (call_PB_countPairs kk) (fun _ => []) := by
    intro x hF hH hO hC hG hV hR hsd pc e he
    refine ck_sound FT_ok PT_ok NT_ok CT_ok (invs := iv_PB_countPairs) ?_ ?_
    · exact (List.forall_mem_cons.mpr ⟨fun pc hd => ⟨cwX_V (C := RX0) (n := 1) hF hd (by rw [hH]; exact Ct_Cargo_isTaken kk l hst) hsd (by rw [hO]; exact wd_709) wd_377 wd_378 wd_88 wd_379 ⟨rfl, by decide +kernel, by decide +kernel, by decide +kernel⟩ (by decide) (by rw [hV]; decide) (sh_Cargo_isTaken kk), hd_nil⟩, (List.forall_mem_cons.mpr ⟨fun pc hd => ⟨cwX_V (C := RX6) (n := 1) hF hd (by rw [hH]; exact Ct_PB_countInTheWayOf kk l hst) hsd (by rw [hO]; exact wd_710) wd_712 wd_11 wd_86 wd_713 ⟨rfl, by decide +kernel, by decide +kernel, by decide +kernel⟩ (by decide) (by rw [hV]; decide) (sh_PB_countInTheWayOf kk), hd_nil⟩, (fun _ h => nomatch h)⟩)⟩)
    · rw [hO, hC, hR]; exact tk_use (fun pc h => by unfold T_PB_countPairs; rw [Nat.ble_eq_true_of_le h]) tk_PB_countPairs pc e he
  exact CtX_of hst (by decide) (by decide +kernel) hT (ro_PB_countPairs kk) (by rw [Nat.zero_mul]; exact Nat.zero_le _)
def iv_PB_pairsInTheWay : List (Instr × Nat) := [(.invokevirtual 203, 1802249)]
theorem tk_PB_pairsInTheWay : (List.range 5).all (fun pc => match T_PB_pairsInTheWay pc with | none => true | some e => ck FT_ PT_ NT_ CT_ yX6_pairsInTheWay.cls cX6_pairsInTheWay (some .int) iv_PB_pairsInTheWay pc e) = true := by decide +kernel
theorem Ct_PB_pairsInTheWay (kk : Nat) (l : Launch) (hst : l.stackTraces = false) : CtX sdX l yX6_pairsInTheWay (.code yX6_pairsInTheWay cX6_pairsInTheWay 1 (some .int) :: lw_all) 11 0 (A_PB_pairsInTheWay kk) := by
  have hT : TabOK sdX l yX6_pairsInTheWay.cls cX6_pairsInTheWay 0 11 (some .int) T_PB_pairsInTheWay (call_PB_pairsInTheWay kk) (fun _ => []) := by
    intro x hF hH hO hC hG hV hR hsd pc e he
    refine ck_sound FT_ok PT_ok NT_ok CT_ok (invs := iv_PB_pairsInTheWay) ?_ ?_
    · exact (List.forall_mem_cons.mpr ⟨fun pc hd => ⟨cwX_V (C := RX6) (n := 0) hF hd (by rw [hH]; exact Ct_PB_countPairs kk l hst) hsd (by rw [hO]; exact wd_705) wd_707 wd_10 wd_86 wd_708 ⟨rfl, by decide +kernel, by decide +kernel, by decide +kernel⟩ (by decide) (by rw [hV]; decide) (sh_PB_countPairs kk), hd_nil⟩, (fun _ h => nomatch h)⟩)
    · rw [hO, hC, hR]; exact tk_use (fun pc h => by unfold T_PB_pairsInTheWay; rw [Nat.ble_eq_true_of_le h]) tk_PB_pairsInTheWay pc e he
  exact CtX_of hst (by decide) (by decide +kernel) hT (ro_PB_pairsInTheWay kk) (by rw [Nat.zero_mul]; exact Nat.zero_le _)
def iv_PB_seePillow : List (Instr × Nat) := [(.invokestatic 221, 2392073)]
theorem tk_PB_seePillow : (List.range 48).all (fun pc => match T_PB_seePillow pc with | none => true | some e => ck FT_ PT_ NT_ CT_ yX6_seePillow.cls cX6_seePillow (some .int) iv_PB_seePillow pc e) = true := by decide +kernel
theorem Ct_PB_seePillow (kk : Nat) (l : Launch) (hst : l.stackTraces = false) : CtX sdX l yX6_seePillow (.code yX6_seePillow cX6_seePillow 4 (some .int) :: lw_all) 7 0 (A_PB_seePillow kk) := by
  have hT : TabOK sdX l yX6_seePillow.cls cX6_seePillow 0 7 (some .int) T_PB_seePillow (call_PB_seePillow kk) (fun _ => []) := by
    intro x hF hH hO hC hG hV hR hsd pc e he
    refine ck_sound FT_ok PT_ok NT_ok CT_ok (invs := iv_PB_seePillow) ?_ ?_
    · exact (List.forall_mem_cons.mpr ⟨fun pc hd => ⟨cwN_S (n := 1) hF hd (by rw [hH]; exact Ct_PB_isPort kk l hst) hsd (by rw [hO]; exact wd_740) wd_358 wd_86 wd_359 ⟨by decide +kernel, by decide +kernel, by decide +kernel⟩ (by decide) (by rw [hV]; decide) (sh_PB_isPort kk), hd_nil⟩, (fun _ h => nomatch h)⟩)
    · rw [hO, hC, hR]; exact tk_use (fun pc h => by unfold T_PB_seePillow; rw [Nat.ble_eq_true_of_le h]) tk_PB_seePillow pc e he
  exact CtX_of hst (by decide) (by decide +kernel) hT (ro_PB_seePillow kk) (by rw [Nat.zero_mul]; exact Nat.zero_le _)
def iv_PB_countPairsInStack : List (Instr × Nat) := [(.invokevirtual 104, 81945), (.invokestatic 129, 2375689), (.invokevirtual 212, 786449), (.invokevirtual 218, 1867793)]
theorem tk_PB_countPairsInStack : (List.range 74).all (fun pc => match T_PB_countPairsInStack pc with | none => true | some e => ck FT_ PT_ NT_ CT_ yX6_countPairsInStack.cls cX6_countPairsInStack (some .int) iv_PB_countPairsInStack pc e) = true := by decide +kernel
theorem Ct_PB_countPairsInStack (kk : Nat) (l : Launch) (hst : l.stackTraces = false) : CtX sdX l yX6_countPairsInStack (.code yX6_countPairsInStack cX6_countPairsInStack 5 (some .int) :: lw_all) 9 0 (A_PB_countPairsInStack kk) := by
  have hT : TabOK sdX l yX6_countPairsInStack.cls cX6_countPairsInStack 0 9 (some .int) T_PB_countPairsInStack (call_PB_countPairsInStack kk) (fun _ => []) := by
    intro x hF hH hO hC hG hV hR hsd pc e he
    refine ck_sound FT_ok PT_ok NT_ok CT_ok (invs := iv_PB_countPairsInStack) ?_ ?_
    · exact (List.forall_mem_cons.mpr ⟨fun pc hd => ⟨cwX_V (C := RX0) (n := 2) hF hd (by rw [hH]; exact Ct_Cargo_slotAt kk l hst) hsd (by rw [hO]; exact wd_714) wd_398 wd_399 wd_88 wd_400 ⟨rfl, by decide +kernel, by decide +kernel, by decide +kernel⟩ (by decide) (by rw [hV]; decide) (sh_Cargo_slotAt kk), hd_nil⟩, (List.forall_mem_cons.mpr ⟨fun pc hd => ⟨cwN_S (n := 1) hF hd (by rw [hH]; exact Ct_PB_isSlot kk l hst) hsd (by rw [hO]; exact wd_715) wd_402 wd_86 wd_403 ⟨by decide +kernel, by decide +kernel, by decide +kernel⟩ (by decide) (by rw [hV]; decide) (sh_PB_isSlot kk), hd_nil⟩, (List.forall_mem_cons.mpr ⟨fun pc hd => ⟨cwX_V (C := RX3) (n := 1) hF hd (by rw [hH]; exact Ct_State_legsIn kk l hst) hsd (by rw [hO]; exact wd_716) wd_717 wd_718 wd_87 wd_719 ⟨rfl, by decide +kernel, by decide +kernel, by decide +kernel⟩ (by decide) (by rw [hV]; decide) (sh_State_legsIn kk), hd_nil⟩, (List.forall_mem_cons.mpr ⟨fun pc hd => ⟨cwX_V (C := RX6) (n := 1) hF hd (by rw [hH]; exact Ct_PB_seePillow kk l hst) hsd (by rw [hO]; exact wd_736) wd_738 wd_14 wd_86 wd_739 ⟨rfl, by decide +kernel, by decide +kernel, by decide +kernel⟩ (by decide) (by rw [hV]; decide) (sh_PB_seePillow kk), hd_nil⟩, (fun _ h => nomatch h)⟩)⟩)⟩)⟩)
    · rw [hO, hC, hR]; exact tk_use (fun pc h => by unfold T_PB_countPairsInStack; rw [Nat.ble_eq_true_of_le h]) tk_PB_countPairsInStack pc e he
  exact CtX_of hst (by decide) (by decide +kernel) hT (ro_PB_countPairsInStack kk) (by rw [Nat.zero_mul]; exact Nat.zero_le _)
def iv_PB_countPairsByStacks : List (Instr × Nat) := [(.invokevirtual 215, 1851409)]
theorem tk_PB_countPairsByStacks : (List.range 26).all (fun pc => match T_PB_countPairsByStacks pc with | none => true | some e => ck FT_ PT_ NT_ CT_ yX6_countPairsByStacks.cls cX6_countPairsByStacks (some .int) iv_PB_countPairsByStacks pc e) = true := by decide +kernel
theorem Ct_PB_countPairsByStacks (kk : Nat) (l : Launch) (hst : l.stackTraces = false) : CtX sdX l yX6_countPairsByStacks (.code yX6_countPairsByStacks cX6_countPairsByStacks 3 (some .int) :: lw_all) 10 0 (A_PB_countPairsByStacks kk) := by
  have hT : TabOK sdX l yX6_countPairsByStacks.cls cX6_countPairsByStacks 0 10 (some .int) T_PB_countPairsByStacks (call_PB_countPairsByStacks kk) (fun _ => []) := by
    intro x hF hH hO hC hG hV hR hsd pc e he
    refine ck_sound FT_ok PT_ok NT_ok CT_ok (invs := iv_PB_countPairsByStacks) ?_ ?_
    · exact (List.forall_mem_cons.mpr ⟨fun pc hd => ⟨cwX_V (C := RX6) (n := 1) hF hd (by rw [hH]; exact Ct_PB_countPairsInStack kk l hst) hsd (by rw [hO]; exact wd_732) wd_734 wd_13 wd_86 wd_735 ⟨rfl, by decide +kernel, by decide +kernel, by decide +kernel⟩ (by decide) (by rw [hV]; decide) (sh_PB_countPairsInStack kk), hd_nil⟩, (fun _ h => nomatch h)⟩)
    · rw [hO, hC, hR]; exact tk_use (fun pc h => by unfold T_PB_countPairsByStacks; rw [Nat.ble_eq_true_of_le h]) tk_PB_countPairsByStacks pc e he
  exact CtX_of hst (by decide) (by decide +kernel) hT (ro_PB_countPairsByStacks kk) (by rw [Nat.zero_mul]; exact Nat.zero_le _)
def iv_PB_pairsInTheWayByStacks : List (Instr × Nat) := [(.invokevirtual 206, 1835017)]
theorem tk_PB_pairsInTheWayByStacks : (List.range 5).all (fun pc => match T_PB_pairsInTheWayByStacks pc with | none => true | some e => ck FT_ PT_ NT_ CT_ yX6_pairsInTheWayByStacks.cls cX6_pairsInTheWayByStacks (some .int) iv_PB_pairsInTheWayByStacks pc e) = true := by decide +kernel
theorem Ct_PB_pairsInTheWayByStacks (kk : Nat) (l : Launch) (hst : l.stackTraces = false) : CtX sdX l yX6_pairsInTheWayByStacks (.code yX6_pairsInTheWayByStacks cX6_pairsInTheWayByStacks 1 (some .int) :: lw_all) 11 0 (A_PB_pairsInTheWayByStacks kk) := by
  have hT : TabOK sdX l yX6_pairsInTheWayByStacks.cls cX6_pairsInTheWayByStacks 0 11 (some .int) T_PB_pairsInTheWayByStacks (call_PB_pairsInTheWayByStacks kk) (fun _ => []) := by
    intro x hF hH hO hC hG hV hR hsd pc e he
    refine ck_sound FT_ok PT_ok NT_ok CT_ok (invs := iv_PB_pairsInTheWayByStacks) ?_ ?_
    · exact (List.forall_mem_cons.mpr ⟨fun pc hd => ⟨cwX_V (C := RX6) (n := 0) hF hd (by rw [hH]; exact Ct_PB_countPairsByStacks kk l hst) hsd (by rw [hO]; exact wd_728) wd_730 wd_12 wd_86 wd_731 ⟨rfl, by decide +kernel, by decide +kernel, by decide +kernel⟩ (by decide) (by rw [hV]; decide) (sh_PB_countPairsByStacks kk), hd_nil⟩, (fun _ h => nomatch h)⟩)
    · rw [hO, hC, hR]; exact tk_use (fun pc h => by unfold T_PB_pairsInTheWayByStacks; rw [Nat.ble_eq_true_of_le h]) tk_PB_pairsInTheWayByStacks pc e he
  exact CtX_of hst (by decide) (by decide +kernel) hT (ro_PB_pairsInTheWayByStacks kk) (by rw [Nat.zero_mul]; exact Nat.zero_le _)
def iv_PB_unloadableCount : List (Instr × Nat) := [(.invokevirtual 224, 851985)]
theorem tk_PB_unloadableCount : (List.range 32).all (fun pc => match T_PB_unloadableCount pc with | none => true | some e => ck FT_ PT_ NT_ CT_ yX6_unloadableCount.cls cX6_unloadableCount (some .int) iv_PB_unloadableCount pc e) = true := by decide +kernel
theorem Ct_PB_unloadableCount (kk : Nat) (l : Launch) (hst : l.stackTraces = false) : CtX sdX l yX6_unloadableCount (.code yX6_unloadableCount cX6_unloadableCount 3 (some .int) :: lw_all) 10 0 (A_PB_unloadableCount kk) := by
  have hT : TabOK sdX l yX6_unloadableCount.cls cX6_unloadableCount 0 10 (some .int) T_PB_unloadableCount (call_PB_unloadableCount kk) (fun _ => []) := by
    intro x hF hH hO hC hG hV hR hsd pc e he
    refine ck_sound FT_ok PT_ok NT_ok CT_ok (invs := iv_PB_unloadableCount) ?_ ?_
    · exact (List.forall_mem_cons.mpr ⟨fun pc hd => ⟨cwX_V (C := RX3) (n := 1) hF hd (by rw [hH]; exact Ct_State_faultOfUnload kk l hst) hsd (by rw [hO]; exact wd_745) wd_389 wd_390 wd_87 wd_391 ⟨rfl, by decide +kernel, by decide +kernel, by decide +kernel⟩ (by decide) (by rw [hV]; decide) (sh_State_faultOfUnload kk), hd_nil⟩, (fun _ h => nomatch h)⟩)
    · rw [hO, hC, hR]; exact tk_use (fun pc h => by unfold T_PB_unloadableCount; rw [Nat.ble_eq_true_of_le h]) tk_PB_unloadableCount pc e he
  exact CtX_of hst (by decide) (by decide +kernel) hT (ro_PB_unloadableCount kk) (by rw [Nat.zero_mul]; exact Nat.zero_le _)
def iv_PB_possibleShifts : List (Instr × Nat) := [(.invokevirtual 227, 868377)]
theorem tk_PB_possibleShifts : (List.range 47).all (fun pc => match T_PB_possibleShifts pc with | none => true | some e => ck FT_ PT_ NT_ CT_ yX6_possibleShifts.cls cX6_possibleShifts (some .int) iv_PB_possibleShifts pc e) = true := by decide +kernel
theorem Ct_PB_possibleShifts (kk : Nat) (l : Launch) (hst : l.stackTraces = false) : CtX sdX l yX6_possibleShifts (.code yX6_possibleShifts cX6_possibleShifts 4 (some .int) :: lw_all) 10 0 (A_PB_possibleShifts kk) := by
  have hT : TabOK sdX l yX6_possibleShifts.cls cX6_possibleShifts 0 10 (some .int) T_PB_possibleShifts (call_PB_possibleShifts kk) (fun _ => []) := by
    intro x hF hH hO hC hG hV hR hsd pc e he
    refine ck_sound FT_ok PT_ok NT_ok CT_ok (invs := iv_PB_possibleShifts) ?_ ?_
    · exact (List.forall_mem_cons.mpr ⟨fun pc hd => ⟨cwX_V (C := RX3) (n := 2) hF hd (by rw [hH]; exact Ct_State_faultOfShift kk l hst) hsd (by rw [hO]; exact wd_750) wd_414 wd_415 wd_87 wd_416 ⟨rfl, by decide +kernel, by decide +kernel, by decide +kernel⟩ (by decide) (by rw [hV]; decide) (sh_State_faultOfShift kk), hd_nil⟩, (fun _ h => nomatch h)⟩)
    · rw [hO, hC, hR]; exact tk_use (fun pc h => by unfold T_PB_possibleShifts; rw [Nat.ble_eq_true_of_le h]) tk_PB_possibleShifts pc e he
  exact CtX_of hst (by decide) (by decide +kernel) hT (ro_PB_possibleShifts kk) (by rw [Nat.zero_mul]; exact Nat.zero_le _)
def iv_PB_hasEarlierTurn : List (Instr × Nat) := [(.invokevirtual 212, 786449), (.invokevirtual 133, 1474585)]
theorem tk_PB_hasEarlierTurn : (List.range 44).all (fun pc => match T_PB_hasEarlierTurn pc with | none => true | some e => ck FT_ PT_ NT_ CT_ yX6_hasEarlierTurn.cls cX6_hasEarlierTurn (some .boolean) iv_PB_hasEarlierTurn pc e) = true := by decide +kernel
theorem Ct_PB_hasEarlierTurn (kk : Nat) (l : Launch) (hst : l.stackTraces = false) : CtX sdX l yX6_hasEarlierTurn (.code yX6_hasEarlierTurn cX6_hasEarlierTurn 5 (some .boolean) :: lw_all) 10 0 (A_PB_hasEarlierTurn kk) := by
  have hT : TabOK sdX l yX6_hasEarlierTurn.cls cX6_hasEarlierTurn 0 10 (some .boolean) T_PB_hasEarlierTurn (call_PB_hasEarlierTurn kk) (fun _ => []) := by
    intro x hF hH hO hC hG hV hR hsd pc e he
    refine ck_sound FT_ok PT_ok NT_ok CT_ok (invs := iv_PB_hasEarlierTurn) ?_ ?_
    · exact (List.forall_mem_cons.mpr ⟨fun pc hd => ⟨cwX_V (C := RX3) (n := 1) hF hd (by rw [hH]; exact Ct_State_legsIn kk l hst) hsd (by rw [hO]; exact wd_716) wd_717 wd_718 wd_87 wd_719 ⟨rfl, by decide +kernel, by decide +kernel, by decide +kernel⟩ (by decide) (by rw [hV]; decide) (sh_State_legsIn kk), hd_nil⟩, (List.forall_mem_cons.mpr ⟨fun pc hd => ⟨cwX_V (C := RX6) (n := 2) hF hd (by rw [hH]; exact Ct_PB_isOlder kk l hst) hsd (by rw [hO]; exact wd_1287) wd_1289 wd_20 wd_86 wd_1290 ⟨rfl, by decide +kernel, by decide +kernel, by decide +kernel⟩ (by decide) (by rw [hV]; decide) (sh_PB_isOlder kk), hd_nil⟩, (fun _ h => nomatch h)⟩)⟩)
    · rw [hO, hC, hR]; exact tk_use (fun pc h => by unfold T_PB_hasEarlierTurn; rw [Nat.ble_eq_true_of_le h]) tk_PB_hasEarlierTurn pc e he
  exact CtX_of hst (by decide) (by decide +kernel) hT (ro_PB_hasEarlierTurn kk) (by rw [Nat.zero_mul]; exact Nat.zero_le _)
def iv_PB_countEarlierTurns : List (Instr × Nat) := [(.invokevirtual 209, 65553), (.invokevirtual 233, 1949721)]
theorem tk_PB_countEarlierTurns : (List.range 44).all (fun pc => match T_PB_countEarlierTurns pc with | none => true | some e => ck FT_ PT_ NT_ CT_ yX6_countEarlierTurns.cls cX6_countEarlierTurns (some .int) iv_PB_countEarlierTurns pc e) = true := by decide +kernel
theorem Ct_PB_countEarlierTurns (kk : Nat) (l : Launch) (hst : l.stackTraces = false) : CtX sdX l yX6_countEarlierTurns (.code yX6_countEarlierTurns cX6_countEarlierTurns 4 (some .int) :: lw_all) 11 0 (A_PB_countEarlierTurns kk) := by
  have hT : TabOK sdX l yX6_countEarlierTurns.cls cX6_countEarlierTurns 0 11 (some .int) T_PB_countEarlierTurns (call_PB_countEarlierTurns kk) (fun _ => []) := by
    intro x hF hH hO hC hG hV hR hsd pc e he
    refine ck_sound FT_ok PT_ok NT_ok CT_ok (invs := iv_PB_countEarlierTurns) ?_ ?_
    · exact (List.forall_mem_cons.mpr ⟨fun pc hd => ⟨cwX_V (C := RX0) (n := 1) hF hd (by rw [hH]; exact Ct_Cargo_isTaken kk l hst) hsd (by rw [hO]; exact wd_709) wd_377 wd_378 wd_88 wd_379 ⟨rfl, by decide +kernel, by decide +kernel, by decide +kernel⟩ (by decide) (by rw [hV]; decide) (sh_Cargo_isTaken kk), hd_nil⟩, (List.forall_mem_cons.mpr ⟨fun pc hd => ⟨cwX_V (C := RX6) (n := 2) hF hd (by rw [hH]; exact Ct_PB_hasEarlierTurn kk l hst) hsd (by rw [hO]; exact wd_1309) wd_1311 wd_22 wd_86 wd_1312 ⟨rfl, by decide +kernel, by decide +kernel, by decide +kernel⟩ (by decide) (by rw [hV]; decide) (sh_PB_hasEarlierTurn kk), hd_nil⟩, (fun _ h => nomatch h)⟩)⟩)
    · rw [hO, hC, hR]; exact tk_use (fun pc h => by unfold T_PB_countEarlierTurns; rw [Nat.ble_eq_true_of_le h]) tk_PB_countEarlierTurns pc e he
  exact CtX_of hst (by decide) (by decide +kernel) hT (ro_PB_countEarlierTurns kk) (by rw [Nat.zero_mul]; exact Nat.zero_le _)
def iv_PB_pillowByTurn : List (Instr × Nat) := [(.invokevirtual 209, 65553), (.invokevirtual 230, 1933329), (.invokevirtual 111, 131089)]
theorem tk_PB_pillowByTurn : (List.range 50).all (fun pc => match T_PB_pillowByTurn pc with | none => true | some e => ck FT_ PT_ NT_ CT_ yX6_pillowByTurn.cls cX6_pillowByTurn (some .int) iv_PB_pillowByTurn pc e) = true := by decide +kernel
theorem Ct_PB_pillowByTurn (kk : Nat) (l : Launch) (hst : l.stackTraces = false) : CtX sdX l yX6_pillowByTurn (.code yX6_pillowByTurn cX6_pillowByTurn 3 (some .int) :: lw_all) 12 41 (A_PB_pillowByTurn kk) := by
  have hT : TabOK sdX l yX6_pillowByTurn.cls cX6_pillowByTurn 1 12 (some .int) T_PB_pillowByTurn (call_PB_pillowByTurn kk) (fun _ => []) := by
    intro x hF hH hO hC hG hV hR hsd pc e he
    refine ck_sound FT_ok PT_ok NT_ok CT_ok (invs := iv_PB_pillowByTurn) ?_ ?_
    · exact (List.forall_mem_cons.mpr ⟨fun pc hd => ⟨cwX_V (C := RX0) (n := 1) hF hd (by rw [hH]; exact Ct_Cargo_isTaken kk l hst) hsd (by rw [hO]; exact wd_709) wd_377 wd_378 wd_88 wd_379 ⟨rfl, by decide +kernel, by decide +kernel, by decide +kernel⟩ (by decide) (by rw [hV]; decide) (sh_Cargo_isTaken kk), hd_nil⟩, (List.forall_mem_cons.mpr ⟨fun pc hd => ⟨cwX_V (C := RX6) (n := 1) hF hd (by rw [hH]; exact Ct_PB_countEarlierTurns kk l hst) hsd (by rw [hO]; exact wd_1305) wd_1307 wd_21 wd_86 wd_1308 ⟨rfl, by decide +kernel, by decide +kernel, by decide +kernel⟩ (by decide) (by rw [hV]; decide) (sh_PB_countEarlierTurns kk), hd_nil⟩, (List.forall_mem_cons.mpr ⟨fun pc hd => ⟨cwX_V (C := RX0) (n := 1) hF hd (by rw [hH]; exact Ct_Cargo_numberIn kk l hst) hsd (by rw [hO]; exact wd_1170) wd_607 wd_608 wd_88 wd_609 ⟨rfl, by decide +kernel, by decide +kernel, by decide +kernel⟩ (by decide) (by rw [hV]; decide) (sh_Cargo_numberIn kk), hd_nil⟩, (fun _ h => nomatch h)⟩)⟩)⟩)
    · rw [hO, hC, hR]; exact tk_use (fun pc h => by unfold T_PB_pillowByTurn; rw [Nat.ble_eq_true_of_le h]) tk_PB_pillowByTurn pc e he
  exact CtX_of hst (by decide) (by decide +kernel) hT (ro_PB_pillowByTurn kk) (Nat.mul_le_mul_left 1 (Nat.succ_le_succ (Nat.min_le_right _ _)))
def iv_PB_countHeavierBays : List (Instr × Nat) := [(.invokevirtual 239, 245777)]
theorem tk_PB_countHeavierBays : (List.range 67).all (fun pc => match T_PB_countHeavierBays pc with | none => true | some e => ck FT_ PT_ NT_ CT_ yX6_countHeavierBays.cls cX6_countHeavierBays (some .int) iv_PB_countHeavierBays pc e) = true := by decide +kernel
theorem Ct_PB_countHeavierBays (kk : Nat) (l : Launch) (hst : l.stackTraces = false) : CtX sdX l yX6_countHeavierBays (.code yX6_countHeavierBays cX6_countHeavierBays 6 (some .int) :: lw_all) 9 0 (A_PB_countHeavierBays kk) := by
  have hT : TabOK sdX l yX6_countHeavierBays.cls cX6_countHeavierBays 0 9 (some .int) T_PB_countHeavierBays (call_PB_countHeavierBays kk) (fun _ => []) := by
    intro x hF hH hO hC hG hV hR hsd pc e he
    refine ck_sound FT_ok PT_ok NT_ok CT_ok (invs := iv_PB_countHeavierBays) ?_ ?_
    · exact (List.forall_mem_cons.mpr ⟨fun pc hd => ⟨cwX_V (C := RX0) (n := 1) hF hd (by rw [hH]; exact Ct_Cargo_weightOfBay kk l hst) hsd (by rw [hO]; exact wd_1092) wd_665 wd_666 wd_88 wd_667 ⟨rfl, by decide +kernel, by decide +kernel, by decide +kernel⟩ (by decide) (by rw [hV]; decide) (sh_Cargo_weightOfBay kk), hd_nil⟩, (fun _ h => nomatch h)⟩)
    · rw [hO, hC, hR]; exact tk_use (fun pc h => by unfold T_PB_countHeavierBays; rw [Nat.ble_eq_true_of_le h]) tk_PB_countHeavierBays pc e he
  exact CtX_of hst (by decide) (by decide +kernel) hT (ro_PB_countHeavierBays kk) (by rw [Nat.zero_mul]; exact Nat.zero_le _)
def iv_PB_bayByWeight : List (Instr × Nat) := [(.invokevirtual 236, 1982481)]
theorem tk_PB_bayByWeight : (List.range 26).all (fun pc => match T_PB_bayByWeight pc with | none => true | some e => ck FT_ PT_ NT_ CT_ yX6_bayByWeight.cls cX6_bayByWeight (some .int) iv_PB_bayByWeight pc e) = true := by decide +kernel
theorem Ct_PB_bayByWeight (kk : Nat) (l : Launch) (hst : l.stackTraces = false) : CtX sdX l yX6_bayByWeight (.code yX6_bayByWeight cX6_bayByWeight 3 (some .int) :: lw_all) 10 11 (A_PB_bayByWeight kk) := by
  have hT : TabOK sdX l yX6_bayByWeight.cls cX6_bayByWeight 1 10 (some .int) T_PB_bayByWeight (call_PB_bayByWeight kk) (fun _ => []) := by
    intro x hF hH hO hC hG hV hR hsd pc e he
    refine ck_sound FT_ok PT_ok NT_ok CT_ok (invs := iv_PB_bayByWeight) ?_ ?_
    · exact (List.forall_mem_cons.mpr ⟨fun pc hd => ⟨cwX_V (C := RX6) (n := 1) hF hd (by rw [hH]; exact Ct_PB_countHeavierBays kk l hst) hsd (by rw [hO]; exact wd_1320) wd_1322 wd_23 wd_86 wd_1323 ⟨rfl, by decide +kernel, by decide +kernel, by decide +kernel⟩ (by decide) (by rw [hV]; decide) (sh_PB_countHeavierBays kk), hd_nil⟩, (fun _ h => nomatch h)⟩)
    · rw [hO, hC, hR]; exact tk_use (fun pc h => by unfold T_PB_bayByWeight; rw [Nat.ble_eq_true_of_le h]) tk_PB_bayByWeight pc e he
  exact CtX_of hst (by decide) (by decide +kernel) hT (ro_PB_bayByWeight kk) (Nat.mul_le_mul_left 1 (Nat.succ_le_succ (Nat.min_le_right _ _)))
def iv_PB_loadedTotal : List (Instr × Nat) := []
theorem tk_PB_loadedTotal : (List.range 11).all (fun pc => match T_PB_loadedTotal pc with | none => true | some e => ck FT_ PT_ NT_ CT_ yX6_loadedTotal.cls cX6_loadedTotal (some .int) iv_PB_loadedTotal pc e) = true := by decide +kernel
theorem Ct_PB_loadedTotal (kk : Nat) (l : Launch) (hst : l.stackTraces = false) : CtX sdX l yX6_loadedTotal (.code yX6_loadedTotal cX6_loadedTotal 1 (some .int) :: lw_all) 6 0 (A_PB_loadedTotal kk) := by
  have hT : TabOK sdX l yX6_loadedTotal.cls cX6_loadedTotal 0 6 (some .int) T_PB_loadedTotal (call_PB_loadedTotal kk) (fun _ => []) := by
    intro x hF hH hO hC hG hV hR hsd pc e he
    refine ck_sound FT_ok PT_ok NT_ok CT_ok (invs := iv_PB_loadedTotal) ?_ ?_
    · exact (fun _ h => nomatch h)
    · rw [hO, hC, hR]; exact tk_use (fun pc h => by unfold T_PB_loadedTotal; rw [Nat.ble_eq_true_of_le h]) tk_PB_loadedTotal pc e he
  exact CtX_of hst (by decide) (by decide +kernel) hT (ro_PB_loadedTotal kk) (by rw [Nat.zero_mul]; exact Nat.zero_le _)
def iv_PB_deliveredTotal : List (Instr × Nat) := []
theorem tk_PB_deliveredTotal : (List.range 11).all (fun pc => match T_PB_deliveredTotal pc with | none => true | some e => ck FT_ PT_ NT_ CT_ yX6_deliveredTotal.cls cX6_deliveredTotal (some .int) iv_PB_deliveredTotal pc e) = true := by decide +kernel
theorem Ct_PB_deliveredTotal (kk : Nat) (l : Launch) (hst : l.stackTraces = false) : CtX sdX l yX6_deliveredTotal (.code yX6_deliveredTotal cX6_deliveredTotal 1 (some .int) :: lw_all) 6 0 (A_PB_deliveredTotal kk) := by
  have hT : TabOK sdX l yX6_deliveredTotal.cls cX6_deliveredTotal 0 6 (some .int) T_PB_deliveredTotal (call_PB_deliveredTotal kk) (fun _ => []) := by
    intro x hF hH hO hC hG hV hR hsd pc e he
    refine ck_sound FT_ok PT_ok NT_ok CT_ok (invs := iv_PB_deliveredTotal) ?_ ?_
    · exact (fun _ h => nomatch h)
    · rw [hO, hC, hR]; exact tk_use (fun pc h => by unfold T_PB_deliveredTotal; rw [Nat.ble_eq_true_of_le h]) tk_PB_deliveredTotal pc e he
  exact CtX_of hst (by decide) (by decide +kernel) hT (ro_PB_deliveredTotal kk) (by rw [Nat.zero_mul]; exact Nat.zero_le _)
def iv_PB_deliveredWeight : List (Instr × Nat) := []
theorem tk_PB_deliveredWeight : (List.range 11).all (fun pc => match T_PB_deliveredWeight pc with | none => true | some e => ck FT_ PT_ NT_ CT_ yX6_deliveredWeight.cls cX6_deliveredWeight (some .int) iv_PB_deliveredWeight pc e) = true := by decide +kernel
theorem Ct_PB_deliveredWeight (kk : Nat) (l : Launch) (hst : l.stackTraces = false) : CtX sdX l yX6_deliveredWeight (.code yX6_deliveredWeight cX6_deliveredWeight 1 (some .int) :: lw_all) 6 0 (A_PB_deliveredWeight kk) := by
  have hT : TabOK sdX l yX6_deliveredWeight.cls cX6_deliveredWeight 0 6 (some .int) T_PB_deliveredWeight (call_PB_deliveredWeight kk) (fun _ => []) := by
    intro x hF hH hO hC hG hV hR hsd pc e he
    refine ck_sound FT_ok PT_ok NT_ok CT_ok (invs := iv_PB_deliveredWeight) ?_ ?_
    · exact (fun _ h => nomatch h)
    · rw [hO, hC, hR]; exact tk_use (fun pc h => by unfold T_PB_deliveredWeight; rw [Nat.ble_eq_true_of_le h]) tk_PB_deliveredWeight pc e he
  exact CtX_of hst (by decide) (by decide +kernel) hT (ro_PB_deliveredWeight kk) (by rw [Nat.zero_mul]; exact Nat.zero_le _)
def iv_PB_drillTotal : List (Instr × Nat) := []
theorem tk_PB_drillTotal : (List.range 11).all (fun pc => match T_PB_drillTotal pc with | none => true | some e => ck FT_ PT_ NT_ CT_ yX6_drillTotal.cls cX6_drillTotal (some .int) iv_PB_drillTotal pc e) = true := by decide +kernel
theorem Ct_PB_drillTotal (kk : Nat) (l : Launch) (hst : l.stackTraces = false) : CtX sdX l yX6_drillTotal (.code yX6_drillTotal cX6_drillTotal 1 (some .int) :: lw_all) 6 0 (A_PB_drillTotal kk) := by
  have hT : TabOK sdX l yX6_drillTotal.cls cX6_drillTotal 0 6 (some .int) T_PB_drillTotal (call_PB_drillTotal kk) (fun _ => []) := by
    intro x hF hH hO hC hG hV hR hsd pc e he
    refine ck_sound FT_ok PT_ok NT_ok CT_ok (invs := iv_PB_drillTotal) ?_ ?_
    · exact (fun _ h => nomatch h)
    · rw [hO, hC, hR]; exact tk_use (fun pc h => by unfold T_PB_drillTotal; rw [Nat.ble_eq_true_of_le h]) tk_PB_drillTotal pc e he
  exact CtX_of hst (by decide) (by decide +kernel) hT (ro_PB_drillTotal kk) (by rw [Nat.zero_mul]; exact Nat.zero_le _)
def iv_PB_capsizedTotal : List (Instr × Nat) := []
theorem tk_PB_capsizedTotal : (List.range 11).all (fun pc => match T_PB_capsizedTotal pc with | none => true | some e => ck FT_ PT_ NT_ CT_ yX6_capsizedTotal.cls cX6_capsizedTotal (some .int) iv_PB_capsizedTotal pc e) = true := by decide +kernel
theorem Ct_PB_capsizedTotal (kk : Nat) (l : Launch) (hst : l.stackTraces = false) : CtX sdX l yX6_capsizedTotal (.code yX6_capsizedTotal cX6_capsizedTotal 1 (some .int) :: lw_all) 6 0 (A_PB_capsizedTotal kk) := by
  have hT : TabOK sdX l yX6_capsizedTotal.cls cX6_capsizedTotal 0 6 (some .int) T_PB_capsizedTotal (call_PB_capsizedTotal kk) (fun _ => []) := by
    intro x hF hH hO hC hG hV hR hsd pc e he
    refine ck_sound FT_ok PT_ok NT_ok CT_ok (invs := iv_PB_capsizedTotal) ?_ ?_
    · exact (fun _ h => nomatch h)
    · rw [hO, hC, hR]; exact tk_use (fun pc h => by unfold T_PB_capsizedTotal; rw [Nat.ble_eq_true_of_le h]) tk_PB_capsizedTotal pc e he
  exact CtX_of hst (by decide) (by decide +kernel) hT (ro_PB_capsizedTotal kk) (by rw [Nat.zero_mul]; exact Nat.zero_le _)
def iv_PB_sumOfAges : List (Instr × Nat) := [(.invokevirtual 209, 65553), (.invokevirtual 123, 802833)]
theorem tk_PB_sumOfAges : (List.range 43).all (fun pc => match T_PB_sumOfAges pc with | none => true | some e => ck FT_ PT_ NT_ CT_ yX6_sumOfAges.cls cX6_sumOfAges (some .int) iv_PB_sumOfAges pc e) = true := by decide +kernel
theorem Ct_PB_sumOfAges (kk : Nat) (l : Launch) (hst : l.stackTraces = false) : CtX sdX l yX6_sumOfAges (.code yX6_sumOfAges cX6_sumOfAges 3 (some .int) :: lw_all) 9 0 (A_PB_sumOfAges kk) := by
  have hT : TabOK sdX l yX6_sumOfAges.cls cX6_sumOfAges 0 9 (some .int) T_PB_sumOfAges (call_PB_sumOfAges kk) (fun _ => []) := by
    intro x hF hH hO hC hG hV hR hsd pc e he
    refine ck_sound FT_ok PT_ok NT_ok CT_ok (invs := iv_PB_sumOfAges) ?_ ?_
    · exact (List.forall_mem_cons.mpr ⟨fun pc hd => ⟨cwX_V (C := RX0) (n := 1) hF hd (by rw [hH]; exact Ct_Cargo_isTaken kk l hst) hsd (by rw [hO]; exact wd_709) wd_377 wd_378 wd_88 wd_379 ⟨rfl, by decide +kernel, by decide +kernel, by decide +kernel⟩ (by decide) (by rw [hV]; decide) (sh_Cargo_isTaken kk), hd_nil⟩, (List.forall_mem_cons.mpr ⟨fun pc hd => ⟨cwX_V (C := RX3) (n := 1) hF hd (by rw [hH]; exact Ct_State_ageIn kk l hst) hsd (by rw [hO]; exact wd_1216) wd_1217 wd_1218 wd_87 wd_1219 ⟨rfl, by decide +kernel, by decide +kernel, by decide +kernel⟩ (by decide) (by rw [hV]; decide) (sh_State_ageIn kk), hd_nil⟩, (fun _ h => nomatch h)⟩)⟩)
    · rw [hO, hC, hR]; exact tk_use (fun pc h => by unfold T_PB_sumOfAges; rw [Nat.ble_eq_true_of_le h]) tk_PB_sumOfAges pc e he
  exact CtX_of hst (by decide) (by decide +kernel) hT (ro_PB_sumOfAges kk) (by rw [Nat.zero_mul]; exact Nat.zero_le _)
def iv_PB_meanAge : List (Instr × Nat) := [(.invokevirtual 91, 196617), (.invokevirtual 266, 2097161)]
theorem tk_PB_meanAge : (List.range 32).all (fun pc => match T_PB_meanAge pc with | none => true | some e => ck FT_ PT_ NT_ CT_ yX6_meanAge.cls cX6_meanAge (some .double) iv_PB_meanAge pc e) = true := by decide +kernel
theorem Ct_PB_meanAge (kk : Nat) (l : Launch) (hst : l.stackTraces = false) : CtX sdX l yX6_meanAge (.code yX6_meanAge cX6_meanAge 2 (some .double) :: lw_all) 10 1 (A_PB_meanAge kk) := by
  have hT : TabOK sdX l yX6_meanAge.cls cX6_meanAge 1 10 (some .double) T_PB_meanAge (call_PB_meanAge kk) (fun _ => []) := by
    intro x hF hH hO hC hG hV hR hsd pc e he
    refine ck_sound FT_ok PT_ok NT_ok CT_ok (invs := iv_PB_meanAge) ?_ ?_
    · exact (List.forall_mem_cons.mpr ⟨fun pc hd => ⟨cwX_V (C := RX0) (n := 0) hF hd (by rw [hH]; exact Ct_Cargo_countPillows kk l hst) hsd (by rw [hO]; exact wd_647) wd_648 wd_649 wd_88 wd_650 ⟨rfl, by decide +kernel, by decide +kernel, by decide +kernel⟩ (by decide) (by rw [hV]; decide) (sh_Cargo_countPillows kk), hd_nil⟩, (List.forall_mem_cons.mpr ⟨fun pc hd => ⟨cwX_V (C := RX6) (n := 0) hF hd (by rw [hH]; exact Ct_PB_sumOfAges kk l hst) hsd (by rw [hO]; exact wd_1350) wd_1352 wd_24 wd_86 wd_1353 ⟨rfl, by decide +kernel, by decide +kernel, by decide +kernel⟩ (by decide) (by rw [hV]; decide) (sh_PB_sumOfAges kk), hd_nil⟩, (fun _ h => nomatch h)⟩)⟩)
    · rw [hO, hC, hR]; exact tk_use (fun pc h => by unfold T_PB_meanAge; rw [Nat.ble_eq_true_of_le h]) tk_PB_meanAge pc e he
  exact CtX_of (F := 0) hst (by decide) (by decide +kernel) hT (ro0 (ro_PB_meanAge kk) (fun _ _ => rfl)) (by decide)
def iv_PB_capsizedShare : List (Instr × Nat) := []
theorem tk_PB_capsizedShare : (List.range 38).all (fun pc => match T_PB_capsizedShare pc with | none => true | some e => ck FT_ PT_ NT_ CT_ yX6_capsizedShare.cls cX6_capsizedShare (some .float) iv_PB_capsizedShare pc e) = true := by decide +kernel
theorem Ct_PB_capsizedShare (kk : Nat) (l : Launch) (hst : l.stackTraces = false) : CtX sdX l yX6_capsizedShare (.code yX6_capsizedShare cX6_capsizedShare 2 (some .float) :: lw_all) 6 1 (A_PB_capsizedShare kk) := by
  have hT : TabOK sdX l yX6_capsizedShare.cls cX6_capsizedShare 1 6 (some .float) T_PB_capsizedShare (call_PB_capsizedShare kk) (fun _ => []) := by
    intro x hF hH hO hC hG hV hR hsd pc e he
    refine ck_sound FT_ok PT_ok NT_ok CT_ok (invs := iv_PB_capsizedShare) ?_ ?_
    · exact (fun _ h => nomatch h)
    · rw [hO, hC, hR]; exact tk_use (fun pc h => by unfold T_PB_capsizedShare; rw [Nat.ble_eq_true_of_le h]) tk_PB_capsizedShare pc e he
  exact CtX_of (F := 0) hst (by decide) (by decide +kernel) hT (ro0 (ro_PB_capsizedShare kk) (fun _ _ => rfl)) (by decide)
def iv_PB_isConsistent : List (Instr × Nat) := [(.invokevirtual 137, 262153), (.invokevirtual 140, 278537), (.invokevirtual 203, 1802249), (.invokevirtual 206, 1835017), (.invokevirtual 269, 770065), (.invokevirtual 91, 196617)]
theorem tk_PB_isConsistent : (List.range 87).all (fun pc => match T_PB_isConsistent pc with | none => true | some e => ck FT_ PT_ NT_ CT_ yX6_isConsistent.cls cX6_isConsistent (some .boolean) iv_PB_isConsistent pc e) = true := by decide +kernel
theorem Ct_PB_isConsistent (kk : Nat) (l : Launch) (hst : l.stackTraces = false) : CtX sdX l yX6_isConsistent (.code yX6_isConsistent cX6_isConsistent 2 (some .boolean) :: lw_all) 11 0 (A_PB_isConsistent kk) := by
  have hT : TabOK sdX l yX6_isConsistent.cls cX6_isConsistent 0 11 (some .boolean) T_PB_isConsistent (call_PB_isConsistent kk) (fun _ => []) := by
    intro x hF hH hO hC hG hV hR hsd pc e he
    refine ck_sound FT_ok PT_ok NT_ok CT_ok (invs := iv_PB_isConsistent) ?_ ?_
    · exact (List.forall_mem_cons.mpr ⟨fun pc hd => ⟨cwX_V (C := RX0) (n := 0) hF hd (by rw [hH]; exact Ct_Cargo_momentOfPillows kk l hst) hsd (by rw [hO]; exact wd_655) wd_373 wd_374 wd_88 wd_375 ⟨rfl, by decide +kernel, by decide +kernel, by decide +kernel⟩ (by decide) (by rw [hV]; decide) (sh_Cargo_momentOfPillows kk), hd_nil⟩, (List.forall_mem_cons.mpr ⟨fun pc hd => ⟨cwX_V (C := RX0) (n := 0) hF hd (by rw [hH]; exact Ct_Cargo_momentOfBays kk l hst) hsd (by rw [hO]; exact wd_660) wd_661 wd_662 wd_88 wd_663 ⟨rfl, by decide +kernel, by decide +kernel, by decide +kernel⟩ (by decide) (by rw [hV]; decide) (sh_Cargo_momentOfBays kk), hd_nil⟩, (List.forall_mem_cons.mpr ⟨fun pc hd => ⟨cwX_V (C := RX6) (n := 0) hF hd (by rw [hH]; exact Ct_PB_countPairs kk l hst) hsd (by rw [hO]; exact wd_705) wd_707 wd_10 wd_86 wd_708 ⟨rfl, by decide +kernel, by decide +kernel, by decide +kernel⟩ (by decide) (by rw [hV]; decide) (sh_PB_countPairs kk), hd_nil⟩, (List.forall_mem_cons.mpr ⟨fun pc hd => ⟨cwX_V (C := RX6) (n := 0) hF hd (by rw [hH]; exact Ct_PB_countPairsByStacks kk l hst) hsd (by rw [hO]; exact wd_728) wd_730 wd_12 wd_86 wd_731 ⟨rfl, by decide +kernel, by decide +kernel, by decide +kernel⟩ (by decide) (by rw [hV]; decide) (sh_PB_countPairsByStacks kk), hd_nil⟩, (List.forall_mem_cons.mpr ⟨fun pc hd => ⟨cwX_V (C := RX3) (n := 1) hF hd (by rw [hH]; exact Ct_State_isWithinLimit kk l hst) hsd (by rw [hO]; exact wd_775) wd_382 wd_383 wd_87 wd_384 ⟨rfl, by decide +kernel, by decide +kernel, by decide +kernel⟩ (by decide) (by rw [hV]; decide) (sh_State_isWithinLimit kk), hd_nil⟩, (List.forall_mem_cons.mpr ⟨fun pc hd => ⟨cwX_V (C := RX0) (n := 0) hF hd (by rw [hH]; exact Ct_Cargo_countPillows kk l hst) hsd (by rw [hO]; exact wd_647) wd_648 wd_649 wd_88 wd_650 ⟨rfl, by decide +kernel, by decide +kernel, by decide +kernel⟩ (by decide) (by rw [hV]; decide) (sh_Cargo_countPillows kk), hd_nil⟩, (fun _ h => nomatch h)⟩)⟩)⟩)⟩)⟩)⟩)
    · rw [hO, hC, hR]; exact tk_use (fun pc h => by unfold T_PB_isConsistent; rw [Nat.ble_eq_true_of_le h]) tk_PB_isConsistent pc e he
  exact CtX_of hst (by decide) (by decide +kernel) hT (ro_PB_isConsistent kk) (by rw [Nat.zero_mul]; exact Nat.zero_le _)
def iv_PB_separate : List (Instr × Nat) := [(.invokevirtual 281, 14909449), (.invokevirtual 288, 14876758)]
theorem tk_PB_separate : (List.range 21).all (fun pc => match T_PB_separate pc with | none => true | some e => ck FT_ PT_ NT_ CT_ yX6_separate.cls cX6_separate none iv_PB_separate pc e) = true := by decide +kernel
theorem Ct_PB_separate (kk : Nat) (l : Launch) (hst : l.stackTraces = false) : CtX sdX l yX6_separate (.code yX6_separate cX6_separate 1 none :: lw_all) 9 1 (A_PB_separate kk) := by
  have hT : TabOK sdX l yX6_separate.cls cX6_separate 1 9 none T_PB_separate (call_PB_separate kk) (fun _ => []) := by
    intro x hF hH hO hC hG hV hR hsd pc e he
    refine ck_sound FT_ok PT_ok NT_ok CT_ok (invs := iv_PB_separate) ?_ ?_
    · exact (List.forall_mem_cons.mpr ⟨fun pc hd => ⟨cwJ_blen hF hd hsd (by rw [hO]; exact wd_1069) (by rw [hV]; decide), hd_nil⟩, (List.forall_mem_cons.mpr ⟨fun pc hd => ⟨cwJ_bapc hF hd hsd (by rw [hO]; exact wd_1070) (by rw [hV]; decide), hd_nil⟩, (fun _ h => nomatch h)⟩)⟩)
    · rw [hO, hC, hR]; exact tk_use (fun pc h => by unfold T_PB_separate; rw [Nat.ble_eq_true_of_le h]) tk_PB_separate pc e he
  exact CtX_of (F := 0) hst (by decide) (by decide +kernel) hT (ro0 (ro_PB_separate kk) (fun _ _ => rfl)) (by decide)
def iv_PB_renderPillow : List (Instr × Nat) := [(.invokevirtual 111, 131089), (.invokevirtual 284, 14893142), (.invokevirtual 288, 14876758), (.invokevirtual 117, 147473), (.invokevirtual 120, 163857)]
theorem tk_PB_renderPillow : (List.range 78).all (fun pc => match T_PB_renderPillow pc with | none => true | some e => ck FT_ PT_ NT_ CT_ yX6_renderPillow.cls cX6_renderPillow none iv_PB_renderPillow pc e) = true := by decide +kernel
theorem Ct_PB_renderPillow (kk : Nat) (l : Launch) (hst : l.stackTraces = false) : CtX sdX l yX6_renderPillow (.code yX6_renderPillow cX6_renderPillow 2 none :: lw_all) 9 5 (A_PB_renderPillow kk) := by
  have hT : TabOK sdX l yX6_renderPillow.cls cX6_renderPillow 5 9 none T_PB_renderPillow (call_PB_renderPillow kk) (fun _ => []) := by
    intro x hF hH hO hC hG hV hR hsd pc e he
    refine ck_sound FT_ok PT_ok NT_ok CT_ok (invs := iv_PB_renderPillow) ?_ ?_
    · exact (List.forall_mem_cons.mpr ⟨fun pc hd => ⟨cwX_V (C := RX0) (n := 1) hF hd (by rw [hH]; exact Ct_Cargo_numberIn kk l hst) hsd (by rw [hO]; exact wd_1170) wd_607 wd_608 wd_88 wd_609 ⟨rfl, by decide +kernel, by decide +kernel, by decide +kernel⟩ (by decide) (by rw [hV]; decide) (sh_Cargo_numberIn kk), hd_nil⟩, (List.forall_mem_cons.mpr ⟨fun pc hd => ⟨cwJ_bapi hF hd hsd (by rw [hO]; exact wd_1093) (by rw [hV]; decide), hd_nil⟩, (List.forall_mem_cons.mpr ⟨fun pc hd => ⟨cwJ_bapc hF hd hsd (by rw [hO]; exact wd_1070) (by rw [hV]; decide), hd_nil⟩, (List.forall_mem_cons.mpr ⟨fun pc hd => ⟨cwX_V (C := RX0) (n := 1) hF hd (by rw [hH]; exact Ct_Cargo_weightIn kk l hst) hsd (by rw [hO]; exact wd_1186) wd_410 wd_411 wd_88 wd_412 ⟨rfl, by decide +kernel, by decide +kernel, by decide +kernel⟩ (by decide) (by rw [hV]; decide) (sh_Cargo_weightIn kk), hd_nil⟩, (List.forall_mem_cons.mpr ⟨fun pc hd => ⟨cwX_V (C := RX0) (n := 1) hF hd (by rw [hH]; exact Ct_Cargo_destinationIn kk l hst) hsd (by rw [hO]; exact wd_1194) wd_405 wd_406 wd_88 wd_407 ⟨rfl, by decide +kernel, by decide +kernel, by decide +kernel⟩ (by decide) (by rw [hV]; decide) (sh_Cargo_destinationIn kk), hd_nil⟩, (fun _ h => nomatch h)⟩)⟩)⟩)⟩)⟩)
    · rw [hO, hC, hR]; exact tk_use (fun pc h => by unfold T_PB_renderPillow; rw [Nat.ble_eq_true_of_le h]) tk_PB_renderPillow pc e he
  exact CtX_of (F := 0) hst (by decide) (by decide +kernel) hT (ro0 (ro_PB_renderPillow kk) (fun _ _ => rfl)) (by decide)
def iv_PB_renderStack : List (Instr × Nat) := [(.invokestatic 97, 2441288), (.invokevirtual 272, 14925840), (.invokevirtual 104, 81945), (.invokestatic 129, 2375689), (.invokevirtual 275, 2179144), (.invokevirtual 278, 2163024), (.invokevirtual 281, 14909449)]
theorem tk_PB_renderStack : (List.range 62).all (fun pc => match T_PB_renderStack pc with | none => true | some e => ck FT_ PT_ NT_ CT_ yX6_renderStack.cls cX6_renderStack (some .int) iv_PB_renderStack pc e) = true := by decide +kernel
theorem Ct_PB_renderStack (kk : Nat) (l : Launch) (hst : l.stackTraces = false) : CtX sdX l yX6_renderStack (.code yX6_renderStack cX6_renderStack 4 (some .int) :: lw_all) 10 90 (A_PB_renderStack kk) := by
  have hT : TabOK sdX l yX6_renderStack.cls cX6_renderStack 6 10 (some .int) T_PB_renderStack (call_PB_renderStack kk) (fun _ => []) := by
    intro x hF hH hO hC hG hV hR hsd pc e he
    refine ck_sound FT_ok PT_ok NT_ok CT_ok (invs := iv_PB_renderStack) ?_ ?_
    · exact (List.forall_mem_cons.mpr ⟨fun pc hd => ⟨cwX_S (n := 1) hF hd (by rw [hH]; exact Ct_PB_requireBay kk l hst) hsd (by rw [hO]; exact wd_1155) wd_1156 wd_86 wd_1157 ⟨by decide +kernel, by decide +kernel, by decide +kernel⟩ (by decide) (by rw [hV]; decide) (sh_PB_requireBay kk), hd_nil⟩, (List.forall_mem_cons.mpr ⟨fun pc hd => ⟨cwJ_bset hF hd hsd (by rw [hO]; exact wd_780) (by rw [hV]; decide), hd_nil⟩, (List.forall_mem_cons.mpr ⟨fun pc hd => ⟨cwX_V (C := RX0) (n := 2) hF hd (by rw [hH]; exact Ct_Cargo_slotAt kk l hst) hsd (by rw [hO]; exact wd_714) wd_398 wd_399 wd_88 wd_400 ⟨rfl, by decide +kernel, by decide +kernel, by decide +kernel⟩ (by decide) (by rw [hV]; decide) (sh_Cargo_slotAt kk), hd_nil⟩, (List.forall_mem_cons.mpr ⟨fun pc hd => ⟨cwN_S (n := 1) hF hd (by rw [hH]; exact Ct_PB_isSlot kk l hst) hsd (by rw [hO]; exact wd_715) wd_402 wd_86 wd_403 ⟨by decide +kernel, by decide +kernel, by decide +kernel⟩ (by decide) (by rw [hV]; decide) (sh_PB_isSlot kk), hd_nil⟩, (List.forall_mem_cons.mpr ⟨fun pc hd => ⟨cwX_V (C := RX6) (n := 0) hF hd (by rw [hH]; exact Ct_PB_separate kk l hst) hsd (by rw [hO]; exact wd_1065) wd_1067 wd_15 wd_86 wd_1068 ⟨rfl, by decide +kernel, by decide +kernel, by decide +kernel⟩ (by decide) (by rw [hV]; decide) (sh_PB_separate kk), hd_nil⟩, (List.forall_mem_cons.mpr ⟨fun pc hd => ⟨cwX_V (C := RX6) (n := 1) hF hd (by rw [hH]; exact Ct_PB_renderPillow kk l hst) hsd (by rw [hO]; exact wd_1368) wd_1370 wd_25 wd_86 wd_1371 ⟨rfl, by decide +kernel, by decide +kernel, by decide +kernel⟩ (by decide) (by rw [hV]; decide) (sh_PB_renderPillow kk), hd_nil⟩, (List.forall_mem_cons.mpr ⟨fun pc hd => ⟨cwJ_blen hF hd hsd (by rw [hO]; exact wd_1069) (by rw [hV]; decide), hd_nil⟩, (fun _ h => nomatch h)⟩)⟩)⟩)⟩)⟩)⟩)⟩)
    · rw [hO, hC, hR]; exact tk_use (fun pc h => by unfold T_PB_renderStack; rw [Nat.ble_eq_true_of_le h]) tk_PB_renderStack pc e he
  exact CtX_of hst (by decide) (by decide +kernel) hT (ro_PB_renderStack kk) (Nat.mul_le_mul_left 6 (Nat.succ_le_succ (Nat.min_le_right _ _)))
def iv_PB_renderBarge : List (Instr × Nat) := [(.invokevirtual 272, 14925840), (.invokevirtual 275, 2179144), (.invokevirtual 239, 245777), (.invokevirtual 284, 14893142), (.invokevirtual 288, 14876758), (.invokevirtual 137, 262153), (.invokevirtual 281, 14909449)]
theorem tk_PB_renderBarge : (List.range 81).all (fun pc => match T_PB_renderBarge pc with | none => true | some e => ck FT_ PT_ NT_ CT_ yX6_renderBarge.cls cX6_renderBarge (some .int) iv_PB_renderBarge pc e) = true := by decide +kernel
theorem Ct_PB_renderBarge (kk : Nat) (l : Launch) (hst : l.stackTraces = false) : CtX sdX l yX6_renderBarge (.code yX6_renderBarge cX6_renderBarge 2 (some .int) :: lw_all) 10 22 (A_PB_renderBarge kk) := by
  have hT : TabOK sdX l yX6_renderBarge.cls cX6_renderBarge 2 10 (some .int) T_PB_renderBarge (call_PB_renderBarge kk) (fun _ => []) := by
    intro x hF hH hO hC hG hV hR hsd pc e he
    refine ck_sound FT_ok PT_ok NT_ok CT_ok (invs := iv_PB_renderBarge) ?_ ?_
    · exact (List.forall_mem_cons.mpr ⟨fun pc hd => ⟨cwJ_bset hF hd hsd (by rw [hO]; exact wd_780) (by rw [hV]; decide), hd_nil⟩, (List.forall_mem_cons.mpr ⟨fun pc hd => ⟨cwX_V (C := RX6) (n := 0) hF hd (by rw [hH]; exact Ct_PB_separate kk l hst) hsd (by rw [hO]; exact wd_1065) wd_1067 wd_15 wd_86 wd_1068 ⟨rfl, by decide +kernel, by decide +kernel, by decide +kernel⟩ (by decide) (by rw [hV]; decide) (sh_PB_separate kk), hd_nil⟩, (List.forall_mem_cons.mpr ⟨fun pc hd => ⟨cwX_V (C := RX0) (n := 1) hF hd (by rw [hH]; exact Ct_Cargo_weightOfBay kk l hst) hsd (by rw [hO]; exact wd_1092) wd_665 wd_666 wd_88 wd_667 ⟨rfl, by decide +kernel, by decide +kernel, by decide +kernel⟩ (by decide) (by rw [hV]; decide) (sh_Cargo_weightOfBay kk), hd_nil⟩, (List.forall_mem_cons.mpr ⟨fun pc hd => ⟨cwJ_bapi hF hd hsd (by rw [hO]; exact wd_1093) (by rw [hV]; decide), hd_nil⟩, (List.forall_mem_cons.mpr ⟨fun pc hd => ⟨cwJ_bapc hF hd hsd (by rw [hO]; exact wd_1070) (by rw [hV]; decide), hd_nil⟩, (List.forall_mem_cons.mpr ⟨fun pc hd => ⟨cwX_V (C := RX0) (n := 0) hF hd (by rw [hH]; exact Ct_Cargo_momentOfPillows kk l hst) hsd (by rw [hO]; exact wd_655) wd_373 wd_374 wd_88 wd_375 ⟨rfl, by decide +kernel, by decide +kernel, by decide +kernel⟩ (by decide) (by rw [hV]; decide) (sh_Cargo_momentOfPillows kk), hd_nil⟩, (List.forall_mem_cons.mpr ⟨fun pc hd => ⟨cwJ_blen hF hd hsd (by rw [hO]; exact wd_1069) (by rw [hV]; decide), hd_nil⟩, (fun _ h => nomatch h)⟩)⟩)⟩)⟩)⟩)⟩)⟩)
    · rw [hO, hC, hR]; exact tk_use (fun pc h => by unfold T_PB_renderBarge; rw [Nat.ble_eq_true_of_le h]) tk_PB_renderBarge pc e he
  exact CtX_of hst (by decide) (by decide +kernel) hT (ro_PB_renderBarge kk) (Nat.mul_le_mul_left 2 (Nat.succ_le_succ (Nat.min_le_right _ _)))
def iv_PB_outputAt : List (Instr × Nat) := [(.invokevirtual 281, 14909449), (.invokevirtual 291, 14942225)]
theorem tk_PB_outputAt : (List.range 32).all (fun pc => match T_PB_outputAt pc with | none => true | some e => ck FT_ PT_ NT_ CT_ yX6_outputAt.cls cX6_outputAt (some .char) iv_PB_outputAt pc e) = true := by decide +kernel
theorem Ct_PB_outputAt (kk : Nat) (l : Launch) (hst : l.stackTraces = false) : CtX sdX l yX6_outputAt (.code yX6_outputAt cX6_outputAt 2 (some .char) :: lw_all) 7 1 (A_PB_outputAt kk) := by
  have hT : TabOK sdX l yX6_outputAt.cls cX6_outputAt 1 7 (some .char) T_PB_outputAt (call_PB_outputAt kk) (fun _ => []) := by
    intro x hF hH hO hC hG hV hR hsd pc e he
    refine ck_sound FT_ok PT_ok NT_ok CT_ok (invs := iv_PB_outputAt) ?_ ?_
    · exact (List.forall_mem_cons.mpr ⟨fun pc hd => ⟨cwJ_blen hF hd hsd (by rw [hO]; exact wd_1069) (by rw [hV]; decide), hd_nil⟩, (List.forall_mem_cons.mpr ⟨fun pc hd => ⟨cwJ_bat hF hd hsd (by rw [hO]; exact wd_1379) (by rw [hV]; decide), hd_nil⟩, (fun _ h => nomatch h)⟩)⟩)
    · rw [hO, hC, hR]; exact tk_use (fun pc h => by unfold T_PB_outputAt; rw [Nat.ble_eq_true_of_le h]) tk_PB_outputAt pc e he
  exact CtX_of (F := 0) hst (by decide) (by decide +kernel) hT (ro0 (ro_PB_outputAt kk) (fun _ _ => rfl)) (by decide)
def iv_PB_type : List (Instr × Nat) := [(.invokevirtual 295, 458761), (.invokevirtual 299, 475152)]
theorem tk_PB_type : (List.range 54).all (fun pc => match T_PB_type pc with | none => true | some e => ck FT_ PT_ NT_ CT_ yX6_type.cls cX6_type (some .int) iv_PB_type pc e) = true := by decide +kernel
theorem Ct_PB_type (kk : Nat) (l : Launch) (hst : l.stackTraces = false) : CtX sdX l yX6_type (.code yX6_type cX6_type 2 (some .int) :: lw_all) 7 1 (A_PB_type kk) := by
  have hT : TabOK sdX l yX6_type.cls cX6_type 1 7 (some .int) T_PB_type (call_PB_type kk) (fun _ => []) := by
    intro x hF hH hO hC hG hV hR hsd pc e he
    refine ck_sound FT_ok PT_ok NT_ok CT_ok (invs := iv_PB_type) ?_ ?_
    · exact (List.forall_mem_cons.mpr ⟨fun pc hd => ⟨cwX_V (C := RX2) (n := 0) hF hd (by rw [hH]; exact Ct_Script_isFull kk l hst) hsd (by rw [hO]; exact wd_1396) wd_1397 wd_1398 wd_92 wd_1399 ⟨rfl, by decide +kernel, by decide +kernel, by decide +kernel⟩ (by decide) (by rw [hV]; decide) (sh_Script_isFull kk), hd_nil⟩, (List.forall_mem_cons.mpr ⟨fun pc hd => ⟨cwX_V (C := RX2) (n := 1) hF hd (by rw [hH]; exact Ct_Script_append kk l hst) hsd (by rw [hO]; exact wd_1400) wd_1401 wd_1402 wd_92 wd_1403 ⟨rfl, by decide +kernel, by decide +kernel, by decide +kernel⟩ (by decide) (by rw [hV]; decide) (sh_Script_append kk), hd_nil⟩, (fun _ h => nomatch h)⟩)⟩)
    · rw [hO, hC, hR]; exact tk_use (fun pc h => by unfold T_PB_type; rw [Nat.ble_eq_true_of_le h]) tk_PB_type pc e he
  exact CtX_of (F := 0) hst (by decide) (by decide +kernel) hT (ro0 (ro_PB_type kk) (fun _ _ => rfl)) (by decide)
def iv_PB_performCommands : List (Instr × Nat) := [(.invokevirtual 322, 507921), (.invokevirtual 325, 524313), (.invokevirtual 55, 819241), (.invokevirtual 69, 917545)]
theorem tk_PB_performCommands : (List.range 94).all (fun pc => match T_PB_performCommands pc with | none => true | some e => ck FT_ PT_ NT_ CT_ yX6_performCommands.cls cX6_performCommands (some .int) iv_PB_performCommands pc e) = true := by decide +kernel
theorem Ct_PB_performCommands (kk : Nat) (l : Launch) (hst : l.stackTraces = false) : CtX sdX l yX6_performCommands (.code yX6_performCommands cX6_performCommands 6 (some .int) :: lw_all) 11 0 (A_PB_performCommands kk) := by
  have hT : TabOK sdX l yX6_performCommands.cls cX6_performCommands 0 11 (some .int) T_PB_performCommands (call_PB_performCommands kk) (fun _ => []) := by
    intro x hF hH hO hC hG hV hR hsd pc e he
    refine ck_sound FT_ok PT_ok NT_ok CT_ok (invs := iv_PB_performCommands) ?_ ?_
    · exact (List.forall_mem_cons.mpr ⟨fun pc hd => ⟨cwX_V (C := RX2) (n := 1) hF hd (by rw [hH]; exact Ct_Script_commandAt kk l hst) hsd (by rw [hO]; exact wd_1494) wd_1495 wd_1496 wd_92 wd_1497 ⟨rfl, by decide +kernel, by decide +kernel, by decide +kernel⟩ (by decide) (by rw [hV]; decide) (sh_Script_commandAt kk), hd_nil⟩, (List.forall_mem_cons.mpr ⟨fun pc hd => ⟨cwX_V (C := RX2) (n := 2) hF hd (by rw [hH]; exact Ct_Script_argumentAt kk l hst) hsd (by rw [hO]; exact wd_1498) wd_1483 wd_1484 wd_92 wd_1485 ⟨rfl, by decide +kernel, by decide +kernel, by decide +kernel⟩ (by decide) (by rw [hV]; decide) (sh_Script_argumentAt kk), hd_nil⟩, (List.forall_mem_cons.mpr ⟨fun pc hd => ⟨cwX_V (C := RX3) (n := 4) hF hd (by rw [hH]; exact Ct_State_faultOf kk l hst) hsd (by rw [hO]; exact wd_343) wd_344 wd_345 wd_87 wd_346 ⟨rfl, by decide +kernel, by decide +kernel, by decide +kernel⟩ (by decide) (by rw [hV]; decide) (sh_State_faultOf kk), hd_nil⟩, (List.forall_mem_cons.mpr ⟨fun pc hd => ⟨cwX_V (C := RX3) (n := 4) hF hd (by rw [hH]; exact Ct_State_perform kk l hst) hsd (by rw [hO]; exact wd_590) wd_591 wd_592 wd_87 wd_593 ⟨rfl, by decide +kernel, by decide +kernel, by decide +kernel⟩ (by decide) (by rw [hV]; decide) (sh_State_perform kk), hd_nil⟩, (fun _ h => nomatch h)⟩)⟩)⟩)⟩)
    · rw [hO, hC, hR]; exact tk_use (fun pc h => by unfold T_PB_performCommands; rw [Nat.ble_eq_true_of_le h]) tk_PB_performCommands pc e he
  exact CtX_of hst (by decide) (by decide +kernel) hT (ro_PB_performCommands kk) (by rw [Nat.zero_mul]; exact Nat.zero_le _)
def iv_PB_runScript : List (Instr × Nat) := [(.invokevirtual 304, 540681), (.invokevirtual 307, 491528), (.invokevirtual 62, 344080), (.invokevirtual 313, 2261001), (.invokevirtual 316, 376848), (.invokevirtual 66, 360456)]
theorem tk_PB_runScript : (List.range 98).all (fun pc => match T_PB_runScript pc with | none => true | some e => ck FT_ PT_ NT_ CT_ yX6_runScript.cls cX6_runScript (some .int) iv_PB_runScript pc e) = true := by decide +kernel
theorem Ct_PB_runScript (kk : Nat) (l : Launch) (hst : l.stackTraces = false) : CtX sdX l yX6_runScript (.code yX6_runScript cX6_runScript 3 (some .int) :: lw_all) 12 1 (A_PB_runScript kk) := by
  have hT : TabOK sdX l yX6_runScript.cls cX6_runScript 1 12 (some .int) T_PB_runScript (call_PB_runScript kk) (fun _ => []) := by
    intro x hF hH hO hC hG hV hR hsd pc e he
    refine ck_sound FT_ok PT_ok NT_ok CT_ok (invs := iv_PB_runScript) ?_ ?_
    · exact (List.forall_mem_cons.mpr ⟨fun pc hd => ⟨cwX_V (C := RX2) (n := 0) hF hd (by rw [hH]; exact Ct_Script_parse kk l hst) hsd (by rw [hO]; exact wd_1411) wd_1412 wd_1413 wd_92 wd_1414 ⟨rfl, by decide +kernel, by decide +kernel, by decide +kernel⟩ (by decide) (by rw [hV]; decide) (sh_Script_parse kk), hd_nil⟩, (List.forall_mem_cons.mpr ⟨fun pc hd => ⟨cwX_V (C := RX2) (n := 0) hF hd (by rw [hH]; exact Ct_Script_empty kk l hst) hsd (by rw [hO]; exact wd_1486) wd_1487 wd_1488 wd_92 wd_1489 ⟨rfl, by decide +kernel, by decide +kernel, by decide +kernel⟩ (by decide) (by rw [hV]; decide) (sh_Script_empty kk), hd_nil⟩, (List.forall_mem_cons.mpr ⟨fun pc hd => ⟨cwX_V (C := RX1) (n := 1) hF hd (by rw [hH]; exact Ct_History_draft kk l hst) hsd (by rw [hO]; exact wd_553) wd_554 wd_555 wd_91 wd_556 ⟨rfl, by decide +kernel, by decide +kernel, by decide +kernel⟩ (by decide) (by rw [hV]; decide) (sh_History_draft kk), hd_nil⟩, (List.forall_mem_cons.mpr ⟨fun pc hd => ⟨cwX_V (C := RX6) (n := 0) hF hd (by rw [hH]; exact Ct_PB_performCommands kk l hst) hsd (by rw [hO]; exact wd_1490) wd_1492 wd_36 wd_86 wd_1493 ⟨rfl, by decide +kernel, by decide +kernel, by decide +kernel⟩ (by decide) (by rw [hV]; decide) (sh_PB_performCommands kk), hd_nil⟩, (List.forall_mem_cons.mpr ⟨fun pc hd => ⟨cwX_V (C := RX1) (n := 1) hF hd (by rw [hH]; exact Ct_History_takeDraftBack kk l hst) hsd (by rw [hO]; exact wd_1499) wd_1500 wd_1501 wd_91 wd_1502 ⟨rfl, by decide +kernel, by decide +kernel, by decide +kernel⟩ (by decide) (by rw [hV]; decide) (sh_History_takeDraftBack kk), hd_nil⟩, (List.forall_mem_cons.mpr ⟨fun pc hd => ⟨cwX_V (C := RX1) (n := 0) hF hd (by rw [hH]; exact Ct_History_keepDraft kk l hst) hsd (by rw [hO]; exact wd_580) wd_581 wd_582 wd_91 wd_583 ⟨rfl, by decide +kernel, by decide +kernel, by decide +kernel⟩ (by decide) (by rw [hV]; decide) (sh_History_keepDraft kk), hd_nil⟩, (fun _ h => nomatch h)⟩)⟩)⟩)⟩)⟩)⟩)
    · rw [hO, hC, hR]; exact tk_use (fun pc h => by unfold T_PB_runScript; rw [Nat.ble_eq_true_of_le h]) tk_PB_runScript pc e he
  exact CtX_of (F := 0) hst (by decide) (by decide +kernel) hT (ro0 (ro_PB_runScript kk) (fun _ _ => rfl)) (by decide)
def iv_PB_errorPosition : List (Instr × Nat) := []
theorem tk_PB_errorPosition : (List.range 21).all (fun pc => match T_PB_errorPosition pc with | none => true | some e => ck FT_ PT_ NT_ CT_ yX6_errorPosition.cls cX6_errorPosition (some .int) iv_PB_errorPosition pc e) = true := by decide +kernel
theorem Ct_PB_errorPosition (kk : Nat) (l : Launch) (hst : l.stackTraces = false) : CtX sdX l yX6_errorPosition (.code yX6_errorPosition cX6_errorPosition 1 (some .int) :: lw_all) 6 1 (A_PB_errorPosition kk) := by
  have hT : TabOK sdX l yX6_errorPosition.cls cX6_errorPosition 1 6 (some .int) T_PB_errorPosition (call_PB_errorPosition kk) (fun _ => []) := by
    intro x hF hH hO hC hG hV hR hsd pc e he
    refine ck_sound FT_ok PT_ok NT_ok CT_ok (invs := iv_PB_errorPosition) ?_ ?_
    · exact (fun _ h => nomatch h)
    · rw [hO, hC, hR]; exact tk_use (fun pc h => by unfold T_PB_errorPosition; rw [Nat.ble_eq_true_of_le h]) tk_PB_errorPosition pc e he
  exact CtX_of (F := 0) hst (by decide) (by decide +kernel) hT (ro0 (ro_PB_errorPosition kk) (fun _ _ => rfl)) (by decide)
def iv_PB_failedCommand : List (Instr × Nat) := []
theorem tk_PB_failedCommand : (List.range 21).all (fun pc => match T_PB_failedCommand pc with | none => true | some e => ck FT_ PT_ NT_ CT_ yX6_failedCommand.cls cX6_failedCommand (some .int) iv_PB_failedCommand pc e) = true := by decide +kernel
theorem Ct_PB_failedCommand (kk : Nat) (l : Launch) (hst : l.stackTraces = false) : CtX sdX l yX6_failedCommand (.code yX6_failedCommand cX6_failedCommand 1 (some .int) :: lw_all) 6 1 (A_PB_failedCommand kk) := by
  have hT : TabOK sdX l yX6_failedCommand.cls cX6_failedCommand 1 6 (some .int) T_PB_failedCommand (call_PB_failedCommand kk) (fun _ => []) := by
    intro x hF hH hO hC hG hV hR hsd pc e he
    refine ck_sound FT_ok PT_ok NT_ok CT_ok (invs := iv_PB_failedCommand) ?_ ?_
    · exact (fun _ h => nomatch h)
    · rw [hO, hC, hR]; exact tk_use (fun pc h => by unfold T_PB_failedCommand; rw [Nat.ble_eq_true_of_le h]) tk_PB_failedCommand pc e he
  exact CtX_of (F := 0) hst (by decide) (by decide +kernel) hT (ro0 (ro_PB_failedCommand kk) (fun _ _ => rfl)) (by decide)
def iv_PB_undo : List (Instr × Nat) := [(.invokevirtual 329, 393232)]
theorem tk_PB_undo : (List.range 37).all (fun pc => match T_PB_undo pc with | none => true | some e => ck FT_ PT_ NT_ CT_ yX6_undo.cls cX6_undo (some .int) iv_PB_undo pc e) = true := by decide +kernel
theorem Ct_PB_undo (kk : Nat) (l : Launch) (hst : l.stackTraces = false) : CtX sdX l yX6_undo (.code yX6_undo cX6_undo 1 (some .int) :: lw_all) 11 1 (A_PB_undo kk) := by
  have hT : TabOK sdX l yX6_undo.cls cX6_undo 1 11 (some .int) T_PB_undo (call_PB_undo kk) (fun _ => []) := by
    intro x hF hH hO hC hG hV hR hsd pc e he
    refine ck_sound FT_ok PT_ok NT_ok CT_ok (invs := iv_PB_undo) ?_ ?_
    · exact (List.forall_mem_cons.mpr ⟨fun pc hd => ⟨cwX_V (C := RX1) (n := 1) hF hd (by rw [hH]; exact Ct_History_takeLatestBack kk l hst) hsd (by rw [hO]; exact wd_1524) wd_1525 wd_1526 wd_91 wd_1527 ⟨rfl, by decide +kernel, by decide +kernel, by decide +kernel⟩ (by decide) (by rw [hV]; decide) (sh_History_takeLatestBack kk), hd_nil⟩, (fun _ h => nomatch h)⟩)
    · rw [hO, hC, hR]; exact tk_use (fun pc h => by unfold T_PB_undo; rw [Nat.ble_eq_true_of_le h]) tk_PB_undo pc e he
  exact CtX_of (F := 0) hst (by decide) (by decide +kernel) hT (ro0 (ro_PB_undo kk) (fun _ _ => rfl)) (by decide)
def iv_PB_save : List (Instr × Nat) := [(.invokevirtual 332, 753680), (.invokevirtual 91, 196617)]
theorem tk_PB_save : (List.range 27).all (fun pc => match T_PB_save pc with | none => true | some e => ck FT_ PT_ NT_ CT_ yX6_save.cls cX6_save (some .int) iv_PB_save pc e) = true := by decide +kernel
theorem Ct_PB_save (kk : Nat) (l : Launch) (hst : l.stackTraces = false) : CtX sdX l yX6_save (.code yX6_save cX6_save 1 (some .int) :: lw_all) 9 0 (A_PB_save kk) := by
  have hT : TabOK sdX l yX6_save.cls cX6_save 0 9 (some .int) T_PB_save (call_PB_save kk) (fun _ => []) := by
    intro x hF hH hO hC hG hV hR hsd pc e he
    refine ck_sound FT_ok PT_ok NT_ok CT_ok (invs := iv_PB_save) ?_ ?_
    · exact (List.forall_mem_cons.mpr ⟨fun pc hd => ⟨cwX_V (C := RX3) (n := 1) hF hd (by rw [hH]; exact Ct_State_copyFrom kk l hst) hsd (by rw [hO]; exact wd_1098) wd_562 wd_563 wd_87 wd_564 ⟨rfl, by decide +kernel, by decide +kernel, by decide +kernel⟩ (by decide) (by rw [hV]; decide) (sh_State_copyFrom kk), hd_nil⟩, (List.forall_mem_cons.mpr ⟨fun pc hd => ⟨cwX_V (C := RX0) (n := 0) hF hd (by rw [hH]; exact Ct_Cargo_countPillows kk l hst) hsd (by rw [hO]; exact wd_647) wd_648 wd_649 wd_88 wd_650 ⟨rfl, by decide +kernel, by decide +kernel, by decide +kernel⟩ (by decide) (by rw [hV]; decide) (sh_Cargo_countPillows kk), hd_nil⟩, (fun _ h => nomatch h)⟩)⟩)
    · rw [hO, hC, hR]; exact tk_use (fun pc h => by unfold T_PB_save; rw [Nat.ble_eq_true_of_le h]) tk_PB_save pc e he
  exact CtX_of hst (by decide) (by decide +kernel) hT (ro_PB_save kk) (by rw [Nat.zero_mul]; exact Nat.zero_le _)
def iv_PB_restore : List (Instr × Nat) := [(.invokevirtual 332, 753680), (.invokevirtual 338, 409608), (.invokevirtual 91, 196617)]
theorem tk_PB_restore : (List.range 44).all (fun pc => match T_PB_restore pc with | none => true | some e => ck FT_ PT_ NT_ CT_ yX6_restore.cls cX6_restore (some .int) iv_PB_restore pc e) = true := by decide +kernel
theorem Ct_PB_restore (kk : Nat) (l : Launch) (hst : l.stackTraces = false) : CtX sdX l yX6_restore (.code yX6_restore cX6_restore 1 (some .int) :: lw_all) 9 1 (A_PB_restore kk) := by
  have hT : TabOK sdX l yX6_restore.cls cX6_restore 1 9 (some .int) T_PB_restore (call_PB_restore kk) (fun _ => []) := by
    intro x hF hH hO hC hG hV hR hsd pc e he
    refine ck_sound FT_ok PT_ok NT_ok CT_ok (invs := iv_PB_restore) ?_ ?_
    · exact (List.forall_mem_cons.mpr ⟨fun pc hd => ⟨cwX_V (C := RX3) (n := 1) hF hd (by rw [hH]; exact Ct_State_copyFrom kk l hst) hsd (by rw [hO]; exact wd_1098) wd_562 wd_563 wd_87 wd_564 ⟨rfl, by decide +kernel, by decide +kernel, by decide +kernel⟩ (by decide) (by rw [hV]; decide) (sh_State_copyFrom kk), hd_nil⟩, (List.forall_mem_cons.mpr ⟨fun pc hd => ⟨cwX_V (C := RX1) (n := 0) hF hd (by rw [hH]; exact Ct_History_forget kk l hst) hsd (by rw [hO]; exact wd_1536) wd_1537 wd_1538 wd_91 wd_1539 ⟨rfl, by decide +kernel, by decide +kernel, by decide +kernel⟩ (by decide) (by rw [hV]; decide) (sh_History_forget kk), hd_nil⟩, (List.forall_mem_cons.mpr ⟨fun pc hd => ⟨cwX_V (C := RX0) (n := 0) hF hd (by rw [hH]; exact Ct_Cargo_countPillows kk l hst) hsd (by rw [hO]; exact wd_647) wd_648 wd_649 wd_88 wd_650 ⟨rfl, by decide +kernel, by decide +kernel, by decide +kernel⟩ (by decide) (by rw [hV]; decide) (sh_Cargo_countPillows kk), hd_nil⟩, (fun _ h => nomatch h)⟩)⟩)⟩)
    · rw [hO, hC, hR]; exact tk_use (fun pc h => by unfold T_PB_restore; rw [Nat.ble_eq_true_of_le h]) tk_PB_restore pc e he
  exact CtX_of (F := 0) hst (by decide) (by decide +kernel) hT (ro0 (ro_PB_restore kk) (fun _ _ => rfl)) (by decide)
