set_option maxRecDepth 100000
def iv_Mo_thrown : List (Instr × Nat) := []
theorem tk_Mo_thrown : (List.range 5).all (fun pc => match T_Mo_thrown pc with | none => true | some e => ck FT_ PT_ NT_ CT_ yX7_thrown.cls cX7_thrown (some .int) iv_Mo_thrown pc e) = true := by decide +kernel
theorem Ct_Mo_thrown (kk : Nat) (l : Launch) (hst : l.stackTraces = false) : CtX sdM l yX7_thrown (.code yX7_thrown cX7_thrown 1 (some .int) :: lw_all) 6 0 (A_Mo_thrown kk) := by
  have hT : TabOK sdM l yX7_thrown.cls cX7_thrown 0 6 (some .int) T_Mo_thrown (call_Mo_thrown kk) (fun _ => []) := by
    intro x hF hH hO hC hG hV hR hsd pc e he
    refine ck_sound FT_ok PT_ok NT_ok CT_ok (invs := iv_Mo_thrown) ?_ ?_
    · exact (fun _ h => nomatch h)
    · rw [hO, hC, hR]; exact tk_use (fun pc h => by unfold T_Mo_thrown; rw [Nat.ble_eq_true_of_le h]) tk_Mo_thrown pc e he
  exact CtX_of hst (by decide) (by decide +kernel) hT (ro_Mo_thrown kk) (by rw [Nat.zero_mul]; exact Nat.zero_le _)
def iv_Mo_fails : List (Instr × Nat) := []
theorem tk_Mo_fails : (List.range 7).all (fun pc => match T_Mo_fails pc with | none => true | some e => ck FT_ PT_ NT_ CT_ yX7_fails.cls cX7_fails (some .int) iv_Mo_fails pc e) = true := by decide +kernel
theorem Ct_Mo_fails (kk : Nat) (l : Launch) (hst : l.stackTraces = false) : CtX sdM l yX7_fails (.code yX7_fails cX7_fails 2 (some .int) :: lw_all) 6 0 (A_Mo_fails kk) := by
  have hT : TabOK sdM l yX7_fails.cls cX7_fails 0 6 (some .int) T_Mo_fails (call_Mo_fails kk) (fun _ => []) := by
    intro x hF hH hO hC hG hV hR hsd pc e he
    refine ck_sound FT_ok PT_ok NT_ok CT_ok (invs := iv_Mo_fails) ?_ ?_
    · exact (fun _ h => nomatch h)
    · rw [hO, hC, hR]; exact tk_use (fun pc h => by unfold T_Mo_fails; rw [Nat.ble_eq_true_of_le h]) tk_Mo_fails pc e he
  exact CtX_of hst (by decide) (by decide +kernel) hT (ro_Mo_fails kk) (by rw [Nat.zero_mul]; exact Nat.zero_le _)
def iv_Mo_isBetween : List (Instr × Nat) := []
theorem tk_Mo_isBetween : (List.range 16).all (fun pc => match T_Mo_isBetween pc with | none => true | some e => ck FT_ PT_ NT_ CT_ yX7_isBetween.cls cX7_isBetween (some .boolean) iv_Mo_isBetween pc e) = true := by decide +kernel
theorem Ct_Mo_isBetween (kk : Nat) (l : Launch) (hst : l.stackTraces = false) : CtX sdM l yX7_isBetween (.code yX7_isBetween cX7_isBetween 3 (some .boolean) :: lw_all) 6 0 (A_Mo_isBetween kk) := by
  have hT : TabOK sdM l yX7_isBetween.cls cX7_isBetween 0 6 (some .boolean) T_Mo_isBetween (call_Mo_isBetween kk) (fun _ => []) := by
    intro x hF hH hO hC hG hV hR hsd pc e he
    refine ck_sound FT_ok PT_ok NT_ok CT_ok (invs := iv_Mo_isBetween) ?_ ?_
    · exact (fun _ h => nomatch h)
    · rw [hO, hC, hR]; exact tk_use (fun pc h => by unfold T_Mo_isBetween; rw [Nat.ble_eq_true_of_le h]) tk_Mo_isBetween pc e he
  exact CtX_of hst (by decide) (by decide +kernel) hT (ro_Mo_isBetween kk) (by rw [Nat.zero_mul]; exact Nat.zero_le _)
def iv_Mo_copies : List (Instr × Nat) := []
theorem tk_Mo_copies : (List.range 28).all (fun pc => match T_Mo_copies pc with | none => true | some e => ck FT_ PT_ NT_ CT_ yX7_copies.cls cX7_copies none iv_Mo_copies pc e) = true := by decide +kernel
theorem Ct_Mo_copies (kk : Nat) (l : Launch) (hst : l.stackTraces = false) : CtX sdM l yX7_copies (.code yX7_copies cX7_copies 2 none :: lw_all) 6 0 (A_Mo_copies kk) := by
  have hT : TabOK sdM l yX7_copies.cls cX7_copies 0 6 none T_Mo_copies (call_Mo_copies kk) (fun _ => []) := by
    intro x hF hH hO hC hG hV hR hsd pc e he
    refine ck_sound FT_ok PT_ok NT_ok CT_ok (invs := iv_Mo_copies) ?_ ?_
    · exact (fun _ h => nomatch h)
    · rw [hO, hC, hR]; exact tk_use (fun pc h => by unfold T_Mo_copies; rw [Nat.ble_eq_true_of_le h]) tk_Mo_copies pc e he
  exact CtX_of hst (by decide) (by decide +kernel) hT (ro_Mo_copies kk) (by rw [Nat.zero_mul]; exact Nat.zero_le _)
def iv_Mo_goesBack : List (Instr × Nat) := []
theorem tk_Mo_goesBack : (List.range 28).all (fun pc => match T_Mo_goesBack pc with | none => true | some e => ck FT_ PT_ NT_ CT_ yX7_goesBack.cls cX7_goesBack none iv_Mo_goesBack pc e) = true := by decide +kernel
theorem Ct_Mo_goesBack (kk : Nat) (l : Launch) (hst : l.stackTraces = false) : CtX sdM l yX7_goesBack (.code yX7_goesBack cX7_goesBack 2 none :: lw_all) 6 0 (A_Mo_goesBack kk) := by
  have hT : TabOK sdM l yX7_goesBack.cls cX7_goesBack 0 6 none T_Mo_goesBack (call_Mo_goesBack kk) (fun _ => []) := by
    intro x hF hH hO hC hG hV hR hsd pc e he
    refine ck_sound FT_ok PT_ok NT_ok CT_ok (invs := iv_Mo_goesBack) ?_ ?_
    · exact (fun _ h => nomatch h)
    · rw [hO, hC, hR]; exact tk_use (fun pc h => by unfold T_Mo_goesBack; rw [Nat.ble_eq_true_of_le h]) tk_Mo_goesBack pc e he
  exact CtX_of hst (by decide) (by decide +kernel) hT (ro_Mo_goesBack kk) (by rw [Nat.zero_mul]; exact Nat.zero_le _)
def iv_Mo_keeps : List (Instr × Nat) := []
theorem tk_Mo_keeps : (List.range 89).all (fun pc => match T_Mo_keeps pc with | none => true | some e => ck FT_ PT_ NT_ CT_ yX7_keeps.cls cX7_keeps none iv_Mo_keeps pc e) = true := by decide +kernel
theorem Ct_Mo_keeps (kk : Nat) (l : Launch) (hst : l.stackTraces = false) : CtX sdM l yX7_keeps (.code yX7_keeps cX7_keeps 3 none :: lw_all) 6 0 (A_Mo_keeps kk) := by
  have hT : TabOK sdM l yX7_keeps.cls cX7_keeps 0 6 none T_Mo_keeps (call_Mo_keeps kk) (fun _ => []) := by
    intro x hF hH hO hC hG hV hR hsd pc e he
    refine ck_sound FT_ok PT_ok NT_ok CT_ok (invs := iv_Mo_keeps) ?_ ?_
    · exact (fun _ h => nomatch h)
    · rw [hO, hC, hR]; exact tk_use (fun pc h => by unfold T_Mo_keeps; rw [Nat.ble_eq_true_of_le h]) tk_Mo_keeps pc e he
  exact CtX_of hst (by decide) (by decide +kernel) hT (ro_Mo_keeps kk) (by rw [Nat.zero_mul]; exact Nat.zero_le _)
def iv_Mo_remembers : List (Instr × Nat) := [(.invokevirtual 48, 2572296), (.invokevirtual 51, 2605064)]
theorem tk_Mo_remembers : (List.range 9).all (fun pc => match T_Mo_remembers pc with | none => true | some e => ck FT_ PT_ NT_ CT_ yX7_remembers.cls cX7_remembers none iv_Mo_remembers pc e) = true := by decide +kernel
theorem Ct_Mo_remembers (kk : Nat) (l : Launch) (hst : l.stackTraces = false) : CtX sdM l yX7_remembers (.code yX7_remembers cX7_remembers 1 none :: lw_all) 7 0 (A_Mo_remembers kk) := by
  have hT : TabOK sdM l yX7_remembers.cls cX7_remembers 0 7 none T_Mo_remembers (call_Mo_remembers kk) (fun _ => []) := by
    intro x hF hH hO hC hG hV hR hsd pc e he
    refine ck_sound FT_ok PT_ok NT_ok CT_ok (invs := iv_Mo_remembers) ?_ ?_
    · exact (List.forall_mem_cons.mpr ⟨fun pc hd => ⟨cwX_V (C := RX7) (n := 0) hF hd (by rw [hH]; exact Ct_Mo_copies kk l hst) hsd (by rw [hO]; exact wd_1646) wd_1648 wd_44 wd_97 wd_1649 ⟨rfl, by decide +kernel, by decide +kernel, by decide +kernel⟩ (by decide) (by rw [hV]; decide) (sh_Mo_copies kk), hd_nil⟩, (List.forall_mem_cons.mpr ⟨fun pc hd => ⟨cwX_V (C := RX7) (n := 0) hF hd (by rw [hH]; exact Ct_Mo_keeps kk l hst) hsd (by rw [hO]; exact wd_1650) wd_1652 wd_45 wd_97 wd_1653 ⟨rfl, by decide +kernel, by decide +kernel, by decide +kernel⟩ (by decide) (by rw [hV]; decide) (sh_Mo_keeps kk), hd_nil⟩, (fun _ h => nomatch h)⟩)⟩)
    · rw [hO, hC, hR]; exact tk_use (fun pc h => by unfold T_Mo_remembers; rw [Nat.ble_eq_true_of_le h]) tk_Mo_remembers pc e he
  exact CtX_of hst (by decide) (by decide +kernel) hT (ro_Mo_remembers kk) (by rw [Nat.zero_mul]; exact Nat.zero_le _)
def iv_Mo_isBay : List (Instr × Nat) := [(.invokestatic 54, 2539545)]
theorem tk_Mo_isBay : (List.range 8).all (fun pc => match T_Mo_isBay pc with | none => true | some e => ck FT_ PT_ NT_ CT_ yX7_isBay.cls cX7_isBay (some .boolean) iv_Mo_isBay pc e) = true := by decide +kernel
theorem Ct_Mo_isBay (kk : Nat) (l : Launch) (hst : l.stackTraces = false) : CtX sdM l yX7_isBay (.code yX7_isBay cX7_isBay 1 (some .boolean) :: lw_all) 7 0 (A_Mo_isBay kk) := by
  have hT : TabOK sdM l yX7_isBay.cls cX7_isBay 0 7 (some .boolean) T_Mo_isBay (call_Mo_isBay kk) (fun _ => []) := by
    intro x hF hH hO hC hG hV hR hsd pc e he
    refine ck_sound FT_ok PT_ok NT_ok CT_ok (invs := iv_Mo_isBay) ?_ ?_
    · exact (List.forall_mem_cons.mpr ⟨fun pc hd => ⟨cwX_S (n := 3) hF hd (by rw [hH]; exact Ct_Mo_isBetween kk l hst) hsd (by rw [hO]; exact wd_1616) wd_1617 wd_97 wd_1618 ⟨by decide +kernel, by decide +kernel, by decide +kernel⟩ (by decide) (by rw [hV]; decide) (sh_Mo_isBetween kk), hd_nil⟩, (fun _ h => nomatch h)⟩)
    · rw [hO, hC, hR]; exact tk_use (fun pc h => by unfold T_Mo_isBay; rw [Nat.ble_eq_true_of_le h]) tk_Mo_isBay pc e he
  exact CtX_of hst (by decide) (by decide +kernel) hT (ro_Mo_isBay kk) (by rw [Nat.zero_mul]; exact Nat.zero_le _)
def iv_Mo_at : List (Instr × Nat) := []
theorem tk_Mo_at : (List.range 19).all (fun pc => match T_Mo_at pc with | none => true | some e => ck FT_ PT_ NT_ CT_ yX7_at.cls cX7_at (some .int) iv_Mo_at pc e) = true := by decide +kernel
theorem Ct_Mo_at (kk : Nat) (l : Launch) (hst : l.stackTraces = false) : CtX sdM l yX7_at (.code yX7_at cX7_at 4 (some .int) :: lw_all) 6 0 (A_Mo_at kk) := by
  have hT : TabOK sdM l yX7_at.cls cX7_at 0 6 (some .int) T_Mo_at (call_Mo_at kk) (fun _ => []) := by
    intro x hF hH hO hC hG hV hR hsd pc e he
    refine ck_sound FT_ok PT_ok NT_ok CT_ok (invs := iv_Mo_at) ?_ ?_
    · exact (fun _ h => nomatch h)
    · rw [hO, hC, hR]; exact tk_use (fun pc h => by unfold T_Mo_at; rw [Nat.ble_eq_true_of_le h]) tk_Mo_at pc e he
  exact CtX_of hst (by decide) (by decide +kernel) hT (ro_Mo_at kk) (by rw [Nat.zero_mul]; exact Nat.zero_le _)
def iv_Mo_puts : List (Instr × Nat) := []
theorem tk_Mo_puts : (List.range 21).all (fun pc => match T_Mo_puts pc with | none => true | some e => ck FT_ PT_ NT_ CT_ yX7_puts.cls cX7_puts none iv_Mo_puts pc e) = true := by decide +kernel
theorem Ct_Mo_puts (kk : Nat) (l : Launch) (hst : l.stackTraces = false) : CtX sdM l yX7_puts (.code yX7_puts cX7_puts 5 none :: lw_all) 6 0 (A_Mo_puts kk) := by
  have hT : TabOK sdM l yX7_puts.cls cX7_puts 0 6 none T_Mo_puts (call_Mo_puts kk) (fun _ => []) := by
    intro x hF hH hO hC hG hV hR hsd pc e he
    refine ck_sound FT_ok PT_ok NT_ok CT_ok (invs := iv_Mo_puts) ?_ ?_
    · exact (fun _ h => nomatch h)
    · rw [hO, hC, hR]; exact tk_use (fun pc h => by unfold T_Mo_puts; rw [Nat.ble_eq_true_of_le h]) tk_Mo_puts pc e he
  exact CtX_of hst (by decide) (by decide +kernel) hT (ro_Mo_puts kk) (by rw [Nat.zero_mul]; exact Nat.zero_le _)
def iv_Mo_top : List (Instr × Nat) := [(.invokevirtual 58, 2654241)]
theorem tk_Mo_top : (List.range 18).all (fun pc => match T_Mo_top pc with | none => true | some e => ck FT_ PT_ NT_ CT_ yX7_top.cls cX7_top (some .int) iv_Mo_top pc e) = true := by decide +kernel
theorem Ct_Mo_top (kk : Nat) (l : Launch) (hst : l.stackTraces = false) : CtX sdM l yX7_top (.code yX7_top cX7_top 3 (some .int) :: lw_all) 7 0 (A_Mo_top kk) := by
  have hT : TabOK sdM l yX7_top.cls cX7_top 0 7 (some .int) T_Mo_top (call_Mo_top kk) (fun _ => []) := by
    intro x hF hH hO hC hG hV hR hsd pc e he
    refine ck_sound FT_ok PT_ok NT_ok CT_ok (invs := iv_Mo_top) ?_ ?_
    · exact (List.forall_mem_cons.mpr ⟨fun pc hd => ⟨cwX_V (C := RX7) (n := 3) hF hd (by rw [hH]; exact Ct_Mo_at kk l hst) hsd (by rw [hO]; exact wd_1634) wd_1636 wd_41 wd_97 wd_1637 ⟨rfl, by decide +kernel, by decide +kernel, by decide +kernel⟩ (by decide) (by rw [hV]; decide) (sh_Mo_at kk), hd_nil⟩, (fun _ h => nomatch h)⟩)
    · rw [hO, hC, hR]; exact tk_use (fun pc h => by unfold T_Mo_top; rw [Nat.ble_eq_true_of_le h]) tk_Mo_top pc e he
  exact CtX_of hst (by decide) (by decide +kernel) hT (ro_Mo_top kk) (by rw [Nat.zero_mul]; exact Nat.zero_le _)
def iv_Mo_weightOfBay : List (Instr × Nat) := [(.invokevirtual 58, 2654241)]
theorem tk_Mo_weightOfBay : (List.range 35).all (fun pc => match T_Mo_weightOfBay pc with | none => true | some e => ck FT_ PT_ NT_ CT_ yX7_weightOfBay.cls cX7_weightOfBay (some .int) iv_Mo_weightOfBay pc e) = true := by decide +kernel
theorem Ct_Mo_weightOfBay (kk : Nat) (l : Launch) (hst : l.stackTraces = false) : CtX sdM l yX7_weightOfBay (.code yX7_weightOfBay cX7_weightOfBay 4 (some .int) :: lw_all) 7 0 (A_Mo_weightOfBay kk) := by
  have hT : TabOK sdM l yX7_weightOfBay.cls cX7_weightOfBay 0 7 (some .int) T_Mo_weightOfBay (call_Mo_weightOfBay kk) (fun _ => []) := by
    intro x hF hH hO hC hG hV hR hsd pc e he
    refine ck_sound FT_ok PT_ok NT_ok CT_ok (invs := iv_Mo_weightOfBay) ?_ ?_
    · exact (List.forall_mem_cons.mpr ⟨fun pc hd => ⟨cwX_V (C := RX7) (n := 3) hF hd (by rw [hH]; exact Ct_Mo_at kk l hst) hsd (by rw [hO]; exact wd_1634) wd_1636 wd_41 wd_97 wd_1637 ⟨rfl, by decide +kernel, by decide +kernel, by decide +kernel⟩ (by decide) (by rw [hV]; decide) (sh_Mo_at kk), hd_nil⟩, (fun _ h => nomatch h)⟩)
    · rw [hO, hC, hR]; exact tk_use (fun pc h => by unfold T_Mo_weightOfBay; rw [Nat.ble_eq_true_of_le h]) tk_Mo_weightOfBay pc e he
  exact CtX_of hst (by decide) (by decide +kernel) hT (ro_Mo_weightOfBay kk) (by rw [Nat.zero_mul]; exact Nat.zero_le _)
def iv_Mo_momentNow : List (Instr × Nat) := [(.invokevirtual 62, 2703377)]
theorem tk_Mo_momentNow : (List.range 30).all (fun pc => match T_Mo_momentNow pc with | none => true | some e => ck FT_ PT_ NT_ CT_ yX7_momentNow.cls cX7_momentNow (some .int) iv_Mo_momentNow pc e) = true := by decide +kernel
theorem Ct_Mo_momentNow (kk : Nat) (l : Launch) (hst : l.stackTraces = false) : CtX sdM l yX7_momentNow (.code yX7_momentNow cX7_momentNow 3 (some .int) :: lw_all) 8 0 (A_Mo_momentNow kk) := by
  have hT : TabOK sdM l yX7_momentNow.cls cX7_momentNow 0 8 (some .int) T_Mo_momentNow (call_Mo_momentNow kk) (fun _ => []) := by
    intro x hF hH hO hC hG hV hR hsd pc e he
    refine ck_sound FT_ok PT_ok NT_ok CT_ok (invs := iv_Mo_momentNow) ?_ ?_
    · exact (List.forall_mem_cons.mpr ⟨fun pc hd => ⟨cwX_V (C := RX7) (n := 1) hF hd (by rw [hH]; exact Ct_Mo_weightOfBay kk l hst) hsd (by rw [hO]; exact wd_1630) wd_1632 wd_40 wd_97 wd_1633 ⟨rfl, by decide +kernel, by decide +kernel, by decide +kernel⟩ (by decide) (by rw [hV]; decide) (sh_Mo_weightOfBay kk), hd_nil⟩, (fun _ h => nomatch h)⟩)
    · rw [hO, hC, hR]; exact tk_use (fun pc h => by unfold T_Mo_momentNow; rw [Nat.ble_eq_true_of_le h]) tk_Mo_momentNow pc e he
  exact CtX_of hst (by decide) (by decide +kernel) hT (ro_Mo_momentNow kk) (by rw [Nat.zero_mul]; exact Nat.zero_le _)
def iv_Mo_weightAll : List (Instr × Nat) := [(.invokevirtual 62, 2703377)]
theorem tk_Mo_weightAll : (List.range 26).all (fun pc => match T_Mo_weightAll pc with | none => true | some e => ck FT_ PT_ NT_ CT_ yX7_weightAll.cls cX7_weightAll (some .int) iv_Mo_weightAll pc e) = true := by decide +kernel
theorem Ct_Mo_weightAll (kk : Nat) (l : Launch) (hst : l.stackTraces = false) : CtX sdM l yX7_weightAll (.code yX7_weightAll cX7_weightAll 3 (some .int) :: lw_all) 8 0 (A_Mo_weightAll kk) := by
  have hT : TabOK sdM l yX7_weightAll.cls cX7_weightAll 0 8 (some .int) T_Mo_weightAll (call_Mo_weightAll kk) (fun _ => []) := by
    intro x hF hH hO hC hG hV hR hsd pc e he
    refine ck_sound FT_ok PT_ok NT_ok CT_ok (invs := iv_Mo_weightAll) ?_ ?_
    · exact (List.forall_mem_cons.mpr ⟨fun pc hd => ⟨cwX_V (C := RX7) (n := 1) hF hd (by rw [hH]; exact Ct_Mo_weightOfBay kk l hst) hsd (by rw [hO]; exact wd_1630) wd_1632 wd_40 wd_97 wd_1633 ⟨rfl, by decide +kernel, by decide +kernel, by decide +kernel⟩ (by decide) (by rw [hV]; decide) (sh_Mo_weightOfBay kk), hd_nil⟩, (fun _ h => nomatch h)⟩)
    · rw [hO, hC, hR]; exact tk_use (fun pc h => by unfold T_Mo_weightAll; rw [Nat.ble_eq_true_of_le h]) tk_Mo_weightAll pc e he
  exact CtX_of hst (by decide) (by decide +kernel) hT (ro_Mo_weightAll kk) (by rw [Nat.zero_mul]; exact Nat.zero_le _)
def iv_Mo_countAll : List (Instr × Nat) := []
theorem tk_Mo_countAll : (List.range 30).all (fun pc => match T_Mo_countAll pc with | none => true | some e => ck FT_ PT_ NT_ CT_ yX7_countAll.cls cX7_countAll (some .int) iv_Mo_countAll pc e) = true := by decide +kernel
theorem Ct_Mo_countAll (kk : Nat) (l : Launch) (hst : l.stackTraces = false) : CtX sdM l yX7_countAll (.code yX7_countAll cX7_countAll 3 (some .int) :: lw_all) 6 0 (A_Mo_countAll kk) := by
  have hT : TabOK sdM l yX7_countAll.cls cX7_countAll 0 6 (some .int) T_Mo_countAll (call_Mo_countAll kk) (fun _ => []) := by
    intro x hF hH hO hC hG hV hR hsd pc e he
    refine ck_sound FT_ok PT_ok NT_ok CT_ok (invs := iv_Mo_countAll) ?_ ?_
    · exact (fun _ h => nomatch h)
    · rw [hO, hC, hR]; exact tk_use (fun pc h => by unfold T_Mo_countAll; rw [Nat.ble_eq_true_of_le h]) tk_Mo_countAll pc e he
  exact CtX_of hst (by decide) (by decide +kernel) hT (ro_Mo_countAll kk) (by rw [Nat.zero_mul]; exact Nat.zero_le _)
def iv_Mo_isBeyond : List (Instr × Nat) := [(.invokevirtual 66, 2719753)]
theorem tk_Mo_isBeyond : (List.range 34).all (fun pc => match T_Mo_isBeyond pc with | none => true | some e => ck FT_ PT_ NT_ CT_ yX7_isBeyond.cls cX7_isBeyond (some .boolean) iv_Mo_isBeyond pc e) = true := by decide +kernel
theorem Ct_Mo_isBeyond (kk : Nat) (l : Launch) (hst : l.stackTraces = false) : CtX sdM l yX7_isBeyond (.code yX7_isBeyond cX7_isBeyond 3 (some .boolean) :: lw_all) 9 0 (A_Mo_isBeyond kk) := by
  have hT : TabOK sdM l yX7_isBeyond.cls cX7_isBeyond 0 9 (some .boolean) T_Mo_isBeyond (call_Mo_isBeyond kk) (fun _ => []) := by
    intro x hF hH hO hC hG hV hR hsd pc e he
    refine ck_sound FT_ok PT_ok NT_ok CT_ok (invs := iv_Mo_isBeyond) ?_ ?_
    · exact (List.forall_mem_cons.mpr ⟨fun pc hd => ⟨cwX_V (C := RX7) (n := 0) hF hd (by rw [hH]; exact Ct_Mo_momentNow kk l hst) hsd (by rw [hO]; exact wd_1626) wd_1628 wd_39 wd_97 wd_1629 ⟨rfl, by decide +kernel, by decide +kernel, by decide +kernel⟩ (by decide) (by rw [hV]; decide) (sh_Mo_momentNow kk), hd_nil⟩, (fun _ h => nomatch h)⟩)
    · rw [hO, hC, hR]; exact tk_use (fun pc h => by unfold T_Mo_isBeyond; rw [Nat.ble_eq_true_of_le h]) tk_Mo_isBeyond pc e he
  exact CtX_of hst (by decide) (by decide +kernel) hT (ro_Mo_isBeyond kk) (by rw [Nat.zero_mul]; exact Nat.zero_le _)
def iv_Mo_lever : List (Instr × Nat) := []
theorem tk_Mo_lever : (List.range 6).all (fun pc => match T_Mo_lever pc with | none => true | some e => ck FT_ PT_ NT_ CT_ yX7_lever.cls cX7_lever (some .int) iv_Mo_lever pc e) = true := by decide +kernel
theorem Ct_Mo_lever (kk : Nat) (l : Launch) (hst : l.stackTraces = false) : CtX sdM l yX7_lever (.code yX7_lever cX7_lever 2 (some .int) :: lw_all) 6 0 (A_Mo_lever kk) := by
  have hT : TabOK sdM l yX7_lever.cls cX7_lever 0 6 (some .int) T_Mo_lever (call_Mo_lever kk) (fun _ => []) := by
    intro x hF hH hO hC hG hV hR hsd pc e he
    refine ck_sound FT_ok PT_ok NT_ok CT_ok (invs := iv_Mo_lever) ?_ ?_
    · exact (fun _ h => nomatch h)
    · rw [hO, hC, hR]; exact tk_use (fun pc h => by unfold T_Mo_lever; rw [Nat.ble_eq_true_of_le h]) tk_Mo_lever pc e he
  exact CtX_of hst (by decide) (by decide +kernel) hT (ro_Mo_lever kk) (by rw [Nat.zero_mul]; exact Nat.zero_le _)
def iv_Mo_lays : List (Instr × Nat) := [(.invokevirtual 70, 2670632)]
theorem tk_Mo_lays : (List.range 63).all (fun pc => match T_Mo_lays pc with | none => true | some e => ck FT_ PT_ NT_ CT_ yX7_lays.cls cX7_lays none iv_Mo_lays pc e) = true := by decide +kernel
theorem Ct_Mo_lays (kk : Nat) (l : Launch) (hst : l.stackTraces = false) : CtX sdM l yX7_lays (.code yX7_lays cX7_lays 7 none :: lw_all) 7 0 (A_Mo_lays kk) := by
  have hT : TabOK sdM l yX7_lays.cls cX7_lays 0 7 none T_Mo_lays (call_Mo_lays kk) (fun _ => []) := by
    intro x hF hH hO hC hG hV hR hsd pc e he
    refine ck_sound FT_ok PT_ok NT_ok CT_ok (invs := iv_Mo_lays) ?_ ?_
    · exact (List.forall_mem_cons.mpr ⟨fun pc hd => ⟨cwX_V (C := RX7) (n := 4) hF hd (by rw [hH]; exact Ct_Mo_puts kk l hst) hsd (by rw [hO]; exact wd_1662) wd_1664 wd_48 wd_97 wd_1665 ⟨rfl, by decide +kernel, by decide +kernel, by decide +kernel⟩ (by decide) (by rw [hV]; decide) (sh_Mo_puts kk), hd_nil⟩, (fun _ h => nomatch h)⟩)
    · rw [hO, hC, hR]; exact tk_use (fun pc h => by unfold T_Mo_lays; rw [Nat.ble_eq_true_of_le h]) tk_Mo_lays pc e he
  exact CtX_of hst (by decide) (by decide +kernel) hT (ro_Mo_lays kk) (by rw [Nat.zero_mul]; exact Nat.zero_le _)
def iv_Mo_takes : List (Instr × Nat) := [(.invokevirtual 70, 2670632)]
theorem tk_Mo_takes : (List.range 43).all (fun pc => match T_Mo_takes pc with | none => true | some e => ck FT_ PT_ NT_ CT_ yX7_takes.cls cX7_takes none iv_Mo_takes pc e) = true := by decide +kernel
theorem Ct_Mo_takes (kk : Nat) (l : Launch) (hst : l.stackTraces = false) : CtX sdM l yX7_takes (.code yX7_takes cX7_takes 3 none :: lw_all) 7 0 (A_Mo_takes kk) := by
  have hT : TabOK sdM l yX7_takes.cls cX7_takes 0 7 none T_Mo_takes (call_Mo_takes kk) (fun _ => []) := by
    intro x hF hH hO hC hG hV hR hsd pc e he
    refine ck_sound FT_ok PT_ok NT_ok CT_ok (invs := iv_Mo_takes) ?_ ?_
    · exact (List.forall_mem_cons.mpr ⟨fun pc hd => ⟨cwX_V (C := RX7) (n := 4) hF hd (by rw [hH]; exact Ct_Mo_puts kk l hst) hsd (by rw [hO]; exact wd_1662) wd_1664 wd_48 wd_97 wd_1665 ⟨rfl, by decide +kernel, by decide +kernel, by decide +kernel⟩ (by decide) (by rw [hV]; decide) (sh_Mo_puts kk), hd_nil⟩, (fun _ h => nomatch h)⟩)
    · rw [hO, hC, hR]; exact tk_use (fun pc h => by unfold T_Mo_takes; rw [Nat.ble_eq_true_of_le h]) tk_Mo_takes pc e he
  exact CtX_of hst (by decide) (by decide +kernel) hT (ro_Mo_takes kk) (by rw [Nat.zero_mul]; exact Nat.zero_le _)
def iv_Mo_notLoad : List (Instr × Nat) := [(.invokestatic 74, 2637833), (.invokestatic 54, 2539545), (.invokestatic 78, 2785297), (.invokevirtual 82, 2768913)]
theorem tk_Mo_notLoad : (List.range 63).all (fun pc => match T_Mo_notLoad pc with | none => true | some e => ck FT_ PT_ NT_ CT_ yX7_notLoad.cls cX7_notLoad (some .int) iv_Mo_notLoad pc e) = true := by decide +kernel
theorem Ct_Mo_notLoad (kk : Nat) (l : Launch) (hst : l.stackTraces = false) : CtX sdM l yX7_notLoad (.code yX7_notLoad cX7_notLoad 4 (some .int) :: lw_all) 10 0 (A_Mo_notLoad kk) := by
  have hT : TabOK sdM l yX7_notLoad.cls cX7_notLoad 0 10 (some .int) T_Mo_notLoad (call_Mo_notLoad kk) (fun _ => []) := by
    intro x hF hH hO hC hG hV hR hsd pc e he
    refine ck_sound FT_ok PT_ok NT_ok CT_ok (invs := iv_Mo_notLoad) ?_ ?_
    · exact (List.forall_mem_cons.mpr ⟨fun pc hd => ⟨cwX_S (n := 1) hF hd (by rw [hH]; exact Ct_Mo_isBay kk l hst) hsd (by rw [hO]; exact wd_1613) wd_1614 wd_97 wd_1615 ⟨by decide +kernel, by decide +kernel, by decide +kernel⟩ (by decide) (by rw [hV]; decide) (sh_Mo_isBay kk), hd_nil⟩, (List.forall_mem_cons.mpr ⟨fun pc hd => ⟨cwX_S (n := 3) hF hd (by rw [hH]; exact Ct_Mo_isBetween kk l hst) hsd (by rw [hO]; exact wd_1616) wd_1617 wd_97 wd_1618 ⟨by decide +kernel, by decide +kernel, by decide +kernel⟩ (by decide) (by rw [hV]; decide) (sh_Mo_isBetween kk), hd_nil⟩, (List.forall_mem_cons.mpr ⟨fun pc hd => ⟨cwX_S (n := 2) hF hd (by rw [hH]; exact Ct_Mo_lever kk l hst) hsd (by rw [hO]; exact wd_1619) wd_1620 wd_97 wd_1621 ⟨by decide +kernel, by decide +kernel, by decide +kernel⟩ (by decide) (by rw [hV]; decide) (sh_Mo_lever kk), hd_nil⟩, (List.forall_mem_cons.mpr ⟨fun pc hd => ⟨cwX_V (C := RX7) (n := 1) hF hd (by rw [hH]; exact Ct_Mo_isBeyond kk l hst) hsd (by rw [hO]; exact wd_1622) wd_1624 wd_38 wd_97 wd_1625 ⟨rfl, by decide +kernel, by decide +kernel, by decide +kernel⟩ (by decide) (by rw [hV]; decide) (sh_Mo_isBeyond kk), hd_nil⟩, (fun _ h => nomatch h)⟩)⟩)⟩)⟩)
    · rw [hO, hC, hR]; exact tk_use (fun pc h => by unfold T_Mo_notLoad; rw [Nat.ble_eq_true_of_le h]) tk_Mo_notLoad pc e he
  exact CtX_of hst (by decide) (by decide +kernel) hT (ro_Mo_notLoad kk) (by rw [Nat.zero_mul]; exact Nat.zero_le _)
def iv_Mo_loads : List (Instr × Nat) := [(.invokevirtual 85, 2801712)]
theorem tk_Mo_loads : (List.range 38).all (fun pc => match T_Mo_loads pc with | none => true | some e => ck FT_ PT_ NT_ CT_ yX7_loads.cls cX7_loads (some .int) iv_Mo_loads pc e) = true := by decide +kernel
theorem Ct_Mo_loads (kk : Nat) (l : Launch) (hst : l.stackTraces = false) : CtX sdM l yX7_loads (.code yX7_loads cX7_loads 4 (some .int) :: lw_all) 8 0 (A_Mo_loads kk) := by
  have hT : TabOK sdM l yX7_loads.cls cX7_loads 0 8 (some .int) T_Mo_loads (call_Mo_loads kk) (fun _ => []) := by
    intro x hF hH hO hC hG hV hR hsd pc e he
    refine ck_sound FT_ok PT_ok NT_ok CT_ok (invs := iv_Mo_loads) ?_ ?_
    · exact (List.forall_mem_cons.mpr ⟨fun pc hd => ⟨cwX_V (C := RX7) (n := 5) hF hd (by rw [hH]; exact Ct_Mo_lays kk l hst) hsd (by rw [hO]; exact wd_1658) wd_1660 wd_47 wd_97 wd_1661 ⟨rfl, by decide +kernel, by decide +kernel, by decide +kernel⟩ (by decide) (by rw [hV]; decide) (sh_Mo_lays kk), hd_nil⟩, (fun _ h => nomatch h)⟩)
    · rw [hO, hC, hR]; exact tk_use (fun pc h => by unfold T_Mo_loads; rw [Nat.ble_eq_true_of_le h]) tk_Mo_loads pc e he
  exact CtX_of hst (by decide) (by decide +kernel) hT (ro_Mo_loads kk) (by rw [Nat.zero_mul]; exact Nat.zero_le _)
def iv_Mo_load : List (Instr × Nat) := [(.invokevirtual 89, 2834465), (.invokevirtual 92, 2523153), (.invokevirtual 95, 2621448), (.invokevirtual 98, 2850849)]
theorem tk_Mo_load : (List.range 38).all (fun pc => match T_Mo_load pc with | none => true | some e => ck FT_ PT_ NT_ CT_ yX7_load.cls cX7_load (some .int) iv_Mo_load pc e) = true := by decide +kernel
theorem Ct_Mo_load (kk : Nat) (l : Launch) (hst : l.stackTraces = false) : CtX sdM l yX7_load (.code yX7_load cX7_load 5 (some .int) :: lw_all) 11 0 (A_Mo_load kk) := by
  have hT : TabOK sdM l yX7_load.cls cX7_load 0 11 (some .int) T_Mo_load (call_Mo_load kk) (fun _ => []) := by
    intro x hF hH hO hC hG hV hR hsd pc e he
    refine ck_sound FT_ok PT_ok NT_ok CT_ok (invs := iv_Mo_load) ?_ ?_
    · exact (List.forall_mem_cons.mpr ⟨fun pc hd => ⟨cwX_V (C := RX7) (n := 3) hF hd (by rw [hH]; exact Ct_Mo_notLoad kk l hst) hsd (by rw [hO]; exact wd_1609) wd_1611 wd_37 wd_97 wd_1612 ⟨rfl, by decide +kernel, by decide +kernel, by decide +kernel⟩ (by decide) (by rw [hV]; decide) (sh_Mo_notLoad kk), hd_nil⟩, (List.forall_mem_cons.mpr ⟨fun pc hd => ⟨cwX_V (C := RX7) (n := 1) hF hd (by rw [hH]; exact Ct_Mo_fails kk l hst) hsd (by rw [hO]; exact wd_1638) wd_1640 wd_42 wd_97 wd_1641 ⟨rfl, by decide +kernel, by decide +kernel, by decide +kernel⟩ (by decide) (by rw [hV]; decide) (sh_Mo_fails kk), hd_nil⟩, (List.forall_mem_cons.mpr ⟨fun pc hd => ⟨cwX_V (C := RX7) (n := 0) hF hd (by rw [hH]; exact Ct_Mo_remembers kk l hst) hsd (by rw [hO]; exact wd_1642) wd_1644 wd_43 wd_97 wd_1645 ⟨rfl, by decide +kernel, by decide +kernel, by decide +kernel⟩ (by decide) (by rw [hV]; decide) (sh_Mo_remembers kk), hd_nil⟩, (List.forall_mem_cons.mpr ⟨fun pc hd => ⟨cwX_V (C := RX7) (n := 3) hF hd (by rw [hH]; exact Ct_Mo_loads kk l hst) hsd (by rw [hO]; exact wd_1654) wd_1656 wd_46 wd_97 wd_1657 ⟨rfl, by decide +kernel, by decide +kernel, by decide +kernel⟩ (by decide) (by rw [hV]; decide) (sh_Mo_loads kk), hd_nil⟩, (fun _ h => nomatch h)⟩)⟩)⟩)⟩)
    · rw [hO, hC, hR]; exact tk_use (fun pc h => by unfold T_Mo_load; rw [Nat.ble_eq_true_of_le h]) tk_Mo_load pc e he
  exact CtX_of hst (by decide) (by decide +kernel) hT (ro_Mo_load kk) (by rw [Nat.zero_mul]; exact Nat.zero_le _)
def iv_Mo_notUnload : List (Instr × Nat) := [(.invokestatic 74, 2637833), (.invokevirtual 101, 2687001), (.invokestatic 78, 2785297), (.invokevirtual 82, 2768913)]
theorem tk_Mo_notUnload : (List.range 64).all (fun pc => match T_Mo_notUnload pc with | none => true | some e => ck FT_ PT_ NT_ CT_ yX7_notUnload.cls cX7_notUnload (some .int) iv_Mo_notUnload pc e) = true := by decide +kernel
theorem Ct_Mo_notUnload (kk : Nat) (l : Launch) (hst : l.stackTraces = false) : CtX sdM l yX7_notUnload (.code yX7_notUnload cX7_notUnload 2 (some .int) :: lw_all) 10 0 (A_Mo_notUnload kk) := by
  have hT : TabOK sdM l yX7_notUnload.cls cX7_notUnload 0 10 (some .int) T_Mo_notUnload (call_Mo_notUnload kk) (fun _ => []) := by
    intro x hF hH hO hC hG hV hR hsd pc e he
    refine ck_sound FT_ok PT_ok NT_ok CT_ok (invs := iv_Mo_notUnload) ?_ ?_
    · exact (List.forall_mem_cons.mpr ⟨fun pc hd => ⟨cwX_S (n := 1) hF hd (by rw [hH]; exact Ct_Mo_isBay kk l hst) hsd (by rw [hO]; exact wd_1613) wd_1614 wd_97 wd_1615 ⟨by decide +kernel, by decide +kernel, by decide +kernel⟩ (by decide) (by rw [hV]; decide) (sh_Mo_isBay kk), hd_nil⟩, (List.forall_mem_cons.mpr ⟨fun pc hd => ⟨cwX_V (C := RX7) (n := 2) hF hd (by rw [hH]; exact Ct_Mo_top kk l hst) hsd (by rw [hO]; exact wd_1674) wd_1676 wd_50 wd_97 wd_1677 ⟨rfl, by decide +kernel, by decide +kernel, by decide +kernel⟩ (by decide) (by rw [hV]; decide) (sh_Mo_top kk), hd_nil⟩, (List.forall_mem_cons.mpr ⟨fun pc hd => ⟨cwX_S (n := 2) hF hd (by rw [hH]; exact Ct_Mo_lever kk l hst) hsd (by rw [hO]; exact wd_1619) wd_1620 wd_97 wd_1621 ⟨by decide +kernel, by decide +kernel, by decide +kernel⟩ (by decide) (by rw [hV]; decide) (sh_Mo_lever kk), hd_nil⟩, (List.forall_mem_cons.mpr ⟨fun pc hd => ⟨cwX_V (C := RX7) (n := 1) hF hd (by rw [hH]; exact Ct_Mo_isBeyond kk l hst) hsd (by rw [hO]; exact wd_1622) wd_1624 wd_38 wd_97 wd_1625 ⟨rfl, by decide +kernel, by decide +kernel, by decide +kernel⟩ (by decide) (by rw [hV]; decide) (sh_Mo_isBeyond kk), hd_nil⟩, (fun _ h => nomatch h)⟩)⟩)⟩)⟩)
    · rw [hO, hC, hR]; exact tk_use (fun pc h => by unfold T_Mo_notUnload; rw [Nat.ble_eq_true_of_le h]) tk_Mo_notUnload pc e he
  exact CtX_of hst (by decide) (by decide +kernel) hT (ro_Mo_notUnload kk) (by rw [Nat.zero_mul]; exact Nat.zero_le _)
def iv_Mo_unloads : List (Instr × Nat) := [(.invokevirtual 101, 2687001), (.invokevirtual 104, 2818064)]
theorem tk_Mo_unloads : (List.range 40).all (fun pc => match T_Mo_unloads pc with | none => true | some e => ck FT_ PT_ NT_ CT_ yX7_unloads.cls cX7_unloads (some .int) iv_Mo_unloads pc e) = true := by decide +kernel
theorem Ct_Mo_unloads (kk : Nat) (l : Launch) (hst : l.stackTraces = false) : CtX sdM l yX7_unloads (.code yX7_unloads cX7_unloads 3 (some .int) :: lw_all) 8 0 (A_Mo_unloads kk) := by
  have hT : TabOK sdM l yX7_unloads.cls cX7_unloads 0 8 (some .int) T_Mo_unloads (call_Mo_unloads kk) (fun _ => []) := by
    intro x hF hH hO hC hG hV hR hsd pc e he
    refine ck_sound FT_ok PT_ok NT_ok CT_ok (invs := iv_Mo_unloads) ?_ ?_
    · exact (List.forall_mem_cons.mpr ⟨fun pc hd => ⟨cwX_V (C := RX7) (n := 2) hF hd (by rw [hH]; exact Ct_Mo_top kk l hst) hsd (by rw [hO]; exact wd_1674) wd_1676 wd_50 wd_97 wd_1677 ⟨rfl, by decide +kernel, by decide +kernel, by decide +kernel⟩ (by decide) (by rw [hV]; decide) (sh_Mo_top kk), hd_nil⟩, (List.forall_mem_cons.mpr ⟨fun pc hd => ⟨cwX_V (C := RX7) (n := 1) hF hd (by rw [hH]; exact Ct_Mo_takes kk l hst) hsd (by rw [hO]; exact wd_1682) wd_1684 wd_52 wd_97 wd_1685 ⟨rfl, by decide +kernel, by decide +kernel, by decide +kernel⟩ (by decide) (by rw [hV]; decide) (sh_Mo_takes kk), hd_nil⟩, (fun _ h => nomatch h)⟩)⟩)
    · rw [hO, hC, hR]; exact tk_use (fun pc h => by unfold T_Mo_unloads; rw [Nat.ble_eq_true_of_le h]) tk_Mo_unloads pc e he
  exact CtX_of hst (by decide) (by decide +kernel) hT (ro_Mo_unloads kk) (by rw [Nat.zero_mul]; exact Nat.zero_le _)
def iv_Mo_unload : List (Instr × Nat) := [(.invokevirtual 108, 2883601), (.invokevirtual 92, 2523153), (.invokevirtual 95, 2621448), (.invokevirtual 111, 2899985)]
theorem tk_Mo_unload : (List.range 31).all (fun pc => match T_Mo_unload pc with | none => true | some e => ck FT_ PT_ NT_ CT_ yX7_unload.cls cX7_unload (some .int) iv_Mo_unload pc e) = true := by decide +kernel
theorem Ct_Mo_unload (kk : Nat) (l : Launch) (hst : l.stackTraces = false) : CtX sdM l yX7_unload (.code yX7_unload cX7_unload 3 (some .int) :: lw_all) 11 0 (A_Mo_unload kk) := by
  have hT : TabOK sdM l yX7_unload.cls cX7_unload 0 11 (some .int) T_Mo_unload (call_Mo_unload kk) (fun _ => []) := by
    intro x hF hH hO hC hG hV hR hsd pc e he
    refine ck_sound FT_ok PT_ok NT_ok CT_ok (invs := iv_Mo_unload) ?_ ?_
    · exact (List.forall_mem_cons.mpr ⟨fun pc hd => ⟨cwX_V (C := RX7) (n := 1) hF hd (by rw [hH]; exact Ct_Mo_notUnload kk l hst) hsd (by rw [hO]; exact wd_1670) wd_1672 wd_49 wd_97 wd_1673 ⟨rfl, by decide +kernel, by decide +kernel, by decide +kernel⟩ (by decide) (by rw [hV]; decide) (sh_Mo_notUnload kk), hd_nil⟩, (List.forall_mem_cons.mpr ⟨fun pc hd => ⟨cwX_V (C := RX7) (n := 1) hF hd (by rw [hH]; exact Ct_Mo_fails kk l hst) hsd (by rw [hO]; exact wd_1638) wd_1640 wd_42 wd_97 wd_1641 ⟨rfl, by decide +kernel, by decide +kernel, by decide +kernel⟩ (by decide) (by rw [hV]; decide) (sh_Mo_fails kk), hd_nil⟩, (List.forall_mem_cons.mpr ⟨fun pc hd => ⟨cwX_V (C := RX7) (n := 0) hF hd (by rw [hH]; exact Ct_Mo_remembers kk l hst) hsd (by rw [hO]; exact wd_1642) wd_1644 wd_43 wd_97 wd_1645 ⟨rfl, by decide +kernel, by decide +kernel, by decide +kernel⟩ (by decide) (by rw [hV]; decide) (sh_Mo_remembers kk), hd_nil⟩, (List.forall_mem_cons.mpr ⟨fun pc hd => ⟨cwX_V (C := RX7) (n := 1) hF hd (by rw [hH]; exact Ct_Mo_unloads kk l hst) hsd (by rw [hO]; exact wd_1678) wd_1680 wd_51 wd_97 wd_1681 ⟨rfl, by decide +kernel, by decide +kernel, by decide +kernel⟩ (by decide) (by rw [hV]; decide) (sh_Mo_unloads kk), hd_nil⟩, (fun _ h => nomatch h)⟩)⟩)⟩)⟩)
    · rw [hO, hC, hR]; exact tk_use (fun pc h => by unfold T_Mo_unload; rw [Nat.ble_eq_true_of_le h]) tk_Mo_unload pc e he
  exact CtX_of hst (by decide) (by decide +kernel) hT (ro_Mo_unload kk) (by rw [Nat.zero_mul]; exact Nat.zero_le _)
def iv_Mo_notShift : List (Instr × Nat) := [(.invokestatic 74, 2637833), (.invokevirtual 101, 2687001), (.invokestatic 78, 2785297), (.invokevirtual 82, 2768913)]
theorem tk_Mo_notShift : (List.range 83).all (fun pc => match T_Mo_notShift pc with | none => true | some e => ck FT_ PT_ NT_ CT_ yX7_notShift.cls cX7_notShift (some .int) iv_Mo_notShift pc e) = true := by decide +kernel
theorem Ct_Mo_notShift (kk : Nat) (l : Launch) (hst : l.stackTraces = false) : CtX sdM l yX7_notShift (.code yX7_notShift cX7_notShift 4 (some .int) :: lw_all) 10 0 (A_Mo_notShift kk) := by
  have hT : TabOK sdM l yX7_notShift.cls cX7_notShift 0 10 (some .int) T_Mo_notShift (call_Mo_notShift kk) (fun _ => []) := by
    intro x hF hH hO hC hG hV hR hsd pc e he
    refine ck_sound FT_ok PT_ok NT_ok CT_ok (invs := iv_Mo_notShift) ?_ ?_
    · exact (List.forall_mem_cons.mpr ⟨fun pc hd => ⟨cwX_S (n := 1) hF hd (by rw [hH]; exact Ct_Mo_isBay kk l hst) hsd (by rw [hO]; exact wd_1613) wd_1614 wd_97 wd_1615 ⟨by decide +kernel, by decide +kernel, by decide +kernel⟩ (by decide) (by rw [hV]; decide) (sh_Mo_isBay kk), hd_nil⟩, (List.forall_mem_cons.mpr ⟨fun pc hd => ⟨cwX_V (C := RX7) (n := 2) hF hd (by rw [hH]; exact Ct_Mo_top kk l hst) hsd (by rw [hO]; exact wd_1674) wd_1676 wd_50 wd_97 wd_1677 ⟨rfl, by decide +kernel, by decide +kernel, by decide +kernel⟩ (by decide) (by rw [hV]; decide) (sh_Mo_top kk), hd_nil⟩, (List.forall_mem_cons.mpr ⟨fun pc hd => ⟨cwX_S (n := 2) hF hd (by rw [hH]; exact Ct_Mo_lever kk l hst) hsd (by rw [hO]; exact wd_1619) wd_1620 wd_97 wd_1621 ⟨by decide +kernel, by decide +kernel, by decide +kernel⟩ (by decide) (by rw [hV]; decide) (sh_Mo_lever kk), hd_nil⟩, (List.forall_mem_cons.mpr ⟨fun pc hd => ⟨cwX_V (C := RX7) (n := 1) hF hd (by rw [hH]; exact Ct_Mo_isBeyond kk l hst) hsd (by rw [hO]; exact wd_1622) wd_1624 wd_38 wd_97 wd_1625 ⟨rfl, by decide +kernel, by decide +kernel, by decide +kernel⟩ (by decide) (by rw [hV]; decide) (sh_Mo_isBeyond kk), hd_nil⟩, (fun _ h => nomatch h)⟩)⟩)⟩)⟩)
    · rw [hO, hC, hR]; exact tk_use (fun pc h => by unfold T_Mo_notShift; rw [Nat.ble_eq_true_of_le h]) tk_Mo_notShift pc e he
  exact CtX_of hst (by decide) (by decide +kernel) hT (ro_Mo_notShift kk) (by rw [Nat.zero_mul]; exact Nat.zero_le _)
def iv_Mo_shifts : List (Instr × Nat) := [(.invokevirtual 101, 2687001), (.invokevirtual 85, 2801712), (.invokevirtual 104, 2818064)]
theorem tk_Mo_shifts : (List.range 38).all (fun pc => match T_Mo_shifts pc with | none => true | some e => ck FT_ PT_ NT_ CT_ yX7_shifts.cls cX7_shifts (some .int) iv_Mo_shifts pc e) = true := by decide +kernel
theorem Ct_Mo_shifts (kk : Nat) (l : Launch) (hst : l.stackTraces = false) : CtX sdM l yX7_shifts (.code yX7_shifts cX7_shifts 4 (some .int) :: lw_all) 8 0 (A_Mo_shifts kk) := by
  have hT : TabOK sdM l yX7_shifts.cls cX7_shifts 0 8 (some .int) T_Mo_shifts (call_Mo_shifts kk) (fun _ => []) := by
    intro x hF hH hO hC hG hV hR hsd pc e he
    refine ck_sound FT_ok PT_ok NT_ok CT_ok (invs := iv_Mo_shifts) ?_ ?_
    · exact (List.forall_mem_cons.mpr ⟨fun pc hd => ⟨cwX_V (C := RX7) (n := 2) hF hd (by rw [hH]; exact Ct_Mo_top kk l hst) hsd (by rw [hO]; exact wd_1674) wd_1676 wd_50 wd_97 wd_1677 ⟨rfl, by decide +kernel, by decide +kernel, by decide +kernel⟩ (by decide) (by rw [hV]; decide) (sh_Mo_top kk), hd_nil⟩, (List.forall_mem_cons.mpr ⟨fun pc hd => ⟨cwX_V (C := RX7) (n := 5) hF hd (by rw [hH]; exact Ct_Mo_lays kk l hst) hsd (by rw [hO]; exact wd_1658) wd_1660 wd_47 wd_97 wd_1661 ⟨rfl, by decide +kernel, by decide +kernel, by decide +kernel⟩ (by decide) (by rw [hV]; decide) (sh_Mo_lays kk), hd_nil⟩, (List.forall_mem_cons.mpr ⟨fun pc hd => ⟨cwX_V (C := RX7) (n := 1) hF hd (by rw [hH]; exact Ct_Mo_takes kk l hst) hsd (by rw [hO]; exact wd_1682) wd_1684 wd_52 wd_97 wd_1685 ⟨rfl, by decide +kernel, by decide +kernel, by decide +kernel⟩ (by decide) (by rw [hV]; decide) (sh_Mo_takes kk), hd_nil⟩, (fun _ h => nomatch h)⟩)⟩)⟩)
    · rw [hO, hC, hR]; exact tk_use (fun pc h => by unfold T_Mo_shifts; rw [Nat.ble_eq_true_of_le h]) tk_Mo_shifts pc e he
  exact CtX_of hst (by decide) (by decide +kernel) hT (ro_Mo_shifts kk) (by rw [Nat.zero_mul]; exact Nat.zero_le _)
def iv_Mo_shift : List (Instr × Nat) := [(.invokevirtual 114, 2932761), (.invokevirtual 92, 2523153), (.invokevirtual 95, 2621448), (.invokevirtual 117, 2949145)]
theorem tk_Mo_shift : (List.range 33).all (fun pc => match T_Mo_shift pc with | none => true | some e => ck FT_ PT_ NT_ CT_ yX7_shift.cls cX7_shift (some .int) iv_Mo_shift pc e) = true := by decide +kernel
theorem Ct_Mo_shift (kk : Nat) (l : Launch) (hst : l.stackTraces = false) : CtX sdM l yX7_shift (.code yX7_shift cX7_shift 4 (some .int) :: lw_all) 11 0 (A_Mo_shift kk) := by
  have hT : TabOK sdM l yX7_shift.cls cX7_shift 0 11 (some .int) T_Mo_shift (call_Mo_shift kk) (fun _ => []) := by
    intro x hF hH hO hC hG hV hR hsd pc e he
    refine ck_sound FT_ok PT_ok NT_ok CT_ok (invs := iv_Mo_shift) ?_ ?_
    · exact (List.forall_mem_cons.mpr ⟨fun pc hd => ⟨cwX_V (C := RX7) (n := 2) hF hd (by rw [hH]; exact Ct_Mo_notShift kk l hst) hsd (by rw [hO]; exact wd_1690) wd_1692 wd_53 wd_97 wd_1693 ⟨rfl, by decide +kernel, by decide +kernel, by decide +kernel⟩ (by decide) (by rw [hV]; decide) (sh_Mo_notShift kk), hd_nil⟩, (List.forall_mem_cons.mpr ⟨fun pc hd => ⟨cwX_V (C := RX7) (n := 1) hF hd (by rw [hH]; exact Ct_Mo_fails kk l hst) hsd (by rw [hO]; exact wd_1638) wd_1640 wd_42 wd_97 wd_1641 ⟨rfl, by decide +kernel, by decide +kernel, by decide +kernel⟩ (by decide) (by rw [hV]; decide) (sh_Mo_fails kk), hd_nil⟩, (List.forall_mem_cons.mpr ⟨fun pc hd => ⟨cwX_V (C := RX7) (n := 0) hF hd (by rw [hH]; exact Ct_Mo_remembers kk l hst) hsd (by rw [hO]; exact wd_1642) wd_1644 wd_43 wd_97 wd_1645 ⟨rfl, by decide +kernel, by decide +kernel, by decide +kernel⟩ (by decide) (by rw [hV]; decide) (sh_Mo_remembers kk), hd_nil⟩, (List.forall_mem_cons.mpr ⟨fun pc hd => ⟨cwX_V (C := RX7) (n := 2) hF hd (by rw [hH]; exact Ct_Mo_shifts kk l hst) hsd (by rw [hO]; exact wd_1694) wd_1696 wd_54 wd_97 wd_1697 ⟨rfl, by decide +kernel, by decide +kernel, by decide +kernel⟩ (by decide) (by rw [hV]; decide) (sh_Mo_shifts kk), hd_nil⟩, (fun _ h => nomatch h)⟩)⟩)⟩)⟩)
    · rw [hO, hC, hR]; exact tk_use (fun pc h => by unfold T_Mo_shift; rw [Nat.ble_eq_true_of_le h]) tk_Mo_shift pc e he
  exact CtX_of hst (by decide) (by decide +kernel) hT (ro_Mo_shift kk) (by rw [Nat.zero_mul]; exact Nat.zero_le _)
def iv_Mo_portBehind : List (Instr × Nat) := []
theorem tk_Mo_portBehind : (List.range 27).all (fun pc => match T_Mo_portBehind pc with | none => true | some e => ck FT_ PT_ NT_ CT_ yX7_portBehind.cls cX7_portBehind (some .int) iv_Mo_portBehind pc e) = true := by decide +kernel
theorem Ct_Mo_portBehind (kk : Nat) (l : Launch) (hst : l.stackTraces = false) : CtX sdM l yX7_portBehind (.code yX7_portBehind cX7_portBehind 2 (some .int) :: lw_all) 6 0 (A_Mo_portBehind kk) := by
  have hT : TabOK sdM l yX7_portBehind.cls cX7_portBehind 0 6 (some .int) T_Mo_portBehind (call_Mo_portBehind kk) (fun _ => []) := by
    intro x hF hH hO hC hG hV hR hsd pc e he
    refine ck_sound FT_ok PT_ok NT_ok CT_ok (invs := iv_Mo_portBehind) ?_ ?_
    · exact (fun _ h => nomatch h)
    · rw [hO, hC, hR]; exact tk_use (fun pc h => by unfold T_Mo_portBehind; rw [Nat.ble_eq_true_of_le h]) tk_Mo_portBehind pc e he
  exact CtX_of hst (by decide) (by decide +kernel) hT (ro_Mo_portBehind kk) (by rw [Nat.zero_mul]; exact Nat.zero_le _)
def iv_Mo_notSail : List (Instr × Nat) := [(.invokestatic 54, 2539545)]
theorem tk_Mo_notSail : (List.range 16).all (fun pc => match T_Mo_notSail pc with | none => true | some e => ck FT_ PT_ NT_ CT_ yX7_notSail.cls cX7_notSail (some .int) iv_Mo_notSail pc e) = true := by decide +kernel
theorem Ct_Mo_notSail (kk : Nat) (l : Launch) (hst : l.stackTraces = false) : CtX sdM l yX7_notSail (.code yX7_notSail cX7_notSail 1 (some .int) :: lw_all) 7 0 (A_Mo_notSail kk) := by
  have hT : TabOK sdM l yX7_notSail.cls cX7_notSail 0 7 (some .int) T_Mo_notSail (call_Mo_notSail kk) (fun _ => []) := by
    intro x hF hH hO hC hG hV hR hsd pc e he
    refine ck_sound FT_ok PT_ok NT_ok CT_ok (invs := iv_Mo_notSail) ?_ ?_
    · exact (List.forall_mem_cons.mpr ⟨fun pc hd => ⟨cwX_S (n := 3) hF hd (by rw [hH]; exact Ct_Mo_isBetween kk l hst) hsd (by rw [hO]; exact wd_1616) wd_1617 wd_97 wd_1618 ⟨by decide +kernel, by decide +kernel, by decide +kernel⟩ (by decide) (by rw [hV]; decide) (sh_Mo_isBetween kk), hd_nil⟩, (fun _ h => nomatch h)⟩)
    · rw [hO, hC, hR]; exact tk_use (fun pc h => by unfold T_Mo_notSail; rw [Nat.ble_eq_true_of_le h]) tk_Mo_notSail pc e he
  exact CtX_of hst (by decide) (by decide +kernel) hT (ro_Mo_notSail kk) (by rw [Nat.zero_mul]; exact Nat.zero_le _)
def iv_Mo_sails : List (Instr × Nat) := [(.invokevirtual 120, 2981905)]
theorem tk_Mo_sails : (List.range 28).all (fun pc => match T_Mo_sails pc with | none => true | some e => ck FT_ PT_ NT_ CT_ yX7_sails.cls cX7_sails (some .int) iv_Mo_sails pc e) = true := by decide +kernel
theorem Ct_Mo_sails (kk : Nat) (l : Launch) (hst : l.stackTraces = false) : CtX sdM l yX7_sails (.code yX7_sails cX7_sails 2 (some .int) :: lw_all) 7 0 (A_Mo_sails kk) := by
  have hT : TabOK sdM l yX7_sails.cls cX7_sails 0 7 (some .int) T_Mo_sails (call_Mo_sails kk) (fun _ => []) := by
    intro x hF hH hO hC hG hV hR hsd pc e he
    refine ck_sound FT_ok PT_ok NT_ok CT_ok (invs := iv_Mo_sails) ?_ ?_
    · exact (List.forall_mem_cons.mpr ⟨fun pc hd => ⟨cwX_V (C := RX7) (n := 1) hF hd (by rw [hH]; exact Ct_Mo_portBehind kk l hst) hsd (by rw [hO]; exact wd_1709) wd_1711 wd_56 wd_97 wd_1712 ⟨rfl, by decide +kernel, by decide +kernel, by decide +kernel⟩ (by decide) (by rw [hV]; decide) (sh_Mo_portBehind kk), hd_nil⟩, (fun _ h => nomatch h)⟩)
    · rw [hO, hC, hR]; exact tk_use (fun pc h => by unfold T_Mo_sails; rw [Nat.ble_eq_true_of_le h]) tk_Mo_sails pc e he
  exact CtX_of hst (by decide) (by decide +kernel) hT (ro_Mo_sails kk) (by rw [Nat.zero_mul]; exact Nat.zero_le _)
def iv_Mo_sail : List (Instr × Nat) := [(.invokestatic 123, 2998281), (.invokevirtual 92, 2523153), (.invokevirtual 95, 2621448), (.invokevirtual 126, 3014673)]
theorem tk_Mo_sail : (List.range 28).all (fun pc => match T_Mo_sail pc with | none => true | some e => ck FT_ PT_ NT_ CT_ yX7_sail.cls cX7_sail (some .int) iv_Mo_sail pc e) = true := by decide +kernel
theorem Ct_Mo_sail (kk : Nat) (l : Launch) (hst : l.stackTraces = false) : CtX sdM l yX7_sail (.code yX7_sail cX7_sail 2 (some .int) :: lw_all) 8 0 (A_Mo_sail kk) := by
  have hT : TabOK sdM l yX7_sail.cls cX7_sail 0 8 (some .int) T_Mo_sail (call_Mo_sail kk) (fun _ => []) := by
    intro x hF hH hO hC hG hV hR hsd pc e he
    refine ck_sound FT_ok PT_ok NT_ok CT_ok (invs := iv_Mo_sail) ?_ ?_
    · exact (List.forall_mem_cons.mpr ⟨fun pc hd => ⟨cwX_S (n := 1) hF hd (by rw [hH]; exact Ct_Mo_notSail kk l hst) hsd (by rw [hO]; exact wd_1702) wd_1703 wd_97 wd_1704 ⟨by decide +kernel, by decide +kernel, by decide +kernel⟩ (by decide) (by rw [hV]; decide) (sh_Mo_notSail kk), hd_nil⟩, (List.forall_mem_cons.mpr ⟨fun pc hd => ⟨cwX_V (C := RX7) (n := 1) hF hd (by rw [hH]; exact Ct_Mo_fails kk l hst) hsd (by rw [hO]; exact wd_1638) wd_1640 wd_42 wd_97 wd_1641 ⟨rfl, by decide +kernel, by decide +kernel, by decide +kernel⟩ (by decide) (by rw [hV]; decide) (sh_Mo_fails kk), hd_nil⟩, (List.forall_mem_cons.mpr ⟨fun pc hd => ⟨cwX_V (C := RX7) (n := 0) hF hd (by rw [hH]; exact Ct_Mo_remembers kk l hst) hsd (by rw [hO]; exact wd_1642) wd_1644 wd_43 wd_97 wd_1645 ⟨rfl, by decide +kernel, by decide +kernel, by decide +kernel⟩ (by decide) (by rw [hV]; decide) (sh_Mo_remembers kk), hd_nil⟩, (List.forall_mem_cons.mpr ⟨fun pc hd => ⟨cwX_V (C := RX7) (n := 1) hF hd (by rw [hH]; exact Ct_Mo_sails kk l hst) hsd (by rw [hO]; exact wd_1705) wd_1707 wd_55 wd_97 wd_1708 ⟨rfl, by decide +kernel, by decide +kernel, by decide +kernel⟩ (by decide) (by rw [hV]; decide) (sh_Mo_sails kk), hd_nil⟩, (fun _ h => nomatch h)⟩)⟩)⟩)⟩)
    · rw [hO, hC, hR]; exact tk_use (fun pc h => by unfold T_Mo_sail; rw [Nat.ble_eq_true_of_le h]) tk_Mo_sail pc e he
  exact CtX_of hst (by decide) (by decide +kernel) hT (ro_Mo_sail kk) (by rw [Nat.zero_mul]; exact Nat.zero_le _)
def iv_Mo_turns : List (Instr × Nat) := []
theorem tk_Mo_turns : (List.range 21).all (fun pc => match T_Mo_turns pc with | none => true | some e => ck FT_ PT_ NT_ CT_ yX7_turns.cls cX7_turns (some .int) iv_Mo_turns pc e) = true := by decide +kernel
theorem Ct_Mo_turns (kk : Nat) (l : Launch) (hst : l.stackTraces = false) : CtX sdM l yX7_turns (.code yX7_turns cX7_turns 1 (some .int) :: lw_all) 6 0 (A_Mo_turns kk) := by
  have hT : TabOK sdM l yX7_turns.cls cX7_turns 0 6 (some .int) T_Mo_turns (call_Mo_turns kk) (fun _ => []) := by
    intro x hF hH hO hC hG hV hR hsd pc e he
    refine ck_sound FT_ok PT_ok NT_ok CT_ok (invs := iv_Mo_turns) ?_ ?_
    · exact (fun _ h => nomatch h)
    · rw [hO, hC, hR]; exact tk_use (fun pc h => by unfold T_Mo_turns; rw [Nat.ble_eq_true_of_le h]) tk_Mo_turns pc e he
  exact CtX_of hst (by decide) (by decide +kernel) hT (ro_Mo_turns kk) (by rw [Nat.zero_mul]; exact Nat.zero_le _)
def iv_Mo_turn : List (Instr × Nat) := [(.invokevirtual 95, 2621448), (.invokevirtual 129, 3047433)]
theorem tk_Mo_turn : (List.range 22).all (fun pc => match T_Mo_turn pc with | none => true | some e => ck FT_ PT_ NT_ CT_ yX7_turn.cls cX7_turn (some .boolean) iv_Mo_turn pc e) = true := by decide +kernel
theorem Ct_Mo_turn (kk : Nat) (l : Launch) (hst : l.stackTraces = false) : CtX sdM l yX7_turn (.code yX7_turn cX7_turn 1 (some .boolean) :: lw_all) 8 0 (A_Mo_turn kk) := by
  have hT : TabOK sdM l yX7_turn.cls cX7_turn 0 8 (some .boolean) T_Mo_turn (call_Mo_turn kk) (fun _ => []) := by
    intro x hF hH hO hC hG hV hR hsd pc e he
    refine ck_sound FT_ok PT_ok NT_ok CT_ok (invs := iv_Mo_turn) ?_ ?_
    · exact (List.forall_mem_cons.mpr ⟨fun pc hd => ⟨cwX_V (C := RX7) (n := 0) hF hd (by rw [hH]; exact Ct_Mo_remembers kk l hst) hsd (by rw [hO]; exact wd_1642) wd_1644 wd_43 wd_97 wd_1645 ⟨rfl, by decide +kernel, by decide +kernel, by decide +kernel⟩ (by decide) (by rw [hV]; decide) (sh_Mo_remembers kk), hd_nil⟩, (List.forall_mem_cons.mpr ⟨fun pc hd => ⟨cwX_V (C := RX7) (n := 0) hF hd (by rw [hH]; exact Ct_Mo_turns kk l hst) hsd (by rw [hO]; exact wd_1717) wd_1719 wd_57 wd_97 wd_1720 ⟨rfl, by decide +kernel, by decide +kernel, by decide +kernel⟩ (by decide) (by rw [hV]; decide) (sh_Mo_turns kk), hd_nil⟩, (fun _ h => nomatch h)⟩)⟩)
    · rw [hO, hC, hR]; exact tk_use (fun pc h => by unfold T_Mo_turn; rw [Nat.ble_eq_true_of_le h]) tk_Mo_turn pc e he
  exact CtX_of hst (by decide) (by decide +kernel) hT (ro_Mo_turn kk) (by rw [Nat.zero_mul]; exact Nat.zero_le _)
def iv_Mo_notLimit : List (Instr × Nat) := [(.invokestatic 54, 2539545), (.invokevirtual 66, 2719753)]
theorem tk_Mo_notLimit : (List.range 35).all (fun pc => match T_Mo_notLimit pc with | none => true | some e => ck FT_ PT_ NT_ CT_ yX7_notLimit.cls cX7_notLimit (some .int) iv_Mo_notLimit pc e) = true := by decide +kernel
theorem Ct_Mo_notLimit (kk : Nat) (l : Launch) (hst : l.stackTraces = false) : CtX sdM l yX7_notLimit (.code yX7_notLimit cX7_notLimit 3 (some .int) :: lw_all) 9 0 (A_Mo_notLimit kk) := by
  have hT : TabOK sdM l yX7_notLimit.cls cX7_notLimit 0 9 (some .int) T_Mo_notLimit (call_Mo_notLimit kk) (fun _ => []) := by
    intro x hF hH hO hC hG hV hR hsd pc e he
    refine ck_sound FT_ok PT_ok NT_ok CT_ok (invs := iv_Mo_notLimit) ?_ ?_
    · exact (List.forall_mem_cons.mpr ⟨fun pc hd => ⟨cwX_S (n := 3) hF hd (by rw [hH]; exact Ct_Mo_isBetween kk l hst) hsd (by rw [hO]; exact wd_1616) wd_1617 wd_97 wd_1618 ⟨by decide +kernel, by decide +kernel, by decide +kernel⟩ (by decide) (by rw [hV]; decide) (sh_Mo_isBetween kk), hd_nil⟩, (List.forall_mem_cons.mpr ⟨fun pc hd => ⟨cwX_V (C := RX7) (n := 0) hF hd (by rw [hH]; exact Ct_Mo_momentNow kk l hst) hsd (by rw [hO]; exact wd_1626) wd_1628 wd_39 wd_97 wd_1629 ⟨rfl, by decide +kernel, by decide +kernel, by decide +kernel⟩ (by decide) (by rw [hV]; decide) (sh_Mo_momentNow kk), hd_nil⟩, (fun _ h => nomatch h)⟩)⟩)
    · rw [hO, hC, hR]; exact tk_use (fun pc h => by unfold T_Mo_notLimit; rw [Nat.ble_eq_true_of_le h]) tk_Mo_notLimit pc e he
  exact CtX_of hst (by decide) (by decide +kernel) hT (ro_Mo_notLimit kk) (by rw [Nat.zero_mul]; exact Nat.zero_le _)
def iv_Mo_setsLimit : List (Instr × Nat) := []
theorem tk_Mo_setsLimit : (List.range 16).all (fun pc => match T_Mo_setsLimit pc with | none => true | some e => ck FT_ PT_ NT_ CT_ yX7_setsLimit.cls cX7_setsLimit (some .int) iv_Mo_setsLimit pc e) = true := by decide +kernel
theorem Ct_Mo_setsLimit (kk : Nat) (l : Launch) (hst : l.stackTraces = false) : CtX sdM l yX7_setsLimit (.code yX7_setsLimit cX7_setsLimit 3 (some .int) :: lw_all) 6 0 (A_Mo_setsLimit kk) := by
  have hT : TabOK sdM l yX7_setsLimit.cls cX7_setsLimit 0 6 (some .int) T_Mo_setsLimit (call_Mo_setsLimit kk) (fun _ => []) := by
    intro x hF hH hO hC hG hV hR hsd pc e he
    refine ck_sound FT_ok PT_ok NT_ok CT_ok (invs := iv_Mo_setsLimit) ?_ ?_
    · exact (fun _ h => nomatch h)
    · rw [hO, hC, hR]; exact tk_use (fun pc h => by unfold T_Mo_setsLimit; rw [Nat.ble_eq_true_of_le h]) tk_Mo_setsLimit pc e he
  exact CtX_of hst (by decide) (by decide +kernel) hT (ro_Mo_setsLimit kk) (by rw [Nat.zero_mul]; exact Nat.zero_le _)
def iv_Mo_setLimit : List (Instr × Nat) := [(.invokevirtual 132, 3080209), (.invokevirtual 92, 2523153), (.invokevirtual 95, 2621448), (.invokevirtual 135, 3096593)]
theorem tk_Mo_setLimit : (List.range 31).all (fun pc => match T_Mo_setLimit pc with | none => true | some e => ck FT_ PT_ NT_ CT_ yX7_setLimit.cls cX7_setLimit (some .int) iv_Mo_setLimit pc e) = true := by decide +kernel
theorem Ct_Mo_setLimit (kk : Nat) (l : Launch) (hst : l.stackTraces = false) : CtX sdM l yX7_setLimit (.code yX7_setLimit cX7_setLimit 3 (some .int) :: lw_all) 10 0 (A_Mo_setLimit kk) := by
  have hT : TabOK sdM l yX7_setLimit.cls cX7_setLimit 0 10 (some .int) T_Mo_setLimit (call_Mo_setLimit kk) (fun _ => []) := by
    intro x hF hH hO hC hG hV hR hsd pc e he
    refine ck_sound FT_ok PT_ok NT_ok CT_ok (invs := iv_Mo_setLimit) ?_ ?_
    · exact (List.forall_mem_cons.mpr ⟨fun pc hd => ⟨cwX_V (C := RX7) (n := 1) hF hd (by rw [hH]; exact Ct_Mo_notLimit kk l hst) hsd (by rw [hO]; exact wd_1725) wd_1727 wd_58 wd_97 wd_1728 ⟨rfl, by decide +kernel, by decide +kernel, by decide +kernel⟩ (by decide) (by rw [hV]; decide) (sh_Mo_notLimit kk), hd_nil⟩, (List.forall_mem_cons.mpr ⟨fun pc hd => ⟨cwX_V (C := RX7) (n := 1) hF hd (by rw [hH]; exact Ct_Mo_fails kk l hst) hsd (by rw [hO]; exact wd_1638) wd_1640 wd_42 wd_97 wd_1641 ⟨rfl, by decide +kernel, by decide +kernel, by decide +kernel⟩ (by decide) (by rw [hV]; decide) (sh_Mo_fails kk), hd_nil⟩, (List.forall_mem_cons.mpr ⟨fun pc hd => ⟨cwX_V (C := RX7) (n := 0) hF hd (by rw [hH]; exact Ct_Mo_remembers kk l hst) hsd (by rw [hO]; exact wd_1642) wd_1644 wd_43 wd_97 wd_1645 ⟨rfl, by decide +kernel, by decide +kernel, by decide +kernel⟩ (by decide) (by rw [hV]; decide) (sh_Mo_remembers kk), hd_nil⟩, (List.forall_mem_cons.mpr ⟨fun pc hd => ⟨cwX_V (C := RX7) (n := 1) hF hd (by rw [hH]; exact Ct_Mo_setsLimit kk l hst) hsd (by rw [hO]; exact wd_1729) wd_1731 wd_59 wd_97 wd_1732 ⟨rfl, by decide +kernel, by decide +kernel, by decide +kernel⟩ (by decide) (by rw [hV]; decide) (sh_Mo_setsLimit kk), hd_nil⟩, (fun _ h => nomatch h)⟩)⟩)⟩)⟩)
    · rw [hO, hC, hR]; exact tk_use (fun pc h => by unfold T_Mo_setLimit; rw [Nat.ble_eq_true_of_le h]) tk_Mo_setLimit pc e he
  exact CtX_of hst (by decide) (by decide +kernel) hT (ro_Mo_setLimit kk) (by rw [Nat.zero_mul]; exact Nat.zero_le _)
def iv_Mo_notDrill : List (Instr × Nat) := [(.invokestatic 54, 2539545)]
theorem tk_Mo_notDrill : (List.range 17).all (fun pc => match T_Mo_notDrill pc with | none => true | some e => ck FT_ PT_ NT_ CT_ yX7_notDrill.cls cX7_notDrill (some .int) iv_Mo_notDrill pc e) = true := by decide +kernel
theorem Ct_Mo_notDrill (kk : Nat) (l : Launch) (hst : l.stackTraces = false) : CtX sdM l yX7_notDrill (.code yX7_notDrill cX7_notDrill 1 (some .int) :: lw_all) 7 0 (A_Mo_notDrill kk) := by
  have hT : TabOK sdM l yX7_notDrill.cls cX7_notDrill 0 7 (some .int) T_Mo_notDrill (call_Mo_notDrill kk) (fun _ => []) := by
    intro x hF hH hO hC hG hV hR hsd pc e he
    refine ck_sound FT_ok PT_ok NT_ok CT_ok (invs := iv_Mo_notDrill) ?_ ?_
    · exact (List.forall_mem_cons.mpr ⟨fun pc hd => ⟨cwX_S (n := 3) hF hd (by rw [hH]; exact Ct_Mo_isBetween kk l hst) hsd (by rw [hO]; exact wd_1616) wd_1617 wd_97 wd_1618 ⟨by decide +kernel, by decide +kernel, by decide +kernel⟩ (by decide) (by rw [hV]; decide) (sh_Mo_isBetween kk), hd_nil⟩, (fun _ h => nomatch h)⟩)
    · rw [hO, hC, hR]; exact tk_use (fun pc h => by unfold T_Mo_notDrill; rw [Nat.ble_eq_true_of_le h]) tk_Mo_notDrill pc e he
  exact CtX_of hst (by decide) (by decide +kernel) hT (ro_Mo_notDrill kk) (by rw [Nat.zero_mul]; exact Nat.zero_le _)
def iv_Mo_drills : List (Instr × Nat) := [(.invokevirtual 82, 2768913)]
theorem tk_Mo_drills : (List.range 38).all (fun pc => match T_Mo_drills pc with | none => true | some e => ck FT_ PT_ NT_ CT_ yX7_drills.cls cX7_drills (some .int) iv_Mo_drills pc e) = true := by decide +kernel
theorem Ct_Mo_drills (kk : Nat) (l : Launch) (hst : l.stackTraces = false) : CtX sdM l yX7_drills (.code yX7_drills cX7_drills 3 (some .int) :: lw_all) 10 0 (A_Mo_drills kk) := by
  have hT : TabOK sdM l yX7_drills.cls cX7_drills 0 10 (some .int) T_Mo_drills (call_Mo_drills kk) (fun _ => []) := by
    intro x hF hH hO hC hG hV hR hsd pc e he
    refine ck_sound FT_ok PT_ok NT_ok CT_ok (invs := iv_Mo_drills) ?_ ?_
    · exact (List.forall_mem_cons.mpr ⟨fun pc hd => ⟨cwX_V (C := RX7) (n := 1) hF hd (by rw [hH]; exact Ct_Mo_isBeyond kk l hst) hsd (by rw [hO]; exact wd_1622) wd_1624 wd_38 wd_97 wd_1625 ⟨rfl, by decide +kernel, by decide +kernel, by decide +kernel⟩ (by decide) (by rw [hV]; decide) (sh_Mo_isBeyond kk), hd_nil⟩, (fun _ h => nomatch h)⟩)
    · rw [hO, hC, hR]; exact tk_use (fun pc h => by unfold T_Mo_drills; rw [Nat.ble_eq_true_of_le h]) tk_Mo_drills pc e he
  exact CtX_of hst (by decide) (by decide +kernel) hT (ro_Mo_drills kk) (by rw [Nat.zero_mul]; exact Nat.zero_le _)
def iv_Mo_drill : List (Instr × Nat) := [(.invokestatic 138, 3129353), (.invokevirtual 92, 2523153), (.invokevirtual 95, 2621448), (.invokevirtual 141, 3145745)]
theorem tk_Mo_drill : (List.range 45).all (fun pc => match T_Mo_drill pc with | none => true | some e => ck FT_ PT_ NT_ CT_ yX7_drill.cls cX7_drill (some .boolean) iv_Mo_drill pc e) = true := by decide +kernel
theorem Ct_Mo_drill (kk : Nat) (l : Launch) (hst : l.stackTraces = false) : CtX sdM l yX7_drill (.code yX7_drill cX7_drill 2 (some .boolean) :: lw_all) 11 0 (A_Mo_drill kk) := by
  have hT : TabOK sdM l yX7_drill.cls cX7_drill 0 11 (some .boolean) T_Mo_drill (call_Mo_drill kk) (fun _ => []) := by
    intro x hF hH hO hC hG hV hR hsd pc e he
    refine ck_sound FT_ok PT_ok NT_ok CT_ok (invs := iv_Mo_drill) ?_ ?_
    · exact (List.forall_mem_cons.mpr ⟨fun pc hd => ⟨cwX_S (n := 1) hF hd (by rw [hH]; exact Ct_Mo_notDrill kk l hst) hsd (by rw [hO]; exact wd_1737) wd_1738 wd_97 wd_1739 ⟨by decide +kernel, by decide +kernel, by decide +kernel⟩ (by decide) (by rw [hV]; decide) (sh_Mo_notDrill kk), hd_nil⟩, (List.forall_mem_cons.mpr ⟨fun pc hd => ⟨cwX_V (C := RX7) (n := 1) hF hd (by rw [hH]; exact Ct_Mo_fails kk l hst) hsd (by rw [hO]; exact wd_1638) wd_1640 wd_42 wd_97 wd_1641 ⟨rfl, by decide +kernel, by decide +kernel, by decide +kernel⟩ (by decide) (by rw [hV]; decide) (sh_Mo_fails kk), hd_nil⟩, (List.forall_mem_cons.mpr ⟨fun pc hd => ⟨cwX_V (C := RX7) (n := 0) hF hd (by rw [hH]; exact Ct_Mo_remembers kk l hst) hsd (by rw [hO]; exact wd_1642) wd_1644 wd_43 wd_97 wd_1645 ⟨rfl, by decide +kernel, by decide +kernel, by decide +kernel⟩ (by decide) (by rw [hV]; decide) (sh_Mo_remembers kk), hd_nil⟩, (List.forall_mem_cons.mpr ⟨fun pc hd => ⟨cwX_V (C := RX7) (n := 1) hF hd (by rw [hH]; exact Ct_Mo_drills kk l hst) hsd (by rw [hO]; exact wd_1740) wd_1742 wd_60 wd_97 wd_1743 ⟨rfl, by decide +kernel, by decide +kernel, by decide +kernel⟩ (by decide) (by rw [hV]; decide) (sh_Mo_drills kk), hd_nil⟩, (fun _ h => nomatch h)⟩)⟩)⟩)⟩)
    · rw [hO, hC, hR]; exact tk_use (fun pc h => by unfold T_Mo_drill; rw [Nat.ble_eq_true_of_le h]) tk_Mo_drill pc e he
  exact CtX_of hst (by decide) (by decide +kernel) hT (ro_Mo_drill kk) (by rw [Nat.zero_mul]; exact Nat.zero_le _)
def iv_Mo_pillowCount : List (Instr × Nat) := [(.invokevirtual 144, 2752521)]
theorem tk_Mo_pillowCount : (List.range 10).all (fun pc => match T_Mo_pillowCount pc with | none => true | some e => ck FT_ PT_ NT_ CT_ yX7_pillowCount.cls cX7_pillowCount (some .int) iv_Mo_pillowCount pc e) = true := by decide +kernel
theorem Ct_Mo_pillowCount (kk : Nat) (l : Launch) (hst : l.stackTraces = false) : CtX sdM l yX7_pillowCount (.code yX7_pillowCount cX7_pillowCount 1 (some .int) :: lw_all) 7 0 (A_Mo_pillowCount kk) := by
  have hT : TabOK sdM l yX7_pillowCount.cls cX7_pillowCount 0 7 (some .int) T_Mo_pillowCount (call_Mo_pillowCount kk) (fun _ => []) := by
    intro x hF hH hO hC hG hV hR hsd pc e he
    refine ck_sound FT_ok PT_ok NT_ok CT_ok (invs := iv_Mo_pillowCount) ?_ ?_
    · exact (List.forall_mem_cons.mpr ⟨fun pc hd => ⟨cwX_V (C := RX7) (n := 0) hF hd (by rw [hH]; exact Ct_Mo_countAll kk l hst) hsd (by rw [hO]; exact wd_1748) wd_1750 wd_61 wd_97 wd_1751 ⟨rfl, by decide +kernel, by decide +kernel, by decide +kernel⟩ (by decide) (by rw [hV]; decide) (sh_Mo_countAll kk), hd_nil⟩, (fun _ h => nomatch h)⟩)
    · rw [hO, hC, hR]; exact tk_use (fun pc h => by unfold T_Mo_pillowCount; rw [Nat.ble_eq_true_of_le h]) tk_Mo_pillowCount pc e he
  exact CtX_of hst (by decide) (by decide +kernel) hT (ro_Mo_pillowCount kk) (by rw [Nat.zero_mul]; exact Nat.zero_le _)
def iv_Mo_stackHeight : List (Instr × Nat) := [(.invokestatic 74, 2637833), (.invokevirtual 92, 2523153)]
theorem tk_Mo_stackHeight : (List.range 30).all (fun pc => match T_Mo_stackHeight pc with | none => true | some e => ck FT_ PT_ NT_ CT_ yX7_stackHeight.cls cX7_stackHeight (some .int) iv_Mo_stackHeight pc e) = true := by decide +kernel
theorem Ct_Mo_stackHeight (kk : Nat) (l : Launch) (hst : l.stackTraces = false) : CtX sdM l yX7_stackHeight (.code yX7_stackHeight cX7_stackHeight 2 (some .int) :: lw_all) 8 0 (A_Mo_stackHeight kk) := by
  have hT : TabOK sdM l yX7_stackHeight.cls cX7_stackHeight 0 8 (some .int) T_Mo_stackHeight (call_Mo_stackHeight kk) (fun _ => []) := by
    intro x hF hH hO hC hG hV hR hsd pc e he
    refine ck_sound FT_ok PT_ok NT_ok CT_ok (invs := iv_Mo_stackHeight) ?_ ?_
    · exact (List.forall_mem_cons.mpr ⟨fun pc hd => ⟨cwX_S (n := 1) hF hd (by rw [hH]; exact Ct_Mo_isBay kk l hst) hsd (by rw [hO]; exact wd_1613) wd_1614 wd_97 wd_1615 ⟨by decide +kernel, by decide +kernel, by decide +kernel⟩ (by decide) (by rw [hV]; decide) (sh_Mo_isBay kk), hd_nil⟩, (List.forall_mem_cons.mpr ⟨fun pc hd => ⟨cwX_V (C := RX7) (n := 1) hF hd (by rw [hH]; exact Ct_Mo_fails kk l hst) hsd (by rw [hO]; exact wd_1638) wd_1640 wd_42 wd_97 wd_1641 ⟨rfl, by decide +kernel, by decide +kernel, by decide +kernel⟩ (by decide) (by rw [hV]; decide) (sh_Mo_fails kk), hd_nil⟩, (fun _ h => nomatch h)⟩)⟩)
    · rw [hO, hC, hR]; exact tk_use (fun pc h => by unfold T_Mo_stackHeight; rw [Nat.ble_eq_true_of_le h]) tk_Mo_stackHeight pc e he
  exact CtX_of hst (by decide) (by decide +kernel) hT (ro_Mo_stackHeight kk) (by rw [Nat.zero_mul]; exact Nat.zero_le _)
def iv_Mo_pillowAt : List (Instr × Nat) := [(.invokestatic 74, 2637833), (.invokevirtual 92, 2523153), (.invokestatic 54, 2539545), (.invokevirtual 58, 2654241)]
theorem tk_Mo_pillowAt : (List.range 53).all (fun pc => match T_Mo_pillowAt pc with | none => true | some e => ck FT_ PT_ NT_ CT_ yX7_pillowAt.cls cX7_pillowAt (some .int) iv_Mo_pillowAt pc e) = true := by decide +kernel
theorem Ct_Mo_pillowAt (kk : Nat) (l : Launch) (hst : l.stackTraces = false) : CtX sdM l yX7_pillowAt (.code yX7_pillowAt cX7_pillowAt 3 (some .int) :: lw_all) 8 0 (A_Mo_pillowAt kk) := by
  have hT : TabOK sdM l yX7_pillowAt.cls cX7_pillowAt 0 8 (some .int) T_Mo_pillowAt (call_Mo_pillowAt kk) (fun _ => []) := by
    intro x hF hH hO hC hG hV hR hsd pc e he
    refine ck_sound FT_ok PT_ok NT_ok CT_ok (invs := iv_Mo_pillowAt) ?_ ?_
    · exact (List.forall_mem_cons.mpr ⟨fun pc hd => ⟨cwX_S (n := 1) hF hd (by rw [hH]; exact Ct_Mo_isBay kk l hst) hsd (by rw [hO]; exact wd_1613) wd_1614 wd_97 wd_1615 ⟨by decide +kernel, by decide +kernel, by decide +kernel⟩ (by decide) (by rw [hV]; decide) (sh_Mo_isBay kk), hd_nil⟩, (List.forall_mem_cons.mpr ⟨fun pc hd => ⟨cwX_V (C := RX7) (n := 1) hF hd (by rw [hH]; exact Ct_Mo_fails kk l hst) hsd (by rw [hO]; exact wd_1638) wd_1640 wd_42 wd_97 wd_1641 ⟨rfl, by decide +kernel, by decide +kernel, by decide +kernel⟩ (by decide) (by rw [hV]; decide) (sh_Mo_fails kk), hd_nil⟩, (List.forall_mem_cons.mpr ⟨fun pc hd => ⟨cwX_S (n := 3) hF hd (by rw [hH]; exact Ct_Mo_isBetween kk l hst) hsd (by rw [hO]; exact wd_1616) wd_1617 wd_97 wd_1618 ⟨by decide +kernel, by decide +kernel, by decide +kernel⟩ (by decide) (by rw [hV]; decide) (sh_Mo_isBetween kk), hd_nil⟩, (List.forall_mem_cons.mpr ⟨fun pc hd => ⟨cwX_V (C := RX7) (n := 3) hF hd (by rw [hH]; exact Ct_Mo_at kk l hst) hsd (by rw [hO]; exact wd_1634) wd_1636 wd_41 wd_97 wd_1637 ⟨rfl, by decide +kernel, by decide +kernel, by decide +kernel⟩ (by decide) (by rw [hV]; decide) (sh_Mo_at kk), hd_nil⟩, (fun _ h => nomatch h)⟩)⟩)⟩)⟩)
    · rw [hO, hC, hR]; exact tk_use (fun pc h => by unfold T_Mo_pillowAt; rw [Nat.ble_eq_true_of_le h]) tk_Mo_pillowAt pc e he
  exact CtX_of hst (by decide) (by decide +kernel) hT (ro_Mo_pillowAt kk) (by rw [Nat.zero_mul]; exact Nat.zero_le _)
def iv_Mo_placeOf : List (Instr × Nat) := [(.invokevirtual 58, 2654241)]
theorem tk_Mo_placeOf : (List.range 54).all (fun pc => match T_Mo_placeOf pc with | none => true | some e => ck FT_ PT_ NT_ CT_ yX7_placeOf.cls cX7_placeOf (some .int) iv_Mo_placeOf pc e) = true := by decide +kernel
theorem Ct_Mo_placeOf (kk : Nat) (l : Launch) (hst : l.stackTraces = false) : CtX sdM l yX7_placeOf (.code yX7_placeOf cX7_placeOf 4 (some .int) :: lw_all) 7 0 (A_Mo_placeOf kk) := by
  have hT : TabOK sdM l yX7_placeOf.cls cX7_placeOf 0 7 (some .int) T_Mo_placeOf (call_Mo_placeOf kk) (fun _ => []) := by
    intro x hF hH hO hC hG hV hR hsd pc e he
    refine ck_sound FT_ok PT_ok NT_ok CT_ok (invs := iv_Mo_placeOf) ?_ ?_
    · exact (List.forall_mem_cons.mpr ⟨fun pc hd => ⟨cwX_V (C := RX7) (n := 3) hF hd (by rw [hH]; exact Ct_Mo_at kk l hst) hsd (by rw [hO]; exact wd_1634) wd_1636 wd_41 wd_97 wd_1637 ⟨rfl, by decide +kernel, by decide +kernel, by decide +kernel⟩ (by decide) (by rw [hV]; decide) (sh_Mo_at kk), hd_nil⟩, (fun _ h => nomatch h)⟩)
    · rw [hO, hC, hR]; exact tk_use (fun pc h => by unfold T_Mo_placeOf; rw [Nat.ble_eq_true_of_le h]) tk_Mo_placeOf pc e he
  exact CtX_of hst (by decide) (by decide +kernel) hT (ro_Mo_placeOf kk) (by rw [Nat.zero_mul]; exact Nat.zero_le _)
def iv_Mo_asks : List (Instr × Nat) := [(.invokevirtual 147, 3227665), (.invokevirtual 92, 2523153), (.invokevirtual 58, 2654241)]
theorem tk_Mo_asks : (List.range 35).all (fun pc => match T_Mo_asks pc with | none => true | some e => ck FT_ PT_ NT_ CT_ yX7_asks.cls cX7_asks (some .int) iv_Mo_asks pc e) = true := by decide +kernel
theorem Ct_Mo_asks (kk : Nat) (l : Launch) (hst : l.stackTraces = false) : CtX sdM l yX7_asks (.code yX7_asks cX7_asks 4 (some .int) :: lw_all) 8 0 (A_Mo_asks kk) := by
  have hT : TabOK sdM l yX7_asks.cls cX7_asks 0 8 (some .int) T_Mo_asks (call_Mo_asks kk) (fun _ => []) := by
    intro x hF hH hO hC hG hV hR hsd pc e he
    refine ck_sound FT_ok PT_ok NT_ok CT_ok (invs := iv_Mo_asks) ?_ ?_
    · exact (List.forall_mem_cons.mpr ⟨fun pc hd => ⟨cwX_V (C := RX7) (n := 1) hF hd (by rw [hH]; exact Ct_Mo_placeOf kk l hst) hsd (by rw [hO]; exact wd_1768) wd_1770 wd_63 wd_97 wd_1771 ⟨rfl, by decide +kernel, by decide +kernel, by decide +kernel⟩ (by decide) (by rw [hV]; decide) (sh_Mo_placeOf kk), hd_nil⟩, (List.forall_mem_cons.mpr ⟨fun pc hd => ⟨cwX_V (C := RX7) (n := 1) hF hd (by rw [hH]; exact Ct_Mo_fails kk l hst) hsd (by rw [hO]; exact wd_1638) wd_1640 wd_42 wd_97 wd_1641 ⟨rfl, by decide +kernel, by decide +kernel, by decide +kernel⟩ (by decide) (by rw [hV]; decide) (sh_Mo_fails kk), hd_nil⟩, (List.forall_mem_cons.mpr ⟨fun pc hd => ⟨cwX_V (C := RX7) (n := 3) hF hd (by rw [hH]; exact Ct_Mo_at kk l hst) hsd (by rw [hO]; exact wd_1634) wd_1636 wd_41 wd_97 wd_1637 ⟨rfl, by decide +kernel, by decide +kernel, by decide +kernel⟩ (by decide) (by rw [hV]; decide) (sh_Mo_at kk), hd_nil⟩, (fun _ h => nomatch h)⟩)⟩)⟩)
    · rw [hO, hC, hR]; exact tk_use (fun pc h => by unfold T_Mo_asks; rw [Nat.ble_eq_true_of_le h]) tk_Mo_asks pc e he
  exact CtX_of hst (by decide) (by decide +kernel) hT (ro_Mo_asks kk) (by rw [Nat.zero_mul]; exact Nat.zero_le _)
def iv_Mo_weightOf : List (Instr × Nat) := [(.invokevirtual 150, 3244057)]
theorem tk_Mo_weightOf : (List.range 7).all (fun pc => match T_Mo_weightOf pc with | none => true | some e => ck FT_ PT_ NT_ CT_ yX7_weightOf.cls cX7_weightOf (some .int) iv_Mo_weightOf pc e) = true := by decide +kernel
theorem Ct_Mo_weightOf (kk : Nat) (l : Launch) (hst : l.stackTraces = false) : CtX sdM l yX7_weightOf (.code yX7_weightOf cX7_weightOf 2 (some .int) :: lw_all) 9 0 (A_Mo_weightOf kk) := by
  have hT : TabOK sdM l yX7_weightOf.cls cX7_weightOf 0 9 (some .int) T_Mo_weightOf (call_Mo_weightOf kk) (fun _ => []) := by
    intro x hF hH hO hC hG hV hR hsd pc e he
    refine ck_sound FT_ok PT_ok NT_ok CT_ok (invs := iv_Mo_weightOf) ?_ ?_
    · exact (List.forall_mem_cons.mpr ⟨fun pc hd => ⟨cwX_V (C := RX7) (n := 2) hF hd (by rw [hH]; exact Ct_Mo_asks kk l hst) hsd (by rw [hO]; exact wd_1764) wd_1766 wd_62 wd_97 wd_1767 ⟨rfl, by decide +kernel, by decide +kernel, by decide +kernel⟩ (by decide) (by rw [hV]; decide) (sh_Mo_asks kk), hd_nil⟩, (fun _ h => nomatch h)⟩)
    · rw [hO, hC, hR]; exact tk_use (fun pc h => by unfold T_Mo_weightOf; rw [Nat.ble_eq_true_of_le h]) tk_Mo_weightOf pc e he
  exact CtX_of hst (by decide) (by decide +kernel) hT (ro_Mo_weightOf kk) (by rw [Nat.zero_mul]; exact Nat.zero_le _)
def iv_Mo_destinationOf : List (Instr × Nat) := [(.invokevirtual 150, 3244057)]
theorem tk_Mo_destinationOf : (List.range 7).all (fun pc => match T_Mo_destinationOf pc with | none => true | some e => ck FT_ PT_ NT_ CT_ yX7_destinationOf.cls cX7_destinationOf (some .int) iv_Mo_destinationOf pc e) = true := by decide +kernel
theorem Ct_Mo_destinationOf (kk : Nat) (l : Launch) (hst : l.stackTraces = false) : CtX sdM l yX7_destinationOf (.code yX7_destinationOf cX7_destinationOf 2 (some .int) :: lw_all) 9 0 (A_Mo_destinationOf kk) := by
  have hT : TabOK sdM l yX7_destinationOf.cls cX7_destinationOf 0 9 (some .int) T_Mo_destinationOf (call_Mo_destinationOf kk) (fun _ => []) := by
    intro x hF hH hO hC hG hV hR hsd pc e he
    refine ck_sound FT_ok PT_ok NT_ok CT_ok (invs := iv_Mo_destinationOf) ?_ ?_
    · exact (List.forall_mem_cons.mpr ⟨fun pc hd => ⟨cwX_V (C := RX7) (n := 2) hF hd (by rw [hH]; exact Ct_Mo_asks kk l hst) hsd (by rw [hO]; exact wd_1764) wd_1766 wd_62 wd_97 wd_1767 ⟨rfl, by decide +kernel, by decide +kernel, by decide +kernel⟩ (by decide) (by rw [hV]; decide) (sh_Mo_asks kk), hd_nil⟩, (fun _ h => nomatch h)⟩)
    · rw [hO, hC, hR]; exact tk_use (fun pc h => by unfold T_Mo_destinationOf; rw [Nat.ble_eq_true_of_le h]) tk_Mo_destinationOf pc e he
  exact CtX_of hst (by decide) (by decide +kernel) hT (ro_Mo_destinationOf kk) (by rw [Nat.zero_mul]; exact Nat.zero_le _)
def iv_Mo_bayOf : List (Instr × Nat) := [(.invokevirtual 147, 3227665), (.invokevirtual 92, 2523153)]
theorem tk_Mo_bayOf : (List.range 27).all (fun pc => match T_Mo_bayOf pc with | none => true | some e => ck FT_ PT_ NT_ CT_ yX7_bayOf.cls cX7_bayOf (some .int) iv_Mo_bayOf pc e) = true := by decide +kernel
theorem Ct_Mo_bayOf (kk : Nat) (l : Launch) (hst : l.stackTraces = false) : CtX sdM l yX7_bayOf (.code yX7_bayOf cX7_bayOf 3 (some .int) :: lw_all) 8 0 (A_Mo_bayOf kk) := by
  have hT : TabOK sdM l yX7_bayOf.cls cX7_bayOf 0 8 (some .int) T_Mo_bayOf (call_Mo_bayOf kk) (fun _ => []) := by
    intro x hF hH hO hC hG hV hR hsd pc e he
    refine ck_sound FT_ok PT_ok NT_ok CT_ok (invs := iv_Mo_bayOf) ?_ ?_
    · exact (List.forall_mem_cons.mpr ⟨fun pc hd => ⟨cwX_V (C := RX7) (n := 1) hF hd (by rw [hH]; exact Ct_Mo_placeOf kk l hst) hsd (by rw [hO]; exact wd_1768) wd_1770 wd_63 wd_97 wd_1771 ⟨rfl, by decide +kernel, by decide +kernel, by decide +kernel⟩ (by decide) (by rw [hV]; decide) (sh_Mo_placeOf kk), hd_nil⟩, (List.forall_mem_cons.mpr ⟨fun pc hd => ⟨cwX_V (C := RX7) (n := 1) hF hd (by rw [hH]; exact Ct_Mo_fails kk l hst) hsd (by rw [hO]; exact wd_1638) wd_1640 wd_42 wd_97 wd_1641 ⟨rfl, by decide +kernel, by decide +kernel, by decide +kernel⟩ (by decide) (by rw [hV]; decide) (sh_Mo_fails kk), hd_nil⟩, (fun _ h => nomatch h)⟩)⟩)
    · rw [hO, hC, hR]; exact tk_use (fun pc h => by unfold T_Mo_bayOf; rw [Nat.ble_eq_true_of_le h]) tk_Mo_bayOf pc e he
  exact CtX_of hst (by decide) (by decide +kernel) hT (ro_Mo_bayOf kk) (by rw [Nat.zero_mul]; exact Nat.zero_le _)
def iv_Mo_positionOf : List (Instr × Nat) := [(.invokevirtual 147, 3227665), (.invokevirtual 92, 2523153)]
theorem tk_Mo_positionOf : (List.range 27).all (fun pc => match T_Mo_positionOf pc with | none => true | some e => ck FT_ PT_ NT_ CT_ yX7_positionOf.cls cX7_positionOf (some .int) iv_Mo_positionOf pc e) = true := by decide +kernel
theorem Ct_Mo_positionOf (kk : Nat) (l : Launch) (hst : l.stackTraces = false) : CtX sdM l yX7_positionOf (.code yX7_positionOf cX7_positionOf 3 (some .int) :: lw_all) 8 0 (A_Mo_positionOf kk) := by
  have hT : TabOK sdM l yX7_positionOf.cls cX7_positionOf 0 8 (some .int) T_Mo_positionOf (call_Mo_positionOf kk) (fun _ => []) := by
    intro x hF hH hO hC hG hV hR hsd pc e he
    refine ck_sound FT_ok PT_ok NT_ok CT_ok (invs := iv_Mo_positionOf) ?_ ?_
    · exact (List.forall_mem_cons.mpr ⟨fun pc hd => ⟨cwX_V (C := RX7) (n := 1) hF hd (by rw [hH]; exact Ct_Mo_placeOf kk l hst) hsd (by rw [hO]; exact wd_1768) wd_1770 wd_63 wd_97 wd_1771 ⟨rfl, by decide +kernel, by decide +kernel, by decide +kernel⟩ (by decide) (by rw [hV]; decide) (sh_Mo_placeOf kk), hd_nil⟩, (List.forall_mem_cons.mpr ⟨fun pc hd => ⟨cwX_V (C := RX7) (n := 1) hF hd (by rw [hH]; exact Ct_Mo_fails kk l hst) hsd (by rw [hO]; exact wd_1638) wd_1640 wd_42 wd_97 wd_1641 ⟨rfl, by decide +kernel, by decide +kernel, by decide +kernel⟩ (by decide) (by rw [hV]; decide) (sh_Mo_fails kk), hd_nil⟩, (fun _ h => nomatch h)⟩)⟩)
    · rw [hO, hC, hR]; exact tk_use (fun pc h => by unfold T_Mo_positionOf; rw [Nat.ble_eq_true_of_le h]) tk_Mo_positionOf pc e he
  exact CtX_of hst (by decide) (by decide +kernel) hT (ro_Mo_positionOf kk) (by rw [Nat.zero_mul]; exact Nat.zero_le _)
def iv_Mo_ageOf : List (Instr × Nat) := [(.invokevirtual 150, 3244057)]
theorem tk_Mo_ageOf : (List.range 27).all (fun pc => match T_Mo_ageOf pc with | none => true | some e => ck FT_ PT_ NT_ CT_ yX7_ageOf.cls cX7_ageOf (some .int) iv_Mo_ageOf pc e) = true := by decide +kernel
theorem Ct_Mo_ageOf (kk : Nat) (l : Launch) (hst : l.stackTraces = false) : CtX sdM l yX7_ageOf (.code yX7_ageOf cX7_ageOf 3 (some .int) :: lw_all) 9 0 (A_Mo_ageOf kk) := by
  have hT : TabOK sdM l yX7_ageOf.cls cX7_ageOf 0 9 (some .int) T_Mo_ageOf (call_Mo_ageOf kk) (fun _ => []) := by
    intro x hF hH hO hC hG hV hR hsd pc e he
    refine ck_sound FT_ok PT_ok NT_ok CT_ok (invs := iv_Mo_ageOf) ?_ ?_
    · exact (List.forall_mem_cons.mpr ⟨fun pc hd => ⟨cwX_V (C := RX7) (n := 2) hF hd (by rw [hH]; exact Ct_Mo_asks kk l hst) hsd (by rw [hO]; exact wd_1764) wd_1766 wd_62 wd_97 wd_1767 ⟨rfl, by decide +kernel, by decide +kernel, by decide +kernel⟩ (by decide) (by rw [hV]; decide) (sh_Mo_asks kk), hd_nil⟩, (fun _ h => nomatch h)⟩)
    · rw [hO, hC, hR]; exact tk_use (fun pc h => by unfold T_Mo_ageOf; rw [Nat.ble_eq_true_of_le h]) tk_Mo_ageOf pc e he
  exact CtX_of hst (by decide) (by decide +kernel) hT (ro_Mo_ageOf kk) (by rw [Nat.zero_mul]; exact Nat.zero_le _)
def iv_Mo_moment : List (Instr × Nat) := [(.invokevirtual 66, 2719753)]
theorem tk_Mo_moment : (List.range 10).all (fun pc => match T_Mo_moment pc with | none => true | some e => ck FT_ PT_ NT_ CT_ yX7_moment.cls cX7_moment (some .int) iv_Mo_moment pc e) = true := by decide +kernel
theorem Ct_Mo_moment (kk : Nat) (l : Launch) (hst : l.stackTraces = false) : CtX sdM l yX7_moment (.code yX7_moment cX7_moment 1 (some .int) :: lw_all) 9 0 (A_Mo_moment kk) := by
  have hT : TabOK sdM l yX7_moment.cls cX7_moment 0 9 (some .int) T_Mo_moment (call_Mo_moment kk) (fun _ => []) := by
    intro x hF hH hO hC hG hV hR hsd pc e he
    refine ck_sound FT_ok PT_ok NT_ok CT_ok (invs := iv_Mo_moment) ?_ ?_
    · exact (List.forall_mem_cons.mpr ⟨fun pc hd => ⟨cwX_V (C := RX7) (n := 0) hF hd (by rw [hH]; exact Ct_Mo_momentNow kk l hst) hsd (by rw [hO]; exact wd_1626) wd_1628 wd_39 wd_97 wd_1629 ⟨rfl, by decide +kernel, by decide +kernel, by decide +kernel⟩ (by decide) (by rw [hV]; decide) (sh_Mo_momentNow kk), hd_nil⟩, (fun _ h => nomatch h)⟩)
    · rw [hO, hC, hR]; exact tk_use (fun pc h => by unfold T_Mo_moment; rw [Nat.ble_eq_true_of_le h]) tk_Mo_moment pc e he
  exact CtX_of hst (by decide) (by decide +kernel) hT (ro_Mo_moment kk) (by rw [Nat.zero_mul]; exact Nat.zero_le _)
def iv_Mo_momentByBays : List (Instr × Nat) := [(.invokevirtual 153, 3342345)]
theorem tk_Mo_momentByBays : (List.range 5).all (fun pc => match T_Mo_momentByBays pc with | none => true | some e => ck FT_ PT_ NT_ CT_ yX7_momentByBays.cls cX7_momentByBays (some .int) iv_Mo_momentByBays pc e) = true := by decide +kernel
theorem Ct_Mo_momentByBays (kk : Nat) (l : Launch) (hst : l.stackTraces = false) : CtX sdM l yX7_momentByBays (.code yX7_momentByBays cX7_momentByBays 1 (some .int) :: lw_all) 10 0 (A_Mo_momentByBays kk) := by
  have hT : TabOK sdM l yX7_momentByBays.cls cX7_momentByBays 0 10 (some .int) T_Mo_momentByBays (call_Mo_momentByBays kk) (fun _ => []) := by
    intro x hF hH hO hC hG hV hR hsd pc e he
    refine ck_sound FT_ok PT_ok NT_ok CT_ok (invs := iv_Mo_momentByBays) ?_ ?_
    · exact (List.forall_mem_cons.mpr ⟨fun pc hd => ⟨cwX_V (C := RX7) (n := 0) hF hd (by rw [hH]; exact Ct_Mo_moment kk l hst) hsd (by rw [hO]; exact wd_1796) wd_1789 wd_1790 wd_97 wd_1791 ⟨rfl, by decide +kernel, by decide +kernel, by decide +kernel⟩ (by decide) (by rw [hV]; decide) (sh_Mo_moment kk), hd_nil⟩, (fun _ h => nomatch h)⟩)
    · rw [hO, hC, hR]; exact tk_use (fun pc h => by unfold T_Mo_momentByBays; rw [Nat.ble_eq_true_of_le h]) tk_Mo_momentByBays pc e he
  exact CtX_of hst (by decide) (by decide +kernel) hT (ro_Mo_momentByBays kk) (by rw [Nat.zero_mul]; exact Nat.zero_le _)
def iv_Mo_totalWeight : List (Instr × Nat) := [(.invokevirtual 156, 2736137)]
theorem tk_Mo_totalWeight : (List.range 10).all (fun pc => match T_Mo_totalWeight pc with | none => true | some e => ck FT_ PT_ NT_ CT_ yX7_totalWeight.cls cX7_totalWeight (some .int) iv_Mo_totalWeight pc e) = true := by decide +kernel
theorem Ct_Mo_totalWeight (kk : Nat) (l : Launch) (hst : l.stackTraces = false) : CtX sdM l yX7_totalWeight (.code yX7_totalWeight cX7_totalWeight 1 (some .int) :: lw_all) 9 0 (A_Mo_totalWeight kk) := by
  have hT : TabOK sdM l yX7_totalWeight.cls cX7_totalWeight 0 9 (some .int) T_Mo_totalWeight (call_Mo_totalWeight kk) (fun _ => []) := by
    intro x hF hH hO hC hG hV hR hsd pc e he
    refine ck_sound FT_ok PT_ok NT_ok CT_ok (invs := iv_Mo_totalWeight) ?_ ?_
    · exact (List.forall_mem_cons.mpr ⟨fun pc hd => ⟨cwX_V (C := RX7) (n := 0) hF hd (by rw [hH]; exact Ct_Mo_weightAll kk l hst) hsd (by rw [hO]; exact wd_1801) wd_1803 wd_64 wd_97 wd_1804 ⟨rfl, by decide +kernel, by decide +kernel, by decide +kernel⟩ (by decide) (by rw [hV]; decide) (sh_Mo_weightAll kk), hd_nil⟩, (fun _ h => nomatch h)⟩)
    · rw [hO, hC, hR]; exact tk_use (fun pc h => by unfold T_Mo_totalWeight; rw [Nat.ble_eq_true_of_le h]) tk_Mo_totalWeight pc e he
  exact CtX_of hst (by decide) (by decide +kernel) hT (ro_Mo_totalWeight kk) (by rw [Nat.zero_mul]; exact Nat.zero_le _)
def iv_Mo_weightFor : List (Instr × Nat) := [(.invokestatic 54, 2539545), (.invokevirtual 92, 2523153), (.invokevirtual 58, 2654241)]
theorem tk_Mo_weightFor : (List.range 88).all (fun pc => match T_Mo_weightFor pc with | none => true | some e => ck FT_ PT_ NT_ CT_ yX7_weightFor.cls cX7_weightFor (some .int) iv_Mo_weightFor pc e) = true := by decide +kernel
theorem Ct_Mo_weightFor (kk : Nat) (l : Launch) (hst : l.stackTraces = false) : CtX sdM l yX7_weightFor (.code yX7_weightFor cX7_weightFor 5 (some .int) :: lw_all) 7 0 (A_Mo_weightFor kk) := by
  have hT : TabOK sdM l yX7_weightFor.cls cX7_weightFor 0 7 (some .int) T_Mo_weightFor (call_Mo_weightFor kk) (fun _ => []) := by
    intro x hF hH hO hC hG hV hR hsd pc e he
    refine ck_sound FT_ok PT_ok NT_ok CT_ok (invs := iv_Mo_weightFor) ?_ ?_
    · exact (List.forall_mem_cons.mpr ⟨fun pc hd => ⟨cwX_S (n := 3) hF hd (by rw [hH]; exact Ct_Mo_isBetween kk l hst) hsd (by rw [hO]; exact wd_1616) wd_1617 wd_97 wd_1618 ⟨by decide +kernel, by decide +kernel, by decide +kernel⟩ (by decide) (by rw [hV]; decide) (sh_Mo_isBetween kk), hd_nil⟩, (List.forall_mem_cons.mpr ⟨fun pc hd => ⟨cwX_V (C := RX7) (n := 1) hF hd (by rw [hH]; exact Ct_Mo_fails kk l hst) hsd (by rw [hO]; exact wd_1638) wd_1640 wd_42 wd_97 wd_1641 ⟨rfl, by decide +kernel, by decide +kernel, by decide +kernel⟩ (by decide) (by rw [hV]; decide) (sh_Mo_fails kk), hd_nil⟩, (List.forall_mem_cons.mpr ⟨fun pc hd => ⟨cwX_V (C := RX7) (n := 3) hF hd (by rw [hH]; exact Ct_Mo_at kk l hst) hsd (by rw [hO]; exact wd_1634) wd_1636 wd_41 wd_97 wd_1637 ⟨rfl, by decide +kernel, by decide +kernel, by decide +kernel⟩ (by decide) (by rw [hV]; decide) (sh_Mo_at kk), hd_nil⟩, (fun _ h => nomatch h)⟩)⟩)⟩)
    · rw [hO, hC, hR]; exact tk_use (fun pc h => by unfold T_Mo_weightFor; rw [Nat.ble_eq_true_of_le h]) tk_Mo_weightFor pc e he
  exact CtX_of hst (by decide) (by decide +kernel) hT (ro_Mo_weightFor kk) (by rw [Nat.zero_mul]; exact Nat.zero_le _)
def iv_Mo_limit : List (Instr × Nat) := []
theorem tk_Mo_limit : (List.range 12).all (fun pc => match T_Mo_limit pc with | none => true | some e => ck FT_ PT_ NT_ CT_ yX7_limit.cls cX7_limit (some .int) iv_Mo_limit pc e) = true := by decide +kernel
theorem Ct_Mo_limit (kk : Nat) (l : Launch) (hst : l.stackTraces = false) : CtX sdM l yX7_limit (.code yX7_limit cX7_limit 1 (some .int) :: lw_all) 6 0 (A_Mo_limit kk) := by
  have hT : TabOK sdM l yX7_limit.cls cX7_limit 0 6 (some .int) T_Mo_limit (call_Mo_limit kk) (fun _ => []) := by
    intro x hF hH hO hC hG hV hR hsd pc e he
    refine ck_sound FT_ok PT_ok NT_ok CT_ok (invs := iv_Mo_limit) ?_ ?_
    · exact (fun _ h => nomatch h)
    · rw [hO, hC, hR]; exact tk_use (fun pc h => by unfold T_Mo_limit; rw [Nat.ble_eq_true_of_le h]) tk_Mo_limit pc e he
  exact CtX_of hst (by decide) (by decide +kernel) hT (ro_Mo_limit kk) (by rw [Nat.zero_mul]; exact Nat.zero_le _)
def iv_Mo_listAngle : List (Instr × Nat) := [(.invokevirtual 66, 2719753), (.invokevirtual 156, 2736137)]
theorem tk_Mo_listAngle : (List.range 23).all (fun pc => match T_Mo_listAngle pc with | none => true | some e => ck FT_ PT_ NT_ CT_ yX7_listAngle.cls cX7_listAngle (some .float) iv_Mo_listAngle pc e) = true := by decide +kernel
theorem Ct_Mo_listAngle (kk : Nat) (l : Launch) (hst : l.stackTraces = false) : CtX sdM l yX7_listAngle (.code yX7_listAngle cX7_listAngle 1 (some .float) :: lw_all) 9 0 (A_Mo_listAngle kk) := by
  have hT : TabOK sdM l yX7_listAngle.cls cX7_listAngle 0 9 (some .float) T_Mo_listAngle (call_Mo_listAngle kk) (fun _ => []) := by
    intro x hF hH hO hC hG hV hR hsd pc e he
    refine ck_sound FT_ok PT_ok NT_ok CT_ok (invs := iv_Mo_listAngle) ?_ ?_
    · exact (List.forall_mem_cons.mpr ⟨fun pc hd => ⟨cwX_V (C := RX7) (n := 0) hF hd (by rw [hH]; exact Ct_Mo_momentNow kk l hst) hsd (by rw [hO]; exact wd_1626) wd_1628 wd_39 wd_97 wd_1629 ⟨rfl, by decide +kernel, by decide +kernel, by decide +kernel⟩ (by decide) (by rw [hV]; decide) (sh_Mo_momentNow kk), hd_nil⟩, (List.forall_mem_cons.mpr ⟨fun pc hd => ⟨cwX_V (C := RX7) (n := 0) hF hd (by rw [hH]; exact Ct_Mo_weightAll kk l hst) hsd (by rw [hO]; exact wd_1801) wd_1803 wd_64 wd_97 wd_1804 ⟨rfl, by decide +kernel, by decide +kernel, by decide +kernel⟩ (by decide) (by rw [hV]; decide) (sh_Mo_weightAll kk), hd_nil⟩, (fun _ h => nomatch h)⟩)⟩)
    · rw [hO, hC, hR]; exact tk_use (fun pc h => by unfold T_Mo_listAngle; rw [Nat.ble_eq_true_of_le h]) tk_Mo_listAngle pc e he
  exact CtX_of hst (by decide) (by decide +kernel) hT (ro_Mo_listAngle kk) (by rw [Nat.zero_mul]; exact Nat.zero_le _)
def iv_Mo_greatestPush : List (Instr × Nat) := [(.invokevirtual 66, 2719753)]
theorem tk_Mo_greatestPush : (List.range 17).all (fun pc => match T_Mo_greatestPush pc with | none => true | some e => ck FT_ PT_ NT_ CT_ yX7_greatestPush.cls cX7_greatestPush (some .int) iv_Mo_greatestPush pc e) = true := by decide +kernel
theorem Ct_Mo_greatestPush (kk : Nat) (l : Launch) (hst : l.stackTraces = false) : CtX sdM l yX7_greatestPush (.code yX7_greatestPush cX7_greatestPush 1 (some .int) :: lw_all) 9 0 (A_Mo_greatestPush kk) := by
  have hT : TabOK sdM l yX7_greatestPush.cls cX7_greatestPush 0 9 (some .int) T_Mo_greatestPush (call_Mo_greatestPush kk) (fun _ => []) := by
    intro x hF hH hO hC hG hV hR hsd pc e he
    refine ck_sound FT_ok PT_ok NT_ok CT_ok (invs := iv_Mo_greatestPush) ?_ ?_
    · exact (List.forall_mem_cons.mpr ⟨fun pc hd => ⟨cwX_V (C := RX7) (n := 0) hF hd (by rw [hH]; exact Ct_Mo_momentNow kk l hst) hsd (by rw [hO]; exact wd_1626) wd_1628 wd_39 wd_97 wd_1629 ⟨rfl, by decide +kernel, by decide +kernel, by decide +kernel⟩ (by decide) (by rw [hV]; decide) (sh_Mo_momentNow kk), hd_nil⟩, (fun _ h => nomatch h)⟩)
    · rw [hO, hC, hR]; exact tk_use (fun pc h => by unfold T_Mo_greatestPush; rw [Nat.ble_eq_true_of_le h]) tk_Mo_greatestPush pc e he
  exact CtX_of hst (by decide) (by decide +kernel) hT (ro_Mo_greatestPush kk) (by rw [Nat.zero_mul]; exact Nat.zero_le _)
def iv_Mo_magnitude : List (Instr × Nat) := []
theorem tk_Mo_magnitude : (List.range 11).all (fun pc => match T_Mo_magnitude pc with | none => true | some e => ck FT_ PT_ NT_ CT_ yX7_magnitude.cls cX7_magnitude (some .int) iv_Mo_magnitude pc e) = true := by decide +kernel
theorem Ct_Mo_magnitude (kk : Nat) (l : Launch) (hst : l.stackTraces = false) : CtX sdM l yX7_magnitude (.code yX7_magnitude cX7_magnitude 1 (some .int) :: lw_all) 6 0 (A_Mo_magnitude kk) := by
  have hT : TabOK sdM l yX7_magnitude.cls cX7_magnitude 0 6 (some .int) T_Mo_magnitude (call_Mo_magnitude kk) (fun _ => []) := by
    intro x hF hH hO hC hG hV hR hsd pc e he
    refine ck_sound FT_ok PT_ok NT_ok CT_ok (invs := iv_Mo_magnitude) ?_ ?_
    · exact (fun _ h => nomatch h)
    · rw [hO, hC, hR]; exact tk_use (fun pc h => by unfold T_Mo_magnitude; rw [Nat.ble_eq_true_of_le h]) tk_Mo_magnitude pc e he
  exact CtX_of hst (by decide) (by decide +kernel) hT (ro_Mo_magnitude kk) (by rw [Nat.zero_mul]; exact Nat.zero_le _)
def iv_Mo_isBetter : List (Instr × Nat) := [(.invokevirtual 66, 2719753), (.invokestatic 78, 2785297), (.invokestatic 160, 3457033)]
theorem tk_Mo_isBetter : (List.range 74).all (fun pc => match T_Mo_isBetter pc with | none => true | some e => ck FT_ PT_ NT_ CT_ yX7_isBetter.cls cX7_isBetter (some .boolean) iv_Mo_isBetter pc e) = true := by decide +kernel
theorem Ct_Mo_isBetter (kk : Nat) (l : Launch) (hst : l.stackTraces = false) : CtX sdM l yX7_isBetter (.code yX7_isBetter cX7_isBetter 5 (some .boolean) :: lw_all) 9 0 (A_Mo_isBetter kk) := by
  have hT : TabOK sdM l yX7_isBetter.cls cX7_isBetter 0 9 (some .boolean) T_Mo_isBetter (call_Mo_isBetter kk) (fun _ => []) := by
    intro x hF hH hO hC hG hV hR hsd pc e he
    refine ck_sound FT_ok PT_ok NT_ok CT_ok (invs := iv_Mo_isBetter) ?_ ?_
    · exact (List.forall_mem_cons.mpr ⟨fun pc hd => ⟨cwX_V (C := RX7) (n := 0) hF hd (by rw [hH]; exact Ct_Mo_momentNow kk l hst) hsd (by rw [hO]; exact wd_1626) wd_1628 wd_39 wd_97 wd_1629 ⟨rfl, by decide +kernel, by decide +kernel, by decide +kernel⟩ (by decide) (by rw [hV]; decide) (sh_Mo_momentNow kk), hd_nil⟩, (List.forall_mem_cons.mpr ⟨fun pc hd => ⟨cwX_S (n := 2) hF hd (by rw [hH]; exact Ct_Mo_lever kk l hst) hsd (by rw [hO]; exact wd_1619) wd_1620 wd_97 wd_1621 ⟨by decide +kernel, by decide +kernel, by decide +kernel⟩ (by decide) (by rw [hV]; decide) (sh_Mo_lever kk), hd_nil⟩, (List.forall_mem_cons.mpr ⟨fun pc hd => ⟨cwX_S (n := 1) hF hd (by rw [hH]; exact Ct_Mo_magnitude kk l hst) hsd (by rw [hO]; exact wd_1830) wd_1831 wd_97 wd_1832 ⟨by decide +kernel, by decide +kernel, by decide +kernel⟩ (by decide) (by rw [hV]; decide) (sh_Mo_magnitude kk), hd_nil⟩, (fun _ h => nomatch h)⟩)⟩)⟩)
    · rw [hO, hC, hR]; exact tk_use (fun pc h => by unfold T_Mo_isBetter; rw [Nat.ble_eq_true_of_le h]) tk_Mo_isBetter pc e he
  exact CtX_of hst (by decide) (by decide +kernel) hT (ro_Mo_isBetter kk) (by rw [Nat.zero_mul]; exact Nat.zero_le _)
def iv_Mo_levelingBay : List (Instr × Nat) := [(.invokestatic 54, 2539545), (.invokevirtual 92, 2523153), (.invokestatic 78, 2785297), (.invokevirtual 82, 2768913), (.invokevirtual 163, 3473441)]
theorem tk_Mo_levelingBay : (List.range 95).all (fun pc => match T_Mo_levelingBay pc with | none => true | some e => ck FT_ PT_ NT_ CT_ yX7_levelingBay.cls cX7_levelingBay (some .int) iv_Mo_levelingBay pc e) = true := by decide +kernel
theorem Ct_Mo_levelingBay (kk : Nat) (l : Launch) (hst : l.stackTraces = false) : CtX sdM l yX7_levelingBay (.code yX7_levelingBay cX7_levelingBay 4 (some .int) :: lw_all) 10 0 (A_Mo_levelingBay kk) := by
  have hT : TabOK sdM l yX7_levelingBay.cls cX7_levelingBay 0 10 (some .int) T_Mo_levelingBay (call_Mo_levelingBay kk) (fun _ => []) := by
    intro x hF hH hO hC hG hV hR hsd pc e he
    refine ck_sound FT_ok PT_ok NT_ok CT_ok (invs := iv_Mo_levelingBay) ?_ ?_
    · exact (List.forall_mem_cons.mpr ⟨fun pc hd => ⟨cwX_S (n := 3) hF hd (by rw [hH]; exact Ct_Mo_isBetween kk l hst) hsd (by rw [hO]; exact wd_1616) wd_1617 wd_97 wd_1618 ⟨by decide +kernel, by decide +kernel, by decide +kernel⟩ (by decide) (by rw [hV]; decide) (sh_Mo_isBetween kk), hd_nil⟩, (List.forall_mem_cons.mpr ⟨fun pc hd => ⟨cwX_V (C := RX7) (n := 1) hF hd (by rw [hH]; exact Ct_Mo_fails kk l hst) hsd (by rw [hO]; exact wd_1638) wd_1640 wd_42 wd_97 wd_1641 ⟨rfl, by decide +kernel, by decide +kernel, by decide +kernel⟩ (by decide) (by rw [hV]; decide) (sh_Mo_fails kk), hd_nil⟩, (List.forall_mem_cons.mpr ⟨fun pc hd => ⟨cwX_S (n := 2) hF hd (by rw [hH]; exact Ct_Mo_lever kk l hst) hsd (by rw [hO]; exact wd_1619) wd_1620 wd_97 wd_1621 ⟨by decide +kernel, by decide +kernel, by decide +kernel⟩ (by decide) (by rw [hV]; decide) (sh_Mo_lever kk), hd_nil⟩, (List.forall_mem_cons.mpr ⟨fun pc hd => ⟨cwX_V (C := RX7) (n := 1) hF hd (by rw [hH]; exact Ct_Mo_isBeyond kk l hst) hsd (by rw [hO]; exact wd_1622) wd_1624 wd_38 wd_97 wd_1625 ⟨rfl, by decide +kernel, by decide +kernel, by decide +kernel⟩ (by decide) (by rw [hV]; decide) (sh_Mo_isBeyond kk), hd_nil⟩, (List.forall_mem_cons.mpr ⟨fun pc hd => ⟨cwX_V (C := RX7) (n := 3) hF hd (by rw [hH]; exact Ct_Mo_isBetter kk l hst) hsd (by rw [hO]; exact wd_1826) wd_1828 wd_65 wd_97 wd_1829 ⟨rfl, by decide +kernel, by decide +kernel, by decide +kernel⟩ (by decide) (by rw [hV]; decide) (sh_Mo_isBetter kk), hd_nil⟩, (fun _ h => nomatch h)⟩)⟩)⟩)⟩)⟩)
    · rw [hO, hC, hR]; exact tk_use (fun pc h => by unfold T_Mo_levelingBay; rw [Nat.ble_eq_true_of_le h]) tk_Mo_levelingBay pc e he
  exact CtX_of hst (by decide) (by decide +kernel) hT (ro_Mo_levelingBay kk) (by rw [Nat.zero_mul]; exact Nat.zero_le _)
def iv_Mo_port : List (Instr × Nat) := []
theorem tk_Mo_port : (List.range 12).all (fun pc => match T_Mo_port pc with | none => true | some e => ck FT_ PT_ NT_ CT_ yX7_port.cls cX7_port (some .int) iv_Mo_port pc e) = true := by decide +kernel
theorem Ct_Mo_port (kk : Nat) (l : Launch) (hst : l.stackTraces = false) : CtX sdM l yX7_port (.code yX7_port cX7_port 1 (some .int) :: lw_all) 6 0 (A_Mo_port kk) := by
  have hT : TabOK sdM l yX7_port.cls cX7_port 0 6 (some .int) T_Mo_port (call_Mo_port kk) (fun _ => []) := by
    intro x hF hH hO hC hG hV hR hsd pc e he
    refine ck_sound FT_ok PT_ok NT_ok CT_ok (invs := iv_Mo_port) ?_ ?_
    · exact (fun _ h => nomatch h)
    · rw [hO, hC, hR]; exact tk_use (fun pc h => by unfold T_Mo_port; rw [Nat.ble_eq_true_of_le h]) tk_Mo_port pc e he
  exact CtX_of hst (by decide) (by decide +kernel) hT (ro_Mo_port kk) (by rw [Nat.zero_mul]; exact Nat.zero_le _)
def iv_Mo_day : List (Instr × Nat) := []
theorem tk_Mo_day : (List.range 12).all (fun pc => match T_Mo_day pc with | none => true | some e => ck FT_ PT_ NT_ CT_ yX7_day.cls cX7_day (some .int) iv_Mo_day pc e) = true := by decide +kernel
theorem Ct_Mo_day (kk : Nat) (l : Launch) (hst : l.stackTraces = false) : CtX sdM l yX7_day (.code yX7_day cX7_day 1 (some .int) :: lw_all) 6 0 (A_Mo_day kk) := by
  have hT : TabOK sdM l yX7_day.cls cX7_day 0 6 (some .int) T_Mo_day (call_Mo_day kk) (fun _ => []) := by
    intro x hF hH hO hC hG hV hR hsd pc e he
    refine ck_sound FT_ok PT_ok NT_ok CT_ok (invs := iv_Mo_day) ?_ ?_
    · exact (fun _ h => nomatch h)
    · rw [hO, hC, hR]; exact tk_use (fun pc h => by unfold T_Mo_day; rw [Nat.ble_eq_true_of_le h]) tk_Mo_day pc e he
  exact CtX_of hst (by decide) (by decide +kernel) hT (ro_Mo_day kk) (by rw [Nat.zero_mul]; exact Nat.zero_le _)
def iv_Mo_isAscending : List (Instr × Nat) := []
theorem tk_Mo_isAscending : (List.range 20).all (fun pc => match T_Mo_isAscending pc with | none => true | some e => ck FT_ PT_ NT_ CT_ yX7_isAscending.cls cX7_isAscending (some .boolean) iv_Mo_isAscending pc e) = true := by decide +kernel
theorem Ct_Mo_isAscending (kk : Nat) (l : Launch) (hst : l.stackTraces = false) : CtX sdM l yX7_isAscending (.code yX7_isAscending cX7_isAscending 1 (some .boolean) :: lw_all) 6 0 (A_Mo_isAscending kk) := by
  have hT : TabOK sdM l yX7_isAscending.cls cX7_isAscending 0 6 (some .boolean) T_Mo_isAscending (call_Mo_isAscending kk) (fun _ => []) := by
    intro x hF hH hO hC hG hV hR hsd pc e he
    refine ck_sound FT_ok PT_ok NT_ok CT_ok (invs := iv_Mo_isAscending) ?_ ?_
    · exact (fun _ h => nomatch h)
    · rw [hO, hC, hR]; exact tk_use (fun pc h => by unfold T_Mo_isAscending; rw [Nat.ble_eq_true_of_le h]) tk_Mo_isAscending pc e he
  exact CtX_of hst (by decide) (by decide +kernel) hT (ro_Mo_isAscending kk) (by rw [Nat.zero_mul]; exact Nat.zero_le _)
def iv_Mo_legs : List (Instr × Nat) := [(.invokevirtual 120, 2981905)]
theorem tk_Mo_legs : (List.range 19).all (fun pc => match T_Mo_legs pc with | none => true | some e => ck FT_ PT_ NT_ CT_ yX7_legs.cls cX7_legs (some .int) iv_Mo_legs pc e) = true := by decide +kernel
theorem Ct_Mo_legs (kk : Nat) (l : Launch) (hst : l.stackTraces = false) : CtX sdM l yX7_legs (.code yX7_legs cX7_legs 3 (some .int) :: lw_all) 7 0 (A_Mo_legs kk) := by
  have hT : TabOK sdM l yX7_legs.cls cX7_legs 0 7 (some .int) T_Mo_legs (call_Mo_legs kk) (fun _ => []) := by
    intro x hF hH hO hC hG hV hR hsd pc e he
    refine ck_sound FT_ok PT_ok NT_ok CT_ok (invs := iv_Mo_legs) ?_ ?_
    · exact (List.forall_mem_cons.mpr ⟨fun pc hd => ⟨cwX_V (C := RX7) (n := 1) hF hd (by rw [hH]; exact Ct_Mo_portBehind kk l hst) hsd (by rw [hO]; exact wd_1709) wd_1711 wd_56 wd_97 wd_1712 ⟨rfl, by decide +kernel, by decide +kernel, by decide +kernel⟩ (by decide) (by rw [hV]; decide) (sh_Mo_portBehind kk), hd_nil⟩, (fun _ h => nomatch h)⟩)
    · rw [hO, hC, hR]; exact tk_use (fun pc h => by unfold T_Mo_legs; rw [Nat.ble_eq_true_of_le h]) tk_Mo_legs pc e he
  exact CtX_of hst (by decide) (by decide +kernel) hT (ro_Mo_legs kk) (by rw [Nat.zero_mul]; exact Nat.zero_le _)
def iv_Mo_legsTo : List (Instr × Nat) := [(.invokestatic 54, 2539545), (.invokevirtual 166, 3555345), (.invokevirtual 92, 2523153)]
theorem tk_Mo_legsTo : (List.range 28).all (fun pc => match T_Mo_legsTo pc with | none => true | some e => ck FT_ PT_ NT_ CT_ yX7_legsTo.cls cX7_legsTo (some .int) iv_Mo_legsTo pc e) = true := by decide +kernel
theorem Ct_Mo_legsTo (kk : Nat) (l : Launch) (hst : l.stackTraces = false) : CtX sdM l yX7_legsTo (.code yX7_legsTo cX7_legsTo 2 (some .int) :: lw_all) 8 0 (A_Mo_legsTo kk) := by
  have hT : TabOK sdM l yX7_legsTo.cls cX7_legsTo 0 8 (some .int) T_Mo_legsTo (call_Mo_legsTo kk) (fun _ => []) := by
    intro x hF hH hO hC hG hV hR hsd pc e he
    refine ck_sound FT_ok PT_ok NT_ok CT_ok (invs := iv_Mo_legsTo) ?_ ?_
    · exact (List.forall_mem_cons.mpr ⟨fun pc hd => ⟨cwX_S (n := 3) hF hd (by rw [hH]; exact Ct_Mo_isBetween kk l hst) hsd (by rw [hO]; exact wd_1616) wd_1617 wd_97 wd_1618 ⟨by decide +kernel, by decide +kernel, by decide +kernel⟩ (by decide) (by rw [hV]; decide) (sh_Mo_isBetween kk), hd_nil⟩, (List.forall_mem_cons.mpr ⟨fun pc hd => ⟨cwX_V (C := RX7) (n := 1) hF hd (by rw [hH]; exact Ct_Mo_legs kk l hst) hsd (by rw [hO]; exact wd_1849) wd_1851 wd_66 wd_97 wd_1852 ⟨rfl, by decide +kernel, by decide +kernel, by decide +kernel⟩ (by decide) (by rw [hV]; decide) (sh_Mo_legs kk), hd_nil⟩, (List.forall_mem_cons.mpr ⟨fun pc hd => ⟨cwX_V (C := RX7) (n := 1) hF hd (by rw [hH]; exact Ct_Mo_fails kk l hst) hsd (by rw [hO]; exact wd_1638) wd_1640 wd_42 wd_97 wd_1641 ⟨rfl, by decide +kernel, by decide +kernel, by decide +kernel⟩ (by decide) (by rw [hV]; decide) (sh_Mo_fails kk), hd_nil⟩, (fun _ h => nomatch h)⟩)⟩)⟩)
    · rw [hO, hC, hR]; exact tk_use (fun pc h => by unfold T_Mo_legsTo; rw [Nat.ble_eq_true_of_le h]) tk_Mo_legsTo pc e he
  exact CtX_of hst (by decide) (by decide +kernel) hT (ro_Mo_legsTo kk) (by rw [Nat.zero_mul]; exact Nat.zero_le _)
def iv_Mo_portAfter : List (Instr × Nat) := [(.invokestatic 54, 2539545), (.invokevirtual 120, 2981905), (.invokevirtual 92, 2523153)]
theorem tk_Mo_portAfter : (List.range 29).all (fun pc => match T_Mo_portAfter pc with | none => true | some e => ck FT_ PT_ NT_ CT_ yX7_portAfter.cls cX7_portAfter (some .int) iv_Mo_portAfter pc e) = true := by decide +kernel
theorem Ct_Mo_portAfter (kk : Nat) (l : Launch) (hst : l.stackTraces = false) : CtX sdM l yX7_portAfter (.code yX7_portAfter cX7_portAfter 2 (some .int) :: lw_all) 7 0 (A_Mo_portAfter kk) := by
  have hT : TabOK sdM l yX7_portAfter.cls cX7_portAfter 0 7 (some .int) T_Mo_portAfter (call_Mo_portAfter kk) (fun _ => []) := by
    intro x hF hH hO hC hG hV hR hsd pc e he
    refine ck_sound FT_ok PT_ok NT_ok CT_ok (invs := iv_Mo_portAfter) ?_ ?_
    · exact (List.forall_mem_cons.mpr ⟨fun pc hd => ⟨cwX_S (n := 3) hF hd (by rw [hH]; exact Ct_Mo_isBetween kk l hst) hsd (by rw [hO]; exact wd_1616) wd_1617 wd_97 wd_1618 ⟨by decide +kernel, by decide +kernel, by decide +kernel⟩ (by decide) (by rw [hV]; decide) (sh_Mo_isBetween kk), hd_nil⟩, (List.forall_mem_cons.mpr ⟨fun pc hd => ⟨cwX_V (C := RX7) (n := 1) hF hd (by rw [hH]; exact Ct_Mo_portBehind kk l hst) hsd (by rw [hO]; exact wd_1709) wd_1711 wd_56 wd_97 wd_1712 ⟨rfl, by decide +kernel, by decide +kernel, by decide +kernel⟩ (by decide) (by rw [hV]; decide) (sh_Mo_portBehind kk), hd_nil⟩, (List.forall_mem_cons.mpr ⟨fun pc hd => ⟨cwX_V (C := RX7) (n := 1) hF hd (by rw [hH]; exact Ct_Mo_fails kk l hst) hsd (by rw [hO]; exact wd_1638) wd_1640 wd_42 wd_97 wd_1641 ⟨rfl, by decide +kernel, by decide +kernel, by decide +kernel⟩ (by decide) (by rw [hV]; decide) (sh_Mo_fails kk), hd_nil⟩, (fun _ h => nomatch h)⟩)⟩)⟩)
    · rw [hO, hC, hR]; exact tk_use (fun pc h => by unfold T_Mo_portAfter; rw [Nat.ble_eq_true_of_le h]) tk_Mo_portAfter pc e he
  exact CtX_of hst (by decide) (by decide +kernel) hT (ro_Mo_portAfter kk) (by rw [Nat.zero_mul]; exact Nat.zero_le _)
def iv_Mo_inTheWay : List (Instr × Nat) := [(.invokevirtual 58, 2654241), (.invokevirtual 166, 3555345)]
theorem tk_Mo_inTheWay : (List.range 69).all (fun pc => match T_Mo_inTheWay pc with | none => true | some e => ck FT_ PT_ NT_ CT_ yX7_inTheWay.cls cX7_inTheWay (some .int) iv_Mo_inTheWay pc e) = true := by decide +kernel
theorem Ct_Mo_inTheWay (kk : Nat) (l : Launch) (hst : l.stackTraces = false) : CtX sdM l yX7_inTheWay (.code yX7_inTheWay cX7_inTheWay 6 (some .int) :: lw_all) 8 0 (A_Mo_inTheWay kk) := by
  have hT : TabOK sdM l yX7_inTheWay.cls cX7_inTheWay 0 8 (some .int) T_Mo_inTheWay (call_Mo_inTheWay kk) (fun _ => []) := by
    intro x hF hH hO hC hG hV hR hsd pc e he
    refine ck_sound FT_ok PT_ok NT_ok CT_ok (invs := iv_Mo_inTheWay) ?_ ?_
    · exact (List.forall_mem_cons.mpr ⟨fun pc hd => ⟨cwX_V (C := RX7) (n := 3) hF hd (by rw [hH]; exact Ct_Mo_at kk l hst) hsd (by rw [hO]; exact wd_1634) wd_1636 wd_41 wd_97 wd_1637 ⟨rfl, by decide +kernel, by decide +kernel, by decide +kernel⟩ (by decide) (by rw [hV]; decide) (sh_Mo_at kk), hd_nil⟩, (List.forall_mem_cons.mpr ⟨fun pc hd => ⟨cwX_V (C := RX7) (n := 1) hF hd (by rw [hH]; exact Ct_Mo_legs kk l hst) hsd (by rw [hO]; exact wd_1849) wd_1851 wd_66 wd_97 wd_1852 ⟨rfl, by decide +kernel, by decide +kernel, by decide +kernel⟩ (by decide) (by rw [hV]; decide) (sh_Mo_legs kk), hd_nil⟩, (fun _ h => nomatch h)⟩)⟩)
    · rw [hO, hC, hR]; exact tk_use (fun pc h => by unfold T_Mo_inTheWay; rw [Nat.ble_eq_true_of_le h]) tk_Mo_inTheWay pc e he
  exact CtX_of hst (by decide) (by decide +kernel) hT (ro_Mo_inTheWay kk) (by rw [Nat.zero_mul]; exact Nat.zero_le _)
def iv_Mo_pillowsInTheWay : List (Instr × Nat) := [(.invokevirtual 147, 3227665), (.invokevirtual 92, 2523153), (.invokevirtual 169, 3604505)]
theorem tk_Mo_pillowsInTheWay : (List.range 34).all (fun pc => match T_Mo_pillowsInTheWay pc with | none => true | some e => ck FT_ PT_ NT_ CT_ yX7_pillowsInTheWay.cls cX7_pillowsInTheWay (some .int) iv_Mo_pillowsInTheWay pc e) = true := by decide +kernel
theorem Ct_Mo_pillowsInTheWay (kk : Nat) (l : Launch) (hst : l.stackTraces = false) : CtX sdM l yX7_pillowsInTheWay (.code yX7_pillowsInTheWay cX7_pillowsInTheWay 3 (some .int) :: lw_all) 9 0 (A_Mo_pillowsInTheWay kk) := by
  have hT : TabOK sdM l yX7_pillowsInTheWay.cls cX7_pillowsInTheWay 0 9 (some .int) T_Mo_pillowsInTheWay (call_Mo_pillowsInTheWay kk) (fun _ => []) := by
    intro x hF hH hO hC hG hV hR hsd pc e he
    refine ck_sound FT_ok PT_ok NT_ok CT_ok (invs := iv_Mo_pillowsInTheWay) ?_ ?_
    · exact (List.forall_mem_cons.mpr ⟨fun pc hd => ⟨cwX_V (C := RX7) (n := 1) hF hd (by rw [hH]; exact Ct_Mo_placeOf kk l hst) hsd (by rw [hO]; exact wd_1768) wd_1770 wd_63 wd_97 wd_1771 ⟨rfl, by decide +kernel, by decide +kernel, by decide +kernel⟩ (by decide) (by rw [hV]; decide) (sh_Mo_placeOf kk), hd_nil⟩, (List.forall_mem_cons.mpr ⟨fun pc hd => ⟨cwX_V (C := RX7) (n := 1) hF hd (by rw [hH]; exact Ct_Mo_fails kk l hst) hsd (by rw [hO]; exact wd_1638) wd_1640 wd_42 wd_97 wd_1641 ⟨rfl, by decide +kernel, by decide +kernel, by decide +kernel⟩ (by decide) (by rw [hV]; decide) (sh_Mo_fails kk), hd_nil⟩, (List.forall_mem_cons.mpr ⟨fun pc hd => ⟨cwX_V (C := RX7) (n := 2) hF hd (by rw [hH]; exact Ct_Mo_inTheWay kk l hst) hsd (by rw [hO]; exact wd_1861) wd_1863 wd_67 wd_97 wd_1864 ⟨rfl, by decide +kernel, by decide +kernel, by decide +kernel⟩ (by decide) (by rw [hV]; decide) (sh_Mo_inTheWay kk), hd_nil⟩, (fun _ h => nomatch h)⟩)⟩)⟩)
    · rw [hO, hC, hR]; exact tk_use (fun pc h => by unfold T_Mo_pillowsInTheWay; rw [Nat.ble_eq_true_of_le h]) tk_Mo_pillowsInTheWay pc e he
  exact CtX_of hst (by decide) (by decide +kernel) hT (ro_Mo_pillowsInTheWay kk) (by rw [Nat.zero_mul]; exact Nat.zero_le _)
def iv_Mo_pairsInTheWay : List (Instr × Nat) := [(.invokevirtual 169, 3604505)]
theorem tk_Mo_pairsInTheWay : (List.range 53).all (fun pc => match T_Mo_pairsInTheWay pc with | none => true | some e => ck FT_ PT_ NT_ CT_ yX7_pairsInTheWay.cls cX7_pairsInTheWay (some .int) iv_Mo_pairsInTheWay pc e) = true := by decide +kernel
theorem Ct_Mo_pairsInTheWay (kk : Nat) (l : Launch) (hst : l.stackTraces = false) : CtX sdM l yX7_pairsInTheWay (.code yX7_pairsInTheWay cX7_pairsInTheWay 4 (some .int) :: lw_all) 9 0 (A_Mo_pairsInTheWay kk) := by
  have hT : TabOK sdM l yX7_pairsInTheWay.cls cX7_pairsInTheWay 0 9 (some .int) T_Mo_pairsInTheWay (call_Mo_pairsInTheWay kk) (fun _ => []) := by
    intro x hF hH hO hC hG hV hR hsd pc e he
    refine ck_sound FT_ok PT_ok NT_ok CT_ok (invs := iv_Mo_pairsInTheWay) ?_ ?_
    · exact (List.forall_mem_cons.mpr ⟨fun pc hd => ⟨cwX_V (C := RX7) (n := 2) hF hd (by rw [hH]; exact Ct_Mo_inTheWay kk l hst) hsd (by rw [hO]; exact wd_1861) wd_1863 wd_67 wd_97 wd_1864 ⟨rfl, by decide +kernel, by decide +kernel, by decide +kernel⟩ (by decide) (by rw [hV]; decide) (sh_Mo_inTheWay kk), hd_nil⟩, (fun _ h => nomatch h)⟩)
    · rw [hO, hC, hR]; exact tk_use (fun pc h => by unfold T_Mo_pairsInTheWay; rw [Nat.ble_eq_true_of_le h]) tk_Mo_pairsInTheWay pc e he
  exact CtX_of hst (by decide) (by decide +kernel) hT (ro_Mo_pairsInTheWay kk) (by rw [Nat.zero_mul]; exact Nat.zero_le _)
def iv_Mo_pairsInTheWayByStacks : List (Instr × Nat) := [(.invokevirtual 172, 3637257)]
theorem tk_Mo_pairsInTheWayByStacks : (List.range 5).all (fun pc => match T_Mo_pairsInTheWayByStacks pc with | none => true | some e => ck FT_ PT_ NT_ CT_ yX7_pairsInTheWayByStacks.cls cX7_pairsInTheWayByStacks (some .int) iv_Mo_pairsInTheWayByStacks pc e) = true := by decide +kernel
theorem Ct_Mo_pairsInTheWayByStacks (kk : Nat) (l : Launch) (hst : l.stackTraces = false) : CtX sdM l yX7_pairsInTheWayByStacks (.code yX7_pairsInTheWayByStacks cX7_pairsInTheWayByStacks 1 (some .int) :: lw_all) 10 0 (A_Mo_pairsInTheWayByStacks kk) := by
  have hT : TabOK sdM l yX7_pairsInTheWayByStacks.cls cX7_pairsInTheWayByStacks 0 10 (some .int) T_Mo_pairsInTheWayByStacks (call_Mo_pairsInTheWayByStacks kk) (fun _ => []) := by
    intro x hF hH hO hC hG hV hR hsd pc e he
    refine ck_sound FT_ok PT_ok NT_ok CT_ok (invs := iv_Mo_pairsInTheWayByStacks) ?_ ?_
    · exact (List.forall_mem_cons.mpr ⟨fun pc hd => ⟨cwX_V (C := RX7) (n := 0) hF hd (by rw [hH]; exact Ct_Mo_pairsInTheWay kk l hst) hsd (by rw [hO]; exact wd_1873) wd_1866 wd_1867 wd_97 wd_1868 ⟨rfl, by decide +kernel, by decide +kernel, by decide +kernel⟩ (by decide) (by rw [hV]; decide) (sh_Mo_pairsInTheWay kk), hd_nil⟩, (fun _ h => nomatch h)⟩)
    · rw [hO, hC, hR]; exact tk_use (fun pc h => by unfold T_Mo_pairsInTheWayByStacks; rw [Nat.ble_eq_true_of_le h]) tk_Mo_pairsInTheWayByStacks pc e he
  exact CtX_of hst (by decide) (by decide +kernel) hT (ro_Mo_pairsInTheWayByStacks kk) (by rw [Nat.zero_mul]; exact Nat.zero_le _)
def iv_Mo_isAhead : List (Instr × Nat) := [(.invokevirtual 58, 2654241), (.invokevirtual 166, 3555345)]
theorem tk_Mo_isAhead : (List.range 120).all (fun pc => match T_Mo_isAhead pc with | none => true | some e => ck FT_ PT_ NT_ CT_ yX7_isAhead.cls cX7_isAhead (some .boolean) iv_Mo_isAhead pc e) = true := by decide +kernel
theorem Ct_Mo_isAhead (kk : Nat) (l : Launch) (hst : l.stackTraces = false) : CtX sdM l yX7_isAhead (.code yX7_isAhead cX7_isAhead 5 (some .boolean) :: lw_all) 8 0 (A_Mo_isAhead kk) := by
  have hT : TabOK sdM l yX7_isAhead.cls cX7_isAhead 0 8 (some .boolean) T_Mo_isAhead (call_Mo_isAhead kk) (fun _ => []) := by
    intro x hF hH hO hC hG hV hR hsd pc e he
    refine ck_sound FT_ok PT_ok NT_ok CT_ok (invs := iv_Mo_isAhead) ?_ ?_
    · exact (List.forall_mem_cons.mpr ⟨fun pc hd => ⟨cwX_V (C := RX7) (n := 3) hF hd (by rw [hH]; exact Ct_Mo_at kk l hst) hsd (by rw [hO]; exact wd_1634) wd_1636 wd_41 wd_97 wd_1637 ⟨rfl, by decide +kernel, by decide +kernel, by decide +kernel⟩ (by decide) (by rw [hV]; decide) (sh_Mo_at kk), hd_nil⟩, (List.forall_mem_cons.mpr ⟨fun pc hd => ⟨cwX_V (C := RX7) (n := 1) hF hd (by rw [hH]; exact Ct_Mo_legs kk l hst) hsd (by rw [hO]; exact wd_1849) wd_1851 wd_66 wd_97 wd_1852 ⟨rfl, by decide +kernel, by decide +kernel, by decide +kernel⟩ (by decide) (by rw [hV]; decide) (sh_Mo_legs kk), hd_nil⟩, (fun _ h => nomatch h)⟩)⟩)
    · rw [hO, hC, hR]; exact tk_use (fun pc h => by unfold T_Mo_isAhead; rw [Nat.ble_eq_true_of_le h]) tk_Mo_isAhead pc e he
  exact CtX_of hst (by decide) (by decide +kernel) hT (ro_Mo_isAhead kk) (by rw [Nat.zero_mul]; exact Nat.zero_le _)
def iv_Mo_isTaken : List (Instr × Nat) := []
theorem tk_Mo_isTaken : (List.range 23).all (fun pc => match T_Mo_isTaken pc with | none => true | some e => ck FT_ PT_ NT_ CT_ yX7_isTaken.cls cX7_isTaken (some .boolean) iv_Mo_isTaken pc e) = true := by decide +kernel
theorem Ct_Mo_isTaken (kk : Nat) (l : Launch) (hst : l.stackTraces = false) : CtX sdM l yX7_isTaken (.code yX7_isTaken cX7_isTaken 2 (some .boolean) :: lw_all) 6 0 (A_Mo_isTaken kk) := by
  have hT : TabOK sdM l yX7_isTaken.cls cX7_isTaken 0 6 (some .boolean) T_Mo_isTaken (call_Mo_isTaken kk) (fun _ => []) := by
    intro x hF hH hO hC hG hV hR hsd pc e he
    refine ck_sound FT_ok PT_ok NT_ok CT_ok (invs := iv_Mo_isTaken) ?_ ?_
    · exact (fun _ h => nomatch h)
    · rw [hO, hC, hR]; exact tk_use (fun pc h => by unfold T_Mo_isTaken; rw [Nat.ble_eq_true_of_le h]) tk_Mo_isTaken pc e he
  exact CtX_of hst (by decide) (by decide +kernel) hT (ro_Mo_isTaken kk) (by rw [Nat.zero_mul]; exact Nat.zero_le _)
def iv_Mo_unloadableCount : List (Instr × Nat) := [(.invokevirtual 108, 2883601)]
theorem tk_Mo_unloadableCount : (List.range 39).all (fun pc => match T_Mo_unloadableCount pc with | none => true | some e => ck FT_ PT_ NT_ CT_ yX7_unloadableCount.cls cX7_unloadableCount (some .int) iv_Mo_unloadableCount pc e) = true := by decide +kernel
theorem Ct_Mo_unloadableCount (kk : Nat) (l : Launch) (hst : l.stackTraces = false) : CtX sdM l yX7_unloadableCount (.code yX7_unloadableCount cX7_unloadableCount 3 (some .int) :: lw_all) 11 0 (A_Mo_unloadableCount kk) := by
  have hT : TabOK sdM l yX7_unloadableCount.cls cX7_unloadableCount 0 11 (some .int) T_Mo_unloadableCount (call_Mo_unloadableCount kk) (fun _ => []) := by
    intro x hF hH hO hC hG hV hR hsd pc e he
    refine ck_sound FT_ok PT_ok NT_ok CT_ok (invs := iv_Mo_unloadableCount) ?_ ?_
    · exact (List.forall_mem_cons.mpr ⟨fun pc hd => ⟨cwX_V (C := RX7) (n := 1) hF hd (by rw [hH]; exact Ct_Mo_notUnload kk l hst) hsd (by rw [hO]; exact wd_1670) wd_1672 wd_49 wd_97 wd_1673 ⟨rfl, by decide +kernel, by decide +kernel, by decide +kernel⟩ (by decide) (by rw [hV]; decide) (sh_Mo_notUnload kk), hd_nil⟩, (fun _ h => nomatch h)⟩)
    · rw [hO, hC, hR]; exact tk_use (fun pc h => by unfold T_Mo_unloadableCount; rw [Nat.ble_eq_true_of_le h]) tk_Mo_unloadableCount pc e he
  exact CtX_of hst (by decide) (by decide +kernel) hT (ro_Mo_unloadableCount kk) (by rw [Nat.zero_mul]; exact Nat.zero_le _)
def iv_Mo_oldestIn : List (Instr × Nat) := [(.invokestatic 74, 2637833), (.invokevirtual 92, 2523153), (.invokevirtual 58, 2654241)]
theorem tk_Mo_oldestIn : (List.range 113).all (fun pc => match T_Mo_oldestIn pc with | none => true | some e => ck FT_ PT_ NT_ CT_ yX7_oldestIn.cls cX7_oldestIn (some .int) iv_Mo_oldestIn pc e) = true := by decide +kernel
theorem Ct_Mo_oldestIn (kk : Nat) (l : Launch) (hst : l.stackTraces = false) : CtX sdM l yX7_oldestIn (.code yX7_oldestIn cX7_oldestIn 5 (some .int) :: lw_all) 8 0 (A_Mo_oldestIn kk) := by
  have hT : TabOK sdM l yX7_oldestIn.cls cX7_oldestIn 0 8 (some .int) T_Mo_oldestIn (call_Mo_oldestIn kk) (fun _ => []) := by
    intro x hF hH hO hC hG hV hR hsd pc e he
    refine ck_sound FT_ok PT_ok NT_ok CT_ok (invs := iv_Mo_oldestIn) ?_ ?_
    · exact (List.forall_mem_cons.mpr ⟨fun pc hd => ⟨cwX_S (n := 1) hF hd (by rw [hH]; exact Ct_Mo_isBay kk l hst) hsd (by rw [hO]; exact wd_1613) wd_1614 wd_97 wd_1615 ⟨by decide +kernel, by decide +kernel, by decide +kernel⟩ (by decide) (by rw [hV]; decide) (sh_Mo_isBay kk), hd_nil⟩, (List.forall_mem_cons.mpr ⟨fun pc hd => ⟨cwX_V (C := RX7) (n := 1) hF hd (by rw [hH]; exact Ct_Mo_fails kk l hst) hsd (by rw [hO]; exact wd_1638) wd_1640 wd_42 wd_97 wd_1641 ⟨rfl, by decide +kernel, by decide +kernel, by decide +kernel⟩ (by decide) (by rw [hV]; decide) (sh_Mo_fails kk), hd_nil⟩, (List.forall_mem_cons.mpr ⟨fun pc hd => ⟨cwX_V (C := RX7) (n := 3) hF hd (by rw [hH]; exact Ct_Mo_at kk l hst) hsd (by rw [hO]; exact wd_1634) wd_1636 wd_41 wd_97 wd_1637 ⟨rfl, by decide +kernel, by decide +kernel, by decide +kernel⟩ (by decide) (by rw [hV]; decide) (sh_Mo_at kk), hd_nil⟩, (fun _ h => nomatch h)⟩)⟩)⟩)
    · rw [hO, hC, hR]; exact tk_use (fun pc h => by unfold T_Mo_oldestIn; rw [Nat.ble_eq_true_of_le h]) tk_Mo_oldestIn pc e he
  exact CtX_of hst (by decide) (by decide +kernel) hT (ro_Mo_oldestIn kk) (by rw [Nat.zero_mul]; exact Nat.zero_le _)
def iv_Mo_heaviestPort : List (Instr × Nat) := [(.invokevirtual 144, 2752521), (.invokevirtual 92, 2523153), (.invokevirtual 120, 2981905), (.invokevirtual 175, 3391505)]
theorem tk_Mo_heaviestPort : (List.range 61).all (fun pc => match T_Mo_heaviestPort pc with | none => true | some e => ck FT_ PT_ NT_ CT_ yX7_heaviestPort.cls cX7_heaviestPort (some .int) iv_Mo_heaviestPort pc e) = true := by decide +kernel
theorem Ct_Mo_heaviestPort (kk : Nat) (l : Launch) (hst : l.stackTraces = false) : CtX sdM l yX7_heaviestPort (.code yX7_heaviestPort cX7_heaviestPort 4 (some .int) :: lw_all) 8 0 (A_Mo_heaviestPort kk) := by
  have hT : TabOK sdM l yX7_heaviestPort.cls cX7_heaviestPort 0 8 (some .int) T_Mo_heaviestPort (call_Mo_heaviestPort kk) (fun _ => []) := by
    intro x hF hH hO hC hG hV hR hsd pc e he
    refine ck_sound FT_ok PT_ok NT_ok CT_ok (invs := iv_Mo_heaviestPort) ?_ ?_
    · exact (List.forall_mem_cons.mpr ⟨fun pc hd => ⟨cwX_V (C := RX7) (n := 0) hF hd (by rw [hH]; exact Ct_Mo_countAll kk l hst) hsd (by rw [hO]; exact wd_1748) wd_1750 wd_61 wd_97 wd_1751 ⟨rfl, by decide +kernel, by decide +kernel, by decide +kernel⟩ (by decide) (by rw [hV]; decide) (sh_Mo_countAll kk), hd_nil⟩, (List.forall_mem_cons.mpr ⟨fun pc hd => ⟨cwX_V (C := RX7) (n := 1) hF hd (by rw [hH]; exact Ct_Mo_fails kk l hst) hsd (by rw [hO]; exact wd_1638) wd_1640 wd_42 wd_97 wd_1641 ⟨rfl, by decide +kernel, by decide +kernel, by decide +kernel⟩ (by decide) (by rw [hV]; decide) (sh_Mo_fails kk), hd_nil⟩, (List.forall_mem_cons.mpr ⟨fun pc hd => ⟨cwX_V (C := RX7) (n := 1) hF hd (by rw [hH]; exact Ct_Mo_portBehind kk l hst) hsd (by rw [hO]; exact wd_1709) wd_1711 wd_56 wd_97 wd_1712 ⟨rfl, by decide +kernel, by decide +kernel, by decide +kernel⟩ (by decide) (by rw [hV]; decide) (sh_Mo_portBehind kk), hd_nil⟩, (List.forall_mem_cons.mpr ⟨fun pc hd => ⟨cwX_V (C := RX7) (n := 1) hF hd (by rw [hH]; exact Ct_Mo_weightFor kk l hst) hsd (by rw [hO]; exact wd_1886) wd_1806 wd_1807 wd_97 wd_1808 ⟨rfl, by decide +kernel, by decide +kernel, by decide +kernel⟩ (by decide) (by rw [hV]; decide) (sh_Mo_weightFor kk), hd_nil⟩, (fun _ h => nomatch h)⟩)⟩)⟩)⟩)
    · rw [hO, hC, hR]; exact tk_use (fun pc h => by unfold T_Mo_heaviestPort; rw [Nat.ble_eq_true_of_le h]) tk_Mo_heaviestPort pc e he
  exact CtX_of hst (by decide) (by decide +kernel) hT (ro_Mo_heaviestPort kk) (by rw [Nat.zero_mul]; exact Nat.zero_le _)
def iv_Mo_possibleShifts : List (Instr × Nat) := [(.invokevirtual 114, 2932761)]
theorem tk_Mo_possibleShifts : (List.range 54).all (fun pc => match T_Mo_possibleShifts pc with | none => true | some e => ck FT_ PT_ NT_ CT_ yX7_possibleShifts.cls cX7_possibleShifts (some .int) iv_Mo_possibleShifts pc e) = true := by decide +kernel
theorem Ct_Mo_possibleShifts (kk : Nat) (l : Launch) (hst : l.stackTraces = false) : CtX sdM l yX7_possibleShifts (.code yX7_possibleShifts cX7_possibleShifts 4 (some .int) :: lw_all) 11 0 (A_Mo_possibleShifts kk) := by
  have hT : TabOK sdM l yX7_possibleShifts.cls cX7_possibleShifts 0 11 (some .int) T_Mo_possibleShifts (call_Mo_possibleShifts kk) (fun _ => []) := by
    intro x hF hH hO hC hG hV hR hsd pc e he
    refine ck_sound FT_ok PT_ok NT_ok CT_ok (invs := iv_Mo_possibleShifts) ?_ ?_
    · exact (List.forall_mem_cons.mpr ⟨fun pc hd => ⟨cwX_V (C := RX7) (n := 2) hF hd (by rw [hH]; exact Ct_Mo_notShift kk l hst) hsd (by rw [hO]; exact wd_1690) wd_1692 wd_53 wd_97 wd_1693 ⟨rfl, by decide +kernel, by decide +kernel, by decide +kernel⟩ (by decide) (by rw [hV]; decide) (sh_Mo_notShift kk), hd_nil⟩, (fun _ h => nomatch h)⟩)
    · rw [hO, hC, hR]; exact tk_use (fun pc h => by unfold T_Mo_possibleShifts; rw [Nat.ble_eq_true_of_le h]) tk_Mo_possibleShifts pc e he
  exact CtX_of hst (by decide) (by decide +kernel) hT (ro_Mo_possibleShifts kk) (by rw [Nat.zero_mul]; exact Nat.zero_le _)
def iv_Mo_pillowByTurn : List (Instr × Nat) := [(.invokevirtual 178, 3686417), (.invokevirtual 181, 3670041), (.invokevirtual 58, 2654241), (.invokevirtual 92, 2523153)]
theorem tk_Mo_pillowByTurn : (List.range 98).all (fun pc => match T_Mo_pillowByTurn pc with | none => true | some e => ck FT_ PT_ NT_ CT_ yX7_pillowByTurn.cls cX7_pillowByTurn (some .int) iv_Mo_pillowByTurn pc e) = true := by decide +kernel
theorem Ct_Mo_pillowByTurn (kk : Nat) (l : Launch) (hst : l.stackTraces = false) : CtX sdM l yX7_pillowByTurn (.code yX7_pillowByTurn cX7_pillowByTurn 5 (some .int) :: lw_all) 9 0 (A_Mo_pillowByTurn kk) := by
  have hT : TabOK sdM l yX7_pillowByTurn.cls cX7_pillowByTurn 0 9 (some .int) T_Mo_pillowByTurn (call_Mo_pillowByTurn kk) (fun _ => []) := by
    intro x hF hH hO hC hG hV hR hsd pc e he
    refine ck_sound FT_ok PT_ok NT_ok CT_ok (invs := iv_Mo_pillowByTurn) ?_ ?_
    · exact (List.forall_mem_cons.mpr ⟨fun pc hd => ⟨cwX_V (C := RX7) (n := 1) hF hd (by rw [hH]; exact Ct_Mo_isTaken kk l hst) hsd (by rw [hO]; exact wd_1895) wd_1897 wd_68 wd_97 wd_1898 ⟨rfl, by decide +kernel, by decide +kernel, by decide +kernel⟩ (by decide) (by rw [hV]; decide) (sh_Mo_isTaken kk), hd_nil⟩, (List.forall_mem_cons.mpr ⟨fun pc hd => ⟨cwX_V (C := RX7) (n := 2) hF hd (by rw [hH]; exact Ct_Mo_isAhead kk l hst) hsd (by rw [hO]; exact wd_1899) wd_1901 wd_69 wd_97 wd_1902 ⟨rfl, by decide +kernel, by decide +kernel, by decide +kernel⟩ (by decide) (by rw [hV]; decide) (sh_Mo_isAhead kk), hd_nil⟩, (List.forall_mem_cons.mpr ⟨fun pc hd => ⟨cwX_V (C := RX7) (n := 3) hF hd (by rw [hH]; exact Ct_Mo_at kk l hst) hsd (by rw [hO]; exact wd_1634) wd_1636 wd_41 wd_97 wd_1637 ⟨rfl, by decide +kernel, by decide +kernel, by decide +kernel⟩ (by decide) (by rw [hV]; decide) (sh_Mo_at kk), hd_nil⟩, (List.forall_mem_cons.mpr ⟨fun pc hd => ⟨cwX_V (C := RX7) (n := 1) hF hd (by rw [hH]; exact Ct_Mo_fails kk l hst) hsd (by rw [hO]; exact wd_1638) wd_1640 wd_42 wd_97 wd_1641 ⟨rfl, by decide +kernel, by decide +kernel, by decide +kernel⟩ (by decide) (by rw [hV]; decide) (sh_Mo_fails kk), hd_nil⟩, (fun _ h => nomatch h)⟩)⟩)⟩)⟩)
    · rw [hO, hC, hR]; exact tk_use (fun pc h => by unfold T_Mo_pillowByTurn; rw [Nat.ble_eq_true_of_le h]) tk_Mo_pillowByTurn pc e he
  exact CtX_of hst (by decide) (by decide +kernel) hT (ro_Mo_pillowByTurn kk) (by rw [Nat.zero_mul]; exact Nat.zero_le _)
def iv_Mo_bayByWeight : List (Instr × Nat) := [(.invokevirtual 62, 2703377), (.invokevirtual 92, 2523153)]
theorem tk_Mo_bayByWeight : (List.range 88).all (fun pc => match T_Mo_bayByWeight pc with | none => true | some e => ck FT_ PT_ NT_ CT_ yX7_bayByWeight.cls cX7_bayByWeight (some .int) iv_Mo_bayByWeight pc e) = true := by decide +kernel
theorem Ct_Mo_bayByWeight (kk : Nat) (l : Launch) (hst : l.stackTraces = false) : CtX sdM l yX7_bayByWeight (.code yX7_bayByWeight cX7_bayByWeight 6 (some .int) :: lw_all) 8 0 (A_Mo_bayByWeight kk) := by
  have hT : TabOK sdM l yX7_bayByWeight.cls cX7_bayByWeight 0 8 (some .int) T_Mo_bayByWeight (call_Mo_bayByWeight kk) (fun _ => []) := by
    intro x hF hH hO hC hG hV hR hsd pc e he
    refine ck_sound FT_ok PT_ok NT_ok CT_ok (invs := iv_Mo_bayByWeight) ?_ ?_
    · exact (List.forall_mem_cons.mpr ⟨fun pc hd => ⟨cwX_V (C := RX7) (n := 1) hF hd (by rw [hH]; exact Ct_Mo_weightOfBay kk l hst) hsd (by rw [hO]; exact wd_1630) wd_1632 wd_40 wd_97 wd_1633 ⟨rfl, by decide +kernel, by decide +kernel, by decide +kernel⟩ (by decide) (by rw [hV]; decide) (sh_Mo_weightOfBay kk), hd_nil⟩, (List.forall_mem_cons.mpr ⟨fun pc hd => ⟨cwX_V (C := RX7) (n := 1) hF hd (by rw [hH]; exact Ct_Mo_fails kk l hst) hsd (by rw [hO]; exact wd_1638) wd_1640 wd_42 wd_97 wd_1641 ⟨rfl, by decide +kernel, by decide +kernel, by decide +kernel⟩ (by decide) (by rw [hV]; decide) (sh_Mo_fails kk), hd_nil⟩, (fun _ h => nomatch h)⟩)⟩)
    · rw [hO, hC, hR]; exact tk_use (fun pc h => by unfold T_Mo_bayByWeight; rw [Nat.ble_eq_true_of_le h]) tk_Mo_bayByWeight pc e he
  exact CtX_of hst (by decide) (by decide +kernel) hT (ro_Mo_bayByWeight kk) (by rw [Nat.zero_mul]; exact Nat.zero_le _)
def iv_Mo_loadedTotal : List (Instr × Nat) := []
theorem tk_Mo_loadedTotal : (List.range 12).all (fun pc => match T_Mo_loadedTotal pc with | none => true | some e => ck FT_ PT_ NT_ CT_ yX7_loadedTotal.cls cX7_loadedTotal (some .int) iv_Mo_loadedTotal pc e) = true := by decide +kernel
theorem Ct_Mo_loadedTotal (kk : Nat) (l : Launch) (hst : l.stackTraces = false) : CtX sdM l yX7_loadedTotal (.code yX7_loadedTotal cX7_loadedTotal 1 (some .int) :: lw_all) 6 0 (A_Mo_loadedTotal kk) := by
  have hT : TabOK sdM l yX7_loadedTotal.cls cX7_loadedTotal 0 6 (some .int) T_Mo_loadedTotal (call_Mo_loadedTotal kk) (fun _ => []) := by
    intro x hF hH hO hC hG hV hR hsd pc e he
    refine ck_sound FT_ok PT_ok NT_ok CT_ok (invs := iv_Mo_loadedTotal) ?_ ?_
    · exact (fun _ h => nomatch h)
    · rw [hO, hC, hR]; exact tk_use (fun pc h => by unfold T_Mo_loadedTotal; rw [Nat.ble_eq_true_of_le h]) tk_Mo_loadedTotal pc e he
  exact CtX_of hst (by decide) (by decide +kernel) hT (ro_Mo_loadedTotal kk) (by rw [Nat.zero_mul]; exact Nat.zero_le _)
def iv_Mo_deliveredTotal : List (Instr × Nat) := []
theorem tk_Mo_deliveredTotal : (List.range 12).all (fun pc => match T_Mo_deliveredTotal pc with | none => true | some e => ck FT_ PT_ NT_ CT_ yX7_deliveredTotal.cls cX7_deliveredTotal (some .int) iv_Mo_deliveredTotal pc e) = true := by decide +kernel
theorem Ct_Mo_deliveredTotal (kk : Nat) (l : Launch) (hst : l.stackTraces = false) : CtX sdM l yX7_deliveredTotal (.code yX7_deliveredTotal cX7_deliveredTotal 1 (some .int) :: lw_all) 6 0 (A_Mo_deliveredTotal kk) := by
  have hT : TabOK sdM l yX7_deliveredTotal.cls cX7_deliveredTotal 0 6 (some .int) T_Mo_deliveredTotal (call_Mo_deliveredTotal kk) (fun _ => []) := by
    intro x hF hH hO hC hG hV hR hsd pc e he
    refine ck_sound FT_ok PT_ok NT_ok CT_ok (invs := iv_Mo_deliveredTotal) ?_ ?_
    · exact (fun _ h => nomatch h)
    · rw [hO, hC, hR]; exact tk_use (fun pc h => by unfold T_Mo_deliveredTotal; rw [Nat.ble_eq_true_of_le h]) tk_Mo_deliveredTotal pc e he
  exact CtX_of hst (by decide) (by decide +kernel) hT (ro_Mo_deliveredTotal kk) (by rw [Nat.zero_mul]; exact Nat.zero_le _)
def iv_Mo_deliveredWeight : List (Instr × Nat) := []
theorem tk_Mo_deliveredWeight : (List.range 13).all (fun pc => match T_Mo_deliveredWeight pc with | none => true | some e => ck FT_ PT_ NT_ CT_ yX7_deliveredWeight.cls cX7_deliveredWeight (some .int) iv_Mo_deliveredWeight pc e) = true := by decide +kernel
theorem Ct_Mo_deliveredWeight (kk : Nat) (l : Launch) (hst : l.stackTraces = false) : CtX sdM l yX7_deliveredWeight (.code yX7_deliveredWeight cX7_deliveredWeight 1 (some .int) :: lw_all) 6 0 (A_Mo_deliveredWeight kk) := by
  have hT : TabOK sdM l yX7_deliveredWeight.cls cX7_deliveredWeight 0 6 (some .int) T_Mo_deliveredWeight (call_Mo_deliveredWeight kk) (fun _ => []) := by
    intro x hF hH hO hC hG hV hR hsd pc e he
    refine ck_sound FT_ok PT_ok NT_ok CT_ok (invs := iv_Mo_deliveredWeight) ?_ ?_
    · exact (fun _ h => nomatch h)
    · rw [hO, hC, hR]; exact tk_use (fun pc h => by unfold T_Mo_deliveredWeight; rw [Nat.ble_eq_true_of_le h]) tk_Mo_deliveredWeight pc e he
  exact CtX_of hst (by decide) (by decide +kernel) hT (ro_Mo_deliveredWeight kk) (by rw [Nat.zero_mul]; exact Nat.zero_le _)
def iv_Mo_drillTotal : List (Instr × Nat) := []
theorem tk_Mo_drillTotal : (List.range 13).all (fun pc => match T_Mo_drillTotal pc with | none => true | some e => ck FT_ PT_ NT_ CT_ yX7_drillTotal.cls cX7_drillTotal (some .int) iv_Mo_drillTotal pc e) = true := by decide +kernel
theorem Ct_Mo_drillTotal (kk : Nat) (l : Launch) (hst : l.stackTraces = false) : CtX sdM l yX7_drillTotal (.code yX7_drillTotal cX7_drillTotal 1 (some .int) :: lw_all) 6 0 (A_Mo_drillTotal kk) := by
  have hT : TabOK sdM l yX7_drillTotal.cls cX7_drillTotal 0 6 (some .int) T_Mo_drillTotal (call_Mo_drillTotal kk) (fun _ => []) := by
    intro x hF hH hO hC hG hV hR hsd pc e he
    refine ck_sound FT_ok PT_ok NT_ok CT_ok (invs := iv_Mo_drillTotal) ?_ ?_
    · exact (fun _ h => nomatch h)
    · rw [hO, hC, hR]; exact tk_use (fun pc h => by unfold T_Mo_drillTotal; rw [Nat.ble_eq_true_of_le h]) tk_Mo_drillTotal pc e he
  exact CtX_of hst (by decide) (by decide +kernel) hT (ro_Mo_drillTotal kk) (by rw [Nat.zero_mul]; exact Nat.zero_le _)
def iv_Mo_capsizedTotal : List (Instr × Nat) := []
theorem tk_Mo_capsizedTotal : (List.range 13).all (fun pc => match T_Mo_capsizedTotal pc with | none => true | some e => ck FT_ PT_ NT_ CT_ yX7_capsizedTotal.cls cX7_capsizedTotal (some .int) iv_Mo_capsizedTotal pc e) = true := by decide +kernel
theorem Ct_Mo_capsizedTotal (kk : Nat) (l : Launch) (hst : l.stackTraces = false) : CtX sdM l yX7_capsizedTotal (.code yX7_capsizedTotal cX7_capsizedTotal 1 (some .int) :: lw_all) 6 0 (A_Mo_capsizedTotal kk) := by
  have hT : TabOK sdM l yX7_capsizedTotal.cls cX7_capsizedTotal 0 6 (some .int) T_Mo_capsizedTotal (call_Mo_capsizedTotal kk) (fun _ => []) := by
    intro x hF hH hO hC hG hV hR hsd pc e he
    refine ck_sound FT_ok PT_ok NT_ok CT_ok (invs := iv_Mo_capsizedTotal) ?_ ?_
    · exact (fun _ h => nomatch h)
    · rw [hO, hC, hR]; exact tk_use (fun pc h => by unfold T_Mo_capsizedTotal; rw [Nat.ble_eq_true_of_le h]) tk_Mo_capsizedTotal pc e he
  exact CtX_of hst (by decide) (by decide +kernel) hT (ro_Mo_capsizedTotal kk) (by rw [Nat.zero_mul]; exact Nat.zero_le _)
def iv_Mo_meanAge : List (Instr × Nat) := [(.invokevirtual 144, 2752521), (.invokevirtual 92, 2523153), (.invokevirtual 178, 3686417), (.invokevirtual 58, 2654241)]
theorem tk_Mo_meanAge : (List.range 73).all (fun pc => match T_Mo_meanAge pc with | none => true | some e => ck FT_ PT_ NT_ CT_ yX7_meanAge.cls cX7_meanAge (some .double) iv_Mo_meanAge pc e) = true := by decide +kernel
theorem Ct_Mo_meanAge (kk : Nat) (l : Launch) (hst : l.stackTraces = false) : CtX sdM l yX7_meanAge (.code yX7_meanAge cX7_meanAge 3 (some .double) :: lw_all) 7 0 (A_Mo_meanAge kk) := by
  have hT : TabOK sdM l yX7_meanAge.cls cX7_meanAge 0 7 (some .double) T_Mo_meanAge (call_Mo_meanAge kk) (fun _ => []) := by
    intro x hF hH hO hC hG hV hR hsd pc e he
    refine ck_sound FT_ok PT_ok NT_ok CT_ok (invs := iv_Mo_meanAge) ?_ ?_
    · exact (List.forall_mem_cons.mpr ⟨fun pc hd => ⟨cwX_V (C := RX7) (n := 0) hF hd (by rw [hH]; exact Ct_Mo_countAll kk l hst) hsd (by rw [hO]; exact wd_1748) wd_1750 wd_61 wd_97 wd_1751 ⟨rfl, by decide +kernel, by decide +kernel, by decide +kernel⟩ (by decide) (by rw [hV]; decide) (sh_Mo_countAll kk), hd_nil⟩, (List.forall_mem_cons.mpr ⟨fun pc hd => ⟨cwX_V (C := RX7) (n := 1) hF hd (by rw [hH]; exact Ct_Mo_fails kk l hst) hsd (by rw [hO]; exact wd_1638) wd_1640 wd_42 wd_97 wd_1641 ⟨rfl, by decide +kernel, by decide +kernel, by decide +kernel⟩ (by decide) (by rw [hV]; decide) (sh_Mo_fails kk), hd_nil⟩, (List.forall_mem_cons.mpr ⟨fun pc hd => ⟨cwX_V (C := RX7) (n := 1) hF hd (by rw [hH]; exact Ct_Mo_isTaken kk l hst) hsd (by rw [hO]; exact wd_1895) wd_1897 wd_68 wd_97 wd_1898 ⟨rfl, by decide +kernel, by decide +kernel, by decide +kernel⟩ (by decide) (by rw [hV]; decide) (sh_Mo_isTaken kk), hd_nil⟩, (List.forall_mem_cons.mpr ⟨fun pc hd => ⟨cwX_V (C := RX7) (n := 3) hF hd (by rw [hH]; exact Ct_Mo_at kk l hst) hsd (by rw [hO]; exact wd_1634) wd_1636 wd_41 wd_97 wd_1637 ⟨rfl, by decide +kernel, by decide +kernel, by decide +kernel⟩ (by decide) (by rw [hV]; decide) (sh_Mo_at kk), hd_nil⟩, (fun _ h => nomatch h)⟩)⟩)⟩)⟩)
    · rw [hO, hC, hR]; exact tk_use (fun pc h => by unfold T_Mo_meanAge; rw [Nat.ble_eq_true_of_le h]) tk_Mo_meanAge pc e he
  exact CtX_of hst (by decide) (by decide +kernel) hT (ro_Mo_meanAge kk) (by rw [Nat.zero_mul]; exact Nat.zero_le _)
def iv_Mo_capsizedShare : List (Instr × Nat) := [(.invokevirtual 92, 2523153)]
theorem tk_Mo_capsizedShare : (List.range 42).all (fun pc => match T_Mo_capsizedShare pc with | none => true | some e => ck FT_ PT_ NT_ CT_ yX7_capsizedShare.cls cX7_capsizedShare (some .float) iv_Mo_capsizedShare pc e) = true := by decide +kernel
theorem Ct_Mo_capsizedShare (kk : Nat) (l : Launch) (hst : l.stackTraces = false) : CtX sdM l yX7_capsizedShare (.code yX7_capsizedShare cX7_capsizedShare 1 (some .float) :: lw_all) 7 0 (A_Mo_capsizedShare kk) := by
  have hT : TabOK sdM l yX7_capsizedShare.cls cX7_capsizedShare 0 7 (some .float) T_Mo_capsizedShare (call_Mo_capsizedShare kk) (fun _ => []) := by
    intro x hF hH hO hC hG hV hR hsd pc e he
    refine ck_sound FT_ok PT_ok NT_ok CT_ok (invs := iv_Mo_capsizedShare) ?_ ?_
    · exact (List.forall_mem_cons.mpr ⟨fun pc hd => ⟨cwX_V (C := RX7) (n := 1) hF hd (by rw [hH]; exact Ct_Mo_fails kk l hst) hsd (by rw [hO]; exact wd_1638) wd_1640 wd_42 wd_97 wd_1641 ⟨rfl, by decide +kernel, by decide +kernel, by decide +kernel⟩ (by decide) (by rw [hV]; decide) (sh_Mo_fails kk), hd_nil⟩, (fun _ h => nomatch h)⟩)
    · rw [hO, hC, hR]; exact tk_use (fun pc h => by unfold T_Mo_capsizedShare; rw [Nat.ble_eq_true_of_le h]) tk_Mo_capsizedShare pc e he
  exact CtX_of hst (by decide) (by decide +kernel) hT (ro_Mo_capsizedShare kk) (by rw [Nat.zero_mul]; exact Nat.zero_le _)
def iv_Mo_isConsistent : List (Instr × Nat) := [(.invokevirtual 82, 2768913), (.invokevirtual 144, 2752521)]
theorem tk_Mo_isConsistent : (List.range 39).all (fun pc => match T_Mo_isConsistent pc with | none => true | some e => ck FT_ PT_ NT_ CT_ yX7_isConsistent.cls cX7_isConsistent (some .boolean) iv_Mo_isConsistent pc e) = true := by decide +kernel
theorem Ct_Mo_isConsistent (kk : Nat) (l : Launch) (hst : l.stackTraces = false) : CtX sdM l yX7_isConsistent (.code yX7_isConsistent cX7_isConsistent 1 (some .boolean) :: lw_all) 10 0 (A_Mo_isConsistent kk) := by
  have hT : TabOK sdM l yX7_isConsistent.cls cX7_isConsistent 0 10 (some .boolean) T_Mo_isConsistent (call_Mo_isConsistent kk) (fun _ => []) := by
    intro x hF hH hO hC hG hV hR hsd pc e he
    refine ck_sound FT_ok PT_ok NT_ok CT_ok (invs := iv_Mo_isConsistent) ?_ ?_
    · exact (List.forall_mem_cons.mpr ⟨fun pc hd => ⟨cwX_V (C := RX7) (n := 1) hF hd (by rw [hH]; exact Ct_Mo_isBeyond kk l hst) hsd (by rw [hO]; exact wd_1622) wd_1624 wd_38 wd_97 wd_1625 ⟨rfl, by decide +kernel, by decide +kernel, by decide +kernel⟩ (by decide) (by rw [hV]; decide) (sh_Mo_isBeyond kk), hd_nil⟩, (List.forall_mem_cons.mpr ⟨fun pc hd => ⟨cwX_V (C := RX7) (n := 0) hF hd (by rw [hH]; exact Ct_Mo_countAll kk l hst) hsd (by rw [hO]; exact wd_1748) wd_1750 wd_61 wd_97 wd_1751 ⟨rfl, by decide +kernel, by decide +kernel, by decide +kernel⟩ (by decide) (by rw [hV]; decide) (sh_Mo_countAll kk), hd_nil⟩, (fun _ h => nomatch h)⟩)⟩)
    · rw [hO, hC, hR]; exact tk_use (fun pc h => by unfold T_Mo_isConsistent; rw [Nat.ble_eq_true_of_le h]) tk_Mo_isConsistent pc e he
  exact CtX_of hst (by decide) (by decide +kernel) hT (ro_Mo_isConsistent kk) (by rw [Nat.zero_mul]; exact Nat.zero_le _)
def iv_Mo_writes : List (Instr × Nat) := []
theorem tk_Mo_writes : (List.range 22).all (fun pc => match T_Mo_writes pc with | none => true | some e => ck FT_ PT_ NT_ CT_ yX7_writes.cls cX7_writes none iv_Mo_writes pc e) = true := by decide +kernel
theorem Ct_Mo_writes (kk : Nat) (l : Launch) (hst : l.stackTraces = false) : CtX sdM l yX7_writes (.code yX7_writes cX7_writes 2 none :: lw_all) 6 0 (A_Mo_writes kk) := by
  have hT : TabOK sdM l yX7_writes.cls cX7_writes 0 6 none T_Mo_writes (call_Mo_writes kk) (fun _ => []) := by
    intro x hF hH hO hC hG hV hR hsd pc e he
    refine ck_sound FT_ok PT_ok NT_ok CT_ok (invs := iv_Mo_writes) ?_ ?_
    · exact (fun _ h => nomatch h)
    · rw [hO, hC, hR]; exact tk_use (fun pc h => by unfold T_Mo_writes; rw [Nat.ble_eq_true_of_le h]) tk_Mo_writes pc e he
  exact CtX_of hst (by decide) (by decide +kernel) hT (ro_Mo_writes kk) (by rw [Nat.zero_mul]; exact Nat.zero_le _)
def iv_Mo_writesNumber : List (Instr × Nat) := [(.invokevirtual 188, 3932176), (.invokestatic 160, 3457033)]
theorem tk_Mo_writesNumber : (List.range 66).all (fun pc => match T_Mo_writesNumber pc with | none => true | some e => ck FT_ PT_ NT_ CT_ yX7_writesNumber.cls cX7_writesNumber none iv_Mo_writesNumber pc e) = true := by decide +kernel
theorem Ct_Mo_writesNumber (kk : Nat) (l : Launch) (hst : l.stackTraces = false) : CtX sdM l yX7_writesNumber (.code yX7_writesNumber cX7_writesNumber 5 none :: lw_all) 7 0 (A_Mo_writesNumber kk) := by
  have hT : TabOK sdM l yX7_writesNumber.cls cX7_writesNumber 0 7 none T_Mo_writesNumber (call_Mo_writesNumber kk) (fun _ => []) := by
    intro x hF hH hO hC hG hV hR hsd pc e he
    refine ck_sound FT_ok PT_ok NT_ok CT_ok (invs := iv_Mo_writesNumber) ?_ ?_
    · exact (List.forall_mem_cons.mpr ⟨fun pc hd => ⟨cwX_V (C := RX7) (n := 1) hF hd (by rw [hH]; exact Ct_Mo_writes kk l hst) hsd (by rw [hO]; exact wd_1943) wd_1945 wd_70 wd_97 wd_1946 ⟨rfl, by decide +kernel, by decide +kernel, by decide +kernel⟩ (by decide) (by rw [hV]; decide) (sh_Mo_writes kk), hd_nil⟩, (List.forall_mem_cons.mpr ⟨fun pc hd => ⟨cwX_S (n := 1) hF hd (by rw [hH]; exact Ct_Mo_magnitude kk l hst) hsd (by rw [hO]; exact wd_1830) wd_1831 wd_97 wd_1832 ⟨by decide +kernel, by decide +kernel, by decide +kernel⟩ (by decide) (by rw [hV]; decide) (sh_Mo_magnitude kk), hd_nil⟩, (fun _ h => nomatch h)⟩)⟩)
    · rw [hO, hC, hR]; exact tk_use (fun pc h => by unfold T_Mo_writesNumber; rw [Nat.ble_eq_true_of_le h]) tk_Mo_writesNumber pc e he
  exact CtX_of hst (by decide) (by decide +kernel) hT (ro_Mo_writesNumber kk) (by rw [Nat.zero_mul]; exact Nat.zero_le _)
def iv_Mo_renderStack : List (Instr × Nat) := [(.invokestatic 74, 2637833), (.invokevirtual 92, 2523153), (.invokevirtual 188, 3932176), (.invokevirtual 58, 2654241), (.invokevirtual 191, 3948560)]
theorem tk_Mo_renderStack : (List.range 104).all (fun pc => match T_Mo_renderStack pc with | none => true | some e => ck FT_ PT_ NT_ CT_ yX7_renderStack.cls cX7_renderStack (some .int) iv_Mo_renderStack pc e) = true := by decide +kernel
theorem Ct_Mo_renderStack (kk : Nat) (l : Launch) (hst : l.stackTraces = false) : CtX sdM l yX7_renderStack (.code yX7_renderStack cX7_renderStack 3 (some .int) :: lw_all) 8 0 (A_Mo_renderStack kk) := by
  have hT : TabOK sdM l yX7_renderStack.cls cX7_renderStack 0 8 (some .int) T_Mo_renderStack (call_Mo_renderStack kk) (fun _ => []) := by
    intro x hF hH hO hC hG hV hR hsd pc e he
    refine ck_sound FT_ok PT_ok NT_ok CT_ok (invs := iv_Mo_renderStack) ?_ ?_
    · exact (List.forall_mem_cons.mpr ⟨fun pc hd => ⟨cwX_S (n := 1) hF hd (by rw [hH]; exact Ct_Mo_isBay kk l hst) hsd (by rw [hO]; exact wd_1613) wd_1614 wd_97 wd_1615 ⟨by decide +kernel, by decide +kernel, by decide +kernel⟩ (by decide) (by rw [hV]; decide) (sh_Mo_isBay kk), hd_nil⟩, (List.forall_mem_cons.mpr ⟨fun pc hd => ⟨cwX_V (C := RX7) (n := 1) hF hd (by rw [hH]; exact Ct_Mo_fails kk l hst) hsd (by rw [hO]; exact wd_1638) wd_1640 wd_42 wd_97 wd_1641 ⟨rfl, by decide +kernel, by decide +kernel, by decide +kernel⟩ (by decide) (by rw [hV]; decide) (sh_Mo_fails kk), hd_nil⟩, (List.forall_mem_cons.mpr ⟨fun pc hd => ⟨cwX_V (C := RX7) (n := 1) hF hd (by rw [hH]; exact Ct_Mo_writes kk l hst) hsd (by rw [hO]; exact wd_1943) wd_1945 wd_70 wd_97 wd_1946 ⟨rfl, by decide +kernel, by decide +kernel, by decide +kernel⟩ (by decide) (by rw [hV]; decide) (sh_Mo_writes kk), hd_nil⟩, (List.forall_mem_cons.mpr ⟨fun pc hd => ⟨cwX_V (C := RX7) (n := 3) hF hd (by rw [hH]; exact Ct_Mo_at kk l hst) hsd (by rw [hO]; exact wd_1634) wd_1636 wd_41 wd_97 wd_1637 ⟨rfl, by decide +kernel, by decide +kernel, by decide +kernel⟩ (by decide) (by rw [hV]; decide) (sh_Mo_at kk), hd_nil⟩, (List.forall_mem_cons.mpr ⟨fun pc hd => ⟨cwX_V (C := RX7) (n := 1) hF hd (by rw [hH]; exact Ct_Mo_writesNumber kk l hst) hsd (by rw [hO]; exact wd_1947) wd_1949 wd_71 wd_97 wd_1950 ⟨rfl, by decide +kernel, by decide +kernel, by decide +kernel⟩ (by decide) (by rw [hV]; decide) (sh_Mo_writesNumber kk), hd_nil⟩, (fun _ h => nomatch h)⟩)⟩)⟩)⟩)⟩)
    · rw [hO, hC, hR]; exact tk_use (fun pc h => by unfold T_Mo_renderStack; rw [Nat.ble_eq_true_of_le h]) tk_Mo_renderStack pc e he
  exact CtX_of hst (by decide) (by decide +kernel) hT (ro_Mo_renderStack kk) (by rw [Nat.zero_mul]; exact Nat.zero_le _)
def iv_Mo_renderBarge : List (Instr × Nat) := [(.invokevirtual 188, 3932176), (.invokevirtual 62, 2703377), (.invokevirtual 191, 3948560), (.invokevirtual 66, 2719753)]
theorem tk_Mo_renderBarge : (List.range 62).all (fun pc => match T_Mo_renderBarge pc with | none => true | some e => ck FT_ PT_ NT_ CT_ yX7_renderBarge.cls cX7_renderBarge (some .int) iv_Mo_renderBarge pc e) = true := by decide +kernel
theorem Ct_Mo_renderBarge (kk : Nat) (l : Launch) (hst : l.stackTraces = false) : CtX sdM l yX7_renderBarge (.code yX7_renderBarge cX7_renderBarge 2 (some .int) :: lw_all) 9 0 (A_Mo_renderBarge kk) := by
  have hT : TabOK sdM l yX7_renderBarge.cls cX7_renderBarge 0 9 (some .int) T_Mo_renderBarge (call_Mo_renderBarge kk) (fun _ => []) := by
    intro x hF hH hO hC hG hV hR hsd pc e he
    refine ck_sound FT_ok PT_ok NT_ok CT_ok (invs := iv_Mo_renderBarge) ?_ ?_
    · exact (List.forall_mem_cons.mpr ⟨fun pc hd => ⟨cwX_V (C := RX7) (n := 1) hF hd (by rw [hH]; exact Ct_Mo_writes kk l hst) hsd (by rw [hO]; exact wd_1943) wd_1945 wd_70 wd_97 wd_1946 ⟨rfl, by decide +kernel, by decide +kernel, by decide +kernel⟩ (by decide) (by rw [hV]; decide) (sh_Mo_writes kk), hd_nil⟩, (List.forall_mem_cons.mpr ⟨fun pc hd => ⟨cwX_V (C := RX7) (n := 1) hF hd (by rw [hH]; exact Ct_Mo_weightOfBay kk l hst) hsd (by rw [hO]; exact wd_1630) wd_1632 wd_40 wd_97 wd_1633 ⟨rfl, by decide +kernel, by decide +kernel, by decide +kernel⟩ (by decide) (by rw [hV]; decide) (sh_Mo_weightOfBay kk), hd_nil⟩, (List.forall_mem_cons.mpr ⟨fun pc hd => ⟨cwX_V (C := RX7) (n := 1) hF hd (by rw [hH]; exact Ct_Mo_writesNumber kk l hst) hsd (by rw [hO]; exact wd_1947) wd_1949 wd_71 wd_97 wd_1950 ⟨rfl, by decide +kernel, by decide +kernel, by decide +kernel⟩ (by decide) (by rw [hV]; decide) (sh_Mo_writesNumber kk), hd_nil⟩, (List.forall_mem_cons.mpr ⟨fun pc hd => ⟨cwX_V (C := RX7) (n := 0) hF hd (by rw [hH]; exact Ct_Mo_momentNow kk l hst) hsd (by rw [hO]; exact wd_1626) wd_1628 wd_39 wd_97 wd_1629 ⟨rfl, by decide +kernel, by decide +kernel, by decide +kernel⟩ (by decide) (by rw [hV]; decide) (sh_Mo_momentNow kk), hd_nil⟩, (fun _ h => nomatch h)⟩)⟩)⟩)⟩)
    · rw [hO, hC, hR]; exact tk_use (fun pc h => by unfold T_Mo_renderBarge; rw [Nat.ble_eq_true_of_le h]) tk_Mo_renderBarge pc e he
  exact CtX_of hst (by decide) (by decide +kernel) hT (ro_Mo_renderBarge kk) (by rw [Nat.zero_mul]; exact Nat.zero_le _)
def iv_Mo_outputAt : List (Instr × Nat) := [(.invokestatic 54, 2539545), (.invokevirtual 92, 2523153)]
theorem tk_Mo_outputAt : (List.range 33).all (fun pc => match T_Mo_outputAt pc with | none => true | some e => ck FT_ PT_ NT_ CT_ yX7_outputAt.cls cX7_outputAt (some .char) iv_Mo_outputAt pc e) = true := by decide +kernel
theorem Ct_Mo_outputAt (kk : Nat) (l : Launch) (hst : l.stackTraces = false) : CtX sdM l yX7_outputAt (.code yX7_outputAt cX7_outputAt 2 (some .char) :: lw_all) 7 0 (A_Mo_outputAt kk) := by
  have hT : TabOK sdM l yX7_outputAt.cls cX7_outputAt 0 7 (some .char) T_Mo_outputAt (call_Mo_outputAt kk) (fun _ => []) := by
    intro x hF hH hO hC hG hV hR hsd pc e he
    refine ck_sound FT_ok PT_ok NT_ok CT_ok (invs := iv_Mo_outputAt) ?_ ?_
    · exact (List.forall_mem_cons.mpr ⟨fun pc hd => ⟨cwX_S (n := 3) hF hd (by rw [hH]; exact Ct_Mo_isBetween kk l hst) hsd (by rw [hO]; exact wd_1616) wd_1617 wd_97 wd_1618 ⟨by decide +kernel, by decide +kernel, by decide +kernel⟩ (by decide) (by rw [hV]; decide) (sh_Mo_isBetween kk), hd_nil⟩, (List.forall_mem_cons.mpr ⟨fun pc hd => ⟨cwX_V (C := RX7) (n := 1) hF hd (by rw [hH]; exact Ct_Mo_fails kk l hst) hsd (by rw [hO]; exact wd_1638) wd_1640 wd_42 wd_97 wd_1641 ⟨rfl, by decide +kernel, by decide +kernel, by decide +kernel⟩ (by decide) (by rw [hV]; decide) (sh_Mo_fails kk), hd_nil⟩, (fun _ h => nomatch h)⟩)⟩)
    · rw [hO, hC, hR]; exact tk_use (fun pc h => by unfold T_Mo_outputAt; rw [Nat.ble_eq_true_of_le h]) tk_Mo_outputAt pc e he
  exact CtX_of hst (by decide) (by decide +kernel) hT (ro_Mo_outputAt kk) (by rw [Nat.zero_mul]; exact Nat.zero_le _)
def iv_Mo_type : List (Instr × Nat) := [(.invokestatic 54, 2539545), (.invokevirtual 92, 2523153)]
theorem tk_Mo_type : (List.range 62).all (fun pc => match T_Mo_type pc with | none => true | some e => ck FT_ PT_ NT_ CT_ yX7_type.cls cX7_type (some .int) iv_Mo_type pc e) = true := by decide +kernel
theorem Ct_Mo_type (kk : Nat) (l : Launch) (hst : l.stackTraces = false) : CtX sdM l yX7_type (.code yX7_type cX7_type 2 (some .int) :: lw_all) 7 0 (A_Mo_type kk) := by
  have hT : TabOK sdM l yX7_type.cls cX7_type 0 7 (some .int) T_Mo_type (call_Mo_type kk) (fun _ => []) := by
    intro x hF hH hO hC hG hV hR hsd pc e he
    refine ck_sound FT_ok PT_ok NT_ok CT_ok (invs := iv_Mo_type) ?_ ?_
    · exact (List.forall_mem_cons.mpr ⟨fun pc hd => ⟨cwX_S (n := 3) hF hd (by rw [hH]; exact Ct_Mo_isBetween kk l hst) hsd (by rw [hO]; exact wd_1616) wd_1617 wd_97 wd_1618 ⟨by decide +kernel, by decide +kernel, by decide +kernel⟩ (by decide) (by rw [hV]; decide) (sh_Mo_isBetween kk), hd_nil⟩, (List.forall_mem_cons.mpr ⟨fun pc hd => ⟨cwX_V (C := RX7) (n := 1) hF hd (by rw [hH]; exact Ct_Mo_fails kk l hst) hsd (by rw [hO]; exact wd_1638) wd_1640 wd_42 wd_97 wd_1641 ⟨rfl, by decide +kernel, by decide +kernel, by decide +kernel⟩ (by decide) (by rw [hV]; decide) (sh_Mo_fails kk), hd_nil⟩, (fun _ h => nomatch h)⟩)⟩)
    · rw [hO, hC, hR]; exact tk_use (fun pc h => by unfold T_Mo_type; rw [Nat.ble_eq_true_of_le h]) tk_Mo_type pc e he
  exact CtX_of hst (by decide) (by decide +kernel) hT (ro_Mo_type kk) (by rw [Nat.zero_mul]; exact Nat.zero_le _)
def iv_Mo_nextChar : List (Instr × Nat) := []
theorem tk_Mo_nextChar : (List.range 25).all (fun pc => match T_Mo_nextChar pc with | none => true | some e => ck FT_ PT_ NT_ CT_ yX7_nextChar.cls cX7_nextChar (some .int) iv_Mo_nextChar pc e) = true := by decide +kernel
theorem Ct_Mo_nextChar (kk : Nat) (l : Launch) (hst : l.stackTraces = false) : CtX sdM l yX7_nextChar (.code yX7_nextChar cX7_nextChar 1 (some .int) :: lw_all) 6 0 (A_Mo_nextChar kk) := by
  have hT : TabOK sdM l yX7_nextChar.cls cX7_nextChar 0 6 (some .int) T_Mo_nextChar (call_Mo_nextChar kk) (fun _ => []) := by
    intro x hF hH hO hC hG hV hR hsd pc e he
    refine ck_sound FT_ok PT_ok NT_ok CT_ok (invs := iv_Mo_nextChar) ?_ ?_
    · exact (fun _ h => nomatch h)
    · rw [hO, hC, hR]; exact tk_use (fun pc h => by unfold T_Mo_nextChar; rw [Nat.ble_eq_true_of_le h]) tk_Mo_nextChar pc e he
  exact CtX_of hst (by decide) (by decide +kernel) hT (ro_Mo_nextChar kk) (by rw [Nat.zero_mul]; exact Nat.zero_le _)
def iv_Mo_reads : List (Instr × Nat) := [(.invokevirtual 200, 4030473)]
theorem tk_Mo_reads : (List.range 22).all (fun pc => match T_Mo_reads pc with | none => true | some e => ck FT_ PT_ NT_ CT_ yX7_reads.cls cX7_reads (some .boolean) iv_Mo_reads pc e) = true := by decide +kernel
theorem Ct_Mo_reads (kk : Nat) (l : Launch) (hst : l.stackTraces = false) : CtX sdM l yX7_reads (.code yX7_reads cX7_reads 2 (some .boolean) :: lw_all) 7 0 (A_Mo_reads kk) := by
  have hT : TabOK sdM l yX7_reads.cls cX7_reads 0 7 (some .boolean) T_Mo_reads (call_Mo_reads kk) (fun _ => []) := by
    intro x hF hH hO hC hG hV hR hsd pc e he
    refine ck_sound FT_ok PT_ok NT_ok CT_ok (invs := iv_Mo_reads) ?_ ?_
    · exact (List.forall_mem_cons.mpr ⟨fun pc hd => ⟨cwX_V (C := RX7) (n := 0) hF hd (by rw [hH]; exact Ct_Mo_nextChar kk l hst) hsd (by rw [hO]; exact wd_1975) wd_1977 wd_74 wd_97 wd_1978 ⟨rfl, by decide +kernel, by decide +kernel, by decide +kernel⟩ (by decide) (by rw [hV]; decide) (sh_Mo_nextChar kk), hd_nil⟩, (fun _ h => nomatch h)⟩)
    · rw [hO, hC, hR]; exact tk_use (fun pc h => by unfold T_Mo_reads; rw [Nat.ble_eq_true_of_le h]) tk_Mo_reads pc e he
  exact CtX_of hst (by decide) (by decide +kernel) hT (ro_Mo_reads kk) (by rw [Nat.zero_mul]; exact Nat.zero_le _)
def iv_Mo_readsDigit : List (Instr × Nat) := [(.invokevirtual 200, 4030473), (.invokestatic 54, 2539545)]
theorem tk_Mo_readsDigit : (List.range 41).all (fun pc => match T_Mo_readsDigit pc with | none => true | some e => ck FT_ PT_ NT_ CT_ yX7_readsDigit.cls cX7_readsDigit (some .boolean) iv_Mo_readsDigit pc e) = true := by decide +kernel
theorem Ct_Mo_readsDigit (kk : Nat) (l : Launch) (hst : l.stackTraces = false) : CtX sdM l yX7_readsDigit (.code yX7_readsDigit cX7_readsDigit 2 (some .boolean) :: lw_all) 7 0 (A_Mo_readsDigit kk) := by
  have hT : TabOK sdM l yX7_readsDigit.cls cX7_readsDigit 0 7 (some .boolean) T_Mo_readsDigit (call_Mo_readsDigit kk) (fun _ => []) := by
    intro x hF hH hO hC hG hV hR hsd pc e he
    refine ck_sound FT_ok PT_ok NT_ok CT_ok (invs := iv_Mo_readsDigit) ?_ ?_
    · exact (List.forall_mem_cons.mpr ⟨fun pc hd => ⟨cwX_V (C := RX7) (n := 0) hF hd (by rw [hH]; exact Ct_Mo_nextChar kk l hst) hsd (by rw [hO]; exact wd_1975) wd_1977 wd_74 wd_97 wd_1978 ⟨rfl, by decide +kernel, by decide +kernel, by decide +kernel⟩ (by decide) (by rw [hV]; decide) (sh_Mo_nextChar kk), hd_nil⟩, (List.forall_mem_cons.mpr ⟨fun pc hd => ⟨cwX_S (n := 3) hF hd (by rw [hH]; exact Ct_Mo_isBetween kk l hst) hsd (by rw [hO]; exact wd_1616) wd_1617 wd_97 wd_1618 ⟨by decide +kernel, by decide +kernel, by decide +kernel⟩ (by decide) (by rw [hV]; decide) (sh_Mo_isBetween kk), hd_nil⟩, (fun _ h => nomatch h)⟩)⟩)
    · rw [hO, hC, hR]; exact tk_use (fun pc h => by unfold T_Mo_readsDigit; rw [Nat.ble_eq_true_of_le h]) tk_Mo_readsDigit pc e he
  exact CtX_of hst (by decide) (by decide +kernel) hT (ro_Mo_readsDigit kk) (by rw [Nat.zero_mul]; exact Nat.zero_le _)
def iv_Mo_readsNumber : List (Instr × Nat) := [(.invokevirtual 203, 4063249), (.invokevirtual 200, 4030473), (.invokestatic 54, 2539545)]
theorem tk_Mo_readsNumber : (List.range 61).all (fun pc => match T_Mo_readsNumber pc with | none => true | some e => ck FT_ PT_ NT_ CT_ yX7_readsNumber.cls cX7_readsNumber (some .boolean) iv_Mo_readsNumber pc e) = true := by decide +kernel
theorem Ct_Mo_readsNumber (kk : Nat) (l : Launch) (hst : l.stackTraces = false) : CtX sdM l yX7_readsNumber (.code yX7_readsNumber cX7_readsNumber 2 (some .boolean) :: lw_all) 8 0 (A_Mo_readsNumber kk) := by
  have hT : TabOK sdM l yX7_readsNumber.cls cX7_readsNumber 0 8 (some .boolean) T_Mo_readsNumber (call_Mo_readsNumber kk) (fun _ => []) := by
    intro x hF hH hO hC hG hV hR hsd pc e he
    refine ck_sound FT_ok PT_ok NT_ok CT_ok (invs := iv_Mo_readsNumber) ?_ ?_
    · exact (List.forall_mem_cons.mpr ⟨fun pc hd => ⟨cwX_V (C := RX7) (n := 1) hF hd (by rw [hH]; exact Ct_Mo_readsDigit kk l hst) hsd (by rw [hO]; exact wd_1987) wd_1989 wd_77 wd_97 wd_1990 ⟨rfl, by decide +kernel, by decide +kernel, by decide +kernel⟩ (by decide) (by rw [hV]; decide) (sh_Mo_readsDigit kk), hd_nil⟩, (List.forall_mem_cons.mpr ⟨fun pc hd => ⟨cwX_V (C := RX7) (n := 0) hF hd (by rw [hH]; exact Ct_Mo_nextChar kk l hst) hsd (by rw [hO]; exact wd_1975) wd_1977 wd_74 wd_97 wd_1978 ⟨rfl, by decide +kernel, by decide +kernel, by decide +kernel⟩ (by decide) (by rw [hV]; decide) (sh_Mo_nextChar kk), hd_nil⟩, (List.forall_mem_cons.mpr ⟨fun pc hd => ⟨cwX_S (n := 3) hF hd (by rw [hH]; exact Ct_Mo_isBetween kk l hst) hsd (by rw [hO]; exact wd_1616) wd_1617 wd_97 wd_1618 ⟨by decide +kernel, by decide +kernel, by decide +kernel⟩ (by decide) (by rw [hV]; decide) (sh_Mo_isBetween kk), hd_nil⟩, (fun _ h => nomatch h)⟩)⟩)⟩)
    · rw [hO, hC, hR]; exact tk_use (fun pc h => by unfold T_Mo_readsNumber; rw [Nat.ble_eq_true_of_le h]) tk_Mo_readsNumber pc e he
  exact CtX_of hst (by decide) (by decide +kernel) hT (ro_Mo_readsNumber kk) (by rw [Nat.zero_mul]; exact Nat.zero_le _)
def iv_Mo_readsL : List (Instr × Nat) := [(.invokevirtual 206, 4046865), (.invokevirtual 203, 4063249), (.invokevirtual 209, 4079633)]
theorem tk_Mo_readsL : (List.range 149).all (fun pc => match T_Mo_readsL pc with | none => true | some e => ck FT_ PT_ NT_ CT_ yX7_readsL.cls cX7_readsL (some .boolean) iv_Mo_readsL pc e) = true := by decide +kernel
theorem Ct_Mo_readsL (kk : Nat) (l : Launch) (hst : l.stackTraces = false) : CtX sdM l yX7_readsL (.code yX7_readsL cX7_readsL 1 (some .boolean) :: lw_all) 9 0 (A_Mo_readsL kk) := by
  have hT : TabOK sdM l yX7_readsL.cls cX7_readsL 0 9 (some .boolean) T_Mo_readsL (call_Mo_readsL kk) (fun _ => []) := by
    intro x hF hH hO hC hG hV hR hsd pc e he
    refine ck_sound FT_ok PT_ok NT_ok CT_ok (invs := iv_Mo_readsL) ?_ ?_
    · exact (List.forall_mem_cons.mpr ⟨fun pc hd => ⟨cwX_V (C := RX7) (n := 1) hF hd (by rw [hH]; exact Ct_Mo_reads kk l hst) hsd (by rw [hO]; exact wd_1979) wd_1981 wd_75 wd_97 wd_1982 ⟨rfl, by decide +kernel, by decide +kernel, by decide +kernel⟩ (by decide) (by rw [hV]; decide) (sh_Mo_reads kk), hd_nil⟩, (List.forall_mem_cons.mpr ⟨fun pc hd => ⟨cwX_V (C := RX7) (n := 1) hF hd (by rw [hH]; exact Ct_Mo_readsDigit kk l hst) hsd (by rw [hO]; exact wd_1987) wd_1989 wd_77 wd_97 wd_1990 ⟨rfl, by decide +kernel, by decide +kernel, by decide +kernel⟩ (by decide) (by rw [hV]; decide) (sh_Mo_readsDigit kk), hd_nil⟩, (List.forall_mem_cons.mpr ⟨fun pc hd => ⟨cwX_V (C := RX7) (n := 1) hF hd (by rw [hH]; exact Ct_Mo_readsNumber kk l hst) hsd (by rw [hO]; exact wd_1991) wd_1993 wd_78 wd_97 wd_1994 ⟨rfl, by decide +kernel, by decide +kernel, by decide +kernel⟩ (by decide) (by rw [hV]; decide) (sh_Mo_readsNumber kk), hd_nil⟩, (fun _ h => nomatch h)⟩)⟩)⟩)
    · rw [hO, hC, hR]; exact tk_use (fun pc h => by unfold T_Mo_readsL; rw [Nat.ble_eq_true_of_le h]) tk_Mo_readsL pc e he
  exact CtX_of hst (by decide) (by decide +kernel) hT (ro_Mo_readsL kk) (by rw [Nat.zero_mul]; exact Nat.zero_le _)
def iv_Mo_readsS : List (Instr × Nat) := [(.invokevirtual 206, 4046865), (.invokevirtual 203, 4063249), (.invokevirtual 209, 4079633)]
theorem tk_Mo_readsS : (List.range 141).all (fun pc => match T_Mo_readsS pc with | none => true | some e => ck FT_ PT_ NT_ CT_ yX7_readsS.cls cX7_readsS (some .boolean) iv_Mo_readsS pc e) = true := by decide +kernel
theorem Ct_Mo_readsS (kk : Nat) (l : Launch) (hst : l.stackTraces = false) : CtX sdM l yX7_readsS (.code yX7_readsS cX7_readsS 1 (some .boolean) :: lw_all) 9 0 (A_Mo_readsS kk) := by
  have hT : TabOK sdM l yX7_readsS.cls cX7_readsS 0 9 (some .boolean) T_Mo_readsS (call_Mo_readsS kk) (fun _ => []) := by
    intro x hF hH hO hC hG hV hR hsd pc e he
    refine ck_sound FT_ok PT_ok NT_ok CT_ok (invs := iv_Mo_readsS) ?_ ?_
    · exact (List.forall_mem_cons.mpr ⟨fun pc hd => ⟨cwX_V (C := RX7) (n := 1) hF hd (by rw [hH]; exact Ct_Mo_reads kk l hst) hsd (by rw [hO]; exact wd_1979) wd_1981 wd_75 wd_97 wd_1982 ⟨rfl, by decide +kernel, by decide +kernel, by decide +kernel⟩ (by decide) (by rw [hV]; decide) (sh_Mo_reads kk), hd_nil⟩, (List.forall_mem_cons.mpr ⟨fun pc hd => ⟨cwX_V (C := RX7) (n := 1) hF hd (by rw [hH]; exact Ct_Mo_readsDigit kk l hst) hsd (by rw [hO]; exact wd_1987) wd_1989 wd_77 wd_97 wd_1990 ⟨rfl, by decide +kernel, by decide +kernel, by decide +kernel⟩ (by decide) (by rw [hV]; decide) (sh_Mo_readsDigit kk), hd_nil⟩, (List.forall_mem_cons.mpr ⟨fun pc hd => ⟨cwX_V (C := RX7) (n := 1) hF hd (by rw [hH]; exact Ct_Mo_readsNumber kk l hst) hsd (by rw [hO]; exact wd_1991) wd_1993 wd_78 wd_97 wd_1994 ⟨rfl, by decide +kernel, by decide +kernel, by decide +kernel⟩ (by decide) (by rw [hV]; decide) (sh_Mo_readsNumber kk), hd_nil⟩, (fun _ h => nomatch h)⟩)⟩)⟩)
    · rw [hO, hC, hR]; exact tk_use (fun pc h => by unfold T_Mo_readsS; rw [Nat.ble_eq_true_of_le h]) tk_Mo_readsS pc e he
  exact CtX_of hst (by decide) (by decide +kernel) hT (ro_Mo_readsS kk) (by rw [Nat.zero_mul]; exact Nat.zero_le _)
def iv_Mo_readsDrill : List (Instr × Nat) := [(.invokevirtual 206, 4046865), (.invokevirtual 209, 4079633)]
theorem tk_Mo_readsDrill : (List.range 83).all (fun pc => match T_Mo_readsDrill pc with | none => true | some e => ck FT_ PT_ NT_ CT_ yX7_readsDrill.cls cX7_readsDrill (some .boolean) iv_Mo_readsDrill pc e) = true := by decide +kernel
theorem Ct_Mo_readsDrill (kk : Nat) (l : Launch) (hst : l.stackTraces = false) : CtX sdM l yX7_readsDrill (.code yX7_readsDrill cX7_readsDrill 2 (some .boolean) :: lw_all) 9 0 (A_Mo_readsDrill kk) := by
  have hT : TabOK sdM l yX7_readsDrill.cls cX7_readsDrill 0 9 (some .boolean) T_Mo_readsDrill (call_Mo_readsDrill kk) (fun _ => []) := by
    intro x hF hH hO hC hG hV hR hsd pc e he
    refine ck_sound FT_ok PT_ok NT_ok CT_ok (invs := iv_Mo_readsDrill) ?_ ?_
    · exact (List.forall_mem_cons.mpr ⟨fun pc hd => ⟨cwX_V (C := RX7) (n := 1) hF hd (by rw [hH]; exact Ct_Mo_reads kk l hst) hsd (by rw [hO]; exact wd_1979) wd_1981 wd_75 wd_97 wd_1982 ⟨rfl, by decide +kernel, by decide +kernel, by decide +kernel⟩ (by decide) (by rw [hV]; decide) (sh_Mo_reads kk), hd_nil⟩, (List.forall_mem_cons.mpr ⟨fun pc hd => ⟨cwX_V (C := RX7) (n := 1) hF hd (by rw [hH]; exact Ct_Mo_readsNumber kk l hst) hsd (by rw [hO]; exact wd_1991) wd_1993 wd_78 wd_97 wd_1994 ⟨rfl, by decide +kernel, by decide +kernel, by decide +kernel⟩ (by decide) (by rw [hV]; decide) (sh_Mo_readsNumber kk), hd_nil⟩, (fun _ h => nomatch h)⟩)⟩)
    · rw [hO, hC, hR]; exact tk_use (fun pc h => by unfold T_Mo_readsDrill; rw [Nat.ble_eq_true_of_le h]) tk_Mo_readsDrill pc e he
  exact CtX_of hst (by decide) (by decide +kernel) hT (ro_Mo_readsDrill kk) (by rw [Nat.zero_mul]; exact Nat.zero_le _)
def iv_Mo_readsCommand : List (Instr × Nat) := [(.invokevirtual 200, 4030473), (.invokevirtual 206, 4046865), (.invokevirtual 215, 4096009), (.invokevirtual 203, 4063249), (.invokevirtual 219, 4112393), (.invokevirtual 222, 4128777)]
theorem tk_Mo_readsCommand : (List.range 169).all (fun pc => match T_Mo_readsCommand pc with | none => true | some e => ck FT_ PT_ NT_ CT_ yX7_readsCommand.cls cX7_readsCommand (some .boolean) iv_Mo_readsCommand pc e) = true := by decide +kernel
theorem Ct_Mo_readsCommand (kk : Nat) (l : Launch) (hst : l.stackTraces = false) : CtX sdM l yX7_readsCommand (.code yX7_readsCommand cX7_readsCommand 1 (some .boolean) :: lw_all) 10 0 (A_Mo_readsCommand kk) := by
  have hT : TabOK sdM l yX7_readsCommand.cls cX7_readsCommand 0 10 (some .boolean) T_Mo_readsCommand (call_Mo_readsCommand kk) (fun _ => []) := by
    intro x hF hH hO hC hG hV hR hsd pc e he
    refine ck_sound FT_ok PT_ok NT_ok CT_ok (invs := iv_Mo_readsCommand) ?_ ?_
    · exact (List.forall_mem_cons.mpr ⟨fun pc hd => ⟨cwX_V (C := RX7) (n := 0) hF hd (by rw [hH]; exact Ct_Mo_nextChar kk l hst) hsd (by rw [hO]; exact wd_1975) wd_1977 wd_74 wd_97 wd_1978 ⟨rfl, by decide +kernel, by decide +kernel, by decide +kernel⟩ (by decide) (by rw [hV]; decide) (sh_Mo_nextChar kk), hd_nil⟩, (List.forall_mem_cons.mpr ⟨fun pc hd => ⟨cwX_V (C := RX7) (n := 1) hF hd (by rw [hH]; exact Ct_Mo_reads kk l hst) hsd (by rw [hO]; exact wd_1979) wd_1981 wd_75 wd_97 wd_1982 ⟨rfl, by decide +kernel, by decide +kernel, by decide +kernel⟩ (by decide) (by rw [hV]; decide) (sh_Mo_reads kk), hd_nil⟩, (List.forall_mem_cons.mpr ⟨fun pc hd => ⟨cwX_V (C := RX7) (n := 0) hF hd (by rw [hH]; exact Ct_Mo_readsL kk l hst) hsd (by rw [hO]; exact wd_1983) wd_1985 wd_76 wd_97 wd_1986 ⟨rfl, by decide +kernel, by decide +kernel, by decide +kernel⟩ (by decide) (by rw [hV]; decide) (sh_Mo_readsL kk), hd_nil⟩, (List.forall_mem_cons.mpr ⟨fun pc hd => ⟨cwX_V (C := RX7) (n := 1) hF hd (by rw [hH]; exact Ct_Mo_readsDigit kk l hst) hsd (by rw [hO]; exact wd_1987) wd_1989 wd_77 wd_97 wd_1990 ⟨rfl, by decide +kernel, by decide +kernel, by decide +kernel⟩ (by decide) (by rw [hV]; decide) (sh_Mo_readsDigit kk), hd_nil⟩, (List.forall_mem_cons.mpr ⟨fun pc hd => ⟨cwX_V (C := RX7) (n := 0) hF hd (by rw [hH]; exact Ct_Mo_readsS kk l hst) hsd (by rw [hO]; exact wd_1995) wd_1997 wd_79 wd_97 wd_1998 ⟨rfl, by decide +kernel, by decide +kernel, by decide +kernel⟩ (by decide) (by rw [hV]; decide) (sh_Mo_readsS kk), hd_nil⟩, (List.forall_mem_cons.mpr ⟨fun pc hd => ⟨cwX_V (C := RX7) (n := 0) hF hd (by rw [hH]; exact Ct_Mo_readsDrill kk l hst) hsd (by rw [hO]; exact wd_1999) wd_2001 wd_80 wd_97 wd_2002 ⟨rfl, by decide +kernel, by decide +kernel, by decide +kernel⟩ (by decide) (by rw [hV]; decide) (sh_Mo_readsDrill kk), hd_nil⟩, (fun _ h => nomatch h)⟩)⟩)⟩)⟩)⟩)⟩)
    · rw [hO, hC, hR]; exact tk_use (fun pc h => by unfold T_Mo_readsCommand; rw [Nat.ble_eq_true_of_le h]) tk_Mo_readsCommand pc e he
  exact CtX_of hst (by decide) (by decide +kernel) hT (ro_Mo_readsCommand kk) (by rw [Nat.zero_mul]; exact Nat.zero_le _)
def iv_Mo_readsAll : List (Instr × Nat) := [(.invokevirtual 225, 4145161), (.invokevirtual 206, 4046865)]
theorem tk_Mo_readsAll : (List.range 47).all (fun pc => match T_Mo_readsAll pc with | none => true | some e => ck FT_ PT_ NT_ CT_ yX7_readsAll.cls cX7_readsAll (some .boolean) iv_Mo_readsAll pc e) = true := by decide +kernel
theorem Ct_Mo_readsAll (kk : Nat) (l : Launch) (hst : l.stackTraces = false) : CtX sdM l yX7_readsAll (.code yX7_readsAll cX7_readsAll 2 (some .boolean) :: lw_all) 11 0 (A_Mo_readsAll kk) := by
  have hT : TabOK sdM l yX7_readsAll.cls cX7_readsAll 0 11 (some .boolean) T_Mo_readsAll (call_Mo_readsAll kk) (fun _ => []) := by
    intro x hF hH hO hC hG hV hR hsd pc e he
    refine ck_sound FT_ok PT_ok NT_ok CT_ok (invs := iv_Mo_readsAll) ?_ ?_
    · exact (List.forall_mem_cons.mpr ⟨fun pc hd => ⟨cwX_V (C := RX7) (n := 0) hF hd (by rw [hH]; exact Ct_Mo_readsCommand kk l hst) hsd (by rw [hO]; exact wd_1971) wd_1973 wd_73 wd_97 wd_1974 ⟨rfl, by decide +kernel, by decide +kernel, by decide +kernel⟩ (by decide) (by rw [hV]; decide) (sh_Mo_readsCommand kk), hd_nil⟩, (List.forall_mem_cons.mpr ⟨fun pc hd => ⟨cwX_V (C := RX7) (n := 1) hF hd (by rw [hH]; exact Ct_Mo_reads kk l hst) hsd (by rw [hO]; exact wd_1979) wd_1981 wd_75 wd_97 wd_1982 ⟨rfl, by decide +kernel, by decide +kernel, by decide +kernel⟩ (by decide) (by rw [hV]; decide) (sh_Mo_reads kk), hd_nil⟩, (fun _ h => nomatch h)⟩)⟩)
    · rw [hO, hC, hR]; exact tk_use (fun pc h => by unfold T_Mo_readsAll; rw [Nat.ble_eq_true_of_le h]) tk_Mo_readsAll pc e he
  exact CtX_of hst (by decide) (by decide +kernel) hT (ro_Mo_readsAll kk) (by rw [Nat.zero_mul]; exact Nat.zero_le _)
def iv_Mo_notNow : List (Instr × Nat) := [(.invokevirtual 89, 2834465), (.invokevirtual 108, 2883601), (.invokevirtual 114, 2932761), (.invokestatic 123, 2998281), (.invokevirtual 132, 3080209), (.invokestatic 138, 3129353)]
theorem tk_Mo_notNow : (List.range 122).all (fun pc => match T_Mo_notNow pc with | none => true | some e => ck FT_ PT_ NT_ CT_ yX7_notNow.cls cX7_notNow (some .int) iv_Mo_notNow pc e) = true := by decide +kernel
theorem Ct_Mo_notNow (kk : Nat) (l : Launch) (hst : l.stackTraces = false) : CtX sdM l yX7_notNow (.code yX7_notNow cX7_notNow 2 (some .int) :: lw_all) 11 0 (A_Mo_notNow kk) := by
  have hT : TabOK sdM l yX7_notNow.cls cX7_notNow 0 11 (some .int) T_Mo_notNow (call_Mo_notNow kk) (fun _ => []) := by
    intro x hF hH hO hC hG hV hR hsd pc e he
    refine ck_sound FT_ok PT_ok NT_ok CT_ok (invs := iv_Mo_notNow) ?_ ?_
    · exact (List.forall_mem_cons.mpr ⟨fun pc hd => ⟨cwX_V (C := RX7) (n := 3) hF hd (by rw [hH]; exact Ct_Mo_notLoad kk l hst) hsd (by rw [hO]; exact wd_1609) wd_1611 wd_37 wd_97 wd_1612 ⟨rfl, by decide +kernel, by decide +kernel, by decide +kernel⟩ (by decide) (by rw [hV]; decide) (sh_Mo_notLoad kk), hd_nil⟩, (List.forall_mem_cons.mpr ⟨fun pc hd => ⟨cwX_V (C := RX7) (n := 1) hF hd (by rw [hH]; exact Ct_Mo_notUnload kk l hst) hsd (by rw [hO]; exact wd_1670) wd_1672 wd_49 wd_97 wd_1673 ⟨rfl, by decide +kernel, by decide +kernel, by decide +kernel⟩ (by decide) (by rw [hV]; decide) (sh_Mo_notUnload kk), hd_nil⟩, (List.forall_mem_cons.mpr ⟨fun pc hd => ⟨cwX_V (C := RX7) (n := 2) hF hd (by rw [hH]; exact Ct_Mo_notShift kk l hst) hsd (by rw [hO]; exact wd_1690) wd_1692 wd_53 wd_97 wd_1693 ⟨rfl, by decide +kernel, by decide +kernel, by decide +kernel⟩ (by decide) (by rw [hV]; decide) (sh_Mo_notShift kk), hd_nil⟩, (List.forall_mem_cons.mpr ⟨fun pc hd => ⟨cwX_S (n := 1) hF hd (by rw [hH]; exact Ct_Mo_notSail kk l hst) hsd (by rw [hO]; exact wd_1702) wd_1703 wd_97 wd_1704 ⟨by decide +kernel, by decide +kernel, by decide +kernel⟩ (by decide) (by rw [hV]; decide) (sh_Mo_notSail kk), hd_nil⟩, (List.forall_mem_cons.mpr ⟨fun pc hd => ⟨cwX_V (C := RX7) (n := 1) hF hd (by rw [hH]; exact Ct_Mo_notLimit kk l hst) hsd (by rw [hO]; exact wd_1725) wd_1727 wd_58 wd_97 wd_1728 ⟨rfl, by decide +kernel, by decide +kernel, by decide +kernel⟩ (by decide) (by rw [hV]; decide) (sh_Mo_notLimit kk), hd_nil⟩, (List.forall_mem_cons.mpr ⟨fun pc hd => ⟨cwX_S (n := 1) hF hd (by rw [hH]; exact Ct_Mo_notDrill kk l hst) hsd (by rw [hO]; exact wd_1737) wd_1738 wd_97 wd_1739 ⟨by decide +kernel, by decide +kernel, by decide +kernel⟩ (by decide) (by rw [hV]; decide) (sh_Mo_notDrill kk), hd_nil⟩, (fun _ h => nomatch h)⟩)⟩)⟩)⟩)⟩)⟩)
    · rw [hO, hC, hR]; exact tk_use (fun pc h => by unfold T_Mo_notNow; rw [Nat.ble_eq_true_of_le h]) tk_Mo_notNow pc e he
  exact CtX_of hst (by decide) (by decide +kernel) hT (ro_Mo_notNow kk) (by rw [Nat.zero_mul]; exact Nat.zero_le _)
def iv_Mo_doesNow : List (Instr × Nat) := [(.invokevirtual 98, 2850849), (.invokevirtual 111, 2899985), (.invokevirtual 117, 2949145), (.invokevirtual 126, 3014673), (.invokevirtual 135, 3096593), (.invokevirtual 141, 3145745), (.invokevirtual 129, 3047433)]
theorem tk_Mo_doesNow : (List.range 127).all (fun pc => match T_Mo_doesNow pc with | none => true | some e => ck FT_ PT_ NT_ CT_ yX7_doesNow.cls cX7_doesNow (some .int) iv_Mo_doesNow pc e) = true := by decide +kernel
theorem Ct_Mo_doesNow (kk : Nat) (l : Launch) (hst : l.stackTraces = false) : CtX sdM l yX7_doesNow (.code yX7_doesNow cX7_doesNow 2 (some .int) :: lw_all) 11 0 (A_Mo_doesNow kk) := by
  have hT : TabOK sdM l yX7_doesNow.cls cX7_doesNow 0 11 (some .int) T_Mo_doesNow (call_Mo_doesNow kk) (fun _ => []) := by
    intro x hF hH hO hC hG hV hR hsd pc e he
    refine ck_sound FT_ok PT_ok NT_ok CT_ok (invs := iv_Mo_doesNow) ?_ ?_
    · exact (List.forall_mem_cons.mpr ⟨fun pc hd => ⟨cwX_V (C := RX7) (n := 3) hF hd (by rw [hH]; exact Ct_Mo_loads kk l hst) hsd (by rw [hO]; exact wd_1654) wd_1656 wd_46 wd_97 wd_1657 ⟨rfl, by decide +kernel, by decide +kernel, by decide +kernel⟩ (by decide) (by rw [hV]; decide) (sh_Mo_loads kk), hd_nil⟩, (List.forall_mem_cons.mpr ⟨fun pc hd => ⟨cwX_V (C := RX7) (n := 1) hF hd (by rw [hH]; exact Ct_Mo_unloads kk l hst) hsd (by rw [hO]; exact wd_1678) wd_1680 wd_51 wd_97 wd_1681 ⟨rfl, by decide +kernel, by decide +kernel, by decide +kernel⟩ (by decide) (by rw [hV]; decide) (sh_Mo_unloads kk), hd_nil⟩, (List.forall_mem_cons.mpr ⟨fun pc hd => ⟨cwX_V (C := RX7) (n := 2) hF hd (by rw [hH]; exact Ct_Mo_shifts kk l hst) hsd (by rw [hO]; exact wd_1694) wd_1696 wd_54 wd_97 wd_1697 ⟨rfl, by decide +kernel, by decide +kernel, by decide +kernel⟩ (by decide) (by rw [hV]; decide) (sh_Mo_shifts kk), hd_nil⟩, (List.forall_mem_cons.mpr ⟨fun pc hd => ⟨cwX_V (C := RX7) (n := 1) hF hd (by rw [hH]; exact Ct_Mo_sails kk l hst) hsd (by rw [hO]; exact wd_1705) wd_1707 wd_55 wd_97 wd_1708 ⟨rfl, by decide +kernel, by decide +kernel, by decide +kernel⟩ (by decide) (by rw [hV]; decide) (sh_Mo_sails kk), hd_nil⟩, (List.forall_mem_cons.mpr ⟨fun pc hd => ⟨cwX_V (C := RX7) (n := 1) hF hd (by rw [hH]; exact Ct_Mo_setsLimit kk l hst) hsd (by rw [hO]; exact wd_1729) wd_1731 wd_59 wd_97 wd_1732 ⟨rfl, by decide +kernel, by decide +kernel, by decide +kernel⟩ (by decide) (by rw [hV]; decide) (sh_Mo_setsLimit kk), hd_nil⟩, (List.forall_mem_cons.mpr ⟨fun pc hd => ⟨cwX_V (C := RX7) (n := 1) hF hd (by rw [hH]; exact Ct_Mo_drills kk l hst) hsd (by rw [hO]; exact wd_1740) wd_1742 wd_60 wd_97 wd_1743 ⟨rfl, by decide +kernel, by decide +kernel, by decide +kernel⟩ (by decide) (by rw [hV]; decide) (sh_Mo_drills kk), hd_nil⟩, (List.forall_mem_cons.mpr ⟨fun pc hd => ⟨cwX_V (C := RX7) (n := 0) hF hd (by rw [hH]; exact Ct_Mo_turns kk l hst) hsd (by rw [hO]; exact wd_1717) wd_1719 wd_57 wd_97 wd_1720 ⟨rfl, by decide +kernel, by decide +kernel, by decide +kernel⟩ (by decide) (by rw [hV]; decide) (sh_Mo_turns kk), hd_nil⟩, (fun _ h => nomatch h)⟩)⟩)⟩)⟩)⟩)⟩)⟩)
    · rw [hO, hC, hR]; exact tk_use (fun pc h => by unfold T_Mo_doesNow; rw [Nat.ble_eq_true_of_le h]) tk_Mo_doesNow pc e he
  exact CtX_of hst (by decide) (by decide +kernel) hT (ro_Mo_doesNow kk) (by rw [Nat.zero_mul]; exact Nat.zero_le _)
def iv_Mo_doesAll : List (Instr × Nat) := [(.invokevirtual 225, 4145161), (.invokevirtual 231, 4177929), (.invokevirtual 234, 4194313), (.invokevirtual 206, 4046865)]
theorem tk_Mo_doesAll : (List.range 57).all (fun pc => match T_Mo_doesAll pc with | none => true | some e => ck FT_ PT_ NT_ CT_ yX7_doesAll.cls cX7_doesAll (some .boolean) iv_Mo_doesAll pc e) = true := by decide +kernel
theorem Ct_Mo_doesAll (kk : Nat) (l : Launch) (hst : l.stackTraces = false) : CtX sdM l yX7_doesAll (.code yX7_doesAll cX7_doesAll 2 (some .boolean) :: lw_all) 12 0 (A_Mo_doesAll kk) := by
  have hT : TabOK sdM l yX7_doesAll.cls cX7_doesAll 0 12 (some .boolean) T_Mo_doesAll (call_Mo_doesAll kk) (fun _ => []) := by
    intro x hF hH hO hC hG hV hR hsd pc e he
    refine ck_sound FT_ok PT_ok NT_ok CT_ok (invs := iv_Mo_doesAll) ?_ ?_
    · exact (List.forall_mem_cons.mpr ⟨fun pc hd => ⟨cwX_V (C := RX7) (n := 0) hF hd (by rw [hH]; exact Ct_Mo_readsCommand kk l hst) hsd (by rw [hO]; exact wd_1971) wd_1973 wd_73 wd_97 wd_1974 ⟨rfl, by decide +kernel, by decide +kernel, by decide +kernel⟩ (by decide) (by rw [hV]; decide) (sh_Mo_readsCommand kk), hd_nil⟩, (List.forall_mem_cons.mpr ⟨fun pc hd => ⟨cwX_V (C := RX7) (n := 0) hF hd (by rw [hH]; exact Ct_Mo_notNow kk l hst) hsd (by rw [hO]; exact wd_2007) wd_2009 wd_82 wd_97 wd_2010 ⟨rfl, by decide +kernel, by decide +kernel, by decide +kernel⟩ (by decide) (by rw [hV]; decide) (sh_Mo_notNow kk), hd_nil⟩, (List.forall_mem_cons.mpr ⟨fun pc hd => ⟨cwX_V (C := RX7) (n := 0) hF hd (by rw [hH]; exact Ct_Mo_doesNow kk l hst) hsd (by rw [hO]; exact wd_2011) wd_2013 wd_83 wd_97 wd_2014 ⟨rfl, by decide +kernel, by decide +kernel, by decide +kernel⟩ (by decide) (by rw [hV]; decide) (sh_Mo_doesNow kk), hd_nil⟩, (List.forall_mem_cons.mpr ⟨fun pc hd => ⟨cwX_V (C := RX7) (n := 1) hF hd (by rw [hH]; exact Ct_Mo_reads kk l hst) hsd (by rw [hO]; exact wd_1979) wd_1981 wd_75 wd_97 wd_1982 ⟨rfl, by decide +kernel, by decide +kernel, by decide +kernel⟩ (by decide) (by rw [hV]; decide) (sh_Mo_reads kk), hd_nil⟩, (fun _ h => nomatch h)⟩)⟩)⟩)⟩)
    · rw [hO, hC, hR]; exact tk_use (fun pc h => by unfold T_Mo_doesAll; rw [Nat.ble_eq_true_of_le h]) tk_Mo_doesAll pc e he
  exact CtX_of hst (by decide) (by decide +kernel) hT (ro_Mo_doesAll kk) (by rw [Nat.zero_mul]; exact Nat.zero_le _)
def iv_Mo_runScript : List (Instr × Nat) := [(.invokevirtual 237, 4161545), (.invokevirtual 92, 2523153), (.invokevirtual 48, 2572296), (.invokevirtual 240, 4210697), (.invokevirtual 51, 2605064), (.invokevirtual 243, 2588680)]
theorem tk_Mo_runScript : (List.range 76).all (fun pc => match T_Mo_runScript pc with | none => true | some e => ck FT_ PT_ NT_ CT_ yX7_runScript.cls cX7_runScript (some .int) iv_Mo_runScript pc e) = true := by decide +kernel
theorem Ct_Mo_runScript (kk : Nat) (l : Launch) (hst : l.stackTraces = false) : CtX sdM l yX7_runScript (.code yX7_runScript cX7_runScript 2 (some .int) :: lw_all) 13 0 (A_Mo_runScript kk) := by
  have hT : TabOK sdM l yX7_runScript.cls cX7_runScript 0 13 (some .int) T_Mo_runScript (call_Mo_runScript kk) (fun _ => []) := by
    intro x hF hH hO hC hG hV hR hsd pc e he
    refine ck_sound FT_ok PT_ok NT_ok CT_ok (invs := iv_Mo_runScript) ?_ ?_
    · exact (List.forall_mem_cons.mpr ⟨fun pc hd => ⟨cwX_V (C := RX7) (n := 0) hF hd (by rw [hH]; exact Ct_Mo_readsAll kk l hst) hsd (by rw [hO]; exact wd_1967) wd_1969 wd_72 wd_97 wd_1970 ⟨rfl, by decide +kernel, by decide +kernel, by decide +kernel⟩ (by decide) (by rw [hV]; decide) (sh_Mo_readsAll kk), hd_nil⟩, (List.forall_mem_cons.mpr ⟨fun pc hd => ⟨cwX_V (C := RX7) (n := 1) hF hd (by rw [hH]; exact Ct_Mo_fails kk l hst) hsd (by rw [hO]; exact wd_1638) wd_1640 wd_42 wd_97 wd_1641 ⟨rfl, by decide +kernel, by decide +kernel, by decide +kernel⟩ (by decide) (by rw [hV]; decide) (sh_Mo_fails kk), hd_nil⟩, (List.forall_mem_cons.mpr ⟨fun pc hd => ⟨cwX_V (C := RX7) (n := 0) hF hd (by rw [hH]; exact Ct_Mo_copies kk l hst) hsd (by rw [hO]; exact wd_1646) wd_1648 wd_44 wd_97 wd_1649 ⟨rfl, by decide +kernel, by decide +kernel, by decide +kernel⟩ (by decide) (by rw [hV]; decide) (sh_Mo_copies kk), hd_nil⟩, (List.forall_mem_cons.mpr ⟨fun pc hd => ⟨cwX_V (C := RX7) (n := 0) hF hd (by rw [hH]; exact Ct_Mo_doesAll kk l hst) hsd (by rw [hO]; exact wd_2003) wd_2005 wd_81 wd_97 wd_2006 ⟨rfl, by decide +kernel, by decide +kernel, by decide +kernel⟩ (by decide) (by rw [hV]; decide) (sh_Mo_doesAll kk), hd_nil⟩, (List.forall_mem_cons.mpr ⟨fun pc hd => ⟨cwX_V (C := RX7) (n := 0) hF hd (by rw [hH]; exact Ct_Mo_keeps kk l hst) hsd (by rw [hO]; exact wd_1650) wd_1652 wd_45 wd_97 wd_1653 ⟨rfl, by decide +kernel, by decide +kernel, by decide +kernel⟩ (by decide) (by rw [hV]; decide) (sh_Mo_keeps kk), hd_nil⟩, (List.forall_mem_cons.mpr ⟨fun pc hd => ⟨cwX_V (C := RX7) (n := 0) hF hd (by rw [hH]; exact Ct_Mo_goesBack kk l hst) hsd (by rw [hO]; exact wd_2015) wd_2017 wd_84 wd_97 wd_2018 ⟨rfl, by decide +kernel, by decide +kernel, by decide +kernel⟩ (by decide) (by rw [hV]; decide) (sh_Mo_goesBack kk), hd_nil⟩, (fun _ h => nomatch h)⟩)⟩)⟩)⟩)⟩)⟩)
    · rw [hO, hC, hR]; exact tk_use (fun pc h => by unfold T_Mo_runScript; rw [Nat.ble_eq_true_of_le h]) tk_Mo_runScript pc e he
  exact CtX_of hst (by decide) (by decide +kernel) hT (ro_Mo_runScript kk) (by rw [Nat.zero_mul]; exact Nat.zero_le _)
def iv_Mo_errorPosition : List (Instr × Nat) := [(.invokevirtual 92, 2523153)]
theorem tk_Mo_errorPosition : (List.range 25).all (fun pc => match T_Mo_errorPosition pc with | none => true | some e => ck FT_ PT_ NT_ CT_ yX7_errorPosition.cls cX7_errorPosition (some .int) iv_Mo_errorPosition pc e) = true := by decide +kernel
theorem Ct_Mo_errorPosition (kk : Nat) (l : Launch) (hst : l.stackTraces = false) : CtX sdM l yX7_errorPosition (.code yX7_errorPosition cX7_errorPosition 1 (some .int) :: lw_all) 7 0 (A_Mo_errorPosition kk) := by
  have hT : TabOK sdM l yX7_errorPosition.cls cX7_errorPosition 0 7 (some .int) T_Mo_errorPosition (call_Mo_errorPosition kk) (fun _ => []) := by
    intro x hF hH hO hC hG hV hR hsd pc e he
    refine ck_sound FT_ok PT_ok NT_ok CT_ok (invs := iv_Mo_errorPosition) ?_ ?_
    · exact (List.forall_mem_cons.mpr ⟨fun pc hd => ⟨cwX_V (C := RX7) (n := 1) hF hd (by rw [hH]; exact Ct_Mo_fails kk l hst) hsd (by rw [hO]; exact wd_1638) wd_1640 wd_42 wd_97 wd_1641 ⟨rfl, by decide +kernel, by decide +kernel, by decide +kernel⟩ (by decide) (by rw [hV]; decide) (sh_Mo_fails kk), hd_nil⟩, (fun _ h => nomatch h)⟩)
    · rw [hO, hC, hR]; exact tk_use (fun pc h => by unfold T_Mo_errorPosition; rw [Nat.ble_eq_true_of_le h]) tk_Mo_errorPosition pc e he
  exact CtX_of hst (by decide) (by decide +kernel) hT (ro_Mo_errorPosition kk) (by rw [Nat.zero_mul]; exact Nat.zero_le _)
def iv_Mo_failedCommand : List (Instr × Nat) := [(.invokevirtual 92, 2523153)]
theorem tk_Mo_failedCommand : (List.range 25).all (fun pc => match T_Mo_failedCommand pc with | none => true | some e => ck FT_ PT_ NT_ CT_ yX7_failedCommand.cls cX7_failedCommand (some .int) iv_Mo_failedCommand pc e) = true := by decide +kernel
theorem Ct_Mo_failedCommand (kk : Nat) (l : Launch) (hst : l.stackTraces = false) : CtX sdM l yX7_failedCommand (.code yX7_failedCommand cX7_failedCommand 1 (some .int) :: lw_all) 7 0 (A_Mo_failedCommand kk) := by
  have hT : TabOK sdM l yX7_failedCommand.cls cX7_failedCommand 0 7 (some .int) T_Mo_failedCommand (call_Mo_failedCommand kk) (fun _ => []) := by
    intro x hF hH hO hC hG hV hR hsd pc e he
    refine ck_sound FT_ok PT_ok NT_ok CT_ok (invs := iv_Mo_failedCommand) ?_ ?_
    · exact (List.forall_mem_cons.mpr ⟨fun pc hd => ⟨cwX_V (C := RX7) (n := 1) hF hd (by rw [hH]; exact Ct_Mo_fails kk l hst) hsd (by rw [hO]; exact wd_1638) wd_1640 wd_42 wd_97 wd_1641 ⟨rfl, by decide +kernel, by decide +kernel, by decide +kernel⟩ (by decide) (by rw [hV]; decide) (sh_Mo_fails kk), hd_nil⟩, (fun _ h => nomatch h)⟩)
    · rw [hO, hC, hR]; exact tk_use (fun pc h => by unfold T_Mo_failedCommand; rw [Nat.ble_eq_true_of_le h]) tk_Mo_failedCommand pc e he
  exact CtX_of hst (by decide) (by decide +kernel) hT (ro_Mo_failedCommand kk) (by rw [Nat.zero_mul]; exact Nat.zero_le _)
def iv_Mo_undo : List (Instr × Nat) := [(.invokevirtual 92, 2523153)]
theorem tk_Mo_undo : (List.range 79).all (fun pc => match T_Mo_undo pc with | none => true | some e => ck FT_ PT_ NT_ CT_ yX7_undo.cls cX7_undo (some .int) iv_Mo_undo pc e) = true := by decide +kernel
theorem Ct_Mo_undo (kk : Nat) (l : Launch) (hst : l.stackTraces = false) : CtX sdM l yX7_undo (.code yX7_undo cX7_undo 3 (some .int) :: lw_all) 7 0 (A_Mo_undo kk) := by
  have hT : TabOK sdM l yX7_undo.cls cX7_undo 0 7 (some .int) T_Mo_undo (call_Mo_undo kk) (fun _ => []) := by
    intro x hF hH hO hC hG hV hR hsd pc e he
    refine ck_sound FT_ok PT_ok NT_ok CT_ok (invs := iv_Mo_undo) ?_ ?_
    · exact (List.forall_mem_cons.mpr ⟨fun pc hd => ⟨cwX_V (C := RX7) (n := 1) hF hd (by rw [hH]; exact Ct_Mo_fails kk l hst) hsd (by rw [hO]; exact wd_1638) wd_1640 wd_42 wd_97 wd_1641 ⟨rfl, by decide +kernel, by decide +kernel, by decide +kernel⟩ (by decide) (by rw [hV]; decide) (sh_Mo_fails kk), hd_nil⟩, (fun _ h => nomatch h)⟩)
    · rw [hO, hC, hR]; exact tk_use (fun pc h => by unfold T_Mo_undo; rw [Nat.ble_eq_true_of_le h]) tk_Mo_undo pc e he
  exact CtX_of hst (by decide) (by decide +kernel) hT (ro_Mo_undo kk) (by rw [Nat.zero_mul]; exact Nat.zero_le _)
def iv_Mo_save : List (Instr × Nat) := [(.invokevirtual 144, 2752521)]
theorem tk_Mo_save : (List.range 42).all (fun pc => match T_Mo_save pc with | none => true | some e => ck FT_ PT_ NT_ CT_ yX7_save.cls cX7_save (some .int) iv_Mo_save pc e) = true := by decide +kernel
theorem Ct_Mo_save (kk : Nat) (l : Launch) (hst : l.stackTraces = false) : CtX sdM l yX7_save (.code yX7_save cX7_save 2 (some .int) :: lw_all) 7 0 (A_Mo_save kk) := by
  have hT : TabOK sdM l yX7_save.cls cX7_save 0 7 (some .int) T_Mo_save (call_Mo_save kk) (fun _ => []) := by
    intro x hF hH hO hC hG hV hR hsd pc e he
    refine ck_sound FT_ok PT_ok NT_ok CT_ok (invs := iv_Mo_save) ?_ ?_
    · exact (List.forall_mem_cons.mpr ⟨fun pc hd => ⟨cwX_V (C := RX7) (n := 0) hF hd (by rw [hH]; exact Ct_Mo_countAll kk l hst) hsd (by rw [hO]; exact wd_1748) wd_1750 wd_61 wd_97 wd_1751 ⟨rfl, by decide +kernel, by decide +kernel, by decide +kernel⟩ (by decide) (by rw [hV]; decide) (sh_Mo_countAll kk), hd_nil⟩, (fun _ h => nomatch h)⟩)
    · rw [hO, hC, hR]; exact tk_use (fun pc h => by unfold T_Mo_save; rw [Nat.ble_eq_true_of_le h]) tk_Mo_save pc e he
  exact CtX_of hst (by decide) (by decide +kernel) hT (ro_Mo_save kk) (by rw [Nat.zero_mul]; exact Nat.zero_le _)
def iv_Mo_restore : List (Instr × Nat) := [(.invokevirtual 92, 2523153), (.invokevirtual 144, 2752521)]
theorem tk_Mo_restore : (List.range 60).all (fun pc => match T_Mo_restore pc with | none => true | some e => ck FT_ PT_ NT_ CT_ yX7_restore.cls cX7_restore (some .int) iv_Mo_restore pc e) = true := by decide +kernel
theorem Ct_Mo_restore (kk : Nat) (l : Launch) (hst : l.stackTraces = false) : CtX sdM l yX7_restore (.code yX7_restore cX7_restore 2 (some .int) :: lw_all) 7 0 (A_Mo_restore kk) := by
  have hT : TabOK sdM l yX7_restore.cls cX7_restore 0 7 (some .int) T_Mo_restore (call_Mo_restore kk) (fun _ => []) := by
    intro x hF hH hO hC hG hV hR hsd pc e he
    refine ck_sound FT_ok PT_ok NT_ok CT_ok (invs := iv_Mo_restore) ?_ ?_
    · exact (List.forall_mem_cons.mpr ⟨fun pc hd => ⟨cwX_V (C := RX7) (n := 1) hF hd (by rw [hH]; exact Ct_Mo_fails kk l hst) hsd (by rw [hO]; exact wd_1638) wd_1640 wd_42 wd_97 wd_1641 ⟨rfl, by decide +kernel, by decide +kernel, by decide +kernel⟩ (by decide) (by rw [hV]; decide) (sh_Mo_fails kk), hd_nil⟩, (List.forall_mem_cons.mpr ⟨fun pc hd => ⟨cwX_V (C := RX7) (n := 0) hF hd (by rw [hH]; exact Ct_Mo_countAll kk l hst) hsd (by rw [hO]; exact wd_1748) wd_1750 wd_61 wd_97 wd_1751 ⟨rfl, by decide +kernel, by decide +kernel, by decide +kernel⟩ (by decide) (by rw [hV]; decide) (sh_Mo_countAll kk), hd_nil⟩, (fun _ h => nomatch h)⟩)⟩)
    · rw [hO, hC, hR]; exact tk_use (fun pc h => by unfold T_Mo_restore; rw [Nat.ble_eq_true_of_le h]) tk_Mo_restore pc e he
  exact CtX_of hst (by decide) (by decide +kernel) hT (ro_Mo_restore kk) (by rw [Nat.zero_mul]; exact Nat.zero_le _)
