/-! A CHECK that the kernel decides: a table is its method's code -/
theorem all_at {w : Cond} (i : Nat) (h : lw_tbl[i]? = some w) (g : goodWord w = true) : w ∈ lw_all := List.mem_filter.mpr ⟨List.mem_append_left _ (List.mem_of_getElem? h), g⟩
theorem all_x {w : Cond} (i : Nat) (h : lw_x[i]? = some w) (g : goodWord w = true) : w ∈ lw_all := List.mem_filter.mpr ⟨List.mem_append_right _ (List.mem_of_getElem? h), g⟩
theorem nw_at {w : Cond} (i : Nat) (h : lw_tbl[i]? = some w) (g : nw_is w = true) : w ∈ nw_all := List.mem_filter.mpr ⟨List.mem_of_getElem? h, g⟩
def ck_d (cc : ByteArray) (pc : Nat) (i : Instr) (n : Nat) : Bool := match decode cc pc with
  | .ok (j, m) => decide (j = i) && Nat.beq m n
  | _ => false
theorem ck_dec {cc : ByteArray} {pc n : Nat} {i : Instr} (h : ck_d cc pc i n = true) : decode cc pc = .ok (i, n) := by
  unfold ck_d at h
  split at h
  · rename_i j m hd
    rw [Bool.and_eq_true] at h
    rw [hd, of_decide_eq_true h.1, Nat.eq_of_beq_eq_true h.2]
  · cases h
def ck_s (cc : ByteArray) (pc : Nat) (i : Instr) : Bool := match decode cc pc with
  | .ok (j, _) => decide (j = i)
  | _ => false
theorem ck_sec {cc : ByteArray} {pc : Nat} {i : Instr} (h : ck_s cc pc i = true) : ∃ n, decode cc pc = .ok (i, n) := by
  unfold ck_s at h
  split at h
  · rename_i j m hd
    exact ⟨m, by rw [hd, of_decide_eq_true h]⟩
  · cases h
/-- a switch's rows, one by one -/
def ck_tab (pc : Nat) : Int → List Int → List (Int32 × Nat) → Bool
  | _, [], [] => true
  | k, o :: os, q :: qs => decide (q.1.toInt = k) && (decide ((pc : Int) + o = (q.2 : Int)) && ck_tab pc (k + 1) os qs)
  | _, _, _ => false
theorem ck_tab_ok (pc d : Nat) : ∀ (os : List Int) (qs : List (Int32 × Nat)) (k : Int), ck_tab pc k os qs = true → ∀ v : Int32, (v.toInt < k ∨ k + os.length ≤ v.toInt → sw_to qs v d = d) ∧
    (k ≤ v.toInt → v.toInt < k + os.length → ∃ o, os[(v.toInt - k).toNat]? = some o ∧ (pc : Int) + o = (sw_to qs v d : Int))
  | [], [], k, _, v => ⟨fun _ => rfl, fun h1 h2 => by simp at h2; omega⟩
  | [], _ :: _, k, h, v => by simp [ck_tab] at h
  | _ :: _, [], k, h, v => by simp [ck_tab] at h
  | o :: os, q :: qs, k, h, v => by
    rw [ck_tab, Bool.and_eq_true, Bool.and_eq_true] at h
    have h1 : q.1.toInt = k := of_decide_eq_true h.1
    have h2 : (pc : Int) + o = (q.2 : Int) := of_decide_eq_true h.2.1
    obtain ⟨g1, g2⟩ := ck_tab_ok pc d os qs (k + 1) h.2.2 v
    rw [sw_to]
    by_cases e : v = q.1
    · subst e
      rw [if_pos rfl]
      refine ⟨fun z => ?_, fun _ _ => ⟨o, ?_, h2⟩⟩
      · rw [List.length_cons] at z
        omega
      · rw [h1, show (k - k).toNat = 0 by omega]
        rfl
    · rw [if_neg e]
      have e2 : v.toInt ≠ k := fun z => e (Int32.toInt_inj.mp (z.trans h1.symm))
      refine ⟨fun z => g1 ?_, fun z1 z2 => ?_⟩
      · rw [List.length_cons] at z
        omega
      · rw [List.length_cons] at z2
        obtain ⟨o', w1, w2⟩ := g2 (by omega) (by omega)
        refine ⟨o', ?_, w2⟩
        rw [show (v.toInt - k).toNat = (v.toInt - (k + 1)).toNat + 1 by omega]
        exact w1
def ck_look (pc : Nat) : List (Int × Int) → List (Int32 × Nat) → Bool
  | [], [] => true
  | p :: ps, q :: qs => decide (q.1.toInt = p.1) && (decide ((pc : Int) + p.2 = (q.2 : Int)) && ck_look pc ps qs)
  | _, _ => false
theorem ck_look_ok (pc d : Nat) (dflt : Int) (hd : (pc : Int) + dflt = (d : Int)) : ∀ (ps : List (Int × Int)) (qs : List (Int32 × Nat)), ck_look pc ps qs = true → ∀ v : Int32, (pc : Int) + Op.lookupswitch.offset ps dflt v.toInt = (sw_to qs v d : Int)
  | [], [], _, v => hd
  | [], _ :: _, h, v => by simp [ck_look] at h
  | _ :: _, [], h, v => by simp [ck_look] at h
  | (a, o) :: ps, q :: qs, h, v => by
    rw [ck_look, Bool.and_eq_true, Bool.and_eq_true] at h
    have h1 : q.1.toInt = a := of_decide_eq_true h.1
    have h2 : (pc : Int) + o = (q.2 : Int) := of_decide_eq_true h.2.1
    have ih := ck_look_ok pc d dflt hd ps qs h.2.2 v
    rw [Op.lookupswitch.offset_cons, sw_to]
    by_cases e : v = q.1
    · subst e
      rw [if_pos rfl, if_pos h1.symm]
      exact h2
    · rw [if_neg e, if_neg (fun z => e (Int32.toInt_inj.mp (z.symm.trans h1.symm)))]
      exact ih
/-- links that are proved elsewhere: (class, place, what is named) -/
abbrev Lk : Type := List (String × Nat × Nat)
def lkHas (t : Lk) (own : String) (idx y : Nat) : Bool := t.any (fun q => decide (q.1 = own) && (Nat.beq q.2.1 idx && Nat.beq q.2.2 y))
theorem lkHas_in {t : Lk} {own : String} {idx y : Nat} (h : lkHas t own idx y = true) : (own, idx, y) ∈ t := by
  unfold lkHas at h
  obtain ⟨q, h1, h2⟩ := List.any_eq_true.mp h
  rw [Bool.and_eq_true, Bool.and_eq_true] at h2
  have e : q = (own, idx, y) := Prod.ext (of_decide_eq_true h2.1) (Prod.ext (Nat.eq_of_beq_eq_true h2.2.1) (Nat.eq_of_beq_eq_true h2.2.2))
  exact e ▸ h1
def ck (FT PT : Lk) (NT : List (String × Nat × Nat × Nat)) (CT : List (String × Nat)) (own : String) (cc : ByteArray) (ret : Option FieldType) (invs : List (Instr × Nat)) (pc : Nat) (e : En) : Bool := match e with
  | (i, _, y, _, _, sw) => match i with
    | .tableswitch d lo hi offs => ck_s cc pc (.tableswitch d lo hi offs) && (decide ((pc : Int) + d = (y : Int)) && (decide (hi = lo + offs.size - 1) && ck_tab pc lo offs.toList sw))
    | .lookupswitch d ps => ck_s cc pc (.lookupswitch d ps) && (decide ((pc : Int) + d = (y : Int)) && ((ps.toList.zip (ps.toList.drop 1)).all (fun (a, next) => decide (a.1 < next.1)) && ck_look pc ps.toList sw))
    | .ifCond cn off => ck_d cc pc (.ifCond cn off) 3 && decide ((pc : Int) + off = (y : Int))
    | .if_icmp cn off => ck_d cc pc (.if_icmp cn off) 3 && decide ((pc : Int) + off = (y : Int))
    | .goto off => ck_d cc pc (.goto off) 3 && decide ((pc : Int) + off = (y : Int))
    | .ifnull off => ck_d cc pc (.ifnull off) 3 && decide ((pc : Int) + off = (y : Int))
    | .getfield idx => ck_d cc pc (.getfield idx) 3 && lkHas FT own idx y
    | .putfield idx => ck_d cc pc (.putfield idx) 3 && lkHas PT own idx y
    | .ldc idx => ck_d cc pc (.ldc idx) 2 && (match y with | 0 => CT.any (fun q => decide (q.1 = own) && Nat.beq q.2 idx) | k + 1 => Nat.ble (k + 1) 7 && (decide (own = "PillowBarge$Script") && Nat.beq idx (jsI.getD k 0)))
    | .invokevirtual idx => ck_d cc pc (.invokevirtual idx) 3 && invs.any (fun q => decide (q.1 = .invokevirtual idx) && Nat.beq q.2 y)
    | .invokestatic idx => ck_d cc pc (.invokestatic idx) 3 && invs.any (fun q => decide (q.1 = .invokestatic idx) && Nat.beq q.2 y)
    | .new idx => NT.any (fun q => decide (q.1 = own) && (Nat.beq q.2.1 idx && (Nat.beq q.2.2.1 y && (ck_d cc pc (.new idx) 3 && (ck_d cc (pc + 3) .dup 1 && (ck_d cc (pc + 4) (.invokespecial q.2.2.2) 3 && ck_d cc (pc + 7) .athrow 1))))))
    | .ireturn => ck_d cc pc .ireturn 1 && decide (ret = some (retTy y))
    | .areturn => ck_d cc pc .areturn 1 && (match ret with | some (.object _) => true | _ => false)
    | .freturn => ck_d cc pc .freturn 1 && decide (ret = some .float)
    | .dreturn => ck_d cc pc .dreturn 1 && decide (ret = some .double)
    | .return_ => ck_d cc pc .return_ 1 && decide (ret = none)
    | i => ck_d cc pc i (ai_len i)
set_option maxHeartbeats 2000000 in
theorem ck_sound {FT PT : Lk} {NT : List (String × Nat × Nat × Nat)} {CT : List (String × Nat)} (hFT : ∀ q ∈ FT, FLk q.1 q.2.1 q.2.2) (hPT : ∀ q ∈ PT, PLk q.1 q.2.1 q.2.2)
    (hNT : ∀ q ∈ NT, ∀ w ∈ Cond.classLink q.1 q.2.1 (exN q.2.2.1) :: Cond.initialized (exN q.2.2.1) :: vx_at0 q.1 q.2.2.2 (exN q.2.2.1) ["java/lang/RuntimeException", "java/lang/Exception"], (w ∈ lw_all ∨ w ∈ nw_all) ∧ vx_ot w = true)
    (hCT : ∀ q ∈ CT, Cond.constantFloat q.1 q.2 1110704128 ∈ lw_all) {x : CX} {call : Nat → List AV → GS → Res} {hd : Nat → Hd} {invs : List (Instr × Nat)} {pc : Nat} {e : En}
    (hinv : ∀ q ∈ invs, ∀ pc, decode (cxC x) pc = .ok (q.1, 3) → CW x pc (q.2 / 64 % 256) (call (q.2 / 16384)) ∧ HdOK x pc (hd pc))
    (h : ck FT PT NT CT (cxO x) (cxC x) (cxR x) invs pc e = true) : EnOK x call hd pc e := by
  obtain ⟨i, n, y, ks, ct, sw⟩ := e
  cases i with
  | tableswitch d lo hi offs =>
    unfold ck at h
    dsimp only at h
    rw [Bool.and_eq_true, Bool.and_eq_true, Bool.and_eq_true] at h
    obtain ⟨h1, h2, h3, h4⟩ := h
    have h3 := of_decide_eq_true h3
    refine ⟨ck_sec h1, of_decide_eq_true h2, fun v => ?_⟩
    obtain ⟨g1, g2⟩ := ck_tab_ok pc y offs.toList sw lo h4 v
    rw [Array.length_toList] at g1 g2
    refine ⟨fun z => g1 (by omega), fun z1 z2 => ?_⟩
    obtain ⟨o, g3, g4⟩ := g2 (by omega) (by omega)
    exact ⟨o, by rw [← Array.getElem?_toList]; exact g3, g4⟩
  | lookupswitch d ps =>
    unfold ck at h
    dsimp only at h
    rw [Bool.and_eq_true, Bool.and_eq_true, Bool.and_eq_true] at h
    obtain ⟨h1, h2, h3, h4⟩ := h
    exact ⟨ck_sec h1, h3, ck_look_ok pc y d (of_decide_eq_true h2) _ _ h4⟩
  | ifCond cn off =>
    have h : (ck_d (cxC x) pc (.ifCond cn off) 3 && decide ((pc : Int) + off = (y : Int))) = true := h
    rw [Bool.and_eq_true] at h
    exact ⟨ck_dec h.1, of_decide_eq_true h.2⟩
  | if_icmp cn off =>
    have h : (ck_d (cxC x) pc (.if_icmp cn off) 3 && decide ((pc : Int) + off = (y : Int))) = true := h
    rw [Bool.and_eq_true] at h
    exact ⟨ck_dec h.1, of_decide_eq_true h.2⟩
  | goto off =>
    have h : (ck_d (cxC x) pc (.goto off) 3 && decide ((pc : Int) + off = (y : Int))) = true := h
    rw [Bool.and_eq_true] at h
    exact ⟨ck_dec h.1, of_decide_eq_true h.2⟩
  | ifnull off =>
    have h : (ck_d (cxC x) pc (.ifnull off) 3 && decide ((pc : Int) + off = (y : Int))) = true := h
    rw [Bool.and_eq_true] at h
    exact ⟨ck_dec h.1, of_decide_eq_true h.2⟩
  | getfield idx =>
    have h : (ck_d (cxC x) pc (.getfield idx) 3 && lkHas FT (cxO x) idx y) = true := h
    rw [Bool.and_eq_true] at h
    exact ⟨ck_dec h.1, hFT _ (lkHas_in h.2)⟩
  | putfield idx =>
    have h : (ck_d (cxC x) pc (.putfield idx) 3 && lkHas PT (cxO x) idx y) = true := h
    rw [Bool.and_eq_true] at h
    exact ⟨ck_dec h.1, hPT _ (lkHas_in h.2)⟩
  | ldc idx =>
    unfold ck at h
    dsimp only at h
    rw [Bool.and_eq_true] at h
    refine ⟨ck_dec h.1, ?_⟩
    cases y with
    | zero =>
      obtain ⟨q, q1, q2⟩ := List.any_eq_true.mp h.2
      rw [Bool.and_eq_true] at q2
      have := hCT q q1
      rw [of_decide_eq_true q2.1, Nat.eq_of_beq_eq_true q2.2] at this
      exact this
    | succ k =>
      have h2 := h.2
      dsimp only at h2
      rw [Bool.and_eq_true, Bool.and_eq_true] at h2
      exact ⟨Nat.le_of_ble_eq_true h2.1, of_decide_eq_true h2.2.1, Nat.eq_of_beq_eq_true h2.2.2⟩
  | invokevirtual idx =>
    have h : (ck_d (cxC x) pc (.invokevirtual idx) 3 && invs.any (fun q => decide (q.1 = .invokevirtual idx) && Nat.beq q.2 y)) = true := h
    rw [Bool.and_eq_true] at h
    obtain ⟨q, q1, q2⟩ := List.any_eq_true.mp h.2
    rw [Bool.and_eq_true] at q2
    have e1 := of_decide_eq_true q2.1
    have e2 := Nat.eq_of_beq_eq_true q2.2
    have := hinv q q1 pc (by rw [e1]; exact ck_dec h.1)
    rw [e2] at this
    exact this
  | invokestatic idx =>
    have h : (ck_d (cxC x) pc (.invokestatic idx) 3 && invs.any (fun q => decide (q.1 = .invokestatic idx) && Nat.beq q.2 y)) = true := h
    rw [Bool.and_eq_true] at h
    obtain ⟨q, q1, q2⟩ := List.any_eq_true.mp h.2
    rw [Bool.and_eq_true] at q2
    have e1 := of_decide_eq_true q2.1
    have e2 := Nat.eq_of_beq_eq_true q2.2
    have := hinv q q1 pc (by rw [e1]; exact ck_dec h.1)
    rw [e2] at this
    exact this
  | new idx =>
    unfold ck at h
    dsimp only at h
    obtain ⟨q, q1, q2⟩ := List.any_eq_true.mp h
    simp only [Bool.and_eq_true] at q2
    obtain ⟨a1, a2, a3, a4, a5, a6, a7⟩ := q2
    have := hNT q q1
    rw [of_decide_eq_true a1, Nat.eq_of_beq_eq_true a2, Nat.eq_of_beq_eq_true a3] at this
    exact ⟨ck_dec a4, ck_dec a5, ck_dec a7, q.2.2.2, ck_dec a6, this⟩
  | ireturn =>
    have h : (ck_d (cxC x) pc .ireturn 1 && decide (cxR x = some (retTy y))) = true := h
    rw [Bool.and_eq_true] at h
    exact ⟨ck_dec h.1, of_decide_eq_true h.2⟩
  | areturn =>
    unfold ck at h
    dsimp only at h
    rw [Bool.and_eq_true] at h
    refine ⟨ck_dec h.1, ?_⟩
    have h2 := h.2
    split at h2
    · rename_i n hr
      exact ⟨n, hr⟩
    · cases h2
  | freturn =>
    have h : (ck_d (cxC x) pc .freturn 1 && decide (cxR x = some .float)) = true := h
    rw [Bool.and_eq_true] at h
    exact ⟨ck_dec h.1, of_decide_eq_true h.2⟩
  | dreturn =>
    have h : (ck_d (cxC x) pc .dreturn 1 && decide (cxR x = some .double)) = true := h
    rw [Bool.and_eq_true] at h
    exact ⟨ck_dec h.1, of_decide_eq_true h.2⟩
  | return_ =>
    have h : (ck_d (cxC x) pc .return_ 1 && decide (cxR x = none)) = true := h
    rw [Bool.and_eq_true] at h
    exact ⟨ck_dec h.1, of_decide_eq_true h.2⟩
  | _ => exact ck_dec h
