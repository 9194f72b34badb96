/-! A RUN OF THE ABSTRACT MACHINE IS A WALK OF THE MACHINE -/
def cxR (x : CX) : Option FieldType := x.1.2.2.2.2.2.2.2.2.1.sig.returnType
def retTy (y : Nat) : FieldType := match y with | 0 => .int | 1 => .boolean | _ => .char
/-- a return instruction with its value -/
def RK (ret : Option FieldType) (i : Instr) (v : Option AV) : Prop := match i with
  | .ireturn => ∃ (k : Int32) (ty : FieldType), v = some (.inl (.int k)) ∧ ret = some ty ∧ narrow ty (.int k) = .int k
  | .areturn => (v = some (.inl .null) ∨ ∃ q, v = some (.inr q)) ∧ ∃ n, ret = some (.object n)
  | .freturn => ∃ k, v = some (.inl (.float k)) ∧ ret = some .float
  | .dreturn => ∃ k, v = some (.inl (.double k)) ∧ ret = some .double
  | .return_ => v = none ∧ ret = none
  | _ => False
/-- 'new X(); throw' at pc -/
def NewOK (x : CX) (pc idx ex : Nat) : Prop := decode (cxC x) pc = .ok (.new idx, 3) ∧ decode (cxC x) (pc + 3) = .ok (.dup, 1) ∧ decode (cxC x) (pc + 7) = .ok (.athrow, 1) ∧
  ∃ ic, decode (cxC x) (pc + 4) = .ok (.invokespecial ic, 3) ∧ ∀ w ∈ Cond.classLink (cxO x) idx (exN ex) :: Cond.initialized (exN ex) :: vx_at0 (cxO x) ic (exN ex) ["java/lang/RuntimeException", "java/lang/Exception"], (w ∈ lw_all ∨ w ∈ nw_all) ∧ vx_ot w = true
def hsel : Hd → Nat → Option (Nat × Nat × Nat)
  | [], _ => none
  | h :: hs, e => if e = h.1 then some h.2 else hsel hs e
def HdOK (x : CX) (pc : Nat) (hd : Hd) : Prop := ∀ (ex : Nat) (h : Nat × Nat × Nat) (ls : Ls) (rest : List AV) (G : GS) (u : Nat), hsel hd ex = some h → ai_below h.2.2 ls = true → WG x (h.1 + h.2.1) (ls.set h.2.2 none) [] G u → WX x pc ls rest G u ex
theorem hs_eq (ls : Ls) (k : Nat × Nat × Nat → Res) : ∀ (hd : Hd) (e : Nat), ai_hs hd e ls k none = match hsel hd e with | some h => (match ai_below h.2.2 ls with | true => k h | false => none) | none => none
  | [], _ => rfl
  | h :: hs, e => by
    rw [ai_hs, hsel]
    by_cases q : e = h.1
    · rw [if_pos q, if_pos q]; rfl
    · rw [if_neg q, if_neg q]; exact hs_eq ls k hs e
/-- what a table's entry has to do with the code -/
def EnOK (x : CX) (call : Nat → List AV → GS → Res) (hd : Nat → Hd) (pc : Nat) (e : En) : Prop := match e with
  | (i, _, y, _, _, sw) => match i with
    | .tableswitch d lo hi offs => (∃ len, decode (cxC x) pc = .ok (.tableswitch d lo hi offs, len)) ∧ sw_tab pc d lo hi offs sw y
    | .lookupswitch d ps => (∃ len, decode (cxC x) pc = .ok (.lookupswitch d ps, len)) ∧ sw_lok pc d ps sw y
    | .ifCond cn off => decode (cxC x) pc = .ok (.ifCond cn off, 3) ∧ (pc : Int) + off = (y : Int)
    | .if_icmp cn off => decode (cxC x) pc = .ok (.if_icmp cn off, 3) ∧ (pc : Int) + off = (y : Int)
    | .goto off => decode (cxC x) pc = .ok (.goto off, 3) ∧ (pc : Int) + off = (y : Int)
    | .ifnull off => decode (cxC x) pc = .ok (.ifnull off, 3) ∧ (pc : Int) + off = (y : Int)
    | .getfield idx => decode (cxC x) pc = .ok (.getfield idx, 3) ∧ FLk (cxO x) idx y
    | .putfield idx => decode (cxC x) pc = .ok (.putfield idx, 3) ∧ PLk (cxO x) idx y
    | .ldc idx => decode (cxC x) pc = .ok (.ldc idx, 2) ∧ (match y with | 0 => Cond.constantFloat (cxO x) idx 1110704128 ∈ lw_all | k + 1 => k < 7 ∧ cxO x = "PillowBarge$Script" ∧ idx = jsI.getD k 0)
    | .invokevirtual _ => CW x pc (y / 64 % 256) (call (y / 16384)) ∧ HdOK x pc (hd pc)
    | .invokestatic _ => CW x pc (y / 64 % 256) (call (y / 16384)) ∧ HdOK x pc (hd pc)
    | .new idx => NewOK x pc idx y
    | .ireturn => decode (cxC x) pc = .ok (.ireturn, 1) ∧ cxR x = some (retTy y)
    | .areturn => decode (cxC x) pc = .ok (.areturn, 1) ∧ ∃ n, cxR x = some (.object n)
    | .freturn => decode (cxC x) pc = .ok (.freturn, 1) ∧ cxR x = some .float
    | .dreturn => decode (cxC x) pc = .ok (.dreturn, 1) ∧ cxR x = some .double
    | .return_ => decode (cxC x) pc = .ok (.return_, 1) ∧ cxR x = none
    | i => decode (cxC x) pc = .ok (i, ai_len i)
/-- what the walk owes at its ends, where the outcome is out -/
def EOr (x : CX) (out : Out × GS) : Prop := ∀ (v : Option AV) (G : GS), out = (.inl v, G) → ∀ (pc u : Nat) (i : Instr) (ls : Ls), decode (cxC x) pc = .ok (i, 1) → RK (cxR x) i v → vAo (cxL x) v → u ≤ cxG x → WG x pc ls v.toList G u
def EOn (x : CX) (out : Out × GS) : Prop := ∀ (ex : Nat) (G : GS), out = (.inr ex, G) → ∀ (pc u idx : Nat) (ls : Ls) (st : List AV), NewOK x pc idx ex → u + 1 ≤ cxG x → ai_cats st ≤ 8 → WG x pc ls st G u
def EOx (x : CX) (out : Out × GS) : Prop := ∀ (ex : Nat) (G : GS), out = (.inr ex, G) → ∀ (pc u : Nat) (ls : Ls) (rest : List AV), u ≤ cxG x → WX x pc ls rest G u ex
theorem vLs_at {L : List Rf} {ls : Ls} {i : Nat} {v : AV} (h : vLs L ls) (hi : ls[i]? = some (some v)) : vA L v := h v (List.mem_of_getElem? hi)
theorem vAs_cons {L : List Rf} {v : AV} {l : List AV} (h : vA L v) (t : vAs L l) : vAs L (v :: l) := fun w hw => (List.mem_cons.mp hw).elim (fun e => e ▸ h) (t w)
theorem vAs_hd {L : List Rf} {v : AV} {l : List AV} (h : vAs L (v :: l)) : vA L v := h v List.mem_cons_self
theorem vAs_tl {L : List Rf} {v : AV} {l : List AV} (h : vAs L (v :: l)) : vAs L l := fun w hw => h w (List.mem_cons_of_mem _ hw)
theorem vLs_none {L : List Rf} {ls : Ls} {i : Nat} (h : vLs L ls) : vLs L (ls.set i none) := vLs_set h (fun v e => nomatch e)
theorem vLs_some {L : List Rf} {ls : Ls} {i : Nat} {v : AV} (h : vLs L ls) (hv : vA L v) : vLs L (ls.set i (some v)) := vLs_set h (fun w e => by cases e; exact hv)
theorem pop_eq : ∀ (n : Nat) (acc st as rest : List AV), ai_pop n acc st = some (as, rest) → ∃ l : List AV, as = l ++ acc ∧ st = l.reverse ++ rest
  | 0, acc, st, as, rest, h => by
    rw [ai_pop] at h
    cases h
    exact ⟨[], rfl, rfl⟩
  | n + 1, acc, [], as, rest, h => by rw [ai_pop] at h; cases h
  | n + 1, acc, v :: st, as, rest, h => by
    rw [ai_pop] at h
    obtain ⟨l, h1, h2⟩ := pop_eq n (v :: acc) st as rest h
    refine ⟨l ++ [v], by rw [h1]; simp, by rw [h2]; simp⟩
theorem bind_eq {A : Res} {k : Out × GS → Res} {out : Out × GS} (h : A.bind k = some out) : ∃ r, A = some r ∧ k r = some out := by
  cases A with
  | none => cases h
  | some r => exact ⟨r, rfl, h⟩
section Run
variable {x : CX} {T : Tb} {call : Nat → List AV → GS → Res} {hd : Nat → Hd} {self : Ks} {out : Out × GS}
theorem call_sound (hEx : EOx x out) {pc y : Nat} {ls : Ls} {st : List AV} {G : GS} {u : Nat} (hcw : CW x pc (y / 64 % 256) (call (y / 16384))) (hhd : HdOK x pc (hd pc))
    (hself : ∀ pc ls st G u, self pc ls st G u = some out → vLs (cxL x) ls → vAs (cxL x) st → u ≤ cxG x → WG x pc ls st G u)
    (h : ai_call call (cxG x) (hd pc) self pc y ls st G u = some out) (hls : vLs (cxL x) ls) (hst : vAs (cxL x) st) : WG x pc ls st G u := by
  unfold ai_call at h
  cases hp : ai_pop (y / 8 % 8) [] st with
  | none => rw [hp] at h; cases h
  | some q =>
    obtain ⟨as, rest⟩ := q
    rw [hp] at h
    dsimp only at h
    cases h1 : Nat.ble (u + y / 64 % 256) (cxG x) with
    | false => rw [h1] at h; cases h
    | true =>
      rw [h1] at h
      dsimp only at h
      cases h2 : Nat.ble (ai_cats rest) 8 with
      | false => rw [h2] at h; cases h
      | true =>
        rw [h2] at h
        dsimp only at h
        obtain ⟨r, hr, hk⟩ := bind_eq h
        obtain ⟨l, hl1, hl2⟩ := pop_eq _ _ _ _ _ hp
        rw [List.append_nil] at hl1
        subst hl1
        subst hl2
        have hu : u + y / 64 % 256 ≤ cxG x := Nat.le_of_ble_eq_true h1
        have vas : vAs (cxL x) as := fun w hw => hst w (List.mem_append_left _ (List.mem_reverse.mpr hw))
        have vrest : vAs (cxL x) rest := fun w hw => hst w (List.mem_append_right _ hw)
        have kx : ∀ ex G1, r = (.inr ex, G1) → ai_hx (hd pc) ex ls (fun h => self (h.1 + h.2.1) (ls.set h.2.2 none) [] G1 (u + y / 64 % 256)) G1 = some out → WX x pc ls rest G1 (u + y / 64 % 256) ex := by
          intro ex G1 _ hx
          unfold ai_hx at hx
          cases hh : hd pc with
          | nil =>
            rw [hh] at hx
            cases hx
            exact hEx ex G1 rfl pc _ ls rest hu
          | cons h0 hs =>
            rw [hh] at hx
            dsimp only at hx
            rw [hs_eq] at hx
            cases hsl : hsel (h0 :: hs) ex with
            | none => rw [hsl] at hx; cases hx
            | some h9 =>
              rw [hsl] at hx
              rw [hh] at hhd
              dsimp only at hx
              cases hbl : ai_below h9.2.2 ls with
              | false => rw [hbl] at hx; cases hx
              | true =>
                rw [hbl] at hx
                exact hhd ex h9 ls rest G1 _ hsl hbl (hself _ _ _ _ _ hx (vLs_none hls) (fun w hw => nomatch hw) hu)
        refine hcw as rest G r ls u hr vas (Nat.le_of_ble_eq_true h2) hu (fun v hv hvo => ?_) (fun ex he => ?_)
        · obtain ⟨o, G1⟩ := r
          have hv : o = .inl v := hv
          subst hv
          unfold ai_rt at hk
          split at hk
          · unfold oV at hk
            cases v with
            | none => exact hself _ _ _ _ _ hk hls vrest hu
            | some w => cases hk
          · unfold oI at hk
            split at hk
            · rename_i v' heq
              cases heq
              exact hself _ _ _ _ _ hk hls (vAs_cons trivial vrest) hu
            · rename_i heq; cases heq
            · cases hk
          · unfold oF at hk
            split at hk
            · rename_i v' heq
              cases heq
              exact hself _ _ _ _ _ hk hls (vAs_cons trivial vrest) hu
            · rename_i heq; cases heq
            · cases hk
          · unfold oD at hk
            split at hk
            · rename_i v' heq
              cases heq
              exact hself _ _ _ _ _ hk hls (vAs_cons trivial vrest) hu
            · rename_i heq; cases heq
            · cases hk
          · unfold oQ at hk
            split at hk
            · rename_i heq
              cases heq
              exact hself _ _ _ _ _ hk hls (vAs_cons trivial vrest) hu
            · rename_i q heq
              cases heq
              cases hb : Nat.beq q.2 1 with
              | false => rw [hb] at hk; cases hk
              | true =>
                rw [hb] at hk
                have e : q = (q.1, 1) := Prod.ext rfl (Nat.eq_of_beq_eq_true hb)
                rw [e]
                exact hself _ _ _ _ _ hk hls (vAs_cons (e ▸ hvo _ rfl) vrest) hu
            · rename_i heq; cases heq
            · cases hk
          · unfold oR at hk
            split at hk
            · rename_i q heq
              cases heq
              cases hb : Nat.beq q.2 200 with
              | false => rw [hb] at hk; cases hk
              | true =>
                rw [hb] at hk
                have e : q = (q.1, 200) := Prod.ext rfl (Nat.eq_of_beq_eq_true hb)
                rw [e]
                exact hself _ _ _ _ _ hk hls (vAs_cons (e ▸ hvo _ rfl) vrest) hu
            · rename_i heq; cases heq
            · cases hk
          · unfold oR at hk
            split at hk
            · rename_i q heq
              cases heq
              cases hb : Nat.beq q.2 16 with
              | false => rw [hb] at hk; cases hk
              | true =>
                rw [hb] at hk
                have e : q = (q.1, 16) := Prod.ext rfl (Nat.eq_of_beq_eq_true hb)
                rw [e]
                exact hself _ _ _ _ _ hk hls (vAs_cons (e ▸ hvo _ rfl) vrest) hu
            · rename_i heq; cases heq
            · cases hk
        · obtain ⟨o, G1⟩ := r
          have he : o = .inr ex := he
          subst he
          refine kx ex G1 rfl ?_
          unfold ai_rt at hk
          split at hk
          · exact hk
          · exact hk
          · exact hk
          · exact hk
          · exact hk
          · exact hk
          · exact hk
end Run
