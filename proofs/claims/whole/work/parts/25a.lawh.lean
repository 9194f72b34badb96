/-! METHODS WITH AN EXCEPTION TABLE: the law's helpers -/
def lkAll (w : Cond) : Bool := decide (w ∈ lw_tbl) && goodWord w
theorem lkAll_in {w : Cond} (h : lkAll w = true) : w ∈ lw_all := by
  unfold lkAll at h
  rw [Bool.and_eq_true] at h
  exact List.mem_filter.mpr ⟨List.mem_append_left _ (of_decide_eq_true h.1), h.2⟩
theorem cast_self : ∀ e, e < 7 → Cond.castable (exN e) (exN e) ∈ nw_all := by
  have h : ∀ e, e < 7 → (decide (Cond.castable (exN e) (exN e) ∈ lw_tbl) && nw_is (Cond.castable (exN e) (exN e))) = true := by decide +kernel
  intro e he
  have h1 := h e he
  rw [Bool.and_eq_true] at h1
  exact List.mem_filter.mpr ⟨of_decide_eq_true h1.1, h1.2⟩
theorem exN_inj0 : ∀ e, e < 7 → ∀ f, f < 7 → (e = f ∨ e = 0 ∨ f = 0 ∨ ¬ exN e = exN f) := by decide +kernel
theorem exN_inj (e : Nat) (he : e < 7) (f : Nat) (hf : f < 7) (h1 : 1 ≤ e) (h2 : 1 ≤ f) (h3 : e ≠ f) : exN e ≠ exN f := by
  rcases exN_inj0 e he f hf with h | h | h | h
  · exact absurd h h3
  · omega
  · omega
  · exact h
def cxCode (x : CX) : Code := x.1.2.2.2.2.2.2.2.2.2.1
def ck_ast (cc : ByteArray) (pc n loc : Nat) : Bool := (decide (n = 1) && (decide (loc < 4) && ck_d cc pc (.astore_n ⟨loc % 4, Nat.mod_lt _ (by decide)⟩) 1)) || (decide (n = 2) && ck_d cc pc (.astore loc) 2)
theorem ck_ast_ok {cc : ByteArray} {pc n loc : Nat} (h : ck_ast cc pc n loc = true) : (n = 1 ∧ ∃ k : Fin 4, decode cc pc = .ok (.astore_n k, 1) ∧ (k : Nat) = loc) ∨ (n = 2 ∧ decode cc pc = .ok (.astore loc, 2)) := by
  unfold ck_ast at h
  rw [Bool.or_eq_true, Bool.and_eq_true, Bool.and_eq_true, Bool.and_eq_true] at h
  rcases h with ⟨h1, h2, h3⟩ | ⟨h1, h2⟩
  · exact Or.inl ⟨of_decide_eq_true h1, _, ck_dec h3, Nat.mod_eq_of_lt (of_decide_eq_true h2)⟩
  · exact Or.inr ⟨of_decide_eq_true h1, ck_dec h2⟩
/-- a handler's rows against the table's -/
def ck_h (own : String) (cc : ByteArray) (maxL pc : Nat) : Hd → List (Nat × Nat × Nat × Nat) → Bool
  | [], [] => true
  | h :: hs, z :: zs => (decide (z.1 ≤ pc) && decide (pc < z.2.1)) && ((decide (z.2.2.1 = h.2.1) && (decide (z.2.2.2 ≠ 0) && (decide (h.1 < 7) && decide (1 ≤ h.1)))) && ((ck_ast cc h.2.1 h.2.2.1 h.2.2.2 && decide (h.2.2.2 + 1 ≤ maxL)) && (lkAll (.classLink own z.2.2.2 (exN h.1)) && ck_h own cc maxL pc hs zs)))
  | _, _ => false
theorem hsel_split {own : String} {cc : ByteArray} {maxL pc : Nat} : ∀ (hd : Hd) (hh : List (Nat × Nat × Nat × Nat)), ck_h own cc maxL pc hd hh = true → ∀ (ex : Nat) (h : Nat × Nat × Nat), hsel hd ex = some h →
    ∃ (pre suf : List (Nat × Nat × Nat × Nat)) (z : Nat × Nat × Nat × Nat), hh = pre ++ z :: suf ∧ (z.1 ≤ pc ∧ pc < z.2.1) ∧ z.2.2.1 = h.1 ∧ z.2.2.2 ≠ 0 ∧ (ex < 7 ∧ 1 ≤ ex) ∧ ck_ast cc h.1 h.2.1 h.2.2 = true ∧ h.2.2 + 1 ≤ maxL ∧ Cond.classLink own z.2.2.2 (exN ex) ∈ lw_all ∧
      ∀ y ∈ pre, y.2.2.2 ≠ 0 ∧ ∃ e', e' < 7 ∧ 1 ≤ e' ∧ ex ≠ e' ∧ Cond.classLink own y.2.2.2 (exN e') ∈ lw_all
  | [], _, _, ex, h, hs => by cases hs
  | _ :: _, [], hk, ex, h, hs => by cases hk
  | g :: hd, z :: hh, hk, ex, h, hs => by
    have hk : ((decide (z.1 ≤ pc) && decide (pc < z.2.1)) && ((decide (z.2.2.1 = g.2.1) && (decide (z.2.2.2 ≠ 0) && (decide (g.1 < 7) && decide (1 ≤ g.1)))) && ((ck_ast cc g.2.1 g.2.2.1 g.2.2.2 && decide (g.2.2.2 + 1 ≤ maxL)) && (lkAll (.classLink own z.2.2.2 (exN g.1)) && ck_h own cc maxL pc hd hh)))) = true := hk
    simp only [Bool.and_eq_true, decide_eq_true_eq] at hk
    obtain ⟨⟨k1, k2⟩, ⟨k3, k4, k5, k6⟩, ⟨k7, k8⟩, k9, k10⟩ := hk
    rw [hsel] at hs
    by_cases q : ex = g.1
    · rw [if_pos q] at hs
      cases hs
      subst q
      exact ⟨[], hh, z, rfl, ⟨k1, k2⟩, k3, k4, ⟨k5, k6⟩, k7, k8, lkAll_in k9, fun y hy => nomatch hy⟩
    · rw [if_neg q] at hs
      obtain ⟨pre, suf, w, e1, e2, e3, e4, e5, e6, e7, e8, e9⟩ := hsel_split hd hh k10 ex h hs
      refine ⟨z :: pre, suf, w, by rw [e1]; rfl, e2, e3, e4, e5, e6, e7, e8, fun y hy => ?_⟩
      rcases List.mem_cons.mp hy with rfl | hy
      · exact ⟨k4, g.1, k5, k6, q, lkAll_in k9⟩
      · exact e9 y hy
theorem LV_un {ad : Rf → Nat} {sl : Array Slot} {nL i : Nat} {ls : Ls} {v : AV} (h : LV ad sl nL (ls.set i (some v))) : LV ad sl nL (ls.set i none) := by
  refine LV_weak h (by rw [List.length_set, ← h.1, List.length_set]) (fun j w hw => ?_)
  rw [List.getElem?_set] at hw ⊢
  by_cases e : i = j
  · subst e
    rw [if_pos rfl] at hw
    by_cases e2 : i < ls.length
    · rw [if_pos e2] at hw; cases hw
    · rw [if_neg e2] at hw; cases hw
  · rw [if_neg e] at hw ⊢; exact hw
theorem hdok_of {x : CX} {pc : Nat} {hd : Hd} {hh : List (Nat × Nat × Nat × Nat)} (hF : FX x) (htab : (cxCode x).exceptionTable.toList = tableOf hh) (hck : ck_h (cxO x) (cxC x) (cxN x) pc hd hh = true) : HdOK x pc hd := by
  intro ex h ls rest G u hs hbl hW
  obtain ⟨pre, suf, z, e1, e2, e3, e4, e5, e6, e7, e8, e9⟩ := hsel_split hd hh hck ex h hs
  obtain ⟨⟨p, l, e, R, s, m, args, below, meth, c, Q⟩, ⟨D, cs, b, ad, adV, sc, L, XT⟩, cc, nL, own, c0, s0, seg, lv⟩ := x
  obtain ⟨hx, hb, hml, hown, hts, hKS, hbs, hL, hlocks, hR1, hR2, hR3, hR4⟩ := hF
  intro H locs cells slots sl q ce hP hS hl h1 h2 hce hcv hcl
  have e7 : h.2.2 + 1 ≤ nL := e7
  have hpc : covers ⟨z.1, z.2.1, z.2.2.1, z.2.2.2⟩ pc = true := by
    show (decide (z.1 ≤ pc) && decide (pc < z.2.1)) = true
    rw [decide_eq_true e2.1, decide_eq_true e2.2]; rfl
  refine vx_catch (own := own) (name := exN ex) (E := exN ex) hown (tableOf pre) ⟨z.1, z.2.1, z.2.2.1, z.2.2.2⟩ (tableOf suf) (by rw [show c.exceptionTable.toList = tableOf hh from htab, e1]; simp [tableOf]) ?_ hpc e4 (hts _ e8) (word_ok hts hKS.2.2.2.1 (Or.inr (cast_self ex e5.1))) hce hcv hcl ?_
  · intro y hy
    obtain ⟨w, hw, rfl⟩ := List.mem_map.mp hy
    obtain ⟨n1, e', a1, a2, a3, a4⟩ := e9 w hw
    exact Or.inr ⟨n1, exN e', hts _ a4, hKS.2.2.2.2.1 ex e' e5.1 a1 (exN_inj ex e5.1 e' a1 e5.2 a2 a3)⟩
  · show W p l e R s m args below meth c H locs cells slots Q (F0 m z.2.2.1 sl [.ref q])
    rw [e3]
    rcases ck_ast_ok e6 with ⟨k1, k, hk, hk2⟩ | ⟨k1, hk⟩
    · rw [k1] at hW
      exact lv_astore_n hx hb hk hk2 hl.2 (by omega) rfl (fun sl' h9 => hW H locs cells slots sl' hP hS (LV_un (v := .inl (.ref q)) (LV_set hl.1 hbl h9)) h1 h2)
    · rw [k1] at hW
      exact lv_astore hx hb hk hl.2 (by omega) rfl (fun sl' h9 => hW H locs cells slots sl' hP hS (LV_un (v := .inl (.ref q)) (LV_set hl.1 hbl h9)) h1 h2)
theorem hd_one {x : CX} {pc p0 : Nat} {l : Hd} (h : HdOK x p0 l) : HdOK x pc (match Nat.beq pc p0 with | true => l | false => []) := by
  cases hb : Nat.beq pc p0 with
  | true =>
    have := Nat.eq_of_beq_eq_true hb
    subst this
    exact h
  | false => exact hd_nil
/-- as Met.ofW, of a method with a table -/
theorem Met_ofWH {l : Launch} {y : MethodName} {ws ws' : List Cond} {rm : Room} {Pc : Array Value → State → Prop} {Qc : Array Value → State → Outcome → State → Prop} {mc ms : Nat} {free : Addr → Prop} {cc : ByteArray} {maxL : Nat} {ret : Option FieldType} {hh : List (Nat × Nat × Nat × Nat)}
    (hy : plainName y.cls = true) (hw : ws = Cond.codeWith y cc maxL ret hh :: ws')
    (body : ∀ p e s m args below meth c s₁, BodyLoose p l y (headSpec ws rm) cc maxL ret e s m args below meth c s₁ → c.maxLocals = maxL → c.exceptionTable.toList = tableOf hh → Pc args s →
      W p l e (headSpec ws rm).room s m args below meth c s.heap [] 0 0 (MQ below Qc args s mc ms free) (entryFrame m args maxL)) : Met l y ws rm Pc Qc mc ms free := by
  refine MetFree.of_bodyS (code := cc) (maxLocals := maxL) (ret := ret) hy ?_ ?_
  · intro args s m h hn
    obtain ⟨m9, meth, c, hn9, h1, h2, h3, h4, -, h5, h6, -⟩ := Cond.codeWith_spec (atoms_spec (ws := ws) h _ (by rw [hw]; exact List.mem_cons_self))
    cases hn.symm.trans hn9
    exact ⟨meth, c, h1, h2, h3, h4, h5, h6⟩
  · intro p e s m args below meth c s₁ B hml hP _
    have hh0 : s₁.heap = s.heap := by rw [B.state]; rfl
    have htab : c.exceptionTable.toList = tableOf hh := vx_table (x := y) B (atoms_spec (ws := ws) B.pre _ (by rw [hw]; exact List.mem_cons_self))
    obtain ⟨t, a1, o, b1, b2, b3⟩ := body p e s m args below meth c s₁ B hml htab hP s₁ hh0 (Stand.of_body B)
    exact ⟨t, o, a1, b1, b2, ⟨b3.1, b3.2⟩⟩
def TabOKH (sd : Sd) (l : Launch) (own : String) (cc : ByteArray) (maxL seg lv : Nat) (ret : Option FieldType) (T : Tb) (call : Nat → List AV → GS → Res) (hd : Nat → Hd) (hh : List (Nat × Nat × Nat × Nat)) : Prop :=
  ∀ x : CX, FX x → cxH x = l → cxO x = own → cxC x = cc → cxG x = seg → cxV x = lv → cxR x = ret → cxSide sd x → (cxCode x).exceptionTable.toList = tableOf hh → cxN x = maxL → ∀ pc e, T pc = some e → EnOK x call hd pc e
theorem CtNH_of {sd : Sd} {l : Launch} {y : MethodName} {bytes : ByteArray} {maxL lev cost seg F : Nat} {ret : Option FieldType} {T : Tb} {call : Nat → List AV → GS → Res} {hd : Nat → Hd} {bk : Nat → Kb} {A : List AV → GS → Res} {hh : List (Nat × Nat × Nat × Nat)}
    (hy : plainName y.cls = true) (hT : TabOKH sd l y.cls bytes maxL seg lev ret T call hd hh) (hR : RunOK seg maxL T call hd bk F A) (hN : ∀ as G ex G1, A as G = some (.inr ex, G1) → False) (hcost : seg * (F + 1) ≤ cost) : CtN sd l y (.codeWith y bytes maxL ret hh :: lw_all) lev cost A := by
  intro D cs b ad adV sc L XT hL hsd as G r hr hvs
  obtain ⟨hcat, hlen, hrun⟩ := hR.1 as G r hr
  obtain ⟨o, G1⟩ := r
  cases o with
  | inr ex => exact (hN as G ex G1 hr).elim
  | inl o =>
    refine Met_ofWH (cc := bytes) (maxL := maxL) (ret := ret) (hh := hh) hy rfl ?_
    intro p e s m args below meth c s₁ B hml htab hv
    obtain ⟨rfl, hP, hKS, hbs⟩ := hv
    have hts : ∀ w ∈ lw_all, w.before (as.map (rv ad)).toArray s = true := fun w hw => atoms_spec (ws := .codeWith y bytes maxL ret hh :: lw_all) B.pre w (List.mem_cons_of_mem _ hw)
    have hown : s.vm.findClass y.cls = some m.cls := findClass_of_methodNamed B.named
    rw [lg_entry_eq]
    have hFX : ∀ c0 s0, c0 + seg ≤ cost → s0 + 100 * seg ≤ 100 * cost → FX ((p, l, e, roomL lev cost, s, m, (as.map (rv ad)).toArray, below, meth, c, MQ below (Qc_ D cs b ad L XT (.inl o, G1)) (as.map (rv ad)).toArray s cost (100 * cost) (Ab b)), (D, cs, b, ad, adV, sc, L, XT), bytes, maxL, y.cls, c0, s0, seg, lev) := fun c0 s0 f1 f2 => ⟨B.exec, B.bytes, hml, hown, hts, hKS, hbs, hL, B.notSynchronized, f1, f2, Nat.le_refl _, Nat.le_refl _⟩
    have hK := start_sound (X := ((p, l, e, roomL lev cost, s, m, (as.map (rv ad)).toArray, below, meth, c, MQ below (Qc_ D cs b ad L XT (.inl o, G1)) (as.map (rv ad)).toArray s cost (100 * cost) (Ab b)), (D, cs, b, ad, adV, sc, L, XT), bytes, maxL, y.cls, 0, 0, seg, lev)) (T := T) (call := call) (hd := hd) (bk := bk) (F := F) (mc := cost) (out := (.inl o, G1)) (fun _ _ => rfl) (fun _ _ => rfl) (fun _ _ => rfl) hFX
      (fun c0 s0 f1 f2 => ⟨EO_N (fun _ _ _ k => k) (hFX c0 s0 f1 f2) f1 f2, (fun ex G2 h => by cases h), (fun ex G2 h => by cases h)⟩)
      (fun c0 s0 hF => hT _ hF rfl rfl rfl rfl rfl B.returns hsd htab rfl) (fun pc ls st G h => hR.2.1 pc ls st G _ h)
      (fun k pc ls st G h => by obtain ⟨e9, h1, h2⟩ := hR.2.2 k pc ls st G _ h; exact ⟨e9, h1, h2 sc⟩) hcost (hrun sc) (vAs_some hvs)
    exact hK s.heap [] 0 0 _ hP va_S.rf (LV_entry hcat hlen) (Nat.zero_le _) (Nat.zero_le _)
theorem sdM_any {x : CX} : cxSide sdM x := by
  obtain ⟨⟨p, l, e, R, s, m, args, below, meth, c, Q⟩, ⟨D, cs, b, ad, adV, sc, L, XT⟩, cc, nL, own, c0, s0, seg, lv⟩ := x
  trivial
