/-! Soundness of the steps: calls, and a method's ends -/
def roomL (n u : Nat) : Room := { frames := n, cells := u, slots := 100 * u, locals := 64 * n }
def vAo (L : List Rf) (v : Option AV) : Prop := ∀ w, v = some w → vA L w
def Pc_ (D : va_G) (cs : Nat → ClassId) (b : Nat) (ad : Rf → Nat) (adV : Nat → Nat) (sc : Nat × (Nat → Int32)) (L : List Rf) (XT : Nat × (Nat → Int32) → va_W → Prop) (as : List AV) (G : GS) : Array Value → State → Prop :=
  va_Pc (as.map (rv ad)) (fun U => PW D cs b ad L XT G U.heap ∧ KS D cs b ad adV sc U U.heap ∧ b ≤ U.heap.size)
def Qc_ (D : va_G) (cs : Nat → ClassId) (b : Nat) (ad : Rf → Nat) (L : List Rf) (XT : Nat × (Nat → Int32) → va_W → Prop) (r : Out × GS) : Array Value → State → Outcome → State → Prop := fun _ st oc t =>
  (∃ v : Option AV, r.1 = .inl v ∧ vAo L v ∧ oc = .returned (v.map (rv ad)) ∧ PW D cs b ad L XT r.2 t.heap) ∧ va_F (Ab b) st t
def XC_ (D : va_G) (cs : Nat → ClassId) (b : Nat) (ad : Rf → Nat) (L : List Rf) (XT : Nat × (Nat → Int32) → va_W → Prop) (r : Out × GS) : String → State → State → Prop := fun E st t =>
  (∃ ex : Nat, r.1 = .inr ex ∧ E = exN ex ∧ PW D cs b ad L XT r.2 t.heap) ∧ va_F (Ab b) st t
/-- a side: which text and rest its world has -/
abbrev Sd : Type := va_G → (Nat → ClassId) → (Rf → Nat) → List Rf → (Nat × (Nat → Int32) → va_W → Prop) → Prop
/-- a method that never throws does what A says -/
def CtN (sd : Sd) (l : Launch) (y : MethodName) (ws : List Cond) (lev cost : Nat) (A : List AV → GS → Res) : Prop :=
  ∀ D cs b ad adV sc L XT, Lok L → sd D cs ad L XT → ∀ as G r, A as G = some r → vAs L as → Met l y ws (roomL lev cost) (Pc_ D cs b ad adV sc L XT as G) (Qc_ D cs b ad L XT r) cost (100 * cost) (Ab b)
/-- .. or throws -/
def CtX (sd : Sd) (l : Launch) (y : MethodName) (ws : List Cond) (lev cost : Nat) (A : List AV → GS → Res) : Prop :=
  ∀ D cs b ad adV sc L XT, Lok L → sd D cs ad L XT → ∀ as G r, A as G = some r → vAs L as → vx_Met l y ws (roomL lev cost) (Pc_ D cs b ad adV sc L XT as G) (Qc_ D cs b ad L XT r) (XC_ D cs b ad L XT r) cost (100 * cost) (Ab b)
/-- an exception q stands over the frame -/
def WX (x : CX) (pc : Nat) (ls : Ls) (rest : List AV) (G : GS) (u : Nat) (ex : Nat) : Prop := match x with
  | ((p, l, e, R, s, m, args, below, meth, c, Q), (D, cs, b, ad, _, _, L, XT), (_, nL, _, c0, s0, _, _)) =>
    ∀ (H : Heap) (locs : List Loc) (cells slots : Nat) (sl : Array Slot) (q : Addr) (ce : Cell), PW D cs b ad L XT G H → va_S (Ab b) s.heap H locs → LV ad sl nL ls → cells ≤ c0 + u → slots ≤ s0 + 100 * u → H[q]? = some ce → ce.vm = .none → s.vm.findClass (exN ex) = some ce.cls →
      vx_W p l e R s m args below meth c H locs cells slots Q (F0 m pc sl (rest.map (rv ad))) q
/-- a call at pc of what A says, at a cost -/
def CW (x : CX) (pc cost : Nat) (A : List AV → GS → Res) : Prop := ∀ (as rest : List AV) (G : GS) (r : Out × GS) (ls : Ls) (u : Nat), A as G = some r → vAs (cxL x) as → ai_cats rest ≤ 8 → u + cost ≤ cxG x →
  (∀ v, r.1 = .inl v → vAo (cxL x) v → WG x (pc + 3) ls (v.toList ++ rest) r.2 (u + cost)) → (∀ ex, r.1 = .inr ex → WX x pc ls rest r.2 (u + cost) ex) → WG x pc ls (as.reverse ++ rest) G u
theorem Pc_blind {D : va_G} {cs : Nat → ClassId} {b : Nat} {ad : Rf → Nat} {adV : Nat → Nat} {sc : Nat × (Nat → Int32)} {L : List Rf} {XT : Nat × (Nat → Int32) → va_W → Prop} {as : List AV} {G : GS} : FrameBlind (Pc_ D cs b ad adV sc L XT as G) := by
  intro a U g mk q
  obtain ⟨q0, q1, q2, q3⟩ := q
  exact ⟨q0, q1, KS_move (s := U) (U := U.calling g mk a) (State.WarmedH.refl U) (Nat.le_refl _) (fun _ _ _ => rfl) q2, q3⟩
theorem cats_eq (ad : Rf → Nat) : ∀ l : List AV, ((l.map (rv ad)).map fun v => v.category).sum = ai_cats l
  | [] => rfl
  | v :: l => by rw [List.map_cons, List.map_cons, List.sum_cons, cats_eq ad l, ai_cats, ai_cat_eq ad v]
theorem toList_map (ad : Rf → Nat) (v : Option AV) (rest : List AV) : (v.map (rv ad)).toList ++ rest.map (rv ad) = (v.toList ++ rest).map (rv ad) := by cases v <;> rfl
section Rows
variable {p : Program} {l : Launch} {e : Env} {R : Room} {s : State} {m : MethodId} {args : Array Value} {below : List Frame} {meth : Method} {c : Code} {Q : State → Prop} {H : Heap} {locs : List Loc} {cells slots mc ms pc : Nat} {sl : Array Slot} {st0 rest : List Value}
variable {D : va_G} {cs : Nat → ClassId} {b : Nat} {ad : Rf → Nat} {L : List Rf} {XT : Nat × (Nat → Int32) → va_W → Prop} {r : Out × GS} {arr : Array Value}
theorem ai_row (hr : va_Run p l e R s m args below meth c H locs cells slots mc ms (F0 m pc sl st0) rest (Qc_ D cs b ad L XT r arr) (Ab b)) (hS : va_S (Ab b) s.heap H locs)
    (kk : ∀ v, r.1 = .inl v → vAo L v → ∀ (H1 : Heap) (locs1 : List Loc), PW D cs b ad L XT r.2 H1 → va_S (Ab b) s.heap H1 locs1 → W p l e R s m args below meth c H1 locs1 (cells + mc) (slots + ms) Q (F0 m (pc + 3) sl ((v.map (rv ad)).toList ++ rest))) : W p l e R s m args below meth c H locs cells slots Q (F0 m pc sl st0) := by
  intro T hT X
  obtain ⟨v, st₀, t, T', L', h0, X', hL, e1, e2, ⟨⟨v', ho, hvo, hoc, hP⟩, hz, hk⟩, st⟩ := hr T hT X
  cases hoc
  rw [h0] at hz hk
  obtain ⟨t2, a1, b1⟩ := kk v' ho hvo T'.heap (locs ++ L') (by rw [e1]; exact hP)
    ⟨Nat.le_trans hS.1 (by rw [e1]; exact hz), fun q h1 h2 => by rw [e1, hk q (Nat.lt_of_lt_of_le h1 hS.1) h2]; exact hS.2.1 q h1 h2, fun q hq => by
      rcases List.mem_append.mp hq with h | h
      · exact hS.2.2 q h
      · exact hL q h⟩ T' rfl X'
  exact ⟨t2, st t2 a1, b1⟩
theorem ai_rowX (hr : vx_Run p l e R s m args below meth c H locs cells slots mc ms (F0 m pc sl st0) rest (Qc_ D cs b ad L XT r arr) (XC_ D cs b ad L XT r) (Ab b)) (hS : va_S (Ab b) s.heap H locs)
    (kk : ∀ v, r.1 = .inl v → vAo L v → ∀ (H1 : Heap) (locs1 : List Loc), PW D cs b ad L XT r.2 H1 → va_S (Ab b) s.heap H1 locs1 → W p l e R s m args below meth c H1 locs1 (cells + mc) (slots + ms) Q (F0 m (pc + 3) sl ((v.map (rv ad)).toList ++ rest)))
    (kx : ∀ ex, r.1 = .inr ex → ∀ (H1 : Heap) (locs1 : List Loc) (q : Addr) (ce : Cell), PW D cs b ad L XT r.2 H1 → va_S (Ab b) s.heap H1 locs1 → H1[q]? = some ce → ce.vm = .none → s.vm.findClass (exN ex) = some ce.cls → vx_W p l e R s m args below meth c H1 locs1 (cells + mc) (slots + ms) Q (F0 m pc sl rest) q) : W p l e R s m args below meth c H locs cells slots Q (F0 m pc sl st0) := by
  intro T hT X
  have fr : ∀ {t T' : State} {L' : List Loc} {st₀ : State}, st₀.heap = H → T'.heap = t.heap → (∀ q ∈ L', Ab b q.base) → va_F (Ab b) st₀ t → va_S (Ab b) s.heap T'.heap (locs ++ L') := by
    intro t T' L' st₀ h0 e1 hL hF
    obtain ⟨hz, hk⟩ := hF
    rw [h0] at hz hk
    exact ⟨Nat.le_trans hS.1 (by rw [e1]; exact hz), fun q h1 h2 => by rw [e1, hk q (Nat.lt_of_lt_of_le h1 hS.1) h2]; exact hS.2.1 q h1 h2, fun q hq => by
      rcases List.mem_append.mp hq with h | h
      · exact hS.2.2 q h
      · exact hL q h⟩
  rcases hr T hT X with ⟨v, st₀, t, T', L', h0, X', hL, e1, e2, ⟨⟨v', ho, hvo, hoc, hP⟩, hF⟩, st⟩ | ⟨q, st₀, t, T', L', E, ce, h0, X', hL, e1, e2, ⟨⟨ex, ho, hE, hP⟩, hF⟩, hce, hcv, hcl, st⟩
  · cases hoc
    obtain ⟨t2, a1, b1⟩ := kk v' ho hvo T'.heap (locs ++ L') (by rw [e1]; exact hP) (fr h0 e1 hL hF) T' rfl X'
    exact ⟨t2, st t2 a1, b1⟩
  · subst hE
    obtain ⟨t2, a1, b1⟩ := kx ex ho T'.heap (locs ++ L') q ce (by rw [e1]; exact hP) (fr h0 e1 hL hF) (by rw [e1]; exact hce) hcv hcl T' rfl X'
    exact ⟨t2, st.trans a1, b1⟩
end Rows
theorem lw_good : ∀ w ∈ lw_all, goodWord w = true := fun _ h => (List.mem_filter.mp h).2
theorem goodIn_all {ws : List Cond} (h : ∀ w ∈ ws, w ∈ lw_all) : GoodIn lw_all ws := fun w hw => ⟨h w hw, good_of_word (lw_good w (h w hw))⟩
theorem in_cons {w : Cond} {ws : List Cond} (h : w ∈ lw_all) (t : ∀ w ∈ ws, w ∈ lw_all) : ∀ v ∈ w :: ws, v ∈ lw_all := fun v hv => (List.mem_cons.mp hv).elim (fun e => e ▸ h) (t v)
theorem in_self : ∀ w ∈ lw_all, w ∈ lw_all := fun _ h => h
/-- a receiver, an object of the world or a string constant -/
def RC (C : String) (q : Rf) : Prop := (∃ ci n, kd q.2 = some (.inl (ci, n)) ∧ ∃ y : vw_C, cls_[ci]? = some y ∧ y.1 = C) ∨ (q.2 = 200 ∧ q.1 < 7 ∧ C = "java/lang/String")
theorem RC_recv {D : va_G} {cs : Nat → ClassId} {b : Nat} {ad : Rf → Nat} {adV : Nat → Nat} {sc : Nat × (Nat → Int32)} {L : List Rf} {XT : Nat × (Nat → Int32) → va_W → Prop} {s : State} {H : Heap} {locs : List Loc} {G : GS} {q : Rf} {C : String} (h : RC C q) (hL : Lok L) (hq : vA L (.inr q)) (hKS : KS D cs b ad adV sc s s.heap) (hS : va_S (Ab b) s.heap H locs) (hP : PW D cs b ad L XT G H) : ∃ cell : Cell, H[ad q]? = some cell ∧ cell.vm.isStatics = false ∧ s.vm.findClass C = some cell.cls := by
  rcases h with ⟨ci, n, h1, y, h2, rfl⟩ | ⟨h1, h2, rfl⟩
  · obtain ⟨w0, -, hP, -⟩ := hP
    obtain ⟨k, hk, -⟩ := cells_get (cs := cs) (ad := ad) hL.1 (hq (by rw [h1]; rfl)) G w0
    rw [ent_o h1] at hk
    exact va_recv hKS.1 hP h2 hk
  · obtain ⟨j, k⟩ := q
    have h1 : k = 200 := h1
    subst h1
    exact vk_recv (i := j) hKS.2.2.2.2.2.1.1 h2 hS
theorem pc_of {D : va_G} {cs : Nat → ClassId} {b : Nat} {ad : Rf → Nat} {adV : Nat → Nat} {sc : Nat × (Nat → Int32)} {L : List Rf} {XT : Nat × (Nat → Int32) → va_W → Prop} {s U : State} {H : Heap} {locs : List Loc} {G : GS} {as : List AV} (hbs : b ≤ s.heap.size) (hKS : KS D cs b ad adV sc s s.heap) (hS : va_S (Ab b) s.heap H locs) (hP : PW D cs b ad L XT G H) (hU : U.heap = H) (hW : s.WarmedH U.vm) : Pc_ D cs b ad adV sc L XT as G (as.map (rv ad)).toArray U :=
  ⟨rfl, by rw [hU]; exact hP, by rw [hU]; exact KS_move hW hS.1 hS.2.1 hKS, by rw [hU]; exact Nat.le_trans hbs hS.1⟩
theorem stk_V (ad : Rf → Nat) (q : Rf) (tl rest : List AV) : ((.inr q :: tl : List AV).reverse ++ rest).map (rv ad) = (tl.map (rv ad)).reverse ++ .ref (ad q) :: rest.map (rv ad) := by
  simp [rv]
theorem stk_S (ad : Rf → Nat) (as rest : List AV) : (as.reverse ++ rest).map (rv ad) = (as.map (rv ad)).reverse ++ rest.map (rv ad) := by
  simp
def cxSide (sd : Sd) (x : CX) : Prop := match x with
  | (_, (D, cs, _, ad, _, _, L, XT), _) => sd D cs ad L XT
section CWs
variable {x : CX} {pc idx n lev cost maxL : Nat} {y : MethodName} {bytes : ByteArray} {ret : Option FieldType} {C : String} {sd : Sd} {A : List AV → GS → Res}
theorem cwN_V (hF : FX x) (hd : decode (cxC x) pc = .ok (.invokevirtual idx, 3)) (hC : CtN sd (cxH x) y (.code y bytes maxL ret :: lw_all) lev cost A) (hsd : cxSide sd x)
    (w1 : Cond.methodLink (cxO x) idx y ∈ lw_all) (w2 : Cond.instanceMethod y ∈ lw_all) (w3 : Cond.selects C y y ∈ lw_all) (w4 : Cond.initialized C ∈ lw_all) (w5 : Cond.code y bytes maxL ret ∈ lw_all)
    (hy : y.cls = C ∧ y.cls ≠ "java/lang/invoke/MethodHandle" ∧ y.cls ≠ "java/lang/invoke/VarHandle" ∧ (parseMethodDescriptor y.desc).map (fun d => d.parameters.length) = some n) (hm : maxL ≤ 40) (hlv : lev + 1 ≤ cxV x)
    (hA : ∀ as G r, A as G = some r → ∃ q tl, as = .inr q :: tl ∧ tl.length = n ∧ RC C q) : CW x pc cost A := by
  obtain ⟨⟨p, l, e, R, s, m, args, below, meth, c, Q⟩, ⟨D, cs, b, ad, adV, sc, L, XT⟩, cc, nL, own, c0, s0, seg, lv⟩ := x
  obtain ⟨hx, hb, hml, hown, hts, hKS, hbs, hL, hlocks, hR1, hR2, hR3, hR4⟩ := hF
  intro as rest G r ls u hr hvs hcat hcost kk kx H locs cells slots sl hP hS hl h1 h2
  have hcost : u + cost ≤ seg := hcost
  have hlv : lev + 1 ≤ lv := hlv
  obtain ⟨q, tl, rfl, htl, hrc⟩ := hA as G r hr
  have hM := hC D cs b ad adV sc L XT hL hsd _ G r hr hvs
  have hg : GoodIn lw_all (wsV own idx C y (.code y bytes maxL ret :: lw_all)) := goodIn_all (in_cons w1 (in_cons w2 (in_cons w3 (in_cons w4 (in_cons w5 in_self)))))
  have hrun := va_runV (cells := cells) (slots := slots) (locs := locs) (meth := meth) (As := tl.map (rv ad)) (rest := rest.map (rv ad)) (b := ad q) (C := C) (g := F0 m pc sl (((.inr q :: tl : List AV).reverse ++ rest).map (rv ad))) (p := p) (e := e) (below := below) (R := R) ⟨hx, hb, hml, hown, hts⟩ hM
    (cwV n hts hg rfl rfl rfl hy ⟨(by show lev + 1 ≤ R.frames; omega), (by show 8 + (maxL + 11) + 64 * lev ≤ R.locals; omega)⟩) ⟨Pc_blind, RC_recv hrc hL (hvs _ List.mem_cons_self) hKS hS hP, fun U hU hW => pc_of hbs hKS hS hP hU hW⟩
    rfl (by rw [List.length_map]; exact htl) hl.2.1 (stk_V ad q tl rest) (lv_room (by rw [cats_eq]; exact hcat)) hd ⟨by omega, by omega⟩
  exact ai_row hrun hS (fun v hv hvo H1 locs1 g1 g2 => by rw [toList_map]; exact kk v hv hvo H1 locs1 _ _ sl g1 g2 hl (by omega) (by omega))
theorem cwN_S (hF : FX x) (hd : decode (cxC x) pc = .ok (.invokestatic idx, 3)) (hC : CtN sd (cxH x) y (.code y bytes maxL ret :: lw_all) lev cost A) (hsd : cxSide sd x)
    (w1 : Cond.methodLink (cxO x) idx y ∈ lw_all) (w2 : Cond.static y ∈ lw_all) (w4 : Cond.initialized y.cls ∈ lw_all) (w5 : Cond.code y bytes maxL ret ∈ lw_all)
    (hy : y.cls ≠ "java/lang/invoke/MethodHandle" ∧ y.cls ≠ "java/lang/invoke/VarHandle" ∧ (parseMethodDescriptor y.desc).map (fun d => d.parameters.length) = some n) (hm : maxL ≤ 40) (hlv : lev + 1 ≤ cxV x)
    (hA : ∀ as G r, A as G = some r → as.length = n) : CW x pc cost A := by
  obtain ⟨⟨p, l, e, R, s, m, args, below, meth, c, Q⟩, ⟨D, cs, b, ad, adV, sc, L, XT⟩, cc, nL, own, c0, s0, seg, lv⟩ := x
  obtain ⟨hx, hb, hml, hown, hts, hKS, hbs, hL, hlocks, hR1, hR2, hR3, hR4⟩ := hF
  intro as rest G r ls u hr hvs hcat hcost kk kx H locs cells slots sl hP hS hl h1 h2
  have hcost : u + cost ≤ seg := hcost
  have hlv : lev + 1 ≤ lv := hlv
  have hM := hC D cs b ad adV sc L XT hL hsd _ G r hr hvs
  have hg : GoodIn lw_all (va_wsS own idx y (.code y bytes maxL ret :: lw_all)) := goodIn_all (in_cons w1 (in_cons w2 (in_cons w4 (in_cons w5 in_self))))
  have hrun := va_runS (cells := cells) (slots := slots) (locs := locs) (meth := meth) (As := as.map (rv ad)) (rest := rest.map (rv ad)) (g := F0 m pc sl ((as.reverse ++ rest).map (rv ad))) (p := p) (e := e) (below := below) (R := R) ⟨hx, hb, hml, hown, hts⟩ hM
    (va_cwS n hts hg rfl rfl rfl hy ⟨(by show lev + 1 ≤ R.frames; omega), (by show 8 + (maxL + 11) + 64 * lev ≤ R.locals; omega)⟩) ⟨Pc_blind, fun U hU hW => pc_of hbs hKS hS hP hU hW⟩
    rfl (by rw [List.length_map]; exact hA as G r hr) hl.2.1 (stk_S ad as rest) (lv_room (by rw [cats_eq]; exact hcat)) hd ⟨by omega, by omega⟩
  exact ai_row hrun hS (fun v hv hvo H1 locs1 g1 g2 => by rw [toList_map]; exact kk v hv hvo H1 locs1 _ _ sl g1 g2 hl (by omega) (by omega))
theorem cwX_V (hF : FX x) (hd : decode (cxC x) pc = .ok (.invokevirtual idx, 3)) (hC : CtX sd (cxH x) y (.code y bytes maxL ret :: lw_all) lev cost A) (hsd : cxSide sd x)
    (w1 : Cond.methodLink (cxO x) idx y ∈ lw_all) (w2 : Cond.instanceMethod y ∈ lw_all) (w3 : Cond.selects C y y ∈ lw_all) (w4 : Cond.initialized C ∈ lw_all) (w5 : Cond.code y bytes maxL ret ∈ lw_all)
    (hy : y.cls = C ∧ y.cls ≠ "java/lang/invoke/MethodHandle" ∧ y.cls ≠ "java/lang/invoke/VarHandle" ∧ (parseMethodDescriptor y.desc).map (fun d => d.parameters.length) = some n) (hm : maxL ≤ 40) (hlv : lev + 1 ≤ cxV x)
    (hA : ∀ as G r, A as G = some r → ∃ q tl, as = .inr q :: tl ∧ tl.length = n ∧ RC C q) : CW x pc cost A := by
  obtain ⟨⟨p, l, e, R, s, m, args, below, meth, c, Q⟩, ⟨D, cs, b, ad, adV, sc, L, XT⟩, cc, nL, own, c0, s0, seg, lv⟩ := x
  obtain ⟨hx, hb, hml, hown, hts, hKS, hbs, hL, hlocks, hR1, hR2, hR3, hR4⟩ := hF
  intro as rest G r ls u hr hvs hcat hcost kk kx H locs cells slots sl hP hS hl h1 h2
  have hcost : u + cost ≤ seg := hcost
  have hlv : lev + 1 ≤ lv := hlv
  obtain ⟨q, tl, rfl, htl, hrc⟩ := hA as G r hr
  have hM := hC D cs b ad adV sc L XT hL hsd _ G r hr hvs
  have hg : GoodIn lw_all (wsV own idx C y (.code y bytes maxL ret :: lw_all)) := goodIn_all (in_cons w1 (in_cons w2 (in_cons w3 (in_cons w4 (in_cons w5 in_self)))))
  have hrun := vx_runV (cells := cells) (slots := slots) (locs := locs) (meth := meth) (As := tl.map (rv ad)) (rest := rest.map (rv ad)) (b := ad q) (C := C) (g := F0 m pc sl (((.inr q :: tl : List AV).reverse ++ rest).map (rv ad))) (p := p) (e := e) (below := below) (R := R) ⟨hx, hb, hml, hown, hts⟩ hM
    (cwV n hts hg rfl rfl rfl hy ⟨(by show lev + 1 ≤ R.frames; omega), (by show 8 + (maxL + 11) + 64 * lev ≤ R.locals; omega)⟩) ⟨Pc_blind, RC_recv hrc hL (hvs _ List.mem_cons_self) hKS hS hP, fun U hU hW => pc_of hbs hKS hS hP hU hW⟩
    rfl (by rw [List.length_map]; exact htl) hl.2.1 (stk_V ad q tl rest) (lv_room (by rw [cats_eq]; exact hcat)) hd ⟨by omega, by omega⟩
  exact ai_rowX hrun hS (fun v hv hvo H1 locs1 g1 g2 => by rw [toList_map]; exact kk v hv hvo H1 locs1 _ _ sl g1 g2 hl (by omega) (by omega)) (fun ex hv H1 locs1 q9 ce g1 g2 g3 g4 g5 => kx ex hv H1 locs1 _ _ sl q9 ce g1 g2 hl (by omega) (by omega) g3 g4 g5)
theorem cwX_S (hF : FX x) (hd : decode (cxC x) pc = .ok (.invokestatic idx, 3)) (hC : CtX sd (cxH x) y (.code y bytes maxL ret :: lw_all) lev cost A) (hsd : cxSide sd x)
    (w1 : Cond.methodLink (cxO x) idx y ∈ lw_all) (w2 : Cond.static y ∈ lw_all) (w4 : Cond.initialized y.cls ∈ lw_all) (w5 : Cond.code y bytes maxL ret ∈ lw_all)
    (hy : y.cls ≠ "java/lang/invoke/MethodHandle" ∧ y.cls ≠ "java/lang/invoke/VarHandle" ∧ (parseMethodDescriptor y.desc).map (fun d => d.parameters.length) = some n) (hm : maxL ≤ 40) (hlv : lev + 1 ≤ cxV x)
    (hA : ∀ as G r, A as G = some r → as.length = n) : CW x pc cost A := by
  obtain ⟨⟨p, l, e, R, s, m, args, below, meth, c, Q⟩, ⟨D, cs, b, ad, adV, sc, L, XT⟩, cc, nL, own, c0, s0, seg, lv⟩ := x
  obtain ⟨hx, hb, hml, hown, hts, hKS, hbs, hL, hlocks, hR1, hR2, hR3, hR4⟩ := hF
  intro as rest G r ls u hr hvs hcat hcost kk kx H locs cells slots sl hP hS hl h1 h2
  have hcost : u + cost ≤ seg := hcost
  have hlv : lev + 1 ≤ lv := hlv
  have hM := hC D cs b ad adV sc L XT hL hsd _ G r hr hvs
  have hg : GoodIn lw_all (va_wsS own idx y (.code y bytes maxL ret :: lw_all)) := goodIn_all (in_cons w1 (in_cons w2 (in_cons w4 (in_cons w5 in_self))))
  have hrun := vx_runS (cells := cells) (slots := slots) (locs := locs) (meth := meth) (As := as.map (rv ad)) (rest := rest.map (rv ad)) (g := F0 m pc sl ((as.reverse ++ rest).map (rv ad))) (p := p) (e := e) (below := below) (R := R) ⟨hx, hb, hml, hown, hts⟩ hM
    (va_cwS n hts hg rfl rfl rfl hy ⟨(by show lev + 1 ≤ R.frames; omega), (by show 8 + (maxL + 11) + 64 * lev ≤ R.locals; omega)⟩) ⟨Pc_blind, fun U hU hW => pc_of hbs hKS hS hP hU hW⟩
    rfl (by rw [List.length_map]; exact hA as G r hr) hl.2.1 (stk_S ad as rest) (lv_room (by rw [cats_eq]; exact hcat)) hd ⟨by omega, by omega⟩
  exact ai_rowX hrun hS (fun v hv hvo H1 locs1 g1 g2 => by rw [toList_map]; exact kk v hv hvo H1 locs1 _ _ sl g1 g2 hl (by omega) (by omega)) (fun ex hv H1 locs1 q9 ce g1 g2 g3 g4 g5 => kx ex hv H1 locs1 _ _ sl q9 ce g1 g2 hl (by omega) (by omega) g3 g4 g5)
theorem cwN_SN {host : String} (hF : FX x) (hd : decode (cxC x) pc = .ok (.invokestatic idx, 3)) (hC : CtN sd (cxH x) y (.code y bytes maxL ret :: lw_all) lev cost A) (hsd : cxSide sd x)
    (w1 : Cond.methodLinkNest (cxO x) idx y host ∈ nw_all) (w2 : Cond.static y ∈ lw_all) (w4 : Cond.initialized y.cls ∈ lw_all) (w5 : Cond.code y bytes maxL ret ∈ lw_all)
    (hy : y.cls ≠ "java/lang/invoke/MethodHandle" ∧ y.cls ≠ "java/lang/invoke/VarHandle" ∧ (parseMethodDescriptor y.desc).map (fun d => d.parameters.length) = some n) (hm : maxL ≤ 40) (hlv : lev + 1 ≤ cxV x)
    (hA : ∀ as G r, A as G = some r → as.length = n) : CW x pc cost A := by
  obtain ⟨⟨p, l, e, R, s, m, args, below, meth, c, Q⟩, ⟨D, cs, b, ad, adV, sc, L, XT⟩, cc, nL, own, c0, s0, seg, lv⟩ := x
  obtain ⟨hx, hb, hml, hown, hts, hKS, hbs, hL, hlocks, hR1, hR2, hR3, hR4⟩ := hF
  intro as rest G r ls u hr hvs hcat hcost kk kx H locs cells slots sl hP hS hl h1 h2
  have hcost : u + cost ≤ seg := hcost
  have hlv : lev + 1 ≤ lv := hlv
  have hM := hC D cs b ad adV sc L XT hL hsd _ G r hr hvs
  have hg : GoodIn lw_all (.code y bytes maxL ret :: lw_all) := goodIn_all (in_cons w5 in_self)
  have hrun := va_runSN (cells := cells) (slots := slots) (locs := locs) (meth := meth) (As := as.map (rv ad)) (rest := rest.map (rv ad)) (g := F0 m pc sl ((as.reverse ++ rest).map (rv ad))) (p := p) (e := e) (below := below) (R := R) ⟨hx, hb, hml, hown, hts⟩ hM
    ⟨va_cnB n hts hg rfl rfl rfl (hKS.2.2.2.1 _ w1) (hts _ w4) hy ⟨(by show lev + 1 ≤ R.frames; omega), (by show 8 + (maxL + 11) + 64 * lev ≤ R.locals; omega)⟩, hts _ w2, trivial⟩ ⟨Pc_blind, fun U hU hW => pc_of hbs hKS hS hP hU hW⟩
    rfl (by rw [List.length_map]; exact hA as G r hr) hl.2.1 (stk_S ad as rest) (lv_room (by rw [cats_eq]; exact hcat)) hd ⟨by omega, by omega⟩
  exact ai_row hrun hS (fun v hv hvo H1 locs1 g1 g2 => by rw [toList_map]; exact kk v hv hvo H1 locs1 _ _ sl g1 g2 hl (by omega) (by omega))
theorem cwN_SH {hh : List (Nat × Nat × Nat × Nat)} (hF : FX x) (hd : decode (cxC x) pc = .ok (.invokestatic idx, 3)) (hC : CtN sd (cxH x) y (.codeWith y bytes maxL ret hh :: lw_all) lev cost A) (hsd : cxSide sd x)
    (w1 : Cond.methodLink (cxO x) idx y ∈ lw_all) (w2 : Cond.static y ∈ lw_all) (w4 : Cond.initialized y.cls ∈ lw_all) (w5 : Cond.codeWith y bytes maxL ret hh ∈ lw_all)
    (hy : y.cls ≠ "java/lang/invoke/MethodHandle" ∧ y.cls ≠ "java/lang/invoke/VarHandle" ∧ (parseMethodDescriptor y.desc).map (fun d => d.parameters.length) = some n) (hm : maxL ≤ 40) (hlv : lev + 1 ≤ cxV x)
    (hA : ∀ as G r, A as G = some r → as.length = n) : CW x pc cost A := by
  obtain ⟨⟨p, l, e, R, s, m, args, below, meth, c, Q⟩, ⟨D, cs, b, ad, adV, sc, L, XT⟩, cc, nL, own, c0, s0, seg, lv⟩ := x
  obtain ⟨hx, hb, hml, hown, hts, hKS, hbs, hL, hlocks, hR1, hR2, hR3, hR4⟩ := hF
  intro as rest G r ls u hr hvs hcat hcost kk kx H locs cells slots sl hP hS hl h1 h2
  have hcost : u + cost ≤ seg := hcost
  have hlv : lev + 1 ≤ lv := hlv
  have hM := hC D cs b ad adV sc L XT hL hsd _ G r hr hvs
  have hg : GoodIn lw_all (va_wsS own idx y (.codeWith y bytes maxL ret hh :: lw_all)) := goodIn_all (in_cons w1 (in_cons w2 (in_cons w4 (in_cons w5 in_self))))
  have hrun := vx_runSW (cells := cells) (slots := slots) (locs := locs) (meth := meth) (As := as.map (rv ad)) (rest := rest.map (rv ad)) (g := F0 m pc sl ((as.reverse ++ rest).map (rv ad))) (p := p) (e := e) (below := below) (R := R) ⟨hx, hb, hml, hown, hts⟩ hM
    (vx_cwSW n hts hg rfl rfl rfl hy ⟨(by show lev + 1 ≤ R.frames; omega), (by show 8 + (maxL + 11) + 64 * lev ≤ R.locals; omega)⟩) ⟨Pc_blind, fun U hU hW => pc_of hbs hKS hS hP hU hW⟩
    rfl (by rw [List.length_map]; exact hA as G r hr) hl.2.1 (stk_S ad as rest) (lv_room (by rw [cats_eq]; exact hcat)) hd ⟨by omega, by omega⟩
  exact ai_row hrun hS (fun v hv hvo H1 locs1 g1 g2 => by rw [toList_map]; exact kk v hv hvo H1 locs1 _ _ sl g1 g2 hl (by omega) (by omega))
end CWs
