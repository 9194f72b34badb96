/-! Calls and ends, over an explicit world -/
section JR
variable {p : Program} {l : Launch} {e : Env} {R : Room} {s : State} {m : MethodId} {args : Array Value} {below : List Frame} {meth : Method} {c : Code} {Q : State → Prop} {H : Heap} {locs : List Loc} {cells slots mc ms pc : Nat} {sl : Array Slot} {st0 rest : List Value} {arr : Array Value} {D : va_G} {cs : Nat → ClassId} {b : Nat} {ad : Rf → Nat} {adV : Nat → Nat} {sc : Nat × (Nat → Int32)}
theorem jd_row {post : Option Value → va_W → Prop} (hr : va_Run p l e R s m args below meth c H locs cells slots mc ms (F0 m pc sl st0) rest (Qj (D, cs, b, ad, adV, sc) post arr) (Ab b)) (hS : va_S (Ab b) s.heap H locs)
    (kk : ∀ v w, post v w → ∀ (H1 : Heap) (locs1 : List Loc), va_P D cls_ w H1 → va_D (Ab b) w → va_S (Ab b) s.heap H1 locs1 → W p l e R s m args below meth c H1 locs1 (cells + mc) (slots + ms) Q (F0 m (pc + 3) sl (v.toList ++ rest))) : W p l e R s m args below meth c H locs cells slots Q (F0 m pc sl st0) := by
  intro T hT X
  obtain ⟨v, st₀, t, T', L', h0, X', hL, e1, e2, ⟨⟨v', w, hpo, hoc, hP, hD⟩, hz, hk⟩, st⟩ := hr T hT X
  cases hoc
  rw [h0] at hz hk
  obtain ⟨t2, a1, b1⟩ := kk v w hpo T'.heap (locs ++ L') (by rw [e1]; exact hP) hD
    ⟨Nat.le_trans hS.1 (by rw [e1]; exact hz), fun q h1 h2 => by rw [e1, hk q (Nat.lt_of_lt_of_le h1 hS.1) h2]; exact hS.2.1 q h1 h2, fun q hq => by
      rcases List.mem_append.mp hq with h | h
      · exact hS.2.2 q h
      · exact hL q h⟩ T' rfl X'
  exact ⟨t2, st t2 a1, b1⟩
theorem jd_pre {vs : List Value} {ws : va_W} {U : State} (hbs : b ≤ s.heap.size) (hKS : KS D cs b ad adV sc s s.heap) (hS : va_S (Ab b) s.heap H locs) (hP : va_P D cls_ ws H) (hD : va_D (Ab b) ws) (hU : U.heap = H) (hW : s.WarmedH U.vm) : Pj (D, cs, b, ad, adV, sc) vs ws vs.toArray U :=
  ⟨rfl, by rw [hU]; exact ⟨hP, hD⟩, by rw [hU]; exact KS_move hW hS.1 hS.2.1 hKS, by rw [hU]; exact Nat.le_trans hbs hS.1⟩
end JR
theorem Pj_blind {K : KT} {vs : List Value} {ws : va_W} : FrameBlind (Pj K vs ws) := by
  obtain ⟨D, cs, b, ad, adV, sc⟩ := K
  intro a U g mk q
  obtain ⟨q0, q1, q2, q3⟩ := q
  exact ⟨q0, q1, KS_move (s := U) (U := U.calling g mk a) (State.WarmedH.refl U) (Nat.le_refl _) (fun _ _ _ => rfl) q2, q3⟩
theorem vals_map (ad : Rf → Nat) : ∀ vs : List Value, (vs.map (Sum.inl : Value → AV)).map (rv ad) = vs
  | [] => rfl
  | v :: vs => by rw [List.map_cons, List.map_cons, vals_map ad vs]; rfl
theorem opt_map (ad : Rf → Nat) (v : Option Value) (rest : List AV) : ((v.map (Sum.inl : Value → AV)).toList ++ rest).map (rv ad) = v.toList ++ rest.map (rv ad) := by cases v <;> rfl
theorem stk_J (ad : Rf → Nat) (vs : List Value) (rest : List AV) : ((vs.map (Sum.inl : Value → AV)).reverse ++ rest).map (rv ad) = vs.reverse ++ rest.map (rv ad) := by
  rw [List.map_append, List.map_reverse, vals_map]
section JCall
variable {x : CX} {ws : va_W} {pc : Nat} {ls : Ls} {st rest : List AV} {u idx n lev cost maxL : Nat} {y : MethodName} {bytes : ByteArray} {ret : Option FieldType} {vs : List Value} {h : Nat} {post : Option Value → va_W → Prop}
theorem jd_callS (hF : FX (xw x ws)) (hd : decode (cxC (xw x ws)) pc = .ok (.invokestatic idx, 3)) (hC : JC (cxK x) (cxH x) y bytes maxL ret lev cost vs ws post)
    (w1 : Cond.methodLink (cxO x) idx y ∈ lw_all) (w2 : Cond.static y ∈ lw_all) (w4 : Cond.initialized y.cls ∈ lw_all) (w5 : Cond.code y bytes maxL ret ∈ lw_all)
    (hy : y.cls ≠ "java/lang/invoke/MethodHandle" ∧ y.cls ≠ "java/lang/invoke/VarHandle" ∧ (parseMethodDescriptor y.desc).map (fun d => d.parameters.length) = some n) (hn : vs.length = n) (hm : maxL ≤ 40) (hlv : lev + 1 ≤ cxV x)
    (hst : st = (vs.map Sum.inl).reverse ++ rest) (hcat : ai_cats rest ≤ 8) (hu : u + cost ≤ cxG x) (kk : ∀ v w, post v w → WJ x w (pc + 3) ls ((v.map Sum.inl).toList ++ rest) (u + cost)) : WJ x ws pc ls st u := by
  obtain ⟨⟨p, l, e, R, s, m, args, below, meth, c, Q⟩, ⟨D, cs, b, ad, adV, sc, L, XT⟩, cc, nL, own, c0, s0, seg, lv⟩ := x
  obtain ⟨hx, hb, hml, hown, hts, hKS, hbs, hL, hlocks, hR1, hR2, hR3, hR4⟩ := hF
  intro H locs cells slots sl hP0 hS hl h1 h2
  obtain ⟨hP, hD⟩ := PWj' hP0
  have hu : u + cost ≤ seg := hu
  have hlv : lev + 1 ≤ lv := hlv
  have hg : GoodIn lw_all (va_wsS own idx y (.code y bytes maxL ret :: lw_all)) := goodIn_all (in_cons w1 (in_cons w2 (in_cons w4 (in_cons w5 in_self))))
  subst hst
  have hrun := va_runS (cells := cells) (slots := slots) (locs := locs) (meth := meth) (As := vs) (rest := rest.map (rv ad)) (g := F0 m pc sl (((vs.map Sum.inl).reverse ++ rest).map (rv ad))) (p := p) (e := e) (below := below) (R := R) ⟨hx, hb, hml, hown, hts⟩ hC
    (va_cwS n hts hg rfl rfl rfl hy ⟨(by show lev + 1 ≤ R.frames; omega), (by show 8 + (maxL + 11) + 64 * lev ≤ R.locals; omega)⟩) ⟨Pj_blind, fun U hU hW => jd_pre hbs hKS hS hP hD hU hW⟩
    rfl hn hl.2.1 (stk_J ad vs rest) (lv_room (by rw [cats_eq]; exact hcat)) hd ⟨by omega, by omega⟩
  exact jd_row hrun hS (fun v w hv H1 locs1 g1 g2 g3 => by rw [← opt_map ad]; exact kk v w hv H1 locs1 _ _ sl (PWj g1 g2) g3 hl (by omega) (by omega))
theorem jd_callV {k ci : Nat} {fs : List Value} {q : vw_C} (hF : FX (xw x ws)) (hd : decode (cxC (xw x ws)) pc = .ok (.invokevirtual idx, 3)) (hC : JC (cxK x) (cxH x) y bytes maxL ret lev cost (.ref h :: vs) ws post) (hk : ws[k]? = some (h, .inr (ci, fs))) (hq : cls_[ci]? = some q)
    (w1 : Cond.methodLink (cxO x) idx y ∈ lw_all) (w2 : Cond.instanceMethod y ∈ lw_all) (w3 : Cond.selects q.1 y y ∈ lw_all) (w4 : Cond.initialized q.1 ∈ lw_all) (w5 : Cond.code y bytes maxL ret ∈ lw_all)
    (hy : y.cls = q.1 ∧ y.cls ≠ "java/lang/invoke/MethodHandle" ∧ y.cls ≠ "java/lang/invoke/VarHandle" ∧ (parseMethodDescriptor y.desc).map (fun d => d.parameters.length) = some n) (hn : vs.length = n) (hm : maxL ≤ 40) (hlv : lev + 1 ≤ cxV x)
    (hst : st = (vs.map Sum.inl).reverse ++ .inl (.ref h) :: rest) (hcat : ai_cats rest ≤ 8) (hu : u + cost ≤ cxG x) (kk : ∀ v w, post v w → WJ x w (pc + 3) ls ((v.map Sum.inl).toList ++ rest) (u + cost)) : WJ x ws pc ls st u := by
  obtain ⟨⟨p, l, e, R, s, m, args, below, meth, c, Q⟩, ⟨D, cs, b, ad, adV, sc, L, XT⟩, cc, nL, own, c0, s0, seg, lv⟩ := x
  obtain ⟨hx, hb, hml, hown, hts, hKS, hbs, hL, hlocks, hR1, hR2, hR3, hR4⟩ := hF
  intro H locs cells slots sl hP0 hS hl h1 h2
  obtain ⟨hP, hD⟩ := PWj' hP0
  have hu : u + cost ≤ seg := hu
  have hlv : lev + 1 ≤ lv := hlv
  have hg : GoodIn lw_all (wsV own idx q.1 y (.code y bytes maxL ret :: lw_all)) := goodIn_all (in_cons w1 (in_cons w2 (in_cons w3 (in_cons w4 (in_cons w5 in_self)))))
  subst hst
  have hrun := va_runV (cells := cells) (slots := slots) (locs := locs) (meth := meth) (As := vs) (rest := rest.map (rv ad)) (b := h) (C := q.1) (g := F0 m pc sl (((vs.map Sum.inl).reverse ++ (.inl (.ref h) : AV) :: rest).map (rv ad))) (p := p) (e := e) (below := below) (R := R) ⟨hx, hb, hml, hown, hts⟩ hC
    (cwV n hts hg rfl rfl rfl hy ⟨(by show lev + 1 ≤ R.frames; omega), (by show 8 + (maxL + 11) + 64 * lev ≤ R.locals; omega)⟩) ⟨Pj_blind, va_recv hKS.1 hP hq hk, fun U hU hW => jd_pre hbs hKS hS hP hD hU hW⟩
    rfl hn hl.2.1 (stk_J ad vs (.inl (.ref h) :: rest)) (lv_room (by rw [cats_eq]; exact hcat)) hd ⟨by omega, by omega⟩
  exact jd_row hrun hS (fun v w hv H1 locs1 g1 g2 g3 => by rw [← opt_map ad]; exact kk v w hv H1 locs1 _ _ sl (PWj g1 g2) g3 hl (by omega) (by omega))
/-- a method that the receiver's class inherits -/
theorem jd_callU {k ci : Nat} {fs : List Value} {q : vw_C} (hF : FX (xw x ws)) (hd : decode (cxC (xw x ws)) pc = .ok (.invokevirtual idx, 3)) (hC : JC (cxK x) (cxH x) y bytes maxL ret lev cost (.ref h :: vs) ws post) (hk : ws[k]? = some (h, .inr (ci, fs))) (hq : cls_[ci]? = some q)
    (w1 : Cond.methodLink (cxO x) idx y ∈ lw_all) (w0 : Cond.sameMethod y.cls y.cls y.name y.desc ∈ lw_all) (w2 : Cond.instanceMethod y ∈ lw_all) (w3 : Cond.selects q.1 y y ∈ lw_all) (w4 : Cond.initialized y.cls ∈ lw_all) (w5 : Cond.code y bytes maxL ret ∈ lw_all)
    (hy : y.cls ≠ "java/lang/invoke/MethodHandle" ∧ y.cls ≠ "java/lang/invoke/VarHandle" ∧ (parseMethodDescriptor y.desc).map (fun d => d.parameters.length) = some n) (hn : vs.length = n) (hm : maxL ≤ 40) (hlv : lev + 1 ≤ cxV x)
    (hst : st = (vs.map Sum.inl).reverse ++ .inl (.ref h) :: rest) (hcat : ai_cats rest ≤ 8) (hu : u + cost ≤ cxG x) (kk : ∀ v w, post v w → WJ x w (pc + 3) ls ((v.map Sum.inl).toList ++ rest) (u + cost)) : WJ x ws pc ls st u := by
  obtain ⟨⟨p, l, e, R, s, m, args, below, meth, c, Q⟩, ⟨D, cs, b, ad, adV, sc, L, XT⟩, cc, nL, own, c0, s0, seg, lv⟩ := x
  obtain ⟨hx, hb, hml, hown, hts, hKS, hbs, hL, hlocks, hR1, hR2, hR3, hR4⟩ := hF
  intro H locs cells slots sl hP0 hS hl h1 h2
  obtain ⟨hP, hD⟩ := PWj' hP0
  have hu : u + cost ≤ seg := hu
  have hlv : lev + 1 ≤ lv := hlv
  have hg : GoodIn lw_all (va_wsU own idx q.1 y.cls y y (.code y bytes maxL ret :: lw_all)) := goodIn_all (in_cons w1 (in_cons w0 (in_cons w3 (in_cons w2 (in_cons w4 (in_cons w5 in_self))))))
  subst hst
  have hrun := va_runU (cells := cells) (slots := slots) (locs := locs) (meth := meth) (As := vs) (rest := rest.map (rv ad)) (b := h) (C := q.1) (owner := y.cls) (x := y) (y := y) (g := F0 m pc sl (((vs.map Sum.inl).reverse ++ (.inl (.ref h) : AV) :: rest).map (rv ad))) (p := p) (e := e) (below := below) (R := R) ⟨hx, hb, hml, hown, hts⟩ hC
    (va_cwU n hts hg rfl rfl rfl rfl hy ⟨(by show lev + 1 ≤ R.frames; omega), (by show 8 + (maxL + 11) + 64 * lev ≤ R.locals; omega)⟩) ⟨Pj_blind, va_recv hKS.1 hP hq hk, fun U hU hW => jd_pre hbs hKS hS hP hD hU hW⟩
    rfl hn hl.2.1 (stk_J ad vs (.inl (.ref h) :: rest)) (lv_room (by rw [cats_eq]; exact hcat)) hd ⟨by omega, by omega⟩
  exact jd_row hrun hS (fun v w hv H1 locs1 g1 g2 g3 => by rw [← opt_map ad]; exact kk v w hv H1 locs1 _ _ sl (PWj g1 g2) g3 hl (by omega) (by omega))
/-- super.m(..) -/
theorem jd_callSU {k ci : Nat} {fs : List Value} {q : vw_C} (hF : FX (xw x ws)) (hd : decode (cxC (xw x ws)) pc = .ok (.invokespecial idx, 3)) (hC : JC (cxK x) (cxH x) y bytes maxL ret lev cost (.ref h :: vs) ws post) (hk : ws[k]? = some (h, .inr (ci, fs))) (hq : cls_[ci]? = some q)
    (w1 : Cond.methodLink (cxO x) idx y ∈ lw_all) (w0 : Cond.sameMethod y.cls y.cls y.name y.desc ∈ lw_all) (w6 : Cond.superclass (cxO x) y.cls ∈ lw_all) (w2 : Cond.instanceMethod y ∈ lw_all) (w4 : Cond.initialized y.cls ∈ lw_all) (w5 : Cond.code y bytes maxL ret ∈ lw_all)
    (hy : y.name ≠ "<init>" ∧ (parseMethodDescriptor y.desc).map (fun d => d.parameters.length) = some n) (hn : vs.length = n) (hm : maxL ≤ 40) (hlv : lev + 1 ≤ cxV x)
    (hst : st = (vs.map Sum.inl).reverse ++ .inl (.ref h) :: rest) (hcat : ai_cats rest ≤ 8) (hu : u + cost ≤ cxG x) (kk : ∀ v w, post v w → WJ x w (pc + 3) ls ((v.map Sum.inl).toList ++ rest) (u + cost)) : WJ x ws pc ls st u := by
  obtain ⟨⟨p, l, e, R, s, m, args, below, meth, c, Q⟩, ⟨D, cs, b, ad, adV, sc, L, XT⟩, cc, nL, own, c0, s0, seg, lv⟩ := x
  obtain ⟨hx, hb, hml, hown, hts, hKS, hbs, hL, hlocks, hR1, hR2, hR3, hR4⟩ := hF
  intro H locs cells slots sl hP0 hS hl h1 h2
  obtain ⟨hP, hD⟩ := PWj' hP0
  have hu : u + cost ≤ seg := hu
  have hlv : lev + 1 ≤ lv := hlv
  have hg : GoodIn lw_all (va_wsSU own idx y (.code y bytes maxL ret :: lw_all)) := goodIn_all (in_cons w1 (in_cons w0 (in_cons w6 (in_cons w2 (in_cons w4 (in_cons w5 in_self))))))
  subst hst
  have hrun := va_runSU (hKS.1.1 ci q hq).2 (cells := cells) (slots := slots) (locs := locs) (meth := meth) (As := vs) (rest := rest.map (rv ad)) (b := h) (g := F0 m pc sl (((vs.map Sum.inl).reverse ++ (.inl (.ref h) : AV) :: rest).map (rv ad))) (p := p) (e := e) (below := below) (R := R) ⟨hx, hb, hml, hown, hts⟩ hC
    (va_cwSU n hts hg rfl rfl rfl hy ⟨(by show lev + 1 ≤ R.frames; omega), (by show 8 + (maxL + 11) + 64 * lev ≤ R.locals; omega)⟩) ⟨Pj_blind, va_recv hKS.1 hP hq hk, fun U hU hW => jd_pre hbs hKS hS hP hD hU hW⟩
    rfl hn hl.2.1 (stk_J ad vs (.inl (.ref h) :: rest)) (lv_room (by rw [cats_eq]; exact hcat)) hd ⟨by omega, by omega⟩
  exact jd_row hrun hS (fun v w hv H1 locs1 g1 g2 g3 => by rw [← opt_map ad]; exact kk v w hv H1 locs1 _ _ sl (PWj g1 g2) g3 hl (by omega) (by omega))
/-- a constructor -/
theorem jd_callI (hF : FX (xw x ws)) (hd : decode (cxC (xw x ws)) pc = .ok (.invokespecial idx, 3)) (hC : JC (cxK x) (cxH x) y bytes maxL none lev cost (.ref h :: vs) ws post)
    (w1 : Cond.methodLink (cxO x) idx y ∈ lw_all) (w2 : Cond.instanceMethod y ∈ lw_all) (w4 : Cond.initialized y.cls ∈ lw_all) (w5 : Cond.code y bytes maxL none ∈ lw_all) (hy1 : y.name = "<init>")
    (hy : y.cls ≠ "java/lang/invoke/MethodHandle" ∧ y.cls ≠ "java/lang/invoke/VarHandle" ∧ (parseMethodDescriptor y.desc).map (fun d => d.parameters.length) = some n) (hn : vs.length = n) (hm : maxL ≤ 40) (hlv : lev + 1 ≤ cxV x)
    (hst : st = (vs.map Sum.inl).reverse ++ .inl (.ref h) :: rest) (hcat : ai_cats rest ≤ 8) (hu : u + cost ≤ cxG x) (kk : ∀ v w, post v w → WJ x w (pc + 3) ls ((v.map Sum.inl).toList ++ rest) (u + cost)) : WJ x ws pc ls st u := by
  obtain ⟨⟨p, l, e, R, s, m, args, below, meth, c, Q⟩, ⟨D, cs, b, ad, adV, sc, L, XT⟩, cc, nL, own, c0, s0, seg, lv⟩ := x
  obtain ⟨hx, hb, hml, hown, hts, hKS, hbs, hL, hlocks, hR1, hR2, hR3, hR4⟩ := hF
  intro H locs cells slots sl hP0 hS hl h1 h2
  obtain ⟨hP, hD⟩ := PWj' hP0
  have hu : u + cost ≤ seg := hu
  have hlv : lev + 1 ≤ lv := hlv
  have hg : GoodIn lw_all (.code y bytes maxL none :: lw_all) := goodIn_all (in_cons w5 in_self)
  subst hst
  have hrun := va_runI (cells := cells) (slots := slots) (locs := locs) (meth := meth) (As := vs) (rest := rest.map (rv ad)) (b := h) (g := F0 m pc sl (((vs.map Sum.inl).reverse ++ (.inl (.ref h) : AV) :: rest).map (rv ad))) (p := p) (e := e) (below := below) (R := R) ⟨hx, hb, hml, hown, hts⟩ hC
    (cwI n hts hg rfl rfl rfl (hts _ w4) (hts _ w1) (hts _ w2) hy1 hy ⟨(by show lev + 1 ≤ R.frames; omega), (by show 8 + (maxL + 11) + 64 * lev ≤ R.locals; omega)⟩) ⟨Pj_blind, fun U hU hW => jd_pre hbs hKS hS hP hD hU hW⟩
    rfl hn hl.2.1 (stk_J ad vs (.inl (.ref h) :: rest)) (lv_room (by rw [cats_eq]; exact hcat)) hd ⟨by omega, by omega⟩
  exact jd_row hrun hS (fun v w hv H1 locs1 g1 g2 g3 => by rw [← opt_map ad]; exact kk v w hv H1 locs1 _ _ sl (PWj g1 g2) g3 hl (by omega) (by omega))
/-- a nest mate's constructor -/
theorem jd_callIN {host : String} (hF : FX (xw x ws)) (hd : decode (cxC (xw x ws)) pc = .ok (.invokespecial idx, 3)) (hC : JC (cxK x) (cxH x) y bytes maxL none lev cost (.ref h :: vs) ws post)
    (w1 : Cond.methodLinkNest (cxO x) idx y host ∈ nw_all) (w2 : Cond.instanceMethod y ∈ lw_all) (w4 : Cond.initialized y.cls ∈ lw_all) (w5 : Cond.code y bytes maxL none ∈ lw_all) (hy1 : y.name = "<init>")
    (hy : y.cls ≠ "java/lang/invoke/MethodHandle" ∧ y.cls ≠ "java/lang/invoke/VarHandle" ∧ (parseMethodDescriptor y.desc).map (fun d => d.parameters.length) = some n) (hn : vs.length = n) (hm : maxL ≤ 40) (hlv : lev + 1 ≤ cxV x)
    (hst : st = (vs.map Sum.inl).reverse ++ .inl (.ref h) :: rest) (hcat : ai_cats rest ≤ 8) (hu : u + cost ≤ cxG x) (kk : ∀ v w, post v w → WJ x w (pc + 3) ls ((v.map Sum.inl).toList ++ rest) (u + cost)) : WJ x ws pc ls st u := by
  obtain ⟨⟨p, l, e, R, s, m, args, below, meth, c, Q⟩, ⟨D, cs, b, ad, adV, sc, L, XT⟩, cc, nL, own, c0, s0, seg, lv⟩ := x
  obtain ⟨hx, hb, hml, hown, hts, hKS, hbs, hL, hlocks, hR1, hR2, hR3, hR4⟩ := hF
  intro H locs cells slots sl hP0 hS hl h1 h2
  obtain ⟨hP, hD⟩ := PWj' hP0
  have hu : u + cost ≤ seg := hu
  have hlv : lev + 1 ≤ lv := hlv
  have hg : GoodIn lw_all (.code y bytes maxL none :: lw_all) := goodIn_all (in_cons w5 in_self)
  subst hst
  have hrun := va_runIN (cells := cells) (slots := slots) (locs := locs) (meth := meth) (As := vs) (rest := rest.map (rv ad)) (b := h) (g := F0 m pc sl (((vs.map Sum.inl).reverse ++ (.inl (.ref h) : AV) :: rest).map (rv ad))) (p := p) (e := e) (below := below) (R := R) ⟨hx, hb, hml, hown, hts⟩ hC
    ⟨va_cnB n hts hg rfl rfl rfl (hKS.2.2.2.1 _ w1) (hts _ w4) hy ⟨(by show lev + 1 ≤ R.frames; omega), (by show 8 + (maxL + 11) + 64 * lev ≤ R.locals; omega)⟩, hy1, hts _ w2⟩ ⟨Pj_blind, fun U hU hW => jd_pre hbs hKS hS hP hD hU hW⟩
    rfl hn hl.2.1 (stk_J ad vs (.inl (.ref h) :: rest)) (lv_room (by rw [cats_eq]; exact hcat)) hd ⟨by omega, by omega⟩
  exact jd_row hrun hS (fun v w hv H1 locs1 g1 g2 g3 => by rw [← opt_map ad]; exact kk v w hv H1 locs1 _ _ sl (PWj g1 g2) g3 hl (by omega) (by omega))
theorem jd_obj (hF : FX (xw x ws)) (hd : decode (cxC (xw x ws)) pc = .ok (.invokespecial idx, 3)) (w1 : Cond.methodLink (cxO x) idx objectInit ∈ lw_all) (w2 : Cond.instanceMethod objectInit ∈ lw_all) (w5 : Cond.code objectInit ⟨#[0xb1]⟩ 1 none ∈ lw_all) (hlv : 1 ≤ cxV x)
    (hcat : ai_cats rest ≤ 8) (kk : WJ x ws (pc + 3) ls rest u) : WJ x ws pc ls (.inl (.ref h) :: rest) u := by
  obtain ⟨⟨p, l, e, R, s, m, args, below, meth, c, Q⟩, ⟨D, cs, b, ad, adV, sc, L, XT⟩, cc, nL, own, c0, s0, seg, lv⟩ := x
  obtain ⟨hx, hb, hml, hown, hts, hKS, hbs, hL, hlocks, hR1, hR2, hR3, hR4⟩ := hF
  intro H locs cells slots sl hP0 hS hl h1 h2
  have hlv : 1 ≤ lv := hlv
  refine W.objInit hx hb hown (hts _ w1) (hts _ w2) (hts _ w5) rfl (by rw [hml]; exact hl.2.1) rfl hd (by show 1 ≤ R.frames; omega) ?_ (kk H locs cells slots sl hP0 hS hl h1 h2)
  have e1 : ((rest.map (rv ad)).map fun v => v.category).sum = ai_cats rest := cats_eq ad rest
  show 2 * (F0 m pc sl _).monitorRoom + ((rest.map (rv ad)).map fun v => v.category).sum + 12 ≤ R.locals
  rw [e1]
  have e2 : (F0 m pc sl ((.inl (.ref h) : AV) :: rest |>.map (rv ad))).monitorRoom = 0 := rfl
  show 2 * 0 + _ + 12 ≤ _
  omega
end JCall
/-- the ends -/
def RJ (ret : Option FieldType) (i : Instr) (v : Option Value) : Prop := match i with
  | .ireturn => ∃ (k : Int32) (ty : FieldType), v = some (.int k) ∧ ret = some ty ∧ narrow ty (.int k) = .int k
  | .areturn => (v = some .null ∨ ∃ q, v = some (.ref q)) ∧ ((∃ n, ret = some (.object n)) ∨ ∃ t, ret = some (.array t))
  | .return_ => v = none ∧ ret = none
  | _ => False
/-- as Met.ofW; the class may be one of which other methods have a native row -/
theorem Met_ofWF {l : Launch} {y : MethodName} {ws ws' : List Cond} {rm : Room} {Pc : Array Value → State → Prop} {Qc : Array Value → State → Outcome → State → Prop} {mc ms : Nat} {free : Addr → Prop} {cc : ByteArray} {maxL : Nat} {ret : Option FieldType}
    (hy : plainFor y = true) (hw : ws = Cond.code y cc maxL ret :: ws')
    (body : ∀ p e s m args below meth c s₁, BodyLoose p l y (headSpec ws rm) cc maxL ret e s m args below meth c s₁ → c.maxLocals = maxL → Pc args s →
      W p l e (headSpec ws rm).room s m args below meth c s.heap [] 0 0 (MQ below Qc args s mc ms free) (entryFrame m args maxL)) : Met l y ws rm Pc Qc mc ms free := by
  refine MetFree.of_bodySF (code := cc) (maxLocals := maxL) (ret := ret) hy ?_ ?_
  · intro args s m h hn
    obtain ⟨meth, c, h1, h2, h3, h4, h5, h6, -, -⟩ := Cond.code_spec hn (atoms_spec (ws := ws) h _ (by rw [hw]; exact List.mem_cons_self))
    exact ⟨meth, c, h1, h2, h3, h4, h5, h6⟩
  · intro p e s m args below meth c s₁ B hml hP _
    have hh0 : s₁.heap = s.heap := by rw [B.state]; rfl
    obtain ⟨t, a1, o, b1, b2, b3⟩ := body p e s m args below meth c s₁ B hml hP s₁ hh0 (Stand.of_body B)
    exact ⟨t, o, a1, b1, b2, ⟨b3.1, b3.2⟩⟩
theorem jc_of {K : KT} {l : Launch} {y : MethodName} {bytes : ByteArray} {maxL : Nat} {ret : Option FieldType} {lev cost : Nat} {vs : List Value} {ws : va_W} {post : Option Value → va_W → Prop} (hy : plainFor y = true) (hcat : ∀ v ∈ vs, v.category = 1) (hlen : vs.length ≤ maxL)
    (h : ∀ x : CX, (∀ ws, FX (xw x ws)) → cxC x = bytes → cxO x = y.cls → cxG x = cost → cxV x = lev → cxK x = K → cxH x = l → (y.name = "<init>" → cxI x) →
      (∀ (ws : va_W) (pc u : Nat) (i : Instr) (ls : Ls) (v : Option Value), decode bytes pc = .ok (i, 1) → RJ ret i v → post v ws → u ≤ cost → WJ x ws pc ls (v.map Sum.inl).toList u) →
      WJ x ws 0 ((vs.map Sum.inl).map some ++ List.replicate (maxL - vs.length) none) [] 0) : JC K l y bytes maxL ret lev cost vs ws post := by
  obtain ⟨D, cs, b, ad, adV, sc⟩ := K
  refine Met_ofWF (cc := bytes) (maxL := maxL) (ret := ret) hy rfl ?_
  intro p e s m args below meth c s₁ B hml hv
  obtain ⟨rfl, ⟨hP, hD⟩, hKS, hbs⟩ := hv
  have hts : ∀ w ∈ lw_all, w.before vs.toArray s = true := fun w hw => atoms_spec (ws := .code y bytes maxL ret :: lw_all) B.pre w (List.mem_cons_of_mem _ hw)
  have hown : s.vm.findClass y.cls = some m.cls := findClass_of_methodNamed B.named
  rw [lg_entry_eq]
  have hLV : LV ad ((lg_sl vs ++ List.replicate (maxL - (lg_sl vs).length) Slot.unset).toArray) maxL ((vs.map Sum.inl).map some ++ List.replicate (maxL - vs.length) none) := by
    have h0 := LV_entry (ad := ad) (as := vs.map Sum.inl) (n := maxL) (fun v hv => by
      obtain ⟨w, hw, rfl⟩ := List.mem_map.mp hv
      exact hcat w hw) (by rw [List.length_map]; exact hlen)
    rw [vals_map, List.length_map] at h0
    exact h0
  have hfin := h ((p, l, e, roomL lev cost, s, m, vs.toArray, below, meth, c, MQ below (Qj (D, cs, b, ad, adV, sc) post) vs.toArray s cost (100 * cost) (Ab b)), (D, cs, b, ad, adV, sc, [], fun _ _ => True), bytes, maxL, y.cls, 0, 0, cost, lev)
    (fun ws => ⟨B.exec, B.bytes, hml, hown, hts, hKS, hbs, ⟨List.nodup_nil, (fun r hr => by cases hr), (fun hr => by cases hr), (fun q hq => by cases hq)⟩, B.notSynchronized, by show 0 + cost ≤ cost; omega, by show 0 + 100 * cost ≤ 100 * cost; omega, Nat.le_refl _, Nat.le_refl _⟩) rfl rfl rfl rfl rfl rfl
    (fun hn => (name_of_methodNamed B.named B.method).1.trans hn)
    (fun ws pc u i ls v hd hrk hpo hu => by
      intro H locs cells slots sl hP0 hS hl k1 k2
      obtain ⟨hP, hD⟩ := PWj' hP0
      refine W.widen (k := cost) (n := 100 * cost) (by omega) (by omega) ?_
      have hq : ∀ t : State, t.heap = H → s.WarmedH t.vm → Qj (D, cs, b, ad, adV, sc) post vs.toArray s (.returned v) t := fun t ht hW => ⟨⟨v, ws, hpo, rfl, by rw [ht]; exact hP, hD⟩, hS.F ht⟩
      cases i with
      | ireturn =>
        obtain ⟨k, ty, rfl, hr, hn⟩ := hrk
        exact W.zret B.exec B.bytes (B.returns.trans hr) hn hq hS.2.2 hd B.notSynchronized
      | areturn =>
        obtain ⟨hv, hr⟩ := hrk
        have hrt : ∃ rt, ret = some rt ∧ ((∃ n, rt = .object n) ∨ ∃ t, rt = .array t) := by
          rcases hr with ⟨n, h⟩ | ⟨t, h⟩
          · exact ⟨_, h, Or.inl ⟨n, rfl⟩⟩
          · exact ⟨_, h, Or.inr ⟨t, rfl⟩⟩
        obtain ⟨rt, hr1, hr2⟩ := hrt
        rcases hv with rfl | ⟨q, rfl⟩
        · exact W.aret (v := .null) B.exec B.bytes (B.returns.trans hr1) hr2 (Or.inl rfl) hq hS.2.2 hd B.notSynchronized
        · exact W.aret (v := .ref q) B.exec B.bytes (B.returns.trans hr1) hr2 (Or.inr ⟨_, rfl⟩) hq hS.2.2 hd B.notSynchronized
      | return_ =>
        obtain ⟨rfl, hr⟩ := hrk
        exact W.vret B.exec B.bytes (B.returns.trans hr) hq hS.2.2 hd B.notSynchronized
      | _ => exact hrk.elim)
  exact hfin s.heap [] 0 0 _ (PWj hP hD) va_S.rf hLV (Nat.zero_le _) (Nat.zero_le _)
theorem jd_w {x : CX} {ws ws' : va_W} {pc : Nat} {ls : Ls} {st : List AV} {u : Nat} (hp : ∀ D H, va_P D cls_ ws H → va_P D cls_ ws' H) (hd : ∀ A, va_D A ws → va_D A ws') (kk : WJ x ws' pc ls st u) : WJ x ws pc ls st u := by
  obtain ⟨⟨p, l, e, R, s, m, args, below, meth, c, Q⟩, ⟨D, cs, b, ad, adV, sc, L, XT⟩, cc, nL, own, c0, s0, seg, lv⟩ := x
  intro H locs cells slots sl hP0 hS hl h1 h2
  obtain ⟨hP, hD⟩ := PWj' hP0
  exact kk H locs cells slots sl (PWj (hp _ _ hP) (hd _ hD)) hS hl h1 h2
theorem jd_e {x : CX} {ws ws' : va_W} {pc : Nat} {ls : Ls} {st : List AV} {u : Nat} (h : ws = ws') (kk : WJ x ws' pc ls st u) : WJ x ws pc ls st u := h ▸ kk
theorem jd_ls {x : CX} {pc : Nat} {ls ls' : Ls} {st : List AV} {G : GS} {u : Nat} (h : ls = ls') (kk : WG x pc ls' st G u) : WG x pc ls st G u := h ▸ kk
theorem va_P.pre {D : va_G} {cl : List vw_C} {a b : va_W} {H : Heap} (h : va_P D cl (a ++ b) H) : va_P D cl a H := h.by id (fun k q hk => by rw [id, List.getElem?_append_left (List.getElem?_eq_some_iff.mp hk).1]; exact hk)
theorem va_D.pre {A : Nat → Prop} {a b : va_W} (h : va_D A (a ++ b)) : va_D A a := h.by id (fun k q hk => by rw [id, List.getElem?_append_left (List.getElem?_eq_some_iff.mp hk).1]; exact hk) (fun i j _ _ e => e)
section JM
variable {x : CX} {pc idx : Nat} {ls : Ls} {st : List AV} {G : GS} {u : Nat}
theorem jd_mmin {a b : Int32} (hF : FX x) (hd : decode (cxC x) pc = .ok (.invokestatic idx, 3)) (w1 : Cond.methodLink (cxO x) idx Lib.Math.min.name ∈ lw_all) (w2 : Cond.static Lib.Math.min.name ∈ lw_all) (w3 : Cond.initialized "java/lang/Math" ∈ lw_all) (w4 : Cond.code Lib.Math.min.name Lib.Math.min.code 2 (some .int) ∈ lw_all)
    (hlv : 1 ≤ cxV x) (hcat : ai_cats st ≤ 8) (hu : u ≤ cxG x) (hk : WG x (pc + 3) ls (.inl (.int (if b < a then b else a)) :: st) G u) : WG x pc ls (.inl (.int b) :: .inl (.int a) :: st) G u := by
  obtain ⟨⟨p, l, e, R, s, m, args, below, meth, c, Q⟩, ⟨D, cs, b, ad, adV, sc, L, XT⟩, cc, nL, own, c0, s0, seg, lv⟩ := x
  obtain ⟨hx, hb, hml, hown, hts, hKS, hbs, hL, hlocks, hR1, hR2, hR3, hR4⟩ := hF
  intro H locs cells slots sl hP hS hl h1 h2
  have hlv : 1 ≤ lv := hlv
  have hu : u ≤ seg := hu
  refine va_mmin hx hb (by rw [hml]; exact hl.2.1.symm) hown (hts _ w1) (hts _ w2) (hts _ w3) (hts _ w4) (by omega) ?_ (by omega) (by omega) hd (hk H locs cells slots sl hP hS hl h1 h2)
  have e1 : ((st.map (rv ad)).map fun v => v.category).sum = ai_cats st := cats_eq ad st
  omega
theorem jd_mmax {a b : Int32} (hF : FX x) (hd : decode (cxC x) pc = .ok (.invokestatic idx, 3)) (w1 : Cond.methodLink (cxO x) idx Lib.Math.max.name ∈ lw_all) (w2 : Cond.static Lib.Math.max.name ∈ lw_all) (w3 : Cond.initialized "java/lang/Math" ∈ lw_all) (w4 : Cond.code Lib.Math.max.name Lib.Math.max.code 2 (some .int) ∈ lw_all)
    (hlv : 1 ≤ cxV x) (hcat : ai_cats st ≤ 8) (hu : u ≤ cxG x) (hk : WG x (pc + 3) ls (.inl (.int (if a < b then b else a)) :: st) G u) : WG x pc ls (.inl (.int b) :: .inl (.int a) :: st) G u := by
  obtain ⟨⟨p, l, e, R, s, m, args, below, meth, c, Q⟩, ⟨D, cs, b, ad, adV, sc, L, XT⟩, cc, nL, own, c0, s0, seg, lv⟩ := x
  obtain ⟨hx, hb, hml, hown, hts, hKS, hbs, hL, hlocks, hR1, hR2, hR3, hR4⟩ := hF
  intro H locs cells slots sl hP hS hl h1 h2
  have hlv : 1 ≤ lv := hlv
  have hu : u ≤ seg := hu
  refine va_mmax hx hb (by rw [hml]; exact hl.2.1.symm) hown (hts _ w1) (hts _ w2) (hts _ w3) (hts _ w4) (by omega) ?_ (by omega) (by omega) hd (hk H locs cells slots sl hP hS hl h1 h2)
  have e1 : ((st.map (rv ad)).map fun v => v.category).sum = ai_cats st := cats_eq ad st
  omega
theorem jd_mabs {a : Int32} (hF : FX x) (hd : decode (cxC x) pc = .ok (.invokestatic idx, 3)) (w1 : Cond.methodLink (cxO x) idx Lib.Math.abs.name ∈ lw_all) (w2 : Cond.static Lib.Math.abs.name ∈ lw_all) (w3 : Cond.initialized "java/lang/Math" ∈ lw_all) (w4 : Cond.code Lib.Math.abs.name Lib.Math.abs.code 1 (some .int) ∈ lw_all)
    (hlv : 1 ≤ cxV x) (hcat : ai_cats st ≤ 8) (hu : u ≤ cxG x) (hk : WG x (pc + 3) ls (.inl (.int (if 0 ≤ a then a else 0 - a)) :: st) G u) : WG x pc ls (.inl (.int a) :: st) G u := by
  obtain ⟨⟨p, l, e, R, s, m, args, below, meth, c, Q⟩, ⟨D, cs, b, ad, adV, sc, L, XT⟩, cc, nL, own, c0, s0, seg, lv⟩ := x
  obtain ⟨hx, hb, hml, hown, hts, hKS, hbs, hL, hlocks, hR1, hR2, hR3, hR4⟩ := hF
  intro H locs cells slots sl hP hS hl h1 h2
  have hlv : 1 ≤ lv := hlv
  have hu : u ≤ seg := hu
  refine va_mabs hx hb (by rw [hml]; exact hl.2.1.symm) hown (hts _ w1) (hts _ w2) (hts _ w3) (hts _ w4) (by omega) ?_ (by omega) (by omega) hd (hk H locs cells slots sl hP hS hl h1 h2)
  have e1 : ((st.map (rv ad)).map fun v => v.category).sum = ai_cats st := cats_eq ad st
  omega
end JM
/-- a copy of bytes -/
theorem jd_copyB {x : CX} {ws : va_W} {pc idx : Nat} {ls : Ls} {st : List AV} {u : Nat} {k0 k1 h0 h1 n0 n1 : Nat} {f g : Nat → Int32} {sp dp n : Int32} (hF : FX (xw x ws)) (hd : decode (cxC (xw x ws)) pc = .ok (.invokestatic idx, 3)) (w1 : Cond.methodLink (cxO x) idx arraycopyName ∈ lw_all) (w2 : Cond.native arraycopyName ∈ lw_all) (w3 : Cond.static arraycopyName ∈ lw_all) (w4 : Cond.initialized "java/lang/System" ∈ lw_all)
    (hk0 : ws[k0]? = some (h0, .inl ((cxK x).2.1 5, n0, .inl f))) (hk1 : ws[k1]? = some (h1, .inl ((cxK x).2.1 5, n1, .inl g))) (hs : ¬ sp < 0) (hq : ¬ dp < 0) (hn : ¬ n < 0) (h4 : sp.toNatClampNeg + n.toNatClampNeg ≤ n0) (h5 : dp.toNatClampNeg + n.toNatClampNeg ≤ n1) (hfit : sb_Fit f)
    (hlv : 1 ≤ cxV x) (hcat : ai_cats st ≤ 8) (kk : WJ x (ws.set k1 (h1, .inl ((cxK x).2.1 5, n1, .inl (va_cpy f g sp.toNatClampNeg dp.toNatClampNeg n.toNatClampNeg)))) (pc + 3) ls st u) : WJ x ws pc ls (.inl (.int n) :: .inl (.int dp) :: .inl (.ref h1) :: .inl (.int sp) :: .inl (.ref h0) :: st) u := by
  obtain ⟨⟨p, l, e, R, s, m, args, below, meth, c, Q⟩, ⟨D, cs, b, ad, adV, sc, L, XT⟩, cc, nL, own, c0, s0, seg, lv⟩ := x
  obtain ⟨hx, hb, hml, hown, hts, hKS, hbs, hL, hlocks, hR1, hR2, hR3, hR4⟩ := hF
  intro H locs cells slots sl hP0 hS hl k1' k2'
  obtain ⟨hP, hD⟩ := PWj' hP0
  have hlv : 1 ≤ lv := hlv
  refine va_copyi (D := D) hx hb (by rw [hml]; exact hl.2.1.symm) hown (hts _ w1) (hts _ w2) (hts _ w3) (hts _ w4) hKS.1 hP hD hS k0 k1 5 5 hk0 hk1 rfl rfl (by decide) hs hq hn h4 h5 (fun i _ => hfit _) (by omega) ?_ hd (fun H1 locs1 g1 g2 g3 => kk H1 locs1 cells slots sl (PWj g1 g2) g3 hl k1' k2')
  have e1 : ((st.map (rv ad)).map fun v => v.category).sum = ai_cats st := cats_eq ad st
  rw [e1]
  have e2 : nativeFrameWords "java/lang/System" "arraycopy" 5 + 11 ≤ 40 := by decide +kernel
  omega
/-- string constants -/
theorem jd_scoder {x : CX} {pc idx k : Nat} {ls : Ls} {st : List AV} {G : GS} {u : Nat} {K : KT} (hK : cxK x = K) (hF : FX x) (hd : decode (cxC x) pc = .ok (.getfield idx, 3)) (hk : k < 7) (w : Cond.fieldLink (cxO x) idx "java/lang/String" "coder" "B" ∈ lw_all) (kk : WG x (pc + 3) ls (.inl (.int 0) :: st) G u) : WG x pc ls (.inl (.ref (K.2.2.2.1 (k, 200))) :: st) G u := by
  subst hK
  obtain ⟨⟨p, l, e, R, s, m, args, below, meth, c, Q⟩, ⟨D, cs, b, ad, adV, sc, L, XT⟩, cc, nL, own, c0, s0, seg, lv⟩ := x
  obtain ⟨hx, hb, hml, hown, hts, hKS, hbs, hL, hlocks, hR1, hR2, hR3, hR4⟩ := hF
  intro H locs cells slots sl hP0 hS hl h1 h2
  exact vk_getf hx hb (hKS.2.2.2.2.2.1.1.1 k hk).2.1 hS hown (hts _ w) (fun _ h9 => h9) hd (kk H locs cells slots sl hP0 hS hl h1 h2)
theorem jd_svalue {x : CX} {pc idx k : Nat} {ls : Ls} {st : List AV} {G : GS} {u : Nat} {K : KT} (hK : cxK x = K) (hF : FX x) (hd : decode (cxC x) pc = .ok (.getfield idx, 3)) (hk : k < 7) (w : Cond.fieldLink (cxO x) idx "java/lang/String" "value" "[B" ∈ lw_all) (kk : WG x (pc + 3) ls (.inl (.ref (K.2.2.2.2.1 k)) :: st) G u) : WG x pc ls (.inl (.ref (K.2.2.2.1 (k, 200))) :: st) G u := by
  subst hK
  obtain ⟨⟨p, l, e, R, s, m, args, below, meth, c, Q⟩, ⟨D, cs, b, ad, adV, sc, L, XT⟩, cc, nL, own, c0, s0, seg, lv⟩ := x
  obtain ⟨hx, hb, hml, hown, hts, hKS, hbs, hL, hlocks, hR1, hR2, hR3, hR4⟩ := hF
  intro H locs cells slots sl hP0 hS hl h1 h2
  exact vk_getf hx hb (hKS.2.2.2.2.2.1.1.1 k hk).2.2.1 hS hown (hts _ w) (fun _ h9 => h9) hd (kk H locs cells slots sl hP0 hS hl h1 h2)
theorem jd_slen {x : CX} {pc k : Nat} {ls : Ls} {st : List AV} {G : GS} {u : Nat} {K : KT} (hK : cxK x = K) (hF : FX x) (hd : decode (cxC x) pc = .ok (.arraylength, 1)) (hk : k < 7) (kk : WG x (pc + 1) ls (.inl (.int (Int32.ofNat ((jS.map List.length).getD k 0))) :: st) G u) : WG x pc ls (.inl (.ref (K.2.2.2.2.1 k)) :: st) G u := by
  subst hK
  obtain ⟨⟨p, l, e, R, s, m, args, below, meth, c, Q⟩, ⟨D, cs, b, ad, adV, sc, L, XT⟩, cc, nL, own, c0, s0, seg, lv⟩ := x
  obtain ⟨hx, hb, hml, hown, hts, hKS, hbs, hL, hlocks, hR1, hR2, hR3, hR4⟩ := hF
  intro H locs cells slots sl hP0 hS hl h1 h2
  exact va_tlen hx hb (hKS.2.2.2.2.2.1.1.1 k hk).2.2.2 hS rfl hd (kk H locs cells slots sl hP0 hS hl h1 h2)
theorem jd_sbyte {x : CX} {pc k : Nat} {ls : Ls} {st : List AV} {G : GS} {u : Nat} {K : KT} {i : Int32} (hK : cxK x = K) (hF : FX x) (hd : decode (cxC x) pc = .ok (.baload, 1)) (hk : k < 7) (hin : inb i ((jS.map List.length).getD k 0) = true) (kk : WG x (pc + 1) ls (.inl (.int ((jS.getD k []).getD i.toNatClampNeg 0)) :: st) G u) : WG x pc ls (.inl (.int i) :: .inl (.ref (K.2.2.2.2.1 k)) :: st) G u := by
  subst hK
  obtain ⟨⟨p, l, e, R, s, m, args, below, meth, c, Q⟩, ⟨D, cs, b, ad, adV, sc, L, XT⟩, cc, nL, own, c0, s0, seg, lv⟩ := x
  obtain ⟨hx, hb, hml, hown, hts, hKS, hbs, hL, hlocks, hR1, hR2, hR3, hR4⟩ := hF
  intro H locs cells slots sl hP0 hS hl h1 h2
  exact va_tb hx hb (hKS.2.2.2.2.2.1.1.1 k hk).2.2.2 hS (inb_in hin) rfl hd (kk H locs cells slots sl hP0 hS hl h1 h2)
theorem xwO {x : CX} {ws : va_W} : cxO (xw x ws) = cxO x := rfl
theorem xwV {x : CX} {ws : va_W} : cxV (xw x ws) = cxV x := rfl
theorem xwG {x : CX} {ws : va_W} : cxG (xw x ws) = cxG x := rfl
theorem xwK {x : CX} {ws : va_W} : cxK (xw x ws) = cxK x := rfl
theorem xwH {x : CX} {ws : va_W} : cxH (xw x ws) = cxH x := rfl
/-- a call on a string constant -/
theorem jd_callK {x : CX} {ws : va_W} {pc : Nat} {ls : Ls} {st rest : List AV} {u idx n lev cost maxL k : Nat} {y : MethodName} {bytes : ByteArray} {ret : Option FieldType} {vs : List Value} {post : Option Value → va_W → Prop} {D : va_G} {cs : Nat → ClassId} {b : Nat} {ad : Rf → Nat} {adV : Nat → Nat} {sc : Nat × (Nat → Int32)} (hK : cxK x = (D, cs, b, ad, adV, sc)) (hk : k < 7)
    (hF : FX (xw x ws)) (hd : decode (cxC (xw x ws)) pc = .ok (.invokevirtual idx, 3)) (hC : JC (cxK x) (cxH x) y bytes maxL ret lev cost (.ref (ad (k, 200)) :: vs) ws post)
    (w1 : Cond.methodLink (cxO x) idx y ∈ lw_all) (w2 : Cond.instanceMethod y ∈ lw_all) (w3 : Cond.selects "java/lang/String" y y ∈ lw_all) (w4 : Cond.initialized "java/lang/String" ∈ lw_all) (w5 : Cond.code y bytes maxL ret ∈ lw_all)
    (hy : y.cls = "java/lang/String" ∧ (parseMethodDescriptor y.desc).map (fun d => d.parameters.length) = some n) (hn : vs.length = n) (hm : maxL ≤ 40) (hlv : lev + 1 ≤ cxV x)
    (hst : st = (vs.map Sum.inl).reverse ++ .inl (.ref (ad (k, 200))) :: rest) (hcat : ai_cats rest ≤ 8) (hu : u + cost ≤ cxG x) (kk : ∀ v w, post v w → WJ x w (pc + 3) ls ((v.map Sum.inl).toList ++ rest) (u + cost)) : WJ x ws pc ls st u := by
  obtain ⟨⟨p, l, e, R, s, m, args, below, meth, c, Q⟩, ⟨D, cs, b, ad, adV, sc, L, XT⟩, cc, nL, own, c0, s0, seg, lv⟩ := x
  cases hK
  obtain ⟨hx, hb, hml, hown, hts, hKS, hbs, hL, hlocks, hR1, hR2, hR3, hR4⟩ := hF
  intro H locs cells slots sl hP0 hS hl h1 h2
  obtain ⟨hP, hD⟩ := PWj' hP0
  have hu : u + cost ≤ seg := hu
  have hlv : lev + 1 ≤ lv := hlv
  have hg : GoodIn lw_all (wsV own idx "java/lang/String" y (.code y bytes maxL ret :: lw_all)) := goodIn_all (in_cons w1 (in_cons w2 (in_cons w3 (in_cons w4 (in_cons w5 in_self)))))
  subst hst
  have hrun := va_runV (cells := cells) (slots := slots) (locs := locs) (meth := meth) (As := vs) (rest := rest.map (rv ad)) (b := ad (k, 200)) (C := "java/lang/String") (g := F0 m pc sl (((vs.map Sum.inl).reverse ++ (.inl (.ref (ad (k, 200))) : AV) :: rest).map (rv ad))) (p := p) (e := e) (below := below) (R := R) ⟨hx, hb, hml, hown, hts⟩ hC
    (cwV n hts hg rfl rfl rfl ⟨hy.1, by rw [hy.1]; decide, by rw [hy.1]; decide, hy.2⟩ ⟨(by show lev + 1 ≤ R.frames; omega), (by show 8 + (maxL + 11) + 64 * lev ≤ R.locals; omega)⟩) ⟨Pj_blind, vk_recv (i := k) hKS.2.2.2.2.2.1.1 hk hS, fun U hU hW => jd_pre hbs hKS hS hP hD hU hW⟩
    rfl hn hl.2.1 (stk_J ad vs (.inl (.ref (ad (k, 200))) :: rest)) (lv_room (by rw [cats_eq]; exact hcat)) hd ⟨by omega, by omega⟩
  exact jd_row hrun hS (fun v w hv H1 locs1 g1 g2 g3 => by rw [← opt_map ad]; exact kk v w hv H1 locs1 _ _ sl (PWj g1 g2) g3 hl (by omega) (by omega))
/-- a private method of a class above -/
theorem sel_priv {C : String} {y z : MethodName} {s : State} {args : Array Value} (hy : y.cls ≠ "java/lang/invoke/MethodHandle" ∧ y.cls ≠ "java/lang/invoke/VarHandle") (hz : z.cls = y.cls) (hs : (Cond.selects C z z).before args s = true) (hpriv : (Cond.privateMethod y).before args s = true) (hinst : (Cond.instanceMethod y).before args s = true) : (Cond.selects C y y).before args s = true := by
  obtain ⟨c, r, m, hc, -, hm, -, kz, hkz, hni⟩ := Cond.selects_spec hs
  obtain ⟨mk, methM, hnamed, hmethM, -, -⟩ := Cond.instanceMethod_spec hinst
  have hfound : s.methodFound? y.cls y.name y.desc = some mk := State.methodFound?_of_named hnamed hy
  have hcls : mk.cls = m.cls := Option.some.inj ((findClass_of_methodNamed hnamed).symm.trans (hz ▸ findClass_of_methodNamed hm))
  have hsel : selectMethod {} s.vm c mk = .method mk := selectMethod_private hmethM (Cond.privateMethod_at hpriv mk methM hnamed hmethM)
  simp only [Cond.before, Cond.holds, Cond.value, hc, hfound, hnamed, hsel, hcls, hkz]
  simp; exact hni
