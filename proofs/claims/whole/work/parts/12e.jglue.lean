/-! From the abstract machine's calls to the walks over an explicit world -/
def cxA (x : CX) : Rf → Nat := x.2.1.2.2.2.1
def cxT (x : CX) : Nat × (Nat → Int32) → va_W → Prop := x.2.1.2.2.2.2.2.2.2
def cxCl (x : CX) (G : GS) : va_W := cells_ x.2.1.2.1 x.2.1.2.2.2.1 x.2.1.2.2.2.2.2.2.1 G
/-- what a call leads to -/
def JT (x : CX) (pc : Nat) (ls : Ls) (rest : List AV) (u : Nat) (post : Option Value → va_W → Prop) : Prop := ∀ v w, post v w → ∃ (o : Option AV) (G1 : GS) (w1 : va_W), v = o.map (rv (cxA x)) ∧ cxT x G1.2.2.1 w1 ∧
  (∀ D H, va_P D cls_ w H → va_P D cls_ (cxCl x G1 ++ w1) H) ∧ (∀ A, va_D A w → va_D A (cxCl x G1 ++ w1)) ∧ WG x pc ls (o.toList ++ rest) G1 u
section JG
variable {x : CX} {pc : Nat} {ls : Ls} {rest as : List AV} {G : GS} {u idx n lev cost maxL : Nat} {y : MethodName} {bytes : ByteArray} {ret : Option FieldType}
theorem jg_S (hF : FX x) (hd : decode (cxC x) pc = .ok (.invokestatic idx, 3))
    (w1 : Cond.methodLink (cxO x) idx y ∈ lw_all) (w2 : Cond.static y ∈ lw_all) (w4 : Cond.initialized y.cls ∈ lw_all) (w5 : Cond.code y bytes maxL ret ∈ lw_all)
    (hy : y.cls ≠ "java/lang/invoke/MethodHandle" ∧ y.cls ≠ "java/lang/invoke/VarHandle" ∧ (parseMethodDescriptor y.desc).map (fun d => d.parameters.length) = some n) (hn : as.length = n) (hm : maxL ≤ 40) (hlv : lev + 1 ≤ cxV x) (hcat : ai_cats rest ≤ 8) (hu : u + cost ≤ cxG x)
    (h : ∀ w0, cxT x G.2.2.1 w0 → ∃ (ws : va_W) (post : Option Value → va_W → Prop), (∀ D H, va_P D cls_ (cxCl x G ++ w0) H → va_P D cls_ ws H) ∧ (∀ A, va_D A (cxCl x G ++ w0) → va_D A ws) ∧ JC (cxK x) (cxH x) y bytes maxL ret lev cost (as.map (rv (cxA x))) ws post ∧ JT x (pc + 3) ls rest (u + cost) post) : WG x pc ls (as.reverse ++ rest) G u := by
  obtain ⟨⟨p, l, e, R, s, m, args, below, meth, c, Q⟩, ⟨D, cs, b, ad, adV, sc, L, XT⟩, cc, nL, own, c0, s0, seg, lv⟩ := x
  obtain ⟨hx, hb, hml, hown, hts, hKS, hbs, hL, hlocks, hR1, hR2, hR3, hR4⟩ := hF
  intro H locs cells slots sl hP hS hl h1 h2
  obtain ⟨w0, hXT, hP, hD⟩ := hP
  obtain ⟨ws, post, q1, q2, hC, hk⟩ := h w0 hXT
  have hP := q1 _ _ hP
  have hD := q2 _ hD
  have hu : u + cost ≤ seg := hu
  have hlv : lev + 1 ≤ lv := hlv
  have hg : GoodIn lw_all (va_wsS own idx y (.code y bytes maxL ret :: lw_all)) := goodIn_all (in_cons w1 (in_cons w2 (in_cons w4 (in_cons w5 in_self))))
  have hrun := va_runS (cells := cells) (slots := slots) (locs := locs) (meth := meth) (As := as.map (rv ad)) (rest := rest.map (rv ad)) (g := F0 m pc sl ((as.reverse ++ rest).map (rv ad))) (p := p) (e := e) (below := below) (R := R) ⟨hx, hb, hml, hown, hts⟩ hC
    (va_cwS n hts hg rfl rfl rfl hy ⟨(by show lev + 1 ≤ R.frames; omega), (by show 8 + (maxL + 11) + 64 * lev ≤ R.locals; omega)⟩) ⟨Pj_blind, fun U hU hW => jd_pre hbs hKS hS hP hD hU hW⟩
    rfl (by rw [List.length_map]; exact hn) hl.2.1 (stk_S ad as rest) (lv_room (by rw [cats_eq]; exact hcat)) hd ⟨by omega, by omega⟩
  refine jd_row hrun hS (fun v w hv H1 locs1 g1 g2 g3 => ?_)
  obtain ⟨o, G1, w1, rfl, t1, t2, t3, t4⟩ := hk v w hv
  have t5 := t4 H1 locs1 (cells + cost) (slots + 100 * cost) sl ⟨w1, t1, t2 _ _ g1, t3 _ g2⟩ g3 hl (by omega) (by omega)
  rw [← toList_map] at t5
  exact t5
theorem jg_V {q : Rf} {tl : List AV} {C : String} (hF : FX x) (hd : decode (cxC x) pc = .ok (.invokevirtual idx, 3)) (has : as = .inr q :: tl)
    (hrc : (∃ (ci : Nat) (qq : vw_C), cls_[ci]? = some qq ∧ qq.1 = C ∧ ∀ w0, cxT x G.2.2.1 w0 → ∃ (k : Nat) (fs : List Value), w0[k]? = some ((cxA x q, .inr (ci, fs)) : Nat × va_E)) ∨ (q.2 = 200 ∧ q.1 < 7 ∧ C = "java/lang/String"))
    (w1 : Cond.methodLink (cxO x) idx y ∈ lw_all) (w2 : Cond.instanceMethod y ∈ lw_all) (w3 : Cond.selects C y y ∈ lw_all) (w4 : Cond.initialized C ∈ lw_all) (w5 : Cond.code y bytes maxL ret ∈ lw_all)
    (hy : y.cls = C ∧ y.cls ≠ "java/lang/invoke/MethodHandle" ∧ y.cls ≠ "java/lang/invoke/VarHandle" ∧ (parseMethodDescriptor y.desc).map (fun d => d.parameters.length) = some n) (hn : tl.length = n) (hm : maxL ≤ 40) (hlv : lev + 1 ≤ cxV x) (hcat : ai_cats rest ≤ 8) (hu : u + cost ≤ cxG x)
    (h : ∀ w0, cxT x G.2.2.1 w0 → ∃ (ws : va_W) (post : Option Value → va_W → Prop), (∀ D H, va_P D cls_ (cxCl x G ++ w0) H → va_P D cls_ ws H) ∧ (∀ A, va_D A (cxCl x G ++ w0) → va_D A ws) ∧ JC (cxK x) (cxH x) y bytes maxL ret lev cost (as.map (rv (cxA x))) ws post ∧ JT x (pc + 3) ls rest (u + cost) post) : WG x pc ls (as.reverse ++ rest) G u := by
  obtain ⟨⟨p, l, e, R, s, m, args, below, meth, c, Q⟩, ⟨D, cs, b, ad, adV, sc, L, XT⟩, cc, nL, own, c0, s0, seg, lv⟩ := x
  obtain ⟨hx, hb, hml, hown, hts, hKS, hbs, hL, hlocks, hR1, hR2, hR3, hR4⟩ := hF
  intro H locs cells slots sl hP hS hl h1 h2
  obtain ⟨w0, hXT, hP0, hD⟩ := hP
  obtain ⟨ws, post, q1, q2, hC, hk⟩ := h w0 hXT
  have hP := q1 _ _ hP0
  have hD := q2 _ hD
  have hu : u + cost ≤ seg := hu
  have hlv : lev + 1 ≤ lv := hlv
  have hg : GoodIn lw_all (wsV own idx C y (.code y bytes maxL ret :: lw_all)) := goodIn_all (in_cons w1 (in_cons w2 (in_cons w3 (in_cons w4 (in_cons w5 in_self)))))
  have hrecv : ∃ cell : Cell, H[ad q]? = some cell ∧ cell.vm.isStatics = false ∧ s.vm.findClass C = some cell.cls := by
    rcases hrc with ⟨ci, qq, g1, rfl, g3⟩ | ⟨g1, g2, rfl⟩
    · obtain ⟨k, fs, g4⟩ := g3 w0 hXT
      refine va_recv hKS.1 hP0 g1 (fs := fs) (q0 := (cells_ cs ad L G).length + k) ?_
      rw [List.getElem?_append_right (Nat.le_add_right _ _), Nat.add_sub_cancel_left]
      exact g4
    · obtain ⟨j, k⟩ := q
      have g1 : k = 200 := g1
      subst g1
      exact vk_recv (i := j) hKS.2.2.2.2.2.1.1 g2 hS
  subst has
  have hrun := va_runV (cells := cells) (slots := slots) (locs := locs) (meth := meth) (As := tl.map (rv ad)) (rest := rest.map (rv ad)) (b := ad q) (C := C) (g := F0 m pc sl (((.inr q :: tl : List AV).reverse ++ rest).map (rv ad))) (p := p) (e := e) (below := below) (R := R) ⟨hx, hb, hml, hown, hts⟩ hC
    (cwV n hts hg rfl rfl rfl hy ⟨(by show lev + 1 ≤ R.frames; omega), (by show 8 + (maxL + 11) + 64 * lev ≤ R.locals; omega)⟩) ⟨Pj_blind, hrecv, fun U hU hW => jd_pre hbs hKS hS hP hD hU hW⟩
    rfl (by rw [List.length_map]; exact hn) hl.2.1 (stk_V ad q tl rest) (lv_room (by rw [cats_eq]; exact hcat)) hd ⟨by omega, by omega⟩
  refine jd_row hrun hS (fun v w hv H1 locs1 g1 g2 g3 => ?_)
  obtain ⟨o, G1, w1, rfl, t1, t2, t3, t4⟩ := hk v w hv
  have t5 := t4 H1 locs1 (cells + cost) (slots + 100 * cost) sl ⟨w1, t1, t2 _ _ g1, t3 _ g2⟩ g3 hl (by omega) (by omega)
  rw [← toList_map] at t5
  exact t5
end JG
theorem W_sw {D : va_G} {cl : List vw_C} {H : Heap} {b c : va_W} (h : va_P D cl (b ++ c) H) : va_P D cl (c ++ b) H := va_P.swap (a := []) (b := b) (c := c) h
theorem W_swD {A : Nat → Prop} {b c : va_W} (h : va_D A (b ++ c)) : va_D A (c ++ b) := va_D.swap (a := []) (b := b) (c := c) h
