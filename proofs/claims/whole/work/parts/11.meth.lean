/-! A METHOD'S CONTRACT out of its tables -/
def setC (x : CX) (c0 s0 : Nat) : CX := match x with
  | (a, b, (cc, nL, own, _, _, seg, lv)) => (a, b, (cc, nL, own, c0, s0, seg, lv))
theorem WG_shift {x : CX} {c0 s0 v pc : Nat} {ls : Ls} {st : List AV} {G : GS} (h : WG (setC x (c0 + v) (s0 + 100 * v)) pc ls st G 0) : WG (setC x c0 s0) pc ls st G v := by
  obtain ⟨⟨p, l, e, R, s, m, args, below, meth, c, Q⟩, ⟨D, cs, b, ad, adV, sc, L, XT⟩, cc, nL, own, c1, s1, seg, lv⟩ := x
  intro H locs cells slots sl hP hS hl h1 h2
  exact h H locs cells slots sl hP hS hl (by omega) (by omega)
section Rn
variable {x : CX} {T : Tb} {call : Nat → List AV → GS → Res} {hd : Nat → Hd} {out : Out × GS} {back : Kb}
theorem run_sound (hF : FX x) (hEr : EOr x out) (hEn : EOn x out) (hEx : EOx x out) (hT : ∀ pc e, T pc = some e → EnOK x call hd pc e)
    (hback : ∀ pc ls st G, back pc ls st G = some out → vLs (cxL x) ls → vAs (cxL x) st → WG x pc ls st G (cxG x)) : ∀ (n pc : Nat) (ls : Ls) (st : List AV) (G : GS) (u : Nat),
      ai_run (cxS x) T call hd (cxG x) back n pc ls st G u = some out → vLs (cxL x) ls → vAs (cxL x) st → u ≤ cxG x → WG x pc ls st G u
  | 0, _, _, _, _, _, h, _, _, _ => by cases h
  | n + 1, pc, ls, st, G, u, h, hls, hst, hu => by
    unfold ai_run at h
    split at h
    · cases h
    · rename_i e he
      split at h
      · exact WG_up (WG_kill _ (hback _ _ _ _ h (vLs_kill _ hls) hst)) hu
      · exact step_sound hF hEr hEn hEx (hT pc e he) (run_sound hF hEr hEn hEx hT hback n) h hls hst hu
theorem loop_sound {X : CX} {bk : Nat → Kb} {mc : Nat} (hG : ∀ c0 s0, cxG (setC X c0 s0) = cxG X) (hS : ∀ c0 s0, cxS (setC X c0 s0) = cxS X) (hLL : ∀ c0 s0, cxL (setC X c0 s0) = cxL X)
    (hFX : ∀ c0 s0, c0 + cxG X ≤ mc → s0 + 100 * cxG X ≤ 100 * mc → FX (setC X c0 s0))
    (hEO : ∀ c0 s0, c0 + cxG X ≤ mc → s0 + 100 * cxG X ≤ 100 * mc → EOr (setC X c0 s0) out ∧ EOn (setC X c0 s0) out ∧ EOx (setC X c0 s0) out)
    (hT : ∀ c0 s0, FX (setC X c0 s0) → ∀ pc e, T pc = some e → EnOK (setC X c0 s0) call hd pc e)
    (hb0 : ∀ pc ls st G, bk 0 pc ls st G = some out → False)
    (hbk : ∀ k pc ls st G, bk (k + 1) pc ls st G = some out → ∃ e, T pc = some e ∧ ai_step (cxS X) T call hd (cxG X) (ai_run (cxS X) T call hd (cxG X) (bk k) 600) pc e ls st G 0 = some out) :
    ∀ (k c0 : Nat), c0 + cxG X * k ≤ mc → ∀ pc ls st G, bk k pc ls st G = some out → vLs (cxL X) ls → vAs (cxL X) st → WG (setC X c0 (100 * c0)) pc ls st G 0
  | 0, c0, _, pc, ls, st, G, h, _, _ => (hb0 pc ls st G h).elim
  | k + 1, c0, hc, pc, ls, st, G, h, hls, hst => by
    obtain ⟨e, he, hs⟩ := hbk k pc ls st G h
    have hc' : c0 + cxG X + cxG X * k ≤ mc := by rw [Nat.mul_succ] at hc; omega
    have f1 : c0 + cxG X ≤ mc := by omega
    have f2 : 100 * c0 + 100 * cxG X ≤ 100 * mc := by omega
    have hF := hFX c0 (100 * c0) f1 f2
    obtain ⟨hEr, hEn, hEx⟩ := hEO c0 (100 * c0) f1 f2
    have ih := loop_sound hG hS hLL hFX hEO hT hb0 hbk k (c0 + cxG X) hc'
    have hback : ∀ pc ls st G, bk k pc ls st G = some out → vLs (cxL (setC X c0 (100 * c0))) ls → vAs (cxL (setC X c0 (100 * c0))) st → WG (setC X c0 (100 * c0)) pc ls st G (cxG (setC X c0 (100 * c0))) := by
      intro pc ls st G h1 h2 h3
      rw [hLL] at h2 h3
      rw [hG]
      refine WG_shift ?_
      rw [show 100 * c0 + 100 * cxG X = 100 * (c0 + cxG X) by omega]
      exact ih pc ls st G h1 h2 h3
    have hr := run_sound hF hEr hEn hEx (hT c0 (100 * c0) hF) hback 600
    rw [← hG c0 (100 * c0), ← hS c0 (100 * c0)] at hs
    rw [← hLL c0 (100 * c0)] at hls hst
    exact step_sound hF hEr hEn hEx (hT c0 (100 * c0) hF pc e he) hr hs hls hst (Nat.zero_le _)
theorem start_sound {X : CX} {bk : Nat → Kb} {mc F : Nat} (hG : ∀ c0 s0, cxG (setC X c0 s0) = cxG X) (hS : ∀ c0 s0, cxS (setC X c0 s0) = cxS X) (hLL : ∀ c0 s0, cxL (setC X c0 s0) = cxL X)
    (hFX : ∀ c0 s0, c0 + cxG X ≤ mc → s0 + 100 * cxG X ≤ 100 * mc → FX (setC X c0 s0))
    (hEO : ∀ c0 s0, c0 + cxG X ≤ mc → s0 + 100 * cxG X ≤ 100 * mc → EOr (setC X c0 s0) out ∧ EOn (setC X c0 s0) out ∧ EOx (setC X c0 s0) out)
    (hT : ∀ c0 s0, FX (setC X c0 s0) → ∀ pc e, T pc = some e → EnOK (setC X c0 s0) call hd pc e)
    (hb0 : ∀ pc ls st G, bk 0 pc ls st G = some out → False)
    (hbk : ∀ k pc ls st G, bk (k + 1) pc ls st G = some out → ∃ e, T pc = some e ∧ ai_step (cxS X) T call hd (cxG X) (ai_run (cxS X) T call hd (cxG X) (bk k) 600) pc e ls st G 0 = some out)
    (hmc : cxG X * (F + 1) ≤ mc) {ls : Ls} {G : GS} (h : ai_run (cxS X) T call hd (cxG X) (bk F) 600 0 ls [] G 0 = some out) (hls : vLs (cxL X) ls) : WG (setC X 0 0) 0 ls [] G 0 := by
  have hmc' : cxG X + cxG X * F ≤ mc := by rw [Nat.mul_succ] at hmc; omega
  have f1 : 0 + cxG X ≤ mc := by omega
  have f2 : 0 + 100 * cxG X ≤ 100 * mc := by omega
  have hF := hFX 0 0 f1 f2
  obtain ⟨hEr, hEn, hEx⟩ := hEO 0 0 f1 f2
  have hback : ∀ pc ls st G, bk F pc ls st G = some out → vLs (cxL (setC X 0 0)) ls → vAs (cxL (setC X 0 0)) st → WG (setC X 0 0) pc ls st G (cxG (setC X 0 0)) := by
    intro pc ls st G h1 h2 h3
    rw [hLL] at h2 h3
    rw [hG]
    refine WG_shift ?_
    have := loop_sound hG hS hLL hFX hEO hT hb0 hbk F (0 + cxG X) (by omega) pc ls st G h1 h2 h3
    rw [show 0 + 100 * cxG X = 100 * (0 + cxG X) by omega]
    exact this
  rw [← hG 0 0, ← hS 0 0] at h
  rw [← hLL 0 0] at hls
  exact run_sound hF hEr hEn hEx (hT 0 0 hF) hback 600 0 ls [] G 0 h hls (fun w hw => nomatch hw) (Nat.zero_le _)
end Rn
theorem FX_side {x : CX} {c0 s0 : Nat} : cxG (setC x c0 s0) = cxG x ∧ cxS (setC x c0 s0) = cxS x ∧ cxL (setC x c0 s0) = cxL x := by
  obtain ⟨⟨p, l, e, R, s, m, args, below, meth, c, Q⟩, ⟨D, cs, b, ad, adV, sc, L, XT⟩, cc, nL, own, c1, s1, seg, lv⟩ := x
  exact ⟨rfl, rfl, rfl⟩
/-- the ends of a method that returns -/
theorem EO_N {p : Program} {l : Launch} {e : Env} {s : State} {m : MethodId} {args : Array Value} {below : List Frame} {meth : Method} {c : Code} {R : Room} {D : va_G} {cs : Nat → ClassId} {b : Nat} {ad : Rf → Nat} {adV : Nat → Nat} {sc : Nat × (Nat → Int32)} {L : List Rf} {XT : Nat × (Nat → Int32) → va_W → Prop}
    {cc : ByteArray} {nL : Nat} {own : String} {c0 s0 seg lv mc : Nat} {o : Option AV} {G0 : GS} {Q : State → Prop}
    (hQ : ∀ (H : Heap) (locs : List Loc) (g : JFrame), W p l e R s m args below meth c H locs mc (100 * mc) (MQ below (Qc_ D cs b ad L XT (.inl o, G0)) args s mc (100 * mc) (Ab b)) g → W p l e R s m args below meth c H locs mc (100 * mc) Q g)
    (hF : FX ((p, l, e, R, s, m, args, below, meth, c, Q), (D, cs, b, ad, adV, sc, L, XT), cc, nL, own, c0, s0, seg, lv)) (h1 : c0 + seg ≤ mc) (h2 : s0 + 100 * seg ≤ 100 * mc) :
    EOr ((p, l, e, R, s, m, args, below, meth, c, Q), (D, cs, b, ad, adV, sc, L, XT), cc, nL, own, c0, s0, seg, lv) (.inl o, G0) := by
  obtain ⟨hx, hb, hml, hown, hts, hKS, hbs, hL, hlocks, hR1, hR2, hR3, hR4⟩ := hF
  intro v G hout pc u i ls hd hrk hvo hu H locs cells slots sl hP hS hl k1 k2
  cases hout
  have hu : u ≤ seg := hu
  refine W.widen (k := mc) (n := 100 * mc) (by omega) (by omega) (hQ _ _ _ ?_)
  have hq : ∀ t : State, t.heap = H → s.WarmedH t.vm → Qc_ D cs b ad L XT (.inl o, G0) args s (.returned (o.map (rv ad))) t := fun t ht hW => ⟨⟨o, rfl, hvo, rfl, by rw [ht]; exact hP⟩, hS.F ht⟩
  cases i with
  | ireturn =>
    obtain ⟨k, ty, rfl, hr, hn⟩ := hrk
    exact W.zret hx hb hr hn hq hS.2.2 hd hlocks
  | areturn =>
    obtain ⟨hv, n, hr⟩ := hrk
    rcases hv with rfl | ⟨q, rfl⟩
    · exact W.aret (v := .null) hx hb hr (Or.inl ⟨n, rfl⟩) (Or.inl rfl) hq hS.2.2 hd hlocks
    · exact W.aret (v := .ref (ad q)) hx hb hr (Or.inl ⟨n, rfl⟩) (Or.inr ⟨_, rfl⟩) hq hS.2.2 hd hlocks
  | freturn =>
    obtain ⟨k, rfl, hr⟩ := hrk
    exact W.fret hx hb hr hq hS.2.2 hd hlocks
  | dreturn =>
    obtain ⟨k, rfl, hr⟩ := hrk
    exact W.dret hx hb hr hq hS.2.2 hd hlocks
  | return_ =>
    obtain ⟨rfl, hr⟩ := hrk
    exact W.vret hx hb hr hq hS.2.2 hd hlocks
  | _ => exact hrk.elim
theorem word_ok {args : Array Value} {s : State} (hts : ∀ w ∈ lw_all, w.before args s = true) (hnw : ∀ w ∈ nw_all, va_Nw w s) {w : Cond} (h : w ∈ lw_all ∨ w ∈ nw_all) : w.before args s = true := by
  rcases h with h | h
  · exact hts w h
  · have h1 : nw_is w = true := (List.mem_filter.mp h).2
    have h2 := hnw w h
    cases w <;> first | (exact va_Nw.use rfl h2) | (rename_i t; cases t <;> first | (exact va_AO.use h2) | (simp [nw_is] at h1; done)) | (simp [nw_is] at h1; done)
theorem PW_kept {D : va_G} {cs : Nat → ClassId} {b : Nat} {ad : Rf → Nat} {L : List Rf} {XT : Nat × (Nat → Int32) → va_W → Prop} {G : GS} {H H1 : Heap} (h : PW D cs b ad L XT G H) (hq : ∀ q : Nat, q < H.size → H1[q]? = H[q]?) : PW D cs b ad L XT G H1 := by
  obtain ⟨w, h1, h2, h3⟩ := h
  exact ⟨w, h1, fun k q hk => (h2 k q hk).kept (hq _ (h2 k q hk).lt), h3⟩
section EOX
variable {p : Program} {l : Launch} {e : Env} {s : State} {m : MethodId} {args : Array Value} {below : List Frame} {meth : Method} {c : Code} {R : Room} {D : va_G} {cs : Nat → ClassId} {b : Nat} {ad : Rf → Nat} {adV : Nat → Nat} {sc : Nat × (Nat → Int32)} {L : List Rf} {XT : Nat × (Nat → Int32) → va_W → Prop}
variable {cc : ByteArray} {nL : Nat} {own : String} {c0 s0 seg lv mc : Nat} {out : Out × GS}
theorem EO_x (hexc : ∀ z ∈ c.exceptionTable.toList, False) (hF : FX ((p, l, e, R, s, m, args, below, meth, c, vx_MQ below (Qc_ D cs b ad L XT out) (XC_ D cs b ad L XT out) args s mc (100 * mc) (Ab b)), (D, cs, b, ad, adV, sc, L, XT), cc, nL, own, c0, s0, seg, lv)) (h1 : c0 + seg ≤ mc) (h2 : s0 + 100 * seg ≤ 100 * mc) :
    EOx ((p, l, e, R, s, m, args, below, meth, c, vx_MQ below (Qc_ D cs b ad L XT out) (XC_ D cs b ad L XT out) args s mc (100 * mc) (Ab b)), (D, cs, b, ad, adV, sc, L, XT), cc, nL, own, c0, s0, seg, lv) out := by
  obtain ⟨hx, hb, hml, hown, hts, hKS, hbs, hL, hlocks, hR1, hR2, hR3, hR4⟩ := hF
  intro ex G hout pc u ls rest hu H locs cells slots sl q ce hP hS hl k1 k2 hce hcv hcl
  subst hout
  have hu : u ≤ seg := hu
  exact vx_out (fun z hz => (hexc z hz).elim) hlocks hce hcv hcl (fun t ht _ => ⟨⟨ex, rfl, rfl, by rw [ht]; exact hP⟩, hS.F ht⟩) hS.2.2 (by omega) (by omega)
theorem EO_n (hst : l.stackTraces = false) (hexc : ∀ z ∈ c.exceptionTable.toList, False) (hlv : 6 ≤ lv) (hF : FX ((p, l, e, R, s, m, args, below, meth, c, vx_MQ below (Qc_ D cs b ad L XT out) (XC_ D cs b ad L XT out) args s mc (100 * mc) (Ab b)), (D, cs, b, ad, adV, sc, L, XT), cc, nL, own, c0, s0, seg, lv)) (h1 : c0 + seg ≤ mc) (h2 : s0 + 100 * seg ≤ 100 * mc) :
    EOn ((p, l, e, R, s, m, args, below, meth, c, vx_MQ below (Qc_ D cs b ad L XT out) (XC_ D cs b ad L XT out) args s mc (100 * mc) (Ab b)), (D, cs, b, ad, adV, sc, L, XT), cc, nL, own, c0, s0, seg, lv) out := by
  obtain ⟨hx, hb, hml, hown, hts, hKS, hbs, hL, hlocks, hR1, hR2, hR3, hR4⟩ := hF
  intro ex G hout pc u idx ls st hnew hu hcat H locs cells slots sl hP hS hl k1 k2
  subst hout
  have hu : u + 1 ≤ seg := hu
  obtain ⟨d0, d3, d7, ic, d4, hw⟩ := hnew
  have hw2 : ∀ w ∈ Cond.classLink own idx (exN ex) :: Cond.initialized (exN ex) :: vx_at0 own ic (exN ex) ["java/lang/RuntimeException", "java/lang/Exception"], w.before args s = true := fun w h => word_ok hts hKS.2.2.2.1 (hw w h).1
  refine vx_throw0 (A := Ab b) (names := ["java/lang/RuntimeException", "java/lang/Exception"]) hx hb hst hown ?_ (by decide +kernel) (hw2 _ List.mem_cons_self) (hw2 _ (List.mem_cons_of_mem _ List.mem_cons_self)) (fun w h => hw2 w (List.mem_cons_of_mem _ (List.mem_cons_of_mem _ h))) (fun w h => (hw w h).2) hKS.2.1 hKS.2.2.1 hS (hl.2.1.trans hml.symm) d0 d3 d4 d7 (fun z hz => (hexc z hz).elim)
    (by show 5 < R.frames; omega) ?_ (by omega) (by omega) hlocks (fun t _ hz hq => ⟨⟨ex, rfl, rfl, PW_kept hP hq⟩, ⟨Nat.le_trans hS.1 hz, fun q g1 g2 => by rw [hq q (Nat.lt_of_lt_of_le g1 hS.1)]; exact hS.2.1 q g1 g2⟩⟩) hS.2.2 (by omega) (by omega)
  · unfold exN
    split <;> decide +kernel
  · rw [cats_eq]
    show ai_cats st + 81 ≤ R.locals
    omega
end EOX
theorem vAs_some {L : List Rf} {as : List AV} {n : Nat} (h : vAs L as) : vLs L (as.map some ++ List.replicate n none) := by
  intro v hv
  rcases List.mem_append.mp hv with h1 | h1
  · obtain ⟨w, hw, e⟩ := List.mem_map.mp h1
    cases e
    exact h v hw
  · have := List.eq_of_mem_replicate h1
    cases this
theorem toL_none (ad : Rf → Nat) : ∀ (n i : Nat), toL ad i (List.replicate n none) = []
  | 0, _ => rfl
  | n + 1, i => by rw [List.replicate_succ, toL, toL_none ad n]
theorem toL_args {ad : Rf → Nat} : ∀ (as : List AV) (i n : Nat), (∀ v ∈ as, ai_cat v = 1) → toL ad i (as.map some ++ List.replicate n none) = lv_args i (as.map (rv ad))
  | [], i, n, _ => by rw [List.map_nil, List.nil_append, toL_none]; rfl
  | v :: as, i, n, h => by
    have h1 : ¬ (rv ad v).category = 2 := by
      rw [← ai_cat_eq ad v, h v List.mem_cons_self]
      decide
    rw [List.map_cons, List.cons_append, toL, List.map_cons, lv_args, if_neg h1, toL_args as (i + 1) n (fun w hw => h w (List.mem_cons_of_mem _ hw))]
theorem lg_len {ad : Rf → Nat} : ∀ (as : List AV), (∀ v ∈ as, ai_cat v = 1) → (lg_sl (as.map (rv ad))).length = as.length
  | [], _ => rfl
  | v :: as, h => by
    have h1 : ¬ (rv ad v).category = 2 := by
      rw [← ai_cat_eq ad v, h v List.mem_cons_self]
      decide
    have ih := lg_len (ad := ad) as (fun w hw => h w (List.mem_cons_of_mem _ hw))
    unfold lg_sl at ih ⊢
    rw [List.map_cons, List.flatMap_cons, List.length_append, ih, if_neg h1, List.length_cons, List.length_cons, List.length_nil]
    omega
/-- the locals at a method's entry -/
theorem LV_entry {ad : Rf → Nat} {as : List AV} {n : Nat} (hc : ∀ v ∈ as, ai_cat v = 1) (hn : as.length ≤ n) : LV ad ((lg_sl (as.map (rv ad)) ++ List.replicate (n - (lg_sl (as.map (rv ad))).length) Slot.unset).toArray) n (as.map some ++ List.replicate (n - as.length) none) := by
  refine ⟨by simp; omega, ?_⟩
  rw [toL_args as 0 _ hc]
  exact lv_entry _ (by rw [lg_len as hc]; exact hn)
/-- the tables of one method, and what its callees must be -/
def TabOK (sd : Sd) (l : Launch) (own : String) (cc : ByteArray) (seg lv : Nat) (ret : Option FieldType) (T : Tb) (call : Nat → List AV → GS → Res) (hd : Nat → Hd) : Prop :=
  ∀ x : CX, FX x → cxH x = l → cxO x = own → cxC x = cc → cxG x = seg → cxV x = lv → cxR x = ret → cxSide sd x → ∀ pc e, T pc = some e → EnOK x call hd pc e
/-- the abstract machine runs to A -/
def RunOK (seg maxL : Nat) (T : Tb) (call : Nat → List AV → GS → Res) (hd : Nat → Hd) (bk : Nat → Kb) (F : Nat) (A : List AV → GS → Res) : Prop :=
  (∀ as G r, A as G = some r → (∀ v ∈ as, ai_cat v = 1) ∧ as.length ≤ maxL ∧ ∀ sc, ai_run sc T call hd seg (bk F) 600 0 (as.map some ++ List.replicate (maxL - as.length) none) [] G 0 = some r) ∧
  (∀ pc ls st G r, bk 0 pc ls st G = some r → False) ∧
  (∀ k pc ls st G r, bk (k + 1) pc ls st G = some r → ∃ e, T pc = some e ∧ ∀ sc, ai_step sc T call hd seg (ai_run sc T call hd seg (bk k) 600) pc e ls st G 0 = some r)
section Ct
variable {sd : Sd} {l : Launch} {y : MethodName} {bytes : ByteArray} {maxL lev cost seg F : Nat} {ret : Option FieldType} {T : Tb} {call : Nat → List AV → GS → Res} {hd : Nat → Hd} {bk : Nat → Kb} {A : List AV → GS → Res}
theorem CtN_of (hy : plainName y.cls = true) (hT : TabOK sd l y.cls bytes seg lev ret T call (fun _ => [])) (hR : RunOK seg maxL T call (fun _ => []) bk F A) (hN : ∀ as G ex G1, A as G = some (.inr ex, G1) → False) (hcost : seg * (F + 1) ≤ cost) : CtN sd l y (.code y bytes maxL ret :: lw_all) lev cost A := by
  intro D cs b ad adV sc L XT hL hsd as G r hr hvs
  obtain ⟨hcat, hlen, hrun⟩ := hR.1 as G r hr
  obtain ⟨o, G1⟩ := r
  cases o with
  | inr ex => exact (hN as G ex G1 hr).elim
  | inl o =>
    refine Met.ofW (cc := bytes) (maxL := maxL) (ret := ret) hy rfl ?_
    intro p e s m args below meth c s₁ B hml hv
    obtain ⟨rfl, hP, hKS, hbs⟩ := hv
    have hts : ∀ w ∈ lw_all, w.before (as.map (rv ad)).toArray s = true := fun w hw => atoms_spec (ws := .code y bytes maxL ret :: lw_all) B.pre w (List.mem_cons_of_mem _ hw)
    have hown : s.vm.findClass y.cls = some m.cls := findClass_of_methodNamed B.named
    rw [lg_entry_eq]
    have hFX : ∀ c0 s0, c0 + seg ≤ cost → s0 + 100 * seg ≤ 100 * cost → FX ((p, l, e, roomL lev cost, s, m, (as.map (rv ad)).toArray, below, meth, c, MQ below (Qc_ D cs b ad L XT (.inl o, G1)) (as.map (rv ad)).toArray s cost (100 * cost) (Ab b)), (D, cs, b, ad, adV, sc, L, XT), bytes, maxL, y.cls, c0, s0, seg, lev) := fun c0 s0 f1 f2 => ⟨B.exec, B.bytes, hml, hown, hts, hKS, hbs, hL, B.notSynchronized, f1, f2, Nat.le_refl _, Nat.le_refl _⟩
    have hK := start_sound (X := ((p, l, e, roomL lev cost, s, m, (as.map (rv ad)).toArray, below, meth, c, MQ below (Qc_ D cs b ad L XT (.inl o, G1)) (as.map (rv ad)).toArray s cost (100 * cost) (Ab b)), (D, cs, b, ad, adV, sc, L, XT), bytes, maxL, y.cls, 0, 0, seg, lev)) (T := T) (call := call) (hd := fun _ => []) (bk := bk) (F := F) (mc := cost) (out := (.inl o, G1)) (fun _ _ => rfl) (fun _ _ => rfl) (fun _ _ => rfl) hFX
      (fun c0 s0 f1 f2 => ⟨EO_N (fun _ _ _ k => k) (hFX c0 s0 f1 f2) f1 f2, (fun ex G2 h => by cases h), (fun ex G2 h => by cases h)⟩)
      (fun c0 s0 hF => hT _ hF rfl rfl rfl rfl rfl B.returns hsd) (fun pc ls st G h => hR.2.1 pc ls st G _ h)
      (fun k pc ls st G h => by obtain ⟨e9, h1, h2⟩ := hR.2.2 k pc ls st G _ h; exact ⟨e9, h1, h2 sc⟩) hcost (hrun sc) (vAs_some hvs)
    exact hK s.heap [] 0 0 _ hP va_S.rf (LV_entry hcat hlen) (Nat.zero_le _) (Nat.zero_le _)
theorem CtX_of (hst : l.stackTraces = false) (hlev : 6 ≤ lev) (hy : plainName y.cls = true) (hT : TabOK sd l y.cls bytes seg lev ret T call (fun _ => [])) (hR : RunOK seg maxL T call (fun _ => []) bk F A) (hcost : seg * (F + 1) ≤ cost) : CtX sd l y (.code y bytes maxL ret :: lw_all) lev cost A := by
  intro D cs b ad adV sc L XT hL hsd as G r hr hvs
  obtain ⟨hcat, hlen, hrun⟩ := hR.1 as G r hr
  refine vx_ofW (cc := bytes) (maxL := maxL) (ret := ret) hy rfl ?_
  intro p e s m args below meth c s₁ B hml hexc hv
  obtain ⟨rfl, hP, hKS, hbs⟩ := hv
  have hts : ∀ w ∈ lw_all, w.before (as.map (rv ad)).toArray s = true := fun w hw => atoms_spec (ws := .code y bytes maxL ret :: lw_all) B.pre w (List.mem_cons_of_mem _ hw)
  have hown : s.vm.findClass y.cls = some m.cls := findClass_of_methodNamed B.named
  rw [lg_entry_eq]
  have hFX : ∀ c0 s0, c0 + seg ≤ cost → s0 + 100 * seg ≤ 100 * cost → FX ((p, l, e, roomL lev cost, s, m, (as.map (rv ad)).toArray, below, meth, c, vx_MQ below (Qc_ D cs b ad L XT r) (XC_ D cs b ad L XT r) (as.map (rv ad)).toArray s cost (100 * cost) (Ab b)), (D, cs, b, ad, adV, sc, L, XT), bytes, maxL, y.cls, c0, s0, seg, lev) := fun c0 s0 f1 f2 => ⟨B.exec, B.bytes, hml, hown, hts, hKS, hbs, hL, B.notSynchronized, f1, f2, Nat.le_refl _, Nat.le_refl _⟩
  have hK := start_sound (X := ((p, l, e, roomL lev cost, s, m, (as.map (rv ad)).toArray, below, meth, c, vx_MQ below (Qc_ D cs b ad L XT r) (XC_ D cs b ad L XT r) (as.map (rv ad)).toArray s cost (100 * cost) (Ab b)), (D, cs, b, ad, adV, sc, L, XT), bytes, maxL, y.cls, 0, 0, seg, lev)) (T := T) (call := call) (hd := fun _ => []) (bk := bk) (F := F) (mc := cost) (out := r) (fun _ _ => rfl) (fun _ _ => rfl) (fun _ _ => rfl) hFX
    (fun c0 s0 f1 f2 => by
      refine ⟨?_, EO_n hst hexc hlev (hFX c0 s0 f1 f2) f1 f2, EO_x hexc (hFX c0 s0 f1 f2) f1 f2⟩
      obtain ⟨o, G1⟩ := r
      cases o with
      | inl o => exact EO_N (fun _ _ _ k => vx_ret k) (hFX c0 s0 f1 f2) f1 f2
      | inr ex => exact fun v G h => by cases h)
    (fun c0 s0 hF => hT _ hF rfl rfl rfl rfl rfl B.returns hsd) (fun pc ls st G h => hR.2.1 pc ls st G _ h)
    (fun k pc ls st G h => by obtain ⟨e9, h1, h2⟩ := hR.2.2 k pc ls st G _ h; exact ⟨e9, h1, h2 sc⟩) hcost (hrun sc) (vAs_some hvs)
  exact hK s.heap [] 0 0 _ hP va_S.rf (LV_entry hcat hlen) (Nat.zero_le _) (Nat.zero_le _)
end Ct
