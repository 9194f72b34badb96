/-! A METHOD'S CONTRACT out of its tables -/
def setC (x : CX) (c0 s0 : Nat) : CX := match x with
  | (a, b, (cc, nL, own, _, _, seg, lv)) => (a, b, (cc, nL, own, c0, s0, seg, lv))
theorem WG_shift {x : CX} {c0 s0 v pc : Nat} {ls : Ls} {st : List AV} {G : GS} (h : WG (setC x (c0 + v) (s0 + 100 * v)) pc ls st G 0) : WG (setC x c0 s0) pc ls st G v := by
  obtain ⟨⟨p, l, e, R, s, m, args, below, meth, c, Q⟩, ⟨D, cs, b, ad, adV, sc, L, XT⟩, cc, nL, own, c1, s1, seg, lv⟩ := x
  intro H locs cells slots sl hP hS hl h1 h2
  exact h H locs cells slots sl hP hS hl (by omega) (by omega)
section Rn
variable {x : CX} {T : Tb} {call : Nat → List AV → GS → Res} {hd : Nat → Hd} {out : Out × GS} {back : Kb}
theorem run_sound (hF : FX x) (hEr : EOr x out) (hEn : EOn x out) (hEx : EOx x out) (hT : ∀ pc e, T pc = some e → EnOK x call hd pc e)
    (hback : ∀ pc ls st G, back pc ls st G = some out → vLs (cxL x) ls → vAs (cxL x) st → WG x pc ls st G (cxG x)) : ∀ (n pc : Nat) (ls : Ls) (st : List AV) (G : GS) (u : Nat),
      ai_run (cxS x) T call hd (cxG x) back n pc ls st G u = some out → vLs (cxL x) ls → vAs (cxL x) st → u ≤ cxG x → WG x pc ls st G u
  | 0, _, _, _, _, _, h, _, _, _ => by cases h
  | n + 1, pc, ls, st, G, u, h, hls, hst, hu => by
    unfold ai_run at h
    split at h
    · cases h
    · rename_i e he
      split at h
      · exact WG_up (WG_kill _ (hback _ _ _ _ h (vLs_kill _ hls) hst)) hu
      · exact step_sound hF hEr hEn hEx (hT pc e he) (run_sound hF hEr hEn hEx hT hback n) h hls hst hu
theorem loop_sound {X : CX} {bk : Nat → Kb} {mc : Nat} (hG : ∀ c0 s0, cxG (setC X c0 s0) = cxG X) (hS : ∀ c0 s0, cxS (setC X c0 s0) = cxS X) (hLL : ∀ c0 s0, cxL (setC X c0 s0) = cxL X)
    (hFX : ∀ c0 s0, c0 + cxG X ≤ mc → s0 + 100 * cxG X ≤ 100 * mc → FX (setC X c0 s0))
    (hEO : ∀ c0 s0, c0 + cxG X ≤ mc → s0 + 100 * cxG X ≤ 100 * mc → EOr (setC X c0 s0) out ∧ EOn (setC X c0 s0) out ∧ EOx (setC X c0 s0) out)
    (hT : ∀ c0 s0, FX (setC X c0 s0) → ∀ pc e, T pc = some e → EnOK (setC X c0 s0) call hd pc e)
    (hb0 : ∀ pc ls st G, bk 0 pc ls st G = some out → False)
    (hbk : ∀ k pc ls st G, bk (k + 1) pc ls st G = some out → ∃ e, T pc = some e ∧ ai_step (cxS X) T call hd (cxG X) (ai_run (cxS X) T call hd (cxG X) (bk k) 600) pc e ls st G 0 = some out) :
    ∀ (k c0 : Nat), c0 + cxG X * k ≤ mc → ∀ pc ls st G, bk k pc ls st G = some out → vLs (cxL X) ls → vAs (cxL X) st → WG (setC X c0 (100 * c0)) pc ls st G 0
  | 0, c0, _, pc, ls, st, G, h, _, _ => (hb0 pc ls st G h).elim
  | k + 1, c0, hc, pc, ls, st, G, h, hls, hst => by
    obtain ⟨e, he, hs⟩ := hbk k pc ls st G h
    have hc' : c0 + cxG X + cxG X * k ≤ mc := by rw [Nat.mul_succ] at hc; omega
    have f1 : c0 + cxG X ≤ mc := by omega
    have f2 : 100 * c0 + 100 * cxG X ≤ 100 * mc := by omega
    have hF := hFX c0 (100 * c0) f1 f2
    obtain ⟨hEr, hEn, hEx⟩ := hEO c0 (100 * c0) f1 f2
    have ih := loop_sound hG hS hLL hFX hEO hT hb0 hbk k (c0 + cxG X) hc'
    have hback : ∀ pc ls st G, bk k pc ls st G = some out → vLs (cxL (setC X c0 (100 * c0))) ls → vAs (cxL (setC X c0 (100 * c0))) st → WG (setC X c0 (100 * c0)) pc ls st G (cxG (setC X c0 (100 * c0))) := by
      intro pc ls st G h1 h2 h3
      rw [hLL] at h2 h3
      rw [hG]
      refine WG_shift ?_
      rw [show 100 * c0 + 100 * cxG X = 100 * (c0 + cxG X) by omega]
      exact ih pc ls st G h1 h2 h3
    have hr := run_sound hF hEr hEn hEx (hT c0 (100 * c0) hF) hback 600
    rw [← hG c0 (100 * c0), ← hS c0 (100 * c0)] at hs
    rw [← hLL c0 (100 * c0)] at hls hst
    exact step_sound hF hEr hEn hEx (hT c0 (100 * c0) hF pc e he) hr hs hls hst (Nat.zero_le _)
theorem start_sound {X : CX} {bk : Nat → Kb} {mc F : Nat} (hG : ∀ c0 s0, cxG (setC X c0 s0) = cxG X) (hS : ∀ c0 s0, cxS (setC X c0 s0) = cxS X) (hLL : ∀ c0 s0, cxL (setC X c0 s0) = cxL X)
    (hFX : ∀ c0 s0, c0 + cxG X ≤ mc → s0 + 100 * cxG X ≤ 100 * mc → FX (setC X c0 s0))
    (hEO : ∀ c0 s0, c0 + cxG X ≤ mc → s0 + 100 * cxG X ≤ 100 * mc → EOr (setC X c0 s0) out ∧ EOn (setC X c0 s0) out ∧ EOx (setC X c0 s0) out)
    (hT : ∀ c0 s0, FX (setC X c0 s0) → ∀ pc e, T pc = some e → EnOK (setC X c0 s0) call hd pc e)
    (hb0 : ∀ pc ls st G, bk 0 pc ls st G = some out → False)
    (hbk : ∀ k pc ls st G, bk (k + 1) pc ls st G = some out → ∃ e, T pc = some e ∧ ai_step (cxS X) T call hd (cxG X) (ai_run (cxS X) T call hd (cxG X) (bk k) 600) pc e ls st G 0 = some out)
    (hmc : cxG X * (F + 1) ≤ mc) {ls : Ls} {G : GS} (h : ai_run (cxS X) T call hd (cxG X) (bk F) 600 0 ls [] G 0 = some out) (hls : vLs (cxL X) ls) : WG (setC X 0 0) 0 ls [] G 0 := by
  have hmc' : cxG X + cxG X * F ≤ mc := by rw [Nat.mul_succ] at hmc; omega
  have f1 : 0 + cxG X ≤ mc := by omega
  have f2 : 0 + 100 * cxG X ≤ 100 * mc := by omega
  have hF := hFX 0 0 f1 f2
  obtain ⟨hEr, hEn, hEx⟩ := hEO 0 0 f1 f2
  have hback : ∀ pc ls st G, bk F pc ls st G = some out → vLs (cxL (setC X 0 0)) ls → vAs (cxL (setC X 0 0)) st → WG (setC X 0 0) pc ls st G (cxG (setC X 0 0)) := by
    intro pc ls st G h1 h2 h3
    rw [hLL] at h2 h3
    rw [hG]
    refine WG_shift ?_
    have := loop_sound hG hS hLL hFX hEO hT hb0 hbk F (0 + cxG X) (by omega) pc ls st G h1 h2 h3
    rw [show 0 + 100 * cxG X = 100 * (0 + cxG X) by omega]
    exact this
  rw [← hG 0 0, ← hS 0 0] at h
  rw [← hLL 0 0] at hls
  exact run_sound hF hEr hEn hEx (hT 0 0 hF) hback 600 0 ls [] G 0 h hls (fun w hw => nomatch hw) (Nat.zero_le _)
end Rn
theorem FX_side {x : CX} {c0 s0 : Nat} : cxG (setC x c0 s0) = cxG x ∧ cxS (setC x c0 s0) = cxS x ∧ cxL (setC x c0 s0) = cxL x := by
  obtain ⟨⟨p, l, e, R, s, m, args, below, meth, c, Q⟩, ⟨D, cs, b, ad, adV, sc, L, XT⟩, cc, nL, own, c1, s1, seg, lv⟩ := x
  exact ⟨rfl, rfl, rfl⟩
/-- the ends of a method that returns -/
theorem EO_N {p : Program} {l : Launch} {e : Env} {s : State} {m : MethodId} {args : Array Value} {below : List Frame} {meth : Method} {c : Code} {R : Room} {D : va_G} {cs : Nat → ClassId} {b : Nat} {ad : Rf → Nat} {adV : Nat → Nat} {sc : Nat × (Nat → Int32)} {L : List Rf} {XT : Nat × (Nat → Int32) → va_W → Prop}
    {cc : ByteArray} {nL : Nat} {own : String} {c0 s0 seg lv mc : Nat} {o : Option AV} {G0 : GS} {Q : State → Prop}
    (hQ : ∀ (H : Heap) (locs : List Loc) (g : JFrame), W p l e R s m args below meth c H locs mc (100 * mc) (MQ below (Qc_ D cs b ad L XT (.inl o, G0)) args s mc (100 * mc) (Ab b)) g → W p l e R s m args below meth c H locs mc (100 * mc) Q g)
    (hF : FX ((p, l, e, R, s, m, args, below, meth, c, Q), (D, cs, b, ad, adV, sc, L, XT), cc, nL, own, c0, s0, seg, lv)) (h1 : c0 + seg ≤ mc) (h2 : s0 + 100 * seg ≤ 100 * mc) :
    EOr ((p, l, e, R, s, m, args, below, meth, c, Q), (D, cs, b, ad, adV, sc, L, XT), cc, nL, own, c0, s0, seg, lv) (.inl o, G0) := by
  obtain ⟨hx, hb, hml, hown, hts, hKS, hbs, hL, hlocks, hR1, hR2, hR3, hR4⟩ := hF
  intro v G hout pc u i ls hd hrk hvo hu H locs cells slots sl hP hS hl k1 k2
  cases hout
  have hu : u ≤ seg := hu
  refine W.widen (k := mc) (n := 100 * mc) (by omega) (by omega) (hQ _ _ _ ?_)
  have hq : ∀ t : State, t.heap = H → s.WarmedH t.vm → Qc_ D cs b ad L XT (.inl o, G0) args s (.returned (o.map (rv ad))) t := fun t ht hW => ⟨⟨o, rfl, hvo, rfl, by rw [ht]; exact hP⟩, hS.F ht⟩
  cases i with
  | ireturn =>
    obtain ⟨k, ty, rfl, hr, hn⟩ := hrk
    exact W.zret hx hb hr hn hq hS.2.2 hd hlocks
  | areturn =>
    obtain ⟨hv, n, hr⟩ := hrk
    rcases hv with rfl | ⟨q, rfl⟩
    · exact W.aret (v := .null) hx hb hr (Or.inl ⟨n, rfl⟩) (Or.inl rfl) hq hS.2.2 hd hlocks
    · exact W.aret (v := .ref (ad q)) hx hb hr (Or.inl ⟨n, rfl⟩) (Or.inr ⟨_, rfl⟩) hq hS.2.2 hd hlocks
  | freturn =>
    obtain ⟨k, rfl, hr⟩ := hrk
    exact W.fret hx hb hr hq hS.2.2 hd hlocks
  | dreturn =>
    obtain ⟨k, rfl, hr⟩ := hrk
    exact W.dret hx hb hr hq hS.2.2 hd hlocks
  | return_ =>
    obtain ⟨rfl, hr⟩ := hrk
    exact W.vret hx hb hr hq hS.2.2 hd hlocks
  | _ => exact hrk.elim
