/-! The JDK's members as calls of the abstract machine (printed by gen/run4.py) -/
theorem we_386 : (Cond.static Lib.Math.abs.name) ∈ lw_all := all_at 386 (by decide +kernel) rfl
theorem we_387 : (Cond.code Lib.Math.abs.name Lib.Math.abs.code 1 (some .int)) ∈ lw_all := all_at 387 (by decide +kernel) rfl
theorem we_585 : (Cond.static yJ9_floorMod_7cf53) ∈ lw_all := all_at 585 (by decide +kernel) rfl
theorem we_586 : (Cond.code yJ9_floorMod_7cf53 cJ9_floorMod_7cf53 3 (some .int)) ∈ lw_all := all_at 586 (by decide +kernel) rfl
theorem we_869 : (Cond.instanceMethod yJ0_length_8abf5) ∈ lw_all := all_at 869 (by decide +kernel) rfl
theorem we_870 : (Cond.selects RJ0 yJ0_length_8abf5 yJ0_length_8abf5) ∈ lw_all := all_at 870 (by decide +kernel) rfl
theorem we_871 : (Cond.code yJ0_length_8abf5 cJ0_length_8abf5 1 (some .int)) ∈ lw_all := all_at 871 (by decide +kernel) rfl
theorem we_1439 : (Cond.instanceMethod yJ0_charAt_5068e) ∈ lw_all := all_at 1439 (by decide +kernel) rfl
theorem we_1440 : (Cond.selects RJ0 yJ0_charAt_5068e yJ0_charAt_5068e) ∈ lw_all := all_at 1440 (by decide +kernel) rfl
theorem we_1441 : (Cond.code yJ0_charAt_5068e cJ0_charAt_5068e 2 (some .char)) ∈ lw_all := all_at 1441 (by decide +kernel) rfl
theorem we_958 : (Cond.instanceMethod yJ4_length_8abf5) ∈ lw_all := all_at 958 (by decide +kernel) rfl
theorem we_2051 : (Cond.selects RJ4 yJ4_length_8abf5 yJ4_length_8abf5) ∈ lw_all := all_at 2051 (by decide +kernel) rfl
theorem we_94 : (Cond.initialized RJ4) ∈ lw_all := all_at 94 (by decide +kernel) rfl
theorem we_959 : (Cond.code yJ4_length_8abf5 cJ4_length_8abf5 1 (some .int)) ∈ lw_all := all_at 959 (by decide +kernel) rfl
theorem we_1380 : (Cond.instanceMethod yJ4_charAt_5068e) ∈ lw_all := all_at 1380 (by decide +kernel) rfl
theorem we_1381 : (Cond.selects RJ4 yJ4_charAt_5068e yJ4_charAt_5068e) ∈ lw_all := all_at 1381 (by decide +kernel) rfl
theorem we_1382 : (Cond.code yJ4_charAt_5068e cJ4_charAt_5068e 2 (some .char)) ∈ lw_all := all_at 1382 (by decide +kernel) rfl
theorem we_781 : (Cond.instanceMethod yJ4_setLength_d00df) ∈ lw_all := all_at 781 (by decide +kernel) rfl
theorem we_782 : (Cond.selects RJ4 yJ4_setLength_d00df yJ4_setLength_d00df) ∈ lw_all := all_at 782 (by decide +kernel) rfl
theorem we_783 : (Cond.code yJ4_setLength_d00df cJ4_setLength_d00df 2 none) ∈ lw_all := all_at 783 (by decide +kernel) rfl
theorem we_1071 : (Cond.instanceMethod yJ4_append_cf468) ∈ lw_all := all_at 1071 (by decide +kernel) rfl
theorem we_1072 : (Cond.selects RJ4 yJ4_append_cf468 yJ4_append_cf468) ∈ lw_all := all_at 1072 (by decide +kernel) rfl
theorem we_1073 : (Cond.code yJ4_append_cf468 cJ4_append_cf468 2 (some (.object "java/lang/StringBuilder"))) ∈ lw_all := all_at 1073 (by decide +kernel) rfl
theorem we_912 : (Cond.instanceMethod yJ4_append_bf812) ∈ lw_all := all_at 912 (by decide +kernel) rfl
theorem we_913 : (Cond.selects RJ4 yJ4_append_bf812 yJ4_append_bf812) ∈ lw_all := all_at 913 (by decide +kernel) rfl
theorem we_914 : (Cond.code yJ4_append_bf812 cJ4_append_bf812 2 (some (.object "java/lang/StringBuilder"))) ∈ lw_all := all_at 914 (by decide +kernel) rfl
theorem abs_eq (a : Int32) : (if 0 ≤ a then a else 0 - a) = (if a < 0 then -a else a) := by
  by_cases h : 0 ≤ a
  · rw [if_pos h, if_neg (Int32.not_lt.mpr h)]
  · rw [if_neg h, if_pos (Int32.not_le.mp h), Int32.zero_sub]
theorem vAo_int {L : List Rf} {v : Int32} : vAo L (some (.inl (.int v))) := fun w e => by cases e; trivial
theorem cwJ_abs {x : CX} {pc idx : Nat} (hF : FX x) (hd : decode (cxC x) pc = .ok (.invokestatic idx, 3)) (hsd : cxSide sdX x) (w1 : Cond.methodLink (cxO x) idx yJ9_abs_0f7a4 ∈ lw_all) (hlv : 6 ≤ cxV x) : CW x pc 0 A_abs := by
  obtain ⟨⟨p, l, e, R, s, m, args, below, meth, c, Q⟩, ⟨D, cs, b, ad, adV, sc, L, XT⟩, cc, nL, own, c0, s0, seg, lv⟩ := x
  intro as rest G r ls u hr hvs hcat hcost kk kx
  have hlv : 6 ≤ lv := hlv
  have hcost : u + 0 ≤ seg := hcost
  unfold A_abs at hr
  split at hr
  · rename_i a0
    cases hr
    refine jd_mabs hF hd w1 we_386 we_103 we_387 (by show 1 ≤ lv; omega) hcat (by show u ≤ seg; omega) ?_
    refine jd_top (b := .inl (.int (if a0 < 0 then -a0 else a0))) (congrArg (fun z => (Sum.inl (Value.int z) : AV)) (abs_eq a0)) ?_
    exact kk (some (.inl (.int (if a0 < 0 then -a0 else a0)))) rfl vAo_int
  · cases hr
theorem cwJ_max {x : CX} {pc idx : Nat} (hF : FX x) (hd : decode (cxC x) pc = .ok (.invokestatic idx, 3)) (hsd : cxSide sdX x) (w1 : Cond.methodLink (cxO x) idx yJ9_max_7cf53 ∈ lw_all) (hlv : 6 ≤ cxV x) : CW x pc 0 A_max := by
  obtain ⟨⟨p, l, e, R, s, m, args, below, meth, c, Q⟩, ⟨D, cs, b, ad, adV, sc, L, XT⟩, cc, nL, own, c0, s0, seg, lv⟩ := x
  intro as rest G r ls u hr hvs hcat hcost kk kx
  have hlv : 6 ≤ lv := hlv
  have hcost : u + 0 ≤ seg := hcost
  unfold A_max at hr
  split at hr
  · rename_i a0 a1
    cases hr
    refine jd_mmax hF hd w1 we_818 we_103 we_819 (by show 1 ≤ lv; omega) hcat (by show u ≤ seg; omega) ?_
    refine jd_top (b := .inl (.int (if a0 < a1 then a1 else a0))) (congrArg (fun z => (Sum.inl (Value.int z) : AV)) (rfl)) ?_
    exact kk (some (.inl (.int (if a0 < a1 then a1 else a0)))) rfl vAo_int
  · cases hr
theorem cwJ_min {x : CX} {pc idx : Nat} (hF : FX x) (hd : decode (cxC x) pc = .ok (.invokestatic idx, 3)) (hsd : cxSide sdX x) (w1 : Cond.methodLink (cxO x) idx yJ9_min_7cf53 ∈ lw_all) (hlv : 6 ≤ cxV x) : CW x pc 0 A_min := by
  obtain ⟨⟨p, l, e, R, s, m, args, below, meth, c, Q⟩, ⟨D, cs, b, ad, adV, sc, L, XT⟩, cc, nL, own, c0, s0, seg, lv⟩ := x
  intro as rest G r ls u hr hvs hcat hcost kk kx
  have hlv : 6 ≤ lv := hlv
  have hcost : u + 0 ≤ seg := hcost
  unfold A_min at hr
  split at hr
  · rename_i a0 a1
    cases hr
    refine jd_mmin hF hd w1 we_588 we_103 we_589 (by show 1 ≤ lv; omega) hcat (by show u ≤ seg; omega) ?_
    refine jd_top (b := .inl (.int (if a1 < a0 then a1 else a0))) (congrArg (fun z => (Sum.inl (Value.int z) : AV)) (rfl)) ?_
    exact kk (some (.inl (.int (if a1 < a0 then a1 else a0)))) rfl vAo_int
  · cases hr
theorem cwJ_fmod {x : CX} {pc idx : Nat} (hF : FX x) (hd : decode (cxC x) pc = .ok (.invokestatic idx, 3)) (hsd : cxSide sdX x) (w1 : Cond.methodLink (cxO x) idx yJ9_floorMod_7cf53 ∈ lw_all) (hlv : 6 ≤ cxV x) : CW x pc 0 A_fmod := by
  obtain ⟨⟨p, l, e, R, s, m, args, below, meth, c, Q⟩, ⟨D, cs, b, ad, adV, sc, L, XT⟩, cc, nL, own, c0, s0, seg, lv⟩ := x
  intro as rest G r ls u hr hvs hcat hcost kk kx
  have hlv : 6 ≤ lv := hlv
  have hcost : u + 0 ≤ seg := hcost
  unfold A_fmod at hr
  split at hr
  · rename_i a0 a1
    unfold D_fmod at hr
    split at hr
    · cases hr
    · rename_i h0
      cases hr
      refine jg_S (n := 2) (cost := 0) (lev := 0) (as := [.inl (.int a0), .inl (.int a1)]) hF hd w1 we_585 we_103 we_586 ⟨by decide +kernel, by decide +kernel, by decide +kernel⟩ rfl (by decide) (by show 0 + 1 ≤ lv; omega) hcat (by show u + 0 ≤ seg; omega) (fun w0 hw0 => ⟨_, _, fun _ _ h => h, fun _ h => h, jm_fmod h0, fun v w hp => ?_⟩)
      obtain ⟨rfl, rfl⟩ := hp
      exact ⟨some (.inl (.int _)), G, w0, rfl, hw0, fun _ _ h => h, fun _ h => h, kk _ rfl vAo_int⟩
  · cases hr
theorem cwJ_acopy {x : CX} {pc idx : Nat} (hF : FX x) (hd : decode (cxC x) pc = .ok (.invokestatic idx, 3)) (hsd : cxSide sdX x) (w1 : Cond.methodLink (cxO x) idx arraycopyName ∈ lw_all) (hlv : 6 ≤ cxV x) : CW x pc 0 A_acopy := by
  obtain ⟨⟨p, l, e, R, s, m, args, below, meth, c, Q⟩, ⟨D, cs, b, ad, adV, sc, L, XT⟩, cc, nL, own, c0, s0, seg, lv⟩ := x
  intro as rest G r ls u hr hvs hcat hcost kk kx
  have hlv : 6 ≤ lv := hlv
  have hcost : u + 0 ≤ seg := hcost
  unfold A_acopy at hr
  split at hr
  · rename_i a a1 b2 a3 n
    unfold D_acopy at hr
    split at hr
    · rename_i m1 m2 hk1 hk2
      split at hr
      · rename_i hc
        obtain ⟨rfl, rfl, hn, hm1, hm2⟩ := hc
        cases hr
        obtain ⟨hx, hb, hml, hown, hts, hKS, hbs, hL, hlocks, hR1, hR2, hR3, hR4⟩ := hF
        intro H locs cells slots sl hP hS hl h1 h2
        obtain ⟨w0, hXT, hP, hD⟩ := hP
        have va : a ∈ L := hvs (.inr a) (by simp) (by rw [hk1]; rfl)
        have vb : b2 ∈ L := hvs (.inr b2) (by simp) (by rw [hk2]; rfl)
        obtain ⟨k1, e1, -⟩ := cells_get (cs := cs) (ad := ad) hL.1 va G w0
        obtain ⟨k2, e2, f2⟩ := cells_get (cs := cs) (ad := ad) hL.1 vb G w0
        have f3 := f2 (G.1, (fun r i => if r = b2 then (if i < n.toNatClampNeg then ga G a i else ga G b2 i) else G.2.1 r i), G.2.2) _ rfl (fun q _ hq => by
          have g1 : ga (G.1, (fun r i => if r = b2 then (if i < n.toNatClampNeg then ga G a i else ga G b2 i) else G.2.1 r i), G.2.2) q = ga G q := by
            funext i; exact if_neg hq
          unfold ent
          split
          · rfl
          · unfold entA; split <;> first | rfl | rw [g1]
          · rfl)
        rw [ent_a hk1] at e1
        rw [ent_a hk2] at e2
        refine va_copyi (D := D) hx hb (by rw [hml]; exact hl.2.1.symm) hown (hts _ w1) (hts _ we_571) (hts _ we_570) (hts _ we_108) hKS.1 hP hD hS k1 k2 0 0 e1 e2 rfl rfl (by decide) (by decide) (by decide) hn (by show 0 + _ ≤ _; omega) (by show 0 + _ ≤ _; omega) (fun i _ => rfl) (by omega) ?_ hd (fun H1 locs1 g1 g2 g3 => ?_)
        · have z1 : ((rest.map (rv ad)).map fun v => v.category).sum = ai_cats rest := cats_eq ad rest
          show ((rest.map (rv ad)).map fun v => v.category).sum + (nativeFrameWords "java/lang/System" "arraycopy" 5 + 11) ≤ R.locals
          rw [z1]
          have z2 : nativeFrameWords "java/lang/System" "arraycopy" 5 + 11 ≤ 40 := by decide +kernel
          omega
        · have z3 : (.inl (cs 0, m2, .inl (va_cpy (ga G a) (ga G b2) (0 : Int32).toNatClampNeg (0 : Int32).toNatClampNeg n.toNatClampNeg)) : va_E) = ent cs ad (G.1, (fun r i => if r = b2 then (if i < n.toNatClampNeg then ga G a i else ga G b2 i) else G.2.1 r i), G.2.2) b2 := by
            rw [ent_a hk2]
            have z4 : va_cpy (ga G a) (ga G b2) (0 : Int32).toNatClampNeg (0 : Int32).toNatClampNeg n.toNatClampNeg = ga (G.1, (fun r i => if r = b2 then (if i < n.toNatClampNeg then ga G a i else ga G b2 i) else G.2.1 r i), G.2.2) b2 := by
              funext i
              show (if (0 : Int32).toNatClampNeg ≤ i ∧ i < (0 : Int32).toNatClampNeg + n.toNatClampNeg then ga G a ((0 : Int32).toNatClampNeg + (i - (0 : Int32).toNatClampNeg)) else ga G b2 i) = if b2 = b2 then (if i < n.toNatClampNeg then ga G a i else ga G b2 i) else G.2.1 b2 i
              rw [if_pos rfl, sb_cl0, Nat.zero_add, Nat.zero_add, Nat.sub_zero]
              by_cases q : i < n.toNatClampNeg
              · rw [if_pos q, if_pos ⟨Nat.zero_le _, q⟩]
              · rw [if_neg q, if_neg (fun z => q z.2)]
            rw [z4]; rfl
          have g1 : va_P D cls_ (List.set _ k2 (ad b2, _)) H1 := g1
          rw [z3, f3] at g1 g2
          exact kk none rfl (fun w e => by cases e) H1 locs1 cells slots sl ⟨w0, hXT, g1, g2⟩ g3 hl h1 h2
      · cases hr
    · cases hr
  · cases hr
theorem jS_len {k : Nat} (hk : k < 7) : (jS.map List.length).getD k 0 = (jS.getD k []).length := by revert k; decide +kernel
theorem cwJ_slen {x : CX} {pc idx : Nat} (hF : FX x) (hd : decode (cxC x) pc = .ok (.invokevirtual idx, 3)) (hsd : cxSide sdX x) (w1 : Cond.methodLink (cxO x) idx yJ0_length_8abf5 ∈ lw_all) (hlv : 6 ≤ cxV x) : CW x pc 0 A_slen := by
  obtain ⟨⟨p, l, e, R, s, m, args, below, meth, c, Q⟩, ⟨D, cs, b, ad, adV, sc, L, XT⟩, cc, nL, own, c0, s0, seg, lv⟩ := x
  intro as rest G r ls u hr hvs hcat hcost kk kx
  have hlv : 6 ≤ lv := hlv
  have hcost : u + 0 ≤ seg := hcost
  unfold A_slen at hr
  split at hr
  · rename_i k
    unfold D_slen at hr
    split at hr
    · rename_i hk
      cases hr
      refine jg_V (n := 0) (cost := 0) (lev := 1) (q := (k, 200)) (tl := []) (as := [.inr (k, 200)]) (C := "java/lang/String") hF hd rfl (Or.inr ⟨rfl, hk, rfl⟩) w1 we_869 we_870 we_95 we_871 ⟨rfl, by decide +kernel, by decide +kernel, by decide +kernel⟩ rfl (by decide) (by show 1 + 1 ≤ lv; omega) hcat (by show u + 0 ≤ seg; omega) (fun w0 hw0 => ⟨_, _, fun _ _ h => h, fun _ h => h, jm_slen hk, fun v w hp => ?_⟩)
      obtain ⟨rfl, rfl⟩ := hp
      refine ⟨some (.inl (.int _)), G, w0, rfl, hw0, fun _ _ h => h, fun _ h => h, ?_⟩
      rw [jS_len hk]
      exact kk _ rfl vAo_int
    · cases hr
  · cases hr
theorem cwJ_sat {x : CX} {pc idx : Nat} (hF : FX x) (hd : decode (cxC x) pc = .ok (.invokevirtual idx, 3)) (hsd : cxSide sdX x) (w1 : Cond.methodLink (cxO x) idx yJ0_charAt_5068e ∈ lw_all) (hlv : 6 ≤ cxV x) : CW x pc 0 A_sat := by
  obtain ⟨⟨p, l, e, R, s, m, args, below, meth, c, Q⟩, ⟨D, cs, b, ad, adV, sc, L, XT⟩, cc, nL, own, c0, s0, seg, lv⟩ := x
  intro as rest G r ls u hr hvs hcat hcost kk kx
  have hlv : 6 ≤ lv := hlv
  have hcost : u + 0 ≤ seg := hcost
  unfold A_sat at hr
  split at hr
  · rename_i k i
    unfold D_sat at hr
    split at hr
    · rename_i hk
      cases hi : inb i (jS.getD k []).length with
      | false => rw [hi] at hr; cases hr
      | true =>
        rw [hi] at hr
        cases hr
        refine jg_V (n := 1) (cost := 0) (lev := 3) (q := (k, 200)) (tl := [.inl (.int i)]) (as := [.inr (k, 200), .inl (.int i)]) (C := "java/lang/String") hF hd rfl (Or.inr ⟨rfl, hk, rfl⟩) w1 we_1439 we_1440 we_95 we_1441 ⟨rfl, by decide +kernel, by decide +kernel, by decide +kernel⟩ rfl (by decide) (by show 3 + 1 ≤ lv; omega) hcat (by show u + 0 ≤ seg; omega) (fun w0 hw0 => ⟨_, _, fun _ _ h => h, fun _ h => h, jm_sat hk (by rw [jS_len hk]; exact hi), fun v w hp => ?_⟩)
        obtain ⟨rfl, rfl⟩ := hp
        exact ⟨some (.inl (.int _)), G, w0, rfl, hw0, fun _ _ h => h, fun _ h => h, kk _ rfl vAo_int⟩
    · cases hr
  · cases hr
theorem vAo_sb {L : List Rf} : vAo L (some (.inr (0, 16))) := fun w e => by cases e; exact fun h => nomatch h
theorem dg0_let {w : Nat} (h : w < 1000) : ∀ j, j < (dg0 w).length → 0 ≤ (dg0 w).getD j 0 ∧ (dg0 w).getD j 0 < 128 := by
  have e1 : ∀ d, d < 10 → (0 : Int32) ≤ nI (48 + d) ∧ nI (48 + d) < 128 := by decide +kernel
  rcases Nat.lt_or_ge w 10 with a | a
  · rw [dg_1 a]; intro j hj; obtain rfl : j = 0 := by simpa using hj
    exact e1 w a
  · rcases Nat.lt_or_ge w 100 with g | g
    · rw [dg_2 a g]; intro j hj
      have hj : j < 2 := hj
      rcases (by omega : j = 0 ∨ j = 1) with rfl | rfl
      · exact e1 _ (by omega)
      · exact e1 _ (by omega)
    · rw [dg_3 g]; intro j hj
      have hj : j < 3 := hj
      rcases (by omega : j = 0 ∨ j = 1 ∨ j = 2) with rfl | rfl | rfl
      · exact e1 _ (by omega)
      · exact e1 _ (by omega)
      · exact e1 _ (by omega)
theorem dg_let {v : Int32} (h1 : -1000 < v) (h2 : v < 1000) : ∀ j, j < (dg_ v).length → 0 ≤ (dg_ v).getD j 0 ∧ (dg_ v).getD j 0 < 128 := by
  obtain ⟨w, hw, rfl | ⟨h0, rfl⟩⟩ := int_cases h1 h2
  · rw [dg_p hw]; exact dg0_let hw
  · rw [dg_n h0 hw]
    intro j hj
    cases j with
    | zero => exact (show (0 : Int32) ≤ 45 ∧ (45 : Int32) < 128 by decide)
    | succ j => exact dg0_let hw j (by simpa using hj)
theorem cwJ_blen {x : CX} {pc idx : Nat} (hF : FX x) (hd : decode (cxC x) pc = .ok (.invokevirtual idx, 3)) (hsd : cxSide sdX x) (w1 : Cond.methodLink (cxO x) idx yJ4_length_8abf5 ∈ lw_all) (hlv : 6 ≤ cxV x) : CW x pc 0 A_blen := by
  obtain ⟨⟨p, l, e, R, s, m, args, below, meth, c, Q⟩, ⟨D, cs, b, ad, adV, sc, L, XT⟩, cc, nL, own, c0, s0, seg, lv⟩ := x
  intro as rest G r ls u hr hvs hcat hcost kk kx
  have hlv : 6 ≤ lv := hlv
  have hcost : u + 0 ≤ seg := hcost
  unfold A_blen at hr
  split at hr
  · cases hr
    obtain ⟨rest0, hXT⟩ := hsd
    subst hXT
    refine jg_V (n := 0) (cost := 0) (lev := 1) (q := (0, 16)) (C := "java/lang/StringBuilder") (tl := []) (as := [.inr (0, 16)]) hF hd rfl (Or.inl ⟨8, (RJ4, TJ4, 4), rfl, rfl, fun w0 h => by obtain ⟨q, cap, f, ml, rfl, -⟩ := h; exact ⟨0, _, rfl⟩⟩) w1 we_958 we_2051 we_94 we_959 ⟨rfl, by decide +kernel, by decide +kernel, by decide +kernel⟩ rfl (by decide) (by show 1 + 1 ≤ lv; omega) hcat (by show u + 0 ≤ seg; omega) (fun w0 hw0 => ?_)
    obtain ⟨q, cap, f, ml, rfl, hn, hc, hf, hle⟩ := hw0
    refine ⟨_, _, fun _ _ h => W_sw h, fun _ h => W_swD h, jm_blen, fun v w hp => ?_⟩
    obtain ⟨rfl, rfl⟩ := hp
    exact ⟨some (.inl (.int _)), G, _, rfl, ⟨q, cap, f, ml, rfl, hn, hc, hf, hle⟩, fun _ _ h => W_sw h, fun _ h => W_swD h, kk _ rfl vAo_int⟩
  · cases hr
theorem cwJ_bat {x : CX} {pc idx : Nat} (hF : FX x) (hd : decode (cxC x) pc = .ok (.invokevirtual idx, 3)) (hsd : cxSide sdX x) (w1 : Cond.methodLink (cxO x) idx yJ4_charAt_5068e ∈ lw_all) (hlv : 6 ≤ cxV x) : CW x pc 0 A_bat := by
  obtain ⟨⟨p, l, e, R, s, m, args, below, meth, c, Q⟩, ⟨D, cs, b, ad, adV, sc, L, XT⟩, cc, nL, own, c0, s0, seg, lv⟩ := x
  intro as rest G r ls u hr hvs hcat hcost kk kx
  have hlv : 6 ≤ lv := hlv
  have hcost : u + 0 ≤ seg := hcost
  unfold A_bat at hr
  split at hr
  · rename_i i
    unfold D_bat at hr
    cases hi : inb i (gn G) with
    | false => rw [hi] at hr; cases hr
    | true =>
      rw [hi] at hr
      cases hr
      obtain ⟨rest0, hXT⟩ := hsd
      subst hXT
      refine jg_V (n := 1) (cost := 0) (lev := 3) (q := (0, 16)) (C := "java/lang/StringBuilder") (tl := [.inl (.int i)]) (as := [.inr (0, 16), .inl (.int i)]) hF hd rfl (Or.inl ⟨8, (RJ4, TJ4, 4), rfl, rfl, fun w0 h => by obtain ⟨q, cap, f, ml, rfl, -⟩ := h; exact ⟨0, _, rfl⟩⟩) w1 we_1380 we_1381 we_94 we_1382 ⟨rfl, by decide +kernel, by decide +kernel, by decide +kernel⟩ rfl (by decide) (by show 3 + 1 ≤ lv; omega) hcat (by show u + 0 ≤ seg; omega) (fun w0 hw0 => ?_)
      obtain ⟨q, cap, f, ml, rfl, hn, hc, hf, hle⟩ := hw0
      obtain ⟨e1, e2, e3⟩ := hle _ (in_nat hi).2
      refine ⟨_, _, fun _ _ h => W_sw h, fun _ h => W_swD h, jm_bat hn hc hi (by rw [e1]; exact e2) (by rw [e1]; exact e3), fun v w hp => ?_⟩
      obtain ⟨rfl, rfl⟩ := hp
      refine ⟨some (.inl (.int _)), G, _, rfl, ⟨q, cap, f, ml, rfl, hn, hc, hf, hle⟩, fun _ _ h => W_sw h, fun _ h => W_swD h, ?_⟩
      rw [e1]
      exact kk _ rfl vAo_int
  · cases hr
theorem cwJ_bset {x : CX} {pc idx : Nat} (hF : FX x) (hd : decode (cxC x) pc = .ok (.invokevirtual idx, 3)) (hsd : cxSide sdX x) (w1 : Cond.methodLink (cxO x) idx yJ4_setLength_d00df ∈ lw_all) (hlv : 6 ≤ cxV x) : CW x pc 0 A_bset := by
  obtain ⟨⟨p, l, e, R, s, m, args, below, meth, c, Q⟩, ⟨D, cs, b, ad, adV, sc, L, XT⟩, cc, nL, own, c0, s0, seg, lv⟩ := x
  intro as rest G r ls u hr hvs hcat hcost kk kx
  have hlv : 6 ≤ lv := hlv
  have hcost : u + 0 ≤ seg := hcost
  unfold A_bset at hr
  split at hr
  · rename_i i
    unfold D_bset at hr
    split at hr
    · rename_i h0
      subst h0
      cases hr
      obtain ⟨rest0, hXT⟩ := hsd
      subst hXT
      refine jg_V (n := 1) (cost := 0) (lev := 5) (q := (0, 16)) (C := "java/lang/StringBuilder") (tl := [.inl (.int 0)]) (as := [.inr (0, 16), .inl (.int 0)]) hF hd rfl (Or.inl ⟨8, (RJ4, TJ4, 4), rfl, rfl, fun w0 h => by obtain ⟨q, cap, f, ml, rfl, -⟩ := h; exact ⟨0, _, rfl⟩⟩) w1 we_781 we_782 we_94 we_783 ⟨rfl, by decide +kernel, by decide +kernel, by decide +kernel⟩ rfl (by decide) (by show 5 + 1 ≤ lv; omega) hcat (by show u + 0 ≤ seg; omega) (fun w0 hw0 => ?_)
      obtain ⟨q, cap, f, ml, rfl, hn, hc, hf, hle⟩ := hw0
      refine ⟨_, _, fun _ _ h => W_sw h, fun _ h => W_swD h, jm_bsl hf (Nat.lt_of_le_of_lt hn (Nat.lt_of_le_of_lt hc (by decide))) hc, fun v w hp => ?_⟩
      obtain ⟨rfl, q2, cap2, f2, ml2, rfl, g1, g2⟩ := hp
      exact ⟨none, st_ G 0 (gt G), _, rfl, ⟨q2, cap2, f2, ml2, rfl, Nat.zero_le _, g1, g2, fun j hj => absurd hj (Nat.not_lt_zero _)⟩, fun _ _ h => W_sw h, fun _ h => W_swD h, kk _ rfl (fun w e => by cases e)⟩
    · cases hr
  · cases hr
theorem cwJ_bapc {x : CX} {pc idx : Nat} (hF : FX x) (hd : decode (cxC x) pc = .ok (.invokevirtual idx, 3)) (hsd : cxSide sdX x) (w1 : Cond.methodLink (cxO x) idx yJ4_append_cf468 ∈ lw_all) (hlv : 6 ≤ cxV x) : CW x pc 1 A_bapc := by
  obtain ⟨⟨p, l, e, R, s, m, args, below, meth, c, Q⟩, ⟨D, cs, b, ad, adV, sc, L, XT⟩, cc, nL, own, c0, s0, seg, lv⟩ := x
  intro as rest G r ls u hr hvs hcat hcost kk kx
  have hlv : 6 ≤ lv := hlv
  have hcost : u + 1 ≤ seg := hcost
  unfold A_bapc at hr
  split at hr
  · rename_i c
    unfold D_bapc at hr
    split at hr
    · rename_i h0
      obtain ⟨h0, h1, h2⟩ := h0
      cases hr
      obtain ⟨rest0, hXT⟩ := hsd
      subst hXT
      refine jg_V (n := 1) (cost := 1) (lev := 5) (q := (0, 16)) (C := "java/lang/StringBuilder") (tl := [.inl (.int c)]) (as := [.inr (0, 16), .inl (.int c)]) hF hd rfl (Or.inl ⟨8, (RJ4, TJ4, 4), rfl, rfl, fun w0 h => by obtain ⟨q, cap, f, ml, rfl, -⟩ := h; exact ⟨0, _, rfl⟩⟩) w1 we_1071 we_1072 we_94 we_1073 ⟨rfl, by decide +kernel, by decide +kernel, by decide +kernel⟩ rfl (by decide) (by show 5 + 1 ≤ lv; omega) hcat (by show u + 1 ≤ seg; omega) (fun w0 hw0 => ?_)
      obtain ⟨q, cap, f, ml, rfl, hn, hc, hf, hle⟩ := hw0
      have hn : gn G ≤ cap := hn
      refine ⟨_, _, fun _ _ h => W_sw h, fun _ h => W_swD h, jm_bac hf h2 hn hc (Int32.not_lt.mp h0) h1, fun v w hp => ?_⟩
      obtain ⟨rfl, q2, cap2, f2, rfl, g1, g2, g3, g4, g5⟩ := hp
      have g4 : ∀ j, j < gn G → f2 j = f j := g4
      refine ⟨some (.inr (0, 16)), st_ G (gn G + 1) (fun i => if i = gn G then c else gt G i), _, rfl, ⟨q2, cap2, f2, ml, rfl, g1, g2, g3, fun j hj => ?_⟩, fun _ _ h => W_sw h, fun _ h => W_swD h, kk _ rfl vAo_sb⟩
      have hj : j < gn G + 1 := hj
      show f2 j = (if j = gn G then c else gt G j) ∧ 0 ≤ (if j = gn G then c else gt G j) ∧ (if j = gn G then c else gt G j) < 128
      by_cases z : j = gn G
      · rw [if_pos z, z]
        exact ⟨g5 0 Nat.zero_lt_one, Int32.not_lt.mp h0, h1⟩
      · rw [if_neg z, g4 j (by omega)]
        exact hle j (show j < gn G by omega)
    · cases hr
  · cases hr
theorem cwJ_bapi {x : CX} {pc idx : Nat} (hF : FX x) (hd : decode (cxC x) pc = .ok (.invokevirtual idx, 3)) (hsd : cxSide sdX x) (w1 : Cond.methodLink (cxO x) idx yJ4_append_bf812 ∈ lw_all) (hlv : 6 ≤ cxV x) : CW x pc 1 A_bapi := by
  obtain ⟨⟨p, l, e, R, s, m, args, below, meth, c, Q⟩, ⟨D, cs, b, ad, adV, sc, L, XT⟩, cc, nL, own, c0, s0, seg, lv⟩ := x
  intro as rest G r ls u hr hvs hcat hcost kk kx
  have hlv : 6 ≤ lv := hlv
  have hcost : u + 1 ≤ seg := hcost
  unfold A_bapi at hr
  split at hr
  · rename_i c
    unfold D_bapi at hr
    split at hr
    · rename_i h0
      obtain ⟨h0, h1, h2⟩ := h0
      cases hr
      obtain ⟨rest0, hXT⟩ := hsd
      subst hXT
      refine jg_V (n := 1) (cost := 1) (lev := 5) (q := (0, 16)) (C := "java/lang/StringBuilder") (tl := [.inl (.int c)]) (as := [.inr (0, 16), .inl (.int c)]) hF hd rfl (Or.inl ⟨8, (RJ4, TJ4, 4), rfl, rfl, fun w0 h => by obtain ⟨q, cap, f, ml, rfl, -⟩ := h; exact ⟨0, _, rfl⟩⟩) w1 we_912 we_913 we_94 we_914 ⟨rfl, by decide +kernel, by decide +kernel, by decide +kernel⟩ rfl (by decide) (by show 5 + 1 ≤ lv; omega) hcat (by show u + 1 ≤ seg; omega) (fun w0 hw0 => ?_)
      obtain ⟨q, cap, f, ml, rfl, hn, hc, hf, hle⟩ := hw0
      have hn : gn G ≤ cap := hn
      refine ⟨_, _, fun _ _ h => W_sw h, fun _ h => W_swD h, jm_bai hf h2 hn hc h0 h1, fun v w hp => ?_⟩
      obtain ⟨rfl, q2, cap2, f2, rfl, g1, g2, g3, g4, g5⟩ := hp
      have g4 : ∀ j, j < gn G → f2 j = f j := g4
      have g5 : ∀ j, j < (dg_ c).length → f2 (gn G + j) = (dg_ c).getD j 0 := g5
      refine ⟨some (.inr (0, 16)), st_ G (gn G + (dg_ c).length) (fun i => if i < gn G then gt G i else (dg_ c).getD (i - gn G) 0), _, rfl, ⟨q2, cap2, f2, ml, rfl, g1, g2, g3, fun j hj => ?_⟩, fun _ _ h => W_sw h, fun _ h => W_swD h, kk _ rfl vAo_sb⟩
      have hj : j < gn G + (dg_ c).length := hj
      show f2 j = (if j < gn G then gt G j else (dg_ c).getD (j - gn G) 0) ∧ 0 ≤ (if j < gn G then gt G j else (dg_ c).getD (j - gn G) 0) ∧ (if j < gn G then gt G j else (dg_ c).getD (j - gn G) 0) < 128
      by_cases z : j < gn G
      · rw [if_pos z, g4 j z]
        exact hle j z
      · rw [if_neg z]
        have z2 := g5 (j - gn G) (by omega)
        rw [show gn G + (j - gn G) = j by omega] at z2
        exact ⟨z2, dg_let h0 h1 _ (by omega)⟩
    · cases hr
  · cases hr
