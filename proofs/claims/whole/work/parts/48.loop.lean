/-! THE LAW'S LOOP -/
theorem ex_tr {A B : Res} (h : A = B) (g : ∃ G', B = okI 1 G') : ∃ G', A = okI 1 G' := by rw [h]; exact g
section Lp9
variable {kk : Nat} {G : GS} {t : Nat} {A : Res} {M : GS → Res} {K : GS → Res}
theorem cI0  (h : EQI t A M) (hK : ∀ G', Rel (t + 1) G' → ∃ G'', K G' = okI 1 G'') : ∃ G', (A.bind (fun r => oI r (fun v4 G1 => (M G1).bind (fun r => oI r (fun v8 G5 => (D_Mo_thrown kk G5).bind (fun r => oI r (fun v12 G9 => if v12 = v4 then if v4 = 0 then if (lg_cmp (go_ G9) v8.toInt64) = 0 then K G9 else okI (0 : Int32) G9 else K G9 else okI (0 : Int32) G9) exc)) exc)) exc)) = okI 1 G' := by
  obtain ⟨v, G1, b, G2, e1, e2, e3, e4, e5⟩ := h
  refine ex_tr (rI e1) (ex_tr (rI e2) (ex_tr (rI (v := gi G2 (0, 50) 0) (G := G2) rfl) (ex_tr (iT e3) ?_)))
  by_cases z : v = 0
  · exact ex_tr (iT z) (ex_tr (iT (e4 z)) (hK _ e5))
  · exact ex_tr (iF z) (hK _ e5)
theorem cI1 {x1 : Int32} {n : Nat} (h1 : inb x1 n = true) (h : EQI t A M) (hK : ∀ G', Rel (t + 1) G' → ∃ G'', K G' = okI 1 G'') : ∃ G', (bif inb x1 n then A.bind (fun r => oI r (fun v4 G1 => bif inb x1 n then (M G1).bind (fun r => oI r (fun v8 G5 => (D_Mo_thrown kk G5).bind (fun r => oI r (fun v12 G9 => if v12 = v4 then if v4 = 0 then if (lg_cmp (go_ G9) v8.toInt64) = 0 then K G9 else okI (0 : Int32) G9 else K G9 else okI (0 : Int32) G9) exc)) exc) else none) exc) else none) = okI 1 G' := by
  obtain ⟨v, G1, b, G2, e1, e2, e3, e4, e5⟩ := h
  refine ex_tr (bT h1) (ex_tr (rI e1) (ex_tr (bT h1) (ex_tr (rI e2) (ex_tr (rI (v := gi G2 (0, 50) 0) (G := G2) rfl) (ex_tr (iT e3) ?_)))))
  by_cases z : v = 0
  · exact ex_tr (iT z) (ex_tr (iT (e4 z)) (hK _ e5))
  · exact ex_tr (iF z) (hK _ e5)
theorem cI2 {x1 x2 : Int32} {n : Nat} (h1 : inb x1 n = true) (h2 : inb x2 n = true) (h : EQI t A M) (hK : ∀ G', Rel (t + 1) G' → ∃ G'', K G' = okI 1 G'') : ∃ G', (bif inb x1 n then bif inb x2 n then A.bind (fun r => oI r (fun v4 G1 => bif inb x1 n then bif inb x2 n then (M G1).bind (fun r => oI r (fun v8 G5 => (D_Mo_thrown kk G5).bind (fun r => oI r (fun v12 G9 => if v12 = v4 then if v4 = 0 then if (lg_cmp (go_ G9) v8.toInt64) = 0 then K G9 else okI (0 : Int32) G9 else K G9 else okI (0 : Int32) G9) exc)) exc) else none else none) exc) else none else none) = okI 1 G' := by
  obtain ⟨v, G1, b, G2, e1, e2, e3, e4, e5⟩ := h
  refine ex_tr (bT h1) (ex_tr (bT h2) (ex_tr (rI e1) (ex_tr (bT h1) (ex_tr (bT h2) (ex_tr (rI e2) (ex_tr (rI (v := gi G2 (0, 50) 0) (G := G2) rfl) (ex_tr (iT e3) ?_)))))))
  by_cases z : v = 0
  · exact ex_tr (iT z) (ex_tr (iT (e4 z)) (hK _ e5))
  · exact ex_tr (iF z) (hK _ e5)
theorem cI3 {x1 x2 x3 : Int32} {n : Nat} (h1 : inb x1 n = true) (h2 : inb x2 n = true) (h3 : inb x3 n = true) (h : EQI t A M) (hK : ∀ G', Rel (t + 1) G' → ∃ G'', K G' = okI 1 G'') : ∃ G', (bif inb x1 n then bif inb x2 n then bif inb x3 n then A.bind (fun r => oI r (fun v4 G1 => bif inb x1 n then bif inb x2 n then bif inb x3 n then (M G1).bind (fun r => oI r (fun v8 G5 => (D_Mo_thrown kk G5).bind (fun r => oI r (fun v12 G9 => if v12 = v4 then if v4 = 0 then if (lg_cmp (go_ G9) v8.toInt64) = 0 then K G9 else okI (0 : Int32) G9 else K G9 else okI (0 : Int32) G9) exc)) exc) else none else none else none) exc) else none else none else none) = okI 1 G' := by
  obtain ⟨v, G1, b, G2, e1, e2, e3, e4, e5⟩ := h
  refine ex_tr (bT h1) (ex_tr (bT h2) (ex_tr (bT h3) (ex_tr (rI e1) (ex_tr (bT h1) (ex_tr (bT h2) (ex_tr (bT h3) (ex_tr (rI e2) (ex_tr (rI (v := gi G2 (0, 50) 0) (G := G2) rfl) (ex_tr (iT e3) ?_)))))))))
  by_cases z : v = 0
  · exact ex_tr (iT z) (ex_tr (iT (e4 z)) (hK _ e5))
  · exact ex_tr (iF z) (hK _ e5)
theorem cB1 {x1 : Int32} {n : Nat} (h1 : inb x1 n = true) (h : EQB t A M) (hK : ∀ G', Rel (t + 1) G' → ∃ G'', K G' = okI 1 G'') : ∃ G', (bif inb x1 n then A.bind (fun r => oI r (fun v4 G1 => bif inb x1 n then (M G1).bind (fun r => oI r (fun v8 G5 => (D_Mo_thrown kk G5).bind (fun r => oI r (fun v12 G9 => if v12 = v4 then if v4 = 0 then if v8 = 0 then if (lg_cmp (go_ G9) (0 : Int64)) = 0 then K G9 else okI (0 : Int32) G9 else if (lg_cmp (go_ G9) (1 : Int64)) = 0 then K G9 else okI (0 : Int32) G9 else K G9 else okI (0 : Int32) G9) exc)) exc) else none) exc) else none) = okI 1 G' := by
  obtain ⟨v, G1, b, G2, e1, e2, e3, e4, e5⟩ := h
  refine ex_tr (bT h1) (ex_tr (rI e1) (ex_tr (bT h1) (ex_tr (rI e2) (ex_tr (rI (v := gi G2 (0, 50) 0) (G := G2) rfl) (ex_tr (iT e3) ?_)))))
  by_cases z : v = 0
  · have e6 := e4 z
    refine ex_tr (iT z) ?_
    by_cases y : b = 0
    · rw [if_pos y] at e6
      exact ex_tr (iT y) (ex_tr (iT e6) (hK _ e5))
    · rw [if_neg y] at e6
      exact ex_tr (iF y) (ex_tr (iT e6) (hK _ e5))
  · exact ex_tr (iF z) (hK _ e5)
theorem cV (h : EQV t A M) (hK : ∀ G', Rel (t + 1) G' → ∃ G'', K G' = okI 1 G'') : ∃ G', (A.bind (fun r => oI r (fun v4 G1 => (M G1).bind (fun r => oI r (fun v8 G5 => if v4 = v8 then K G5 else okI (0 : Int32) G5) exc)) exc)) = okI 1 G' := by
  obtain ⟨v, G1, G2, e1, e2, e5⟩ := h
  exact ex_tr (rI e1) (ex_tr (rI e2) (ex_tr (iT rfl) (hK _ e5)))
theorem cF (h : EQF t A M) (hK : ∀ G', Rel (t + 1) G' → ∃ G'', K G' = okI 1 G'') : ∃ G', (A.bind (fun r => oF r (fun v4 G1 => if (FP.f2d v4) &&& 0x7fffffffffffffff ≤ 0x7ff0000000000000 then (M G1).bind (fun r => oF r (fun v8 G5 => if (FP.f2d v8) &&& 0x7fffffffffffffff ≤ 0x7ff0000000000000 then if (Op.cmpValue (FP.dcmp (FP.f2d v4) (FP.f2d v8)) .l) = 0 then K G5 else if (Op.cmpValue (FP.dcmp (FP.f2d v4) (FP.f2d v4)) .l) = 0 then okI (0 : Int32) G5 else if (Op.cmpValue (FP.dcmp (FP.f2d v8) (FP.f2d v8)) .l) = 0 then okI (0 : Int32) G5 else K G5 else none) exc) else none) exc)) = okI 1 G' := by
  obtain ⟨v, G1, G2, e1, e2, e3, e5⟩ := h
  have n := f2d_no e3
  exact ex_tr (rF e1) (ex_tr (iT (bits64 n)) (ex_tr (rF e2) (ex_tr (iT (bits64 n)) (ex_tr (iT (dself n)) (hK _ e5)))))
theorem cD (h : EQD t A M) (hK : ∀ G', Rel (t + 1) G' → ∃ G'', K G' = okI 1 G'') : ∃ G', (A.bind (fun r => oI r (fun v4 G1 => (M G1).bind (fun r => oD r (fun v8 G5 => (D_Mo_thrown kk G5).bind (fun r => oI r (fun v12 G9 => if v12 = v4 then if v4 = 0 then if (Op.cmpValue (FP.dcmp (gd_ G9) v8) .l) = 0 then K G9 else if (Op.cmpValue (FP.dcmp (gd_ G9) (gd_ G9)) .l) = 0 then okI (0 : Int32) G9 else if (Op.cmpValue (FP.dcmp v8 v8) .l) = 0 then okI (0 : Int32) G9 else K G9 else K G9 else okI (0 : Int32) G9) exc)) exc)) exc)) = okI 1 G' := by
  obtain ⟨v, G1, b, G2, e1, e2, e3, e4, e5⟩ := h
  refine ex_tr (rI e1) (ex_tr (rD e2) (ex_tr (rI (v := gi G2 (0, 50) 0) (G := G2) rfl) (ex_tr (iT e3) ?_)))
  by_cases z : v = 0
  · obtain ⟨e6, e7⟩ := e4 z
    exact ex_tr (iT z) (ex_tr (iT (by rw [e6]; exact dself e7)) (hK _ e5))
  · exact ex_tr (iF z) (hK _ e5)
theorem cS (h : EQS t A M) (hK : ∀ G', Rel (t + 1) G' → ∃ G'', K G' = okI 1 G'') : ∃ G', (A.bind (fun r => oI r (fun v4 G1 => (M G1).bind (fun r => oF r (fun v8 G5 => (D_Mo_thrown kk G5).bind (fun r => oI r (fun v12 G9 => if v12 = v4 then if v4 = 0 then if (FP.f2d v8) &&& 0x7fffffffffffffff ≤ 0x7ff0000000000000 then if (Op.cmpValue (FP.dcmp (gd_ G9) (FP.f2d v8)) .l) = 0 then K G9 else if (Op.cmpValue (FP.dcmp (gd_ G9) (gd_ G9)) .l) = 0 then okI (0 : Int32) G9 else if (Op.cmpValue (FP.fcmp v8 v8) .l) = 0 then okI (0 : Int32) G9 else K G9 else none else K G9 else okI (0 : Int32) G9) exc)) exc)) exc)) = okI 1 G' := by
  obtain ⟨v, G1, b, G2, e1, e2, e3, e4, e5⟩ := h
  refine ex_tr (rI e1) (ex_tr (rF e2) (ex_tr (rI (v := gi G2 (0, 50) 0) (G := G2) rfl) (ex_tr (iT e3) ?_)))
  by_cases z : v = 0
  · obtain ⟨e6, e7⟩ := e4 z
    have n := f2d_no e7
    exact ex_tr (iT z) (ex_tr (iT (bits64 n)) (ex_tr (iT (by rw [e6]; exact dself n)) (hK _ e5)))
  · exact ex_tr (iF z) (hK _ e5)
end Lp9
set_option maxHeartbeats 4000000 in
theorem law_step {sc : Nat × (Nat → Int32)} {kk k t : Nat} {G : GS} (hk : 2000 ≤ kk) (hL : sc.1 ≤ 2048) (ht : t ≤ 512) (hb : 4 * t + 4 ≤ sc.1) (h : Rel t G) (hK : ∀ G', Rel (t + 1) G' → ∃ G'', L_Law_law sc kk k (nI (4 * t) + 4) G' = okI 1 G'') : ∃ G', L_Law_law sc kk (k + 1) (nI (4 * t)) G = okI 1 G' := by
  have hs : ¬ Int32.ofNat sc.1 - (4 : Int32) < nI (4 * t) := by
    show ¬ nI sc.1 - (4 : Int32) < nI (4 * t)
    rw [show nI sc.1 - (4 : Int32) = nI (sc.1 - 4) from pk_sub (b := 4) (by omega)]
    exact nI_nlt (by omega) (by omega)
  have h0 : inb (nI (4 * t)) sc.1 = true := in_of (by omega) (by omega)
  have h1 : inb (nI (4 * t) + (1 : Int32)) sc.1 = true := by
    rw [show nI (4 * t) + (1 : Int32) = nI (4 * t + 1) from nI_add _ 1]; exact in_of (by omega) (by omega)
  have h2 : inb (nI (4 * t) + (2 : Int32)) sc.1 = true := by
    rw [show nI (4 * t) + (2 : Int32) = nI (4 * t + 2) from nI_add _ 2]; exact in_of (by omega) (by omega)
  have h3 : inb (nI (4 * t) + (3 : Int32)) sc.1 = true := by
    rw [show nI (4 * t) + (3 : Int32) = nI (4 * t + 3) from nI_add _ 3]; exact in_of (by omega) (by omega)
  refine ex_tr (iF hs) (ex_tr (bT h0) ?_)
  by_cases c0 : (sc.2 (nI (4 * t)).toNatClampNeg) &&& 63 = 0
  · exact ex_tr (iT c0) (cI3 (kk := kk) h1 h2 h3 (e_load (kk := kk) (by omega) h _ _ _) hK)
  refine ex_tr (iF c0) ?_
  by_cases c1 : (sc.2 (nI (4 * t)).toNatClampNeg) &&& 63 = 1
  · exact ex_tr (iT c1) (cI1 (kk := kk) h1 (e_unload (kk := kk) (by omega) h _) hK)
  refine ex_tr (iF c1) ?_
  by_cases c2 : (sc.2 (nI (4 * t)).toNatClampNeg) &&& 63 = 2
  · exact ex_tr (iT c2) (cI2 (kk := kk) h1 h2 (e_shift (kk := kk) (by omega) h _ _) hK)
  refine ex_tr (iF c2) ?_
  by_cases c3 : (sc.2 (nI (4 * t)).toNatClampNeg) &&& 63 = 3
  · exact ex_tr (iT c3) (cI1 (kk := kk) h1 (e_sail (kk := kk) (by omega) h _) hK)
  refine ex_tr (iF c3) ?_
  by_cases c4 : (sc.2 (nI (4 * t)).toNatClampNeg) &&& 63 = 4
  · exact ex_tr (iT c4) (cV  (e_turn (kk := kk) (by omega) h) hK)
  refine ex_tr (iF c4) ?_
  by_cases c5 : (sc.2 (nI (4 * t)).toNatClampNeg) &&& 63 = 5
  · exact ex_tr (iT c5) (cI1 (kk := kk) h1 (e_setLimit (kk := kk) (by omega) h _) hK)
  refine ex_tr (iF c5) ?_
  by_cases c6 : (sc.2 (nI (4 * t)).toNatClampNeg) &&& 63 = 6
  · exact ex_tr (iT c6) (cB1 (kk := kk) h1 (e_drill (kk := kk) (by omega) h _) hK)
  refine ex_tr (iF c6) ?_
  by_cases c7 : (sc.2 (nI (4 * t)).toNatClampNeg) &&& 63 = 7
  · exact ex_tr (iT c7) (cV  (e_pillowCount (kk := kk) (by omega) h) hK)
  refine ex_tr (iF c7) ?_
  by_cases c8 : (sc.2 (nI (4 * t)).toNatClampNeg) &&& 63 = 8
  · exact ex_tr (iT c8) (cI1 (kk := kk) h1 (e_stackHeight (kk := kk) h _) hK)
  refine ex_tr (iF c8) ?_
  by_cases c9 : (sc.2 (nI (4 * t)).toNatClampNeg) &&& 63 = 9
  · exact ex_tr (iT c9) (cI2 (kk := kk) h1 h2 (e_pillowAt (kk := kk) h _ _) hK)
  refine ex_tr (iF c9) ?_
  by_cases c10 : (sc.2 (nI (4 * t)).toNatClampNeg) &&& 63 = 10
  · exact ex_tr (iT c10) (cI1 (kk := kk) h1 (e_weightOf (kk := kk) (by omega) h _) hK)
  refine ex_tr (iF c10) ?_
  by_cases c11 : (sc.2 (nI (4 * t)).toNatClampNeg) &&& 63 = 11
  · exact ex_tr (iT c11) (cI1 (kk := kk) h1 (e_destinationOf (kk := kk) (by omega) h _) hK)
  refine ex_tr (iF c11) ?_
  by_cases c12 : (sc.2 (nI (4 * t)).toNatClampNeg) &&& 63 = 12
  · exact ex_tr (iT c12) (cI1 (kk := kk) h1 (e_bayOf (kk := kk) (by omega) h _) hK)
  refine ex_tr (iF c12) ?_
  by_cases c13 : (sc.2 (nI (4 * t)).toNatClampNeg) &&& 63 = 13
  · exact ex_tr (iT c13) (cI1 (kk := kk) h1 (e_positionOf (kk := kk) (by omega) h _) hK)
  refine ex_tr (iF c13) ?_
  by_cases c14 : (sc.2 (nI (4 * t)).toNatClampNeg) &&& 63 = 14
  · exact ex_tr (iT c14) (cI1 (kk := kk) h1 (e_ageOf (kk := kk) (by omega) h _) hK)
  refine ex_tr (iF c14) ?_
  by_cases c15 : (sc.2 (nI (4 * t)).toNatClampNeg) &&& 63 = 15
  · exact ex_tr (iT c15) (cV  (e_moment (kk := kk) (by omega) h) hK)
  refine ex_tr (iF c15) ?_
  by_cases c16 : (sc.2 (nI (4 * t)).toNatClampNeg) &&& 63 = 16
  · exact ex_tr (iT c16) (cV  (e_momentByBays (kk := kk) (by omega) h) hK)
  refine ex_tr (iF c16) ?_
  by_cases c17 : (sc.2 (nI (4 * t)).toNatClampNeg) &&& 63 = 17
  · exact ex_tr (iT c17) (cV  (e_totalWeight (kk := kk) (by omega) h) hK)
  refine ex_tr (iF c17) ?_
  by_cases c18 : (sc.2 (nI (4 * t)).toNatClampNeg) &&& 63 = 18
  · exact ex_tr (iT c18) (cI1 (kk := kk) h1 (e_weightFor (kk := kk) (by omega) h _) hK)
  refine ex_tr (iF c18) ?_
  by_cases c19 : (sc.2 (nI (4 * t)).toNatClampNeg) &&& 63 = 19
  · exact ex_tr (iT c19) (cV  (e_limit (kk := kk) h) hK)
  refine ex_tr (iF c19) ?_
  by_cases c20 : (sc.2 (nI (4 * t)).toNatClampNeg) &&& 63 = 20
  · exact ex_tr (iT c20) (cF  (e_listAngle (kk := kk) (by omega) h) hK)
  refine ex_tr (iF c20) ?_
  by_cases c21 : (sc.2 (nI (4 * t)).toNatClampNeg) &&& 63 = 21
  · exact ex_tr (iT c21) (cV  (e_greatestPush (kk := kk) (by omega) h) hK)
  refine ex_tr (iF c21) ?_
  by_cases c22 : (sc.2 (nI (4 * t)).toNatClampNeg) &&& 63 = 22
  · exact ex_tr (iT c22) (cI1 (kk := kk) h1 (e_levelingBay (kk := kk) (by omega) h _) hK)
  refine ex_tr (iF c22) ?_
  by_cases c23 : (sc.2 (nI (4 * t)).toNatClampNeg) &&& 63 = 23
  · exact ex_tr (iT c23) (cV  (e_port (kk := kk) h) hK)
  refine ex_tr (iF c23) ?_
  by_cases c24 : (sc.2 (nI (4 * t)).toNatClampNeg) &&& 63 = 24
  · exact ex_tr (iT c24) (cV  (e_day (kk := kk) h) hK)
  refine ex_tr (iF c24) ?_
  by_cases c25 : (sc.2 (nI (4 * t)).toNatClampNeg) &&& 63 = 25
  · exact ex_tr (iT c25) (cV  (e_isAscending (kk := kk) h) hK)
  refine ex_tr (iF c25) ?_
  by_cases c26 : (sc.2 (nI (4 * t)).toNatClampNeg) &&& 63 = 26
  · exact ex_tr (iT c26) (cI1 (kk := kk) h1 (e_legsTo (kk := kk) (by omega) h _) hK)
  refine ex_tr (iF c26) ?_
  by_cases c27 : (sc.2 (nI (4 * t)).toNatClampNeg) &&& 63 = 27
  · exact ex_tr (iT c27) (cI1 (kk := kk) h1 (e_portAfter (kk := kk) h _) hK)
  refine ex_tr (iF c27) ?_
  by_cases c28 : (sc.2 (nI (4 * t)).toNatClampNeg) &&& 63 = 28
  · exact ex_tr (iT c28) (cI1 (kk := kk) h1 (e_pillowsInTheWay (kk := kk) (by omega) h _) hK)
  refine ex_tr (iF c28) ?_
  by_cases c29 : (sc.2 (nI (4 * t)).toNatClampNeg) &&& 63 = 29
  · exact ex_tr (iT c29) (cV  (e_pairsInTheWay (kk := kk) (by omega) h) hK)
  refine ex_tr (iF c29) ?_
  by_cases c30 : (sc.2 (nI (4 * t)).toNatClampNeg) &&& 63 = 30
  · exact ex_tr (iT c30) (cV  (e_pairsByStacks (kk := kk) (by omega) h) hK)
  refine ex_tr (iF c30) ?_
  by_cases c31 : (sc.2 (nI (4 * t)).toNatClampNeg) &&& 63 = 31
  · exact ex_tr (iT c31) (cV  (e_unloadableCount (kk := kk) (by omega) h) hK)
  refine ex_tr (iF c31) ?_
  by_cases c32 : (sc.2 (nI (4 * t)).toNatClampNeg) &&& 63 = 32
  · exact ex_tr (iT c32) (cI1 (kk := kk) h1 (e_oldestIn (kk := kk) (by omega) (by omega) h _) hK)
  refine ex_tr (iF c32) ?_
  by_cases c33 : (sc.2 (nI (4 * t)).toNatClampNeg) &&& 63 = 33
  · exact ex_tr (iT c33) (cI0 (kk := kk)  (e_heaviestPort (kk := kk) (by omega) h) hK)
  refine ex_tr (iF c33) ?_
  by_cases c34 : (sc.2 (nI (4 * t)).toNatClampNeg) &&& 63 = 34
  · exact ex_tr (iT c34) (cV  (e_possibleShifts (kk := kk) (by omega) h) hK)
  refine ex_tr (iF c34) ?_
  by_cases c35 : (sc.2 (nI (4 * t)).toNatClampNeg) &&& 63 = 35
  · exact ex_tr (iT c35) (cI1 (kk := kk) h1 (e_pillowByTurn (kk := kk) hk (by omega) h _) hK)
  refine ex_tr (iF c35) ?_
  by_cases c36 : (sc.2 (nI (4 * t)).toNatClampNeg) &&& 63 = 36
  · exact ex_tr (iT c36) (cI1 (kk := kk) h1 (e_bayByWeight (kk := kk) hk h _) hK)
  refine ex_tr (iF c36) ?_
  by_cases c37 : (sc.2 (nI (4 * t)).toNatClampNeg) &&& 63 = 37
  · exact ex_tr (iT c37) (cV  (e_loadedTotal (kk := kk) h) hK)
  refine ex_tr (iF c37) ?_
  by_cases c38 : (sc.2 (nI (4 * t)).toNatClampNeg) &&& 63 = 38
  · exact ex_tr (iT c38) (cV  (e_deliveredTotal (kk := kk) h) hK)
  refine ex_tr (iF c38) ?_
  by_cases c39 : (sc.2 (nI (4 * t)).toNatClampNeg) &&& 63 = 39
  · exact ex_tr (iT c39) (cV  (e_deliveredWeight (kk := kk) h) hK)
  refine ex_tr (iF c39) ?_
  by_cases c40 : (sc.2 (nI (4 * t)).toNatClampNeg) &&& 63 = 40
  · exact ex_tr (iT c40) (cV  (e_drillTotal (kk := kk) h) hK)
  refine ex_tr (iF c40) ?_
  by_cases c41 : (sc.2 (nI (4 * t)).toNatClampNeg) &&& 63 = 41
  · exact ex_tr (iT c41) (cV  (e_capsizedTotal (kk := kk) h) hK)
  refine ex_tr (iF c41) ?_
  by_cases c42 : (sc.2 (nI (4 * t)).toNatClampNeg) &&& 63 = 42
  · exact ex_tr (iT c42) (cD (kk := kk)  (e_meanAge (kk := kk) (by omega) h) hK)
  refine ex_tr (iF c42) ?_
  by_cases c43 : (sc.2 (nI (4 * t)).toNatClampNeg) &&& 63 = 43
  · exact ex_tr (iT c43) (cS (kk := kk)  (e_capsizedShare (kk := kk) h) hK)
  refine ex_tr (iF c43) ?_
  by_cases c44 : (sc.2 (nI (4 * t)).toNatClampNeg) &&& 63 = 44
  · exact ex_tr (iT c44) (cV  (e_isConsistent (kk := kk) (by omega) h) hK)
  refine ex_tr (iF c44) ?_
  by_cases c45 : (sc.2 (nI (4 * t)).toNatClampNeg) &&& 63 = 45
  · exact ex_tr (iT c45) (cI1 (kk := kk) h1 (e_renderStack (kk := kk) (by omega) (by omega) h _) hK)
  refine ex_tr (iF c45) ?_
  by_cases c46 : (sc.2 (nI (4 * t)).toNatClampNeg) &&& 63 = 46
  · exact ex_tr (iT c46) (cV  (e_renderBarge (kk := kk) (by omega) h) hK)
  refine ex_tr (iF c46) ?_
  by_cases c47 : (sc.2 (nI (4 * t)).toNatClampNeg) &&& 63 = 47
  · exact ex_tr (iT c47) (cI1 (kk := kk) h1 (e_outputAt (kk := kk) h _) hK)
  refine ex_tr (iF c47) ?_
  by_cases c48 : (sc.2 (nI (4 * t)).toNatClampNeg) &&& 63 = 48
  · exact ex_tr (iT c48) (cI1 (kk := kk) h1 (e_type (kk := kk) h _) hK)
  refine ex_tr (iF c48) ?_
  by_cases c49 : (sc.2 (nI (4 * t)).toNatClampNeg) &&& 63 = 49
  · exact ex_tr (iT c49) (cI0 (kk := kk)  (e_runScript (kk := kk) hk (by omega) h) hK)
  refine ex_tr (iF c49) ?_
  by_cases c50 : (sc.2 (nI (4 * t)).toNatClampNeg) &&& 63 = 50
  · exact ex_tr (iT c50) (cI0 (kk := kk)  (e_errorPosition (kk := kk) h) hK)
  refine ex_tr (iF c50) ?_
  by_cases c51 : (sc.2 (nI (4 * t)).toNatClampNeg) &&& 63 = 51
  · exact ex_tr (iT c51) (cI0 (kk := kk)  (e_failedCommand (kk := kk) h) hK)
  refine ex_tr (iF c51) ?_
  by_cases c52 : (sc.2 (nI (4 * t)).toNatClampNeg) &&& 63 = 52
  · exact ex_tr (iT c52) (cI0 (kk := kk)  (e_undo (kk := kk) (by omega) h) hK)
  refine ex_tr (iF c52) ?_
  by_cases c53 : (sc.2 (nI (4 * t)).toNatClampNeg) &&& 63 = 53
  · exact ex_tr (iT c53) (cV  (e_save (kk := kk) (by omega) h) hK)
  refine ex_tr (iF c53) ?_
  by_cases c54 : (sc.2 (nI (4 * t)).toNatClampNeg) &&& 63 = 54
  · exact ex_tr (iT c54) (cI0 (kk := kk)  (e_restore (kk := kk) (by omega) h) hK)
  refine ex_tr (iF c54) ?_
  obtain ⟨S, hS, hX, hM⟩ := h
  exact hK G ⟨S, hS.up, hX, hM⟩
theorem law_run {sc : Nat × (Nat → Int32)} {kk : Nat} (hk : 2000 ≤ kk) (hL : sc.1 ≤ 2048) : ∀ m t k G, t + m = 512 → m < k → Rel t G → ∃ G', L_Law_law sc kk k (nI (4 * t)) G = okI 1 G' := by
  have stop : ∀ t k G, sc.1 < 4 * t + 4 → t ≤ 512 → ∃ G', L_Law_law sc kk (k + 1) (nI (4 * t)) G = okI 1 G' := fun t k G hlt ht => by
    refine ⟨G, iT ?_⟩
    show nI sc.1 - nI 4 < nI (4 * t)
    rw [Int32.lt_iff_toInt_lt, pk_sub_toInt (by omega) (by omega), nI_toInt (by omega)]
    omega
  intro m
  induction m with
  | zero =>
    intro t k G ht hk2 h
    obtain ⟨k, rfl⟩ : ∃ j, k = j + 1 := ⟨k - 1, by omega⟩
    exact stop t k G (by omega) (by omega)
  | succ m ih =>
    intro t k G ht hk2 h
    obtain ⟨k, rfl⟩ : ∃ j, k = j + 1 := ⟨k - 1, by omega⟩
    by_cases hb : 4 * t + 4 ≤ sc.1
    · refine law_step hk hL (by omega) hb h (fun G' h' => ?_)
      rw [show nI (4 * t) + (4 : Int32) = nI (4 * (t + 1)) from nI_add _ 4]
      exact ih (t + 1) k G' (by omega) (by omega) h'
    · exact stop t k G (by omega) (by omega)
