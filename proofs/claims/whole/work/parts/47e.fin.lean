section Fn
variable {kk t : Nat} {G : GS} {S : SS}
theorem FrO_D {G' : GS} (f : FrD G G') : FrO G G' := ⟨fun r hr => ⟨fun k => f.1 r k (fun z => by rw [z.1] at hr; exact absurd hr (by decide)), fun i => f.2.1 r (fun z => by rw [z] at hr; exact absurd hr (by decide)) (fun z => by rw [z] at hr; exact absurd hr (by decide)) i⟩, f.2.2⟩
theorem FrO_k {k : Nat} {v : Int32} : FrO G (si G (0, 50) k v) := ⟨fun r hr => ⟨fun f => by rw [gi_si, if_neg (fun z => by rw [z.1] at hr; exact absurd hr (by decide))], fun i => rfl⟩, rfl⟩
theorem th_D {G' : GS} (f : FrD G G') : gi G' (0, 50) 0 = gi G (0, 50) 0 := f.1 _ _ (fun z => by omega)
/-- the reference reads: it stands at the text's beginning -/
theorem m_read0 (hS : SW t S) (hM : RelM S G) (hk : 2000 ≤ kk) : ∃ G', D_Mo_readsAll kk G = okI (if (psS (Ch (sn S) (sT S)) (sn S) 13 0).1 = true then 1 else 0) G' ∧ PM (sn S) (sT S) (psS (Ch (sn S) (sT S)) (sn S) 13 0).2.1 G' ∧ FrR G G' := by
  have P0 : PM (sn S) (sT S) 0 (si G (0, 50) 12 0) := ⟨by rw [gi_si, if_neg (fun z => by cases z.2)]; exact hM.2.2.2.1.1, by rw [gi_si, if_pos ⟨rfl, rfl⟩]; rfl, hM.2.2.2.1.2, Nat.zero_le _⟩
  obtain ⟨G', b1, b2, b3⟩ := m_parse (kk := kk) (TX_S hS) 13 0 0 kk _ rfl (by omega) (by omega) P0
  exact ⟨G', b1, b2, (FrR_s (j := 0)).tr b3⟩
theorem x_read0 (hS : SW t S) (hX : RelX S G) (hk : 2000 ≤ kk) : ∃ G1, D_Script_parse kk G = okI (if (psS (Ch (sn S) (sT S)) (sn S) 13 0).1 = true then 1 else 0) G1 ∧ PX (sn S) (sT S) (psS (Ch (sn S) (sT S)) (sn S) 13 0).2.1 G1 ∧ FrP 0 G G1 ∧
    ((psS (Ch (sn S) (sT S)) (sn S) 13 0).1 = true → gi G1 (0, 12) 4 = nI (0 + (psS (Ch (sn S) (sT S)) (sn S) 13 0).2.2.length) ∧ KX 0 (psS (Ch (sn S) (sT S)) (sn S) 13 0).2.2 G1 ∧ 0 + (psS (Ch (sn S) (sT S)) (sn S) 13 0).2.2.length ≤ 13) := by
  have P0 : PX (sn S) (sT S) 0 (si (si G (0, 12) 5 0) (0, 12) 4 0) := ⟨by rw [gi_si, if_neg (fun z => by cases z.2), gi_si, if_neg (fun z => by cases z.2)]; exact hX.2.2.2.1.1, by rw [gi_si, if_neg (fun z => by cases z.2), gi_si, if_pos ⟨rfl, rfl⟩]; rfl, hX.2.2.2.1.2, Nat.zero_le _⟩
  obtain ⟨G1, a1, a2, a3, a4⟩ := x_parse (kk := kk) (TX_S hS) (by omega) 13 0 0 kk _ rfl (by omega) (by omega) P0 (by rw [gi_si, if_pos ⟨rfl, rfl⟩]; rfl)
  exact ⟨G1, a1, a2, ((FrP_s (m := 0) (j := 0)).tr FrP_4).tr a3, a4⟩
theorem run_bad (hk : 2000 ≤ kk) (hS : SW t S) (hX : RelX S G) (hM : RelM S G) (ok : ¬ (psS (Ch (sn S) (sT S)) (sn S) 13 0).1 = true) : EQI t (D_Law_runScript kk G) (fun G => D_Mo_runScript kk G) := by
  obtain ⟨G1, a1, a2, a3, -⟩ := x_read0 (kk := kk) hS hX hk
  rw [if_neg ok] at a1
  generalize hpos : (psS (Ch (sn S) (sT S)) (sn S) 13 0).2.1 = pos at a2
  have hp5 : gi (si G1 (0, 12) 3 0) (0, 12) 5 = nI pos := by rw [gi_si, if_neg (fun z => by cases z.2)]; exact a2.2.1
  have hx : D_PB_runScript kk G = exc 2 (si (si G1 (0, 12) 3 0) (0, 0) 5 (nI pos)) := by
    refine (rI a1).trans ((rV (G := si G1 (0, 12) 3 0) rfl).trans ((iT rfl).trans ?_))
    rw [hp5]
  have X2 := RelX_E (e := nI pos) (f := sF S) (RelX_N (RelX_P hX a3)) 5 (nI pos) (Or.inl ⟨rfl, rfl, rfl⟩)
  have FX : FrX G (si (si G1 (0, 12) 3 0) (0, 0) 5 (nI pos)) := ((FrX_P a3).tr (FrX_c (by decide))).tr (FrX_c (by decide))
  have hM1 : RelM S (si (si (si G1 (0, 12) 3 0) (0, 0) 5 (nI pos)) (0, 50) 0 0) := RelM_th (RelM_fr hM FX)
  obtain ⟨G2, b1, b2, b3⟩ := m_read0 (kk := kk) hS hM1 hk
  rw [if_neg ok] at b1
  rw [hpos] at b2
  have M2 := RelM_D hM1 b3.d (AM_R hM1.1 b3)
  have M3 := RelM_N (RelM_E (e := nI pos) (f := sF S) M2 13 (nI pos) (Or.inl ⟨rfl, rfl, rfl⟩))
  refine ⟨1, _, 0, si (si (si G2 (0, 50) 13 (nI pos)) (0, 50) 11 0) (0, 50) 0 1, rIx hx, ?_, th_eq, fun z => absurd z (by decide), (sN S, sW S, sH S, sV S, (0, sT S), (nI pos, sF S), sO S), ?_, ?_, RelM_th M3⟩
  · refine (rI b1).trans ((iT rfl).trans ?_)
    rw [b2.2.1]; rfl
  · obtain ⟨s1, s2, s3, s4, s5, s6, s7, s8⟩ := SW_N hS
    have h60 := hS.2.2.2.2.1
    exact ⟨s1, s2, s3, s4, s5, s6, Or.inr ⟨pos, Nat.le_trans a2.2.2.2 h60, rfl⟩, s8⟩
  · exact RelX_fr X2 (((((FrO_th).tr (FrO_D b3.d)).tr FrO_k).tr FrO_k).tr FrO_k)
end Fn
section Fn2
variable {kk t : Nat} {G : GS} {S : SS}
theorem KX_fr {m : Nat} {rs : List (Nat × PR)} {G G' : GS} (h : KX m rs G) (f4 : ∀ i, ga G' (0, 14) i = ga G (0, 14) i) (f5 : ∀ i, ga G' (0, 15) i = ga G (0, 15) i) : KX m rs G' := fun j r hj => by
  obtain ⟨h1, h2, h3, h4, h5⟩ := h j r hj
  exact ⟨h1, (f4 _).trans h2, fun z => (f5 _).trans (h3 z), fun z => (f5 _).trans (h4 z), fun z => (f5 _).trans (h5 z)⟩
/-- the reference runs what it has read -/
theorem m_all (hk : 2000 ≤ kk) (hS : SW t S) (hM : RelM S G) (ok : (psS (Ch (sn S) (sT S)) (sn S) 13 0).1 = true) : ∃ G1 G2, D_Mo_readsAll kk G = okI 1 G1 ∧ D_Mo_copies kk G1 = okV (sar G1 (0, 54) (blt (ga G1 (0, 54)) (ga G1 (0, 51)) 0 156)) ∧
    D_Mo_doesAll kk (sar G1 (0, 54) (blt (ga G1 (0, 54)) (ga G1 (0, 51)) 0 156)) = okI (if (rnS (sW S) 0 (psS (Ch (sn S) (sT S)) (sn S) 13 0).2.2).1 = none then 1 else 0) G2 ∧ (∀ k, k < 156 → ga G2 (0, 54) k = sW S k) ∧ FrO G G2 ∧ gi G2 (0, 50) 0 = gi G (0, 50) 0 ∧
    gi G2 (0, 50) 17 = nI (rn2 0 (psS (Ch (sn S) (sT S)) (sn S) 13 0).2.2 (rnS (sW S) 0 (psS (Ch (sn S) (sT S)) (sn S) 13 0).2.2).1) ∧ (∀ W', AM W' G2 → RelM (sN S, W', sH S, sV S, (sn S, sT S), (sE S, sF S), sO S) G2) ∧ ((rnS (sW S) 0 (psS (Ch (sn S) (sT S)) (sn S) 13 0).2.2).1 = none → AM (rnS (sW S) 0 (psS (Ch (sn S) (sT S)) (sn S) 13 0).2.2).2 G2) := by
  obtain ⟨G1, b1, b2, b3⟩ := m_read0 (kk := kk) hS hM hk
  rw [if_pos ok] at b1
  have fk : FrK G1 (sar G1 (0, 54) (blt (ga G1 (0, 54)) (ga G1 (0, 51)) 0 156)) := ⟨fun r f _ => rfl, fun r _ n i => by rw [ga_sar, if_neg n], rfl⟩
  have M1 := AM_R hM.1 b3
  have M2 : AM (sW S) (sar G1 (0, 54) (blt (ga G1 (0, 54)) (ga G1 (0, 51)) 0 156)) := fun k hk => by rw [ga_sar, if_neg (by decide)]; exact M1 k hk
  have e54 : ∀ k, k < 156 → ga (sar G1 (0, 54) (blt (ga G1 (0, 54)) (ga G1 (0, 51)) 0 156)) (0, 54) k = sW S k := fun k hk => by
    rw [ga_sar, if_pos rfl]
    have := blt_in (f := ga G1 (0, 54)) (w := ga G1 (0, 51)) (o := 0) hk
    rw [Nat.zero_add] at this
    rw [this]; exact M1 k hk
  have P0 : PM (sn S) (sT S) 0 (si (si (sar G1 (0, 54) (blt (ga G1 (0, 54)) (ga G1 (0, 51)) 0 156)) (0, 50) 17 0) (0, 50) 12 0) := ⟨by rw [gi_si, if_neg (fun z => by cases z.2), gi_si, if_neg (fun z => by cases z.2)]; exact b2.1, by rw [gi_si, if_pos ⟨rfl, rfl⟩]; rfl, fun j hj => by
    show ga (sar G1 (0, 54) (blt (ga G1 (0, 54)) (ga G1 (0, 51)) 0 156)) (0, 56) j = _
    rw [ga_sar, if_neg (by decide)]; exact b2.2.2.1 j hj, Nat.zero_le _⟩
  obtain ⟨G2, c1, c2, c3, c4⟩ := m_run (kk := kk) (TX_S hS) (by omega) 13 0 0 kk (sN S) (sW S) (si (si (sar G1 (0, 54) (blt (ga G1 (0, 54)) (ga G1 (0, 51)) 0 156)) (0, 50) 17 0) (0, 50) 12 0) rfl (by omega) (by omega) hS.2.1 M2 P0 (by rw [gi_si, if_neg (fun z => by cases z.2), gi_si, if_pos ⟨rfl, rfl⟩]; rfl) ok
  have fD : FrD (sar G1 (0, 54) (blt (ga G1 (0, 54)) (ga G1 (0, 51)) 0 156)) G2 := ((FrD_17 (v := 0)).tr (FrR.d (FrR_s (j := 0)))).tr c2
  have R1 := RelM_D hM b3.d M1
  have R2 : RelM S (sar G1 (0, 54) (blt (ga G1 (0, 54)) (ga G1 (0, 51)) 0 156)) := by
    obtain ⟨-, ⟨q1, q2, f, q3, q4, q5⟩, hr⟩ := R1
    exact ⟨M2, ⟨q1, q2, f, q3, q4, fun i row hi k hk => by rw [ga_sar, if_neg (by decide)]; exact q5 i row hi k hk⟩, RMr_K hr fk⟩
  exact ⟨G1, G2, b1, m_copies (by omega), c1, fun k hk => (fD.2.1 _ (by decide) (by decide) k).trans (e54 k hk), ((FrO_D b3.d).tr (FrO_K fk)).tr (FrO_D fD), (th_D fD).trans ((show gi (sar G1 (0, 54) (blt (ga G1 (0, 54)) (ga G1 (0, 51)) 0 156)) (0, 50) 0 = gi G1 (0, 50) 0 from rfl).trans (th_D b3.d)), c3, fun W' hW' => RelM_D R2 fD hW', c4⟩
theorem run_ok (hk : 2000 ≤ kk) (ht : t ≤ 600) (hS : SW t S) (hX : RelX S G) (hM : RelM S G) (ok : (psS (Ch (sn S) (sT S)) (sn S) 13 0).1 = true) : EQI t (D_Law_runScript kk G) (fun G => D_Mo_runScript kk G) := by
  obtain ⟨G1, a1, a2, a3, a4⟩ := x_read0 (kk := kk) hS hX hk
  rw [if_pos ok] at a1
  obtain ⟨c1, c2, c3⟩ := a4 ok
  have hlen := ps_len (Ch (sn S) (sT S)) (sn S) 13 0 ok
  have hpn := a2.2.2.2
  have mall := fun (G : GS) (h : RelM S G) => m_all (kk := kk) hk hS h ok
  generalize (psS (Ch (sn S) (sT S)) (sn S) 13 0).2.2 = rs at c1 c2 c3 hlen mall
  obtain ⟨hA, ⟨h1, h8, nx, hn, hx, hr⟩, hR⟩ := RelX_N (RelX_P hX a3)
  have h8' : (sH S).length ≤ 8 := h8
  have F1 : FrX G (si G1 (0, 12) 3 0) := (FrX_P a3).tr (FrX_c (by decide))
  obtain ⟨G3, d1, d2, d3⟩ := c_draft (kk := kk) hn hx hA hS.2.1.2.1 hS.2.1.1
  have nS : ∀ (j q : Nat), 9 < q → ¬ (((0, q) : Rf).1 = j ∧ 1 ≤ ((0, q) : Rf).2 ∧ ((0, q) : Rf).2 ≤ 9) := fun j q hq z => by
    have : q ≤ 9 := z.2.2
    omega
  have K3 : KX 0 rs G3 := KX_fr (G := si G1 (0, 12) 3 0) c2 (fun i => (d3.1 _ (nS _ 14 (by decide))).2 i) (fun i => (d3.1 _ (nS _ 15 (by decide))).2 i)
  have h43 : gi G3 (0, 12) 4 = nI (0 + rs.length) := ((d3.1 _ (nS _ 12 (by decide))).1 4).trans ((show gi (si G1 (0, 12) 3 0) (0, 12) 4 = gi G1 (0, 12) 4 by rw [gi_si, if_neg (fun z => by cases z.2)]).trans c1)
  obtain ⟨G4, e1, e2, e3⟩ := x_run (kk := kk) (by omega) rs 0 (sN S) kk (sW S) G3 hS.2.1 (AX_fr hA d3 (by omega)) K3 h43 c3 (by omega)
  have hr3 : ∀ i row, i < 8 → (sH S)[i]? = some row → AX row (2 + (nx + 8 - i) % 9) G4 := fun i row hi hrow => AX_fr (AX_fr (hr i row hrow) d3 (by omega)) e2 (by omega)
  have D4 : AX (sW S) (nx + 2) G4 := AX_fr d2 e2 (by omega)
  have x41 : gi G4 (0, 10) 1 = nI nx := ((e2.1 _ (nS _ 10 (by decide))).1 1).trans (((d3.1 _ (nS _ 10 (by decide))).1 1).trans hx)
  have x42 : gi G4 (0, 10) 2 = nI (sH S).length := ((e2.1 _ (nS _ 10 (by decide))).1 2).trans (((d3.1 _ (nS _ 10 (by decide))).1 2).trans h1)
  have R4 := RXr_S (RXr_S hR d3 (by omega)) e2 (by decide)
  have h48 : gi G4 (0, 12) 4 = nI (0 + rs.length) := ((e2.1 _ (nS _ 12 (by decide))).1 4).trans h43
  have F4 : FrX G G4 := (F1.tr (FrX_S d3)).tr (FrX_S e2)
  cases hrn : (rnS (sW S) 0 rs).1 with
  | none =>
    obtain ⟨A4, W4⟩ := e3 hrn
    rw [hrn] at e1
    obtain ⟨G5, k1, k2, k3, k4, k5, k6⟩ := XH_keep (kk := kk) (W := sW S) (hs := sH S) hn x41 x42 h8 (fun i row hi => hr3 i row (by have := (List.getElem?_eq_some_iff.mp hi).1; omega) hi) D4
    have A5 : AX (rnS (sW S) 0 rs).2 0 G5 := AX_eq A4 (fun k h1 h9 => ⟨fun f => k3 _ _ (fun z => by have := congrArg Prod.snd z; simp at this; omega), fun i => k4 _ _⟩)
    have R5 := RXr_of R4 (G' := G5) (fun r hr => ⟨fun f => k3 _ _ (nM_10 hr).1, fun i => k4 _ _⟩) (congrArg Prod.fst k5)
    have F5 : FrX G G5 := F4.tr (fun r hr => ⟨fun f => k3 r f (fun z => by subst z; exact absurd hr (by decide)), fun i => k4 r i⟩)
    have hcl : D_PB_runScript kk G = okI (nI (0 + rs.length)) G5 := by
      refine (rI a1).trans ((rV (G := si G1 (0, 12) 3 0) rfl).trans ((iF (show ¬ (1 : Int32) = 0 by decide)).trans ((rV d1).trans ((rI (show D_PB_performCommands kk G3 = okI (-1) G4 from e1)).trans ((iT (show (-1 : Int32) = -1 from rfl)).trans ((rV k1).trans ?_))))))
      rw [k3 _ _ (by decide), h48]
    have hM1 : RelM S (si (so_ G5 (nI (0 + rs.length)).toInt64) (0, 50) 0 0) := RelM_th (show RelM S (so_ G5 _) from (RelM_fr hM F5 : RelM S G5))
    obtain ⟨G6, G7, m1, m2, m3, m4, m5, m6, m7, m8, m9⟩ := mall _ hM1
    rw [hrn] at m3 m7
    have M7 := RelM_N (m8 _ (m9 hrn))
    obtain ⟨G8, p1, p2, p3⟩ := m_keeps (kk := kk) (W := sW S) (by omega) M7.2.1 (fun k hk => m4 k hk)
    have FO : FrO (si (so_ G5 (nI (0 + rs.length)).toInt64) (0, 50) 0 0) G8 := (m5.tr FrO_k).tr (FrO_K p3)
    have th8 : gi G8 (0, 50) 0 = 0 := (p3.1 _ _ (fun z => by omega)).trans ((show gi (si G7 (0, 50) 11 0) (0, 50) 0 = gi G7 (0, 50) 0 by rw [gi_si, if_neg (fun z => by cases z.2)]).trans (m6.trans th_eq))
    refine ⟨0, _, nI (0 + rs.length), G8, rI hcl, ?_, th8, fun _ => ?_, (sN S + rs.length, (rnS (sW S) 0 rs).2, push (sW S) (sH S), sV S, (0, sT S), (sE S, sF S), sO S), ?_, ?_, ?_⟩
    · refine (rI m1).trans ((iF (show ¬ (1 : Int32) = 0 by decide)).trans ((rV m2).trans ((rI (show _ = okI 1 G7 from m3)).trans ((iF (show ¬ (1 : Int32) = 0 by decide)).trans ((rV p1).trans ?_)))))
      rw [p3.1 _ _ (fun z => by omega), gi_si, if_neg (fun z => by cases z.2), m7]; rfl
    · rw [go_of (v := (nI (0 + rs.length)).toInt64) FO]; exact lg_self _
    · obtain ⟨s1, s2, s3, s4, s5, s6, s7⟩ := hS
      refine ⟨by show sN S + rs.length + 0 ≤ t + 1; omega, W4, fun row hrow => ?_, fun row hrow => (s4 row hrow).mono (Nat.le_add_right ..), Nat.zero_le _, fun i hi => absurd hi (Nat.not_lt_zero i), s7⟩
      obtain ⟨i, hi⟩ := List.getElem?_of_mem hrow
      rcases push_at hi with ⟨-, rfl⟩ | ⟨j, -, -, hj⟩
      · exact s2.mono (Nat.le_add_right ..)
      · exact (s3 row (List.mem_of_getElem? hj)).mono (Nat.le_add_right ..)
    · exact RelX_fr (RelX_fr (G := so_ G5 (nI (0 + rs.length)).toInt64) (show RelX _ (so_ G5 (nI (0 + rs.length)).toInt64) from ⟨A5, k2, R5⟩) FrO_th) FO
    · exact ⟨fun k hk => (p3.2.1 _ (by decide) (by decide) k).trans (M7.1 k hk), p2, RMr_K M7.2.2 p3⟩
  | some q =>
    have hq := rn_lt rs (sW S) 0 q hrn
    rw [hrn] at e1
    obtain ⟨G5, k1, k2, k3⟩ := c_takeBack (kk := kk) hn x41 D4 hS.2.1.2.1 hS.2.1.1
    have H5 : XH (sH S) G5 := ⟨((k3.1 _ (nS _ 10 (by decide))).1 2).trans x42, h8, nx, hn, ((k3.1 _ (nS _ 10 (by decide))).1 1).trans x41, fun i row hi => AX_fr (hr3 i row (by have := (List.getElem?_eq_some_iff.mp hi).1; omega) hi) k3 (by omega)⟩
    have X5 : RelX (sNo S) G5 := ⟨k2, H5, RXr_S R4 k3 (by decide)⟩
    have X6 := RelX_E (e := sE S) (f := nI q) X5 6 (nI q) (Or.inr ⟨rfl, rfl, rfl⟩)
    have F5 : FrX G (si G5 (0, 0) 6 (nI q)) := (F4.tr (FrX_S k3)).tr (FrX_c (by decide))
    have hcl : D_PB_runScript kk G = exc 4 (si G5 (0, 0) 6 (nI q)) :=
      (rI a1).trans ((rV (G := si G1 (0, 12) 3 0) rfl).trans ((iF (show ¬ (1 : Int32) = 0 by decide)).trans ((rV d1).trans ((rI (show D_PB_performCommands kk G3 = okI (nI q) G4 from e1)).trans ((iF (m1_ne (by omega))).trans (rV k1))))))
    have hM1 : RelM S (si (si G5 (0, 0) 6 (nI q)) (0, 50) 0 0) := RelM_th (RelM_fr hM F5)
    obtain ⟨G6, G7, m1, m2, m3, m4, m5, m6, m7, m8, -⟩ := mall _ hM1
    rw [hrn] at m3 m7
    have gb := m_goesBack (kk := kk) (G := si G7 (0, 50) 11 0) (by omega)
    have M8 : AM (sW S) (sar (si G7 (0, 50) 11 0) (0, 51) (blt (ga (si G7 (0, 50) 11 0) (0, 51)) (ga (si G7 (0, 50) 11 0) (0, 54)) 0 156)) := fun k hk => by
      rw [ga_sar, if_pos rfl]
      have := blt_in (f := ga (si G7 (0, 50) 11 0) (0, 51)) (w := ga (si G7 (0, 50) 11 0) (0, 54)) (o := 0) hk
      rw [Nat.zero_add] at this
      rw [this]; exact m4 k hk
    have fM : FrD (si G7 (0, 50) 11 0) (sar (si G7 (0, 50) 11 0) (0, 51) (blt (ga (si G7 (0, 50) 11 0) (0, 51)) (ga (si G7 (0, 50) 11 0) (0, 54)) 0 156)) := ⟨fun _ _ _ => rfl, fun r _ n i => by rw [ga_sar, if_neg n], rfl⟩
    have M9 := RelM_D (RelM_N (m8 (ga G7 (0, 51)) (fun k _ => rfl))) fM M8
    have M10 := RelM_E (e := sE S) (f := nI q) M9 14 (nI q) (Or.inr ⟨rfl, rfl, rfl⟩)
    refine ⟨2, _, 0, si (si (sar (si G7 (0, 50) 11 0) (0, 51) (blt (ga (si G7 (0, 50) 11 0) (0, 51)) (ga (si G7 (0, 50) 11 0) (0, 54)) 0 156)) (0, 50) 14 (nI q)) (0, 50) 0 2, rIx hcl, ?_, th_eq, fun z => absurd z (by decide), (sN S, sW S, sH S, sV S, (0, sT S), (sE S, nI q), sO S), ?_, ?_, RelM_th M10⟩
    · refine (rI m1).trans ((iF (show ¬ (1 : Int32) = 0 by decide)).trans ((rV m2).trans ((rI (show _ = okI 0 G7 from m3)).trans ((iT rfl).trans ((rV gb).trans ?_)))))
      rw [gi_sar, gi_si, if_neg (fun z => by cases z.2), m7]; rfl
    · obtain ⟨s1, s2, s3, s4, s5, s6, s7, s8, s9⟩ := SW_N hS
      exact ⟨s1, s2, s3, s4, s5, s6, s7, Or.inr ⟨q, by omega, rfl⟩, s9⟩
    · exact RelX_fr X6 ((((FrO_th.tr m5).tr FrO_k).tr (FrO_D fM)).tr (FrO_k.tr FrO_k))
theorem e_runScript (hk : 2000 ≤ kk) (ht : t ≤ 600) (h : Rel t G) : EQI t (D_Law_runScript kk G) (fun G => D_Mo_runScript kk G) := by
  obtain ⟨S, hS, hX, hM⟩ := h
  by_cases ok : (psS (Ch (sn S) (sT S)) (sn S) 13 0).1 = true
  · exact run_ok hk ht hS hX hM ok
  · exact run_bad hk hS hX hM ok
end Fn2
