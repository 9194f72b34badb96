section Fn
variable {kk t : Nat} {G : GS} {S : SS}
theorem FrO_D {G' : GS} (f : FrD G G') : FrO G G' := ⟨fun r hr => ⟨fun k => f.1 r k (fun z => by rw [z.1] at hr; exact absurd hr (by decide)), fun i => f.2.1 r (fun z => by rw [z] at hr; exact absurd hr (by decide)) (fun z => by rw [z] at hr; exact absurd hr (by decide)) i⟩, f.2.2⟩
theorem FrO_k {k : Nat} {v : Int32} : FrO G (si G (0, 50) k v) := ⟨fun r hr => ⟨fun f => by rw [gi_si, if_neg (fun z => by rw [z.1] at hr; exact absurd hr (by decide))], fun i => rfl⟩, rfl⟩
theorem th_D {G' : GS} (f : FrD G G') : gi G' (0, 50) 0 = gi G (0, 50) 0 := f.1 _ _ (fun z => by omega)
/-- the reference reads: it stands at the text's beginning -/
theorem m_read0 (hS : SW t S) (hM : RelM S G) (hk : 2000 ≤ kk) : ∃ G', D_Mo_readsAll kk G = okI (if (psS (Ch (sn S) (sT S)) (sn S) 13 0).1 = true then 1 else 0) G' ∧ PM (sn S) (sT S) (psS (Ch (sn S) (sT S)) (sn S) 13 0).2.1 G' ∧ FrR G G' := by
  have P0 : PM (sn S) (sT S) 0 (si G (0, 50) 12 0) := ⟨by rw [gi_si, if_neg (fun z => by cases z.2)]; exact hM.2.2.2.1.1, by rw [gi_si, if_pos ⟨rfl, rfl⟩]; rfl, hM.2.2.2.1.2, Nat.zero_le _⟩
  obtain ⟨G', b1, b2, b3⟩ := m_parse (kk := kk) (TX_S hS) 13 0 0 kk _ rfl (by omega) (by omega) P0
  exact ⟨G', b1, b2, (FrR_s (j := 0)).tr b3⟩
theorem x_read0 (hS : SW t S) (hX : RelX S G) (hk : 2000 ≤ kk) : ∃ G1, D_Script_parse kk G = okI (if (psS (Ch (sn S) (sT S)) (sn S) 13 0).1 = true then 1 else 0) G1 ∧ PX (sn S) (sT S) (psS (Ch (sn S) (sT S)) (sn S) 13 0).2.1 G1 ∧ FrP 0 G G1 ∧
    ((psS (Ch (sn S) (sT S)) (sn S) 13 0).1 = true → gi G1 (0, 12) 4 = nI (0 + (psS (Ch (sn S) (sT S)) (sn S) 13 0).2.2.length) ∧ KX 0 (psS (Ch (sn S) (sT S)) (sn S) 13 0).2.2 G1 ∧ 0 + (psS (Ch (sn S) (sT S)) (sn S) 13 0).2.2.length ≤ 13) := by
  have P0 : PX (sn S) (sT S) 0 (si (si G (0, 12) 5 0) (0, 12) 4 0) := ⟨by rw [gi_si, if_neg (fun z => by cases z.2), gi_si, if_neg (fun z => by cases z.2)]; exact hX.2.2.2.1.1, by rw [gi_si, if_neg (fun z => by cases z.2), gi_si, if_pos ⟨rfl, rfl⟩]; rfl, hX.2.2.2.1.2, Nat.zero_le _⟩
  obtain ⟨G1, a1, a2, a3, a4⟩ := x_parse (kk := kk) (TX_S hS) (by omega) 13 0 0 kk _ rfl (by omega) (by omega) P0 (by rw [gi_si, if_pos ⟨rfl, rfl⟩]; rfl)
  exact ⟨G1, a1, a2, ((FrP_s (m := 0) (j := 0)).tr FrP_4).tr a3, a4⟩
theorem run_bad (hk : 2000 ≤ kk) (hS : SW t S) (hX : RelX S G) (hM : RelM S G) (ok : ¬ (psS (Ch (sn S) (sT S)) (sn S) 13 0).1 = true) : EQI t (D_Law_runScript kk G) (fun G => D_Mo_runScript kk G) := by
  obtain ⟨G1, a1, a2, a3, -⟩ := x_read0 (kk := kk) hS hX hk
  rw [if_neg ok] at a1
  generalize hpos : (psS (Ch (sn S) (sT S)) (sn S) 13 0).2.1 = pos at a2
  have hp5 : gi (si G1 (0, 12) 3 0) (0, 12) 5 = nI pos := by rw [gi_si, if_neg (fun z => by cases z.2)]; exact a2.2.1
  have hx : D_PB_runScript kk G = exc 2 (si (si G1 (0, 12) 3 0) (0, 0) 5 (nI pos)) := by
    refine (rI a1).trans ((rV (G := si G1 (0, 12) 3 0) rfl).trans ((iT rfl).trans ?_))
    rw [hp5]
  have X2 := RelX_E (e := nI pos) (f := sF S) (RelX_N (RelX_P hX a3)) 5 (nI pos) (Or.inl ⟨rfl, rfl, rfl⟩)
  have FX : FrX G (si (si G1 (0, 12) 3 0) (0, 0) 5 (nI pos)) := ((FrX_P a3).tr (FrX_c (by decide))).tr (FrX_c (by decide))
  have hM1 : RelM S (si (si (si G1 (0, 12) 3 0) (0, 0) 5 (nI pos)) (0, 50) 0 0) := RelM_th (RelM_fr hM FX)
  obtain ⟨G2, b1, b2, b3⟩ := m_read0 (kk := kk) hS hM1 hk
  rw [if_neg ok] at b1
  rw [hpos] at b2
  have M2 := RelM_D hM1 b3.d (AM_R hM1.1 b3)
  have M3 := RelM_N (RelM_E (e := nI pos) (f := sF S) M2 13 (nI pos) (Or.inl ⟨rfl, rfl, rfl⟩))
  refine ⟨1, _, 0, si (si (si G2 (0, 50) 13 (nI pos)) (0, 50) 11 0) (0, 50) 0 1, rIx hx, ?_, th_eq, fun z => absurd z (by decide), (sN S, sW S, sH S, sV S, (0, sT S), (nI pos, sF S), sO S), ?_, ?_, RelM_th M3⟩
  · refine (rI b1).trans ((iT rfl).trans ?_)
    rw [b2.2.1]; rfl
  · obtain ⟨s1, s2, s3, s4, s5, s6, s7, s8⟩ := SW_N hS
    have h60 := hS.2.2.2.2.1
    exact ⟨s1, s2, s3, s4, s5, s6, Or.inr ⟨pos, Nat.le_trans a2.2.2.2 h60, rfl⟩, s8⟩
  · exact RelX_fr X2 (((((FrO_th).tr (FrO_D b3.d)).tr FrO_k).tr FrO_k).tr FrO_k)
end Fn
