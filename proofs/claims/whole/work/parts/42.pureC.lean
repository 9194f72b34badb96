/-! QUESTIONS THAT CHANGE NOTHING -/
section Q0
variable {kk : Nat} {G : GS} {S : SS} {t : Nat}
theorem eqi_ok {L : Res} {M : GS → Res} {v : Int32} (hS : SW t S) (hX : RelX S G) (hM : RelM S G) (hL : L = okI 0 (so_ G v.toInt64)) (hm : ∀ G1, RelM S G1 → gi G1 (0, 50) 0 = 0 → ∀ G0, G1 = si G0 (0, 50) 0 0 → M G0 = okI v G1) : EQI t L M :=
  ⟨0, _, v, si (so_ G v.toInt64) (0, 50) 0 0, hL, hm _ (RelM_th (show RelM S (so_ G v.toInt64) from hM)) th_eq _ rfl, th_eq, fun _ => lg_self _, Rel_th hS (show RelX S (so_ G v.toInt64) from hX) (show RelM S (so_ G v.toInt64) from hM)⟩
theorem eqi_x {L : Res} {M : GS → Res} {k : Nat} (hS : SW t S) (hX : RelX S G) (hM : RelM S G) (k0 : k ≠ 0) (k6 : k < 6) (hL : L = okI (nI k) G) (hm : ∀ G1, RelM S G1 → ∀ G0, G1 = si G0 (0, 50) 0 0 → M G0 = okI 0 (si G1 (0, 50) 0 (nI k))) : EQI t L M :=
  ⟨nI k, G, 0, _, hL, hm _ (RelM_th hM) _ rfl, th_eq, fun z => absurd z (ml_ne k0 k6), Rel_th2 hS hX hM⟩
theorem eqv {L : Res} {M : GS → Res} {v : Int32} (hS : SW t S) (hX : RelX S G) (hM : RelM S G) (hL : L = okI v G) (hm : ∀ G1, RelM S G1 → ∀ G0, G1 = si G0 (0, 50) 0 0 → M G0 = okI v G1) : EQV t L M :=
  ⟨v, G, si G (0, 50) 0 0, hL, hm _ (RelM_th hM) _ rfl, Rel_th hS hX hM⟩
theorem c_reqBay {b : Nat} (hb : b < 7) : D_PB_requireBay kk (nI b) G = okV G := (rI (c_isBay hb)).trans (iF (by decide))
theorem c_reqBayx {x : Int32} (h : x < 0 ∨ nI 7 ≤ x) : D_PB_requireBay kk x G = exc 1 G := (rI (c_isBayx h)).trans (iT rfl)
theorem c_reqPort {b : Nat} (hb : b < 5) : D_PB_requirePort kk (nI b) G = okV G := (rI (c_isPort hb)).trans (iF (by decide))
theorem c_reqPortx {x : Int32} (h : x < 0 ∨ nI 5 ≤ x) : D_PB_requirePort kk x G = exc 1 G := (rI (c_isPortx h)).trans (iT rfl)
theorem c_reqSlot {b : Nat} (hb : b < 35) : D_PB_requireSlot kk (nI b) G = okV G := (rI (c_isSlot hb)).trans (iF (by decide))
theorem c_reqSlotm : D_PB_requireSlot kk (-1) G = exc 3 G := (rI c_isSlotm).trans (iT rfl)
theorem c_reqPillow {W : Nat → Int32} (hH : HH W) (hA : AX W 0 G) (hk : 40 ≤ kk) (x : Int32) : D_PB_requirePillow kk x G = fsel (fun s => okI (nI s) G) (exc 3 G) (fP W x) := by
  have hc := c_slotOf (kk := kk) hH hA hk x
  cases h : fP W x with
  | none =>
    rw [h] at hc
    exact (rI (show D_Cargo_slotOf kk 0 x G = okI (-1) G from hc)).trans (rVx c_reqSlotm)
  | some s =>
    rw [h] at hc
    exact (rI (show D_Cargo_slotOf kk 0 x G = okI (nI s) G from hc)).trans (rV (c_reqSlot (fP_some h).1))
theorem bayc (x : Int32) : (x < 0 ∨ nI 7 ≤ x) ∨ ∃ b, b < 7 ∧ x = nI b := by
  rcases ixc x (n := 7) (by decide) with h | h | h
  · exact Or.inl (Or.inl h)
  · exact Or.inl (Or.inr h.2)
  · exact Or.inr h
theorem portc (x : Int32) : (x < 0 ∨ nI 5 ≤ x) ∨ ∃ b, b < 5 ∧ x = nI b := by
  rcases ixc x (n := 5) (by decide) with h | h | h
  · exact Or.inl (Or.inl h)
  · exact Or.inl (Or.inr h.2)
  · exact Or.inr h
theorem e_pillowCount (hk : 200 ≤ kk) (h : Rel t G) : EQV t (D_PB_pillowCount kk G) (fun G => D_Mo_pillowCount kk G) := by
  obtain ⟨S, hS, hX, hM⟩ := h
  exact eqv hS hX hM (rI (c_countPillows hX.1 (by omega))) (fun G1 h1 G0 e => by subst e; exact rI (m_countAll h1.1 (by omega)))
theorem e_moment (hk : 200 ≤ kk) (h : Rel t G) : EQV t (D_PB_moment kk G) (fun G => D_Mo_moment kk G) := by
  obtain ⟨S, hS, hX, hM⟩ := h
  exact eqv hS hX hM (rI (c_momentOfPillows hS.2.1.1 hX.1 (by omega))) (fun G1 h1 G0 e => by subst e; exact rI (m_momentNow hS.2.1.1 h1.1 (by omega)))
theorem e_momentByBays (hk : 200 ≤ kk) (h : Rel t G) : EQV t (D_PB_momentByBays kk G) (fun G => D_Mo_momentByBays kk G) := by
  obtain ⟨S, hS, hX, hM⟩ := h
  exact eqv hS hX hM (rI (c_momentOfBays hS.2.1.1 hX.1 (by omega))) (fun G1 h1 G0 e => by subst e; exact rI (rI (m_momentNow hS.2.1.1 h1.1 (by omega))))
theorem e_totalWeight (hk : 200 ≤ kk) (h : Rel t G) : EQV t (D_PB_totalWeight kk G) (fun G => D_Mo_totalWeight kk G) := by
  obtain ⟨S, hS, hX, hM⟩ := h
  exact eqv hS hX hM (rI (c_weightOfAll hS.2.1.1 hX.1 (by omega))) (fun G1 h1 G0 e => by subst e; exact rI (m_weightAll hS.2.1.1 h1.1 (by omega)))
theorem e_limit (h : Rel t G) : EQV t (D_PB_limit kk G) (fun G => D_Mo_limit kk G) := by
  obtain ⟨S, hS, hX, hM⟩ := h
  refine eqv (v := sW S 3) hS hX hM ?_ (fun G1 h1 G0 e => ?_)
  · unfold D_PB_limit; rw [hX.1.2.2.2.2.2.1]
  · subst e; unfold D_Mo_limit; rw [h1.1 3 (by decide)]
theorem e_greatestPush (hk : 200 ≤ kk) (h : Rel t G) : EQV t (D_PB_greatestPush kk G) (fun G => D_Mo_greatestPush kk G) := by
  obtain ⟨S, hS, hX, hM⟩ := h
  refine eqv (v := sW S 3 - mom (sW S)) hS hX hM ?_ (fun G1 h1 G0 e => ?_)
  · refine (rI (c_momentOfPillows hS.2.1.1 hX.1 (by omega))).trans ?_
    rw [hX.1.2.2.2.2.2.1]
  · subst e
    refine (rI (m_momentNow hS.2.1.1 h1.1 (by omega))).trans ?_
    rw [h1.1 3 (by decide)]
theorem e_port (h : Rel t G) : EQV t (D_PB_port kk G) (fun G => D_Mo_port kk G) := by
  obtain ⟨S, hS, hX, hM⟩ := h
  refine eqv (v := sW S 1) hS hX hM ?_ (fun G1 h1 G0 e => ?_)
  · unfold D_PB_port; rw [hX.1.2.2.1]
  · subst e; unfold D_Mo_port; rw [h1.1 1 (by decide)]
theorem e_day (h : Rel t G) : EQV t (D_PB_day kk G) (fun G => D_Mo_day kk G) := by
  obtain ⟨S, hS, hX, hM⟩ := h
  refine eqv (v := sW S 0) hS hX hM ?_ (fun G1 h1 G0 e => ?_)
  · unfold D_PB_day; rw [hX.1.2.2.2.1]
  · subst e; unfold D_Mo_day; rw [h1.1 0 (by decide)]
theorem e_isAscending (h : Rel t G) : EQV t (D_PB_isAscending kk G) (fun G => D_Mo_isAscending kk G) := by
  obtain ⟨S, hS, hX, hM⟩ := h
  obtain ⟨p, e, hp, he, h1, h2⟩ := hS.2.1.2.1
  refine eqv (v := 1 - sW S 2) hS hX hM ?_ (fun G1 h1 G0 e0 => ?_)
  · unfold D_PB_isAscending
    rw [hX.1.2.2.2.2.1, h2]
    rcases (show e = 0 ∨ e = 1 by omega) with rfl | rfl <;> rfl
  · subst e0; unfold D_Mo_isAscending
    rw [h1.1 2 (by decide), h2]
    rcases (show e = 0 ∨ e = 1 by omega) with rfl | rfl <;> rfl
theorem e_tally (i : Nat) (hi : i < 5) {L : Res} {M : GS → Res} (hL : L = okI (gi G (0, 4) i) G) (hm : ∀ G0, M G0 = okI (ga (si G0 (0, 50) 0 0) (0, 51) (4 + i)) (si G0 (0, 50) 0 0)) (h : Rel t G) : EQV t L M := by
  obtain ⟨S, hS, hX, hM⟩ := h
  refine eqv (v := sW S (4 + i)) hS hX hM ?_ (fun G1 h1 G0 e => ?_)
  · rw [hL, hX.1.2.2.2.2.2.2 i hi]
  · subst e; rw [hm, h1.1 (4 + i) (by omega)]
theorem e_loadedTotal (h : Rel t G) : EQV t (D_PB_loadedTotal kk G) (fun G => D_Mo_loadedTotal kk G) := e_tally 0 (by decide) rfl (fun _ => rfl) h
theorem e_deliveredTotal (h : Rel t G) : EQV t (D_PB_deliveredTotal kk G) (fun G => D_Mo_deliveredTotal kk G) := e_tally 1 (by decide) rfl (fun _ => rfl) h
theorem e_deliveredWeight (h : Rel t G) : EQV t (D_PB_deliveredWeight kk G) (fun G => D_Mo_deliveredWeight kk G) := e_tally 2 (by decide) rfl (fun _ => rfl) h
theorem e_drillTotal (h : Rel t G) : EQV t (D_PB_drillTotal kk G) (fun G => D_Mo_drillTotal kk G) := e_tally 3 (by decide) rfl (fun _ => rfl) h
theorem e_capsizedTotal (h : Rel t G) : EQV t (D_PB_capsizedTotal kk G) (fun G => D_Mo_capsizedTotal kk G) := e_tally 4 (by decide) rfl (fun _ => rfl) h
theorem e_stackHeight (h : Rel t G) (a : Int32) : EQI t (D_Law_stackHeight kk a G) (fun G => D_Mo_stackHeight kk a G) := by
  obtain ⟨S, hS, hX, hM⟩ := h
  rcases bayc a with hb | ⟨b, hb, rfl⟩
  · exact eqi_x (k := 1) hS hX hM (by decide) (by decide) (rIx (rVx (c_reqBayx hb))) (fun G1 h1 G0 e => by subst e; exact (rI (m_isBayx hb)).trans ((iT rfl).trans (rI rfl)))
  · refine eqi_ok (v := nI (hN (sW S) b)) hS hX hM (rI ((rV (c_reqBay hb)).trans (rI (c_heightOf hS.2.1.1 hX.1 hb)))) (fun G1 h1 _ G0 e => ?_)
    subst e
    refine (rI (m_isBay hb)).trans ((iF (by decide)).trans ((bT (m_hin hb)).trans ?_))
    rw [m_hgt hS.2.1.1 h1.1 hb]
theorem e_pillowAt (h : Rel t G) (a c : Int32) : EQI t (D_Law_pillowAt kk a c G) (fun G => D_Mo_pillowAt kk a c G) := by
  obtain ⟨S, hS, hX, hM⟩ := h
  have hH := hS.2.1.1
  rcases bayc a with hb | ⟨b, hb, rfl⟩
  · exact eqi_x (k := 1) hS hX hM (by decide) (by decide) (rIx (rVx (c_reqBayx hb))) (fun G1 h1 G0 e => by subst e; exact (rI (m_isBayx hb)).trans ((iT rfl).trans (rI rfl)))
  · have h5 := (hH b hb).1
    have fail : (∀ G : GS, AX (sW S) 0 G → D_Cargo_slotAt kk 0 (nI b) c G = okI (-1) G) → (c < 0 ∨ nI (hN (sW S) b) - 1 < c) → EQI t (D_Law_pillowAt kk (nI b) c G) (fun G => D_Mo_pillowAt kk (nI b) c G) := fun hs hc => by
      refine eqi_x (k := 2) hS hX hM (by decide) (by decide) (rIx (show D_PB_pillowAt kk (nI b) c G = exc 3 G from (rV (c_reqBay hb)).trans ((rI (hs G hX.1)).trans (rVx c_reqSlotm)))) (fun G1 h1 G0 e => ?_)
      subst e
      refine (rI (m_isBay hb)).trans ((iF (by decide)).trans ((bT (m_hin hb)).trans ?_))
      rw [m_hgt hH h1.1 hb]
      exact (rI (m_betwx hc)).trans ((iT rfl).trans (rI rfl))
    have hle : nI (hN (sW S) b) - 1 < nI 5 := by
      rcases Nat.eq_zero_or_pos (hN (sW S) b) with h0 | h0
      · rw [h0]; decide
      · rw [show nI (hN (sW S) b) - (1 : Int32) = nI (hN (sW S) b - 1) from pk_sub (b := 1) (by omega)]
        exact nI_lt (by omega) (by decide)
    rcases ixc c (n := 5) (by decide) with hc | ⟨-, hc⟩ | ⟨p, hp, rfl⟩
    · exact fail (fun G _ => c_slotAtx hb (Or.inl hc)) (Or.inl hc)
    · exact fail (fun G _ => c_slotAtx hb (Or.inr hc)) (Or.inr (Int32.lt_of_lt_of_le hle hc))
    · by_cases hph : p < hN (sW S) b
      · refine eqi_ok (v := fW (sW S) b p 0) hS hX hM (rI ((rV (c_reqBay hb)).trans ((rI (c_slotAt hH hX.1 hb hp)).trans ?_))) (fun G1 h1 _ G0 e => ?_)
        · rw [if_pos hph]
          exact (rV (c_reqSlot (by omega))).trans (rI (c_at hX.1 hb hph h5).1)
        · subst e
          refine (rI (m_isBay hb)).trans ((iF (by decide)).trans ((bT (m_hin hb)).trans ?_))
          rw [m_hgt hH h1.1 hb, show nI (hN (sW S) b) - (1 : Int32) = nI (hN (sW S) b - 1) from pk_sub (b := 1) (by omega)]
          exact (rI (m_betw (nI_pos (by omega)) (nI_nlt (by omega) (by omega)))).trans ((iF (by decide)).trans (rI (m_at (k := 0) h1.1 hb hp (by decide))))
      · refine fail (fun G hA => ?_) (Or.inr ?_)
        · rw [c_slotAt hH hA hb hp, if_neg hph]
        · rcases Nat.eq_zero_or_pos (hN (sW S) b) with h0 | h0
          · rw [h0]; exact Int32.lt_of_lt_of_le (by decide : nI 0 - 1 < (0 : Int32)) (Int32.not_lt.mp (nI_pos (by omega)))
          · rw [show nI (hN (sW S) b) - (1 : Int32) = nI (hN (sW S) b - 1) from pk_sub (b := 1) (by omega)]
            exact nI_lt (by omega) (by omega)
theorem fP_ok {W : Nat → Int32} {x : Int32} {s : Nat} (h : fP W x = some s) : s < 35 ∧ s / 5 < 7 ∧ s % 5 < hN W (s / 5) := by
  obtain ⟨h1, h2⟩ := fP_some h
  exact ⟨h1, by omega, of_decide_eq_true h2⟩
/-- what asks gives -/
theorem m_asks (hS : SW t S) (hk : 200 ≤ kk) {k : Nat} (hk4 : k < 4) {x : Int32} {G0 : GS} (h1 : RelM S (si G0 (0, 50) 0 0)) : D_Mo_asks kk x (nI k) G0 = fsel (fun s => okI (fW (sW S) (s / 5) (s % 5) k) (si G0 (0, 50) 0 0)) (okI 0 (si (si G0 (0, 50) 0 0) (0, 50) 0 1)) (fP (sW S) x) := by
  have hp := m_placeOf (kk := kk) hS.2.1.1 h1.1 (by omega) x
  cases h : fP (sW S) x with
  | none =>
    rw [h] at hp
    exact (rI (show D_Mo_placeOf kk x (si G0 (0, 50) 0 0) = okI (-1) (si G0 (0, 50) 0 0) from hp)).trans rfl
  | some s =>
    obtain ⟨a1, a2, a3⟩ := fP_ok h
    have h5 := (hS.2.1.1 _ a2).1
    rw [h] at hp
    refine (rI (show D_Mo_placeOf kk x (si G0 (0, 50) 0 0) = okI (nI s) (si G0 (0, 50) 0 0) from hp)).trans ?_
    refine (iT (Int32.not_lt.mp (nI_pos (by omega)))).trans ?_
    have e1 : nI s / (5 : Int32) = nI (s / 5) := pk_div (d := 5) (by omega) (by decide) (by decide)
    have e2 : nI s - nI s / (5 : Int32) * (5 : Int32) = nI (s % 5) := pk_rem (d := 5) (by omega) (by decide) (by decide)
    rw [e2, e1]
    exact rI (m_at h1.1 a2 (by omega) hk4)
end Q0
/-! MORE QUESTIONS -/
/-- two loops, one in the other -/
theorem loop_two {α : Type} (F1 : Nat → α → Int32 → Res) (F2 : Nat → α → Int32 → Int32 → Res) (st : Nat → Nat → α) (h : Nat → Nat) (N H : Nat) (R : Res) (hend : ∀ k, F1 (k + 1) (st N 0) (nI N) = R) (hin : ∀ k b, b < N → F1 (k + 1) (st b 0) (nI b) = F2 k (st b 0) (nI b) (nI 0))
    (hstep : ∀ k b p, b < N → p < h b → F2 (k + 1) (st b p) (nI b) (nI p) = F2 k (st b (p + 1)) (nI b) (nI (p + 1))) (hout : ∀ k b, b < N → F2 (k + 1) (st b (h b)) (nI b) (nI (h b)) = F1 k (st (b + 1) 0) (nI (b + 1))) (hB : ∀ b, b < N → h b ≤ H) :
    ∀ n b k, b + n = N → n * (H + 2) < k → F1 k (st b 0) (nI b) = R
  | 0, b, k, hb, hk => by
    obtain ⟨k, rfl⟩ : ∃ j, k = j + 1 := ⟨k - 1, by omega⟩
    obtain rfl : b = N := by omega
    exact hend k
  | n + 1, b, k, hb, hk => by
    obtain ⟨k, rfl⟩ : ∃ j, k = j + 1 := ⟨k - 1, by omega⟩
    have hb' : b < N := by omega
    have hH := hB b hb'
    rw [Nat.succ_mul] at hk
    have inner : ∀ m p k, p + m = h b → m + 1 + n * (H + 2) < k → F2 k (st b p) (nI b) (nI p) = R := by
      intro m
      induction m with
      | zero =>
        intro p k hp hk
        obtain ⟨k, rfl⟩ : ∃ j, k = j + 1 := ⟨k - 1, by omega⟩
        obtain rfl : p = h b := by omega
        rw [hout k b hb']
        exact loop_two F1 F2 st h N H R hend hin hstep hout hB n (b + 1) k (by omega) (by omega)
      | succ m ihm =>
        intro p k hp hk
        obtain ⟨k, rfl⟩ : ∃ j, k = j + 1 := ⟨k - 1, by omega⟩
        rw [hstep k b p hb' (by omega)]
        exact ihm (p + 1) k (by omega) (by omega)
    rw [hin k b hb']
    exact inner (h b) 0 k (by omega) (by omega)
/-- a search whose steps are loops -/
theorem loop_look (F : Nat → Int32 → Res) (P : Nat → Bool) (Rs : Nat → Res) (Rn : Res) (N C : Nat) (hend : ∀ k, F (k + 1) (nI N) = Rn) (hstep : ∀ i, i < N → ∀ (R : Res) (m : Nat), (∀ k, m < k → F k (nI (i + 1)) = R) → ∀ k, m + C < k → F k (nI i) = if P i = true then Rs i else R) :
    ∀ n i k, i + n = N → n * C < k → F k (nI i) = fsel Rs Rn (fnd P i n)
  | 0, i, k, hi, hk => by
    obtain ⟨k, rfl⟩ : ∃ j, k = j + 1 := ⟨k - 1, by omega⟩
    obtain rfl : i = N := by omega
    exact hend k
  | n + 1, i, k, hi, hk => by
    rw [Nat.succ_mul] at hk
    rw [hstep i (by omega) (fsel Rs Rn (fnd P (i + 1) n)) (n * C) (fun k hk => loop_look F P Rs Rn N C hend hstep n (i + 1) k (by omega) hk) k hk, fnd]
    by_cases q : P i = true
    · rw [if_pos q, if_pos q]; rfl
    · rw [if_neg q, if_neg q]
section Q1
variable {kk : Nat} {G : GS} {S : SS} {t : Nat}
theorem ne_dec {s : Nat} (hs : s < 35) : nI s / (5 : Int32) = nI (s / 5) ∧ nI s - nI s / (5 : Int32) * (5 : Int32) = nI (s % 5) :=
  ⟨pk_div (d := 5) (by omega) (by decide) (by decide), pk_rem (d := 5) (by omega) (by decide) (by decide)⟩
theorem nn {s : Nat} (hs : s < 2 ^ 31) : (0 : Int32) ≤ nI s := Int32.not_lt.mp (nI_pos hs)
theorem e_ask {k : Nat} (hk4 : k < 4) (hk : 200 ≤ kk) (hS : SW t S) (hX : RelX S G) (hM : RelM S G) (x : Int32) {L : Res} {M : GS → Res} {F : Int32 → Int32} (hx : D_PB_requirePillow kk x G = exc 3 G → L = okI 1 G)
    (hs : ∀ s, s < 35 → D_PB_requirePillow kk x G = okI (nI s) G → L = okI 0 (so_ G (F (ga G (0, 6 + k) s)).toInt64))
    (hm : ∀ G0 v G1, RelM S G1 → D_Mo_asks kk x (nI k) G0 = okI v G1 → gi G1 (0, 50) 0 = 0 → M G0 = okI (F v) G1) (hmx : ∀ G0 G1, D_Mo_asks kk x (nI k) G0 = okI 0 G1 → gi G1 (0, 50) 0 = 1 → M G0 = okI 0 G1) : EQI t L M := by
  have hq := c_reqPillow (kk := kk) hS.2.1.1 hX.1 (by omega) x
  cases hf : fP (sW S) x with
  | none =>
    rw [hf] at hq
    refine eqi_x (k := 1) hS hX hM (by decide) (by decide) (hx hq) (fun G1 h1 G0 e => ?_)
    subst e
    have := m_asks (x := x) hS hk hk4 h1
    rw [hf] at this
    exact hmx _ _ this th_eq
  | some s =>
    obtain ⟨a1, a2, a3⟩ := fP_ok hf
    rw [hf] at hq
    refine eqi_ok (v := F (fW (sW S) (s / 5) (s % 5) k)) hS hX hM ((hs s a1 hq).trans ?_) (fun G1 h1 h0 G0 e => ?_)
    · rw [ax_at hX.1 a1 hk4 (fP_some hf).2]
    · subst e
      have := m_asks (x := x) hS hk hk4 h1
      rw [hf] at this
      exact hm _ _ _ h1 this h0
theorem e_weightOf (hk : 200 ≤ kk) (h : Rel t G) (x : Int32) : EQI t (D_Law_weightOf kk x G) (fun G => D_Mo_weightOf kk x G) := by
  obtain ⟨S, hS, hX, hM⟩ := h
  exact e_ask (k := 1) (F := fun v => v) (by decide) hk hS hX hM x (fun q => rIx (rIx q)) (fun s hs q => rI ((rI q).trans (rI (c_in hs).2.1))) (fun _ _ _ _ q _ => rI q) (fun _ _ q _ => rI q)
theorem e_destinationOf (hk : 200 ≤ kk) (h : Rel t G) (x : Int32) : EQI t (D_Law_destinationOf kk x G) (fun G => D_Mo_destinationOf kk x G) := by
  obtain ⟨S, hS, hX, hM⟩ := h
  exact e_ask (k := 2) (F := fun v => v) (by decide) hk hS hX hM x (fun q => rIx (rIx q)) (fun s hs q => rI ((rI q).trans (rI (c_in hs).2.2.1))) (fun _ _ _ _ q _ => rI q) (fun _ _ q _ => rI q)
theorem e_ageOf (hk : 200 ≤ kk) (h : Rel t G) (x : Int32) : EQI t (D_Law_ageOf kk x G) (fun G => D_Mo_ageOf kk x G) := by
  obtain ⟨S, hS, hX, hM⟩ := h
  refine e_ask (k := 3) (F := fun v => sW S 0 - v) (by decide) hk hS hX hM x (fun q => rIx (rIx q)) (fun s hs q => ?_) (fun G0 v G1 h1 q q0 => ?_) (fun G0 G1 q q1 => (rI q).trans (iF (by rw [q1]; decide)))
  · refine rI ((rI q).trans (rI (v := sW S 0 - ga G (0, 9) s) (G := G) ?_))
    refine (rI (c_in hs).2.2.2).trans ?_
    rw [hX.1.2.2.2.1]
  · refine (rI q).trans ((iT q0).trans ?_)
    rw [h1.1 0 (by decide)]
theorem e_bayOf (hk : 200 ≤ kk) (h : Rel t G) (x : Int32) : EQI t (D_Law_bayOf kk x G) (fun G => D_Mo_bayOf kk x G) := by
  obtain ⟨S, hS, hX, hM⟩ := h
  have hq := c_reqPillow (kk := kk) hS.2.1.1 hX.1 (by omega) x
  have hp := fun G1 (h1 : RelM S G1) => m_placeOf (kk := kk) hS.2.1.1 h1.1 (by omega) x
  cases hf : fP (sW S) x with
  | none =>
    rw [hf] at hq hp
    refine eqi_x (k := 1) hS hX hM (by decide) (by decide) (rIx (rIx (show D_PB_requirePillow kk x G = exc 3 G from hq))) (fun G1 h1 G0 e => ?_)
    subst e
    exact (rI (show D_Mo_placeOf kk x _ = okI (-1) _ from hp _ h1)).trans ((iF (by decide)).trans (rI rfl))
  | some s =>
    obtain ⟨a1, a2, a3⟩ := fP_ok hf
    rw [hf] at hq hp
    refine eqi_ok (v := nI s / 5) hS hX hM (rI (rI (show D_PB_requirePillow kk x G = okI (nI s) G from hq))) (fun G1 h1 _ G0 e => ?_)
    subst e
    exact (rI (show D_Mo_placeOf kk x _ = okI (nI s) _ from hp _ h1)).trans (iT (nn (by omega)))
theorem e_positionOf (hk : 200 ≤ kk) (h : Rel t G) (x : Int32) : EQI t (D_Law_positionOf kk x G) (fun G => D_Mo_positionOf kk x G) := by
  obtain ⟨S, hS, hX, hM⟩ := h
  have hq := c_reqPillow (kk := kk) hS.2.1.1 hX.1 (by omega) x
  have hp := fun G1 (h1 : RelM S G1) => m_placeOf (kk := kk) hS.2.1.1 h1.1 (by omega) x
  cases hf : fP (sW S) x with
  | none =>
    rw [hf] at hq hp
    refine eqi_x (k := 1) hS hX hM (by decide) (by decide) (rIx (rIx (show D_PB_requirePillow kk x G = exc 3 G from hq))) (fun G1 h1 G0 e => ?_)
    subst e
    exact (rI (show D_Mo_placeOf kk x _ = okI (-1) _ from hp _ h1)).trans ((iF (by decide)).trans (rI rfl))
  | some s =>
    obtain ⟨a1, a2, a3⟩ := fP_ok hf
    rw [hf] at hq hp
    refine eqi_ok (v := nI s - nI s / 5 * 5) hS hX hM (rI (rI (show D_PB_requirePillow kk x G = okI (nI s) G from hq))) (fun G1 h1 _ G0 e => ?_)
    subst e
    exact (rI (show D_Mo_placeOf kk x _ = okI (nI s) _ from hp _ h1)).trans (iT (nn (by omega)))
/-- the reference's weight for a port -/
theorem m_weightFor_ (hS : SW t S) (hM : AM (sW S) G) (hk : 200 ≤ kk) (d : Int32) : (L_Mo_weightFor kk kk).1 d 0 0 G = okI (wP (sW S) d) G := by
  have hH := hS.2.1.1
  refine loop_two (fun k a b => (L_Mo_weightFor kk k).1 d a b G) (fun k a b p => (L_Mo_weightFor kk k).2 d a b p G) (fun b p => sm (fun b => sm (fun p => if fW (sW S) b p 2 = d then fW (sW S) b p 1 else 0) (hN (sW S) b)) b + sm (fun p => if fW (sW S) b p 2 = d then fW (sW S) b p 1 else 0) p) (fun b => hN (sW S) b) 7 5 _ (fun k => ?_) (fun k b hb => ?_) (fun k b p hb hp => ?_) (fun k b hb => ?_) (fun b hb => (hH b hb).1) 7 0 kk rfl (by omega)
  · refine (show _ = okI (wP (sW S) d + 0) G from rfl).trans ?_
    rw [Int32.add_zero]
  · exact iF (nI_ge (b := 7) hb (by decide))
  · have h5 := (hH b hb).1
    refine (bT (m_hin hb)).trans ?_
    rw [m_hgt hH hM hb]
    refine (iF (nI_ge hp (by omega))).trans ?_
    refine (rI (m_at (k := 2) hM hb (by omega) (by decide))).trans ?_
    by_cases q : fW (sW S) b p 2 = d
    · refine (iT q).trans ((rI (m_at (k := 1) hM hb (by omega) (by decide))).trans ?_)
      rw [nI_1]
      show (L_Mo_weightFor kk k).2 d (_ + _ + fW (sW S) b p 1) (nI b) (nI (p + 1)) G = (L_Mo_weightFor kk k).2 d (_ + (sm _ p + (if fW (sW S) b p 2 = d then fW (sW S) b p 1 else 0))) (nI b) (nI (p + 1)) G
      rw [if_pos q, Int32.add_assoc]
    · refine (iF q).trans ?_
      rw [nI_1]
      show (L_Mo_weightFor kk k).2 d (_ + _ + 0) (nI b) (nI (p + 1)) G = (L_Mo_weightFor kk k).2 d (_ + (sm _ p + (if fW (sW S) b p 2 = d then fW (sW S) b p 1 else 0))) (nI b) (nI (p + 1)) G
      rw [if_neg q, Int32.add_assoc]
  · have h5 := (hH b hb).1
    refine (bT (m_hin hb)).trans ?_
    rw [m_hgt hH hM hb]
    refine (iT (nI_le (Nat.le_refl _) (by omega))).trans ?_
    rw [nI_1, show ∀ f : Nat → Int32, sm f 0 = 0 from fun _ => rfl, Int32.add_zero]; rfl
theorem m_weightFor (hS : SW t S) (hk : 200 ≤ kk) {G0 : GS} (h1 : RelM S (si G0 (0, 50) 0 0)) {d : Nat} (hd : d < 5) : D_Mo_weightFor kk (nI d) G0 = okI (wP (sW S) (nI d)) (si G0 (0, 50) 0 0) :=
  (rI (m_betw (nI_pos (by omega)) (nI_nlt (a := 4) (by omega) (by decide)))).trans ((iF (by decide)).trans (m_weightFor_ hS h1.1 hk (nI d)))
theorem e_weightFor (hk : 200 ≤ kk) (h : Rel t G) (a : Int32) : EQI t (D_Law_weightFor kk a G) (fun G => D_Mo_weightFor kk a G) := by
  obtain ⟨S, hS, hX, hM⟩ := h
  rcases portc a with hb | ⟨b, hb, rfl⟩
  · exact eqi_x (k := 1) hS hX hM (by decide) (by decide) (rIx (rVx (c_reqPortx hb))) (fun G1 h1 G0 e => by subst e; exact (rI (m_betwx (hb.imp id lt4))).trans ((iT rfl).trans (rI rfl)))
  · exact eqi_ok (v := wP (sW S) (nI b)) hS hX hM (rI ((rV (c_reqPort hb)).trans (rI (c_weightForPort hS.2.1.1 hX.1 (by omega) (nI b))))) (fun G1 h1 _ G0 e => by subst e; exact m_weightFor hS hk h1 hb)
/-- legs to a port -/
def lgN (p e q : Nat) : Nat := if e = 1 then (p + 4 * q) % 5 else (q + 4 * p) % 5
theorem lgN_ok : ∀ p, p < 5 → ∀ e, e < 2 → ∀ q, q < 5 → lgN p e q < 5 ∧ pN p e (lgN p e q) = q ∧ ∀ i, i < lgN p e q → pN p e i ≠ q := by decide +kernel
theorem c_legs {W : Nat → Int32} {j p e q : Nat} (hA : AX W j G) (hp : p < 5) (he : e < 2) (h1 : W 1 = nI p) (h2 : W 2 = nI e) (hq : q < 5) : D_Voyage_countLegsTo kk j (nI q) G = okI (nI (lgN p e q)) G := by
  unfold D_Voyage_countLegsTo lgN
  rw [hA.2.2.2.2.1, hA.2.2.1, h1, h2]
  rcases (show e = 0 ∨ e = 1 by omega) with rfl | rfl
  · rw [if_neg (by decide), if_neg (by decide)]
    exact (rI c_fmod).trans (by rw [fm_minus q hq p (by omega)])
  · rw [if_pos (by decide), if_pos rfl]
    exact (rI c_fmod).trans (by rw [fm_minus p hp q (by omega)])
theorem m_legs {W : Nat → Int32} {p e q : Nat} (hM : AM W G) (hk : 200 ≤ kk) (hp : p < 5) (he : e < 2) (h1 : W 1 = nI p) (h2 : W 2 = nI e) (hq : q < 5) : D_Mo_legs kk (nI q) G = okI (nI (lgN p e q)) G := by
  obtain ⟨l5, l1, l2⟩ := lgN_ok p hp e he q hq
  have key : ∀ n i k, i + n = lgN p e q → n < k → L_Mo_legs kk k (nI q) (nI i) G = okI (nI (lgN p e q)) G := by
    intro n
    induction n with
    | zero =>
      intro i k hi hk
      obtain ⟨k, rfl⟩ : ∃ j, k = j + 1 := ⟨k - 1, by omega⟩
      obtain rfl : i = lgN p e q := by omega
      refine (rI (m_portBehind hM _)).trans ?_
      rw [pB_eq hp he h1 h2 (by omega), l1]
      exact iT rfl
    | succ n ih =>
      intro i k hi hk
      obtain ⟨k, rfl⟩ : ∃ j, k = j + 1 := ⟨k - 1, by omega⟩
      refine (rI (m_portBehind hM _)).trans ?_
      rw [pB_eq hp he h1 h2 (by omega)]
      refine (iF (fun z => l2 i (by omega) ((nI_eq (by have := @pN_lt p e i; omega) (by omega)).mp z))).trans ?_
      rw [nI_1]
      exact ih (i + 1) k (by omega) (by omega)
  exact key (lgN p e q) 0 kk (by omega) (by omega)
theorem e_legsTo (hk : 200 ≤ kk) (h : Rel t G) (a : Int32) : EQI t (D_Law_legsTo kk a G) (fun G => D_Mo_legsTo kk a G) := by
  obtain ⟨S, hS, hX, hM⟩ := h
  obtain ⟨p, e, hp, he, w1, w2⟩ := hS.2.1.2.1
  rcases portc a with hb | ⟨b, hb, rfl⟩
  · exact eqi_x (k := 1) hS hX hM (by decide) (by decide) (rIx (rVx (c_reqPortx hb))) (fun G1 h1 G0 e => by subst e; exact (rI (m_betwx (hb.imp id lt4))).trans ((iT rfl).trans (rI rfl)))
  · refine eqi_ok (v := nI (lgN p e b)) hS hX hM (rI ((rV (c_reqPort hb)).trans (rI (c_legs hX.1 hp he w1 w2 hb)))) (fun G1 h1 _ G0 e0 => ?_)
    subst e0
    exact (rI (m_betw (nI_pos (by omega)) (nI_nlt (a := 4) (by omega) (by decide)))).trans ((iF (by decide)).trans (rI (m_legs h1.1 hk hp he w1 w2 hb)))
theorem e_portAfter (h : Rel t G) (a : Int32) : EQI t (D_Law_portAfter kk a G) (fun G => D_Mo_portAfter kk a G) := by
  obtain ⟨S, hS, hX, hM⟩ := h
  obtain ⟨p, e, hp, he, w1, w2⟩ := hS.2.1.2.1
  rcases ixc a (n := 100) (by decide) with hb | ⟨hb, hc⟩ | ⟨n, hn, rfl⟩
  · exact eqi_x (k := 1) hS hX hM (by decide) (by decide) (rIx (iT hb)) (fun G1 h1 G0 e => by subst e; exact (rI (m_betwx (Or.inl hb))).trans ((iT rfl).trans (rI rfl)))
  · have h99 : ¬ a ≤ 99 := fun z => absurd (Int32.le_trans hc z) (by decide)
    exact eqi_x (k := 1) hS hX hM (by decide) (by decide) (rIx ((iF hb).trans (iF h99))) (fun G1 h1 G0 e => by subst e; exact (rI (m_betwx (Or.inr (Int32.not_le.mp h99)))).trans ((iT rfl).trans (rI rfl)))
  · refine eqi_ok (v := nI (pN p e n)) hS hX hM (rI ((iF (nI_pos (by omega))).trans ((iT (nI_le (a := n) (b := 99) (by omega) (by decide))).trans (rI (c_portIn hX.1 hp he w1 w2 hn))))) (fun G1 h1 _ G0 e0 => ?_)
    subst e0
    refine (rI (m_betw (nI_pos (by omega)) (nI_nlt (a := 99) (by omega) (by decide)))).trans ((iF (by decide)).trans ((rI (m_portBehind h1.1 _)).trans ?_))
    rw [pB_eq hp he w1 w2 hn]
end Q1
/-! THE SCRIPT'S PLACES, THE TEXT, UNDO, SAVE, RESTORE -/
theorem nI_one (i : Nat) : nI i + (1 : Int32) = nI (i + 1) := nI_1 i
theorem pred_lt {n : Nat} {x : Int32} (hn : n < 2 ^ 31) (h0 : ¬ x < 0) (h : nI n ≤ x) : nI n - 1 < x := by
  rcases Nat.eq_zero_or_pos n with q | q
  · subst q
    exact Int32.lt_of_lt_of_le (by decide : nI 0 - 1 < (0 : Int32)) (Int32.not_lt.mp h0)
  · rw [show nI n - (1 : Int32) = nI (n - 1) from pk_sub (b := 1) (by omega)]
    exact Int32.lt_of_lt_of_le (nI_lt (by omega) hn) h
theorem nar_c : ∀ c, c < 128 → vp_nar .char (nI c) = nI c := by decide +kernel
section Sv
variable {kk : Nat} {G : GS} {S : SS} {t : Nat}
theorem e_errorPosition (h : Rel t G) : EQI t (D_Law_errorPosition kk G) (fun G => D_Mo_errorPosition kk G) := by
  obtain ⟨S, hS, hX, hM⟩ := h
  have x5 : gi G (0, 0) 5 = sE S := hX.2.2.2.2.1.1
  rcases hS.2.2.2.2.2.2.1 with he | ⟨q, hq, he⟩
  · refine eqi_x (k := 1) hS hX hM (by decide) (by decide) (rIx (iT (x5.trans he))) (fun G1 h1 G0 e => ?_)
    subst e
    refine (iF (fun z => ?_)).trans (rI rfl)
    rw [h1.2.2.2.2.1.1, he] at z
    exact absurd z (by decide)
  · refine eqi_ok (v := nI q) hS hX hM (rI ((iF (fun z => ?_)).trans (by rw [x5, he]))) (fun G1 h1 _ G0 e => ?_)
    · rw [x5, he] at z
      exact absurd (nn (s := q) (by omega)) (by rw [z]; decide)
    · subst e
      unfold D_Mo_errorPosition
      rw [h1.2.2.2.2.1.1, he]
      exact iT (nn (by omega))
theorem e_failedCommand (h : Rel t G) : EQI t (D_Law_failedCommand kk G) (fun G => D_Mo_failedCommand kk G) := by
  obtain ⟨S, hS, hX, hM⟩ := h
  have x5 : gi G (0, 0) 6 = sF S := hX.2.2.2.2.1.2
  rcases hS.2.2.2.2.2.2.2.1 with he | ⟨q, hq, he⟩
  · refine eqi_x (k := 1) hS hX hM (by decide) (by decide) (rIx (iT (x5.trans he))) (fun G1 h1 G0 e => ?_)
    subst e
    refine (iF (fun z => ?_)).trans (rI rfl)
    rw [h1.2.2.2.2.1.2, he] at z
    exact absurd z (by decide)
  · refine eqi_ok (v := nI q) hS hX hM (rI ((iF (fun z => ?_)).trans (by rw [x5, he]))) (fun G1 h1 _ G0 e => ?_)
    · rw [x5, he] at z
      exact absurd (nn (s := q) (by omega)) (by rw [z]; decide)
    · subst e
      unfold D_Mo_failedCommand
      rw [h1.2.2.2.2.1.2, he]
      exact iT (nn (by omega))
theorem e_outputAt (h : Rel t G) (a : Int32) : EQI t (D_Law_outputAt kk a G) (fun G => D_Mo_outputAt kk a G) := by
  obtain ⟨S, hS, hX, hM⟩ := h
  obtain ⟨x1, x2⟩ := hX.2.2.2.2.2
  have hl : (sO S).length ≤ 60 := hS.2.2.2.2.2.2.2.2.1
  have hc := hS.2.2.2.2.2.2.2.2.2
  have c16 : ∀ c, c < 128 → (0 : Int32) ≤ nI c ∧ nI c ≤ 65535 := by decide +kernel
  rcases ixc a (n := (sO S).length) (by omega) with hb | ⟨hb, hb2⟩ | ⟨j, hj, rfl⟩
  · refine eqi_x (k := 1) hS hX hM (by decide) (by decide) (rIx (iT hb)) (fun G1 h1 G0 e => ?_)
    subst e
    exact (rI (m_betwx (Or.inl hb))).trans ((iT rfl).trans ((rI rfl).trans (iT (by decide))))
  · have hx : D_PB_outputAt kk a G = exc 1 G := by
      refine (iF hb).trans ?_
      refine (rI (v := nI (gn G)) (G := G) rfl).trans ?_
      exact iF (by rw [x1]; exact Int32.not_lt.mpr hb2)
    refine eqi_x (k := 1) hS hX hM (by decide) (by decide) (rIx hx) (fun G1 h1 G0 e => ?_)
    · subst e
      refine (rI (m_betwx (Or.inr ?_))).trans ((iT rfl).trans ((rI rfl).trans (iT (by decide))))
      rw [h1.2.2.2.2.2.1]
      exact pred_lt (by omega) hb hb2
  · obtain ⟨c, hc1, hc2⟩ := hc j hj
    refine eqi_ok (v := nI c) hS hX hM (rI ((iF (nI_pos (by omega))).trans ((rI (v := nI (gn G)) (G := G) rfl).trans ((iT ?_).trans ((rI (v := nI c) (G := G) ?_).trans (iT (c16 c hc1))))))) (fun G1 h1 _ G0 e => ?_)
    · rw [x1]; exact nI_lt hj (by omega)
    · refine (bT (in_of (by rw [x1]; exact hj) (by rw [x1]; omega))).trans ?_
      rw [nI_clamp (by omega), x2 j hj, hc2]
    · subst e
      refine (rI (m_betw (nI_pos (by omega)) ?_)).trans ((iF (by decide)).trans ((bT (in_of (by omega) (by decide))).trans ?_))
      · rw [h1.2.2.2.2.2.1, show nI (sO S).length - (1 : Int32) = nI ((sO S).length - 1) from pk_sub (b := 1) (by omega)]
        exact nI_nlt (by omega) (by omega)
      · rw [nI_clamp (by omega), h1.2.2.2.2.2.2 j hj, hc2]
        exact iT (c16 c hc1)
def sTyp (S : SS) (a : Int32) : SS := (sN S, sW S, sH S, sV S, (sn S + 1, upd (sT S) (sn S) a), (sE S, sF S), sO S)
theorem e_type (h : Rel t G) (a : Int32) : EQI t (D_Law_type kk a G) (fun G => D_Mo_type kk a G) := by
  obtain ⟨S, hS, hX, hM⟩ := h
  obtain ⟨x1, x2⟩ := hX.2.2.2.1
  have bad : (a < 32 ∨ (¬ a < 32 ∧ ¬ a ≤ 126)) → EQI t (D_Law_type kk a G) (fun G => D_Mo_type kk a G) := fun hb => by
    have hx : D_PB_type kk a G = exc 2 G := by
      rcases hb with hb | hb
      · exact iT hb
      · exact (iF hb.1).trans (iF hb.2)
    refine eqi_x (k := 1) hS hX hM (by decide) (by decide) (rIx hx) (fun G1 h1 G0 e => ?_)
    · subst e
      exact (rI (m_betwx (hb.imp id (fun z => Int32.not_le.mp z.2)))).trans ((iT rfl).trans (rI rfl))
  rcases ixc a (n := 127) (by decide) with hb | ⟨hb, hb2⟩ | ⟨j, hj, rfl⟩
  · exact bad (Or.inl (Int32.lt_of_lt_of_le hb (by decide)))
  · exact bad (Or.inr ⟨fun z => absurd (Int32.lt_of_le_of_lt hb2 z) (by decide), fun z => absurd (Int32.le_trans hb2 z) (by decide)⟩)
  · by_cases h32 : j < 32
    · exact bad (Or.inl (nI_lt (b := 32) h32 (by decide)))
    · have a1 : ¬ nI j < 32 := nI_nlt (a := j) (b := 32) (by omega) (by omega)
      have a2 : nI j ≤ 126 := nI_le (a := j) (b := 126) (by omega) (by decide)
      have hsn : sn S ≤ 60 := hS.2.2.2.2.1
      by_cases h60 : sn S = 60
      · have hfull : D_Script_isFull kk G = okI 1 G := by
          unfold D_Script_isFull
          rw [x1, h60]; rfl
        have hx : D_PB_type kk (nI j) G = exc 4 G := by
          refine (iF a1).trans ?_
          refine (iT a2).trans ?_
          refine (rI hfull).trans ?_
          exact iF (show ¬ (1 : Int32) = 0 by decide)
        refine eqi_x (k := 2) hS hX hM (by decide) (by decide) (rIx hx) (fun G1 h1 G0 e => ?_)
        · subst e
          refine (rI (m_betw a1 (Int32.not_lt.mpr a2))).trans ((iF (by decide)).trans ((iT ?_).trans (rI rfl)))
          rw [h1.2.2.2.1.1, h60]; rfl
      · have hlt : sn S < 60 := by omega
        have e1 : vp_nar .char (nI j) = nI j := nar_c j (by omega)
        have hp1 : ¬ nI (sn S) < 0 := nI_pos (by omega)
        refine ⟨0, so_ (si (sa G (0, 13) (sn S) (nI j)) (0, 12) 3 (nI (sn S + 1))) (nI (sn S + 1)).toInt64, nI (sn S + 1), si (sa (si (so_ (si (sa G (0, 13) (sn S) (nI j)) (0, 12) 3 (nI (sn S + 1))) (nI (sn S + 1)).toInt64) (0, 50) 0 0) (0, 56) (sn S) (nI j)) (0, 50) 11 (nI (sn S + 1)), ?_, ?_, ?_, fun _ => lg_self _, sTyp S (nI j), ?_, ?_, ?_⟩
        · refine rI ((iF a1).trans ((iT a2).trans ((rI (v := 0) (G := G) (iT ?_)).trans ((iT rfl).trans ((rV (G := si (sa G (0, 13) (sn S) (nI j)) (0, 12) 3 (nI (sn S + 1))) ?_).trans ?_)))))
          · rw [x1]; exact nI_lt (b := 60) hlt (by decide)
          · unfold D_Script_append
            rw [x1, if_neg hp1, if_neg (show ¬ (60 : Int32) ≤ nI (sn S) from nI_ge (b := 60) hlt (by decide)), in_of (by omega) (by decide), nI_clamp (by omega), e1, gi_sa, x1, nI_one]
            rfl
          · rw [gi_si, if_pos ⟨rfl, rfl⟩]
        · have h1 : RelM S (si (so_ (si (sa G (0, 13) (sn S) (nI j)) (0, 12) 3 (nI (sn S + 1))) (nI (sn S + 1)).toInt64) (0, 50) 0 0) := RelM_th (RelM_fr hM (fun r hr => ⟨fun f => by
            show gi (si (sa G (0, 13) (sn S) (nI j)) (0, 12) 3 (nI (sn S + 1))) r f = _
            rw [gi_si, if_neg (fun z => by rw [z.1] at hr; exact absurd hr (by decide))]; rfl, fun i => by
            show ga (sa G (0, 13) (sn S) (nI j)) r i = _
            rw [ga_sa, if_neg (fun z => by rw [z.1] at hr; exact absurd hr (by decide))]⟩))
          refine (rI (m_betw a1 (Int32.not_lt.mpr a2))).trans ((iF (by decide)).trans ((iF ?_).trans ?_))
          · rw [h1.2.2.2.1.1]; exact fun z => h60 ((nI_eq (b := 60) (by omega) (by decide)).mp z)
          · rw [h1.2.2.2.1.1, in_of (by omega) (by decide), nI_clamp (by omega), e1, gi_sa, h1.2.2.2.1.1, nI_one, gi_si, if_pos ⟨rfl, rfl⟩]
            rfl
        · rw [gi_si, if_neg (fun z => by cases z.2), gi_sa, gi_si, if_pos ⟨rfl, rfl⟩]
        · obtain ⟨s1, s2, s3, s4, s5, s6, s7⟩ := hS
          refine ⟨by show sN S + (sn S + 1) ≤ t + 1; omega, s2, s3, s4, by show sn S + 1 ≤ 60; omega, fun i hi => ?_, s7⟩
          show ∃ c, 32 ≤ c ∧ c ≤ 126 ∧ upd (sT S) (sn S) (nI j) i = nI c
          by_cases e : i = sn S
          · subst e; exact ⟨j, by omega, by omega, upd_eq⟩
          · rw [upd_ne e]; exact s6 i (by have : i < sn S + 1 := hi; omega)
        · refine RelX_fr (G := so_ (si (sa G (0, 13) (sn S) (nI j)) (0, 12) 3 (nI (sn S + 1))) (nI (sn S + 1)).toInt64) ?_ ⟨fun r hr => ⟨fun f => ?_, fun i => ?_⟩, rfl⟩
          · show RelX (sTyp S (nI j)) (si (sa G (0, 13) (sn S) (nI j)) (0, 12) 3 (nI (sn S + 1)))
            obtain ⟨hA, ⟨b1, b2, nx, b3, b4, b5⟩, ⟨c1, c2⟩, ⟨d1, d2⟩, f1, g1, g2⟩ := hX
            have q : ∀ r : Rf, r ≠ (0, 12) → r ≠ (0, 13) → (∀ f, gi (si (sa G (0, 13) (sn S) (nI j)) (0, 12) 3 (nI (sn S + 1))) r f = gi G r f) ∧ ∀ i, ga (si (sa G (0, 13) (sn S) (nI j)) (0, 12) 3 (nI (sn S + 1))) r i = ga G r i := fun r n1 n2 => ⟨fun f => by rw [gi_si, if_neg (fun z => n1 z.1)]; rfl, fun i => by rw [ga_si, ga_sa, if_neg (fun z => n2 z.1)]⟩
            have qA : ∀ W k, AX W k G → AX W k (si (sa G (0, 13) (sn S) (nI j)) (0, 12) 3 (nI (sn S + 1))) := fun W k hA => AX_eq hA (fun m m1 m9 => q _ (fun z => by have := congrArg Prod.snd z; simp at this; omega) (fun z => by have := congrArg Prod.snd z; simp at this; omega))
            refine ⟨qA _ _ hA, ⟨((q _ (by decide) (by decide)).1 2).trans b1, b2, nx, b3, ((q _ (by decide) (by decide)).1 1).trans b4, fun i row hi => qA _ _ (b5 i row hi)⟩, ⟨((q _ (by decide) (by decide)).1 3).trans c1, fun row hr => qA _ _ (c2 row hr)⟩, ⟨?_, fun i hi => ?_⟩, ⟨((q _ (by decide) (by decide)).1 5).trans f1.1, ((q _ (by decide) (by decide)).1 6).trans f1.2⟩, g1, g2⟩
            · rw [gi_si, if_pos ⟨rfl, rfl⟩]; rfl
            · show ga (si (sa G (0, 13) (sn S) (nI j)) (0, 12) 3 (nI (sn S + 1))) (0, 13) i = upd (sT S) (sn S) (nI j) i
              rw [ga_si, ga_sa]
              by_cases e : i = sn S
              · rw [if_pos ⟨rfl, e⟩, e, upd_eq]
              · rw [if_neg (fun z => e z.2), upd_ne e]; exact d2 i (by have : i < sn S + 1 := hi; omega)
          · rw [gi_si, if_neg (fun z => by rw [z.1] at hr; exact absurd hr (by decide)), gi_sa, gi_si, if_neg (fun z => by rw [z.1] at hr; exact absurd hr (by decide))]
          · rw [ga_si, ga_sa, if_neg (fun z => by rw [z.1] at hr; exact absurd hr (by decide))]; rfl
        · have h1 : RelM S (si (so_ (si (sa G (0, 13) (sn S) (nI j)) (0, 12) 3 (nI (sn S + 1))) (nI (sn S + 1)).toInt64) (0, 50) 0 0) := RelM_th (RelM_fr hM (fun r hr => ⟨fun f => by
            show gi (si (sa G (0, 13) (sn S) (nI j)) (0, 12) 3 (nI (sn S + 1))) r f = _
            rw [gi_si, if_neg (fun z => by rw [z.1] at hr; exact absurd hr (by decide))]; rfl, fun i => by
            show ga (sa G (0, 13) (sn S) (nI j)) r i = _
            rw [ga_sa, if_neg (fun z => by rw [z.1] at hr; exact absurd hr (by decide))]⟩))
          generalize (si (so_ (si (sa G (0, 13) (sn S) (nI j)) (0, 12) 3 (nI (sn S + 1))) (nI (sn S + 1)).toInt64) (0, 50) 0 0) = G3 at h1
          obtain ⟨hA, ⟨b1, b2, f, b3, b4, b5⟩, ⟨c1, c2⟩, ⟨d1, d2⟩, f1, g1, g2⟩ := h1
          have q : ∀ f, f ≠ 11 → gi (si (sa G3 (0, 56) (sn S) (nI j)) (0, 50) 11 (nI (sn S + 1))) (0, 50) f = gi G3 (0, 50) f := fun f n1 => by rw [gi_si, if_neg (fun z => n1 z.2)]; rfl
          have qa : ∀ r : Rf, r ≠ (0, 56) → ∀ i, ga (si (sa G3 (0, 56) (sn S) (nI j)) (0, 50) 11 (nI (sn S + 1))) r i = ga G3 r i := fun r n1 i => by rw [ga_si, ga_sa, if_neg (fun z => n1 z.1)]
          refine ⟨fun k hk => (qa _ (by decide) k).trans (hA k hk), ⟨(q 5 (by decide)).trans b1, b2, f, b3, (q 6 (by decide)).trans b4, fun i row hi k hk => (qa _ (by decide) _).trans (b5 i row hi k hk)⟩, ⟨(q 7 (by decide)).trans c1, fun row hr k hk => (qa _ (by decide) k).trans (c2 row hr k hk)⟩, ⟨?_, fun i hi => ?_⟩, ⟨(q 13 (by decide)).trans f1.1, (q 14 (by decide)).trans f1.2⟩, (q 9 (by decide)).trans g1, fun i hi => (qa _ (by decide) i).trans (g2 i hi)⟩
          · rw [gi_si, if_pos ⟨rfl, rfl⟩]; rfl
          · show ga (si (sa G3 (0, 56) (sn S) (nI j)) (0, 50) 11 (nI (sn S + 1))) (0, 56) i = upd (sT S) (sn S) (nI j) i
            rw [ga_si, ga_sa]
            by_cases e : i = sn S
            · rw [if_pos ⟨rfl, e⟩, e, upd_eq]
            · rw [if_neg (fun z => e z.2), upd_ne e]; exact d2 i (by have : i < sn S + 1 := hi; omega)
end Sv
/-! UNDO, SAVE, RESTORE -/
section Un
variable {kk : Nat} {G : GS} {S : SS} {t : Nat}
def sUndo (S : SS) (row : Nat → Int32) (hs : List (Nat → Int32)) : SS := (sN S, row, hs, S.2.2.2)
def sSave (S : SS) : SS := (sN S, sW S, sH S, some (sW S), S.2.2.2.2)
theorem m_undoL (hk : 200 ≤ kk) {to : Nat} (ht : to < 8) : (L_Mo_undo kk kk) (nI to) 0 G = okI (gi G (0, 50) 5) (sar G (0, 51) (blt (ga G (0, 51)) (fun i => ga G (0, 52) (156 * to + i)) 0 156)) := by
  have e0 : (156 : Int32) * nI to = nI (156 * to) := pk_mul 156 to
  have h := loop_row (F := fun k i G => L_Mo_undo kk k (nI to) i G) (r := (0, 51)) (w := fun i => ga G (0, 52) (156 * to + i)) (o := 0) (G0 := G) (R := okI (gi G (0, 50) 5) (sar G (0, 51) (blt (ga G (0, 51)) (fun i => ga G (0, 52) (156 * to + i)) 0 156))) (fun _ => rfl)
    (fun k i hi => by
      refine (iF (nI_ge (b := 156) hi (by decide))).trans ?_
      rw [e0, nI_add]
      refine (bT (in_of (by omega) (by decide))).trans ?_
      refine (bT (in_of hi (by decide))).trans ?_
      rw [nI_clamp (by omega), nI_clamp (by omega), nI_1, ga_sar, if_neg (by decide), Nat.zero_add]) 156 0 kk rfl (by omega)
  rw [sar_b0] at h
  exact h
theorem m_saveL (hk : 200 ≤ kk) : (L_Mo_save kk kk) 0 G = (D_Mo_countAll kk (si (sar G (0, 53) (blt (ga G (0, 53)) (ga G (0, 51)) 0 156)) (0, 50) 7 1)).bind (fun r => oI r (fun v4 G1 => okI v4 G1) exc) := by
  have h := loop_row (F := fun k i G => L_Mo_save kk k i G) (r := (0, 53)) (w := ga G (0, 51)) (o := 0) (G0 := G) (R := (D_Mo_countAll kk (si (sar G (0, 53) (blt (ga G (0, 53)) (ga G (0, 51)) 0 156)) (0, 50) 7 1)).bind (fun r => oI r (fun v4 G1 => okI v4 G1) exc)) (fun _ => rfl)
    (fun k i hi => by
      refine (iF (nI_ge (b := 156) hi (by decide))).trans ?_
      refine (bT (in_of hi (by decide))).trans ?_
      refine (bT (in_of hi (by decide))).trans ?_
      rw [nI_clamp (by omega), nI_1, Nat.zero_add, ga_sar, if_neg (by decide)]) 156 0 kk rfl (by omega)
  rw [sar_b0] at h
  exact h
theorem m_restoreL (hk : 200 ≤ kk) : (L_Mo_restore kk kk) 0 G = (D_Mo_countAll kk (si (si (sar G (0, 51) (blt (ga G (0, 51)) (ga G (0, 53)) 0 156)) (0, 50) 5 0) (0, 50) 6 0)).bind (fun r => oI r (fun v4 G1 => okI v4 G1) exc) := by
  have h := loop_row (F := fun k i G => L_Mo_restore kk k i G) (r := (0, 51)) (w := ga G (0, 53)) (o := 0) (G0 := G) (R := (D_Mo_countAll kk (si (si (sar G (0, 51) (blt (ga G (0, 51)) (ga G (0, 53)) 0 156)) (0, 50) 5 0) (0, 50) 6 0)).bind (fun r => oI r (fun v4 G1 => okI v4 G1) exc)) (fun _ => rfl)
    (fun k i hi => by
      refine (iF (nI_ge (b := 156) hi (by decide))).trans ?_
      refine (bT (in_of hi (by decide))).trans ?_
      refine (bT (in_of hi (by decide))).trans ?_
      rw [nI_clamp (by omega), nI_1, Nat.zero_add, ga_sar, if_neg (by decide)]) 156 0 kk rfl (by omega)
  rw [sar_b0] at h
  exact h
theorem m_undo (hk : 200 ≤ kk) {row : Nat → Int32} {hs : List (Nat → Int32)} {G0 : GS} (h1 : RelM S (si G0 (0, 50) 0 0)) (hh : sH S = row :: hs) : ∃ G', D_Mo_undo kk G0 = okI (nI hs.length) G' ∧ RelM (sUndo S row hs) G' ∧ FrO (si G0 (0, 50) 0 0) G' ∧ gi G' (0, 50) 0 = gi (si G0 (0, 50) 0 0) (0, 50) 0 := by
  unfold D_Mo_undo
  generalize si G0 (0, 50) 0 (0 : Int32) = G3 at h1 ⊢
  obtain ⟨hA, ⟨b1, b2, f, b3, b4, b5⟩, ⟨c1, c2⟩, ⟨d1, d2⟩, f1, g1, g2⟩ := h1
  rw [hh] at b1 b2 b5
  rw [List.length_cons] at b1 b2
  have e5 : gi (si G3 (0, 50) 5 (nI hs.length)) (0, 50) 5 = nI hs.length := by rw [gi_si, if_pos ⟨rfl, rfl⟩]
  have en : ∀ f, f ≠ 5 → gi (si G3 (0, 50) 5 (nI hs.length)) (0, 50) f = gi G3 (0, 50) f := fun f hf => by rw [gi_si, if_neg (fun z => hf z.2)]
  have e6 : gi (si G3 (0, 50) 5 (nI hs.length)) (0, 50) 6 = nI f := (en 6 (by decide)).trans b4
  have em : nI (f + hs.length) - nI (f + hs.length) / (8 : Int32) * (8 : Int32) = nI ((f + hs.length) % 8) := pk_rem (d := 8) (by omega) (by decide) (by decide)
  refine ⟨sar (si G3 (0, 50) 5 (nI hs.length)) (0, 51) (blt (ga (si G3 (0, 50) 5 (nI hs.length)) (0, 51)) (fun i => ga (si G3 (0, 50) 5 (nI hs.length)) (0, 52) (156 * ((f + hs.length) % 8) + i)) 0 156), ?_, ⟨fun k hk => ?_, ⟨?_, by show hs.length ≤ 8; omega, f, b3, ?_, fun i row' hi k hk => ?_⟩, ⟨?_, fun row hr k hk => ?_⟩, ⟨?_, fun i hi => ?_⟩, ⟨?_, ?_⟩, ?_, fun i hi => ?_⟩, ⟨fun r hr => ⟨fun f => ?_, fun i => ?_⟩, rfl⟩, ?_⟩
  · refine (iF (fun z => ?_)).trans ?_
    · rw [b1] at z
      exact absurd ((nI_eq (b := 0) (by omega) (by decide)).mp z) (by omega)
    · rw [b1, show nI (hs.length + 1) - (1 : Int32) = nI hs.length from nI_pred _, e5, e6, nI_add, em, m_undoL hk (Nat.mod_lt _ (by decide)), e5]
  · rw [ga_sar, if_pos rfl]
    have := blt_in (f := ga (si G3 (0, 50) 5 (nI hs.length)) (0, 51)) (w := fun i => ga (si G3 (0, 50) 5 (nI hs.length)) (0, 52) (156 * ((f + hs.length) % 8) + i)) (o := 0) hk
    rw [Nat.zero_add] at this
    rw [this]
    have h0 := b5 0 row rfl k hk
    rw [List.length_cons, show (f + (hs.length + 1) + 7 - 0) % 8 = (f + hs.length) % 8 by omega] at h0
    exact h0
  · exact e5
  · exact e6
  · rw [ga_sar, if_neg (by decide)]
    have h0 := b5 (i + 1) row' (by rw [List.getElem?_cons_succ]; exact hi) k hk
    rw [List.length_cons, show (f + (hs.length + 1) + 7 - (i + 1)) % 8 = (f + hs.length + 7 - i) % 8 by omega] at h0
    exact h0
  · exact (en 7 (by decide)).trans c1
  · rw [ga_sar, if_neg (by decide)]; exact c2 row hr k hk
  · exact (en 11 (by decide)).trans d1
  · rw [ga_sar, if_neg (by decide)]; exact d2 i hi
  · exact (en 13 (by decide)).trans f1.1
  · exact (en 14 (by decide)).trans f1.2
  · exact (en 9 (by decide)).trans g1
  · rw [ga_sar, if_neg (by decide)]; exact g2 i hi
  · show gi (si G3 (0, 50) 5 (nI hs.length)) r f = _
    rw [gi_si, if_neg (fun z => by rw [z.1] at hr; exact absurd hr (by decide))]
  · rw [ga_sar, if_neg (fun z => by rw [z] at hr; exact absurd hr (by decide))]; rfl
  · exact en 0 (by decide)
theorem nM_10 {r : Rf} (hr : r = (0, 0) ∨ r = (0, 12) ∨ r = (0, 13) ∨ (r.1 = 1 ∧ 1 ≤ r.2 ∧ r.2 ≤ 9)) : r ≠ (0, 10) ∧ ¬ (r.1 = 0 ∧ 1 ≤ r.2 ∧ r.2 ≤ 9) := by
  rcases hr with rfl | rfl | rfl | hr
  · exact ⟨by decide, by decide⟩
  · exact ⟨by decide, by decide⟩
  · exact ⟨by decide, by decide⟩
  · exact ⟨fun z => by rw [z] at hr; exact absurd hr.1 (by decide), fun z => by omega⟩
theorem e_undo (hk : 200 ≤ kk) (h : Rel t G) : EQI t (D_Law_undo kk G) (fun G => D_Mo_undo kk G) := by
  obtain ⟨S, hS, hX, hM⟩ := h
  have x1 : gi G (0, 10) 2 = nI (sH S).length := hX.2.1.1
  have x8 : (sH S).length ≤ 8 := hX.2.1.2.1
  cases hh : sH S with
  | nil =>
    rw [hh] at x1
    refine eqi_x (k := 1) hS hX hM (by decide) (by decide) (rIx (iT x1)) (fun G1 h1 G0 e => ?_)
    subst e
    have := h1.2.1.1
    rw [hh] at this
    exact (iT this).trans (rI rfl)
  | cons row hs =>
    rw [hh] at x1 x8
    rw [List.length_cons] at x1 x8
    have hrow := hS.2.2.1 row (by rw [hh]; exact List.mem_cons_self ..)
    obtain ⟨G1, g1, g2, g3, g4, g5, g6⟩ := c_undo (kk := kk) (row := row) (hs := hs) (by rw [← hh]; exact hX.2.1) hrow.2.1 hrow.1
    have fX : FrX G G1 := fun r hr => g4 r (fun z => by rw [z] at hr; exact absurd hr (by decide)) (fun z => by omega)
    have hX1 : RelX (sUndo S row hs) G1 := ⟨g3, g2, RXr_of (S := sUndo S row hs) (G := G) hX.2.2 (fun r hr => g4 r (nM_10 hr).1 (nM_10 hr).2) (congrArg Prod.fst g6)⟩
    have hM1 : RelM S (si (so_ G1 (nI hs.length).toInt64) (0, 50) 0 0) := RelM_th (show RelM S (so_ G1 _) from RelM_fr hM fX)
    obtain ⟨G2, p1, p2, p3, p4⟩ := m_undo (kk := kk) hk hM1 hh
    have hcl : D_PB_undo kk G = okI (nI hs.length) G1 := by
      refine (iF (fun z => ?_)).trans ((rV g1).trans ?_)
      · rw [x1] at z
        exact absurd ((nI_eq (b := 0) (by omega) (by decide)).mp z) (by omega)
      · rw [g2.1]
    refine ⟨0, _, nI hs.length, G2, rI hcl, p1, p4.trans th_eq, fun _ => ?_, sUndo S row hs, ?_, RelX_fr (RelX_fr (show RelX _ (so_ G1 (nI hs.length).toInt64) from hX1) FrO_th) p3, p2⟩
    · rw [go_of p3]; exact lg_self _
    · obtain ⟨s1, s2, s3, s4⟩ := hS
      exact ⟨Nat.le_succ_of_le s1, hrow, fun r hr => s3 r (by rw [hh]; exact List.mem_cons_of_mem _ hr), s4⟩
theorem m_save (hk : 200 ≤ kk) {G0 : GS} (h1 : RelM S (si G0 (0, 50) 0 0)) : ∃ G', D_Mo_save kk G0 = okI (cnt (sW S)) G' ∧ RelM (sSave S) G' ∧ FrO (si G0 (0, 50) 0 0) G' := by
  unfold D_Mo_save
  generalize si G0 (0, 50) 0 (0 : Int32) = G3 at h1 ⊢
  obtain ⟨hA, ⟨b1, b2, f, b3, b4, b5⟩, ⟨c1, c2⟩, ⟨d1, d2⟩, f1, g1, g2⟩ := h1
  have en : ∀ f, f ≠ 7 → gi (si (sar G3 (0, 53) (blt (ga G3 (0, 53)) (ga G3 (0, 51)) 0 156)) (0, 50) 7 1) (0, 50) f = gi G3 (0, 50) f := fun f hf => by rw [gi_si, if_neg (fun z => hf z.2)]; rfl
  have ea : ∀ r : Rf, r ≠ (0, 53) → ∀ i, ga (si (sar G3 (0, 53) (blt (ga G3 (0, 53)) (ga G3 (0, 51)) 0 156)) (0, 50) 7 1) r i = ga G3 r i := fun r hr i => by rw [ga_si, ga_sar, if_neg hr]
  have hA' : AM (sW S) (si (sar G3 (0, 53) (blt (ga G3 (0, 53)) (ga G3 (0, 51)) 0 156)) (0, 50) 7 1) := fun k hk => (ea _ (by decide) k).trans (hA k hk)
  refine ⟨si (sar G3 (0, 53) (blt (ga G3 (0, 53)) (ga G3 (0, 51)) 0 156)) (0, 50) 7 1, ?_, ⟨hA', ⟨(en 5 (by decide)).trans b1, b2, f, b3, (en 6 (by decide)).trans b4, fun i row hi k hk => (ea _ (by decide) _).trans (b5 i row hi k hk)⟩, ⟨?_, fun row hr k hk => ?_⟩, ⟨(en 11 (by decide)).trans d1, fun i hi => (ea _ (by decide) i).trans (d2 i hi)⟩, ⟨(en 13 (by decide)).trans f1.1, (en 14 (by decide)).trans f1.2⟩, (en 9 (by decide)).trans g1, fun i hi => (ea _ (by decide) i).trans (g2 i hi)⟩, ⟨fun r hr => ⟨fun f => ?_, fun i => ?_⟩, rfl⟩⟩
  · rw [m_saveL hk]
    exact rI (m_countAll hA' (by omega))
  · rw [gi_si, if_pos ⟨rfl, rfl⟩]; rfl
  · obtain rfl : sW S = row := Option.some.inj hr
    rw [ga_si, ga_sar, if_pos rfl]
    have := blt_in (f := ga G3 (0, 53)) (w := ga G3 (0, 51)) (o := 0) hk
    rw [Nat.zero_add] at this
    rw [this]; exact hA k hk
  · rw [gi_si, if_neg (fun z => by rw [z.1] at hr; exact absurd hr (by decide))]; rfl
  · rw [ga_si, ga_sar, if_neg (fun z => by rw [z] at hr; exact absurd hr (by decide))]
theorem e_save (hk : 200 ≤ kk) (h : Rel t G) : EQV t (D_PB_save kk G) (fun G => D_Mo_save kk G) := by
  obtain ⟨S, hS, hX, hM⟩ := h
  obtain ⟨G1, g1, g2, g3⟩ := c_copy (kk := kk) (a := 0) (j := 1) (by decide) hX.1 hS.2.1.2.1 hS.2.1.1
  have q : ∀ r : Rf, r ≠ (0, 0) → (∀ f, gi (si G1 (0, 0) 3 1) r f = gi G1 r f) ∧ ∀ i, ga (si G1 (0, 0) 3 1) r i = ga G1 r i := fun r hr => ⟨fun f => by rw [gi_si, if_neg (fun z => hr z.1)], fun i => rfl⟩
  have hA0 : AX (sW S) 0 (si G1 (0, 0) 3 1) := AX_eq (AX_fr hX.1 g3 (by decide)) (fun k k1 k9 => q _ (fun z => by have := congrArg Prod.snd z; simp at this; omega))
  have n : ∀ r : Rf, r.1 = 0 → ¬ (r.1 = 1 ∧ 1 ≤ r.2 ∧ r.2 ≤ 9) := fun r h0 z => by omega
  have hX1 : RelX (sSave S) (si G1 (0, 0) 3 1) := by
    obtain ⟨hA, ⟨b1, b2, nx, b3, b4, b5⟩, ⟨c1, c2⟩, ⟨d1, d2⟩, f1, h1, h2⟩ := hX
    refine ⟨hA0, ⟨(((q (0, 10) (by decide)).1 2).trans ((g3.1 _ (n _ rfl)).1 2)).trans b1, b2, nx, b3, (((q (0, 10) (by decide)).1 1).trans ((g3.1 _ (n _ rfl)).1 1)).trans b4, fun i row hi => AX_eq (AX_fr (b5 i row hi) g3 (by omega)) (fun k k1 k9 => q _ (fun z => by have := congrArg Prod.snd z; simp at this; omega))⟩, ⟨?_, fun row hr => ?_⟩, ⟨(((q (0, 12) (by decide)).1 3).trans ((g3.1 _ (n _ rfl)).1 3)).trans d1, fun i hi => (((q (0, 13) (by decide)).2 i).trans ((g3.1 _ (n _ rfl)).2 i)).trans (d2 i hi)⟩, ⟨?_, ?_⟩, ?_, fun i hi => ?_⟩
    · rw [gi_si, if_pos ⟨rfl, rfl⟩]; rfl
    · obtain rfl : sW S = row := Option.some.inj hr
      exact AX_eq g2 (fun k k1 k9 => q _ (fun z => by have := congrArg Prod.snd z; simp at this; omega))
    · rw [gi_si, if_neg (fun z => by cases z.2)]; exact ((g3.1 _ (n _ rfl)).1 5).trans f1.1
    · rw [gi_si, if_neg (fun z => by cases z.2)]; exact ((g3.1 _ (n _ rfl)).1 6).trans f1.2
    · show gn G1 = _
      unfold gn; rw [g3.2]; exact h1
    · show gt G1 i = _
      unfold gt; rw [g3.2]; exact h2 i hi
  have fX : FrX G (si G1 (0, 0) 3 1) := fun r hr => ⟨fun f => ((q r (fun z => by rw [z] at hr; exact absurd hr (by decide))).1 f).trans ((g3.1 r (fun z => by omega)).1 f), fun i => (g3.1 r (fun z => by omega)).2 i⟩
  have hM1 : RelM S (si (si G1 (0, 0) 3 1) (0, 50) 0 0) := RelM_th (RelM_fr hM fX)
  obtain ⟨G2, p1, p2, p3⟩ := m_save (kk := kk) hk hM1
  refine ⟨cnt (sW S), _, G2, (rV g1).trans (rI (c_countPillows hA0 (by omega))), p1, sSave S, ?_, RelX_fr (RelX_fr hX1 FrO_th) p3, p2⟩
  obtain ⟨s1, s2, s3, s4, s5⟩ := hS
  exact ⟨Nat.le_succ_of_le s1, s2, s3, (fun row hr => by obtain rfl : sW S = row := Option.some.inj hr; exact s2), s5⟩
theorem m_restore (hk : 200 ≤ kk) {row : Nat → Int32} {G0 : GS} (h1 : RelM S (si G0 (0, 50) 0 0)) (hh : sV S = some row) : ∃ G', D_Mo_restore kk G0 = okI (cnt row) G' ∧ RelM (sUndo S row []) G' ∧ FrO (si G0 (0, 50) 0 0) G' ∧ gi G' (0, 50) 0 = gi (si G0 (0, 50) 0 0) (0, 50) 0 := by
  unfold D_Mo_restore
  generalize si G0 (0, 50) 0 (0 : Int32) = G3 at h1 ⊢
  obtain ⟨hA, ⟨b1, b2, f, b3, b4, b5⟩, ⟨c1, c2⟩, ⟨d1, d2⟩, f1, g1, g2⟩ := h1
  rw [hh] at c1
  let G' := si (si (sar G3 (0, 51) (blt (ga G3 (0, 51)) (ga G3 (0, 53)) 0 156)) (0, 50) 5 0) (0, 50) 6 0
  have en : ∀ f, f ≠ 5 → f ≠ 6 → gi G' (0, 50) f = gi G3 (0, 50) f := fun f h5 h6 => by
    show gi (si (si (sar G3 (0, 51) (blt (ga G3 (0, 51)) (ga G3 (0, 53)) 0 156)) (0, 50) 5 0) (0, 50) 6 0) (0, 50) f = _
    rw [gi_si, if_neg (fun z => h6 z.2), gi_si, if_neg (fun z => h5 z.2)]; rfl
  have ea : ∀ r : Rf, r ≠ (0, 51) → ∀ i, ga G' r i = ga G3 r i := fun r hr i => by
    show ga (si (si (sar G3 (0, 51) (blt (ga G3 (0, 51)) (ga G3 (0, 53)) 0 156)) (0, 50) 5 0) (0, 50) 6 0) r i = _
    rw [ga_si, ga_si, ga_sar, if_neg hr]
  have hA' : AM row G' := fun k hk => by
    show ga (si (si (sar G3 (0, 51) (blt (ga G3 (0, 51)) (ga G3 (0, 53)) 0 156)) (0, 50) 5 0) (0, 50) 6 0) (0, 51) k = _
    rw [ga_si, ga_si, ga_sar, if_pos rfl]
    have := blt_in (f := ga G3 (0, 51)) (w := ga G3 (0, 53)) (o := 0) hk
    rw [Nat.zero_add] at this
    rw [this]; exact c2 row hh k hk
  refine ⟨G', ?_, ⟨hA', ⟨?_, by show 0 ≤ 8; decide, 0, by decide, ?_, fun i row' hi => by cases hi⟩, ⟨(en 7 (by decide) (by decide)).trans (c1.trans (by show _ = (if (sV S).isSome = true then (1 : Int32) else 0); rw [hh])), fun r hr k hk => (ea _ (by decide) _).trans (c2 r hr k hk)⟩, ⟨(en 11 (by decide) (by decide)).trans d1, fun i hi => (ea _ (by decide) i).trans (d2 i hi)⟩, ⟨(en 13 (by decide) (by decide)).trans f1.1, (en 14 (by decide) (by decide)).trans f1.2⟩, (en 9 (by decide) (by decide)).trans g1, fun i hi => (ea _ (by decide) i).trans (g2 i hi)⟩, ⟨fun r hr => ⟨fun f => ?_, fun i => ea r (fun z => by rw [z] at hr; exact absurd hr (by decide)) i⟩, rfl⟩, en 0 (by decide) (by decide)⟩
  · refine (iF (fun z => ?_)).trans ?_
    · rw [c1] at z; exact absurd (show (1 : Int32) = 0 from z) (by decide)
    · rw [m_restoreL hk]
      exact rI (m_countAll hA' (by omega))
  · show gi (si (si (sar G3 (0, 51) (blt (ga G3 (0, 51)) (ga G3 (0, 53)) 0 156)) (0, 50) 5 0) (0, 50) 6 0) (0, 50) 5 = _
    rw [gi_si, if_neg (fun z => by cases z.2), gi_si, if_pos ⟨rfl, rfl⟩]; rfl
  · show gi (si (si (sar G3 (0, 51) (blt (ga G3 (0, 51)) (ga G3 (0, 53)) 0 156)) (0, 50) 5 0) (0, 50) 6 0) (0, 50) 6 = _
    rw [gi_si, if_pos ⟨rfl, rfl⟩]; rfl
  · show gi (si (si (sar G3 (0, 51) (blt (ga G3 (0, 51)) (ga G3 (0, 53)) 0 156)) (0, 50) 5 0) (0, 50) 6 0) r f = _
    rw [gi_si, if_neg (fun z => by rw [z.1] at hr; exact absurd hr (by decide)), gi_si, if_neg (fun z => by rw [z.1] at hr; exact absurd hr (by decide))]; rfl
theorem e_restore (hk : 200 ≤ kk) (h : Rel t G) : EQI t (D_Law_restore kk G) (fun G => D_Mo_restore kk G) := by
  obtain ⟨S, hS, hX, hM⟩ := h
  have x1 := hX.2.2.1.1
  cases hh : sV S with
  | none =>
    rw [hh] at x1
    refine eqi_x (k := 1) hS hX hM (by decide) (by decide) (rIx (iT x1)) (fun G1 h1 G0 e => ?_)
    subst e
    have := h1.2.2.1.1
    rw [hh] at this
    exact (iT this).trans (rI rfl)
  | some row =>
    rw [hh] at x1
    have hrow := hS.2.2.2.1 row hh
    obtain ⟨G1, g1, g2, g3⟩ := c_copy (kk := kk) (a := 1) (j := 0) (by decide) (hX.2.2.1.2 row hh) hrow.2.1 hrow.1
    have q : ∀ r : Rf, r ≠ (0, 10) → (∀ f, gi (si G1 (0, 10) 2 0) r f = gi G1 r f) ∧ ∀ i, ga (si G1 (0, 10) 2 0) r i = ga G1 r i := fun r hr => ⟨fun f => by rw [gi_si, if_neg (fun z => hr z.1)], fun i => rfl⟩
    have hA0 : AX row 0 (si G1 (0, 10) 2 0) := AX_eq g2 (fun k k1 k9 => q _ (fun z => by have := congrArg Prod.snd z; simp at this; omega))
    have n10 : ¬ (((0, 10) : Rf).1 = 0 ∧ 1 ≤ ((0, 10) : Rf).2 ∧ ((0, 10) : Rf).2 ≤ 9) := fun z => absurd z.2.2 (by decide)
    have hX1 : RelX (sUndo S row []) (si G1 (0, 10) 2 0) := by
      refine ⟨hA0, ⟨?_, by show 0 ≤ 8; decide, ?_⟩, RXr_of (S := sUndo S row []) (G := G) hX.2.2 (fun r hr => ⟨fun f => ((q r (nM_10 hr).1).1 f).trans ((g3.1 r (nM_10 hr).2).1 f), fun i => (g3.1 r (nM_10 hr).2).2 i⟩) (congrArg Prod.fst g3.2)⟩
      · rw [gi_si, if_pos ⟨rfl, rfl⟩]; rfl
      · obtain ⟨b1, b2, nx, b3, b4, b5⟩ := hX.2.1
        refine ⟨nx, b3, ?_, fun i row' hi => by cases hi⟩
        rw [gi_si, if_neg (fun z => by cases z.2)]
        exact ((g3.1 _ n10).1 1).trans b4
    have fX : FrX G (si G1 (0, 10) 2 0) := fun r hr => ⟨fun f => ((q r (fun z => by rw [z] at hr; exact absurd hr (by decide))).1 f).trans ((g3.1 r (fun z => by omega)).1 f), fun i => (g3.1 r (fun z => by omega)).2 i⟩
    have hM1 : RelM S (si (so_ (si G1 (0, 10) 2 0) (cnt row).toInt64) (0, 50) 0 0) := RelM_th (show RelM S (so_ (si G1 (0, 10) 2 0) _) from RelM_fr hM fX)
    obtain ⟨G2, p1, p2, p3, p4⟩ := m_restore (kk := kk) hk hM1 hh
    have hcl : D_PB_restore kk G = okI (cnt row) (si G1 (0, 10) 2 0) :=
      (iF (fun z => absurd (show (1 : Int32) = 0 from x1.symm.trans z) (by decide))).trans ((rV g1).trans ((rV (G := si G1 (0, 10) 2 0) rfl).trans (rI (c_countPillows hA0 (by omega)))))
    refine ⟨0, _, cnt row, G2, rI hcl, p1, p4.trans th_eq, fun _ => ?_, sUndo S row [], ?_, RelX_fr (RelX_fr (show RelX _ (so_ (si G1 (0, 10) 2 0) (cnt row).toInt64) from hX1) FrO_th) p3, p2⟩
    · rw [go_of p3]; exact lg_self _
    · obtain ⟨s1, s2, s3, s4⟩ := hS
      exact ⟨Nat.le_succ_of_le s1, hrow, (fun r hr => by cases hr), s4⟩
end Un
