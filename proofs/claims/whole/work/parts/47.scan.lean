/-! THE SCRIPT: WHAT ITS TEXT SAYS -/
/-- the letters as numbers, 200 behind the end -/
def Ch (n : Nat) (T : Nat → Int32) (i : Nat) : Nat := if i < n then (T i).toNatClampNeg else 200
def cm (C : Nat → Nat) : List Nat → Nat → Nat
  | [], _ => 0
  | a :: l, i => if C i = a then cm C l (i + 1) + 1 else 0
def kwL : List (List Nat) := [[108, 111, 97, 100, 32], [117, 110, 108, 111, 97, 100, 32], [115, 104, 105, 102, 116, 32], [115, 97, 105, 108], [116, 117, 114, 110], [108, 105, 109, 105, 116, 32], [100, 114, 105, 108, 108, 32]]
def kwG (C : Nat → Nat) (i : Nat) : List (List Nat) → Nat → Nat → Nat × Nat
  | [], idx, best => (idx, i + best)
  | k :: ks, idx, best => if cm C k i = k.length then (idx, i + k.length) else kwG C i ks (idx + 1) (max best (cm C k i))
def kwS (C : Nat → Nat) (i : Nat) : Nat × Nat := kwG C i kwL 0 0
def isD (c : Nat) : Bool := decide (48 ≤ c) && decide (c ≤ 57)
abbrev PR : Type := Bool × Nat × Int32 × Int32 × Int32
def numS (C : Nat → Nat) (i : Nat) : Bool × Nat × Int32 :=
  if isD (C i) = true then (if isD (C (i + 1)) = true then (true, i + 2, nI (10 * (C i - 48) + (C (i + 1) - 48))) else (true, i + 1, nI (C i - 48))) else (false, i, 0)
def bodyS (C : Nat → Nat) (kw i : Nat) : PR := match kw with
  | 0 => if isD (C i) = true then (if C (i + 1) = 32 then (if (numS C (i + 2)).1 = true then (if C (numS C (i + 2)).2.1 = 32 then (if isD (C ((numS C (i + 2)).2.1 + 1)) = true then (true, (numS C (i + 2)).2.1 + 2, nI (C i - 48), (numS C (i + 2)).2.2, nI (C ((numS C (i + 2)).2.1 + 1) - 48)) else (false, (numS C (i + 2)).2.1 + 1, 0, 0, 0)) else (false, (numS C (i + 2)).2.1, 0, 0, 0)) else (false, (numS C (i + 2)).2.1, 0, 0, 0)) else (false, i + 1, 0, 0, 0)) else (false, i, 0, 0, 0)
  | 1 => if isD (C i) = true then (true, i + 1, nI (C i - 48), 0, 0) else (false, i, 0, 0, 0)
  | 2 => if isD (C i) = true then (if C (i + 1) = 32 then (if isD (C (i + 2)) = true then (true, i + 3, nI (C i - 48), nI (C (i + 2) - 48), 0) else (false, i + 2, 0, 0, 0)) else (false, i + 1, 0, 0, 0)) else (false, i, 0, 0, 0)
  | 3 => if C i = 32 then (if (numS C (i + 1)).1 = true then (true, (numS C (i + 1)).2.1, (numS C (i + 1)).2.2, 0, 0) else (false, (numS C (i + 1)).2.1, 0, 0, 0)) else (true, i, 1, 0, 0)
  | 4 => (true, i, 0, 0, 0)
  | 5 => if (numS C i).1 = true then (true, (numS C i).2.1, (numS C i).2.2, 0, 0) else (false, (numS C i).2.1, 0, 0, 0)
  | 6 => if C i = 45 then (if (numS C (i + 1)).1 = true then (true, (numS C (i + 1)).2.1, -(numS C (i + 1)).2.2, 0, 0) else (false, (numS C (i + 1)).2.1, 0, 0, 0)) else (if (numS C i).1 = true then (true, (numS C i).2.1, (numS C i).2.2, 0, 0) else (false, (numS C i).2.1, 0, 0, 0))
  | _ => (false, i, 0, 0, 0)
/-- a command: what keyword, and the rest -/
def cmdS (C : Nat → Nat) (i : Nat) : Nat × PR := ((kwS C i).1, bodyS C (kwS C i).1 (kwS C i).2)
/-- the text at hand -/
def TX (n : Nat) (T : Nat → Int32) : Prop := n ≤ 60 ∧ ∀ i, i < n → ∃ c, 32 ≤ c ∧ c ≤ 126 ∧ T i = nI c
section Ms
variable {kk n : Nat} {T : Nat → Int32} {G : GS}
/-- the reference reads at i -/
def PM (n : Nat) (T : Nat → Int32) (i : Nat) (G : GS) : Prop := gi G (0, 50) 11 = nI n ∧ gi G (0, 50) 12 = nI i ∧ (∀ j, j < n → ga G (0, 56) j = T j) ∧ i ≤ n
/-- what reading changes there -/
def FrR (G G' : GS) : Prop := (∀ r f, ¬ (r = (0, 50) ∧ (f = 12 ∨ f = 16)) → gi G' r f = gi G r f) ∧ (∀ r : Rf, r ≠ (0, 57) → ∀ i, ga G' r i = ga G r i) ∧ G'.2.2 = G.2.2
theorem FrR.rf {G : GS} : FrR G G := ⟨fun _ _ _ => rfl, fun _ _ _ => rfl, rfl⟩
theorem FrR.tr {G G1 G2 : GS} (h : FrR G G1) (g : FrR G1 G2) : FrR G G2 := ⟨fun r f q => (g.1 r f q).trans (h.1 r f q), fun r q i => (g.2.1 r q i).trans (h.2.1 r q i), g.2.2.trans h.2.2⟩
theorem ch_in (hT : TX n T) {i : Nat} (hi : i < n) : 32 ≤ Ch n T i ∧ Ch n T i ≤ 126 ∧ T i = nI (Ch n T i) := by
  obtain ⟨c, h1, h2, h3⟩ := hT.2 i hi
  unfold Ch
  rw [if_pos hi, h3, nI_clamp (by omega)]
  exact ⟨h1, h2, rfl⟩
theorem ch_out {i : Nat} (hi : n ≤ i) : Ch n T i = 200 := if_neg (by omega)
theorem ch_lt (hT : TX n T) {i : Nat} (h : Ch n T i ≤ 126) : i < n := by
  rcases Nat.lt_or_ge i n with q | q
  · exact q
  · rw [ch_out q] at h; omega
theorem m_next (hT : TX n T) {i : Nat} (hP : PM n T i G) : D_Mo_nextChar kk G = okI (if i < n then nI (Ch n T i) else -1) G := by
  obtain ⟨p1, p2, p3, p4⟩ := hP
  have h60 := hT.1
  unfold D_Mo_nextChar
  rw [p1, p2]
  by_cases h : i < n
  · rw [if_pos h]
    refine (iF (nI_ge h (by omega))).trans ((bT (in_of (by omega) (by decide))).trans ?_)
    rw [nI_clamp (by omega), p3 i h, ← (ch_in hT h).2.2]
  · rw [if_neg h]
    exact iT (nI_le (by omega) (by omega))
theorem PM_s {i j : Nat} (hP : PM n T i G) (hj : j ≤ n) : PM n T j (si G (0, 50) 12 (nI j)) := by
  obtain ⟨p1, p2, p3, p4⟩ := hP
  exact ⟨by rw [gi_si, if_neg (fun z => by cases z.2)]; exact p1, by rw [gi_si, if_pos ⟨rfl, rfl⟩], p3, hj⟩
theorem FrR_s {j : Nat} : FrR G (si G (0, 50) 12 (nI j)) := ⟨fun r f q => by rw [gi_si, if_neg (fun z => q ⟨z.1, Or.inl z.2⟩)], fun _ _ _ => rfl, rfl⟩
theorem FrR_a {j : Nat} {v : Int32} : FrR G (sa G (0, 57) j v) := ⟨fun _ _ _ => rfl, fun r q i => by rw [ga_sa, if_neg (fun z => q z.1)], rfl⟩
theorem FrR_16 {v : Int32} : FrR G (si G (0, 50) 16 v) := ⟨fun r f q => by rw [gi_si, if_neg (fun z => q ⟨z.1, Or.inr z.2⟩)], fun _ _ _ => rfl, rfl⟩
theorem PM_a {i j : Nat} {v : Int32} (hP : PM n T i G) : PM n T i (sa G (0, 57) j v) := ⟨hP.1, hP.2.1, fun k hk => by rw [ga_sa, if_neg (fun z => absurd z.1 (by decide))]; exact hP.2.2.1 k hk, hP.2.2.2⟩
theorem PM_16 {i : Nat} {v : Int32} (hP : PM n T i G) : PM n T i (si G (0, 50) 16 v) := ⟨by rw [gi_si, if_neg (fun z => by cases z.2)]; exact hP.1, by rw [gi_si, if_neg (fun z => by cases z.2)]; exact hP.2.1, hP.2.2.1, hP.2.2.2⟩
theorem m_readsT (hT : TX n T) {i c : Nat} (hc : c ≤ 126) (hP : PM n T i G) (h : Ch n T i = c) : D_Mo_reads kk (nI c) G = okI 1 (si G (0, 50) 12 (nI (i + 1))) := by
  have hi := ch_lt hT (i := i) (by omega)
  have hn := m_next (kk := kk) hT hP
  rw [if_pos hi, h] at hn
  refine (rI hn).trans ((iT rfl).trans ?_)
  rw [hP.2.1, nI_1]
theorem m_readsF (hT : TX n T) {i c : Nat} (hc : c ≤ 126) (hP : PM n T i G) (h : ¬ Ch n T i = c) : D_Mo_reads kk (nI c) G = okI 0 G := by
  have hn := m_next (kk := kk) hT hP
  refine (rI hn).trans (iF ?_)
  by_cases hi : i < n
  · rw [if_pos hi]
    have := ch_in hT hi
    exact fun z => h ((nI_eq (by omega) (by omega)).mp z)
  · rw [if_neg hi]
    exact fun z => absurd (nI_pos (n := c) (by omega)) (by rw [← z]; decide)
theorem isD_b (c : Nat) : isD c = true ↔ 48 ≤ c ∧ c ≤ 57 := by
  unfold isD
  rw [Bool.and_eq_true, decide_eq_true_eq, decide_eq_true_eq]
theorem m_bt (hT : TX n T) {i : Nat} {G0 : GS} : D_Mo_isBetween kk (if i < n then nI (Ch n T i) else -1) 48 57 G0 = okI (if isD (Ch n T i) = true then 1 else 0) G0 := by
  by_cases hi : i < n
  · rw [if_pos hi]
    have := ch_in hT hi
    by_cases h : isD (Ch n T i) = true
    · rw [if_pos h]
      have hb := (isD_b _).mp h
      exact m_betw (nI_nlt (b := 48) hb.1 (by omega)) (nI_nlt (a := 57) hb.2 (by decide))
    · rw [if_neg h]
      refine m_betwx ?_
      rcases Nat.lt_or_ge (Ch n T i) 48 with q | q
      · exact Or.inl (nI_lt (b := 48) q (by decide))
      · exact Or.inr (nI_lt (a := 57) (by
          rcases Nat.lt_or_ge 57 (Ch n T i) with r | r
          · exact r
          · exact absurd ((isD_b _).mpr ⟨q, r⟩) h) (by omega))
  · rw [if_neg hi, ch_out (by omega)]
    exact m_betwx (Or.inl (by decide))
theorem m_digT (hT : TX n T) {i a : Nat} (ha : a < 3) (hP : PM n T i G) (h : isD (Ch n T i) = true) : D_Mo_readsDigit kk (nI a) G = okI 1 (si (sa G (0, 57) a (nI (Ch n T i - 48))) (0, 50) 12 (nI (i + 1))) := by
  have hb := (isD_b _).mp h
  have hi := ch_lt hT (i := i) (by omega)
  have hn := m_next (kk := kk) hT hP
  have hbt := m_bt (kk := kk) (i := i) hT (G0 := G)
  rw [if_pos h] at hbt
  refine (rI hn).trans ((rI hbt).trans ((iF (by decide)).trans ((rI hn).trans ((bT (in_of ha (by decide))).trans ?_))))
  rw [if_pos hi, nI_clamp (by omega), show nI (Ch n T i) - (48 : Int32) = nI (Ch n T i - 48) from pk_sub (b := 48) (by omega), gi_sa, hP.2.1, nI_1]
theorem m_digF (hT : TX n T) {i a : Nat} (hP : PM n T i G) (h : ¬ isD (Ch n T i) = true) : D_Mo_readsDigit kk (nI a) G = okI 0 G := by
  have hn := m_next (kk := kk) hT hP
  have hbt := m_bt (kk := kk) (i := i) hT (G0 := G)
  rw [if_neg h] at hbt
  exact (rI hn).trans ((rI hbt).trans (iT rfl))
theorem PM_d {i a : Nat} {v : Int32} (hP : PM n T i G) (hi : i < n) : PM n T (i + 1) (si (sa G (0, 57) a v) (0, 50) 12 (nI (i + 1))) := PM_s (PM_a hP) hi
/-- a number of one or two digits -/
theorem m_num (hT : TX n T) {i a : Nat} (ha : a < 3) (hP : PM n T i G) : ∃ G', D_Mo_readsNumber kk (nI a) G = okI (if (numS (Ch n T) i).1 = true then 1 else 0) G' ∧ PM n T (numS (Ch n T) i).2.1 G' ∧ FrR G G' ∧ gi G' (0, 50) 16 = gi G (0, 50) 16 ∧ ((numS (Ch n T) i).1 = true → ga G' (0, 57) a = (numS (Ch n T) i).2.2) ∧ ∀ b, b ≠ a → ga G' (0, 57) b = ga G (0, 57) b := by
  by_cases h : isD (Ch n T i) = true
  · have hb := (isD_b _).mp h
    have hi := ch_lt hT (i := i) (by omega)
    have P1 : PM n T (i + 1) (si (sa G (0, 57) a (nI (Ch n T i - 48))) (0, 50) 12 (nI (i + 1))) := PM_d hP hi
    have hn := m_next (kk := kk) hT P1
    have hbt := m_bt (kk := kk) (i := i + 1) hT (G0 := si (sa G (0, 57) a (nI (Ch n T i - 48))) (0, 50) 12 (nI (i + 1)))
    by_cases h2 : isD (Ch n T (i + 1)) = true
    · have e : numS (Ch n T) i = (true, i + 2, nI (10 * (Ch n T i - 48) + (Ch n T (i + 1) - 48))) := by
        unfold numS; rw [if_pos h, if_pos h2]
      have hb2 := (isD_b _).mp h2
      have hi2 := ch_lt hT (i := i + 1) (by omega)
      rw [if_pos h2] at hbt
      rw [e]
      refine ⟨si (sa (si (sa G (0, 57) a (nI (Ch n T i - 48))) (0, 50) 12 (nI (i + 1))) (0, 57) a (nI (10 * (Ch n T i - 48) + (Ch n T (i + 1) - 48)))) (0, 50) 12 (nI (i + 2)), ?_, PM_d P1 hi2, (FrR_a.tr FrR_s).tr (FrR_a.tr FrR_s), ?_, fun _ => ?_, fun b hne => ?_⟩
      · refine (rI (m_digT hT ha hP h)).trans ((iF (by decide)).trans ((rI hn).trans ((rI hbt).trans ((iF (by decide)).trans ((bT (in_of ha (by decide))).trans ((rI hn).trans ((bT (in_of ha (by decide))).trans ?_)))))))
        rw [if_pos hi2, nI_clamp (by omega), ga_si, ga_sa, if_pos ⟨rfl, rfl⟩, show (10 : Int32) * nI (Ch n T i - 48) = nI (10 * (Ch n T i - 48)) from pk_mul 10 _, nI_add, show nI (10 * (Ch n T i - 48) + Ch n T (i + 1)) - (48 : Int32) = nI (10 * (Ch n T i - 48) + Ch n T (i + 1) - 48) from pk_sub (b := 48) (by omega), gi_sa, gi_si, if_pos ⟨rfl, rfl⟩, nI_1, show 10 * (Ch n T i - 48) + Ch n T (i + 1) - 48 = 10 * (Ch n T i - 48) + (Ch n T (i + 1) - 48) by omega]
        rfl
      · rw [gi_si, if_neg (fun z => by cases z.2), gi_sa, gi_si, if_neg (fun z => by cases z.2)]; rfl
      · rw [ga_si, ga_sa, if_pos ⟨rfl, rfl⟩]
      · rw [ga_si, ga_sa, if_neg (fun z => hne z.2), ga_si, ga_sa, if_neg (fun z => hne z.2)]
    · have e : numS (Ch n T) i = (true, i + 1, nI (Ch n T i - 48)) := by
        unfold numS; rw [if_pos h, if_neg h2]
      rw [if_neg h2] at hbt
      rw [e]
      refine ⟨_, (rI (m_digT hT ha hP h)).trans ((iF (by decide)).trans ((rI hn).trans ((rI hbt).trans (iT rfl)))), P1, FrR_a.tr FrR_s, ?_, fun _ => ?_, fun b hne => ?_⟩
      · rw [gi_si, if_neg (fun z => by cases z.2)]; rfl
      · rw [ga_si, ga_sa, if_pos ⟨rfl, rfl⟩]
      · rw [ga_si, ga_sa, if_neg (fun z => hne z.2)]
  · have e : numS (Ch n T) i = (false, i, 0) := by
      unfold numS; rw [if_neg h]
    rw [e]
    exact ⟨G, (rI (m_digF hT hP h)).trans (iT rfl), hP, FrR.rf, rfl, fun z => absurd z Bool.false_ne_true, fun _ _ => rfl⟩
end Ms
section Mc
variable {kk n : Nat} {T : Nat → Int32} {G : GS}
def spell (kk : Nat) : List Nat → (GS → Res) → GS → Res
  | [], K => fun G => K G
  | c :: cs, K => fun G => (D_Mo_reads kk (nI c) G).bind (fun r => oI r (fun v G1 => if v = 0 then okI (0 : Int32) G1 else spell kk cs K G1) exc)
theorem m_spell (hT : TX n T) (K : GS → Res) : ∀ (cs : List Nat) (i : Nat) (G : GS), (∀ c ∈ cs, c ≤ 126) → PM n T i G →
    (cm (Ch n T) cs i = cs.length ∧ ∃ G', spell kk cs K G = K G' ∧ PM n T (i + cs.length) G' ∧ FrR G G' ∧ gi G' (0, 50) 16 = gi G (0, 50) 16) ∨ (cm (Ch n T) cs i < cs.length ∧ ∃ G', spell kk cs K G = okI 0 G' ∧ PM n T (i + cm (Ch n T) cs i) G' ∧ FrR G G')
  | [], i, G, _, hP => Or.inl ⟨rfl, G, rfl, hP, FrR.rf, rfl⟩
  | c :: cs, i, G, hc, hP => by
    have hc1 : c ≤ 126 := hc c (List.mem_cons_self ..)
    by_cases h : Ch n T i = c
    · have e : cm (Ch n T) (c :: cs) i = cm (Ch n T) cs (i + 1) + 1 := if_pos h
      have hi := ch_lt hT (i := i) (by omega)
      rw [e, List.length_cons]
      rcases m_spell hT K cs (i + 1) _ (fun x hx => hc x (List.mem_cons_of_mem _ hx)) (PM_s hP hi) with ⟨a1, G', a2, a3, a4, a5⟩ | ⟨a1, G', a2, a3, a4⟩
      · refine Or.inl ⟨by omega, G', (rI (m_readsT hT hc1 hP h)).trans ((iF (by decide)).trans a2), by rw [show i + (cs.length + 1) = i + 1 + cs.length by omega]; exact a3, FrR_s.tr a4, a5.trans ?_⟩
        rw [gi_si, if_neg (fun z => by cases z.2)]
      · refine Or.inr ⟨by omega, G', (rI (m_readsT hT hc1 hP h)).trans ((iF (by decide)).trans a2), by rw [show i + (cm (Ch n T) cs (i + 1) + 1) = i + 1 + cm (Ch n T) cs (i + 1) by omega]; exact a3, FrR_s.tr a4⟩
    · have e : cm (Ch n T) (c :: cs) i = 0 := if_neg h
      rw [e, List.length_cons]
      exact Or.inr ⟨by omega, G, (rI (m_readsF hT hc1 hP h)).trans (iT rfl), hP, FrR.rf⟩
def argsM (kw : Nat) (r : PR) (G : GS) : Prop := (kw ≠ 4 → ga G (0, 57) 0 = r.2.2.1) ∧ (kw = 0 ∨ kw = 2 → ga G (0, 57) 1 = r.2.2.2.1) ∧ (kw = 0 → ga G (0, 57) 2 = r.2.2.2.2)
def RB (n : Nat) (T : Nat → Int32) (kw : Nat) (r : PR) (A : Res) (G : GS) : Prop := ∃ G', A = okI (if r.1 = true then 1 else 0) G' ∧ PM n T r.2.1 G' ∧ FrR G G' ∧ (r.1 = true → argsM kw r G' ∧ gi G' (0, 50) 16 = gi G (0, 50) 16)
theorem RB_F {kw p : Nat} {A : Res} {G G' : GS} {r : PR} (hr : r = (false, p, 0, 0, 0)) (h1 : A = okI 0 G') (h2 : PM n T p G') (h3 : FrR G G') : RB n T kw r A G := by
  subst hr
  exact ⟨G', h1, h2, h3, fun z => absurd z Bool.false_ne_true⟩
def B0 (kk : Nat) (G : GS) : Res := (D_Mo_readsDigit kk (0 : Int32) G).bind (fun r => oI r (fun v44 G41 =>
          if v44 = 0 then
            okI (0 : Int32) G41
          else
            (D_Mo_reads kk (32 : Int32) G41).bind (fun r => oI r (fun v48 G45 =>
            if v48 = 0 then
              okI (0 : Int32) G45
            else
              (D_Mo_readsNumber kk (1 : Int32) G45).bind (fun r => oI r (fun v52 G49 =>
              if v52 = 0 then
                okI (0 : Int32) G49
              else
                (D_Mo_reads kk (32 : Int32) G49).bind (fun r => oI r (fun v56 G53 =>
                if v56 = 0 then
                  okI (0 : Int32) G53
                else
                  (D_Mo_readsDigit kk (2 : Int32) G53).bind (fun r => oI r (fun v60 G57 =>
                  if v60 = 0 then
                    okI (0 : Int32) G57
                  else
                    okI (1 : Int32) G57) exc)) exc)) exc)) exc)) exc)
def B1 (kk : Nat) (G : GS) : Res := (D_Mo_readsDigit kk (0 : Int32) G).bind (fun r => oI r (fun v72 G69 =>
                  if v72 = 0 then
                    okI (0 : Int32) G69
                  else
                    okI (1 : Int32) G69) exc)
def B2 (kk : Nat) (G : GS) : Res := (D_Mo_readsDigit kk (0 : Int32) G).bind (fun r => oI r (fun v44 G41 =>
            if v44 = 0 then
              okI (0 : Int32) G41
            else
              (D_Mo_reads kk (32 : Int32) G41).bind (fun r => oI r (fun v48 G45 =>
              if v48 = 0 then
                okI (0 : Int32) G45
              else
                (D_Mo_readsDigit kk (1 : Int32) G45).bind (fun r => oI r (fun v52 G49 =>
                if v52 = 0 then
                  okI (0 : Int32) G49
                else
                  okI (1 : Int32) G49) exc)) exc)) exc)
def B3 (kk : Nat) (G : GS) : Res := (D_Mo_reads kk (32 : Int32) (sa G (0, 57) 0 (1 : Int32))).bind (fun r => oI r (fun v20 G17 =>
          if v20 = 0 then
            okI (1 : Int32) G17
          else
            (D_Mo_readsNumber kk (0 : Int32) G17).bind (fun r => oI r (fun v24 G21 =>
            if v24 = 0 then
              okI (0 : Int32) G21
            else
              okI (1 : Int32) G21) exc)) exc)
def B5 (kk : Nat) (G : GS) : Res := (D_Mo_readsNumber kk (0 : Int32) G).bind (fun r => oI r (fun v28 G25 =>
              if v28 = 0 then
                okI (0 : Int32) G25
              else
                okI (1 : Int32) G25) exc)
def B6 (kk : Nat) (G : GS) : Res := (D_Mo_reads kk (45 : Int32) G).bind (fun r => oI r (fun v24 G21 =>
            (D_Mo_readsNumber kk (0 : Int32) G21).bind (fun r => oI r (fun v28 G25 =>
            if v28 = 0 then
              okI (0 : Int32) G25
            else
              if v24 = 0 then
                okI (1 : Int32) G25
              else
                okI (1 : Int32) (sa G25 (0, 57) 0 (-(ga G25 (0, 57) 0)))) exc)) exc)
theorem ga_d {i a b : Nat} {v : Int32} : ga (si (sa G (0, 57) a v) (0, 50) 12 (nI i)) (0, 57) b = if b = a then v else ga G (0, 57) b := by
  rw [ga_si, ga_sa]
  by_cases e : b = a
  · rw [if_pos ⟨rfl, e⟩, if_pos e]
  · rw [if_neg (fun z => e z.2), if_neg e]
theorem g16_d {i a : Nat} {v : Int32} : gi (si (sa G (0, 57) a v) (0, 50) 12 (nI i)) (0, 50) 16 = gi G (0, 50) 16 := by
  rw [gi_si, if_neg (fun z => by cases z.2)]; rfl
theorem g16_s {i : Nat} : gi (si G (0, 50) 12 (nI i)) (0, 50) 16 = gi G (0, 50) 16 := by
  rw [gi_si, if_neg (fun z => by cases z.2)]
theorem m_B1 (hT : TX n T) {i : Nat} (hP : PM n T i G) : RB n T 1 (bodyS (Ch n T) 1 i) (B1 kk G) G := by
  by_cases h : isD (Ch n T i) = true
  · have hb := (isD_b _).mp h
    have hi := ch_lt hT (i := i) (by omega)
    have e : bodyS (Ch n T) 1 i = (true, i + 1, nI (Ch n T i - 48), 0, 0) := if_pos h
    rw [e]
    exact ⟨_, (rI (m_digT hT (a := 0) (by decide) hP h)).trans (iF (by decide)), PM_d hP hi, FrR_a.tr FrR_s, fun _ => ⟨⟨fun _ => by rw [ga_d, if_pos rfl], fun z => by omega, fun z => by omega⟩, g16_d⟩⟩
  · exact RB_F (show bodyS (Ch n T) 1 i = _ from if_neg h) ((rI (m_digF hT (a := 0) hP h)).trans (iT rfl)) hP FrR.rf
theorem m_B5 (hT : TX n T) {i : Nat} (hP : PM n T i G) : RB n T 5 (bodyS (Ch n T) 5 i) (B5 kk G) G := by
  obtain ⟨G', g1, g2, g3, g4, g5, g6⟩ := m_num (kk := kk) hT (a := 0) (by decide) hP
  by_cases h : (numS (Ch n T) i).1 = true
  · have e : bodyS (Ch n T) 5 i = (true, (numS (Ch n T) i).2.1, (numS (Ch n T) i).2.2, 0, 0) := if_pos h
    rw [if_pos h] at g1
    rw [e]
    exact ⟨G', (rI g1).trans (iF (by decide)), g2, g3, fun _ => ⟨⟨fun _ => g5 h, fun z => by omega, fun z => by omega⟩, g4⟩⟩
  · rw [if_neg h] at g1
    exact RB_F (show bodyS (Ch n T) 5 i = _ from if_neg h) ((rI g1).trans (iT rfl)) g2 g3
theorem m_B2 (hT : TX n T) {i : Nat} (hP : PM n T i G) : RB n T 2 (bodyS (Ch n T) 2 i) (B2 kk G) G := by
  by_cases h : isD (Ch n T i) = true
  · have hb := (isD_b _).mp h
    have hi := ch_lt hT (i := i) (by omega)
    have P1 := PM_d (a := 0) (v := nI (Ch n T i - 48)) hP hi
    have d1 := m_digT (kk := kk) hT (a := 0) (by decide) hP h
    by_cases h2 : Ch n T (i + 1) = 32
    · have hi2 := ch_lt hT (i := i + 1) (by omega)
      have P2 := PM_s P1 (j := i + 2) hi2
      have r1 := m_readsT (kk := kk) hT (c := 32) (by decide) P1 h2
      by_cases h3 : isD (Ch n T (i + 2)) = true
      · have hb3 := (isD_b _).mp h3
        have hi3 := ch_lt hT (i := i + 2) (by omega)
        have e : bodyS (Ch n T) 2 i = (true, i + 3, nI (Ch n T i - 48), nI (Ch n T (i + 2) - 48), 0) := by
          simp [bodyS, h, h2, h3]
        rw [e]
        refine ⟨_, (rI d1).trans ((iF (by decide)).trans ((rI r1).trans ((iF (by decide)).trans ((rI (m_digT hT (a := 1) (by decide) P2 h3)).trans (iF (by decide)))))), PM_d P2 hi3, ((FrR_a.tr FrR_s).tr FrR_s).tr (FrR_a.tr FrR_s), fun _ => ⟨⟨fun _ => ?_, fun _ => ?_, fun z => by omega⟩, ?_⟩⟩
        · rw [ga_d, if_neg (by decide), ga_si, ga_d, if_pos rfl]
        · rw [ga_d, if_pos rfl]
        · rw [g16_d, g16_s, g16_d]
      · refine RB_F (p := i + 2) (show bodyS (Ch n T) 2 i = _ from by simp [bodyS, h, h2, h3]) ((rI d1).trans ((iF (by decide)).trans ((rI r1).trans ((iF (by decide)).trans ((rI (m_digF hT (a := 1) P2 h3)).trans (iT rfl)))))) P2 ((FrR_a.tr FrR_s).tr FrR_s)
    · refine RB_F (p := i + 1) (show bodyS (Ch n T) 2 i = _ from by simp [bodyS, h, h2]) ((rI d1).trans ((iF (by decide)).trans ((rI (m_readsF hT (c := 32) (by decide) P1 h2)).trans (iT rfl)))) P1 (FrR_a.tr FrR_s)
  · exact RB_F (show bodyS (Ch n T) 2 i = _ from if_neg h) ((rI (m_digF hT (a := 0) hP h)).trans (iT rfl)) hP FrR.rf
theorem m_B3 (hT : TX n T) {i : Nat} (hP : PM n T i G) : RB n T 3 (bodyS (Ch n T) 3 i) (B3 kk G) G := by
  have P0 : PM n T i (sa G (0, 57) 0 1) := PM_a hP
  by_cases h : Ch n T i = 32
  · have hi := ch_lt hT (i := i) (by omega)
    have P1 := PM_s P0 (j := i + 1) hi
    obtain ⟨G', g1, g2, g3, g4, g5, g6⟩ := m_num (kk := kk) hT (a := 0) (by decide) P1
    have r1 := m_readsT (kk := kk) hT (c := 32) (by decide) P0 h
    by_cases h2 : (numS (Ch n T) (i + 1)).1 = true
    · have e : bodyS (Ch n T) 3 i = (true, (numS (Ch n T) (i + 1)).2.1, (numS (Ch n T) (i + 1)).2.2, 0, 0) := by
        unfold bodyS; rw [if_pos h, if_pos h2]; rfl
      rw [if_pos h2] at g1
      rw [e]
      exact ⟨G', (rI r1).trans ((iF (by decide)).trans ((rI g1).trans (iF (by decide)))), g2, (FrR_a.tr FrR_s).tr g3, fun _ => ⟨⟨fun _ => g5 h2, fun z => by omega, fun z => by omega⟩, by rw [g4, g16_s]; rfl⟩⟩
    · rw [if_neg h2] at g1
      exact RB_F (show bodyS (Ch n T) 3 i = _ from by unfold bodyS; rw [if_pos h, if_neg h2]; rfl) ((rI r1).trans ((iF (by decide)).trans ((rI g1).trans (iT rfl)))) g2 ((FrR_a.tr FrR_s).tr g3)
  · have e : bodyS (Ch n T) 3 i = (true, i, 1, 0, 0) := if_neg h
    rw [e]
    exact ⟨_, (rI (m_readsF hT (c := 32) (by decide) P0 h)).trans (iT rfl), P0, FrR_a, fun _ => ⟨⟨fun _ => by rw [ga_sa, if_pos ⟨rfl, rfl⟩], fun z => by omega, fun z => by omega⟩, rfl⟩⟩
theorem m_B6 (hT : TX n T) {i : Nat} (hP : PM n T i G) : RB n T 6 (bodyS (Ch n T) 6 i) (B6 kk G) G := by
  by_cases h : Ch n T i = 45
  · have hi := ch_lt hT (i := i) (by omega)
    have P1 := PM_s hP (j := i + 1) hi
    have r1 := m_readsT (kk := kk) hT (c := 45) (by decide) hP h
    obtain ⟨G', g1, g2, g3, g4, g5, g6⟩ := m_num (kk := kk) hT (a := 0) (by decide) P1
    by_cases h2 : (numS (Ch n T) (i + 1)).1 = true
    · have e : bodyS (Ch n T) 6 i = (true, (numS (Ch n T) (i + 1)).2.1, -(numS (Ch n T) (i + 1)).2.2, 0, 0) := by
        simp [bodyS, h, h2]
      rw [if_pos h2] at g1
      rw [e]
      refine ⟨sa G' (0, 57) 0 (-(ga G' (0, 57) 0)), (rI r1).trans ((rI g1).trans ((iF (by decide)).trans (iF (by decide)))), PM_a g2, (FrR_s.tr g3).tr FrR_a, fun _ => ⟨⟨fun _ => ?_, fun z => by omega, fun z => by omega⟩, by rw [gi_sa, g4, g16_s]⟩⟩
      rw [ga_sa, if_pos ⟨rfl, rfl⟩, g5 h2]
    · rw [if_neg h2] at g1
      exact RB_F (show bodyS (Ch n T) 6 i = _ from by simp [bodyS, h, h2]) ((rI r1).trans ((rI g1).trans (iT rfl))) g2 (FrR_s.tr g3)
  · have r1 := m_readsF (kk := kk) hT (c := 45) (by decide) hP h
    obtain ⟨G', g1, g2, g3, g4, g5, g6⟩ := m_num (kk := kk) hT (a := 0) (by decide) hP
    by_cases h2 : (numS (Ch n T) i).1 = true
    · have e : bodyS (Ch n T) 6 i = (true, (numS (Ch n T) i).2.1, (numS (Ch n T) i).2.2, 0, 0) := by
        simp [bodyS, h, h2]
      rw [if_pos h2] at g1
      rw [e]
      exact ⟨G', (rI r1).trans ((rI g1).trans ((iF (by decide)).trans (iT rfl))), g2, g3, fun _ => ⟨⟨fun _ => g5 h2, fun z => by omega, fun z => by omega⟩, g4⟩⟩
    · rw [if_neg h2] at g1
      exact RB_F (show bodyS (Ch n T) 6 i = _ from by simp [bodyS, h, h2]) ((rI r1).trans ((rI g1).trans (iT rfl))) g2 g3
theorem m_B0 (hT : TX n T) {i : Nat} (hP : PM n T i G) : RB n T 0 (bodyS (Ch n T) 0 i) (B0 kk G) G := by
  by_cases h : isD (Ch n T i) = true
  · have hb := (isD_b _).mp h
    have hi := ch_lt hT (i := i) (by omega)
    have P1 := PM_d (a := 0) (v := nI (Ch n T i - 48)) hP hi
    have d1 := m_digT (kk := kk) hT (a := 0) (by decide) hP h
    by_cases h2 : Ch n T (i + 1) = 32
    · have hi2 := ch_lt hT (i := i + 1) (by omega)
      have P2 := PM_s P1 (j := i + 2) hi2
      have r1 := m_readsT (kk := kk) hT (c := 32) (by decide) P1 h2
      obtain ⟨G3, g1, g2, g3, g4, g5, g6⟩ := m_num (kk := kk) hT (a := 1) (by decide) P2
      by_cases h3 : (numS (Ch n T) (i + 2)).1 = true
      · rw [if_pos h3] at g1
        by_cases h4 : Ch n T (numS (Ch n T) (i + 2)).2.1 = 32
        · have hi4 := ch_lt hT (i := (numS (Ch n T) (i + 2)).2.1) (by omega)
          have P4 := PM_s g2 (j := (numS (Ch n T) (i + 2)).2.1 + 1) hi4
          have r2 := m_readsT (kk := kk) hT (c := 32) (by decide) g2 h4
          by_cases h5 : isD (Ch n T ((numS (Ch n T) (i + 2)).2.1 + 1)) = true
          · have hb5 := (isD_b _).mp h5
            have hi5 := ch_lt hT (i := (numS (Ch n T) (i + 2)).2.1 + 1) (by omega)
            have e : bodyS (Ch n T) 0 i = (true, (numS (Ch n T) (i + 2)).2.1 + 2, nI (Ch n T i - 48), (numS (Ch n T) (i + 2)).2.2, nI (Ch n T ((numS (Ch n T) (i + 2)).2.1 + 1) - 48)) := by
              unfold bodyS; rw [if_pos h, if_pos h2, if_pos h3, if_pos h4, if_pos h5]; rfl
            rw [e]
            refine ⟨_, (rI d1).trans ((iF (by decide)).trans ((rI r1).trans ((iF (by decide)).trans ((rI g1).trans ((iF (by decide)).trans ((rI r2).trans ((iF (by decide)).trans ((rI (m_digT hT (a := 2) (by decide) P4 h5)).trans (iF (by decide)))))))))), PM_d P4 hi5, ((((FrR_a.tr FrR_s).tr FrR_s).tr g3).tr FrR_s).tr (FrR_a.tr FrR_s), fun _ => ⟨⟨fun _ => ?_, fun _ => ?_, fun _ => ?_⟩, ?_⟩⟩
            · rw [ga_d, if_neg (by decide), ga_si, g6 0 (by decide), ga_si, ga_d, if_pos rfl]
            · rw [ga_d, if_neg (by decide), ga_si]; exact g5 h3
            · rw [ga_d, if_pos rfl]
            · rw [g16_d, g16_s, g4, g16_s, g16_d]
          · refine RB_F (show bodyS (Ch n T) 0 i = _ from by unfold bodyS; rw [if_pos h, if_pos h2, if_pos h3, if_pos h4, if_neg h5]; rfl) ((rI d1).trans ((iF (by decide)).trans ((rI r1).trans ((iF (by decide)).trans ((rI g1).trans ((iF (by decide)).trans ((rI r2).trans ((iF (by decide)).trans ((rI (m_digF hT (a := 2) P4 h5)).trans (iT rfl)))))))))) P4 ((((FrR_a.tr FrR_s).tr FrR_s).tr g3).tr FrR_s)
        · refine RB_F (show bodyS (Ch n T) 0 i = _ from by unfold bodyS; rw [if_pos h, if_pos h2, if_pos h3, if_neg h4]; rfl) ((rI d1).trans ((iF (by decide)).trans ((rI r1).trans ((iF (by decide)).trans ((rI g1).trans ((iF (by decide)).trans ((rI (m_readsF hT (c := 32) (by decide) g2 h4)).trans (iT rfl)))))))) g2 (((FrR_a.tr FrR_s).tr FrR_s).tr g3)
      · rw [if_neg h3] at g1
        refine RB_F (show bodyS (Ch n T) 0 i = _ from by unfold bodyS; rw [if_pos h, if_pos h2, if_neg h3]; rfl) ((rI d1).trans ((iF (by decide)).trans ((rI r1).trans ((iF (by decide)).trans ((rI g1).trans (iT rfl)))))) g2 (((FrR_a.tr FrR_s).tr FrR_s).tr g3)
    · refine RB_F (p := i + 1) (show bodyS (Ch n T) 0 i = _ from by unfold bodyS; rw [if_pos h, if_neg h2]; rfl) ((rI d1).trans ((iF (by decide)).trans ((rI (m_readsF hT (c := 32) (by decide) P1 h2)).trans (iT rfl)))) P1 (FrR_a.tr FrR_s)
  · exact RB_F (show bodyS (Ch n T) 0 i = _ from if_neg h) ((rI (m_digF hT (a := 0) hP h)).trans (iT rfl)) hP FrR.rf
/-- keywords by their first letters -/
theorem cm_c {C : Nat → Nat} {i a : Nat} {l : List Nat} (h : C i = a) : cm C (a :: l) i = cm C l (i + 1) + 1 := if_pos h
theorem cm_n {C : Nat → Nat} {i a : Nat} {l : List Nat} (h : ¬ C i = a) : cm C (a :: l) i = 0 := if_neg h
theorem kw_u {C : Nat → Nat} {i : Nat} (h : C i = 117) : kwS C i = if cm C [110, 108, 111, 97, 100, 32] (i + 1) = 6 then (1, i + 7) else (7, i + (cm C [110, 108, 111, 97, 100, 32] (i + 1) + 1)) := by
  simp [kwS, kwL, kwG, cm_c h, cm_n (C := C) (i := i) (a := 108) (by omega), cm_n (C := C) (i := i) (a := 115) (by omega), cm_n (C := C) (i := i) (a := 116) (by omega), cm_n (C := C) (i := i) (a := 100) (by omega)]
theorem kw_t {C : Nat → Nat} {i : Nat} (h : C i = 116) : kwS C i = if cm C [117, 114, 110] (i + 1) = 3 then (4, i + 4) else (7, i + (cm C [117, 114, 110] (i + 1) + 1)) := by
  simp [kwS, kwL, kwG, cm_c h, cm_n (C := C) (i := i) (a := 108) (by omega), cm_n (C := C) (i := i) (a := 117) (by omega), cm_n (C := C) (i := i) (a := 115) (by omega), cm_n (C := C) (i := i) (a := 100) (by omega)]
theorem kw_d {C : Nat → Nat} {i : Nat} (h : C i = 100) : kwS C i = if cm C [114, 105, 108, 108, 32] (i + 1) = 5 then (6, i + 6) else (7, i + (cm C [114, 105, 108, 108, 32] (i + 1) + 1)) := by
  simp [kwS, kwL, kwG, cm_c h, cm_n (C := C) (i := i) (a := 108) (by omega), cm_n (C := C) (i := i) (a := 117) (by omega), cm_n (C := C) (i := i) (a := 115) (by omega), cm_n (C := C) (i := i) (a := 116) (by omega)]
theorem kw_lo {C : Nat → Nat} {i : Nat} (h : C i = 108) (h2 : C (i + 1) = 111) : kwS C i = if cm C [97, 100, 32] (i + 1 + 1) = 3 then (0, i + 5) else (7, i + (cm C [97, 100, 32] (i + 1 + 1) + 2)) := by
  simp [kwS, kwL, kwG, cm_c h, cm_c h2, cm_n (C := C) (i := i) (a := 117) (by omega), cm_n (C := C) (i := i) (a := 115) (by omega), cm_n (C := C) (i := i) (a := 116) (by omega), cm_n (C := C) (i := i) (a := 100) (by omega), cm_n (C := C) (i := i + 1) (a := 105) (by omega)]
theorem kw_li {C : Nat → Nat} {i : Nat} (h : C i = 108) (h2 : ¬ C (i + 1) = 111) : kwS C i = if cm C [105, 109, 105, 116, 32] (i + 1) = 5 then (5, i + 6) else (7, i + (cm C [105, 109, 105, 116, 32] (i + 1) + 1)) := by
  simp [kwS, kwL, kwG, cm_c h, cm_n h2, cm_n (C := C) (i := i) (a := 117) (by omega), cm_n (C := C) (i := i) (a := 115) (by omega), cm_n (C := C) (i := i) (a := 116) (by omega), cm_n (C := C) (i := i) (a := 100) (by omega)]
theorem kw_sh {C : Nat → Nat} {i : Nat} (h : C i = 115) (h2 : C (i + 1) = 104) : kwS C i = if cm C [105, 102, 116, 32] (i + 1 + 1) = 4 then (2, i + 6) else (7, i + (cm C [105, 102, 116, 32] (i + 1 + 1) + 2)) := by
  simp [kwS, kwL, kwG, cm_c h, cm_c h2, cm_n (C := C) (i := i) (a := 117) (by omega), cm_n (C := C) (i := i) (a := 108) (by omega), cm_n (C := C) (i := i) (a := 116) (by omega), cm_n (C := C) (i := i) (a := 100) (by omega), cm_n (C := C) (i := i + 1) (a := 97) (by omega)]
theorem kw_sa {C : Nat → Nat} {i : Nat} (h : C i = 115) (h2 : ¬ C (i + 1) = 104) : kwS C i = if cm C [97, 105, 108] (i + 1) = 3 then (3, i + 4) else (7, i + (cm C [97, 105, 108] (i + 1) + 1)) := by
  simp [kwS, kwL, kwG, cm_c h, cm_n h2, cm_n (C := C) (i := i) (a := 117) (by omega), cm_n (C := C) (i := i) (a := 108) (by omega), cm_n (C := C) (i := i) (a := 116) (by omega), cm_n (C := C) (i := i) (a := 100) (by omega)]
theorem kw_n {C : Nat → Nat} {i : Nat} (h1 : ¬ C i = 108) (h2 : ¬ C i = 117) (h3 : ¬ C i = 115) (h4 : ¬ C i = 100) (h5 : ¬ C i = 116) : kwS C i = (7, i) := by
  simp [kwS, kwL, kwG, cm, h1, h2, h3, h4, h5]
theorem kwq {m L L' a x x' y y' : Nat} (h1 : L = L') (h2 : x = x') (h3 : y = y') : (if m = L then (a, x) else (7, y)) = if m = L' then (a, x') else (7, y') := by
  subst h1; subst h2; subst h3; rfl
/-- what the reference calls the command -/
def ltr (kw : Nat) : Nat := match kw with | 0 => 108 | 1 => 117 | 2 => 115 | 3 => 97 | 4 => 116 | 5 => 109 | _ => 100
def RCm (n : Nat) (T : Nat → Int32) (i : Nat) (A : Res) (G : GS) : Prop := ∃ G', A = okI (if (cmdS (Ch n T) i).2.1 = true then 1 else 0) G' ∧ PM n T (cmdS (Ch n T) i).2.2.1 G' ∧ FrR G G' ∧ ((cmdS (Ch n T) i).2.1 = true → (cmdS (Ch n T) i).1 < 7 ∧ argsM (cmdS (Ch n T) i).1 (cmdS (Ch n T) i).2 G' ∧ gi G' (0, 50) 16 = nI (ltr (cmdS (Ch n T) i).1))
theorem RCm_F {i p : Nat} {A : Res} {G' : GS} (hk : kwS (Ch n T) i = (7, p)) (h1 : A = okI 0 G') (h2 : PM n T p G') (h3 : FrR G G') : RCm n T i A G := by
  have e : cmdS (Ch n T) i = (7, false, p, 0, 0, 0) := by unfold cmdS; rw [hk]; rfl
  unfold RCm
  rw [e]
  exact ⟨G', h1, h2, h3, fun z => absurd z Bool.false_ne_true⟩
theorem RCm_B {i p kw : Nat} {A : Res} {G1 : GS} (hk : kwS (Ch n T) i = (kw, p)) (h7 : kw < 7) (h3 : FrR G G1) (hl : gi G1 (0, 50) 16 = nI (ltr kw)) (h : RB n T kw (bodyS (Ch n T) kw p) A G1) : RCm n T i A G := by
  have e : cmdS (Ch n T) i = (kw, bodyS (Ch n T) kw p) := by unfold cmdS; rw [hk]
  obtain ⟨G', g1, g2, g3, g4⟩ := h
  unfold RCm
  rw [e]
  exact ⟨G', g1, g2, h3.tr g3, fun z => ⟨h7, (g4 z).1, (g4 z).2.trans hl⟩⟩
/-- letters, then a body -/
theorem RCm_S (hT : TX n T) {i p kw : Nat} {cs : List Nat} {K : GS → Res} {A : Res} {G1 : GS} (hcs : ∀ c ∈ cs, c ≤ 126) (hP : PM n T p G1) (h3 : FrR G G1) (hl : gi G1 (0, 50) 16 = nI (ltr kw)) (hA : A = spell kk cs K G1) (h7 : kw < 7)
    (hk : kwS (Ch n T) i = if cm (Ch n T) cs p = cs.length then (kw, p + cs.length) else (7, p + cm (Ch n T) cs p)) (hB : ∀ G2, PM n T (p + cs.length) G2 → RB n T kw (bodyS (Ch n T) kw (p + cs.length)) (K G2) G2) : RCm n T i A G := by
  subst hA
  rcases m_spell (kk := kk) hT K cs p G1 hcs hP with ⟨a1, G', a2, a3, a4, a5⟩ | ⟨a1, G', a2, a3, a4⟩
  · rw [if_pos a1] at hk
    rw [a2]
    exact RCm_B hk h7 (h3.tr a4) (a5.trans hl) (hB G' a3)
  · rw [if_neg (by omega)] at hk
    exact RCm_F hk a2 a3 (h3.tr a4)
theorem b01 {A : Res} {n' : Nat} {T' : Nat → Int32} {i : Nat} {G : GS} (h : RCm n' T' i A G) : RCm n' T' i (A.bind (fun r => oI r (fun v G' => if v = 0 ∨ v = 1 then okI v G' else none) exc)) G := by
  obtain ⟨G', g1, g2⟩ := h
  refine ⟨G', (rI g1).trans ?_, g2⟩
  by_cases z : (cmdS (Ch n' T') i).2.1 = true
  · rw [if_pos z]; exact iT (Or.inr rfl)
  · rw [if_neg z]; exact iT (Or.inl rfl)
theorem m_readsL (hT : TX n T) {i : Nat} {G0 : GS} (hi : i < n) (h : Ch n T i = 108) (hP : PM n T (i + 1) G) (h3 : FrR G0 G) (hl : gi G (0, 50) 16 = nI 108) : RCm n T i (D_Mo_readsL kk G) G0 := by
  by_cases h2 : Ch n T (i + 1) = 111
  · have hi2 := ch_lt hT (i := i + 1) (by omega)
    refine RCm_S (kk := kk) (p := i + 1 + 1) (kw := 0) (cs := [97, 100, 32]) (K := B0 kk) (G1 := si G (0, 50) 12 (nI (i + 1 + 1))) hT (by decide) (PM_s hP hi2) (h3.tr FrR_s) (g16_s.trans hl) ?_ (by decide) (by rw [kw_lo h h2]; exact kwq rfl (by first | rfl | (simp only [List.length_cons, List.length_nil]; omega)) (by omega)) (fun G2 hP2 => m_B0 hT hP2)
    exact (rI (m_readsT hT (c := 111) (by decide) hP h2)).trans (iF (by decide))
  · refine RCm_S (kk := kk) (p := i + 1) (kw := 5) (cs := [105, 109, 105, 116, 32]) (K := B5 kk) (G1 := si G (0, 50) 16 (nI 109)) hT (by decide) (PM_16 hP) (h3.tr FrR_16) (by rw [gi_si, if_pos ⟨rfl, rfl⟩]; rfl) ?_ (by decide) (by rw [kw_li h h2]; exact kwq rfl (by first | rfl | (simp only [List.length_cons, List.length_nil]; omega)) (by omega)) (fun G2 hP2 => m_B5 hT hP2)
    exact (rI (m_readsF hT (c := 111) (by decide) hP h2)).trans (iT rfl)
theorem m_readsS (hT : TX n T) {i : Nat} {G0 : GS} (hi : i < n) (h : Ch n T i = 115) (hP : PM n T (i + 1) G) (h3 : FrR G0 G) (hl : gi G (0, 50) 16 = nI 115) : RCm n T i (D_Mo_readsS kk G) G0 := by
  by_cases h2 : Ch n T (i + 1) = 104
  · have hi2 := ch_lt hT (i := i + 1) (by omega)
    refine RCm_S (kk := kk) (p := i + 1 + 1) (kw := 2) (cs := [105, 102, 116, 32]) (K := B2 kk) (G1 := si G (0, 50) 12 (nI (i + 1 + 1))) hT (by decide) (PM_s hP hi2) (h3.tr FrR_s) (g16_s.trans hl) ?_ (by decide) (by rw [kw_sh h h2]; exact kwq rfl (by first | rfl | (simp only [List.length_cons, List.length_nil]; omega)) (by omega)) (fun G2 hP2 => m_B2 hT hP2)
    exact (rI (m_readsT hT (c := 104) (by decide) hP h2)).trans (iF (by decide))
  · refine RCm_S (kk := kk) (p := i + 1) (kw := 3) (cs := [97, 105, 108]) (K := B3 kk) (G1 := si G (0, 50) 16 (nI 97)) hT (by decide) (PM_16 hP) (h3.tr FrR_16) (by rw [gi_si, if_pos ⟨rfl, rfl⟩]; rfl) ?_ (by decide) (by rw [kw_sa h h2]; exact kwq rfl (by first | rfl | (simp only [List.length_cons, List.length_nil]; omega)) (by omega)) (fun G2 hP2 => m_B3 hT hP2)
    exact (rI (m_readsF hT (c := 104) (by decide) hP h2)).trans (iT rfl)
theorem m_readsDrill (hT : TX n T) {i : Nat} {G0 : GS} (h : Ch n T i = 100) (hP : PM n T (i + 1) G) (h3 : FrR G0 G) (hl : gi G (0, 50) 16 = nI 100) : RCm n T i (D_Mo_readsDrill kk G) G0 :=
  RCm_S (kk := kk) (p := i + 1) (kw := 6) (cs := [114, 105, 108, 108, 32]) (K := B6 kk) (G1 := G) hT (by decide) hP h3 hl rfl (by decide) (by rw [kw_d h]; exact kwq rfl (by first | rfl | (simp only [List.length_cons, List.length_nil]; omega)) (by omega)) (fun G2 hP2 => m_B6 hT hP2)
theorem RCm_eq {i : Nat} {A B : Res} (h : A = B) (g : RCm n T i B G) : RCm n T i A G := by rw [h]; exact g
theorem m_cmd (hT : TX n T) {i : Nat} (hP : PM n T i G) : RCm n T i (D_Mo_readsCommand kk G) G := by
  have hn := m_next (kk := kk) hT hP
  refine RCm_eq (rI hn) ?_
  generalize hv : (if i < n then nI (Ch n T i) else -1) = v0
  have P1 : PM n T i (si G (0, 50) 16 v0) := PM_16 hP
  have l1 : gi (si G (0, 50) 16 v0) (0, 50) 16 = v0 := by rw [gi_si, if_pos ⟨rfl, rfl⟩]
  have lv : ∀ c, c ≤ 126 → Ch n T i = c → i < n ∧ gi (si (si G (0, 50) 16 v0) (0, 50) 12 (nI (i + 1))) (0, 50) 16 = nI c := fun c hc h => by
    have hi := ch_lt hT (i := i) (by omega)
    rw [if_pos hi, h] at hv
    exact ⟨hi, by rw [g16_s, l1, hv]⟩
  have fr : FrR G (si (si G (0, 50) 16 v0) (0, 50) 12 (nI (i + 1))) := FrR_16.tr FrR_s
  by_cases c1 : Ch n T i = 108
  · obtain ⟨hi, hl⟩ := lv 108 (by decide) c1
    refine RCm_eq (rI (m_readsT hT (c := 108) (by decide) P1 c1)) (RCm_eq (iF (by decide)) (b01 (m_readsL hT hi c1 (PM_s P1 hi) fr hl)))
  refine RCm_eq (rI (m_readsF hT (c := 108) (by decide) P1 c1)) (RCm_eq (iT rfl) ?_)
  by_cases c2 : Ch n T i = 117
  · obtain ⟨hi, hl⟩ := lv 117 (by decide) c2
    refine RCm_eq (rI (m_readsT hT (c := 117) (by decide) P1 c2)) (RCm_eq (iF (by decide)) ?_)
    exact RCm_S (kk := kk) (p := i + 1) (kw := 1) (cs := [110, 108, 111, 97, 100, 32]) (K := B1 kk) hT (by decide) (PM_s P1 hi) fr hl rfl (by decide) (by rw [kw_u c2]; exact kwq rfl (by first | rfl | (simp only [List.length_cons, List.length_nil]; omega)) (by omega)) (fun G2 hP2 => m_B1 hT hP2)
  refine RCm_eq (rI (m_readsF hT (c := 117) (by decide) P1 c2)) (RCm_eq (iT rfl) ?_)
  by_cases c3 : Ch n T i = 115
  · obtain ⟨hi, hl⟩ := lv 115 (by decide) c3
    refine RCm_eq (rI (m_readsT hT (c := 115) (by decide) P1 c3)) (RCm_eq (iF (by decide)) (b01 (m_readsS hT hi c3 (PM_s P1 hi) fr hl)))
  refine RCm_eq (rI (m_readsF hT (c := 115) (by decide) P1 c3)) (RCm_eq (iT rfl) ?_)
  by_cases c4 : Ch n T i = 100
  · obtain ⟨hi, hl⟩ := lv 100 (by decide) c4
    refine RCm_eq (rI (m_readsT hT (c := 100) (by decide) P1 c4)) (RCm_eq (iF (by decide)) (b01 (m_readsDrill hT c4 (PM_s P1 hi) fr hl)))
  refine RCm_eq (rI (m_readsF hT (c := 100) (by decide) P1 c4)) (RCm_eq (iT rfl) ?_)
  by_cases c5 : Ch n T i = 116
  · obtain ⟨hi, hl⟩ := lv 116 (by decide) c5
    refine RCm_eq (rI (m_readsT hT (c := 116) (by decide) P1 c5)) (RCm_eq (iF (by decide)) ?_)
    exact RCm_S (kk := kk) (p := i + 1) (kw := 4) (cs := [117, 114, 110]) (K := fun G => okI 1 G) hT (by decide) (PM_s P1 hi) fr hl rfl (by decide) (by rw [kw_t c5]; exact kwq rfl (by first | rfl | (simp only [List.length_cons, List.length_nil]; omega)) (by omega)) (fun G2 hP2 => ⟨G2, rfl, hP2, FrR.rf, fun _ => ⟨⟨fun z => absurd rfl z, fun z => by omega, fun z => by omega⟩, rfl⟩⟩)
  exact RCm_F (kw_n c1 c2 c3 c4 c5) ((rI (m_readsF hT (c := 116) (by decide) P1 c5)).trans (iT rfl)) P1 FrR_16
end Mc
