/-! COPIES OF STATES, OF ROWS -/
def cpA (G : GS) (r r' : Rf) (n : Nat) : GS := (G.1, (fun q i => if q = r' then (if i < n then ga G r i else ga G r' i) else G.2.1 q i), G.2.2)
theorem ga_cpA {G : GS} {r r' q : Rf} {n i : Nat} : ga (cpA G r r' n) q i = if q = r' then (if i < n then ga G r i else ga G r' i) else ga G q i := rfl
theorem gi_cpA {G : GS} {r r' q : Rf} {n f : Nat} : gi (cpA G r r' n) q f = gi G q f := rfl
theorem FrS.cp {j k n : Nat} {r : Rf} {G : GS} (h1 : 1 ≤ k) (h2 : k ≤ 9) : FrS j G (cpA G r (j, k) n) := by
  refine ⟨fun q hq => ⟨fun f => rfl, fun i => ?_⟩, rfl⟩
  rw [ga_cpA, if_neg (fun z => hq (by rw [z]; exact ⟨rfl, h1, h2⟩))]
theorem acopy7 {a j : Nat} {G : GS} : D_acopy (a, 5) 0 (j, 5) 0 7 G = okV (cpA G (a, 5) (j, 5) 7) := rfl
theorem acopy35 {a j k : Nat} {G : GS} (h : k = 6 ∨ k = 7 ∨ k = 8 ∨ k = 9) : D_acopy (a, k) 0 (j, k) 0 35 G = okV (cpA G (a, k) (j, k) 35) := by
  rcases h with rfl | rfl | rfl | rfl <;> rfl
section Cy
variable {kk : Nat} {G : GS} {W : Nat → Int32}
theorem c_copyCargo {a j : Nat} : D_Cargo_copyFrom kk j a G = okV (cpA (cpA (cpA (cpA (cpA G (a, 5) (j, 5) 7) (a, 6) (j, 6) 35) (a, 7) (j, 7) 35) (a, 8) (j, 8) 35) (a, 9) (j, 9) 35) := by
  refine (rV acopy7).trans ?_
  refine (rV (acopy35 (Or.inl rfl))).trans ?_
  refine (rV (acopy35 (Or.inr (Or.inl rfl)))).trans ?_
  refine (rV (acopy35 (Or.inr (Or.inr (Or.inl rfl))))).trans ?_
  exact rV (acopy35 (Or.inr (Or.inr (Or.inr rfl))))
theorem c_copy {a j : Nat} (hne : a ≠ j) (hA : AX W a G) (hV : VW W) (h5 : HH W) : ∃ G', D_State_copyFrom kk j a G = okV G' ∧ AX W j G' ∧ FrS j G G' := by
  obtain ⟨p, e, hp, he, v1, v2⟩ := hV
  obtain ⟨a1, a2, a3, a4, a5, a6, a7⟩ := hA
  have hasc : gi G (a, 3) 2 = 0 ∨ gi G (a, 3) 2 = 1 := by
    rw [a5, v2]
    rcases (show e = 0 ∨ e = 1 by omega) with rfl | rfl
    · exact Or.inr (by decide)
    · exact Or.inl (by decide)
  let G1 := cpA (cpA (cpA (cpA (cpA G (a, 5) (j, 5) 7) (a, 6) (j, 6) 35) (a, 7) (j, 7) 35) (a, 8) (j, 8) 35) (a, 9) (j, 9) 35
  let G2 := si (si (si G1 (j, 3) 0 (gi G (a, 3) 0)) (j, 3) 1 (gi G (a, 3) 1)) (j, 3) 2 (gi G (a, 3) 2)
  let G3 := si (si (si (si (si G2 (j, 4) 0 (gi G (a, 4) 0)) (j, 4) 1 (gi G (a, 4) 1)) (j, 4) 2 (gi G (a, 4) 2)) (j, 4) 3 (gi G (a, 4) 3)) (j, 4) 4 (gi G (a, 4) 4)
  have ha3 : ∀ f, gi G1 (a, 3) f = gi G (a, 3) f := fun f => rfl
  have e2 : D_Voyage_copyFrom kk j a G1 = okV G2 := by
    have n1 : ∀ (f' : Nat) (X : GS) (f : Nat) (v : Int32), gi (si X (j, 3) f v) (a, 3) f' = gi X (a, 3) f' := fun f' X f v => by rw [gi_si, if_neg (fun z => hne (congrArg Prod.fst z.1))]
    unfold D_Voyage_copyFrom
    simp only [n1]
    exact iT hasc
  have e3 : D_Tally_copyFrom kk j a G2 = okV G3 := by
    have n1 : ∀ (f' : Nat) (X : GS) (f : Nat) (v : Int32), gi (si X (j, 4) f v) (a, 4) f' = gi X (a, 4) f' := fun f' X f v => by rw [gi_si, if_neg (fun z => hne (congrArg Prod.fst z.1))]
    have n2 : ∀ (f' : Nat), gi G2 (a, 4) f' = gi G (a, 4) f' := fun f' => by
      show gi (si (si (si G1 (j, 3) 0 (gi G (a, 3) 0)) (j, 3) 1 (gi G (a, 3) 1)) (j, 3) 2 (gi G (a, 3) 2)) (a, 4) f' = _
      rw [gi_si, if_neg (fun z => by cases z.1), gi_si, if_neg (fun z => by cases z.1), gi_si, if_neg (fun z => by cases z.1)]; rfl
    unfold D_Tally_copyFrom
    simp only [n1, n2]
    rfl
  have e4 : gi G3 (a, 1) 3 = gi G (a, 1) 3 := by
    simp [G3, G2, G1, gi_si, gi_cpA]
  refine ⟨si G3 (j, 1) 3 (gi G (a, 1) 3), ?_, ?_, ?_⟩
  · refine (rV c_copyCargo).trans ?_
    refine (rV e2).trans ?_
    refine (rV e3).trans ?_
    rw [e4]
  · have ne5 : ∀ k : Nat, ¬ ((a, k) : Rf) = (j, 5) := fun k z => hne (congrArg Prod.fst z)
    have ne6 : ∀ k : Nat, ¬ ((a, k) : Rf) = (j, 6) := fun k z => hne (congrArg Prod.fst z)
    have ne7 : ∀ k : Nat, ¬ ((a, k) : Rf) = (j, 7) := fun k z => hne (congrArg Prod.fst z)
    have ne8 : ∀ k : Nat, ¬ ((a, k) : Rf) = (j, 8) := fun k z => hne (congrArg Prod.fst z)
    have ne9 : ∀ k : Nat, ¬ ((a, k) : Rf) = (j, 9) := fun k z => hne (congrArg Prod.fst z)
    have ar : ∀ r i, ga (si G3 (j, 1) 3 (gi G (a, 1) 3)) r i = ga G1 r i := fun r i => rfl
    refine ⟨fun b hb => ?_, fun k hk b hb q hq => ?_, ?_, ?_, ?_, ?_, fun k hk => ?_⟩
    · rw [ar, ← a1 b hb]
      simp [G1, ga_cpA, hb]
    · have hs : 5 * b + q < 35 := by have := (h5 b hb).1; omega
      rw [ar, ← a2 k hk b hb q hq]
      match k, hk with
      | 0, _ => simp [G1, ga_cpA, hs, ne5, ne6]
      | 1, _ => simp [G1, ga_cpA, hs, ne5, ne6, ne7]
      | 2, _ => simp [G1, ga_cpA, hs, ne5, ne6, ne7, ne8]
      | 3, _ => simp [G1, ga_cpA, hs, ne5, ne6, ne7, ne8, ne9]
    · rw [← a3]; simp [G3, G2, gi_si]
    · rw [← a4]; simp [G3, G2, gi_si]
    · rw [← a5]; simp [G3, G2, gi_si]
    · rw [← a6]; simp [gi_si]
    · rw [← a7 k hk]
      match k, hk with
      | 0, _ => simp [G3, gi_si]
      | 1, _ => simp [G3, gi_si]
      | 2, _ => simp [G3, gi_si]
      | 3, _ => simp [G3, gi_si]
      | 4, _ => simp [G3, gi_si]
  · have f1 : FrS j G G1 := (((((FrS.cp (by decide) (by decide))).tr (FrS.cp (by decide) (by decide))).tr (FrS.cp (by decide) (by decide))).tr (FrS.cp (by decide) (by decide))).tr (FrS.cp (by decide) (by decide))
    have f2 : FrS j G1 G2 := (((FrS.si (by decide) (by decide)).tr (FrS.si (by decide) (by decide))).tr (FrS.si (by decide) (by decide)))
    have f3 : FrS j G2 G3 := (((((FrS.si (by decide) (by decide))).tr (FrS.si (by decide) (by decide))).tr (FrS.si (by decide) (by decide))).tr (FrS.si (by decide) (by decide))).tr (FrS.si (by decide) (by decide))
    exact (f1.tr f2).tr (f3.tr (FrS.si (by decide) (by decide)))
end Cy
/-- the rows of the reference: a whole array written by a loop -/
def sar (G : GS) (r : Rf) (f : Nat → Int32) : GS := (G.1, (fun q i => if q = r then f i else G.2.1 q i), G.2.2)
theorem ga_sar {G : GS} {r q : Rf} {f : Nat → Int32} {i : Nat} : ga (sar G r f) q i = if q = r then f i else ga G q i := rfl
theorem gi_sar {G : GS} {r q : Rf} {f : Nat → Int32} {i : Nat} : gi (sar G r f) q i = gi G q i := rfl
theorem sa_sar {G : GS} {r : Rf} {f : Nat → Int32} {i : Nat} {v : Int32} : sa (sar G r f) r i v = sar G r (upd f i v) := by
  unfold sa sar
  refine congrArg (fun z => (G.1, z, G.2.2)) ?_
  funext q k
  show (if q = r ∧ k = i then v else (if q = r then f k else G.2.1 q k)) = (if q = r then upd f i v k else G.2.1 q k)
  by_cases h : q = r
  · by_cases h2 : k = i
    · rw [if_pos ⟨h, h2⟩, if_pos h, h2, upd_eq]
    · rw [if_neg (fun z => h2 z.2), if_pos h, if_pos h, upd_ne h2]
  · rw [if_neg (fun z => h z.1), if_neg h, if_neg h]
theorem sar_id {G : GS} {r : Rf} : sar G r (ga G r) = G := by
  obtain ⟨g1, g2, g3⟩ := G
  unfold sar
  refine congrArg (fun z => (g1, z, g3)) ?_
  funext q k
  by_cases h : q = r
  · rw [if_pos h, h]; rfl
  · rw [if_neg h]
/-- places o .. o + n written with w -/
def blt (f w : Nat → Int32) (o n : Nat) : Nat → Int32 := fun i => if o ≤ i ∧ i < o + n then w (i - o) else f i
theorem blt_0 {f w : Nat → Int32} {o : Nat} : blt f w o 0 = f := by
  funext i
  unfold blt
  rw [if_neg (by omega)]
theorem blt_s {f w : Nat → Int32} {o n : Nat} : upd (blt f w o n) (o + n) (w n) = blt f w o (n + 1) := by
  funext i
  by_cases h : i = o + n
  · subst h
    rw [upd_eq]
    unfold blt
    rw [if_pos (by omega), Nat.add_sub_cancel_left]
  · rw [upd_ne h]
    unfold blt
    by_cases h2 : o ≤ i ∧ i < o + n
    · rw [if_pos h2, if_pos (by omega)]
    · rw [if_neg h2, if_neg (by omega)]
section Lp
variable {kk : Nat} {G : GS}
/-- a loop that writes 156 places of r with w -/
theorem loop_row {F : Nat → Int32 → GS → Res} {r : Rf} {w : Nat → Int32} {o : Nat} {G0 : GS} {R : Res} (hend : ∀ k, F (k + 1) (nI 156) (sar G0 r (blt (ga G0 r) w o 156)) = R)
    (hstep : ∀ k i, i < 156 → F (k + 1) (nI i) (sar G0 r (blt (ga G0 r) w o i)) = F k (nI (i + 1)) (sa (sar G0 r (blt (ga G0 r) w o i)) r (o + i) (w i))) : ∀ (n i k : Nat), i + n = 156 → n < k → F k (nI i) (sar G0 r (blt (ga G0 r) w o i)) = R
  | 0, i, k, hi, hk => by
    obtain ⟨k, rfl⟩ : ∃ j, k = j + 1 := ⟨k - 1, by omega⟩
    obtain rfl : i = 156 := by omega
    exact hend k
  | n + 1, i, k, hi, hk => by
    obtain ⟨k, rfl⟩ : ∃ j, k = j + 1 := ⟨k - 1, by omega⟩
    rw [hstep k i (by omega), sa_sar, blt_s]
    exact loop_row hend hstep n (i + 1) k (by omega) (by omega)
theorem sar_b0 {G : GS} {r : Rf} {w : Nat → Int32} {o : Nat} : sar G r (blt (ga G r) w o 0) = G := by rw [blt_0, sar_id]
theorem m_copies (hk : 200 ≤ kk) : D_Mo_copies kk G = okV (sar G (0, 54) (blt (ga G (0, 54)) (ga G (0, 51)) 0 156)) := by
  have h := loop_row (F := fun k i G => L_Mo_copies kk k i G) (r := (0, 54)) (w := ga G (0, 51)) (o := 0) (G0 := G) (R := okV (sar G (0, 54) (blt (ga G (0, 54)) (ga G (0, 51)) 0 156))) (fun _ => rfl)
    (fun k i hi => by
      refine (iF (nI_ge (b := 156) hi (by decide))).trans ?_
      refine (bT (in_of hi (by decide))).trans ?_
      refine (bT (in_of hi (by decide))).trans ?_
      rw [nI_clamp (by omega), nI_1, Nat.zero_add, ga_sar, if_neg (by decide)]) 156 0 kk rfl (by omega)
  rw [sar_b0] at h
  exact h
theorem m_goesBack (hk : 200 ≤ kk) : D_Mo_goesBack kk G = okV (sar G (0, 51) (blt (ga G (0, 51)) (ga G (0, 54)) 0 156)) := by
  have h := loop_row (F := fun k i G => L_Mo_goesBack kk k i G) (r := (0, 51)) (w := ga G (0, 54)) (o := 0) (G0 := G) (R := okV (sar G (0, 51) (blt (ga G (0, 51)) (ga G (0, 54)) 0 156))) (fun _ => rfl)
    (fun k i hi => by
      refine (iF (nI_ge (b := 156) hi (by decide))).trans ?_
      refine (bT (in_of hi (by decide))).trans ?_
      refine (bT (in_of hi (by decide))).trans ?_
      rw [nI_clamp (by omega), nI_1, Nat.zero_add, ga_sar, if_neg (by decide)]) 156 0 kk rfl (by omega)
  rw [sar_b0] at h
  exact h
end Lp
/-! WHAT CAN BE UNDONE -/
/-- the latest first -/
def XH (hs : List (Nat → Int32)) (G : GS) : Prop := gi G (0, 10) 2 = nI hs.length ∧ hs.length ≤ 8 ∧ ∃ nx, nx < 9 ∧ gi G (0, 10) 1 = nI nx ∧ ∀ i row, hs[i]? = some row → AX row (2 + (nx + 8 - i) % 9) G
def MH (hs : List (Nat → Int32)) (G : GS) : Prop := gi G (0, 50) 5 = nI hs.length ∧ hs.length ≤ 8 ∧ ∃ f, f < 8 ∧ gi G (0, 50) 6 = nI f ∧ ∀ i row, hs[i]? = some row → ∀ k, k < 156 → ga G (0, 52) (156 * ((f + hs.length + 7 - i) % 8) + k) = row k
def push (row : Nat → Int32) (hs : List (Nat → Int32)) : List (Nat → Int32) := row :: hs.take 7
theorem AX_fr {W : Nat → Int32} {j m : Nat} {G G' : GS} (h : AX W j G) (hf : FrS m G G') (hne : j ≠ m) : AX W j G' := by
  obtain ⟨a1, a2, a3, a4, a5, a6, a7⟩ := h
  have n : ∀ k : Nat, ¬ (((j, k) : Rf).1 = m ∧ 1 ≤ ((j, k) : Rf).2 ∧ ((j, k) : Rf).2 ≤ 9) := fun k z => hne z.1
  exact ⟨fun b hb => ((hf.1 _ (n 5)).2 b).trans (a1 b hb), fun k hk b hb p hp => ((hf.1 _ (n _)).2 _).trans (a2 k hk b hb p hp), ((hf.1 _ (n 3)).1 0).trans a3, ((hf.1 _ (n 3)).1 1).trans a4, ((hf.1 _ (n 3)).1 2).trans a5, ((hf.1 _ (n 1)).1 3).trans a6, fun k hk => ((hf.1 _ (n 4)).1 k).trans (a7 k hk)⟩
/-- .. or what is no State's has changed -/
theorem AX_eq {W : Nat → Int32} {j : Nat} {G G' : GS} (h : AX W j G) (h1 : ∀ k, 1 ≤ k → k ≤ 9 → (∀ f, gi G' (j, k) f = gi G (j, k) f) ∧ ∀ i, ga G' (j, k) i = ga G (j, k) i) : AX W j G' := by
  obtain ⟨a1, a2, a3, a4, a5, a6, a7⟩ := h
  refine ⟨fun b hb => ((h1 5 (by decide) (by decide)).2 b).trans (a1 b hb), fun k hk b hb p hp => ((h1 (6 + k) (by omega) (by omega)).2 _).trans (a2 k hk b hb p hp), ((h1 3 (by decide) (by decide)).1 0).trans a3, ((h1 3 (by decide) (by decide)).1 1).trans a4, ((h1 3 (by decide) (by decide)).1 2).trans a5, ((h1 1 (by decide) (by decide)).1 3).trans a6, fun k hk => ((h1 4 (by decide) (by decide)).1 k).trans (a7 k hk)⟩
section Hi
variable {kk : Nat} {G : GS} {W : Nat → Int32} {hs : List (Nat → Int32)}
def fmv9 (x : Int32) : Int32 := if x ^^^ 9 < 0 ∧ ¬ x - x / 9 * 9 = 0 then x - x / 9 * 9 + 9 else x - x / 9 * 9
theorem fm9_p : ∀ n, n < 9 → fmv9 (nI n + 1) = nI ((n + 1) % 9) := by decide +kernel
theorem fm9_m : ∀ n, n < 9 → fmv9 (nI n - 1) = nI ((n + 8) % 9) := by decide +kernel
theorem c_fmod9 {x : Int32} : D_fmod x 9 G = okI (fmv9 x) G := iF (by decide)
theorem c_place {n : Nat} (hn : n < 9) : D_History_placeAt kk (nI n) G = okR (n + 2, 1) G := by
  refine (iF (nI_pos (by omega))).trans ?_
  refine (iF (nI_ge (b := 9) hn (by decide))).trans ?_
  refine (bT (in_of hn (by decide))).trans ?_
  rw [nI_clamp (by omega)]
/-- the spare place takes the State's row -/
theorem c_draft {nx : Nat} (hn : nx < 9) (hx : gi G (0, 10) 1 = nI nx) (hA : AX W 0 G) (hV : VW W) (hH : HH W) : ∃ G', D_History_draft kk 0 G = okV G' ∧ AX W (nx + 2) G' ∧ FrS (nx + 2) G G' := by
  obtain ⟨G', g1, g2, g3⟩ := c_copy (kk := kk) (a := 0) (j := nx + 2) (by omega) hA hV hH
  refine ⟨G', ?_, g2, g3⟩
  unfold D_History_draft
  rw [hx]
  exact (rQ (c_place hn)).trans (rV g1)
theorem c_takeBack {nx : Nat} (hn : nx < 9) (hx : gi G (0, 10) 1 = nI nx) (hA : AX W (nx + 2) G) (hV : VW W) (hH : HH W) : ∃ G', D_History_takeDraftBack kk 0 G = okV G' ∧ AX W 0 G' ∧ FrS 0 G G' := by
  obtain ⟨G', g1, g2, g3⟩ := c_copy (kk := kk) (a := nx + 2) (j := 0) (by omega) hA hV hH
  refine ⟨G', ?_, g2, g3⟩
  unfold D_History_takeDraftBack
  rw [hx]
  exact (rQ (c_place hn)).trans (rV g1)
theorem min8 {n : Nat} (hn : n ≤ 8) : (if (8 : Int32) < nI n + 1 then (8 : Int32) else nI n + 1) = nI (min (n + 1) 8) := by
  rw [nI_1]
  rcases Nat.lt_or_ge 8 (n + 1) with h | h
  · rw [if_pos (show (8 : Int32) < nI (n + 1) from nI_lt (a := 8) h (by omega)), Nat.min_eq_right (by omega)]; rfl
  · rw [if_neg (show ¬ (8 : Int32) < nI (n + 1) from nI_nlt (a := 8) h (by decide)), Nat.min_eq_left (by omega)]
theorem c_keep {nx n : Nat} (hn : nx < 9) (h8 : n ≤ 8) (hx : gi G (0, 10) 1 = nI nx) (hc : gi G (0, 10) 2 = nI n) : D_History_keepDraft kk G = okV (si (si G (0, 10) 1 (nI ((nx + 1) % 9))) (0, 10) 2 (nI (min (n + 1) 8))) := by
  unfold D_History_keepDraft
  rw [hx]
  refine (rI c_fmod9).trans ?_
  rw [fm9_p nx hn]
  refine (rI (v := if (8 : Int32) < gi (si G (0, 10) 1 (nI ((nx + 1) % 9))) (0, 10) 2 + 1 then 8 else gi (si G (0, 10) 1 (nI ((nx + 1) % 9))) (0, 10) 2 + 1) (G := si G (0, 10) 1 (nI ((nx + 1) % 9))) rfl).trans ?_
  have e : gi (si G (0, 10) 1 (nI ((nx + 1) % 9))) (0, 10) 2 = nI n := by
    rw [gi_si, if_neg (fun z => by cases z.2)]
    exact hc
  rw [e, min8 h8]
theorem push_len : (push W hs).length = min (hs.length + 1) 8 := by
  unfold push
  rw [List.length_cons, List.length_take]
  omega
theorem push_at {i : Nat} {row : Nat → Int32} (h : (push W hs)[i]? = some row) : (i = 0 ∧ row = W) ∨ ∃ j, i = j + 1 ∧ j < 7 ∧ hs[j]? = some row := by
  unfold push at h
  cases i with
  | zero => left; exact ⟨rfl, by cases h; rfl⟩
  | succ j =>
    right
    rw [List.getElem?_cons_succ, List.getElem?_take] at h
    by_cases q : j < 7
    · rw [if_pos q] at h; exact ⟨j, rfl, q, h⟩
    · rw [if_neg q] at h; cases h
/-- the draft is kept -/
theorem XH_keep {nx : Nat} (hn : nx < 9) (hx : gi G (0, 10) 1 = nI nx) (h : gi G (0, 10) 2 = nI hs.length) (h8 : hs.length ≤ 8) (hr : ∀ i row, hs[i]? = some row → AX row (2 + (nx + 8 - i) % 9) G) (hA : AX W (nx + 2) G) : ∃ G', D_History_keepDraft kk G = okV G' ∧ XH (push W hs) G' ∧ (∀ r f, r ≠ (0, 10) → gi G' r f = gi G r f) ∧ (∀ r i, ga G' r i = ga G r i) ∧ G'.2.2 = G.2.2 ∧ gi G' (0, 10) 0 = gi G (0, 10) 0 := by
  have eqs : ∀ r f, r ≠ (0, 10) → gi (si (si G (0, 10) 1 (nI ((nx + 1) % 9))) (0, 10) 2 (nI (min (hs.length + 1) 8))) r f = gi G r f := fun r f hne => by rw [gi_si, if_neg (fun z => hne z.1), gi_si, if_neg (fun z => hne z.1)]
  refine ⟨_, c_keep hn h8 hx h, ⟨?_, by rw [push_len]; omega, (nx + 1) % 9, Nat.mod_lt _ (by decide), ?_, fun i row hi => ?_⟩, eqs, fun r i => rfl, rfl, ?_⟩
  · rw [push_len, gi_si, if_pos ⟨rfl, rfl⟩]
  · rw [gi_si, if_neg (fun z => by cases z.2), gi_si, if_pos ⟨rfl, rfl⟩]
  · have base : ∀ j row, AX row j G → AX row j (si (si G (0, 10) 1 (nI ((nx + 1) % 9))) (0, 10) 2 (nI (min (hs.length + 1) 8))) := fun j row hA => AX_eq hA (fun k h1 h2 => ⟨fun f => eqs _ _ (fun z => by have := congrArg Prod.snd z; simp at this; omega), fun i => rfl⟩)
    rcases push_at hi with ⟨rfl, rfl⟩ | ⟨j, rfl, hj, hrow⟩
    · refine base _ _ ?_
      rw [show 2 + ((nx + 1) % 9 + 8 - 0) % 9 = nx + 2 by omega]
      exact hA
    · refine base _ _ ?_
      rw [show 2 + ((nx + 1) % 9 + 8 - (j + 1)) % 9 = 2 + (nx + 8 - j) % 9 by omega]
      exact hr j row hrow
  · rw [gi_si, if_neg (fun z => by cases z.2), gi_si, if_neg (fun z => by cases z.2)]
/-- the latest change is undone -/
theorem c_undo {row : Nat → Int32} (h : XH (row :: hs) G) (hV : VW row) (hH : HH row) : ∃ G', D_History_takeLatestBack kk 0 G = okV G' ∧ XH hs G' ∧ AX row 0 G' ∧ (∀ r : Rf, r ≠ (0, 10) → ¬ (r.1 = 0 ∧ 1 ≤ r.2 ∧ r.2 ≤ 9) → (∀ f, gi G' r f = gi G r f) ∧ ∀ i, ga G' r i = ga G r i) ∧ (∀ i, ga G' (0, 10) i = ga G (0, 10) i) ∧ G'.2.2 = G.2.2 := by
  obtain ⟨h1, h8, nx, hn, hx, hr⟩ := h
  rw [List.length_cons] at h1 h8
  let G1 := si (si G (0, 10) 1 (nI ((nx + 8) % 9))) (0, 10) 2 (nI hs.length)
  have eqs : ∀ r f, r ≠ (0, 10) → gi G1 r f = gi G r f := fun r f hne => by
    show gi (si (si G (0, 10) 1 (nI ((nx + 8) % 9))) (0, 10) 2 (nI hs.length)) r f = _
    rw [gi_si, if_neg (fun z => hne z.1), gi_si, if_neg (fun z => hne z.1)]
  have base : ∀ j row, AX row j G → AX row j G1 := fun j row hA => AX_eq hA (fun k h1 h2 => ⟨fun f => eqs _ _ (fun z => by have := congrArg Prod.snd z; simp at this; omega), fun i => rfl⟩)
  have hA1 : AX row ((nx + 8) % 9 + 2) G1 := by
    have := base _ _ (hr 0 row rfl)
    rw [show 2 + (nx + 8 - 0) % 9 = (nx + 8) % 9 + 2 by omega] at this
    exact this
  have x1 : gi G1 (0, 10) 1 = nI ((nx + 8) % 9) := by
    show gi (si (si G (0, 10) 1 (nI ((nx + 8) % 9))) (0, 10) 2 (nI hs.length)) (0, 10) 1 = _
    rw [gi_si, if_neg (fun z => by cases z.2), gi_si, if_pos ⟨rfl, rfl⟩]
  have x2 : gi G1 (0, 10) 2 = nI hs.length := by
    show gi (si (si G (0, 10) 1 (nI ((nx + 8) % 9))) (0, 10) 2 (nI hs.length)) (0, 10) 2 = _
    rw [gi_si, if_pos ⟨rfl, rfl⟩]
  obtain ⟨G', g1, g2, g3⟩ := c_takeBack (kk := kk) (Nat.mod_lt _ (by decide)) x1 hA1 hV hH
  have n10 : ¬ (((0, 10) : Rf).1 = 0 ∧ 1 ≤ ((0, 10) : Rf).2 ∧ ((0, 10) : Rf).2 ≤ 9) := fun z => absurd z.2.2 (by decide)
  refine ⟨G', ?_, ⟨((g3.1 _ n10).1 2).trans x2, by omega, (nx + 8) % 9, Nat.mod_lt _ (by decide), ((g3.1 _ n10).1 1).trans x1, fun i row' hi => ?_⟩, g2, fun r hr1 hr2 => ⟨fun f => ((g3.1 r hr2).1 f).trans (eqs r f hr1), fun i => (g3.1 r hr2).2 i⟩, fun i => (g3.1 _ n10).2 i, g3.2⟩
  · unfold D_History_takeLatestBack
    rw [hx]
    refine (rI c_fmod9).trans ?_
    rw [fm9_m nx hn, gi_si, if_neg (fun z => by cases z.2), h1, show nI (hs.length + 1) - (1 : Int32) = nI hs.length from nI_pred _]
    exact rV g1
  · refine AX_fr ?_ g3 (by omega)
    have hl : i < hs.length := (List.getElem?_eq_some_iff.mp hi).1
    have := base _ _ (hr (i + 1) row' (by rw [List.getElem?_cons_succ]; exact hi))
    rw [show 2 + (nx + 8 - (i + 1)) % 9 = 2 + ((nx + 8) % 9 + 8 - i) % 9 by omega] at this
    exact this
end Hi
section Mh
variable {kk : Nat} {G : GS} {W : Nat → Int32} {hs : List (Nat → Int32)}
theorem m_keepsL (hk : 200 ≤ kk) {to : Nat} (ht : to < 8) : (L_Mo_keeps kk kk) (nI to) 0 G = okV (si (sar G (0, 52) (blt (ga G (0, 52)) (ga G (0, 54)) (156 * to) 156)) (0, 50) 5 (gi G (0, 50) 5 + 1)) := by
  have e0 : (156 : Int32) * nI to = nI (156 * to) := pk_mul 156 to
  have h := loop_row (F := fun k i G => L_Mo_keeps kk k (nI to) i G) (r := (0, 52)) (w := ga G (0, 54)) (o := 156 * to) (G0 := G) (R := okV (si (sar G (0, 52) (blt (ga G (0, 52)) (ga G (0, 54)) (156 * to) 156)) (0, 50) 5 (gi G (0, 50) 5 + 1))) (fun _ => rfl)
    (fun k i hi => by
      refine (iF (nI_ge (b := 156) hi (by decide))).trans ?_
      refine (bT (in_of hi (by decide))).trans ?_
      rw [e0, nI_add]
      refine (bT (in_of (by omega) (by decide))).trans ?_
      rw [nI_clamp (by omega), nI_clamp (by omega), nI_1, ga_sar, if_neg (by decide)]) 156 0 kk rfl (by omega)
  rw [sar_b0] at h
  exact h
theorem blt_in {f w : Nat → Int32} {o n i : Nat} (h : i < n) : blt f w o n (o + i) = w i := by
  unfold blt
  rw [if_pos (by omega), Nat.add_sub_cancel_left]
theorem blt_out {f w : Nat → Int32} {o n i : Nat} (h : i < o ∨ o + n ≤ i) : blt f w o n i = f i := by
  unfold blt
  rw [if_neg (by omega)]
/-- what keeps and copies write -/
def FrK (G G' : GS) : Prop := (∀ r f, ¬ (r = (0, 50) ∧ (f = 5 ∨ f = 6)) → gi G' r f = gi G r f) ∧ (∀ r : Rf, r ≠ (0, 52) → r ≠ (0, 54) → ∀ i, ga G' r i = ga G r i) ∧ G'.2.2 = G.2.2
theorem m_keeps (hk : 200 ≤ kk) (h : MH hs G) (hB : ∀ k, k < 156 → ga G (0, 54) k = W k) : ∃ G', D_Mo_keeps kk G = okV G' ∧ MH (push W hs) G' ∧ FrK G G' := by
  obtain ⟨h1, h8, f, hf, hf2, hr⟩ := h
  have key : ∀ (G1 : GS) (c f' : Nat), c < 8 → f' < 8 → gi G1 (0, 50) 5 = nI c → gi G1 (0, 50) 6 = nI f' → (∀ k, k < 156 → ga G1 (0, 54) k = W k) → c = min hs.length 7 → (∀ i row, i < 7 → hs[i]? = some row → ∀ k, k < 156 → ga G1 (0, 52) (156 * ((f' + c + 7 - i) % 8) + k) = row k) →
      MH (push W hs) (si (sar G1 (0, 52) (blt (ga G1 (0, 52)) (ga G1 (0, 54)) (156 * ((f' + c) % 8)) 156)) (0, 50) 5 (gi G1 (0, 50) 5 + 1)) := by
    intro G1 c f' hc hf' e5 e6 hB1 hcl hr1
    have hl : (push W hs).length = c + 1 := by rw [push_len]; omega
    refine ⟨?_, by omega, f', hf', ?_, fun i row hi k hk => ?_⟩
    · rw [hl, gi_si, if_pos ⟨rfl, rfl⟩, e5]; exact nI_1 _
    · rw [gi_si, if_neg (fun z => by cases z.2)]; exact e6
    · rw [hl, ga_si, ga_sar, if_pos rfl]
      have hil : i < c + 1 := by rw [← hl]; exact (List.getElem?_eq_some_iff.mp hi).1
      rcases push_at hi with ⟨rfl, rfl⟩ | ⟨j, rfl, hj, hrow⟩
      · rw [show (f' + (c + 1) + 7 - 0) % 8 = (f' + c) % 8 by omega, blt_in hk]
        exact hB1 k hk
      · have hlt : (f' + (c + 1) + 7 - (j + 1)) % 8 = (f' + c + 7 - j) % 8 := by omega
        have hne : (f' + c + 7 - j) % 8 ≠ (f' + c) % 8 := by omega
        rw [hlt, blt_out (by omega)]
        exact hr1 j row hj hrow k hk
  by_cases hc : hs.length = 8
  · have e7 : (nI f + (1 : Int32)) - (nI f + (1 : Int32)) / (8 : Int32) * (8 : Int32) = nI ((f + 1) % 8) := by
      rw [nI_1]; exact pk_rem (d := 8) (by omega) (by decide) (by decide)
    let G1 := si (si G (0, 50) 6 (nI ((f + 1) % 8))) (0, 50) 5 (nI 7)
    have g5 : gi G1 (0, 50) 5 = nI 7 := by
      show gi (si (si G (0, 50) 6 (nI ((f + 1) % 8))) (0, 50) 5 (nI 7)) (0, 50) 5 = _
      rw [gi_si, if_pos ⟨rfl, rfl⟩]
    have g6 : gi G1 (0, 50) 6 = nI ((f + 1) % 8) := by
      show gi (si (si G (0, 50) 6 (nI ((f + 1) % 8))) (0, 50) 5 (nI 7)) (0, 50) 6 = _
      rw [gi_si, if_neg (fun z => by cases z.2), gi_si, if_pos ⟨rfl, rfl⟩]
    have m5 : gi (si G (0, 50) 6 (nI ((f + 1) % 8))) (0, 50) 5 = nI 8 := by rw [gi_si, if_neg (fun z => by cases z.2), h1, hc]
    refine ⟨_, ?_, key G1 7 ((f + 1) % 8) (by decide) (Nat.mod_lt _ (by decide)) g5 g6 (fun k hk => hB k hk) (by omega) (fun i row hi hrow k hk => ?_), ?_⟩
    · unfold D_Mo_keeps
      rw [h1, hc]
      refine (iT rfl).trans ?_
      rw [hf2, e7, m5]
      show (L_Mo_keeps kk kk) ((gi G1 (0, 50) 6 + gi G1 (0, 50) 5) - (gi G1 (0, 50) 6 + gi G1 (0, 50) 5) / (8 : Int32) * (8 : Int32)) 0 G1 = _
      rw [g5, g6, nI_add, show nI ((f + 1) % 8 + 7) - nI ((f + 1) % 8 + 7) / (8 : Int32) * (8 : Int32) = nI (((f + 1) % 8 + 7) % 8) from pk_rem (d := 8) (by omega) (by decide) (by decide)]
      rw [m_keepsL hk (Nat.mod_lt _ (by decide)), g5]
    · have := hr i row hrow k hk
      rw [hc] at this
      rw [show ((f + 1) % 8 + 7 + 7 - i) % 8 = (f + 8 + 7 - i) % 8 by omega]
      exact this
    · refine ⟨fun r f' hne => ?_, fun r n1 n2 i => ?_, rfl⟩
      · rw [gi_si, if_neg (fun z => hne ⟨z.1, Or.inl z.2⟩)]
        show gi (si (si G (0, 50) 6 (nI ((f + 1) % 8))) (0, 50) 5 (nI 7)) r f' = _
        rw [gi_si, if_neg (fun z => hne ⟨z.1, Or.inl z.2⟩), gi_si, if_neg (fun z => hne ⟨z.1, Or.inr z.2⟩)]
      · rw [ga_si, ga_sar, if_neg n1]; rfl
  · refine ⟨_, ?_, key G hs.length f (by omega) hf h1 hf2 hB (by omega) (fun i row hi hrow k hk => hr i row hrow k hk), ?_⟩
    · unfold D_Mo_keeps
      refine (iF (fun z => hc ((nI_eq (b := 8) (by omega) (by decide)).mp (h1.symm.trans z)))).trans ?_
      rw [hf2, h1, nI_add, show nI (f + hs.length) - nI (f + hs.length) / (8 : Int32) * (8 : Int32) = nI ((f + hs.length) % 8) from pk_rem (d := 8) (by omega) (by decide) (by decide)]
      rw [m_keepsL hk (Nat.mod_lt _ (by decide)), h1]
    · refine ⟨fun r f' hne => ?_, fun r n1 n2 i => ?_, rfl⟩
      · rw [gi_si, if_neg (fun z => hne ⟨z.1, Or.inl z.2⟩)]; rfl
      · rw [ga_si, ga_sar, if_neg n1]
end Mh
/-! THE TWO SIDES, AND A CHANGE -/
def XS (sv : Option (Nat → Int32)) (G : GS) : Prop := gi G (0, 0) 3 = (if sv.isSome = true then 1 else 0) ∧ ∀ row, sv = some row → AX row 1 G
def XT (n : Nat) (T : Nat → Int32) (G : GS) : Prop := gi G (0, 12) 3 = nI n ∧ ∀ i, i < n → ga G (0, 13) i = T i
def XE (e f : Int32) (G : GS) : Prop := gi G (0, 0) 5 = e ∧ gi G (0, 0) 6 = f
def XL (out : List Int32) (G : GS) : Prop := gn G = out.length ∧ ∀ i, i < out.length → gt G i = out.getD i 0
def MS (sv : Option (Nat → Int32)) (G : GS) : Prop := gi G (0, 50) 7 = (if sv.isSome = true then 1 else 0) ∧ ∀ row, sv = some row → ∀ k, k < 156 → ga G (0, 53) k = row k
def MT (n : Nat) (T : Nat → Int32) (G : GS) : Prop := gi G (0, 50) 11 = nI n ∧ ∀ i, i < n → ga G (0, 56) i = T i
def ME (e f : Int32) (G : GS) : Prop := gi G (0, 50) 13 = e ∧ gi G (0, 50) 14 = f
def ML (out : List Int32) (G : GS) : Prop := gi G (0, 50) 9 = nI out.length ∧ ∀ i, i < out.length → ga G (0, 55) i = out.getD i 0
/-- operations so far, the row, what can be undone, the snapshot, the script, the error's places, the text -/
abbrev SS : Type := Nat × (Nat → Int32) × List (Nat → Int32) × Option (Nat → Int32) × (Nat × (Nat → Int32)) × (Int32 × Int32) × List Int32
def sN (S : SS) : Nat := S.1
def sW (S : SS) : Nat → Int32 := S.2.1
def sH (S : SS) : List (Nat → Int32) := S.2.2.1
def sV (S : SS) : Option (Nat → Int32) := S.2.2.2.1
def sn (S : SS) : Nat := S.2.2.2.2.1.1
def sT (S : SS) : Nat → Int32 := S.2.2.2.2.1.2
def sE (S : SS) : Int32 := S.2.2.2.2.2.1.1
def sF (S : SS) : Int32 := S.2.2.2.2.2.1.2
def sO (S : SS) : List Int32 := S.2.2.2.2.2.2
def SW (t : Nat) (S : SS) : Prop := sN S + sn S ≤ t ∧ WF (sN S) (sW S) ∧ (∀ row ∈ sH S, WF (sN S) row) ∧ (∀ row, sV S = some row → WF (sN S) row) ∧ sn S ≤ 60 ∧ (∀ i, i < sn S → ∃ c, 32 ≤ c ∧ c ≤ 126 ∧ sT S i = nI c) ∧
  (sE S = -1 ∨ ∃ q, q ≤ 60 ∧ sE S = nI q) ∧ (sF S = -1 ∨ ∃ q, q ≤ 60 ∧ sF S = nI q) ∧ (sO S).length ≤ 60 ∧ ∀ i, i < (sO S).length → ∃ c, c < 128 ∧ (sO S).getD i 0 = nI c
def RXr (S : SS) (G : GS) : Prop := XS (sV S) G ∧ XT (sn S) (sT S) G ∧ XE (sE S) (sF S) G ∧ XL (sO S) G
def RMr (S : SS) (G : GS) : Prop := MS (sV S) G ∧ MT (sn S) (sT S) G ∧ ME (sE S) (sF S) G ∧ ML (sO S) G
def RelX (S : SS) (G : GS) : Prop := AX (sW S) 0 G ∧ XH (sH S) G ∧ RXr S G
def RelM (S : SS) (G : GS) : Prop := AM (sW S) G ∧ MH (sH S) G ∧ RMr S G
/-- only the class's side has changed; only the reference's -/
def FrX (G G' : GS) : Prop := ∀ r : Rf, 50 ≤ r.2 → (∀ f, gi G' r f = gi G r f) ∧ ∀ i, ga G' r i = ga G r i
def FrO (G G' : GS) : Prop := (∀ r : Rf, r.2 < 50 → (∀ f, gi G' r f = gi G r f) ∧ ∀ i, ga G' r i = ga G r i) ∧ G'.2.2 = G.2.2
theorem FrX.rf {G : GS} : FrX G G := fun _ _ => ⟨fun _ => rfl, fun _ => rfl⟩
theorem FrO.rf {G : GS} : FrO G G := ⟨fun _ _ => ⟨fun _ => rfl, fun _ => rfl⟩, rfl⟩
theorem FrX.tr {G G1 G2 : GS} (h : FrX G G1) (g : FrX G1 G2) : FrX G G2 := fun r hr => ⟨fun f => ((g r hr).1 f).trans ((h r hr).1 f), fun i => ((g r hr).2 i).trans ((h r hr).2 i)⟩
theorem FrO.tr {G G1 G2 : GS} (h : FrO G G1) (g : FrO G1 G2) : FrO G G2 := ⟨fun r hr => ⟨fun f => ((g.1 r hr).1 f).trans ((h.1 r hr).1 f), fun i => ((g.1 r hr).2 i).trans ((h.1 r hr).2 i)⟩, g.2.trans h.2⟩
section Fr
variable {G G' : GS} {S : SS}
theorem RelM_fr (h : RelM S G) (hf : FrX G G') : RelM S G' := by
  obtain ⟨h1, ⟨a1, a2, f, a3, a4, a5⟩, ⟨b1, b2⟩, ⟨c1, c2⟩, ⟨d1, d2⟩, e1, e2⟩ := h
  have q := hf (0, 50) (by decide)
  have q1 := (hf (0, 51) (by decide)).2
  have q2 := (hf (0, 52) (by decide)).2
  have q3 := (hf (0, 53) (by decide)).2
  have q5 := (hf (0, 55) (by decide)).2
  have q6 := (hf (0, 56) (by decide)).2
  exact ⟨fun k hk => (q1 k).trans (h1 k hk), ⟨(q.1 5).trans a1, a2, f, a3, (q.1 6).trans a4, fun i row hi k hk => (q2 _).trans (a5 i row hi k hk)⟩, ⟨(q.1 7).trans b1, fun row hr k hk => (q3 k).trans (b2 row hr k hk)⟩, ⟨(q.1 11).trans c1, fun i hi => (q6 i).trans (c2 i hi)⟩, ⟨(q.1 13).trans d1, (q.1 14).trans d2⟩, (q.1 9).trans e1, fun i hi => (q5 i).trans (e2 i hi)⟩
theorem RXr_of (h : RXr S G) (h1 : ∀ r : Rf, (r = (0, 0) ∨ r = (0, 12) ∨ r = (0, 13) ∨ (r.1 = 1 ∧ 1 ≤ r.2 ∧ r.2 ≤ 9)) → (∀ f, gi G' r f = gi G r f) ∧ ∀ i, ga G' r i = ga G r i) (h2 : G'.2.2.1 = G.2.2.1) : RXr S G' := by
  obtain ⟨⟨b1, b2⟩, ⟨c1, c2⟩, ⟨d1, d2⟩, e1, e2⟩ := h
  have q0 := (h1 (0, 0) (Or.inl rfl)).1
  have q2 := (h1 (0, 12) (Or.inr (Or.inl rfl))).1
  have q3 := (h1 (0, 13) (Or.inr (Or.inr (Or.inl rfl)))).2
  refine ⟨⟨(q0 3).trans b1, fun row hr => AX_eq (b2 row hr) (fun k k1 k9 => h1 (1, k) (Or.inr (Or.inr (Or.inr ⟨rfl, k1, k9⟩))))⟩, ⟨(q2 3).trans c1, fun i hi => (q3 i).trans (c2 i hi)⟩, ⟨(q0 5).trans d1, (q0 6).trans d2⟩, ?_, fun i hi => ?_⟩
  · unfold gn; rw [h2]; exact e1
  · unfold gt; rw [h2]; exact e2 i hi
theorem RXr_S {j : Nat} (h : RXr S G) (hf : FrS j G G') (hj : j ≠ 1) : RXr S G' := by
  refine RXr_of h (fun r hr => hf.1 r (fun z => ?_)) (congrArg Prod.fst hf.2)
  rcases hr with rfl | rfl | rfl | hr
  · exact absurd z.2.1 (by decide)
  · exact absurd z.2.2 (by decide)
  · exact absurd z.2.2 (by decide)
  · exact hj (z.1.symm.trans hr.1)
theorem XH_S {j : Nat} {hs : List (Nat → Int32)} (h : XH hs G) (hf : FrS j G G') (hj : j < 2) : XH hs G' := by
  obtain ⟨h1, h8, nx, hn, hx, hr⟩ := h
  have n10 : ¬ (((0, 10) : Rf).1 = j ∧ 1 ≤ ((0, 10) : Rf).2 ∧ ((0, 10) : Rf).2 ≤ 9) := fun z => absurd z.2.2 (by decide)
  exact ⟨((hf.1 _ n10).1 2).trans h1, h8, nx, hn, ((hf.1 _ n10).1 1).trans hx, fun i row hi => AX_fr (hr i row hi) hf (by omega)⟩
theorem RelX_fr (h : RelX S G) (hf : FrO G G') : RelX S G' := by
  obtain ⟨h1, ⟨a1, a2, nx, a3, a4, a5⟩, hr⟩ := h
  have q := hf.1 (0, 10) (by decide)
  exact ⟨AX_eq h1 (fun k _ k9 => hf.1 (0, k) (by show k < 50; omega)), ⟨(q.1 2).trans a1, a2, nx, a3, (q.1 1).trans a4, fun i row hi => AX_eq (a5 i row hi) (fun k _ k9 => hf.1 _ (by show k < 50; omega))⟩, RXr_of hr (fun r hr => hf.1 r (by rcases hr with rfl | rfl | rfl | hr <;> first | decide | omega)) (congrArg Prod.fst hf.2)⟩
theorem FrX_S {j : Nat} (hf : FrS j G G') : FrX G G' := fun r hr => hf.1 r (fun z => by omega)
theorem FrO_M (hf : FrM G G') : FrO G G' := ⟨fun r hr => ⟨fun f => hf.1 r f, fun i => hf.2.1 r (fun z => by subst z; exact absurd hr (by decide)) i⟩, hf.2.2⟩
theorem FrO_K (hf : FrK G G') : FrO G G' := ⟨fun r hr => ⟨fun f => hf.1 r f (fun z => by rw [z.1] at hr; exact absurd hr (by decide)), fun i => hf.2.1 r (fun z => by subst z; exact absurd hr (by decide)) (fun z => by subst z; exact absurd hr (by decide)) i⟩, hf.2.2⟩
/-- the reference's rest, where only the row and what keeps writes have changed -/
theorem RMr_M (h : RMr S G) (hf : FrM G G') : RMr S G' := by
  obtain ⟨⟨b1, b2⟩, ⟨c1, c2⟩, ⟨d1, d2⟩, e1, e2⟩ := h
  exact ⟨⟨(hf.1 _ _).trans b1, fun row hr k hk => (hf.2.1 _ (by decide) k).trans (b2 row hr k hk)⟩, ⟨(hf.1 _ _).trans c1, fun i hi => (hf.2.1 _ (by decide) i).trans (c2 i hi)⟩, ⟨(hf.1 _ _).trans d1, (hf.1 _ _).trans d2⟩, (hf.1 _ _).trans e1, fun i hi => (hf.2.1 _ (by decide) i).trans (e2 i hi)⟩
theorem MH_M {hs : List (Nat → Int32)} (h : MH hs G) (hf : FrM G G') : MH hs G' := by
  obtain ⟨a1, a2, f, a3, a4, a5⟩ := h
  exact ⟨(hf.1 _ _).trans a1, a2, f, a3, (hf.1 _ _).trans a4, fun i row hi k hk => (hf.2.1 _ (by decide) _).trans (a5 i row hi k hk)⟩
theorem RMr_K (h : RMr S G) (hf : FrK G G') : RMr S G' := by
  obtain ⟨⟨b1, b2⟩, ⟨c1, c2⟩, ⟨d1, d2⟩, e1, e2⟩ := h
  have n : ∀ f, f ≠ 5 → f ≠ 6 → gi G' (0, 50) f = gi G (0, 50) f := fun f h5 h6 => hf.1 _ _ (fun z => z.2.elim h5 h6)
  exact ⟨⟨(n 7 (by decide) (by decide)).trans b1, fun row hr k hk => (hf.2.1 _ (by decide) (by decide) k).trans (b2 row hr k hk)⟩, ⟨(n 11 (by decide) (by decide)).trans c1, fun i hi => (hf.2.1 _ (by decide) (by decide) i).trans (c2 i hi)⟩, ⟨(n 13 (by decide) (by decide)).trans d1, (n 14 (by decide) (by decide)).trans d2⟩, (n 9 (by decide) (by decide)).trans e1, fun i hi => (hf.2.1 _ (by decide) (by decide) i).trans (e2 i hi)⟩
end Fr
section Chg
variable {kk : Nat} {G : GS} {S : SS} {t : Nat}
/-- behind a change -/
def sChg (S : SS) (W' : Nat → Int32) : SS := (sN S + 1, W', push (sW S) (sH S), S.2.2.2)
theorem c_throw {c : Nat} (hc : c < 6) (h0 : c ≠ 0) : D_PB_throwFault kk (nI c) G = exc c G := by
  match c, hc, h0 with
  | 1, _, _ => exact iT rfl
  | 2, _, _ => exact (iF (by decide)).trans (iT rfl)
  | 3, _, _ => exact (iF (by decide)).trans ((iF (by decide)).trans (iT rfl))
  | 4, _, _ => exact (iF (by decide)).trans ((iF (by decide)).trans ((iF (by decide)).trans (iT rfl)))
  | 5, _, _ => exact (iF (by decide)).trans ((iF (by decide)).trans ((iF (by decide)).trans ((iF (by decide)).trans (iT rfl))))
theorem c_nothrow : D_PB_throwFault kk (nI 0) G = okV G := (iF (by decide)).trans ((iF (by decide)).trans ((iF (by decide)).trans ((iF (by decide)).trans (iF (by decide)))))
theorem fC_lt {W : Nat → Int32} {c : Nat} {a1 a2 a3 : Int32} : fC W c a1 a2 a3 < 6 := by
  unfold fC fLoad fUnload fShift fSail fLimit fDrill
  repeat' split
  all_goals decide
theorem c_changeX (hS : SW t S) (hX : RelX S G) (hk : 40 ≤ kk) {c : Nat} (hc : c < 7) (a1 a2 a3 : Int32) (hf : fC (sW S) c a1 a2 a3 ≠ 0) : D_PB_change kk (nI c) a1 a2 a3 G = exc (fC (sW S) c a1 a2 a3) G := by
  refine (rI (c_faultOf hS.2.1.1 hX.1 hS.2.1.lim0 hk hc a1 a2 a3)).trans ?_
  exact rVx (c_throw fC_lt hf)
theorem c_change (hS : SW t S) (hX : RelX S G) (hk : 40 ≤ kk) {c : Nat} (hc : c < 7) {a1 a2 a3 : Int32} (hf : fC (sW S) c a1 a2 a3 = 0) : ∃ G', D_PB_change kk (nI c) a1 a2 a3 G = okI (rC (sW S) c a1 a2) G' ∧ RelX (sChg S (opC (sW S) c a1 a2 a3)) G' ∧ FrX G G' := by
  obtain ⟨hA, ⟨h1, h8, nx, hn, hx, hr⟩, hR⟩ := hX
  obtain ⟨hH, hV⟩ := (⟨hS.2.1.1, hS.2.1.2.1⟩ : HH (sW S) ∧ VW (sW S))
  obtain ⟨G1, g1, g2, g3⟩ := c_draft (kk := kk) hn hx hA hV hH
  have n10 : ¬ (((0, 10) : Rf).1 = nx + 2 ∧ 1 ≤ ((0, 10) : Rf).2 ∧ ((0, 10) : Rf).2 ≤ 9) := fun z => absurd z.2.2 (by decide)
  have hr1 : ∀ i row, i < 8 → (sH S)[i]? = some row → AX row (2 + (nx + 8 - i) % 9) G1 := fun i row hi hrow => AX_fr (hr i row hrow) g3 (by omega)
  obtain ⟨G2, k1, k2, k3, k4, k5, k6⟩ := XH_keep (kk := kk) (W := sW S) (hs := sH S) hn (((g3.1 _ n10).1 1).trans hx) (((g3.1 _ n10).1 2).trans h1) h8 (fun i row hi => hr1 i row (by have := (List.getElem?_eq_some_iff.mp hi).1; omega) hi) g2
  have hA2 : AX (sW S) 0 G2 := AX_eq (AX_fr hA g3 (by omega)) (fun k h1 h9 => ⟨fun f => k3 _ _ (fun z => by have := congrArg Prod.snd z; simp at this; omega), fun i => k4 _ _⟩)
  have hR2 : RXr S G2 := RXr_of (RXr_S hR g3 (by omega)) (fun r hr => ⟨fun f => k3 _ _ (fun z => by subst z; rcases hr with hr | hr | hr | hr <;> first | (cases hr; done) | exact absurd hr.2.2 (by decide)), fun i => k4 _ _⟩) (congrArg Prod.fst k5)
  obtain ⟨G3, p1, p2, p3⟩ := c_perform (kk := kk) hH hA2 hV hS.2.1.lim0 hk hc hf
  refine ⟨G3, ?_, ⟨p2, XH_S k2 p3 (by decide), RXr_S hR2 p3 (by decide)⟩, ((FrX_S g3).tr (fun r hr => ⟨fun f => k3 r f (fun z => by subst z; exact absurd hr (by decide)), fun i => k4 r i⟩)).tr (FrX_S p3)⟩
  refine (rI (c_faultOf hH hA hS.2.1.lim0 hk hc a1 a2 a3)).trans ?_
  rw [hf]
  refine (rV c_nothrow).trans ?_
  refine (rV g1).trans ?_
  refine (rV k1).trans ?_
  exact rI p1
/-- the reference's: what is remembered -/
theorem m_remembers (hM : RelM S G) (hk : 200 ≤ kk) : ∃ G', D_Mo_remembers kk G = okV G' ∧ AM (sW S) G' ∧ MH (push (sW S) (sH S)) G' ∧ RMr S G' ∧ FrO G G' ∧ gi G' (0, 50) 0 = gi G (0, 50) 0 := by
  obtain ⟨h1, h2, h3⟩ := hM
  have fk : FrK G (sar G (0, 54) (blt (ga G (0, 54)) (ga G (0, 51)) 0 156)) := ⟨fun r f _ => rfl, fun r _ n i => by rw [ga_sar, if_neg n], rfl⟩
  have h2' : MH (sH S) (sar G (0, 54) (blt (ga G (0, 54)) (ga G (0, 51)) 0 156)) := by
    obtain ⟨a1, a2, f, a3, a4, a5⟩ := h2
    exact ⟨a1, a2, f, a3, a4, fun i row hi k hk => by rw [ga_sar, if_neg (by decide)]; exact a5 i row hi k hk⟩
  obtain ⟨G', g1, g2, g3⟩ := m_keeps (kk := kk) (W := sW S) hk h2' (fun k hk => by
    rw [ga_sar, if_pos rfl]
    have := blt_in (f := ga G (0, 54)) (w := ga G (0, 51)) (o := 0) hk
    rw [Nat.zero_add] at this
    rw [this]; exact h1 k hk)
  refine ⟨G', ?_, fun k hk => ?_, g2, RMr_K (RMr_K h3 fk) g3, (FrO_K fk).tr (FrO_K g3), ?_⟩
  · exact (rV (m_copies hk)).trans (rV g1)
  · rw [g3.2.1 _ (by decide) (by decide), ga_sar, if_neg (by decide)]; exact h1 k hk
  · rw [g3.1 _ _ (fun z => z.2.elim (fun y => by cases y) (fun y => by cases y))]; rfl
end Chg
/-! THE SEVEN CHANGES -/
def Rel (t : Nat) (G : GS) : Prop := ∃ S, SW t S ∧ RelX S G ∧ RelM S G
/-- a call that may throw; one that doesn't -/
def EQI (t : Nat) (L : Res) (M : GS → Res) : Prop := ∃ (k : Int32) (G1 : GS) (b : Int32) (G2 : GS), L = okI k G1 ∧ M G1 = okI b G2 ∧ gi G2 (0, 50) 0 = k ∧ (k = 0 → lg_cmp (go_ G2) b.toInt64 = 0) ∧ Rel (t + 1) G2
def EQV (t : Nat) (L : Res) (M : GS → Res) : Prop := ∃ (v : Int32) (G1 G2 : GS), L = okI v G1 ∧ M G1 = okI v G2 ∧ Rel (t + 1) G2
theorem lg_self (a : Int64) : lg_cmp a a = 0 := by
  unfold lg_cmp
  simp
section Ch
variable {kk : Nat} {G : GS} {S : SS} {t : Nat}
theorem SW.up (h : SW t S) : SW (t + 1) S := ⟨Nat.le_succ_of_le h.1, h.2⟩
theorem RelM_th {v : Int32} (h : RelM S G) : RelM S (si G (0, 50) 0 v) := by
  obtain ⟨h1, ⟨a1, a2, f, a3, a4, a5⟩, ⟨b1, b2⟩, ⟨c1, c2⟩, ⟨d1, d2⟩, e1, e2⟩ := h
  have n : ∀ f, f ≠ 0 → gi (si G (0, 50) 0 v) (0, 50) f = gi G (0, 50) f := fun f hf => by rw [gi_si, if_neg (fun z => hf z.2)]
  exact ⟨h1, ⟨(n 5 (by decide)).trans a1, a2, f, a3, (n 6 (by decide)).trans a4, a5⟩, ⟨(n 7 (by decide)).trans b1, b2⟩, ⟨(n 11 (by decide)).trans c1, c2⟩, ⟨(n 13 (by decide)).trans d1, (n 14 (by decide)).trans d2⟩, (n 9 (by decide)).trans e1, e2⟩
theorem FrO_th {v : Int32} : FrO G (si G (0, 50) 0 v) := ⟨fun r hr => ⟨fun f => by rw [gi_si, if_neg (fun z => by rw [z.1] at hr; exact absurd hr (by decide))], fun i => rfl⟩, rfl⟩
theorem th_eq {v : Int32} : gi (si G (0, 50) 0 v) (0, 50) 0 = v := by rw [gi_si, if_pos ⟨rfl, rfl⟩]
theorem Rel_th {v : Int32} (hS : SW t S) (hX : RelX S G) (hM : RelM S G) : Rel (t + 1) (si G (0, 50) 0 v) := ⟨S, hS.up, RelX_fr hX FrO_th, RelM_th hM⟩
theorem Rel_th2 {u v : Int32} (hS : SW t S) (hX : RelX S G) (hM : RelM S G) : Rel (t + 1) (si (si G (0, 50) 0 u) (0, 50) 0 v) := ⟨S, hS.up, RelX_fr (RelX_fr hX FrO_th) FrO_th, RelM_th (RelM_th hM)⟩
theorem SW_chg {c : Nat} {a1 a2 a3 : Int32} (h : SW t S) (hc : c < 7) (hf : fC (sW S) c a1 a2 a3 = 0) : SW (t + 1) (sChg S (opC (sW S) c a1 a2 a3)) := by
  obtain ⟨h1, h2, h3, h4, h5, h6, h7⟩ := h
  refine ⟨?_, WF_op h2 hc hf, fun row hr => ?_, fun row hr => (h4 row hr).mono (Nat.le_succ _), h5, h6, h7⟩
  · show sN S + 1 + sn S ≤ t + 1
    omega
  · obtain ⟨i, hi⟩ := List.getElem?_of_mem hr
    rcases push_at hi with ⟨-, rfl⟩ | ⟨j, -, -, hj⟩
    · exact h2.mono (Nat.le_succ _)
    · exact (h3 row (List.mem_of_getElem? hj)).mono (Nat.le_succ _)
/-- the reference's way through a change -/
theorem m_chg {op : GS → Res} {v : Int32} {W' : Nat → Int32} {kI : Int32 → GS → Res} (hM : RelM S G) (hk : 200 ≤ kk) (hop : ∀ G5, AM (sW S) G5 → ∃ G', op G5 = okI v G' ∧ AM W' G' ∧ FrM G5 G') :
    ∃ G8, ((D_Mo_remembers kk G).bind (fun r => oV r (fun G5 => (op G5).bind (fun r => oI r kI exc)) exc)) = kI v G8 ∧ RelM (sChg S W') G8 ∧ FrO G G8 ∧ gi G8 (0, 50) 0 = gi G (0, 50) 0 := by
  obtain ⟨G1, g1, g2, g3, g4, g5, g6⟩ := m_remembers (kk := kk) hM hk
  obtain ⟨G2, p1, p2, p3⟩ := hop G1 g2
  exact ⟨G2, (rV g1).trans (rI p1), ⟨p2, MH_M g3 p3, RMr_M g4 p3⟩, g5.tr (FrO_M p3), (p3.1 _ _).trans g6⟩
/-- from both sides of a change to the next relation -/
theorem chg_rel {c : Nat} {a1 a2 a3 : Int32} {v : Int64} {G1 G2 : GS} (hS : SW t S) (hc : c < 7) (hf : fC (sW S) c a1 a2 a3 = 0) (hX : RelX (sChg S (opC (sW S) c a1 a2 a3)) G1) (hM : RelM (sChg S (opC (sW S) c a1 a2 a3)) G2) (hO : FrO (si (so_ G1 v) (0, 50) 0 0) G2) : Rel (t + 1) G2 :=
  ⟨_, SW_chg hS hc hf, RelX_fr (RelX_fr (show RelX _ (so_ G1 v) from hX) FrO_th) hO, hM⟩
theorem go_of {v : Int64} {G1 G2 : GS} (hO : FrO (si (so_ G1 v) (0, 50) 0 0) G2) : go_ G2 = v := by
  unfold go_
  rw [hO.2]; rfl
theorem ml_ne {n : Nat} (h : n ≠ 0) (hn : n < 6) : ¬ nI n = 0 := fun z => h ((nI_eq (b := 0) (by omega) (by decide)).mp z)
theorem e_load (hk : 200 ≤ kk) (h : Rel t G) (a b c : Int32) : EQI t (D_Law_load kk a b c G) (fun G => D_Mo_load kk a b c G) := by
  obtain ⟨S, hS, hX, hM⟩ := h
  have hH := hS.2.1.1
  by_cases hf : fC (sW S) 0 a b c = 0
  · obtain ⟨G1, g1, g2, g3⟩ := c_change (kk := kk) hS hX (by omega) (c := 0) (by decide) hf
    have hM1 : RelM S (si (so_ G1 (rC (sW S) 0 a b).toInt64) (0, 50) 0 0) := RelM_th (show RelM S (so_ G1 _) from RelM_fr hM g3)
    obtain ⟨q, q1, rfl, q3, q4, -⟩ := fLoad_ok hf
    obtain ⟨G2, p1, p2, p3, p4⟩ := m_chg (kk := kk) (op := fun G5 => D_Mo_loads kk (nI q) b c G5) (v := sW S 4) (W' := opC (sW S) 0 (nI q) b c) (kI := fun v11 G8 => okI v11 G8) hM1 hk (fun G5 hG5 => by
      have := m_loads (kk := kk) hH hG5 q1 (by have := (hH q q1).1; omega) b c
      show ∃ G', _ ∧ AM (opLoad (sW S) (bN (nI q)) b c) G' ∧ _
      rw [q3]; exact this)
    refine ⟨0, _, sW S 4, G2, rI (rI g1), ?_, p4.trans th_eq, fun _ => ?_, chg_rel hS (by decide) hf g2 p2 p3⟩
    · refine (rI (m_fLoad hH hM1.1 (by omega) (nI q) b c)).trans ?_
      rw [show fLoad (sW S) (nI q) b c = 0 from hf]
      exact (iT rfl).trans p1
    · rw [go_of p3]; exact lg_self _
  · have hl : fC (sW S) 0 a b c < 6 := fC_lt
    have hv : fC (sW S) 0 a b c = 1 ∨ fC (sW S) 0 a b c = 2 ∨ fC (sW S) 0 a b c = 4 ∨ fC (sW S) 0 a b c = 5 := by
      have h0 : fLoad (sW S) a b c ≠ 0 := hf
      show fLoad (sW S) a b c = 1 ∨ fLoad (sW S) a b c = 2 ∨ fLoad (sW S) a b c = 4 ∨ fLoad (sW S) a b c = 5
      unfold fLoad at h0 ⊢
      revert h0
      repeat' split
      all_goals simp
    have e : D_Law_load kk a b c G = okI (nI (mLoad (fC (sW S) 0 a b c))) G := by
      refine (rIx (rIx (c_changeX (kk := kk) hS hX (by omega) (c := 0) (by decide) a b c hf))).trans ?_
      rcases hv with hv | hv | hv | hv <;> rw [hv] <;> rfl
    have hv : mLoad (fC (sW S) 0 a b c) ≠ 0 ∧ mLoad (fC (sW S) 0 a b c) < 6 := by
      rcases hv with hv | hv | hv | hv <;> rw [hv] <;> decide
    refine ⟨_, G, 0, si (si G (0, 50) 0 0) (0, 50) 0 (nI (mLoad (fC (sW S) 0 a b c))), e, ?_, th_eq, fun z => absurd z (ml_ne hv.1 hv.2), Rel_th2 hS hX hM⟩
    refine (rI (m_fLoad hH (RelM_th hM).1 (by omega) a b c)).trans ?_
    refine (iF (ml_ne hv.1 hv.2)).trans ?_
    exact rI rfl
end Ch
/-! THE OTHER SIX CHANGES -/
def EQB (t : Nat) (L : Res) (M : GS → Res) : Prop := ∃ (k : Int32) (G1 : GS) (b : Int32) (G2 : GS), L = okI k G1 ∧ M G1 = okI b G2 ∧ gi G2 (0, 50) 0 = k ∧ (k = 0 → if b = 0 then lg_cmp (go_ G2) 0 = 0 else lg_cmp (go_ G2) 1 = 0) ∧ Rel (t + 1) G2
section Ch2
variable {kk : Nat} {G : GS} {S : SS} {t : Nat}
theorem chg_rel2 {c : Nat} {a1 a2 a3 : Int32} {G1 G2 : GS} (hS : SW t S) (hc : c < 7) (hf : fC (sW S) c a1 a2 a3 = 0) (hX : RelX (sChg S (opC (sW S) c a1 a2 a3)) G1) (hM : RelM (sChg S (opC (sW S) c a1 a2 a3)) G2) (hO : FrO (si G1 (0, 50) 0 0) G2) : Rel (t + 1) G2 :=
  ⟨_, SW_chg hS hc hf, RelX_fr (RelX_fr hX FrO_th) hO, hM⟩
theorem e_unload (hk : 200 ≤ kk) (h : Rel t G) (a : Int32) : EQI t (D_Law_unload kk a G) (fun G => D_Mo_unload kk a G) := by
  obtain ⟨S, hS, hX, hM⟩ := h
  have hH := hS.2.1.1
  by_cases hf : fC (sW S) 1 a 0 0 = 0
  · obtain ⟨G1, g1, g2, g3⟩ := c_change (kk := kk) hS hX (by omega) (c := 1) (by decide) hf
    have hM1 : RelM S (si (so_ G1 (rC (sW S) 1 a 0).toInt64) (0, 50) 0 0) := RelM_th (show RelM S (so_ G1 _) from RelM_fr hM g3)
    obtain ⟨q, q1, rfl, q3, q4, -⟩ := fUnload_ok hf
    obtain ⟨G2, p1, p2, p3, p4⟩ := m_chg (kk := kk) (op := fun G5 => D_Mo_unloads kk (nI q) G5) (v := rC (sW S) 1 (nI q) 0) (W' := opC (sW S) 1 (nI q) 0 0) (kI := fun v11 G8 => okI v11 G8) hM1 hk (fun G5 hG5 => by
      show ∃ G', D_Mo_unloads kk (nI q) G5 = okI (fW (sW S) (bN (nI q)) (hN (sW S) (bN (nI q)) - 1) 0) G' ∧ AM (opUnload (sW S) (bN (nI q))) G' ∧ FrM G5 G'
      rw [q3]; exact m_unloads (kk := kk) hH hG5 (by omega) q1 (by omega))
    refine ⟨0, _, rC (sW S) 1 (nI q) 0, G2, rI (rI g1), ?_, p4.trans th_eq, fun _ => ?_, chg_rel2 hS (by decide) hf (show RelX _ (so_ G1 (rC (sW S) 1 (nI q) 0).toInt64) from g2) p2 p3⟩
    · refine (rI (m_fUnload hH hM1.1 (by omega) (nI q))).trans ?_
      rw [show fUnload (sW S) (nI q) = 0 from hf]
      exact (iT rfl).trans p1
    · rw [go_of p3]; exact lg_self _
  · have hl : fC (sW S) 1 a 0 0 < 6 := fC_lt
    have hv : fC (sW S) 1 a 0 0 = 1 ∨ fC (sW S) 1 a 0 0 = 3 ∨ fC (sW S) 1 a 0 0 = 4 ∨ fC (sW S) 1 a 0 0 = 5 := by
      have h0 : fUnload (sW S) a ≠ 0 := hf
      show fUnload (sW S) a = 1 ∨ fUnload (sW S) a = 3 ∨ fUnload (sW S) a = 4 ∨ fUnload (sW S) a = 5
      unfold fUnload at h0 ⊢
      revert h0
      repeat' split
      all_goals simp
    have e : D_Law_unload kk a G = okI (nI (mUnload (fC (sW S) 1 a 0 0))) G := by
      refine (rIx (rIx (c_changeX (kk := kk) hS hX (by omega) (c := 1) (by decide) a 0 0 hf))).trans ?_
      rcases hv with hv | hv | hv | hv <;> rw [hv] <;> rfl
    have hv2 : mUnload (fC (sW S) 1 a 0 0) ≠ 0 ∧ mUnload (fC (sW S) 1 a 0 0) < 6 := by
      rcases hv with hv | hv | hv | hv <;> rw [hv] <;> decide
    refine ⟨_, G, 0, si (si G (0, 50) 0 0) (0, 50) 0 (nI (mUnload (fC (sW S) 1 a 0 0))), e, ?_, th_eq, fun z => absurd z (ml_ne hv2.1 hv2.2), Rel_th2 hS hX hM⟩
    refine (rI (m_fUnload hH (RelM_th hM).1 (by omega) a)).trans ?_
    refine (iF (ml_ne hv2.1 hv2.2)).trans ?_
    exact rI rfl
theorem e_shift (hk : 200 ≤ kk) (h : Rel t G) (a b : Int32) : EQI t (D_Law_shift kk a b G) (fun G => D_Mo_shift kk a b G) := by
  obtain ⟨S, hS, hX, hM⟩ := h
  have hH := hS.2.1.1
  by_cases hf : fC (sW S) 2 a b 0 = 0
  · obtain ⟨G1, g1, g2, g3⟩ := c_change (kk := kk) hS hX (by omega) (c := 2) (by decide) hf
    have hM1 : RelM S (si (so_ G1 (rC (sW S) 2 a b).toInt64) (0, 50) 0 0) := RelM_th (show RelM S (so_ G1 _) from RelM_fr hM g3)
    obtain ⟨q, d, q1, d1, rfl, rfl, q3, d3, hne, q4, d4, -⟩ := fShift_ok hf
    obtain ⟨G2, p1, p2, p3, p4⟩ := m_chg (kk := kk) (op := fun G5 => D_Mo_shifts kk (nI q) (nI d) G5) (v := rC (sW S) 2 (nI q) (nI d)) (W' := opC (sW S) 2 (nI q) (nI d) 0) (kI := fun v11 G8 => okI v11 G8) hM1 hk (fun G5 hG5 => by
      show ∃ G', D_Mo_shifts kk (nI q) (nI d) G5 = okI (fW (sW S) (bN (nI q)) (hN (sW S) (bN (nI q)) - 1) 0) G' ∧ AM (opShift (sW S) (bN (nI q)) (bN (nI d))) G' ∧ FrM G5 G'
      rw [q3, d3]; exact m_shifts (kk := kk) hH hG5 (by omega) q1 d1 hne (by omega) (by have := (hH d d1).1; omega))
    refine ⟨0, _, rC (sW S) 2 (nI q) (nI d), G2, rI (rI g1), ?_, p4.trans th_eq, fun _ => ?_, chg_rel2 hS (by decide) hf (show RelX _ (so_ G1 (rC (sW S) 2 (nI q) (nI d)).toInt64) from g2) p2 p3⟩
    · refine (rI (m_fShift hH hM1.1 (by omega) (nI q) (nI d))).trans ?_
      rw [show fShift (sW S) (nI q) (nI d) = 0 from hf]
      exact (iT rfl).trans p1
    · rw [go_of p3]; exact lg_self _
  · have hl : fC (sW S) 2 a b 0 < 6 := fC_lt
    have hv : fC (sW S) 2 a b 0 = 1 ∨ fC (sW S) 2 a b 0 = 2 ∨ fC (sW S) 2 a b 0 = 3 ∨ fC (sW S) 2 a b 0 = 4 ∨ fC (sW S) 2 a b 0 = 5 := by
      have h0 : fShift (sW S) a b ≠ 0 := hf
      show fShift (sW S) a b = 1 ∨ fShift (sW S) a b = 2 ∨ fShift (sW S) a b = 3 ∨ fShift (sW S) a b = 4 ∨ fShift (sW S) a b = 5
      unfold fShift at h0 ⊢
      revert h0
      repeat' split
      all_goals simp
    have e : D_Law_shift kk a b G = okI (nI (id (fC (sW S) 2 a b 0))) G := by
      refine (rIx (rIx (c_changeX (kk := kk) hS hX (by omega) (c := 2) (by decide) a b 0 hf))).trans ?_
      rcases hv with hv | hv | hv | hv | hv <;> rw [hv] <;> rfl
    have hv2 : id (fC (sW S) 2 a b 0) ≠ 0 ∧ id (fC (sW S) 2 a b 0) < 6 := by
      rcases hv with hv | hv | hv | hv | hv <;> rw [hv] <;> decide
    refine ⟨_, G, 0, si (si G (0, 50) 0 0) (0, 50) 0 (nI (id (fC (sW S) 2 a b 0))), e, ?_, th_eq, fun z => absurd z (ml_ne hv2.1 hv2.2), Rel_th2 hS hX hM⟩
    refine (rI (m_fShift hH (RelM_th hM).1 (by omega) a b)).trans ?_
    refine (iF (ml_ne hv2.1 hv2.2)).trans ?_
    exact rI rfl
theorem e_sail (hk : 200 ≤ kk) (h : Rel t G) (a : Int32) : EQI t (D_Law_sail kk a G) (fun G => D_Mo_sail kk a G) := by
  obtain ⟨S, hS, hX, hM⟩ := h
  have hH := hS.2.1.1
  by_cases hf : fC (sW S) 3 a 0 0 = 0
  · obtain ⟨G1, g1, g2, g3⟩ := c_change (kk := kk) hS hX (by omega) (c := 3) (by decide) hf
    have hM1 : RelM S (si (so_ G1 (rC (sW S) 3 a 0).toInt64) (0, 50) 0 0) := RelM_th (show RelM S (so_ G1 _) from RelM_fr hM g3)
    obtain ⟨G2, p1, p2, p3, p4⟩ := m_chg (kk := kk) (op := fun G5 => D_Mo_sails kk a G5) (v := rC (sW S) 3 a 0) (W' := opC (sW S) 3 a 0 0) (kI := fun v11 G8 => okI v11 G8) hM1 hk (fun G5 hG5 => m_sails (kk := kk) hG5 a)
    refine ⟨0, _, rC (sW S) 3 a 0, G2, rI (rI g1), ?_, p4.trans th_eq, fun _ => ?_, chg_rel2 hS (by decide) hf (show RelX _ (so_ G1 (rC (sW S) 3 a 0).toInt64) from g2) p2 p3⟩
    · refine (rI (m_fSail a)).trans ?_
      rw [show fSail a = 0 from hf]
      exact (iT rfl).trans p1
    · rw [go_of p3]; exact lg_self _
  · have hl : fC (sW S) 3 a 0 0 < 6 := fC_lt
    have hv : fC (sW S) 3 a 0 0 = 2 := by
      have h0 : fSail a ≠ 0 := hf
      show fSail a = 2
      unfold fSail at h0 ⊢
      revert h0
      repeat' split
      all_goals simp
    have e : D_Law_sail kk a G = okI (nI (mOne (fC (sW S) 3 a 0 0))) G := by
      refine (rIx (rIx (c_changeX (kk := kk) hS hX (by omega) (c := 3) (by decide) a 0 0 hf))).trans ?_
      rcases hv with hv <;> rw [hv] <;> rfl
    have hv2 : mOne (fC (sW S) 3 a 0 0) ≠ 0 ∧ mOne (fC (sW S) 3 a 0 0) < 6 := by
      rcases hv with hv <;> rw [hv] <;> decide
    refine ⟨_, G, 0, si (si G (0, 50) 0 0) (0, 50) 0 (nI (mOne (fC (sW S) 3 a 0 0))), e, ?_, th_eq, fun z => absurd z (ml_ne hv2.1 hv2.2), Rel_th2 hS hX hM⟩
    refine (rI (m_fSail a)).trans ?_
    refine (iF (ml_ne hv2.1 hv2.2)).trans ?_
    rw [hv]; exact rI rfl
theorem e_setLimit (hk : 200 ≤ kk) (h : Rel t G) (a : Int32) : EQI t (D_Law_setLimit kk a G) (fun G => D_Mo_setLimit kk a G) := by
  obtain ⟨S, hS, hX, hM⟩ := h
  have hH := hS.2.1.1
  by_cases hf : fC (sW S) 5 a 0 0 = 0
  · obtain ⟨G1, g1, g2, g3⟩ := c_change (kk := kk) hS hX (by omega) (c := 5) (by decide) hf
    have hM1 : RelM S (si (so_ G1 (rC (sW S) 5 a 0).toInt64) (0, 50) 0 0) := RelM_th (show RelM S (so_ G1 _) from RelM_fr hM g3)
    obtain ⟨G2, p1, p2, p3, p4⟩ := m_chg (kk := kk) (op := fun G5 => D_Mo_setsLimit kk a G5) (v := rC (sW S) 5 a 0) (W' := opC (sW S) 5 a 0 0) (kI := fun v11 G8 => okI v11 G8) hM1 hk (fun G5 hG5 => m_setsLimit (kk := kk) hG5 a)
    refine ⟨0, _, rC (sW S) 5 a 0, G2, rI (rI g1), ?_, p4.trans th_eq, fun _ => ?_, chg_rel2 hS (by decide) hf (show RelX _ (so_ G1 (rC (sW S) 5 a 0).toInt64) from g2) p2 p3⟩
    · refine (rI (m_fLimit hH hM1.1 (by omega) a)).trans ?_
      rw [show fLimit (sW S) a = 0 from hf]
      exact (iT rfl).trans p1
    · rw [go_of p3]; exact lg_self _
  · have hl : fC (sW S) 5 a 0 0 < 6 := fC_lt
    have hv : fC (sW S) 5 a 0 0 = 2 ∨ fC (sW S) 5 a 0 0 = 5 := by
      have h0 : fLimit (sW S) a ≠ 0 := hf
      show fLimit (sW S) a = 2 ∨ fLimit (sW S) a = 5
      unfold fLimit at h0 ⊢
      revert h0
      repeat' split
      all_goals simp
    have e : D_Law_setLimit kk a G = okI (nI (mLimit (fC (sW S) 5 a 0 0))) G := by
      refine (rIx (rIx (c_changeX (kk := kk) hS hX (by omega) (c := 5) (by decide) a 0 0 hf))).trans ?_
      rcases hv with hv | hv <;> rw [hv] <;> rfl
    have hv2 : mLimit (fC (sW S) 5 a 0 0) ≠ 0 ∧ mLimit (fC (sW S) 5 a 0 0) < 6 := by
      rcases hv with hv | hv <;> rw [hv] <;> decide
    refine ⟨_, G, 0, si (si G (0, 50) 0 0) (0, 50) 0 (nI (mLimit (fC (sW S) 5 a 0 0))), e, ?_, th_eq, fun z => absurd z (ml_ne hv2.1 hv2.2), Rel_th2 hS hX hM⟩
    refine (rI (m_fLimit hH (RelM_th hM).1 (by omega) a)).trans ?_
    refine (iF (ml_ne hv2.1 hv2.2)).trans ?_
    exact rI rfl
theorem e_turn (hk : 200 ≤ kk) (h : Rel t G) : EQV t (D_PB_turn kk G) (fun G => D_Mo_turn kk G) := by
  obtain ⟨S, hS, hX, hM⟩ := h
  have hf : fC (sW S) 4 0 0 0 = 0 := rfl
  obtain ⟨p, e, hp, he, h1, h2⟩ := hS.2.1.2.1
  obtain ⟨G1, g1, g2, g3⟩ := c_change (kk := kk) hS hX (by omega) (c := 4) (by decide) hf
  have hM1 : RelM S (si G1 (0, 50) 0 0) := RelM_th (RelM_fr hM g3)
  obtain ⟨G2, p1, p2, p3, p4⟩ := m_chg (kk := kk) (op := fun G5 => D_Mo_turns kk G5) (v := 1 - sW S 2) (W' := opC (sW S) 4 0 0 0) (kI := fun v7 G4 => if v7 = 0 then okI (1 : Int32) G4 else okI (0 : Int32) G4) hM1 hk (fun G5 hG5 => m_turns (kk := kk) hG5)
  refine ⟨sW S 2, G1, G2, (rI g1).trans ?_, p1.trans ?_, chg_rel2 hS (by decide) hf g2 p2 p3⟩
  · show (if sW S 2 = 1 then _ else _) = _
    rcases (show e = 0 ∨ e = 1 by omega) with rfl | rfl <;> rw [h2] <;> rfl
  · show (if 1 - sW S 2 = 0 then _ else _) = _
    rcases (show e = 0 ∨ e = 1 by omega) with rfl | rfl <;> rw [h2] <;> rfl
theorem e_drill (hk : 200 ≤ kk) (h : Rel t G) (a : Int32) : EQB t (D_Law_drill kk a G) (fun G => D_Mo_drill kk a G) := by
  obtain ⟨S, hS, hX, hM⟩ := h
  have hH := hS.2.1.1
  by_cases hf : fC (sW S) 6 a 0 0 = 0
  · obtain ⟨G1, g1, g2, g3⟩ := c_change (kk := kk) hS hX (by omega) (c := 6) (by decide) hf
    have key : ∀ (o : Int64) (w : Int32), (rC (sW S) 6 a 0 = 1 → o = 1 ∧ w = 1) → (rC (sW S) 6 a 0 = 0 → o = 0 ∧ w = 0) → D_Law_drill kk a G = okI 0 (so_ G1 o) → EQB t (D_Law_drill kk a G) (fun G => D_Mo_drill kk a G) := by
      intro o w hy hn he
      have hM1 : RelM S (si (so_ G1 o) (0, 50) 0 0) := RelM_th (show RelM S (so_ G1 _) from RelM_fr hM g3)
      obtain ⟨G2, p1, p2, p3, p4⟩ := m_chg (kk := kk) (op := fun G5 => D_Mo_drills kk a G5) (v := rC (sW S) 6 a 0) (W' := opC (sW S) 6 a 0 0) (kI := fun v11 G8 => if v11 = (1 : Int32) then okI (1 : Int32) G8 else okI (0 : Int32) G8) hM1 hk (fun G5 hG5 => m_drills (kk := kk) hH hG5 (by omega) a)
      have hr : rC (sW S) 6 a 0 = 1 ∨ rC (sW S) 6 a 0 = 0 := by
        show (if byd (sW S) a = true then (1 : Int32) else 0) = 1 ∨ (if byd (sW S) a = true then (1 : Int32) else 0) = 0
        split <;> simp
      refine ⟨0, _, w, G2, he, ?_, p4.trans th_eq, fun _ => ?_, chg_rel2 hS (by decide) hf (show RelX _ (so_ G1 o) from g2) p2 p3⟩
      · refine (rI (m_fDrill a)).trans ?_
        rw [show fDrill a = 0 from hf]
        refine (iT rfl).trans (p1.trans ?_)
        rcases hr with z | z
        · rw [z, (hy z).2]; rfl
        · rw [z, (hn z).2]; rfl
      · rw [go_of (v := o) p3]
        rcases hr with z | z
        · rw [(hy z).1, (hy z).2, if_neg (by decide)]; exact lg_self _
        · rw [(hn z).1, (hn z).2, if_pos rfl]; exact lg_self _
    by_cases hb : byd (sW S) a = true
    · have hr : rC (sW S) 6 a 0 = 1 := if_pos hb
      refine key 1 1 (fun _ => ⟨rfl, rfl⟩) (fun z => absurd (hr.symm.trans z) (by decide)) ?_
      rw [hr] at g1
      exact (rI (show D_PB_drill kk a G = okI 1 G1 from (rI g1).trans rfl)).trans rfl
    · have hr : rC (sW S) 6 a 0 = 0 := if_neg hb
      refine key 0 0 (fun z => absurd (hr.symm.trans z) (by decide)) (fun _ => ⟨rfl, rfl⟩) ?_
      rw [hr] at g1
      exact (rI (show D_PB_drill kk a G = okI 0 G1 from (rI g1).trans rfl)).trans rfl
  · have hv : fDrill a = 2 := by
      have h0 : fDrill a ≠ 0 := hf
      unfold fDrill at h0 ⊢
      revert h0
      repeat' split
      all_goals simp
    have hc : fC (sW S) 6 a 0 0 = 2 := hv
    have e : D_Law_drill kk a G = okI 1 G := by
      have := c_changeX (kk := kk) hS hX (by omega) (c := 6) (by decide) a 0 0 hf
      rw [hc] at this
      exact rIx (rIx this)
    refine ⟨1, G, 0, si (si G (0, 50) 0 0) (0, 50) 0 1, e, ?_, th_eq, fun z => absurd z (by decide), Rel_th2 hS hX hM⟩
    refine (rI (m_fDrill a)).trans ?_
    rw [hv]
    exact (iF (by decide)).trans ((rI rfl).trans (iT (by decide)))
end Ch2
/-! A PILLOW BY ITS NUMBER -/
def isP (W : Nat → Int32) (x : Int32) (s : Nat) : Bool := tk W s && decide (fW W (s / 5) (s % 5) 0 = x)
def fP (W : Nat → Int32) (x : Int32) : Option Nat := fnd (isP W x) 0 35
theorem fnd_skip {P : Nat → Bool} (m i n : Nat) (h : ∀ j, i ≤ j → j < i + m → P j = false) : fnd P i (m + n) = fnd P (i + m) n := by
  rw [fnd_add]
  have : fnd P i m = none := by
    cases hf : fnd P i m with
    | none => rfl
    | some j =>
      obtain ⟨a, b, c⟩ := fnd_some m i j hf
      rw [h j a b] at c; cases c
  rw [this]; rfl
theorem tk_bp {W : Nat → Int32} {b p : Nat} (hp : p < 5) : tk W (5 * b + p) = decide (p < hN W b) := by
  unfold tk
  rw [show (5 * b + p) % 5 = p by omega, show (5 * b + p) / 5 = b by omega]
theorem isP_bp {W : Nat → Int32} {x : Int32} {b p : Nat} (hp : p < 5) : isP W x (5 * b + p) = (decide (p < hN W b) && decide (fW W b p 0 = x)) := by
  unfold isP
  rw [tk_bp hp, show (5 * b + p) % 5 = p by omega, show (5 * b + p) / 5 = b by omega]
section Fd
variable {kk : Nat} {G : GS} {W : Nat → Int32} {j : Nat}
theorem c_slotOf (hH : HH W) (hA : AX W j G) (hk : 40 ≤ kk) (x : Int32) : D_Cargo_slotOf kk j x G = fsel (fun s => okI (nI s) G) (okI (-1) G) (fP W x) := by
  refine loop_find (fun k i => L_Cargo_slotOf kk k j x i G) (isP W x) (fun s => okI (nI s) G) (okI (-1) G) 35 (fun _ => rfl) (fun k i hi => ?_) 35 0 kk rfl (by omega)
  refine (iF (nI_ge (b := 35) hi (by decide))).trans ?_
  refine (rI (c_isTaken hH hA hi)).trans ?_
  unfold isP
  by_cases h : tk W i = true
  · rw [if_pos h, h, Bool.true_and]
    refine (iF (by decide)).trans ?_
    refine (bT (in_of hi (by decide))).trans ?_
    rw [nI_clamp (by omega), show ga G (j, 6) i = fW W (i / 5) (i % 5) 0 from ax_at (k := 0) hA hi (by decide) h]
    by_cases h2 : fW W (i / 5) (i % 5) 0 = x
    · rw [if_pos h2, decide_eq_true h2]; rfl
    · rw [if_neg h2, decide_eq_false h2]; exact congrArg (fun z => L_Cargo_slotOf kk k j x z G) (nI_1 i)
  · rw [if_neg h, show tk W i = false by simpa using h, Bool.false_and]
    exact (iT rfl).trans (congrArg (fun z => L_Cargo_slotOf kk k j x z G) (nI_1 i))
theorem m_placeOf_ (hH : HH W) (hM : AM W G) (x : Int32) : ∀ (n b : Nat), b + n = 7 → ∀ k, 7 * n + 1 ≤ k → (L_Mo_placeOf kk k).1 x (nI b) G = fsel (fun s => okI (nI s) G) (okI (-1) G) (fnd (isP W x) (5 * b) (5 * n))
  | 0, b, hb, k, hk => by
    obtain ⟨k, rfl⟩ : ∃ q, k = q + 1 := ⟨k - 1, by omega⟩
    obtain rfl : b = 7 := by omega
    rfl
  | n + 1, b, hb, k, hk => by
    obtain ⟨k, rfl⟩ : ∃ q, k = q + 1 := ⟨k - 1, by omega⟩
    have hb7 : b < 7 := by omega
    have h5 := (hH b hb7).1
    have ih := m_placeOf_ hH hM x n (b + 1) (by omega)
    have inner : ∀ (m p : Nat), p + m = hN W b → ∀ k, m + 1 + (7 * n + 1) ≤ k → (L_Mo_placeOf kk k).2 x (nI b) (nI p) G = fsel (fun s => okI (nI s) G) (okI (-1) G) (fnd (isP W x) (5 * b + p) ((5 - p) + 5 * n)) := by
      intro m
      induction m with
      | zero =>
        intro p hp k hk
        obtain ⟨k, rfl⟩ : ∃ q, k = q + 1 := ⟨k - 1, by omega⟩
        refine (bT (m_hin hb7)).trans ?_
        rw [m_hgt hH hM hb7]
        refine (iT (nI_le (by omega) (by omega))).trans ?_
        rw [nI_1, ih k (by omega)]
        rw [fnd_skip (5 - p) (5 * b + p) (5 * n) (fun j h1 h2 => by
          obtain ⟨q, rfl⟩ : ∃ q, j = 5 * b + q := ⟨j - 5 * b, by omega⟩
          rw [isP_bp (by omega), decide_eq_false (by omega : ¬ q < hN W b)]; rfl)]
        rw [show 5 * b + p + (5 - p) = 5 * (b + 1) by omega]
      | succ m ihm =>
        intro p hp k hk
        obtain ⟨k, rfl⟩ : ∃ q, k = q + 1 := ⟨k - 1, by omega⟩
        refine (bT (m_hin hb7)).trans ?_
        rw [m_hgt hH hM hb7]
        refine (iF (nI_ge (by omega) (by omega))).trans ?_
        refine (rI (m_at (k := 0) hM hb7 (by omega) (by decide))).trans ?_
        rw [show (5 - p) + 5 * n = ((5 - (p + 1)) + 5 * n) + 1 by omega, fnd, isP_bp (by omega), decide_eq_true (by omega : p < hN W b), Bool.true_and]
        by_cases h2 : fW W b p 0 = x
        · rw [if_pos h2, decide_eq_true h2, if_pos rfl]
          show okI ((5 : Int32) * nI b + nI p) G = okI (nI (5 * b + p)) G
          rw [show (5 : Int32) * nI b = nI (5 * b) from pk_mul 5 b, nI_add]
        · rw [if_neg h2, decide_eq_false h2, if_neg (by decide), nI_1, ihm (p + 1) (by omega) k (by omega), show 5 * b + (p + 1) = 5 * b + p + 1 by omega]
    refine (iF (nI_ge (b := 7) hb7 (by decide))).trans ?_
    refine (inner (hN W b) 0 (by omega) k (by omega)).trans ?_
    rw [show 5 - 0 + 5 * n = 5 * (n + 1) by omega, Nat.add_zero]
theorem m_placeOf (hH : HH W) (hM : AM W G) (hk : 60 ≤ kk) (x : Int32) : D_Mo_placeOf kk x G = fsel (fun s => okI (nI s) G) (okI (-1) G) (fP W x) :=
  m_placeOf_ hH hM x 7 0 rfl kk (by omega)
theorem fP_some {x : Int32} {s : Nat} (h : fP W x = some s) : s < 35 ∧ tk W s = true := by
  obtain ⟨-, h2, h3⟩ := fnd_some 35 0 s h
  unfold isP at h3
  rw [Bool.and_eq_true] at h3
  exact ⟨by omega, h3.1⟩
end Fd
