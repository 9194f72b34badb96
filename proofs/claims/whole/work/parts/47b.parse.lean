/-! THE CLASS READS A COMMAND -/
def E0 (kk : Nat) (G : GS) : Res :=
      (D_Script_readDigit kk (0 : Int32) G).bind (fun r => oI r (fun v8 G5 =>
      if v8 = 0 then
        okI (0 : Int32) G5
      else
        (D_Script_accept kk (32 : Int32) G5).bind (fun r => oI r (fun v12 G9 =>
        if v12 = 0 then
          okI (0 : Int32) G9
        else
          (D_Script_readNumber kk (1 : Int32) G9).bind (fun r => oI r (fun v16 G13 =>
          if v16 = 0 then
            okI (0 : Int32) G13
          else
            (D_Script_accept kk (32 : Int32) G13).bind (fun r => oI r (fun v20 G17 =>
            if v20 = 0 then
              okI (0 : Int32) G17
            else
              (D_Script_readDigit kk (2 : Int32) G17).bind (fun r => oI r (fun v24 G21 =>
              if v24 = 0 then
                okI (0 : Int32) G21
              else
                okI (1 : Int32) G21) exc)) exc)) exc)) exc)) exc)
def E1 (kk : Nat) (G : GS) : Res :=
      (D_Script_readDigit kk (0 : Int32) G).bind (fun r => oI r (fun v28 G25 =>
      if v28 = 0 ∨ v28 = 1 then okI v28 G25 else none) exc)
def E2 (kk : Nat) (G : GS) : Res :=
      (D_Script_readDigit kk (0 : Int32) G).bind (fun r => oI r (fun v32 G29 =>
      if v32 = 0 then
        okI (0 : Int32) G29
      else
        (D_Script_accept kk (32 : Int32) G29).bind (fun r => oI r (fun v36 G33 =>
        if v36 = 0 then
          okI (0 : Int32) G33
        else
          (D_Script_readDigit kk (1 : Int32) G33).bind (fun r => oI r (fun v40 G37 =>
          if v40 = 0 then
            okI (0 : Int32) G37
          else
            okI (1 : Int32) G37) exc)) exc)) exc)
def E3 (kk : Nat) (G : GS) : Res :=
      (D_Script_setArgument kk (0 : Int32) (1 : Int32) G).bind (fun r => oV r (fun G41 =>
      (D_Script_accept kk (32 : Int32) G41).bind (fun r => oI r (fun v47 G44 =>
      if v47 = 0 then
        okI (1 : Int32) G44
      else
        (D_Script_readNumber kk (0 : Int32) G44).bind (fun r => oI r (fun v51 G48 =>
        if v51 = 0 then
          okI (0 : Int32) G48
        else
          okI (1 : Int32) G48) exc)) exc)) exc)
def E4 (kk : Nat) (G : GS) : Res :=
      okI (1 : Int32) G
def E5 (kk : Nat) (G : GS) : Res :=
      (D_Script_readNumber kk (0 : Int32) G).bind (fun r => oI r (fun v55 G52 =>
      if v55 = 0 ∨ v55 = 1 then okI v55 G52 else none) exc)
def E6 (kk : Nat) (G : GS) : Res :=
      (D_Script_readSignedNumber kk (0 : Int32) G).bind (fun r => oI r (fun v59 G56 =>
      if v59 = 0 ∨ v59 = 1 then okI v59 G56 else none) exc)
section Xs
variable {kk n : Nat} {T : Nat → Int32} {G : GS}
def PX (n : Nat) (T : Nat → Int32) (i : Nat) (G : GS) : Prop := gi G (0, 12) 3 = nI n ∧ gi G (0, 12) 5 = nI i ∧ (∀ j, j < n → ga G (0, 13) j = T j) ∧ i ≤ n
/-- what reading a command's rest changes: the place and the arguments from m on -/
def FrA (m : Nat) (G G' : GS) : Prop := (∀ r f, ¬ (r = (0, 12) ∧ f = 5) → gi G' r f = gi G r f) ∧ (∀ (r : Rf) i, ¬ (r = (0, 15) ∧ m ≤ i) → ga G' r i = ga G r i) ∧ G'.2.2 = G.2.2
theorem FrA.rf {m : Nat} {G : GS} : FrA m G G := ⟨fun _ _ _ => rfl, fun _ _ _ => rfl, rfl⟩
theorem FrA.tr {m : Nat} {G G1 G2 : GS} (h : FrA m G G1) (g : FrA m G1 G2) : FrA m G G2 := ⟨fun r f q => (g.1 r f q).trans (h.1 r f q), fun r i q => (g.2.1 r i q).trans (h.2.1 r i q), g.2.2.trans h.2.2⟩
theorem FrA_s {m j : Nat} : FrA m G (si G (0, 12) 5 (nI j)) := ⟨fun r f q => by rw [gi_si, if_neg (fun z => q z)], fun _ _ _ => rfl, rfl⟩
theorem FrA_a {m j : Nat} {v : Int32} (h : m ≤ j) : FrA m G (sa G (0, 15) j v) := ⟨fun _ _ _ => rfl, fun r i q => by rw [ga_sa, if_neg (fun z => q ⟨z.1, by omega⟩)], rfl⟩
theorem PX_s {i j : Nat} (hP : PX n T i G) (hj : j ≤ n) : PX n T j (si G (0, 12) 5 (nI j)) := by
  obtain ⟨p1, p2, p3, p4⟩ := hP
  exact ⟨by rw [gi_si, if_neg (fun z => by cases z.2)]; exact p1, by rw [gi_si, if_pos ⟨rfl, rfl⟩], p3, hj⟩
theorem PX_a {i j : Nat} {v : Int32} (hP : PX n T i G) : PX n T i (sa G (0, 15) j v) := ⟨hP.1, hP.2.1, fun k hk => by rw [ga_sa, if_neg (fun z => absurd z.1 (by decide))]; exact hP.2.2.1 k hk, hP.2.2.2⟩
theorem g4_s {j : Nat} : gi (si G (0, 12) 5 (nI j)) (0, 12) 4 = gi G (0, 12) 4 := by rw [gi_si, if_neg (fun z => by cases z.2)]
theorem x_next (hT : TX n T) {i d c : Nat} (hd : d ≤ 10) (hc : c ≤ 126) (hP : PX n T i G) : D_Script_isNext kk (nI d) (nI c) G = okI (if Ch n T (i + d) = c then 1 else 0) G := by
  obtain ⟨p1, p2, p3, p4⟩ := hP
  have h60 := hT.1
  unfold D_Script_isNext
  rw [p1, p2, nI_add]
  refine (iF (nI_pos (by omega))).trans ?_
  by_cases h : i + d < n
  · refine (iF (nI_ge h (by omega))).trans ((iF (nI_ge (b := 60) (by omega) (by decide))).trans ((bT (in_of (by omega) (by decide))).trans ?_))
    have hc2 := ch_in hT h
    rw [nI_clamp (by omega), p3 _ h, hc2.2.2]
    by_cases z : Ch n T (i + d) = c
    · rw [if_pos z, z]; exact iT rfl
    · rw [if_neg z]; exact iF (fun y => z ((nI_eq (by omega) (by omega)).mp y))
  · refine (iT (nI_le (by omega) (by omega))).trans ?_
    rw [ch_out (by omega), if_neg (by omega)]
theorem x_acc (hT : TX n T) {i c : Nat} (hc : c ≤ 126) (hP : PX n T i G) : D_Script_accept kk (nI c) G = okI (if Ch n T i = c then 1 else 0) (if Ch n T i = c then si G (0, 12) 5 (nI (i + 1)) else G) := by
  refine (rI (x_next (kk := kk) hT (d := 0) (by decide) hc hP)).trans ?_
  rw [Nat.add_zero]
  by_cases z : Ch n T i = c
  · rw [if_pos z, if_pos z]
    refine (iF (show ¬ (1 : Int32) = 0 by decide)).trans ((iT (Or.inr rfl)).trans ?_)
    rw [hP.2.1, nI_1]
  · rw [if_neg z, if_neg z]
    exact (iT rfl).trans (iT (Or.inl rfl))
theorem x_accT (hT : TX n T) {i c : Nat} (hc : c ≤ 126) (hP : PX n T i G) (h : Ch n T i = c) : D_Script_accept kk (nI c) G = okI 1 (si G (0, 12) 5 (nI (i + 1))) := by
  have := x_acc (kk := kk) hT hc hP
  rw [if_pos h, if_pos h] at this
  exact this
theorem x_accF (hT : TX n T) {i c : Nat} (hc : c ≤ 126) (hP : PX n T i G) (h : ¬ Ch n T i = c) : D_Script_accept kk (nI c) G = okI 0 G := by
  have := x_acc (kk := kk) hT hc hP
  rw [if_neg h, if_neg h] at this
  exact this
theorem x_digT (hT : TX n T) {i : Nat} (hP : PX n T i G) (h : isD (Ch n T i) = true) : D_Script_takeDigit kk G = okI (nI (Ch n T i - 48)) (si G (0, 12) 5 (nI (i + 1))) := by
  have hb := (isD_b _).mp h
  have hi := ch_lt hT (i := i) (by omega)
  have h60 := hT.1
  obtain ⟨p1, p2, p3, p4⟩ := hP
  unfold D_Script_takeDigit
  rw [p1, p2]
  refine (iF (nI_pos (by omega))).trans ((iF (nI_ge hi (by omega))).trans ((iT (nI_lt (b := 60) (by omega) (by decide))).trans ((bT (in_of (by omega) (by decide))).trans ?_)))
  rw [nI_clamp (by omega), p3 i hi, (ch_in hT hi).2.2]
  refine (iF (nI_nlt (b := 48) hb.1 (by omega))).trans ((iT (nI_le (b := 57) hb.2 (by decide))).trans ?_)
  rw [nI_1, show nI (Ch n T i) - (48 : Int32) = nI (Ch n T i - 48) from pk_sub (b := 48) (by omega)]
theorem x_digF (hT : TX n T) {i : Nat} (hP : PX n T i G) (h : ¬ isD (Ch n T i) = true) : D_Script_takeDigit kk G = okI (-1) G := by
  have h60 := hT.1
  obtain ⟨p1, p2, p3, p4⟩ := hP
  unfold D_Script_takeDigit
  rw [p1, p2]
  refine (iF (nI_pos (by omega))).trans ?_
  by_cases hi : i < n
  · refine (iF (nI_ge hi (by omega))).trans ((iT (nI_lt (b := 60) (by omega) (by decide))).trans ((bT (in_of (by omega) (by decide))).trans ?_))
    have hc := ch_in hT hi
    rw [nI_clamp (by omega), p3 i hi, hc.2.2]
    rcases Nat.lt_or_ge (Ch n T i) 48 with q | q
    · exact iT (nI_lt (b := 48) q (by decide))
    · refine (iF (nI_nlt (b := 48) q (by omega))).trans (iF (nI_ge (a := 57) ?_ (by omega)))
      rcases Nat.lt_or_ge 57 (Ch n T i) with r | r
      · exact r
      · exact absurd ((isD_b _).mpr ⟨q, r⟩) h
  · exact iT (nI_le (by omega) (by omega))
theorem x_set {m a : Nat} {v : Int32} (hm : m < 15) (ha : a < 3) (h4 : gi G (0, 12) 4 = nI m) : D_Script_setArgument kk (nI a) v G = okV (sa G (0, 15) (3 * m + a) v) := by
  unfold D_Script_setArgument
  rw [h4, show nI m * (3 : Int32) = nI (3 * m) from by rw [Int32.mul_comm]; exact pk_mul 3 m, nI_add]
  refine (iF (nI_pos (by omega))).trans ((iF (nI_ge (b := 45) (by omega) (by decide))).trans ((bT (in_of (by omega) (by decide))).trans ?_))
  rw [nI_clamp (by omega)]
theorem m1_ne {c : Nat} (h : c < 2 ^ 31) : ¬ nI c = -1 := fun z => absurd (nI_pos h) (by rw [z]; decide)
theorem x_rdT (hT : TX n T) {i m a : Nat} (hm : m < 15) (ha : a < 3) (h4 : gi G (0, 12) 4 = nI m) (hP : PX n T i G) (h : isD (Ch n T i) = true) : D_Script_readDigit kk (nI a) G = okI 1 (sa (si G (0, 12) 5 (nI (i + 1))) (0, 15) (3 * m + a) (nI (Ch n T i - 48))) := by
  have hb := (isD_b _).mp h
  exact (rI (x_digT hT hP h)).trans ((rV (x_set hm ha (g4_s.trans h4))).trans (iF (m1_ne (by omega))))
theorem x_rdF (hT : TX n T) {i m a : Nat} (hm : m < 15) (ha : a < 3) (h4 : gi G (0, 12) 4 = nI m) (hP : PX n T i G) (h : ¬ isD (Ch n T i) = true) : D_Script_readDigit kk (nI a) G = okI 0 (sa G (0, 15) (3 * m + a) (-1)) :=
  (rI (x_digF hT hP h)).trans ((rV (x_set hm ha h4)).trans (iT rfl))
theorem x_num (hT : TX n T) {i m a : Nat} (hm : m < 15) (ha : a < 3) (h4 : gi G (0, 12) 4 = nI m) (hP : PX n T i G) : ∃ G', D_Script_readNumber kk (nI a) G = okI (if (numS (Ch n T) i).1 = true then 1 else 0) G' ∧ PX n T (numS (Ch n T) i).2.1 G' ∧ FrA (3 * m) G G' ∧ ((numS (Ch n T) i).1 = true → ga G' (0, 15) (3 * m + a) = (numS (Ch n T) i).2.2) ∧ ∀ b, b ≠ 3 * m + a → ga G' (0, 15) b = ga G (0, 15) b := by
  by_cases h : isD (Ch n T i) = true
  · have hb := (isD_b _).mp h
    have hi := ch_lt hT (i := i) (by omega)
    have P1 := PX_s hP (j := i + 1) hi
    by_cases h2 : isD (Ch n T (i + 1)) = true
    · have hb2 := (isD_b _).mp h2
      have hi2 := ch_lt hT (i := i + 1) (by omega)
      have P2 := PX_s P1 (j := i + 2) hi2
      have e : numS (Ch n T) i = (true, i + 2, nI (10 * (Ch n T i - 48) + (Ch n T (i + 1) - 48))) := by
        unfold numS; rw [if_pos h, if_pos h2]
      rw [e]
      refine ⟨sa (si (si G (0, 12) 5 (nI (i + 1))) (0, 12) 5 (nI (i + 2))) (0, 15) (3 * m + a) (nI (10 * (Ch n T i - 48) + (Ch n T (i + 1) - 48))), ?_, PX_a P2, (FrA_s.tr FrA_s).tr (FrA_a (by omega)), fun _ => by rw [ga_sa, if_pos ⟨rfl, rfl⟩], fun b hne => by rw [ga_sa, if_neg (fun z => hne z.2)]; rfl⟩
      refine (rI (x_digT hT hP h)).trans ((iF (m1_ne (by omega))).trans ((rI (x_digT hT P1 h2)).trans ((iF (m1_ne (by omega))).trans ?_)))
      rw [show nI (Ch n T i - 48) * (10 : Int32) = nI (10 * (Ch n T i - 48)) from by rw [Int32.mul_comm]; exact pk_mul 10 _, nI_add]
      exact rV (x_set hm ha (g4_s.trans (g4_s.trans h4)))
    · have e : numS (Ch n T) i = (true, i + 1, nI (Ch n T i - 48)) := by
        unfold numS; rw [if_pos h, if_neg h2]
      rw [e]
      refine ⟨sa (si G (0, 12) 5 (nI (i + 1))) (0, 15) (3 * m + a) (nI (Ch n T i - 48)), ?_, PX_a P1, FrA_s.tr (FrA_a (by omega)), fun _ => by rw [ga_sa, if_pos ⟨rfl, rfl⟩], fun b hne => by rw [ga_sa, if_neg (fun z => hne z.2)]; rfl⟩
      exact (rI (x_digT hT hP h)).trans ((iF (m1_ne (by omega))).trans ((rI (x_digF hT P1 h2)).trans ((iT rfl).trans (rV (x_set hm ha (g4_s.trans h4))))))
  · have e : numS (Ch n T) i = (false, i, 0) := by
      unfold numS; rw [if_neg h]
    rw [e]
    exact ⟨G, (rI (x_digF hT hP h)).trans (iT rfl), hP, FrA.rf, fun z => absurd z Bool.false_ne_true, fun _ _ => rfl⟩
def argsX (m kw : Nat) (r : PR) (G : GS) : Prop := (kw ≠ 4 → ga G (0, 15) (3 * m) = r.2.2.1) ∧ (kw = 0 ∨ kw = 2 → ga G (0, 15) (3 * m + 1) = r.2.2.2.1) ∧ (kw = 0 → ga G (0, 15) (3 * m + 2) = r.2.2.2.2)
def XB (n : Nat) (T : Nat → Int32) (m kw : Nat) (r : PR) (A : Res) (G : GS) : Prop := ∃ G', A = okI (if r.1 = true then 1 else 0) G' ∧ PX n T r.2.1 G' ∧ FrA (3 * m) G G' ∧ (r.1 = true → argsX m kw r G')
theorem XB_F {m kw p : Nat} {A : Res} {G G' : GS} {r : PR} (hr : r = (false, p, 0, 0, 0)) (h1 : A = okI 0 G') (h2 : PX n T p G') (h3 : FrA (3 * m) G G') : XB n T m kw r A G := by
  subst hr
  exact ⟨G', h1, h2, h3, fun z => absurd z Bool.false_ne_true⟩
theorem g4_a {j : Nat} {v : Int32} : gi (sa G (0, 15) j v) (0, 12) 4 = gi G (0, 12) 4 := rfl
theorem FrA4 {m : Nat} {G' : GS} (h : FrA m G G') : gi G' (0, 12) 4 = gi G (0, 12) 4 := h.1 _ _ (fun z => by cases z.2)
theorem ga_e {i a b : Nat} {v : Int32} : ga (sa (si G (0, 12) 5 (nI i)) (0, 15) a v) (0, 15) b = if b = a then v else ga G (0, 15) b := by
  rw [ga_sa]
  by_cases e : b = a
  · rw [if_pos ⟨rfl, e⟩, if_pos e]
  · rw [if_neg (fun z => e z.2), if_neg e]; rfl
theorem x_E1 (hT : TX n T) {i m : Nat} (hm : m < 15) (h4 : gi G (0, 12) 4 = nI m) (hP : PX n T i G) : XB n T m 1 (bodyS (Ch n T) 1 i) (E1 kk G) G := by
  by_cases h : isD (Ch n T i) = true
  · have hb := (isD_b _).mp h
    have hi := ch_lt hT (i := i) (by omega)
    have e : bodyS (Ch n T) 1 i = (true, i + 1, nI (Ch n T i - 48), 0, 0) := if_pos h
    rw [e]
    exact ⟨_, (rI (x_rdT hT hm (a := 0) (by decide) h4 hP h)).trans (iT (Or.inr rfl)), PX_a (PX_s hP hi), FrA_s.tr (FrA_a (by omega)), fun _ => ⟨fun _ => by rw [ga_e, if_pos (by omega)], fun z => by omega, fun z => by omega⟩⟩
  · exact XB_F (show bodyS (Ch n T) 1 i = _ from if_neg h) ((rI (x_rdF hT hm (a := 0) (by decide) h4 hP h)).trans (iT (Or.inl rfl))) (PX_a hP) (FrA_a (by omega))
theorem x_E5 (hT : TX n T) {i m : Nat} (hm : m < 15) (h4 : gi G (0, 12) 4 = nI m) (hP : PX n T i G) : XB n T m 5 (bodyS (Ch n T) 5 i) (E5 kk G) G := by
  obtain ⟨G', g1, g2, g3, g5, g6⟩ := x_num (kk := kk) hT hm (a := 0) (by decide) h4 hP
  by_cases h : (numS (Ch n T) i).1 = true
  · have e : bodyS (Ch n T) 5 i = (true, (numS (Ch n T) i).2.1, (numS (Ch n T) i).2.2, 0, 0) := if_pos h
    rw [if_pos h] at g1
    rw [e]
    exact ⟨G', (rI g1).trans (iT (Or.inr rfl)), g2, g3, fun _ => ⟨fun _ => g5 h, fun z => by omega, fun z => by omega⟩⟩
  · rw [if_neg h] at g1
    exact XB_F (show bodyS (Ch n T) 5 i = _ from if_neg h) ((rI g1).trans (iT (Or.inl rfl))) g2 g3
theorem x_E2 (hT : TX n T) {i m : Nat} (hm : m < 15) (h4 : gi G (0, 12) 4 = nI m) (hP : PX n T i G) : XB n T m 2 (bodyS (Ch n T) 2 i) (E2 kk G) G := by
  by_cases h : isD (Ch n T i) = true
  · have hb := (isD_b _).mp h
    have hi := ch_lt hT (i := i) (by omega)
    have P1 : PX n T (i + 1) (sa (si G (0, 12) 5 (nI (i + 1))) (0, 15) (3 * m + 0) (nI (Ch n T i - 48))) := PX_a (PX_s hP hi)
    have f1 : FrA (3 * m) G (sa (si G (0, 12) 5 (nI (i + 1))) (0, 15) (3 * m + 0) (nI (Ch n T i - 48))) := FrA_s.tr (FrA_a (by omega))
    have d1 := x_rdT (kk := kk) hT hm (a := 0) (by decide) h4 hP h
    by_cases h2 : Ch n T (i + 1) = 32
    · have hi2 := ch_lt hT (i := i + 1) (by omega)
      have P2 := PX_s P1 (j := i + 2) hi2
      have r1 := x_accT (kk := kk) hT (c := 32) (by decide) P1 h2
      by_cases h3 : isD (Ch n T (i + 2)) = true
      · have hb3 := (isD_b _).mp h3
        have hi3 := ch_lt hT (i := i + 2) (by omega)
        have e : bodyS (Ch n T) 2 i = (true, i + 3, nI (Ch n T i - 48), nI (Ch n T (i + 2) - 48), 0) := by
          simp [bodyS, h, h2, h3]
        rw [e]
        refine ⟨_, (rI d1).trans ((iF (by decide)).trans ((rI r1).trans ((iF (by decide)).trans ((rI (x_rdT hT hm (a := 1) (by decide) (g4_s.trans ((FrA4 f1).trans h4)) P2 h3)).trans (iF (by decide)))))), PX_a (PX_s P2 hi3), (f1.tr FrA_s).tr (FrA_s.tr (FrA_a (by omega))), fun _ => ⟨fun _ => ?_, fun _ => ?_, fun z => by omega⟩⟩
        · rw [ga_e, if_neg (by omega)]
          show ga (sa (si G (0, 12) 5 (nI (i + 1))) (0, 15) (3 * m + 0) (nI (Ch n T i - 48))) (0, 15) (3 * m) = _
          rw [ga_e, if_pos (by omega)]
        · rw [ga_e, if_pos rfl]
      · refine XB_F (p := i + 2) (show bodyS (Ch n T) 2 i = _ from by simp [bodyS, h, h2, h3]) ((rI d1).trans ((iF (by decide)).trans ((rI r1).trans ((iF (by decide)).trans ((rI (x_rdF hT hm (a := 1) (by decide) (g4_s.trans ((FrA4 f1).trans h4)) P2 h3)).trans (iT rfl)))))) (PX_a P2) ((f1.tr FrA_s).tr (FrA_a (by omega)))
    · refine XB_F (p := i + 1) (show bodyS (Ch n T) 2 i = _ from by simp [bodyS, h, h2]) ((rI d1).trans ((iF (by decide)).trans ((rI (x_accF hT (c := 32) (by decide) P1 h2)).trans (iT rfl)))) P1 f1
  · exact XB_F (show bodyS (Ch n T) 2 i = _ from if_neg h) ((rI (x_rdF hT hm (a := 0) (by decide) h4 hP h)).trans (iT rfl)) (PX_a hP) (FrA_a (by omega))
theorem x_E3 (hT : TX n T) {i m : Nat} (hm : m < 15) (h4 : gi G (0, 12) 4 = nI m) (hP : PX n T i G) : XB n T m 3 (bodyS (Ch n T) 3 i) (E3 kk G) G := by
  have P0 : PX n T i (sa G (0, 15) (3 * m + 0) 1) := PX_a hP
  have s0 := x_set (kk := kk) (v := 1) hm (a := 0) (by decide) h4
  by_cases h : Ch n T i = 32
  · have hi := ch_lt hT (i := i) (by omega)
    have P1 := PX_s P0 (j := i + 1) hi
    obtain ⟨G', g1, g2, g3, g5, g6⟩ := x_num (kk := kk) hT hm (a := 0) (by decide) (g4_s.trans (show gi (sa G (0, 15) (3 * m + 0) 1) (0, 12) 4 = nI m from h4)) P1
    have r1 := x_accT (kk := kk) hT (c := 32) (by decide) P0 h
    by_cases h2 : (numS (Ch n T) (i + 1)).1 = true
    · have e : bodyS (Ch n T) 3 i = (true, (numS (Ch n T) (i + 1)).2.1, (numS (Ch n T) (i + 1)).2.2, 0, 0) := by
        simp [bodyS, h, h2]
      rw [if_pos h2] at g1
      rw [e]
      exact ⟨G', (rV s0).trans ((rI r1).trans ((iF (by decide)).trans ((rI g1).trans (iF (by decide))))), g2, ((FrA_a (by omega)).tr FrA_s).tr g3, fun _ => ⟨fun _ => g5 h2, fun z => by omega, fun z => by omega⟩⟩
    · rw [if_neg h2] at g1
      exact XB_F (show bodyS (Ch n T) 3 i = _ from by simp [bodyS, h, h2]) ((rV s0).trans ((rI r1).trans ((iF (by decide)).trans ((rI g1).trans (iT rfl))))) g2 (((FrA_a (by omega)).tr FrA_s).tr g3)
  · have e : bodyS (Ch n T) 3 i = (true, i, 1, 0, 0) := if_neg h
    rw [e]
    exact ⟨_, (rV s0).trans ((rI (x_accF hT (c := 32) (by decide) P0 h)).trans (iT rfl)), P0, FrA_a (by omega), fun _ => ⟨fun _ => by rw [ga_sa, if_pos ⟨rfl, by omega⟩], fun z => by omega, fun z => by omega⟩⟩
theorem x_argAt {m : Nat} (hm : m < 15) : D_Script_argumentAt kk (nI m) 0 G = okI (ga G (0, 15) (3 * m)) G := by
  unfold D_Script_argumentAt
  rw [show nI m * (3 : Int32) + (0 : Int32) = nI (3 * m) from by rw [Int32.mul_comm, Int32.add_zero]; exact pk_mul 3 m]
  refine (iF (nI_pos (by omega))).trans ((iF (nI_ge (b := 45) (by omega) (by decide))).trans ((bT (in_of (by omega) (by decide))).trans ?_))
  rw [nI_clamp (by omega)]
theorem x_E6 (hT : TX n T) {i m : Nat} (hm : m < 15) (h4 : gi G (0, 12) 4 = nI m) (hP : PX n T i G) : XB n T m 6 (bodyS (Ch n T) 6 i) (E6 kk G) G := by
  by_cases h : Ch n T i = 45
  · have hi := ch_lt hT (i := i) (by omega)
    have P1 := PX_s hP (j := i + 1) hi
    have r1 := x_accT (kk := kk) hT (c := 45) (by decide) hP h
    obtain ⟨G', g1, g2, g3, g5, g6⟩ := x_num (kk := kk) hT hm (a := 0) (by decide) (g4_s.trans h4) P1
    by_cases h2 : (numS (Ch n T) (i + 1)).1 = true
    · have e : bodyS (Ch n T) 6 i = (true, (numS (Ch n T) (i + 1)).2.1, -(numS (Ch n T) (i + 1)).2.2, 0, 0) := by
        simp [bodyS, h, h2]
      rw [if_pos h2] at g1
      rw [e]
      have h4' : gi G' (0, 12) 4 = nI m := (FrA4 g3).trans (g4_s.trans h4)
      have hs : D_Script_readSignedNumber kk 0 G = okI 1 (sa G' (0, 15) (3 * m + 0) (-(ga G' (0, 15) (3 * m)))) := by
        refine (rI r1).trans ((rI g1).trans ((iF (show ¬ (1 : Int32) = 0 by decide)).trans ((iF (show ¬ (1 : Int32) = 0 by decide)).trans ?_)))
        rw [h4']
        exact (rI (x_argAt hm)).trans ((rV (x_set hm (a := 0) (by decide) h4')).trans (iT (Or.inr rfl)))
      refine ⟨_, (rI hs).trans (iT (Or.inr rfl)), PX_a g2, (FrA_s.tr g3).tr (FrA_a (by omega)), fun _ => ⟨fun _ => ?_, fun z => by omega, fun z => by omega⟩⟩
      rw [ga_sa, if_pos ⟨rfl, by omega⟩]
      exact congrArg (fun z => -z) (g5 h2)
    · rw [if_neg h2] at g1
      have hs : D_Script_readSignedNumber kk 0 G = okI 0 G' := (rI r1).trans ((rI g1).trans ((iT rfl).trans (iT (Or.inl rfl))))
      exact XB_F (show bodyS (Ch n T) 6 i = _ from by simp [bodyS, h, h2]) ((rI hs).trans (iT (Or.inl rfl))) g2 (FrA_s.tr g3)
  · have r1 := x_accF (kk := kk) hT (c := 45) (by decide) hP h
    obtain ⟨G', g1, g2, g3, g5, g6⟩ := x_num (kk := kk) hT hm (a := 0) (by decide) h4 hP
    by_cases h2 : (numS (Ch n T) i).1 = true
    · have e : bodyS (Ch n T) 6 i = (true, (numS (Ch n T) i).2.1, (numS (Ch n T) i).2.2, 0, 0) := by
        simp [bodyS, h, h2]
      rw [if_pos h2] at g1
      rw [e]
      have hs : D_Script_readSignedNumber kk 0 G = okI 1 G' := (rI r1).trans ((rI g1).trans ((iF (show ¬ (1 : Int32) = 0 by decide)).trans ((iT rfl).trans (iT (Or.inr rfl)))))
      exact ⟨G', (rI hs).trans (iT (Or.inr rfl)), g2, g3, fun _ => ⟨fun _ => g5 h2, fun z => by omega, fun z => by omega⟩⟩
    · rw [if_neg h2] at g1
      have hs : D_Script_readSignedNumber kk 0 G = okI 0 G' := (rI r1).trans ((rI g1).trans ((iT rfl).trans (iT (Or.inl rfl))))
      exact XB_F (show bodyS (Ch n T) 6 i = _ from by simp [bodyS, h, h2]) ((rI hs).trans (iT (Or.inl rfl))) g2 g3
theorem x_E0 (hT : TX n T) {i m : Nat} (hm : m < 15) (h4 : gi G (0, 12) 4 = nI m) (hP : PX n T i G) : XB n T m 0 (bodyS (Ch n T) 0 i) (E0 kk G) G := by
  by_cases h : isD (Ch n T i) = true
  · have hb := (isD_b _).mp h
    have hi := ch_lt hT (i := i) (by omega)
    have P1 : PX n T (i + 1) (sa (si G (0, 12) 5 (nI (i + 1))) (0, 15) (3 * m + 0) (nI (Ch n T i - 48))) := PX_a (PX_s hP hi)
    have f1 : FrA (3 * m) G (sa (si G (0, 12) 5 (nI (i + 1))) (0, 15) (3 * m + 0) (nI (Ch n T i - 48))) := FrA_s.tr (FrA_a (by omega))
    have d1 := x_rdT (kk := kk) hT hm (a := 0) (by decide) h4 hP h
    by_cases h2 : Ch n T (i + 1) = 32
    · have hi2 := ch_lt hT (i := i + 1) (by omega)
      have P2 := PX_s P1 (j := i + 2) hi2
      have f2 := f1.tr (FrA_s (m := 3 * m) (j := i + 2))
      have r1 := x_accT (kk := kk) hT (c := 32) (by decide) P1 h2
      obtain ⟨G3, g1, g2, g3, g5, g6⟩ := x_num (kk := kk) hT hm (a := 1) (by decide) ((FrA4 f2).trans h4) P2
      have f3 := f2.tr g3
      by_cases h3 : (numS (Ch n T) (i + 2)).1 = true
      · rw [if_pos h3] at g1
        by_cases h5 : Ch n T (numS (Ch n T) (i + 2)).2.1 = 32
        · have hi4 := ch_lt hT (i := (numS (Ch n T) (i + 2)).2.1) (by omega)
          have P4 := PX_s g2 (j := (numS (Ch n T) (i + 2)).2.1 + 1) hi4
          have f4 := f3.tr (FrA_s (m := 3 * m) (j := (numS (Ch n T) (i + 2)).2.1 + 1))
          have r2 := x_accT (kk := kk) hT (c := 32) (by decide) g2 h5
          by_cases h6 : isD (Ch n T ((numS (Ch n T) (i + 2)).2.1 + 1)) = true
          · have hb6 := (isD_b _).mp h6
            have hi6 := ch_lt hT (i := (numS (Ch n T) (i + 2)).2.1 + 1) (by omega)
            have e : bodyS (Ch n T) 0 i = (true, (numS (Ch n T) (i + 2)).2.1 + 2, nI (Ch n T i - 48), (numS (Ch n T) (i + 2)).2.2, nI (Ch n T ((numS (Ch n T) (i + 2)).2.1 + 1) - 48)) := by
              simp [bodyS, h, h2, h3, h5, h6]
            rw [e]
            refine ⟨_, (rI d1).trans ((iF (by decide)).trans ((rI r1).trans ((iF (by decide)).trans ((rI g1).trans ((iF (by decide)).trans ((rI r2).trans ((iF (by decide)).trans ((rI (x_rdT hT hm (a := 2) (by decide) ((FrA4 f4).trans h4) P4 h6)).trans (iF (by decide)))))))))), PX_a (PX_s P4 hi6), f4.tr (FrA_s.tr (FrA_a (by omega))), fun _ => ⟨fun _ => ?_, fun _ => ?_, fun _ => ?_⟩⟩
            · rw [ga_e, if_neg (by omega)]
              show ga G3 (0, 15) (3 * m) = _
              rw [g6 (3 * m) (by omega)]
              show ga (sa (si G (0, 12) 5 (nI (i + 1))) (0, 15) (3 * m + 0) (nI (Ch n T i - 48))) (0, 15) (3 * m) = _
              rw [ga_e, if_pos (by omega)]
            · rw [ga_e, if_neg (by omega)]
              exact g5 h3
            · rw [ga_e, if_pos rfl]
          · refine XB_F (show bodyS (Ch n T) 0 i = _ from by simp [bodyS, h, h2, h3, h5, h6]) ((rI d1).trans ((iF (by decide)).trans ((rI r1).trans ((iF (by decide)).trans ((rI g1).trans ((iF (by decide)).trans ((rI r2).trans ((iF (by decide)).trans ((rI (x_rdF hT hm (a := 2) (by decide) ((FrA4 f4).trans h4) P4 h6)).trans (iT rfl)))))))))) (PX_a P4) (f4.tr (FrA_a (by omega)))
        · refine XB_F (show bodyS (Ch n T) 0 i = _ from by simp [bodyS, h, h2, h3, h5]) ((rI d1).trans ((iF (by decide)).trans ((rI r1).trans ((iF (by decide)).trans ((rI g1).trans ((iF (by decide)).trans ((rI (x_accF hT (c := 32) (by decide) g2 h5)).trans (iT rfl)))))))) g2 f3
      · rw [if_neg h3] at g1
        refine XB_F (show bodyS (Ch n T) 0 i = _ from by simp [bodyS, h, h2, h3]) ((rI d1).trans ((iF (by decide)).trans ((rI r1).trans ((iF (by decide)).trans ((rI g1).trans (iT rfl)))))) g2 f3
    · refine XB_F (p := i + 1) (show bodyS (Ch n T) 0 i = _ from by simp [bodyS, h, h2]) ((rI d1).trans ((iF (by decide)).trans ((rI (x_accF hT (c := 32) (by decide) P1 h2)).trans (iT rfl)))) P1 f1
  · exact XB_F (show bodyS (Ch n T) 0 i = _ from if_neg h) ((rI (x_rdF hT hm (a := 0) (by decide) h4 hP h)).trans (iT rfl)) (PX_a hP) (FrA_a (by omega))
end Xs
section Xk
variable {kk n : Nat} {T : Nat → Int32} {G : GS}
theorem jS_kw : ∀ q, q < 7 → jS.getD q [] = (kwL.getD q []).map nI := by decide
theorem x_count (hT : TX n T) {i q : Nat} (hq : q < 7) (hP : PX n T i G) : ∀ (l : List Nat) (pre : List Nat) (k : Nat), kwL.getD q [] = pre ++ l → pre.length + l.length ≤ 10 → (∀ c ∈ l, c ≤ 126) → l.length < k → L_Script_countMatching kk k q (nI pre.length) G = okI (nI (pre.length + cm (Ch n T) l (i + pre.length))) G
  | [], pre, k, he, h10, hc, hk => by
    obtain ⟨k, rfl⟩ : ∃ j, k = j + 1 := ⟨k - 1, by omega⟩
    have hl : (jS.getD q []).length = pre.length := by rw [jS_kw q hq, he, List.length_map, List.append_nil]
    refine (rI (v := nI (jS.getD q []).length) (G := G) (iT hq)).trans ?_
    rw [hl]
    exact iT (nI_le (Nat.le_refl _) (by have : pre.length + 0 ≤ 10 := h10; omega))
  | c :: l, pre, k, he, h10, hc, hk => by
    obtain ⟨k, rfl⟩ : ∃ j, k = j + 1 := ⟨k - 1, by omega⟩
    rw [List.length_cons] at h10 hk
    have hl : (jS.getD q []).length = pre.length + (l.length + 1) := by rw [jS_kw q hq, he, List.length_map, List.length_append, List.length_cons]
    have hg : (jS.getD q []).getD pre.length 0 = nI c := by
      rw [jS_kw q hq, he, List.map_append, List.getD_eq_getElem?_getD, List.getElem?_append_right (by rw [List.length_map]; exact Nat.le_refl _), List.length_map, Nat.sub_self]; rfl
    have hs : D_sat q (nI pre.length) G = okI (nI c) G := by
      refine (iT hq).trans ((bT (in_of (by rw [hl]; omega) (by rw [hl]; omega))).trans ?_)
      rw [nI_clamp (by omega), hg]
    have hc1 : c ≤ 126 := hc c (List.mem_cons_self ..)
    refine (rI (v := nI (jS.getD q []).length) (G := G) (iT hq)).trans ?_
    rw [hl]
    refine (iF (nI_ge (by omega) (by omega))).trans ((rI hs).trans ((rI (x_next hT (by omega) hc1 hP)).trans ?_))
    by_cases z : Ch n T (i + pre.length) = c
    · rw [if_pos z]
      refine (iF (show ¬ (1 : Int32) = 0 by decide)).trans ?_
      have ih := x_count hT hq hP l (pre ++ [c]) k (by rw [he, List.append_assoc]; rfl) (by rw [List.length_append]; show pre.length + 1 + l.length ≤ 10; omega) (fun x hx => hc x (List.mem_cons_of_mem _ hx)) (by omega)
      rw [show (pre ++ [c]).length = pre.length + 1 by rw [List.length_append]; rfl] at ih
      rw [nI_1, ih, cm_c z, show pre.length + 1 + cm (Ch n T) l (i + (pre.length + 1)) = pre.length + (cm (Ch n T) l (i + pre.length + 1) + 1) by rw [show i + (pre.length + 1) = i + pre.length + 1 by omega]; omega]
    · rw [if_neg z, cm_n z]
      exact iT rfl
theorem kw_len : ∀ q, q < 7 → (kwL.getD q []).length ≤ 7 ∧ (∀ c ∈ kwL.getD q [], c ≤ 126) ∧ kwL.drop q = kwL.getD q [] :: kwL.drop (q + 1) := by decide
theorem cm_le (C : Nat → Nat) : ∀ (l : List Nat) (i : Nat), cm C l i ≤ l.length
  | [], _ => Nat.le_refl 0
  | a :: l, i => by
    unfold cm
    have := cm_le C l (i + 1)
    by_cases z : C i = a
    · rw [if_pos z, List.length_cons]; omega
    · rw [if_neg z]; exact Nat.zero_le _
theorem x_kwOf : ∀ q, q < 7 → D_Script_keywordOf kk (nI q) G = okR (q, 200) G
  | 0, _ => rfl
  | 1, _ => rfl
  | 2, _ => rfl
  | 3, _ => rfl
  | 4, _ => rfl
  | 5, _ => rfl
  | 6, _ => rfl
theorem x_kw (hT : TX n T) (hk : 40 ≤ kk) {i : Nat} (hi : i ≤ 60) (hP : PX n T i G) : ∀ (m idx best k : Nat), idx + m = 7 → m < k → best ≤ 10 → L_Script_readKeyword kk k (nI best) (nI idx) G = okI (nI (kwG (Ch n T) i (kwL.drop idx) idx best).1) (si G (0, 12) 5 (nI (kwG (Ch n T) i (kwL.drop idx) idx best).2))
  | 0, idx, best, k, hm, hk2, hb => by
    obtain ⟨k, rfl⟩ : ∃ j, k = j + 1 := ⟨k - 1, by omega⟩
    obtain rfl : idx = 7 := by omega
    refine (show _ = okI (7 : Int32) (si G (0, 12) 5 (gi G (0, 12) 5 + nI best)) from rfl).trans ?_
    rw [hP.2.1, nI_add]; rfl
  | m + 1, idx, best, k, hm, hk2, hb => by
    obtain ⟨k, rfl⟩ : ∃ j, k = j + 1 := ⟨k - 1, by omega⟩
    have h7 : idx < 7 := by omega
    obtain ⟨k1, k2, k3⟩ := kw_len idx h7
    have hc := x_count (kk := kk) hT h7 hP (kwL.getD idx []) [] kk rfl (by show 0 + _ ≤ 10; omega) k2 (by omega)
    have hle := cm_le (Ch n T) (kwL.getD idx []) i
    have hl : (jS.getD idx []).length = (kwL.getD idx []).length := by rw [jS_kw idx h7, List.length_map]
    refine (iF (nI_ge (b := 7) h7 (by decide))).trans ((rR (x_kwOf idx h7)).trans ?_)
    refine (rI (v := nI (cm (Ch n T) (kwL.getD idx []) i)) (G := G) (by
      refine hc.trans ?_
      show okI (nI (0 + cm (Ch n T) (kwL.getD idx []) (i + 0))) G = _
      rw [Nat.zero_add, Nat.add_zero])).trans ?_
    refine (rI (v := nI (jS.getD idx []).length) (G := G) (iT h7)).trans ?_
    rw [hl, k3]
    show _ = okI (nI (if cm (Ch n T) (kwL.getD idx []) i = (kwL.getD idx []).length then (idx, i + (kwL.getD idx []).length) else kwG (Ch n T) i (kwL.drop (idx + 1)) (idx + 1) (max best (cm (Ch n T) (kwL.getD idx []) i))).1) (si G (0, 12) 5 (nI (if cm (Ch n T) (kwL.getD idx []) i = (kwL.getD idx []).length then (idx, i + (kwL.getD idx []).length) else kwG (Ch n T) i (kwL.drop (idx + 1)) (idx + 1) (max best (cm (Ch n T) (kwL.getD idx []) i))).2))
    by_cases z : cm (Ch n T) (kwL.getD idx []) i = (kwL.getD idx []).length
    · refine (iT (by rw [z])).trans ?_
      rw [if_pos z, hP.2.1, nI_add, z]
    · refine (iF (fun y => z ((nI_eq (by omega) (by omega)).mp y))).trans ?_
      rw [if_neg z]
      refine (rI (v := nI (max best (cm (Ch n T) (kwL.getD idx []) i))) (G := G) ?_).trans ?_
      · show okI (if nI best < nI (cm (Ch n T) (kwL.getD idx []) i) then _ else _) G = _
        rcases Nat.lt_or_ge best (cm (Ch n T) (kwL.getD idx []) i) with y | y
        · rw [if_pos (nI_lt y (by omega)), Nat.max_eq_right (by omega)]
        · rw [if_neg (nI_nlt y (by omega)), Nat.max_eq_left y]
      · rw [nI_1]
        exact x_kw hT hk hi hP m (idx + 1) _ k (by omega) (by omega) (by omega)
/-- what a command leaves in the class -/
def XC (n : Nat) (T : Nat → Int32) (m i : Nat) (A : Res) (G : GS) : Prop := ∃ G', A = okI (if (cmdS (Ch n T) i).2.1 = true then 1 else 0) G' ∧ PX n T (cmdS (Ch n T) i).2.2.1 G' ∧ FrA (3 * m) (sa G (0, 14) m (nI (cmdS (Ch n T) i).1)) G' ∧ ((cmdS (Ch n T) i).2.1 = true → argsX m (cmdS (Ch n T) i).1 (cmdS (Ch n T) i).2 G')
theorem kwG_le (C : Nat → Nat) (i : Nat) : ∀ (ks : List (List Nat)) (idx best : Nat), idx ≤ (kwG C i ks idx best).1 ∧ (kwG C i ks idx best).1 ≤ idx + ks.length
  | [], idx, best => ⟨Nat.le_refl _, Nat.le_refl _⟩
  | k :: ks, idx, best => by
    unfold kwG
    by_cases z : cm C k i = k.length
    · rw [if_pos z]; exact ⟨Nat.le_refl _, Nat.le_add_right ..⟩
    · rw [if_neg z]
      obtain ⟨a, b⟩ := kwG_le C i ks (idx + 1) (max best (cm C k i))
      rw [List.length_cons]
      exact ⟨by omega, by omega⟩
theorem kwS_7 (C : Nat → Nat) (i : Nat) : (kwS C i).1 ≤ 7 := (kwG_le C i kwL 0 0).2
/-- the place stays within the text -/
theorem cm_in (hT : TX n T) : ∀ (l : List Nat) (i : Nat), (∀ c ∈ l, c ≤ 126) → i ≤ n → i + cm (Ch n T) l i ≤ n
  | [], i, _, hi => hi
  | a :: l, i, hc, hi => by
    by_cases z : Ch n T i = a
    · have ha : a ≤ 126 := hc a (List.mem_cons_self ..)
      have h1 := ch_lt hT (i := i) (by omega)
      have := cm_in hT l (i + 1) (fun x hx => hc x (List.mem_cons_of_mem _ hx)) h1
      rw [cm_c z]; omega
    · rw [cm_n z]; exact hi
theorem kwG_in (hT : TX n T) {i : Nat} (hi : i ≤ n) : ∀ (ks : List (List Nat)) (idx best : Nat), (∀ k ∈ ks, ∀ c ∈ k, c ≤ 126) → i + best ≤ n → (kwG (Ch n T) i ks idx best).2 ≤ n
  | [], idx, best, _, h => h
  | k :: ks, idx, best, hc, h => by
    have h1 := cm_in hT k i (hc k (List.mem_cons_self ..)) hi
    unfold kwG
    by_cases z : cm (Ch n T) k i = k.length
    · rw [if_pos z]; show i + k.length ≤ n; omega
    · rw [if_neg z]
      exact kwG_in hT hi ks _ _ (fun x hx => hc x (List.mem_cons_of_mem _ hx)) (by omega)
theorem kwS_in (hT : TX n T) {i : Nat} (hi : i ≤ n) : (kwS (Ch n T) i).2 ≤ n := kwG_in hT hi kwL 0 0 (by decide) (by omega)
theorem x_cmd (hT : TX n T) (hk : 40 ≤ kk) {i m : Nat} (hm : m < 15) (h4 : gi G (0, 12) 4 = nI m) (hP : PX n T i G) : XC n T m i (D_Script_readCommand kk G) G := by
  obtain ⟨k, rfl⟩ : ∃ k, kk = k + 1 := ⟨kk - 1, by omega⟩
  have h60 := hT.1
  have hkw := x_kw (kk := k + 1) hT hk (i := i) (by have := hP.2.2.2; omega) hP 7 0 0 (k + 1) rfl (by omega) (by decide)
  have hin := kwS_in hT hP.2.2.2
  have h7 := kwS_7 (Ch n T) i
  have P1 : PX n T (kwS (Ch n T) i).2 (sa (si G (0, 12) 5 (nI (kwS (Ch n T) i).2)) (0, 14) m (nI (kwS (Ch n T) i).1)) := by
    obtain ⟨p1, p2, p3, p4⟩ := PX_s hP hin
    exact ⟨p1, p2, fun j hj => by rw [ga_sa, if_neg (fun z => absurd z.1 (by decide))]; exact p3 j hj, p4⟩
  have h41 : gi (sa (si G (0, 12) 5 (nI (kwS (Ch n T) i).2)) (0, 14) m (nI (kwS (Ch n T) i).1)) (0, 12) 4 = nI m := (show gi (si G (0, 12) 5 (nI (kwS (Ch n T) i).2)) (0, 12) 4 = nI m from (g4_s (G := G)).trans h4)
  have f1 : FrA (3 * m) (sa G (0, 14) m (nI (kwS (Ch n T) i).1)) (sa (si G (0, 12) 5 (nI (kwS (Ch n T) i).2)) (0, 14) m (nI (kwS (Ch n T) i).1)) := ⟨fun r f q => by
    show gi (si G (0, 12) 5 (nI (kwS (Ch n T) i).2)) r f = gi G r f
    rw [gi_si, if_neg (fun z => q z)], fun _ _ _ => rfl, rfl⟩
  have hcmd : D_Script_readCommand (k + 1) G = L_Script_readCommand (k + 1) (k + 1) (nI (kwS (Ch n T) i).1) (sa (si G (0, 12) 5 (nI (kwS (Ch n T) i).2)) (0, 14) m (nI (kwS (Ch n T) i).1)) := by
    refine (rI (show D_Script_readKeyword (k + 1) G = okI (nI (kwS (Ch n T) i).1) (si G (0, 12) 5 (nI (kwS (Ch n T) i).2)) from hkw)).trans ?_
    rw [g4_s, h4]
    refine (iF (nI_pos (by omega))).trans ((iF (nI_ge (b := 15) hm (by decide))).trans ((bT (in_of hm (by decide))).trans ?_))
    rw [nI_clamp (by omega)]
  rw [hcmd]
  have hE : XB n T m (kwS (Ch n T) i).1 (bodyS (Ch n T) (kwS (Ch n T) i).1 (kwS (Ch n T) i).2) (L_Script_readCommand (k + 1) (k + 1) (nI (kwS (Ch n T) i).1) (sa (si G (0, 12) 5 (nI (kwS (Ch n T) i).2)) (0, 14) m (nI (kwS (Ch n T) i).1))) (sa (si G (0, 12) 5 (nI (kwS (Ch n T) i).2)) (0, 14) m (nI (kwS (Ch n T) i).1)) := by
    generalize (kwS (Ch n T) i).2 = p at P1 h41 ⊢
    generalize (kwS (Ch n T) i).1 = kw at P1 h41 h7 ⊢
    match kw, h7 with
    | 0, _ => exact x_E0 hT hm h41 P1
    | 1, _ => exact x_E1 hT hm h41 P1
    | 2, _ => exact x_E2 hT hm h41 P1
    | 3, _ => exact x_E3 hT hm h41 P1
    | 4, _ => exact ⟨_, rfl, P1, FrA.rf, fun _ => ⟨fun z => absurd rfl z, fun z => by omega, fun z => by omega⟩⟩
    | 5, _ => exact x_E5 hT hm h41 P1
    | 6, _ => exact x_E6 hT hm h41 P1
    | 7, _ => exact ⟨_, rfl, P1, FrA.rf, fun z => absurd z Bool.false_ne_true⟩
  obtain ⟨G', g1, g2, g3, g4⟩ := hE
  exact ⟨G', g1, g2, f1.tr g3, g4⟩
end Xk
/-! BOTH READ THE WHOLE SCRIPT -/
def psS (C : Nat → Nat) (n : Nat) : Nat → Nat → Bool × Nat × List (Nat × PR)
  | 0, i => (false, i, [])
  | f + 1, i => if (cmdS C i).2.1 = true then (if C (cmdS C i).2.2.1 = 59 then ((psS C n f ((cmdS C i).2.2.1 + 1)).1, (psS C n f ((cmdS C i).2.2.1 + 1)).2.1, cmdS C i :: (psS C n f ((cmdS C i).2.2.1 + 1)).2.2) else (decide ((cmdS C i).2.2.1 = n), (cmdS C i).2.2.1, [cmdS C i])) else (false, (cmdS C i).2.2.1, [])
theorem num_ge (C : Nat → Nat) (i : Nat) : i ≤ (numS C i).2.1 := by
  unfold numS
  repeat' split
  all_goals simp
theorem body_ge (C : Nat → Nat) (kw i : Nat) : i ≤ (bodyS C kw i).2.1 := by
  have h0 := num_ge C i
  have h1 := num_ge C (i + 1)
  have h2 := num_ge C (i + 2)
  unfold bodyS
  repeat' split
  all_goals (try simp only)
  all_goals omega
theorem kwG_ge (C : Nat → Nat) (i : Nat) : ∀ (ks : List (List Nat)) (idx best : Nat), (∀ k ∈ ks, 4 ≤ k.length) → (kwG C i ks idx best).1 < idx + ks.length → i + 4 ≤ (kwG C i ks idx best).2
  | [], idx, best, _, h => absurd h (Nat.lt_irrefl _)
  | k :: ks, idx, best, hl, h => by
    unfold kwG at h ⊢
    by_cases z : cm C k i = k.length
    · rw [if_pos z]
      have := hl k (List.mem_cons_self ..)
      show i + 4 ≤ i + k.length
      omega
    · rw [if_neg z] at h ⊢
      exact kwG_ge C i ks _ _ (fun x hx => hl x (List.mem_cons_of_mem _ hx)) (by rw [List.length_cons] at h; omega)
theorem cmd_ok {C : Nat → Nat} {i : Nat} (h : (cmdS C i).2.1 = true) : (cmdS C i).1 < 7 ∧ i + 4 ≤ (cmdS C i).2.2.1 := by
  have h7 := kwS_7 C i
  have hb := body_ge C (kwS C i).1 (kwS C i).2
  have hne : (kwS C i).1 ≠ 7 := fun z => by
    unfold cmdS at h
    rw [z] at h
    exact absurd h Bool.false_ne_true
  have hk := kwG_ge C i kwL 0 0 (by decide) (show (kwS C i).1 < 7 by omega)
  exact ⟨by show (kwS C i).1 < 7; omega, Nat.le_trans hk hb⟩
/-- what parsing changes in the class from command m on -/
def FrP (m : Nat) (G G' : GS) : Prop := (∀ r f, ¬ (r = (0, 12) ∧ (f = 4 ∨ f = 5)) → gi G' r f = gi G r f) ∧ (∀ (r : Rf) i, ¬ (r = (0, 14) ∧ m ≤ i) → ¬ (r = (0, 15) ∧ 3 * m ≤ i) → ga G' r i = ga G r i) ∧ G'.2.2 = G.2.2
theorem FrP.tr {m : Nat} {G G1 G2 : GS} (h : FrP m G G1) (g : FrP m G1 G2) : FrP m G G2 := ⟨fun r f q => (g.1 r f q).trans (h.1 r f q), fun r i q q' => (g.2.1 r i q q').trans (h.2.1 r i q q'), g.2.2.trans h.2.2⟩
theorem FrP.up {m p : Nat} {G G' : GS} (h : FrP p G G') (hm : m ≤ p) : FrP m G G' := ⟨h.1, fun r i q q' => h.2.1 r i (fun z => q ⟨z.1, by omega⟩) (fun z => q' ⟨z.1, by omega⟩), h.2.2⟩
section Ps
variable {kk n : Nat} {T : Nat → Int32}
theorem FrP_C {m : Nat} {v : Int32} {G G' : GS} (h : FrA (3 * m) (sa G (0, 14) m v) G') : FrP m G G' := ⟨fun r f q => h.1 r f (fun z => q ⟨z.1, Or.inr z.2⟩), fun r i q q' => by
  rw [h.2.1 r i (fun z => q' z), ga_sa, if_neg (fun z => q ⟨z.1, by omega⟩)], h.2.2⟩
theorem FrP_s {m j : Nat} {G : GS} : FrP m G (si G (0, 12) 5 (nI j)) := ⟨fun r f q => by rw [gi_si, if_neg (fun z => q ⟨z.1, Or.inr z.2⟩)], fun _ _ _ _ => rfl, rfl⟩
theorem FrP_4 {m : Nat} {v : Int32} {G : GS} : FrP m G (si G (0, 12) 4 v) := ⟨fun r f q => by rw [gi_si, if_neg (fun z => q ⟨z.1, Or.inl z.2⟩)], fun _ _ _ _ => rfl, rfl⟩
theorem PX_4 {i : Nat} {v : Int32} {G : GS} (hP : PX n T i G) : PX n T i (si G (0, 12) 4 v) := ⟨by rw [gi_si, if_neg (fun z => by cases z.2)]; exact hP.1, by rw [gi_si, if_neg (fun z => by cases z.2)]; exact hP.2.1, hP.2.2.1, hP.2.2.2⟩
theorem argsX_fr {m p kw : Nat} {r : PR} {G G' : GS} (h : argsX m kw r G) (f : FrP p G G') (hp : m < p) : argsX m kw r G' := by
  have e : ∀ j, j < 3 * p → ga G' (0, 15) j = ga G (0, 15) j := fun j hj => f.2.1 _ _ (fun z => absurd z.1 (by decide)) (fun z => by omega)
  exact ⟨fun z => (e _ (by omega)).trans (h.1 z), fun z => (e _ (by omega)).trans (h.2.1 z), fun z => (e _ (by omega)).trans (h.2.2 z)⟩
/-- the commands from m on, as the class keeps them -/
def KX (m : Nat) (rs : List (Nat × PR)) (G : GS) : Prop := ∀ j r, rs[j]? = some r → r.1 < 7 ∧ ga G (0, 14) (m + j) = nI r.1 ∧ argsX (m + j) r.1 r.2 G
theorem x_parse (hT : TX n T) (hk : 40 ≤ kk) : ∀ (f m i k : Nat) (G : GS), m + f = 13 → 5 * m ≤ i → f < k → PX n T i G → gi G (0, 12) 4 = nI m → ∃ G', L_Script_parse kk k G = okI (if (psS (Ch n T) n f i).1 = true then 1 else 0) G' ∧ PX n T (psS (Ch n T) n f i).2.1 G' ∧ FrP m G G' ∧
    ((psS (Ch n T) n f i).1 = true → gi G' (0, 12) 4 = nI (m + (psS (Ch n T) n f i).2.2.length) ∧ KX m (psS (Ch n T) n f i).2.2 G' ∧ m + (psS (Ch n T) n f i).2.2.length ≤ 13)
  | 0, m, i, k, G, hm, h5, hk2, hP, h4 => by
    have := hP.2.2.2
    have := hT.1
    omega
  | f + 1, m, i, k, G, hm, h5, hk2, hP, h4 => by
    obtain ⟨k, rfl⟩ : ∃ j, k = j + 1 := ⟨k - 1, by omega⟩
    obtain ⟨G1, a1, a2, a3, a4⟩ := x_cmd (kk := kk) hT hk (by omega) h4 hP
    have hstop : ¬ (15 : Int32) ≤ gi G (0, 12) 4 := by rw [h4]; exact nI_ge (b := 15) (by omega) (by decide)
    have fr1 := FrP_C a3
    by_cases ok : (cmdS (Ch n T) i).2.1 = true
    · obtain ⟨ok7, okl⟩ := cmd_ok ok
      rw [if_pos ok] at a1
      have h41 : gi G1 (0, 12) 4 = nI m := (FrA4 a3).trans h4
      have hr : ga G1 (0, 14) m = nI (cmdS (Ch n T) i).1 := by
        rw [a3.2.1 _ _ (fun z => absurd z.1 (by decide)), ga_sa, if_pos ⟨rfl, rfl⟩]
      have P2 : PX n T (cmdS (Ch n T) i).2.2.1 (si G1 (0, 12) 4 (nI (m + 1))) := PX_4 a2
      have g42 : gi (si G1 (0, 12) 4 (nI (m + 1))) (0, 12) 4 = nI (m + 1) := by rw [gi_si, if_pos ⟨rfl, rfl⟩]
      have start : L_Script_parse kk (k + 1) G = (D_Script_accept kk (nI 59) (si G1 (0, 12) 4 (nI (m + 1)))).bind (fun r => oI r (fun v8 G5 => if v8 = 0 then if (gi G5 (0, 12) 5) = (gi G5 (0, 12) 3) then okI (1 : Int32) G5 else okI (0 : Int32) G5 else (L_Script_parse kk k) G5) exc) := by
        refine (iF hstop).trans ((rI a1).trans ((iF (show ¬ (1 : Int32) = 0 by decide)).trans ?_))
        rw [h41, nI_1]; rfl
      by_cases z : Ch n T (cmdS (Ch n T) i).2.2.1 = 59
      · have hi := ch_lt hT (i := (cmdS (Ch n T) i).2.2.1) (by omega)
        obtain ⟨G', b1, b2, b3, b4⟩ := x_parse hT hk f (m + 1) ((cmdS (Ch n T) i).2.2.1 + 1) k (si (si G1 (0, 12) 4 (nI (m + 1))) (0, 12) 5 (nI ((cmdS (Ch n T) i).2.2.1 + 1))) (by omega) (by omega) (by omega) (PX_s P2 hi) (g4_s.trans g42)
        have e : psS (Ch n T) n (f + 1) i = ((psS (Ch n T) n f ((cmdS (Ch n T) i).2.2.1 + 1)).1, (psS (Ch n T) n f ((cmdS (Ch n T) i).2.2.1 + 1)).2.1, cmdS (Ch n T) i :: (psS (Ch n T) n f ((cmdS (Ch n T) i).2.2.1 + 1)).2.2) := by
          rw [psS, if_pos ok, if_pos z]
        rw [e]
        refine ⟨G', start.trans ((rI (x_accT hT (c := 59) (by decide) P2 z)).trans ((iF (show ¬ (1 : Int32) = 0 by decide)).trans b1)), b2, ((fr1.tr FrP_4).tr FrP_s).tr (b3.up (by omega)), fun hok => ?_⟩
        obtain ⟨c1, c2, c3⟩ := b4 hok
        refine ⟨by rw [c1, List.length_cons]; exact congrArg nI (by omega), fun j r hj => ?_, by rw [List.length_cons]; omega⟩
        cases j with
        | zero =>
          cases hj
          refine ⟨ok7, ?_, argsX_fr (a4 ok) (FrP.tr (FrP.tr FrP_4 FrP_s) b3) (by omega)⟩
          rw [b3.2.1 _ _ (fun y => by omega) (fun y => absurd y.1 (by decide))]
          exact hr
        | succ j =>
          have := c2 j r (by rw [List.getElem?_cons_succ] at hj; exact hj)
          rw [show m + (j + 1) = m + 1 + j by omega]
          exact this
      · have e : psS (Ch n T) n (f + 1) i = (decide ((cmdS (Ch n T) i).2.2.1 = n), (cmdS (Ch n T) i).2.2.1, [cmdS (Ch n T) i]) := by
          rw [psS, if_pos ok, if_neg z]
        rw [e]
        refine ⟨si G1 (0, 12) 4 (nI (m + 1)), start.trans ((rI (x_accF hT (c := 59) (by decide) P2 z)).trans ((iT rfl).trans ?_)), P2, fr1.tr FrP_4, fun hok => ⟨g42, fun j r hj => ?_, by show m + 1 ≤ 13; omega⟩⟩
        · have hn := P2.2.2.2
          have h60 := hT.1
          rw [P2.2.1, P2.1]
          by_cases y : (cmdS (Ch n T) i).2.2.1 = n
          · rw [decide_eq_true y]; exact iT (by rw [y])
          · rw [decide_eq_false y]; exact iF (fun x => y ((nI_eq (by omega) (by omega)).mp x))
        · cases j with
          | zero => cases hj; exact ⟨ok7, hr, argsX_fr (a4 ok) (FrP_4 (m := m + 1)) (by omega)⟩
          | succ j => cases hj
    · rw [if_neg ok] at a1
      have e : psS (Ch n T) n (f + 1) i = (false, (cmdS (Ch n T) i).2.2.1, []) := by
        rw [psS, if_neg ok]
      rw [e]
      exact ⟨G1, (iF hstop).trans ((rI a1).trans (iT rfl)), a2, fr1, fun y => absurd y Bool.false_ne_true⟩
theorem m_parse (hT : TX n T) : ∀ (f m i k : Nat) (G : GS), m + f = 13 → 5 * m ≤ i → f + 1 < k → PM n T i G → ∃ G', L_Mo_readsAll kk k 1 G = okI (if (psS (Ch n T) n f i).1 = true then 1 else 0) G' ∧ PM n T (psS (Ch n T) n f i).2.1 G' ∧ FrR G G'
  | 0, m, i, k, G, hm, h5, hk2, hP => by
    have := hP.2.2.2
    have := hT.1
    omega
  | f + 1, m, i, k, G, hm, h5, hk2, hP => by
    obtain ⟨k, rfl⟩ : ∃ j, k = j + 2 := ⟨k - 2, by omega⟩
    obtain ⟨G1, a1, a2, a3, a4⟩ := m_cmd (kk := kk) hT hP
    by_cases ok : (cmdS (Ch n T) i).2.1 = true
    · obtain ⟨ok7, okl⟩ := cmd_ok ok
      rw [if_pos ok] at a1
      by_cases z : Ch n T (cmdS (Ch n T) i).2.2.1 = 59
      · have hi := ch_lt hT (i := (cmdS (Ch n T) i).2.2.1) (by omega)
        obtain ⟨G', b1, b2, b3⟩ := m_parse hT f (m + 1) ((cmdS (Ch n T) i).2.2.1 + 1) (k + 1) (si G1 (0, 50) 12 (nI ((cmdS (Ch n T) i).2.2.1 + 1))) (by omega) (by omega) (by omega) (PM_s a2 hi)
        have e : psS (Ch n T) n (f + 1) i = ((psS (Ch n T) n f ((cmdS (Ch n T) i).2.2.1 + 1)).1, (psS (Ch n T) n f ((cmdS (Ch n T) i).2.2.1 + 1)).2.1, cmdS (Ch n T) i :: (psS (Ch n T) n f ((cmdS (Ch n T) i).2.2.1 + 1)).2.2) := by
          rw [psS, if_pos ok, if_pos z]
        rw [e]
        exact ⟨G', (rI a1).trans ((iF (show ¬ (1 : Int32) = 0 by decide)).trans ((rI (m_readsT hT (c := 59) (by decide) a2 z)).trans b1)), b2, (a3.tr FrR_s).tr b3⟩
      · have e : psS (Ch n T) n (f + 1) i = (decide ((cmdS (Ch n T) i).2.2.1 = n), (cmdS (Ch n T) i).2.2.1, [cmdS (Ch n T) i]) := by
          rw [psS, if_pos ok, if_neg z]
        rw [e]
        refine ⟨G1, (rI a1).trans ((iF (show ¬ (1 : Int32) = 0 by decide)).trans ((rI (m_readsF hT (c := 59) (by decide) a2 z)).trans ?_)), a2, a3⟩
        have hn := a2.2.2.2
        have h60 := hT.1
        refine (show _ = (if (gi G1 (0, 50) 12) = (gi G1 (0, 50) 11) then okI (1 : Int32) G1 else okI (0 : Int32) G1) from rfl).trans ?_
        rw [a2.2.1, a2.1]
        by_cases y : (cmdS (Ch n T) i).2.2.1 = n
        · rw [decide_eq_true y]; exact iT (by rw [y])
        · rw [decide_eq_false y]; exact iF (fun x => y ((nI_eq (by omega) (by omega)).mp x))
    · rw [if_neg ok] at a1
      have e : psS (Ch n T) n (f + 1) i = (false, (cmdS (Ch n T) i).2.2.1, []) := by
        rw [psS, if_neg ok]
      rw [e]
      exact ⟨G1, (rI a1).trans (iT rfl), a2, a3⟩
end Ps
