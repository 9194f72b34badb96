/-! THE CLASS READS A COMMAND -/
def E0 (kk : Nat) (G : GS) : Res :=
      (D_Script_readDigit kk (0 : Int32) G).bind (fun r => oI r (fun v8 G5 =>
      if v8 = 0 then
        okI (0 : Int32) G5
      else
        (D_Script_accept kk (32 : Int32) G5).bind (fun r => oI r (fun v12 G9 =>
        if v12 = 0 then
          okI (0 : Int32) G9
        else
          (D_Script_readNumber kk (1 : Int32) G9).bind (fun r => oI r (fun v16 G13 =>
          if v16 = 0 then
            okI (0 : Int32) G13
          else
            (D_Script_accept kk (32 : Int32) G13).bind (fun r => oI r (fun v20 G17 =>
            if v20 = 0 then
              okI (0 : Int32) G17
            else
              (D_Script_readDigit kk (2 : Int32) G17).bind (fun r => oI r (fun v24 G21 =>
              if v24 = 0 then
                okI (0 : Int32) G21
              else
                okI (1 : Int32) G21) exc)) exc)) exc)) exc)) exc)
def E1 (kk : Nat) (G : GS) : Res :=
      (D_Script_readDigit kk (0 : Int32) G).bind (fun r => oI r (fun v28 G25 =>
      if v28 = 0 ∨ v28 = 1 then okI v28 G25 else none) exc)
def E2 (kk : Nat) (G : GS) : Res :=
      (D_Script_readDigit kk (0 : Int32) G).bind (fun r => oI r (fun v32 G29 =>
      if v32 = 0 then
        okI (0 : Int32) G29
      else
        (D_Script_accept kk (32 : Int32) G29).bind (fun r => oI r (fun v36 G33 =>
        if v36 = 0 then
          okI (0 : Int32) G33
        else
          (D_Script_readDigit kk (1 : Int32) G33).bind (fun r => oI r (fun v40 G37 =>
          if v40 = 0 then
            okI (0 : Int32) G37
          else
            okI (1 : Int32) G37) exc)) exc)) exc)
def E3 (kk : Nat) (G : GS) : Res :=
      (D_Script_setArgument kk (0 : Int32) (1 : Int32) G).bind (fun r => oV r (fun G41 =>
      (D_Script_accept kk (32 : Int32) G41).bind (fun r => oI r (fun v47 G44 =>
      if v47 = 0 then
        okI (1 : Int32) G44
      else
        (D_Script_readNumber kk (0 : Int32) G44).bind (fun r => oI r (fun v51 G48 =>
        if v51 = 0 then
          okI (0 : Int32) G48
        else
          okI (1 : Int32) G48) exc)) exc)) exc)
def E4 (kk : Nat) (G : GS) : Res :=
      okI (1 : Int32) G
def E5 (kk : Nat) (G : GS) : Res :=
      (D_Script_readNumber kk (0 : Int32) G).bind (fun r => oI r (fun v55 G52 =>
      if v55 = 0 ∨ v55 = 1 then okI v55 G52 else none) exc)
def E6 (kk : Nat) (G : GS) : Res :=
      (D_Script_readSignedNumber kk (0 : Int32) G).bind (fun r => oI r (fun v59 G56 =>
      if v59 = 0 ∨ v59 = 1 then okI v59 G56 else none) exc)
section Xs
variable {kk n : Nat} {T : Nat → Int32} {G : GS}
def PX (n : Nat) (T : Nat → Int32) (i : Nat) (G : GS) : Prop := gi G (0, 12) 3 = nI n ∧ gi G (0, 12) 5 = nI i ∧ (∀ j, j < n → ga G (0, 13) j = T j) ∧ i ≤ n
/-- what reading a command's rest changes: the place and the arguments from m on -/
def FrA (m : Nat) (G G' : GS) : Prop := (∀ r f, ¬ (r = (0, 12) ∧ f = 5) → gi G' r f = gi G r f) ∧ (∀ (r : Rf) i, ¬ (r = (0, 15) ∧ m ≤ i) → ga G' r i = ga G r i) ∧ G'.2.2 = G.2.2
theorem FrA.rf {m : Nat} {G : GS} : FrA m G G := ⟨fun _ _ _ => rfl, fun _ _ _ => rfl, rfl⟩
theorem FrA.tr {m : Nat} {G G1 G2 : GS} (h : FrA m G G1) (g : FrA m G1 G2) : FrA m G G2 := ⟨fun r f q => (g.1 r f q).trans (h.1 r f q), fun r i q => (g.2.1 r i q).trans (h.2.1 r i q), g.2.2.trans h.2.2⟩
theorem FrA_s {m j : Nat} : FrA m G (si G (0, 12) 5 (nI j)) := ⟨fun r f q => by rw [gi_si, if_neg (fun z => q z)], fun _ _ _ => rfl, rfl⟩
theorem FrA_a {m j : Nat} {v : Int32} (h : m ≤ j) : FrA m G (sa G (0, 15) j v) := ⟨fun _ _ _ => rfl, fun r i q => by rw [ga_sa, if_neg (fun z => q ⟨z.1, by omega⟩)], rfl⟩
theorem PX_s {i j : Nat} (hP : PX n T i G) (hj : j ≤ n) : PX n T j (si G (0, 12) 5 (nI j)) := by
  obtain ⟨p1, p2, p3, p4⟩ := hP
  exact ⟨by rw [gi_si, if_neg (fun z => by cases z.2)]; exact p1, by rw [gi_si, if_pos ⟨rfl, rfl⟩], p3, hj⟩
theorem PX_a {i j : Nat} {v : Int32} (hP : PX n T i G) : PX n T i (sa G (0, 15) j v) := ⟨hP.1, hP.2.1, fun k hk => by rw [ga_sa, if_neg (fun z => absurd z.1 (by decide))]; exact hP.2.2.1 k hk, hP.2.2.2⟩
theorem g4_s {j : Nat} : gi (si G (0, 12) 5 (nI j)) (0, 12) 4 = gi G (0, 12) 4 := by rw [gi_si, if_neg (fun z => by cases z.2)]
theorem x_next (hT : TX n T) {i d c : Nat} (hd : d ≤ 10) (hc : c ≤ 126) (hP : PX n T i G) : D_Script_isNext kk (nI d) (nI c) G = okI (if Ch n T (i + d) = c then 1 else 0) G := by
  obtain ⟨p1, p2, p3, p4⟩ := hP
  have h60 := hT.1
  unfold D_Script_isNext
  rw [p1, p2, nI_add]
  refine (iF (nI_pos (by omega))).trans ?_
  by_cases h : i + d < n
  · refine (iF (nI_ge h (by omega))).trans ((iF (nI_ge (b := 60) (by omega) (by decide))).trans ((bT (in_of (by omega) (by decide))).trans ?_))
    have hc2 := ch_in hT h
    rw [nI_clamp (by omega), p3 _ h, hc2.2.2]
    by_cases z : Ch n T (i + d) = c
    · rw [if_pos z, z]; exact iT rfl
    · rw [if_neg z]; exact iF (fun y => z ((nI_eq (by omega) (by omega)).mp y))
  · rw [ch_out (by omega), if_neg (by omega)]
    exact iT (nI_le (by omega) (by omega))
theorem x_acc (hT : TX n T) {i c : Nat} (hc : c ≤ 126) (hP : PX n T i G) : D_Script_accept kk (nI c) G = okI (if Ch n T i = c then 1 else 0) (if Ch n T i = c then si G (0, 12) 5 (nI (i + 1)) else G) := by
  refine (rI (x_next (kk := kk) hT (d := 0) (by decide) hc hP)).trans ?_
  rw [Nat.add_zero]
  by_cases z : Ch n T i = c
  · rw [if_pos z, if_pos z]
    refine (iF (show ¬ (1 : Int32) = 0 by decide)).trans ((iT (Or.inr rfl)).trans ?_)
    rw [hP.2.1, nI_1]
  · rw [if_neg z, if_neg z]
    exact (iT rfl).trans (iT (Or.inl rfl))
theorem x_accT (hT : TX n T) {i c : Nat} (hc : c ≤ 126) (hP : PX n T i G) (h : Ch n T i = c) : D_Script_accept kk (nI c) G = okI 1 (si G (0, 12) 5 (nI (i + 1))) := by
  have := x_acc (kk := kk) hT hc hP
  rw [if_pos h, if_pos h] at this
  exact this
theorem x_accF (hT : TX n T) {i c : Nat} (hc : c ≤ 126) (hP : PX n T i G) (h : ¬ Ch n T i = c) : D_Script_accept kk (nI c) G = okI 0 G := by
  have := x_acc (kk := kk) hT hc hP
  rw [if_neg h, if_neg h] at this
  exact this
theorem x_digT (hT : TX n T) {i : Nat} (hP : PX n T i G) (h : isD (Ch n T i) = true) : D_Script_takeDigit kk G = okI (nI (Ch n T i - 48)) (si G (0, 12) 5 (nI (i + 1))) := by
  have hb := (isD_b _).mp h
  have hi := ch_lt hT (i := i) (by omega)
  have h60 := hT.1
  obtain ⟨p1, p2, p3, p4⟩ := hP
  unfold D_Script_takeDigit
  rw [p1, p2]
  refine (iF (nI_pos (by omega))).trans ((iF (nI_ge hi (by omega))).trans ((iT (nI_lt (b := 60) (by omega) (by decide))).trans ((bT (in_of (by omega) (by decide))).trans ?_)))
  rw [nI_clamp (by omega), p3 i hi, (ch_in hT hi).2.2]
  refine (iF (nI_nlt (b := 48) hb.1 (by omega))).trans ((iT (nI_le (b := 57) hb.2 (by decide))).trans ?_)
  rw [nI_1, show nI (Ch n T i) - (48 : Int32) = nI (Ch n T i - 48) from pk_sub (b := 48) (by omega)]
theorem x_digF (hT : TX n T) {i : Nat} (hP : PX n T i G) (h : ¬ isD (Ch n T i) = true) : D_Script_takeDigit kk G = okI (-1) G := by
  have h60 := hT.1
  obtain ⟨p1, p2, p3, p4⟩ := hP
  unfold D_Script_takeDigit
  rw [p1, p2]
  refine (iF (nI_pos (by omega))).trans ?_
  by_cases hi : i < n
  · refine (iF (nI_ge hi (by omega))).trans ((iT (nI_lt (b := 60) (by omega) (by decide))).trans ((bT (in_of (by omega) (by decide))).trans ?_))
    have hc := ch_in hT hi
    rw [nI_clamp (by omega), p3 i hi, hc.2.2]
    rcases Nat.lt_or_ge (Ch n T i) 48 with q | q
    · exact iT (nI_lt (b := 48) q (by decide))
    · refine (iF (nI_nlt (b := 48) q (by omega))).trans (iF (nI_ge (a := 57) ?_ (by omega)))
      rcases Nat.lt_or_ge 57 (Ch n T i) with r | r
      · exact r
      · exact absurd ((isD_b _).mpr ⟨q, r⟩) h
  · exact iT (nI_le (by omega) (by omega))
theorem x_set {m a : Nat} {v : Int32} (hm : m < 15) (ha : a < 3) (h4 : gi G (0, 12) 4 = nI m) : D_Script_setArgument kk (nI a) v G = okV (sa G (0, 15) (3 * m + a) v) := by
  unfold D_Script_setArgument
  rw [h4, show nI m * (3 : Int32) = nI (3 * m) from by rw [Int32.mul_comm]; exact pk_mul 3 m, nI_add]
  refine (iF (nI_pos (by omega))).trans ((iF (nI_ge (b := 45) (by omega) (by decide))).trans ((bT (in_of (by omega) (by decide))).trans ?_))
  rw [nI_clamp (by omega)]
theorem m1_ne {c : Nat} (h : c < 2 ^ 31) : ¬ nI c = -1 := fun z => absurd (nI_pos h) (by rw [z]; decide)
theorem x_rdT (hT : TX n T) {i m a : Nat} (hm : m < 15) (ha : a < 3) (h4 : gi G (0, 12) 4 = nI m) (hP : PX n T i G) (h : isD (Ch n T i) = true) : D_Script_readDigit kk (nI a) G = okI 1 (sa (si G (0, 12) 5 (nI (i + 1))) (0, 15) (3 * m + a) (nI (Ch n T i - 48))) := by
  have hb := (isD_b _).mp h
  exact (rI (x_digT hT hP h)).trans ((rV (x_set hm ha (g4_s.trans h4))).trans (iF (m1_ne (by omega))))
theorem x_rdF (hT : TX n T) {i m a : Nat} (hm : m < 15) (ha : a < 3) (h4 : gi G (0, 12) 4 = nI m) (hP : PX n T i G) (h : ¬ isD (Ch n T i) = true) : D_Script_readDigit kk (nI a) G = okI 0 (sa G (0, 15) (3 * m + a) (-1)) :=
  (rI (x_digF hT hP h)).trans ((rV (x_set hm ha h4)).trans (iT rfl))
theorem x_num (hT : TX n T) {i m a : Nat} (hm : m < 15) (ha : a < 3) (h4 : gi G (0, 12) 4 = nI m) (hP : PX n T i G) : ∃ G', D_Script_readNumber kk (nI a) G = okI (if (numS (Ch n T) i).1 = true then 1 else 0) G' ∧ PX n T (numS (Ch n T) i).2.1 G' ∧ FrA (3 * m) G G' ∧ ((numS (Ch n T) i).1 = true → ga G' (0, 15) (3 * m + a) = (numS (Ch n T) i).2.2) ∧ ∀ b, b ≠ 3 * m + a → ga G' (0, 15) b = ga G (0, 15) b := by
  by_cases h : isD (Ch n T i) = true
  · have hb := (isD_b _).mp h
    have hi := ch_lt hT (i := i) (by omega)
    have P1 := PX_s hP (j := i + 1) hi
    by_cases h2 : isD (Ch n T (i + 1)) = true
    · have hb2 := (isD_b _).mp h2
      have hi2 := ch_lt hT (i := i + 1) (by omega)
      have P2 := PX_s P1 (j := i + 2) hi2
      have e : numS (Ch n T) i = (true, i + 2, nI (10 * (Ch n T i - 48) + (Ch n T (i + 1) - 48))) := by
        unfold numS; rw [if_pos h, if_pos h2]
      rw [e]
      refine ⟨sa (si (si G (0, 12) 5 (nI (i + 1))) (0, 12) 5 (nI (i + 2))) (0, 15) (3 * m + a) (nI (10 * (Ch n T i - 48) + (Ch n T (i + 1) - 48))), ?_, PX_a P2, (FrA_s.tr FrA_s).tr (FrA_a (by omega)), fun _ => by rw [ga_sa, if_pos ⟨rfl, rfl⟩], fun b hne => by rw [ga_sa, if_neg (fun z => hne z.2)]; rfl⟩
      refine (rI (x_digT hT hP h)).trans ((iF (m1_ne (by omega))).trans ((rI (x_digT hT P1 h2)).trans ((iF (m1_ne (by omega))).trans ?_)))
      rw [show nI (Ch n T i - 48) * (10 : Int32) = nI (10 * (Ch n T i - 48)) from by rw [Int32.mul_comm]; exact pk_mul 10 _, nI_add]
      exact rV (x_set hm ha (g4_s.trans (g4_s.trans h4)))
    · have e : numS (Ch n T) i = (true, i + 1, nI (Ch n T i - 48)) := by
        unfold numS; rw [if_pos h, if_neg h2]
      rw [e]
      refine ⟨sa (si G (0, 12) 5 (nI (i + 1))) (0, 15) (3 * m + a) (nI (Ch n T i - 48)), ?_, PX_a P1, FrA_s.tr (FrA_a (by omega)), fun _ => by rw [ga_sa, if_pos ⟨rfl, rfl⟩], fun b hne => by rw [ga_sa, if_neg (fun z => hne z.2)]; rfl⟩
      exact (rI (x_digT hT hP h)).trans ((iF (m1_ne (by omega))).trans ((rI (x_digF hT P1 h2)).trans ((iT rfl).trans (rV (x_set hm ha (g4_s.trans h4))))))
  · have e : numS (Ch n T) i = (false, i, 0) := by
      unfold numS; rw [if_neg h]
    rw [e]
    exact ⟨G, (rI (x_digF hT hP h)).trans (iT rfl), hP, FrA.rf, fun z => absurd z Bool.false_ne_true, fun _ _ => rfl⟩
def argsX (m kw : Nat) (r : PR) (G : GS) : Prop := (kw ≠ 4 → ga G (0, 15) (3 * m) = r.2.2.1) ∧ (kw = 0 ∨ kw = 2 → ga G (0, 15) (3 * m + 1) = r.2.2.2.1) ∧ (kw = 0 → ga G (0, 15) (3 * m + 2) = r.2.2.2.2)
def XB (n : Nat) (T : Nat → Int32) (m kw : Nat) (r : PR) (A : Res) (G : GS) : Prop := ∃ G', A = okI (if r.1 = true then 1 else 0) G' ∧ PX n T r.2.1 G' ∧ FrA (3 * m) G G' ∧ (r.1 = true → argsX m kw r G')
theorem XB_F {m kw p : Nat} {A : Res} {G G' : GS} {r : PR} (hr : r = (false, p, 0, 0, 0)) (h1 : A = okI 0 G') (h2 : PX n T p G') (h3 : FrA (3 * m) G G') : XB n T m kw r A G := by
  subst hr
  exact ⟨G', h1, h2, h3, fun z => absurd z Bool.false_ne_true⟩
theorem g4_a {j : Nat} {v : Int32} : gi (sa G (0, 15) j v) (0, 12) 4 = gi G (0, 12) 4 := rfl
theorem FrA4 {m : Nat} {G' : GS} (h : FrA m G G') : gi G' (0, 12) 4 = gi G (0, 12) 4 := h.1 _ _ (fun z => by cases z.2)
theorem ga_e {i a b : Nat} {v : Int32} : ga (sa (si G (0, 12) 5 (nI i)) (0, 15) a v) (0, 15) b = if b = a then v else ga G (0, 15) b := by
  rw [ga_sa]
  by_cases e : b = a
  · rw [if_pos ⟨rfl, e⟩, if_pos e]
  · rw [if_neg (fun z => e z.2), if_neg e]; rfl
theorem x_E1 (hT : TX n T) {i m : Nat} (hm : m < 15) (h4 : gi G (0, 12) 4 = nI m) (hP : PX n T i G) : XB n T m 1 (bodyS (Ch n T) 1 i) (E1 kk G) G := by
  by_cases h : isD (Ch n T i) = true
  · have hb := (isD_b _).mp h
    have hi := ch_lt hT (i := i) (by omega)
    have e : bodyS (Ch n T) 1 i = (true, i + 1, nI (Ch n T i - 48), 0, 0) := if_pos h
    rw [e]
    exact ⟨_, (rI (x_rdT hT hm (a := 0) (by decide) h4 hP h)).trans (iT (Or.inr rfl)), PX_a (PX_s hP hi), FrA_s.tr (FrA_a (by omega)), fun _ => ⟨fun _ => by rw [ga_e, if_pos (by omega)], fun z => by omega, fun z => by omega⟩⟩
  · exact XB_F (show bodyS (Ch n T) 1 i = _ from if_neg h) ((rI (x_rdF hT hm (a := 0) (by decide) h4 hP h)).trans (iT (Or.inl rfl))) (PX_a hP) (FrA_a (by omega))
theorem x_E5 (hT : TX n T) {i m : Nat} (hm : m < 15) (h4 : gi G (0, 12) 4 = nI m) (hP : PX n T i G) : XB n T m 5 (bodyS (Ch n T) 5 i) (E5 kk G) G := by
  obtain ⟨G', g1, g2, g3, g5, g6⟩ := x_num (kk := kk) hT hm (a := 0) (by decide) h4 hP
  by_cases h : (numS (Ch n T) i).1 = true
  · have e : bodyS (Ch n T) 5 i = (true, (numS (Ch n T) i).2.1, (numS (Ch n T) i).2.2, 0, 0) := if_pos h
    rw [if_pos h] at g1
    rw [e]
    exact ⟨G', (rI g1).trans (iT (Or.inr rfl)), g2, g3, fun _ => ⟨fun _ => g5 h, fun z => by omega, fun z => by omega⟩⟩
  · rw [if_neg h] at g1
    exact XB_F (show bodyS (Ch n T) 5 i = _ from if_neg h) ((rI g1).trans (iT (Or.inl rfl))) g2 g3
theorem x_E2 (hT : TX n T) {i m : Nat} (hm : m < 15) (h4 : gi G (0, 12) 4 = nI m) (hP : PX n T i G) : XB n T m 2 (bodyS (Ch n T) 2 i) (E2 kk G) G := by
  by_cases h : isD (Ch n T i) = true
  · have hb := (isD_b _).mp h
    have hi := ch_lt hT (i := i) (by omega)
    have P1 : PX n T (i + 1) (sa (si G (0, 12) 5 (nI (i + 1))) (0, 15) (3 * m + 0) (nI (Ch n T i - 48))) := PX_a (PX_s hP hi)
    have f1 : FrA (3 * m) G (sa (si G (0, 12) 5 (nI (i + 1))) (0, 15) (3 * m + 0) (nI (Ch n T i - 48))) := FrA_s.tr (FrA_a (by omega))
    have d1 := x_rdT (kk := kk) hT hm (a := 0) (by decide) h4 hP h
    by_cases h2 : Ch n T (i + 1) = 32
    · have hi2 := ch_lt hT (i := i + 1) (by omega)
      have P2 := PX_s P1 (j := i + 2) hi2
      have r1 := x_accT (kk := kk) hT (c := 32) (by decide) P1 h2
      by_cases h3 : isD (Ch n T (i + 2)) = true
      · have hb3 := (isD_b _).mp h3
        have hi3 := ch_lt hT (i := i + 2) (by omega)
        have e : bodyS (Ch n T) 2 i = (true, i + 3, nI (Ch n T i - 48), nI (Ch n T (i + 2) - 48), 0) := by
          simp [bodyS, h, h2, h3]
        rw [e]
        refine ⟨_, (rI d1).trans ((iF (by decide)).trans ((rI r1).trans ((iF (by decide)).trans ((rI (x_rdT hT hm (a := 1) (by decide) (g4_s.trans ((FrA4 f1).trans h4)) P2 h3)).trans (iF (by decide)))))), PX_a (PX_s P2 hi3), (f1.tr FrA_s).tr (FrA_s.tr (FrA_a (by omega))), fun _ => ⟨fun _ => ?_, fun _ => ?_, fun z => by omega⟩⟩
        · rw [ga_e, if_neg (by omega)]
          show ga (sa (si G (0, 12) 5 (nI (i + 1))) (0, 15) (3 * m + 0) (nI (Ch n T i - 48))) (0, 15) (3 * m) = _
          rw [ga_e, if_pos (by omega)]
        · rw [ga_e, if_pos rfl]
      · refine XB_F (p := i + 2) (show bodyS (Ch n T) 2 i = _ from by simp [bodyS, h, h2, h3]) ((rI d1).trans ((iF (by decide)).trans ((rI r1).trans ((iF (by decide)).trans ((rI (x_rdF hT hm (a := 1) (by decide) (g4_s.trans ((FrA4 f1).trans h4)) P2 h3)).trans (iT rfl)))))) (PX_a P2) ((f1.tr FrA_s).tr (FrA_a (by omega)))
    · refine XB_F (p := i + 1) (show bodyS (Ch n T) 2 i = _ from by simp [bodyS, h, h2]) ((rI d1).trans ((iF (by decide)).trans ((rI (x_accF hT (c := 32) (by decide) P1 h2)).trans (iT rfl)))) P1 f1
  · exact XB_F (show bodyS (Ch n T) 2 i = _ from if_neg h) ((rI (x_rdF hT hm (a := 0) (by decide) h4 hP h)).trans (iT rfl)) (PX_a hP) (FrA_a (by omega))
theorem x_E3 (hT : TX n T) {i m : Nat} (hm : m < 15) (h4 : gi G (0, 12) 4 = nI m) (hP : PX n T i G) : XB n T m 3 (bodyS (Ch n T) 3 i) (E3 kk G) G := by
  have P0 : PX n T i (sa G (0, 15) (3 * m + 0) 1) := PX_a hP
  have s0 := x_set (kk := kk) (v := 1) hm (a := 0) (by decide) h4
  by_cases h : Ch n T i = 32
  · have hi := ch_lt hT (i := i) (by omega)
    have P1 := PX_s P0 (j := i + 1) hi
    obtain ⟨G', g1, g2, g3, g5, g6⟩ := x_num (kk := kk) hT hm (a := 0) (by decide) (g4_s.trans h4) P1
    have r1 := x_accT (kk := kk) hT (c := 32) (by decide) P0 h
    by_cases h2 : (numS (Ch n T) (i + 1)).1 = true
    · have e : bodyS (Ch n T) 3 i = (true, (numS (Ch n T) (i + 1)).2.1, (numS (Ch n T) (i + 1)).2.2, 0, 0) := by
        simp [bodyS, h, h2]
      rw [if_pos h2] at g1
      rw [e]
      exact ⟨G', (rV s0).trans ((rI r1).trans ((iF (by decide)).trans ((rI g1).trans (iF (by decide))))), g2, ((FrA_a (by omega)).tr FrA_s).tr g3, fun _ => ⟨fun _ => g5 h2, fun z => by omega, fun z => by omega⟩⟩
    · rw [if_neg h2] at g1
      exact XB_F (show bodyS (Ch n T) 3 i = _ from by simp [bodyS, h, h2]) ((rV s0).trans ((rI r1).trans ((iF (by decide)).trans ((rI g1).trans (iT rfl))))) g2 (((FrA_a (by omega)).tr FrA_s).tr g3)
  · have e : bodyS (Ch n T) 3 i = (true, i, 1, 0, 0) := if_neg h
    rw [e]
    exact ⟨_, (rV s0).trans ((rI (x_accF hT (c := 32) (by decide) P0 h)).trans (iT rfl)), P0, FrA_a (by omega), fun _ => ⟨fun _ => by rw [ga_sa, if_pos ⟨rfl, by omega⟩], fun z => by omega, fun z => by omega⟩⟩
theorem x_argAt {m : Nat} (hm : m < 15) : D_Script_argumentAt kk (nI m) 0 G = okI (ga G (0, 15) (3 * m)) G := by
  unfold D_Script_argumentAt
  rw [show nI m * (3 : Int32) + (0 : Int32) = nI (3 * m) from by rw [Int32.mul_comm, Int32.add_zero]; exact pk_mul 3 m]
  refine (iF (nI_pos (by omega))).trans ((iF (nI_ge (b := 45) (by omega) (by decide))).trans ((bT (in_of (by omega) (by decide))).trans ?_))
  rw [nI_clamp (by omega)]
theorem x_E6 (hT : TX n T) {i m : Nat} (hm : m < 15) (h4 : gi G (0, 12) 4 = nI m) (hP : PX n T i G) : XB n T m 6 (bodyS (Ch n T) 6 i) (E6 kk G) G := by
  by_cases h : Ch n T i = 45
  · have hi := ch_lt hT (i := i) (by omega)
    have P1 := PX_s hP (j := i + 1) hi
    have r1 := x_accT (kk := kk) hT (c := 45) (by decide) hP h
    obtain ⟨G', g1, g2, g3, g5, g6⟩ := x_num (kk := kk) hT hm (a := 0) (by decide) (g4_s.trans h4) P1
    by_cases h2 : (numS (Ch n T) (i + 1)).1 = true
    · have e : bodyS (Ch n T) 6 i = (true, (numS (Ch n T) (i + 1)).2.1, -(numS (Ch n T) (i + 1)).2.2, 0, 0) := by
        simp [bodyS, h, h2]
      rw [if_pos h2] at g1
      rw [e]
      have h4' : gi G' (0, 12) 4 = nI m := (FrA4 g3).trans (g4_s.trans h4)
      have hs : D_Script_readSignedNumber kk 0 G = okI 1 (sa G' (0, 15) (3 * m + 0) (-(ga G' (0, 15) (3 * m)))) := by
        refine (rI r1).trans ((rI g1).trans ((iF (show ¬ (1 : Int32) = 0 by decide)).trans ((iF (show ¬ (1 : Int32) = 0 by decide)).trans ?_)))
        rw [h4']
        exact (rI (x_argAt hm)).trans ((rV (x_set hm (a := 0) (by decide) h4')).trans (iT (Or.inr rfl)))
      refine ⟨_, (rI hs).trans (iT (Or.inr rfl)), PX_a g2, (FrA_s.tr g3).tr (FrA_a (by omega)), fun _ => ⟨fun _ => ?_, fun z => by omega, fun z => by omega⟩⟩
      rw [ga_sa, if_pos ⟨rfl, by omega⟩]
      exact congrArg (fun z => -z) (g5 h2)
    · rw [if_neg h2] at g1
      have hs : D_Script_readSignedNumber kk 0 G = okI 0 G' := (rI r1).trans ((rI g1).trans ((iT rfl).trans (iT (Or.inl rfl))))
      exact XB_F (show bodyS (Ch n T) 6 i = _ from by simp [bodyS, h, h2]) ((rI hs).trans (iT (Or.inl rfl))) g2 (FrA_s.tr g3)
  · have r1 := x_accF (kk := kk) hT (c := 45) (by decide) hP h
    obtain ⟨G', g1, g2, g3, g5, g6⟩ := x_num (kk := kk) hT hm (a := 0) (by decide) h4 hP
    by_cases h2 : (numS (Ch n T) i).1 = true
    · have e : bodyS (Ch n T) 6 i = (true, (numS (Ch n T) i).2.1, (numS (Ch n T) i).2.2, 0, 0) := by
        simp [bodyS, h, h2]
      rw [if_pos h2] at g1
      rw [e]
      have hs : D_Script_readSignedNumber kk 0 G = okI 1 G' := (rI r1).trans ((rI g1).trans ((iF (show ¬ (1 : Int32) = 0 by decide)).trans ((iT rfl).trans (iT (Or.inr rfl)))))
      exact ⟨G', (rI hs).trans (iT (Or.inr rfl)), g2, g3, fun _ => ⟨fun _ => g5 h2, fun z => by omega, fun z => by omega⟩⟩
    · rw [if_neg h2] at g1
      have hs : D_Script_readSignedNumber kk 0 G = okI 0 G' := (rI r1).trans ((rI g1).trans ((iT rfl).trans (iT (Or.inl rfl))))
      exact XB_F (show bodyS (Ch n T) 6 i = _ from by simp [bodyS, h, h2]) ((rI hs).trans (iT (Or.inl rfl))) g2 g3
theorem x_E0 (hT : TX n T) {i m : Nat} (hm : m < 15) (h4 : gi G (0, 12) 4 = nI m) (hP : PX n T i G) : XB n T m 0 (bodyS (Ch n T) 0 i) (E0 kk G) G := by
  by_cases h : isD (Ch n T i) = true
  · have hb := (isD_b _).mp h
    have hi := ch_lt hT (i := i) (by omega)
    have P1 : PX n T (i + 1) (sa (si G (0, 12) 5 (nI (i + 1))) (0, 15) (3 * m + 0) (nI (Ch n T i - 48))) := PX_a (PX_s hP hi)
    have f1 : FrA (3 * m) G (sa (si G (0, 12) 5 (nI (i + 1))) (0, 15) (3 * m + 0) (nI (Ch n T i - 48))) := FrA_s.tr (FrA_a (by omega))
    have d1 := x_rdT (kk := kk) hT hm (a := 0) (by decide) h4 hP h
    by_cases h2 : Ch n T (i + 1) = 32
    · have hi2 := ch_lt hT (i := i + 1) (by omega)
      have P2 := PX_s P1 (j := i + 2) hi2
      have f2 := f1.tr (FrA_s (m := 3 * m) (j := i + 2))
      have r1 := x_accT (kk := kk) hT (c := 32) (by decide) P1 h2
      obtain ⟨G3, g1, g2, g3, g5, g6⟩ := x_num (kk := kk) hT hm (a := 1) (by decide) ((FrA4 f2).trans h4) P2
      have f3 := f2.tr g3
      by_cases h3 : (numS (Ch n T) (i + 2)).1 = true
      · rw [if_pos h3] at g1
        by_cases h5 : Ch n T (numS (Ch n T) (i + 2)).2.1 = 32
        · have hi4 := ch_lt hT (i := (numS (Ch n T) (i + 2)).2.1) (by omega)
          have P4 := PX_s g2 (j := (numS (Ch n T) (i + 2)).2.1 + 1) hi4
          have f4 := f3.tr (FrA_s (m := 3 * m) (j := (numS (Ch n T) (i + 2)).2.1 + 1))
          have r2 := x_accT (kk := kk) hT (c := 32) (by decide) g2 h5
          by_cases h6 : isD (Ch n T ((numS (Ch n T) (i + 2)).2.1 + 1)) = true
          · have hb6 := (isD_b _).mp h6
            have hi6 := ch_lt hT (i := (numS (Ch n T) (i + 2)).2.1 + 1) (by omega)
            have e : bodyS (Ch n T) 0 i = (true, (numS (Ch n T) (i + 2)).2.1 + 2, nI (Ch n T i - 48), (numS (Ch n T) (i + 2)).2.2, nI (Ch n T ((numS (Ch n T) (i + 2)).2.1 + 1) - 48)) := by
              simp [bodyS, h, h2, h3, h5, h6]
            rw [e]
            refine ⟨_, (rI d1).trans ((iF (by decide)).trans ((rI r1).trans ((iF (by decide)).trans ((rI g1).trans ((iF (by decide)).trans ((rI r2).trans ((iF (by decide)).trans ((rI (x_rdT hT hm (a := 2) (by decide) ((FrA4 f4).trans h4) P4 h6)).trans (iF (by decide)))))))))), PX_a (PX_s P4 hi6), f4.tr (FrA_s.tr (FrA_a (by omega))), fun _ => ⟨fun _ => ?_, fun _ => ?_, fun _ => ?_⟩⟩
            · rw [ga_e, if_neg (by omega)]
              show ga G3 (0, 15) (3 * m) = _
              rw [g6 (3 * m) (by omega)]
              show ga (sa (si G (0, 12) 5 (nI (i + 1))) (0, 15) (3 * m + 0) (nI (Ch n T i - 48))) (0, 15) (3 * m) = _
              rw [ga_e, if_pos (by omega)]
            · rw [ga_e, if_neg (by omega)]
              exact g5 h3
            · rw [ga_e, if_pos rfl]
          · refine XB_F (show bodyS (Ch n T) 0 i = _ from by simp [bodyS, h, h2, h3, h5, h6]; rfl) ((rI d1).trans ((iF (by decide)).trans ((rI r1).trans ((iF (by decide)).trans ((rI g1).trans ((iF (by decide)).trans ((rI r2).trans ((iF (by decide)).trans ((rI (x_rdF hT hm (a := 2) (by decide) ((FrA4 f4).trans h4) P4 h6)).trans (iT rfl)))))))))) (PX_a P4) (f4.tr (FrA_a (by omega)))
        · refine XB_F (show bodyS (Ch n T) 0 i = _ from by simp [bodyS, h, h2, h3, h5]; rfl) ((rI d1).trans ((iF (by decide)).trans ((rI r1).trans ((iF (by decide)).trans ((rI g1).trans ((iF (by decide)).trans ((rI (x_accF hT (c := 32) (by decide) g2 h5)).trans (iT rfl)))))))) g2 f3
      · rw [if_neg h3] at g1
        refine XB_F (show bodyS (Ch n T) 0 i = _ from by simp [bodyS, h, h2, h3]; rfl) ((rI d1).trans ((iF (by decide)).trans ((rI r1).trans ((iF (by decide)).trans ((rI g1).trans (iT rfl)))))) g2 f3
    · refine XB_F (p := i + 1) (show bodyS (Ch n T) 0 i = _ from by simp [bodyS, h, h2]) ((rI d1).trans ((iF (by decide)).trans ((rI (x_accF hT (c := 32) (by decide) P1 h2)).trans (iT rfl)))) P1 f1
  · exact XB_F (show bodyS (Ch n T) 0 i = _ from if_neg h) ((rI (x_rdF hT hm (a := 0) (by decide) h4 hP h)).trans (iT rfl)) (PX_a hP) (FrA_a (by omega))
end Xs
