/-! THE TEXT -/
def FrT (G G' : GS) : Prop := G'.1 = G.1 ∧ G'.2.1 = G.2.1 ∧ G'.2.2.2 = G.2.2.2
def FrW (G G' : GS) : Prop := (∀ r f, ¬ (r = (0, 50) ∧ f = 9) → gi G' r f = gi G r f) ∧ (∀ r : Rf, r ≠ (0, 55) → ∀ i, ga G' r i = ga G r i) ∧ G'.2.2 = G.2.2
theorem FrT.rf {G : GS} : FrT G G := ⟨rfl, rfl, rfl⟩
theorem FrT.tr {G G1 G2 : GS} (h : FrT G G1) (g : FrT G1 G2) : FrT G G2 := ⟨g.1.trans h.1, g.2.1.trans h.2.1, g.2.2.trans h.2.2⟩
theorem FrW.rf {G : GS} : FrW G G := ⟨fun _ _ _ => rfl, fun _ _ _ => rfl, rfl⟩
theorem FrW.tr {G G1 G2 : GS} (h : FrW G G1) (g : FrW G1 G2) : FrW G G2 := ⟨fun r f n => (g.1 r f n).trans (h.1 r f n), fun r n i => (g.2.1 r n i).trans (h.2.1 r n i), g.2.2.trans h.2.2⟩
theorem FrT.gi {G G' : GS} (h : FrT G G') (r : Rf) (f : Nat) : gi G' r f = gi G r f := by
  show G'.1 r f = G.1 r f
  rw [h.1]
theorem FrT.ga {G G' : GS} (h : FrT G G') (r : Rf) (i : Nat) : ga G' r i = ga G r i := by
  show G'.2.1 r i = G.2.1 r i
  rw [h.2.1]
theorem AX_T {W : Nat → Int32} {j : Nat} {G G' : GS} (h : AX W j G) (f : FrT G G') : AX W j G' := AX_eq h (fun k _ _ => ⟨fun i => f.gi _ i, fun i => f.ga _ i⟩)
def sOut (S : SS) (out : List Int32) : SS := (sN S, sW S, sH S, sV S, (sn S, sT S), (sE S, sF S), out)
def CH (l : List Int32) : Prop := ∀ x ∈ l, ∃ c, c < 128 ∧ x = nI c
theorem CH.app {a b : List Int32} (h : CH a) (g : CH b) : CH (a ++ b) := fun x hx => (List.mem_append.mp hx).elim (h x) (g x)
theorem CH.nil : CH [] := fun x hx => by cases hx
theorem CH.one {c : Nat} (h : c < 128) : CH [nI c] := fun x hx => by
  rw [List.mem_singleton] at hx; exact ⟨c, h, hx⟩
section Tx
variable {kk : Nat} {G : GS} {S : SS} {t N : Nat} {W : Nat → Int32} {out : List Int32}
theorem RelX_T {G' : GS} (h : RelX S G) (f : FrT G G') (hx : XL out G') : RelX (sOut S out) G' := by
  obtain ⟨h1, ⟨a1, a2, nx, a3, a4, a5⟩, ⟨b1, b2⟩, ⟨c1, c2⟩, ⟨d1, d2⟩, -⟩ := h
  exact ⟨AX_T h1 f, ⟨(f.gi _ _).trans a1, a2, nx, a3, (f.gi _ _).trans a4, fun i row hi => AX_T (a5 i row hi) f⟩, ⟨(f.gi _ _).trans b1, fun row hr => AX_T (b2 row hr) f⟩, ⟨(f.gi _ _).trans c1, fun i hi => (f.ga _ i).trans (c2 i hi)⟩, ⟨(f.gi _ _).trans d1, (f.gi _ _).trans d2⟩, hx⟩
theorem RelM_W {G' : GS} (h : RelM S G) (f : FrW G G') (hx : ML out G') : RelM (sOut S out) G' := by
  obtain ⟨h1, ⟨a1, a2, g, a3, a4, a5⟩, ⟨b1, b2⟩, ⟨c1, c2⟩, ⟨d1, d2⟩, -⟩ := h
  have n : ∀ k, k ≠ 9 → gi G' (0, 50) k = gi G (0, 50) k := fun k hk => f.1 _ _ (fun z => hk z.2)
  exact ⟨fun k hk => (f.2.1 _ (by decide) k).trans (h1 k hk), ⟨(n 5 (by decide)).trans a1, a2, g, a3, (n 6 (by decide)).trans a4, fun i row hi k hk => (f.2.1 _ (by decide) _).trans (a5 i row hi k hk)⟩, ⟨(n 7 (by decide)).trans b1, fun row hr k hk => (f.2.1 _ (by decide) k).trans (b2 row hr k hk)⟩, ⟨(n 11 (by decide)).trans c1, fun i hi => (f.2.1 _ (by decide) i).trans (c2 i hi)⟩, ⟨(n 13 (by decide)).trans d1, (n 14 (by decide)).trans d2⟩, hx⟩
theorem AM_W {G' : GS} (h : AM W G) (f : FrW G G') : AM W G' := fun k hk => (f.2.1 _ (by decide) k).trans (h k hk)
theorem FrO_W {G' : GS} (f : FrW G G') : FrO G G' := ⟨fun r hr => ⟨fun k => f.1 r k (fun z => by rw [z.1] at hr; exact absurd hr (by decide)), fun i => f.2.1 r (fun z => by rw [z] at hr; exact absurd hr (by decide)) i⟩, f.2.2⟩
theorem FrX_T {G' : GS} (f : FrT G G') : FrX G G' := fun r _ => ⟨fun k => f.gi r k, fun i => f.ga r i⟩
theorem c_bapc (hx : XL out G) (hl : out.length < 48) {c : Nat} (hc : c < 128) : ∃ G', D_bapc (nI c) G = okR (0, 16) G' ∧ XL (out ++ [nI c]) G' ∧ FrT G G' := by
  obtain ⟨x1, x2⟩ := hx
  refine ⟨st_ G (gn G + 1) (fun i => if i = gn G then nI c else gt G i), iT ⟨nI_pos (by omega), nI_lt (b := 128) hc (by decide), by omega⟩, ⟨?_, fun i hi => ?_⟩, rfl, rfl, rfl⟩
  · show gn G + 1 = _
    rw [x1, List.length_append]; rfl
  · rw [List.length_append] at hi
    show (if i = gn G then nI c else gt G i) = _
    rw [x1]
    by_cases e : i = out.length
    · subst e
      rw [if_pos rfl, List.getD_eq_getElem?_getD, List.getElem?_append_right (Nat.le_refl _), Nat.sub_self]; rfl
    · have hi2 : i < out.length := by have : i < out.length + 1 := hi; omega
      rw [if_neg e, x2 i hi2, List.getD_eq_getElem?_getD, List.getD_eq_getElem?_getD, List.getElem?_append_left hi2]
theorem c_bapi (hx : XL out G) (hl : out.length < 44) {v : Int32} (h1 : -1000 < v) (h2 : v < 1000) : ∃ G', D_bapi v G = okR (0, 16) G' ∧ XL (out ++ dg_ v) G' ∧ FrT G G' := by
  obtain ⟨x1, x2⟩ := hx
  refine ⟨st_ G (gn G + (dg_ v).length) (fun i => if i < gn G then gt G i else (dg_ v).getD (i - gn G) 0), iT ⟨h1, h2, by omega⟩, ⟨?_, fun i hi => ?_⟩, rfl, rfl, rfl⟩
  · show gn G + (dg_ v).length = _
    rw [x1, List.length_append]
  · rw [List.length_append] at hi
    show (if i < gn G then gt G i else (dg_ v).getD (i - gn G) 0) = _
    rw [x1]
    by_cases e : i < out.length
    · rw [if_pos e, x2 i e, List.getD_eq_getElem?_getD, List.getD_eq_getElem?_getD, List.getElem?_append_left e]
    · rw [if_neg e, List.getD_eq_getElem?_getD, List.getD_eq_getElem?_getD, List.getElem?_append_right (Nat.not_lt.mp e)]
theorem wr_c : ∀ c, c < 128 → vp_nar .char (((nI c).toUInt32 % 65536).toInt32) = nI c := by decide +kernel
theorem m_writes (hx : ML out G) (hl : out.length < 100) {c : Nat} (hc : c < 128) : ∃ G', D_Mo_writes kk (nI c) G = okV G' ∧ ML (out ++ [nI c]) G' ∧ FrW G G' := by
  obtain ⟨x1, x2⟩ := hx
  refine ⟨si (sa G (0, 55) out.length (nI c)) (0, 50) 9 (nI (out.length + 1)), ?_, ⟨?_, fun i hi => ?_⟩, fun r f n => ?_, fun r n i => ?_, rfl⟩
  · unfold D_Mo_writes
    rw [x1, in_of (by omega) (by decide), nI_clamp (by omega), wr_c c hc, gi_sa, x1, nI_1]; rfl
  · rw [gi_si, if_pos ⟨rfl, rfl⟩, List.length_append]; rfl
  · rw [List.length_append] at hi
    rw [ga_si, ga_sa]
    by_cases e : i = out.length
    · subst e
      rw [if_pos ⟨rfl, rfl⟩, List.getD_eq_getElem?_getD, List.getElem?_append_right (Nat.le_refl _), Nat.sub_self]; rfl
    · have hi2 : i < out.length := by have : i < out.length + 1 := hi; omega
      rw [if_neg (fun z => e z.2), x2 i hi2, List.getD_eq_getElem?_getD, List.getD_eq_getElem?_getD, List.getElem?_append_left hi2]
  · rw [gi_si, if_neg (fun z => n z)]; rfl
  · rw [ga_si, ga_sa, if_neg (fun z => n z.1)]
theorem dv {a d : Nat} (ha : a < 1000) (h0 : 0 < d) (hd : d < 1000) : nI a / nI d = nI (a / d) := pk_div (by omega) h0 (by omega)
theorem md {a : Nat} (ha : a < 1000) : nI a - nI a / (10 : Int32) * (10 : Int32) = nI (a % 10) := pk_rem (d := 10) (by omega) (by decide) (by decide)
theorem m_dig {k : Nat} (hx : ML out G) (hl : out.length + 1 < 100) {w x : Nat} (hw : w < 1000) (hx0 : 0 < x) (hx1 : x < 1000) : ∃ G', (L_Mo_writesNumber kk (k + 1)).2 (nI w) (nI x) G = (L_Mo_writesNumber kk k).2 (nI w) (nI (x / 10)) G' ∧ ML (out ++ [nI (48 + w / x % 10)]) G' ∧ FrW G G' := by
  have hq : w / x < 1000 := Nat.lt_of_le_of_lt (Nat.div_le_self _ _) hw
  obtain ⟨G', g1, g2, g3⟩ := m_writes (kk := kk) hx (by omega) (c := 48 + w / x % 10) (by omega)
  refine ⟨G', ?_, g2, g3⟩
  refine (iF (nI_nle hx0 (by omega))).trans ((iF (nI_ne0 hx0 (by omega))).trans ?_)
  rw [dv hw hx0 hx1, md hq, show (48 : Int32) + nI (w / x % 10) = nI (48 + w / x % 10) from nI_add 48 _]
  refine (rV g1).trans ?_
  rw [show nI x / (10 : Int32) = nI (x / 10) from dv hx1 (by decide) (by decide)]
theorem m_nat (hx : ML out G) (hl : out.length + 4 < 100) (hk : 40 ≤ kk) {w : Nat} (hw : w < 1000) : ∃ G', (L_Mo_writesNumber kk kk).1 (nI w) 1 G = okV G' ∧ ML (out ++ dg0 w) G' ∧ FrW G G' := by
  obtain ⟨k, rfl⟩ : ∃ k, kk = k + 8 := ⟨kk - 8, by omega⟩
  have st : ∀ (j : Nat) (x : Nat), 0 < x → x < 1000 → ¬ w / x ≤ 9 → (L_Mo_writesNumber (k + 8) (j + 1)).1 (nI w) (nI x) G = (L_Mo_writesNumber (k + 8) j).1 (nI w) (nI (x * 10)) G := fun j x h0 h1 h9 => by
    have hq : w / x < 1000 := Nat.lt_of_le_of_lt (Nat.div_le_self _ _) hw
    refine (iF (nI_ne0 h0 (by omega))).trans ?_
    rw [dv hw h0 h1]
    refine (iF (nI_ge (a := 9) (by omega) (by omega))).trans ?_
    rw [show nI x * (10 : Int32) = nI (x * 10) from pk_mul x 10]
  have go : ∀ (j : Nat) (x : Nat), 0 < x → x < 1000 → w / x ≤ 9 → (L_Mo_writesNumber (k + 8) (j + 1)).1 (nI w) (nI x) G = (L_Mo_writesNumber (k + 8) j).2 (nI w) (nI x) G := fun j x h0 h1 h9 => by
    refine (iF (nI_ne0 h0 (by omega))).trans ?_
    rw [dv hw h0 h1]
    exact iT (nI_le (b := 9) h9 (by decide))
  have fin : ∀ (j : Nat) (G : GS), (L_Mo_writesNumber (k + 8) (j + 1)).2 (nI w) (nI 0) G = okV G := fun _ _ => rfl
  rcases Nat.lt_or_ge w 10 with h | h
  · obtain ⟨G1, a1, a2, a3⟩ := m_dig (kk := k + 8) (k := k + 6) hx (by omega) hw (x := 1) (by decide) (by decide)
    refine ⟨G1, (go (k + 7) 1 (by decide) (by decide) (by omega)).trans (a1.trans (fin (k + 5) G1)), ?_, a3⟩
    rw [dg_1 h]
    rw [show 48 + w / 1 % 10 = 48 + w by omega] at a2
    exact a2
  · rcases Nat.lt_or_ge w 100 with h2 | h2
    · obtain ⟨G1, a1, a2, a3⟩ := m_dig (kk := k + 8) (k := k + 5) hx (by omega) hw (x := 10) (by decide) (by decide)
      obtain ⟨G2, b1, b2, b3⟩ := m_dig (kk := k + 8) (k := k + 4) a2 (by rw [List.length_append]; show out.length + 1 + 1 < 100; omega) hw (x := 1) (by decide) (by decide)
      refine ⟨G2, (st (k + 7) 1 (by decide) (by decide) (by omega)).trans ((go (k + 6) 10 (by decide) (by decide) (by omega)).trans (a1.trans (b1.trans (fin (k + 3) G2)))), ?_, a3.tr b3⟩
      rw [dg_2 h h2]
      rw [show 48 + w / 10 % 10 = 48 + w / 10 by omega, show 48 + w / 1 % 10 = 48 + w % 10 by omega, List.append_assoc] at b2
      exact b2
    · obtain ⟨G1, a1, a2, a3⟩ := m_dig (kk := k + 8) (k := k + 4) hx (by omega) hw (x := 100) (by decide) (by decide)
      obtain ⟨G2, b1, b2, b3⟩ := m_dig (kk := k + 8) (k := k + 3) a2 (by rw [List.length_append]; show out.length + 1 + 1 < 100; omega) hw (x := 10) (by decide) (by decide)
      obtain ⟨G3, c1, c2, c3⟩ := m_dig (kk := k + 8) (k := k + 2) b2 (by rw [List.length_append, List.length_append]; show out.length + 1 + 1 + 1 < 100; omega) hw (x := 1) (by decide) (by decide)
      refine ⟨G3, (st (k + 7) 1 (by decide) (by decide) (by omega)).trans ((st (k + 6) 10 (by decide) (by decide) (by omega)).trans ((go (k + 5) 100 (by decide) (by decide) (by omega)).trans (a1.trans (b1.trans (c1.trans (fin (k + 1) G3)))))), ?_, (a3.tr b3).tr c3⟩
      rw [dg_3 h2]
      rw [show 48 + w / 100 % 10 = 48 + w / 100 by omega, show 48 + w / 1 % 10 = 48 + w % 10 by omega, List.append_assoc, List.append_assoc] at c2
      exact c2
/-- a number of three digits, with a sign -/
def sg3 (v : Int32) : Prop := ∃ w, w < 1000 ∧ (v = nI w ∨ (0 < w ∧ v = -nI w))
theorem sg3_b {v : Int32} (h : sg3 v) : -1000 < v ∧ v < 1000 := by
  obtain ⟨w, hw, rfl | ⟨h0, rfl⟩⟩ := h
  · exact ⟨Int32.lt_of_lt_of_le (by decide) (nn (by omega)), nI_lt (b := 1000) hw (by decide)⟩
  · have e : (-nI w).toInt = -(w : Int) := by rw [Int32.toInt_neg, nI_toInt (by omega), Int.bmod_eq_of_le (by omega) (by omega)]
    constructor
    · rw [Int32.lt_iff_toInt_lt, e, show (-1000 : Int32).toInt = -1000 by decide]; omega
    · rw [Int32.lt_iff_toInt_lt, e, show (1000 : Int32).toInt = 1000 by decide]; omega
theorem m_number (hx : ML out G) (hl : out.length + 6 < 100) (hk : 40 ≤ kk) {v : Int32} (hv : sg3 v) : ∃ G', D_Mo_writesNumber kk v G = okV G' ∧ ML (out ++ dg_ v) G' ∧ FrW G G' := by
  obtain ⟨w, hw, rfl | ⟨h0, rfl⟩⟩ := hv
  · obtain ⟨G', g1, g2, g3⟩ := m_nat (kk := kk) hx (by omega) hk hw
    refine ⟨G', (iT (nn (by omega))).trans ((rI m_mag).trans ?_), by rw [dg_p hw]; exact g2, g3⟩
    unfold ab
    rw [if_neg (nI_pos (by omega))]
    exact g1
  · obtain ⟨G1, a1, a2, a3⟩ := m_writes (kk := kk) hx (by omega) (c := 45) (by decide)
    obtain ⟨G', g1, g2, g3⟩ := m_nat (kk := kk) a2 (by rw [List.length_append]; show out.length + 1 + 4 < 100; omega) hk hw
    have hn : -nI w < 0 := ng_lt h0 (by omega)
    refine ⟨G', (iF (Int32.not_le.mpr hn)).trans ((rV a1).trans ((rI m_mag).trans ?_)), by rw [dg_n h0 hw]; rw [List.append_assoc] at g2; exact g2, a3.tr g3⟩
    unfold ab
    rw [if_pos hn, Int32.neg_neg]
    exact g1
theorem dg0_ch {w : Nat} (hw : w < 1000) : CH (dg0 w) ∧ (dg0 w).length ≤ 3 ∧ (w < 100 → (dg0 w).length ≤ 2) ∧ (w < 10 → (dg0 w).length ≤ 1) ∧ 0 < (dg0 w).length := by
  rcases Nat.lt_or_ge w 10 with h | h
  · rw [dg_1 h]
    exact ⟨CH.one (by omega), by show 1 ≤ 3; decide, fun _ => by show 1 ≤ 2; decide, fun _ => Nat.le_refl 1, by show 0 < 1; decide⟩
  · rcases Nat.lt_or_ge w 100 with h2 | h2
    · rw [dg_2 h h2]
      exact ⟨CH.app (a := [_]) (CH.one (by omega)) (CH.one (by omega)), by show 2 ≤ 3; decide, fun _ => Nat.le_refl 2, fun z => by omega, by show 0 < 2; decide⟩
    · rw [dg_3 h2]
      exact ⟨CH.app (a := [_]) (CH.one (by omega)) (CH.app (a := [_]) (CH.one (by omega)) (CH.one (by omega))), Nat.le_refl 3, fun z => by omega, fun z => by omega, by show 0 < 3; decide⟩
end Tx
section Rd
variable {kk : Nat} {G : GS} {S : SS} {t N : Nat} {W : Nat → Int32} {out : List Int32}
/-- a pillow's text; a bay's first n pillows -/
def pT (W : Nat → Int32) (b p : Nat) : List Int32 := dg_ (fW W b p 0) ++ [nI 119] ++ dg_ (fW W b p 1) ++ [nI 112] ++ dg_ (fW W b p 2)
def sT_ (out : List Int32) : List Int32 := if out.length = 0 then out else out ++ [nI 32]
def bT_ (W : Nat → Int32) (b : Nat) : Nat → List Int32
  | 0 => []
  | n + 1 => sT_ (bT_ W b n) ++ pT W b n
theorem pd_of (h : WF N W) (hNN : N ≤ 600) {b p : Nat} (hb : b < 7) (hp : p < hN W b) : ∃ x y z, x < 1000 ∧ y < 100 ∧ z < 10 ∧ fW W b p 0 = nI x ∧ fW W b p 1 = nI y ∧ fW W b p 2 = nI z := by
  obtain ⟨⟨x, h1, h2⟩, ⟨y, -, h3, h4⟩, ⟨z, h5, h6⟩, -⟩ := h.2.2.2.2.1 b p hb hp
  exact ⟨x, y, z, by omega, by omega, by omega, h2, h4, h6⟩
theorem pT_ch (h : WF N W) (hNN : N ≤ 600) {b p : Nat} (hb : b < 7) (hp : p < hN W b) : CH (pT W b p) ∧ (pT W b p).length ≤ 8 ∧ 0 < (pT W b p).length := by
  obtain ⟨x, y, z, h1, h2, h3, e1, e2, e3⟩ := pd_of h hNN hb hp
  obtain ⟨x1, x2, -, -, -⟩ := dg0_ch h1
  obtain ⟨y1, -, y2, -, -⟩ := dg0_ch (w := y) (by omega)
  obtain ⟨z1, -, -, z2, -⟩ := dg0_ch (w := z) (by omega)
  have y3 := y2 h2
  have z3 := z2 h3
  unfold pT
  rw [e1, e2, e3, dg_p h1, dg_p (by omega), dg_p (by omega)]
  refine ⟨(((x1.app (CH.one (by decide))).app y1).app (CH.one (by decide))).app z1, ?_, ?_⟩
  · simp only [List.length_append, List.length_cons, List.length_nil]; omega
  · simp only [List.length_append, List.length_cons, List.length_nil]; omega
theorem bT_ch (h : WF N W) (hNN : N ≤ 600) {b : Nat} (hb : b < 7) : ∀ n, n ≤ hN W b → CH (bT_ W b n) ∧ (bT_ W b n).length + 1 ≤ 9 * n + 1 ∧ (0 < n → 0 < (bT_ W b n).length ∧ (bT_ W b n).length + 1 ≤ 9 * n)
  | 0, _ => ⟨CH.nil, by show 0 + 1 ≤ 0 + 1; decide, fun z => by omega⟩
  | n + 1, hn => by
    obtain ⟨a1, a2, a3⟩ := bT_ch h hNN hb n (by omega)
    obtain ⟨p1, p2, p3⟩ := pT_ch h hNN hb (p := n) (by omega)
    unfold bT_ sT_
    by_cases z : (bT_ W b n).length = 0
    · rw [if_pos z]
      have z2 : (bT_ W b n ++ pT W b n).length = (pT W b n).length := by rw [List.length_append]; omega
      exact ⟨a1.app p1, by omega, fun _ => ⟨by omega, by omega⟩⟩
    · rw [if_neg z]
      have hn0 : 0 < n := by
        rcases Nat.eq_zero_or_pos n with y | y
        · subst y; exact absurd rfl z
        · exact y
      have a4 := a3 hn0
      have z2 : (bT_ W b n ++ [nI 32] ++ pT W b n).length = (bT_ W b n).length + 1 + (pT W b n).length := by simp only [List.length_append, List.length_cons, List.length_nil]
      exact ⟨(a1.app (CH.one (by decide))).app p1, by omega, fun _ => ⟨by omega, by omega⟩⟩
theorem c_sep (hx : XL out G) (hl : out.length < 48) : ∃ G', D_PB_separate kk G = okV G' ∧ XL (sT_ out) G' ∧ FrT G G' := by
  have x1 := hx.1
  unfold sT_
  by_cases z : out.length = 0
  · rw [if_pos z]
    refine ⟨G, (rI (v := nI (gn G)) (G := G) rfl).trans (iT ?_), hx, FrT.rf⟩
    rw [x1, z]; decide
  · rw [if_neg z]
    obtain ⟨G', g1, g2, g3⟩ := c_bapc hx hl (c := 32) (by decide)
    refine ⟨G', (rI (v := nI (gn G)) (G := G) rfl).trans ((iF ?_).trans ((rR g1).trans rfl)), g2, g3⟩
    rw [x1]; exact nI_nle (by omega) (by omega)
theorem sg_n {x : Nat} (h : x < 1000) : sg3 (nI x) := ⟨x, h, Or.inl rfl⟩
theorem c_pillow (h : WF N W) (hNN : N ≤ 600) (hA : AX W 0 G) (hx : XL out G) (hl : out.length ≤ 36) {b p : Nat} (hb : b < 7) (hp : p < hN W b) : ∃ G', D_PB_renderPillow kk (nI (5 * b + p)) G = okV G' ∧ XL (out ++ pT W b p) G' ∧ FrT G G' := by
  obtain ⟨x, y, z, h1, h2, h3, e1, e2, e3⟩ := pd_of h hNN hb hp
  have h5 := (h.1 b hb).1
  obtain ⟨-, x2, -, -, -⟩ := dg0_ch h1
  obtain ⟨-, -, y2, -, -⟩ := dg0_ch (w := y) (by omega)
  have y3 := y2 h2
  have lx : (dg_ (fW W b p 0)).length ≤ 3 := by rw [e1, dg_p h1]; exact x2
  have ly : (dg_ (fW W b p 1)).length ≤ 2 := by rw [e2, dg_p (by omega)]; exact y3
  obtain ⟨b1, b2⟩ := sg3_b (sg_n h1)
  obtain ⟨b3, b4⟩ := sg3_b (sg_n (x := y) (by omega))
  obtain ⟨b5, b6⟩ := sg3_b (sg_n (x := z) (by omega))
  obtain ⟨G1, a1, a2, a3⟩ := c_bapi hx (by omega) (v := fW W b p 0) (by rw [e1]; exact b1) (by rw [e1]; exact b2)
  obtain ⟨G2, c1, c2, c3⟩ := c_bapc a2 (by rw [List.length_append]; omega) (c := 119) (by decide)
  obtain ⟨G3, d1, d2, d3⟩ := c_bapi c2 (by simp only [List.length_append, List.length_cons, List.length_nil]; omega) (v := fW W b p 1) (by rw [e2]; exact b3) (by rw [e2]; exact b4)
  obtain ⟨G4, f1, f2, f3⟩ := c_bapc d2 (by simp only [List.length_append, List.length_cons, List.length_nil]; omega) (c := 112) (by decide)
  obtain ⟨G5, g1, g2, g3⟩ := c_bapi f2 (by simp only [List.length_append, List.length_cons, List.length_nil]; omega) (v := fW W b p 2) (by rw [e3]; exact b5) (by rw [e3]; exact b6)
  have A2 := AX_T hA (a3.tr c3)
  have A4 := AX_T A2 (d3.tr f3)
  refine ⟨G5, ?_, by unfold pT; rw [← List.append_assoc, ← List.append_assoc, ← List.append_assoc, ← List.append_assoc]; exact g2, (((a3.tr c3).tr d3).tr f3).tr g3⟩
  refine (rI (c_at hA hb hp h5).1).trans ((rR a1).trans ((rR c1).trans ?_))
  refine (rI (c_at A2 hb hp h5).2.1).trans ((rR d1).trans ((rR f1).trans ?_))
  exact (rI (c_at A4 hb hp h5).2.2.1).trans ((rR g1).trans rfl)
theorem c_stackT (h : WF N W) (hNN : N ≤ 600) {b : Nat} (hb : b < 7) : ∀ n i k (G : GS), i + n = 5 → n < k → AX W 0 G → XL (bT_ W b (min i (hN W b))) G → ∃ G', L_PB_renderStack kk k (nI b) (nI i) G = okI (nI (bT_ W b (hN W b)).length) G' ∧ XL (bT_ W b (hN W b)) G' ∧ FrT G G' := by
  have h5 := (h.1 b hb).1
  intro n
  induction n with
  | zero =>
    intro i k G hi hk hA hx
    obtain ⟨k, rfl⟩ : ∃ j, k = j + 1 := ⟨k - 1, by omega⟩
    obtain rfl : i = 5 := by omega
    rw [Nat.min_eq_right h5] at hx
    refine ⟨G, ?_, hx, FrT.rf⟩
    refine (show _ = okI (nI (gn G)) G from rfl).trans ?_
    rw [hx.1]
  | succ n ih =>
    intro i k G hi hk hA hx
    obtain ⟨k, rfl⟩ : ∃ j, k = j + 1 := ⟨k - 1, by omega⟩
    have hi5 : i < 5 := by omega
    by_cases q : i < hN W b
    · rw [Nat.min_eq_left (Nat.le_of_lt q)] at hx
      obtain ⟨l1, l2, l3⟩ := bT_ch h hNN hb i (Nat.le_of_lt q)
      have hl : (sT_ (bT_ W b i)).length ≤ 36 := by
        unfold sT_
        by_cases z : (bT_ W b i).length = 0
        · rw [if_pos z]; omega
        · have hi0 : 0 < i := by
            rcases Nat.eq_zero_or_pos i with y | y
            · subst y; exact absurd rfl z
            · exact y
          have := l3 hi0
          rw [if_neg z, List.length_append]; show (bT_ W b i).length + 1 ≤ 36; omega
      obtain ⟨G1, a1, a2, a3⟩ := c_sep (kk := kk) hx (by omega)
      obtain ⟨G2, b1, b2, b3⟩ := c_pillow (kk := kk) h hNN (AX_T hA a3) a2 hl hb q
      obtain ⟨G', g1, g2, g3⟩ := ih (i + 1) k G2 (by omega) (by omega) (AX_T (AX_T hA a3) b3) (by rw [Nat.min_eq_left q]; exact b2)
      refine ⟨G', ?_, g2, (a3.tr b3).tr g3⟩
      refine (iF (nI_ge (b := 5) hi5 (by decide))).trans ((rI (c_slotAt h.1 hA hb hi5)).trans ?_)
      rw [if_pos q]
      refine (rI (c_isSlot (by omega))).trans ((iF (by decide)).trans ((rV a1).trans ((rV b1).trans ?_)))
      rw [nI_1]; exact g1
    · rw [Nat.min_eq_right (by omega)] at hx
      obtain ⟨G', g1, g2, g3⟩ := ih (i + 1) k G (by omega) (by omega) hA (by rw [Nat.min_eq_right (by omega)]; exact hx)
      refine ⟨G', ?_, g2, g3⟩
      refine (iF (nI_ge (b := 5) hi5 (by decide))).trans ((rI (c_slotAt h.1 hA hb hi5)).trans ?_)
      rw [if_neg q]
      refine (rI c_isSlotm).trans ((iT rfl).trans ?_)
      rw [nI_1]; exact g1
theorem m_pillowT (h : WF N W) (hNN : N ≤ 600) (hk : 40 ≤ kk) {b : Nat} (hb : b < 7) {k : Nat} {p : Nat} (hp : p < hN W b) {G : GS} (hM : AM W G) (hx : ML out G) (hl : out.length ≤ 50) : ∃ G', (L_Mo_renderStack kk (k + 1)).2 (nI b) (nI p) G = (L_Mo_renderStack kk k).1 (nI b) (nI (p + 1)) G' ∧ ML (out ++ pT W b p) G' ∧ FrW G G' := by
  obtain ⟨x, y, z, h1, h2, h3, e1, e2, e3⟩ := pd_of h hNN hb hp
  have h5 := (h.1 b hb).1
  obtain ⟨-, x2, -, -, -⟩ := dg0_ch h1
  obtain ⟨-, -, y2, -, -⟩ := dg0_ch (w := y) (by omega)
  have y3 := y2 h2
  have lx : (dg_ (fW W b p 0)).length ≤ 3 := by rw [e1, dg_p h1]; exact x2
  have ly : (dg_ (fW W b p 1)).length ≤ 2 := by rw [e2, dg_p (by omega)]; exact y3
  obtain ⟨G1, a1, a2, a3⟩ := m_number (kk := kk) hx (by omega) hk (v := fW W b p 0) (by rw [e1]; exact sg_n h1)
  obtain ⟨G2, c1, c2, c3⟩ := m_writes (kk := kk) a2 (by rw [List.length_append]; omega) (c := 119) (by decide)
  obtain ⟨G3, d1, d2, d3⟩ := m_number (kk := kk) c2 (by simp only [List.length_append, List.length_cons, List.length_nil]; omega) hk (v := fW W b p 1) (by rw [e2]; exact sg_n (by omega))
  obtain ⟨G4, f1, f2, f3⟩ := m_writes (kk := kk) d2 (by simp only [List.length_append, List.length_cons, List.length_nil]; omega) (c := 112) (by decide)
  obtain ⟨G5, g1, g2, g3⟩ := m_number (kk := kk) f2 (by simp only [List.length_append, List.length_cons, List.length_nil]; omega) hk (v := fW W b p 2) (by rw [e3]; exact sg_n (by omega))
  have M2 := AM_W hM (a3.tr c3)
  have M4 := AM_W M2 (d3.tr f3)
  refine ⟨G5, ?_, by unfold pT; rw [← List.append_assoc, ← List.append_assoc, ← List.append_assoc, ← List.append_assoc]; exact g2, (((a3.tr c3).tr d3).tr f3).tr g3⟩
  refine (rI (m_at (k := 0) hM hb (by omega) (by decide))).trans ((rV a1).trans ((rV c1).trans ?_))
  refine (rI (m_at (k := 1) M2 hb (by omega) (by decide))).trans ((rV d1).trans ((rV f1).trans ?_))
  refine (rI (m_at (k := 2) M4 hb (by omega) (by decide))).trans ((rV g1).trans ?_)
  rw [nI_1]
theorem m_stackT (h : WF N W) (hNN : N ≤ 600) (hk : 40 ≤ kk) {b : Nat} (hb : b < 7) : ∀ n i k (G : GS), i + n = hN W b → 2 * n < k → AM W G → ML (bT_ W b i) G → ∃ G', (L_Mo_renderStack kk k).1 (nI b) (nI i) G = okI (nI (bT_ W b (hN W b)).length) G' ∧ ML (bT_ W b (hN W b)) G' ∧ FrW G G' := by
  have h5 := (h.1 b hb).1
  intro n
  induction n with
  | zero =>
    intro i k G hi hk hM hx
    obtain ⟨k, rfl⟩ : ∃ j, k = j + 1 := ⟨k - 1, by omega⟩
    obtain rfl : i = hN W b := by omega
    refine ⟨G, ?_, hx, FrW.rf⟩
    refine (bT (m_hin hb)).trans ?_
    rw [m_hgt h.1 hM hb]
    refine (iT (nI_le (Nat.le_refl _) (by omega))).trans ?_
    rw [hx.1]
  | succ n ih =>
    intro i k G hi hk2 hM hx
    obtain ⟨k, rfl⟩ : ∃ j, k = j + 2 := ⟨k - 2, by omega⟩
    obtain ⟨l1, l2, l3⟩ := bT_ch h hNN hb i (by omega)
    have q : i < hN W b := by omega
    by_cases z : i = 0
    · subst z
      obtain ⟨G2, b1, b2, b3⟩ := m_pillowT (k := k) h hNN hk hb q hM hx (by omega)
      obtain ⟨G', g1, g2, g3⟩ := ih 1 k G2 (by omega) (by omega) (AM_W hM b3) (by exact b2)
      refine ⟨G', ?_, g2, b3.tr g3⟩
      refine (bT (m_hin hb)).trans ?_
      rw [m_hgt h.1 hM hb]
      refine (iF (nI_ge q (by omega))).trans ?_
      exact b1.trans g1
    · have l4 := l3 (by omega)
      obtain ⟨G1, a1, a2, a3⟩ := m_writes (kk := kk) hx (by omega) (c := 32) (by decide)
      obtain ⟨G2, b1, b2, b3⟩ := m_pillowT (k := k) h hNN hk hb q (AM_W hM a3) a2 (by rw [List.length_append]; show (bT_ W b i).length + 1 ≤ 50; omega)
      obtain ⟨G', g1, g2, g3⟩ := ih (i + 1) k G2 (by omega) (by omega) (AM_W (AM_W hM a3) b3) (by
        unfold bT_ sT_
        rw [if_neg (by omega)]
        exact b2)
      refine ⟨G', ?_, g2, (a3.tr b3).tr g3⟩
      refine (bT (m_hin hb)).trans ?_
      rw [m_hgt h.1 hM hb]
      refine (iF (nI_ge q (by omega))).trans ((iF (nI_nle (by omega) (by omega))).trans ((rV a1).trans ?_))
      exact b1.trans g1
theorem SW_out (hS : SW t S) (hl : out.length ≤ 60) (hc : CH out) : SW (t + 1) (sOut S out) := by
  obtain ⟨s1, s2, s3, s4, s5, s6, s7, s8, -, -⟩ := hS
  refine ⟨Nat.le_succ_of_le s1, s2, s3, s4, s5, s6, s7, s8, hl, fun i hi => ?_⟩
  have hi' : i < out.length := hi
  refine hc (out.getD i 0) ?_
  rw [List.getD_eq_getElem?_getD, List.getElem?_eq_getElem hi']
  exact List.getElem_mem hi'
theorem ML_0 {G : GS} : ML [] (si G (0, 50) 9 0) := ⟨by rw [gi_si, if_pos ⟨rfl, rfl⟩]; rfl, fun i hi => absurd hi (Nat.not_lt_zero i)⟩
theorem FrW_0 {G : GS} {v : Int32} : FrW G (si G (0, 50) 9 v) := ⟨fun r f n => by rw [gi_si, if_neg n], fun _ _ _ => rfl, rfl⟩
theorem e_renderStack (hk : 200 ≤ kk) (ht : t ≤ 600) (h : Rel t G) (a : Int32) : EQI t (D_Law_renderStack kk a G) (fun G => D_Mo_renderStack kk a G) := by
  obtain ⟨S, hS, hX, hM⟩ := h
  have hNN : sN S ≤ 600 := by have := hS.1; omega
  rcases bayc a with hb | ⟨b, hb, rfl⟩
  · exact eqi_x (k := 1) hS hX hM (by decide) (by decide) (rIx (rVx (c_reqBayx hb))) (fun G1 h1 G0 e => by subst e; exact (rI (m_isBayx hb)).trans ((iT rfl).trans (rI rfl)))
  · have h5 := (hS.2.1.1 b hb).1
    obtain ⟨l1, l2, l3⟩ := bT_ch hS.2.1 hNN hb (hN (sW S) b) (Nat.le_refl _)
    have f0 : FrT G (st_ G 0 (gt G)) := ⟨rfl, rfl, rfl⟩
    obtain ⟨G1, a1, a2, a3⟩ := c_stackT (kk := kk) hS.2.1 hNN hb 5 0 (Nat.min kk 14) (st_ G 0 (gt G)) rfl (by rw [show Nat.min kk 14 = 14 from Nat.min_eq_right (by omega)]; decide) (AX_T hX.1 f0) (by rw [Nat.zero_min]; exact ⟨rfl, fun i hi => absurd hi (Nat.not_lt_zero i)⟩)
    have fT := f0.tr a3
    have hM0 : RelM S G1 := RelM_fr hM (FrX_T fT)
    have hX0 : RelX (sOut S (bT_ (sW S) b (hN (sW S) b))) G1 := RelX_T hX fT a2
    have hM1 : RelM S (si (so_ G1 (nI (bT_ (sW S) b (hN (sW S) b)).length).toInt64) (0, 50) 0 0) := RelM_th (show RelM S (so_ G1 _) from hM0)
    obtain ⟨G2, b1, b2, b3⟩ := m_stackT (kk := kk) hS.2.1 hNN (by omega) hb (hN (sW S) b) 0 kk (si (si (so_ G1 (nI (bT_ (sW S) b (hN (sW S) b)).length).toInt64) (0, 50) 0 0) (0, 50) 9 0) (by omega) (by omega) (AM_W hM1.1 FrW_0) ML_0
    have hx : D_PB_renderStack kk (nI b) G = okI (nI (bT_ (sW S) b (hN (sW S) b)).length) G1 := (rV (c_reqBay hb)).trans ((rV (G := st_ G 0 (gt G)) (iT rfl)).trans a1)
    refine ⟨0, _, nI (bT_ (sW S) b (hN (sW S) b)).length, G2, rI hx, (rI (m_isBay hb)).trans ((iF (by decide)).trans b1), ?_, fun _ => ?_, sOut S (bT_ (sW S) b (hN (sW S) b)), SW_out hS (by omega) l1, ?_, RelM_W hM1 (FrW_0.tr b3) b2⟩
    · rw [(FrW_0.tr b3).1 _ _ (fun z => by cases z.2)]; exact th_eq
    · rw [go_of (v := (nI (bT_ (sW S) b (hN (sW S) b)).length).toInt64) (FrO_W (FrW_0.tr b3))]; exact lg_self _
    · exact RelX_fr (RelX_fr (show RelX _ (so_ G1 (nI (bT_ (sW S) b (hN (sW S) b)).length).toInt64) from hX0) FrO_th) (FrO_W (FrW_0.tr b3))
/-- the barge's text: the first n bays -/
def wT (W : Nat → Int32) : Nat → List Int32
  | 0 => []
  | n + 1 => sT_ (wT W n) ++ dg_ (wB W n)
def gT (W : Nat → Int32) : List Int32 := wT W 7 ++ [nI 61] ++ dg_ (mom W)
theorem wT_ch (h : WF N W) : ∀ n, n ≤ 7 → CH (wT W n) ∧ (wT W n).length ≤ 4 * n ∧ (0 < n → 0 < (wT W n).length ∧ (wT W n).length + 1 ≤ 4 * n)
  | 0, _ => ⟨CH.nil, by show 0 ≤ 0; decide, fun z => by omega⟩
  | n + 1, hn => by
    obtain ⟨a1, a2, a3⟩ := wT_ch h n (by omega)
    obtain ⟨m, hm, e⟩ := wB_b h (b := n) (by omega)
    obtain ⟨p1, p2, -, -, p3⟩ := dg0_ch (w := m) (by omega)
    unfold wT sT_
    rw [e, dg_p (by omega)]
    by_cases z : (wT W n).length = 0
    · rw [if_pos z]
      have z2 : (wT W n ++ dg0 m).length = (dg0 m).length := by rw [List.length_append]; omega
      exact ⟨a1.app p1, by omega, fun _ => ⟨by omega, by omega⟩⟩
    · rw [if_neg z]
      have hn0 : 0 < n := by
        rcases Nat.eq_zero_or_pos n with y | y
        · subst y; exact absurd rfl z
        · exact y
      have a4 := a3 hn0
      have z2 : (wT W n ++ [nI 32] ++ dg0 m).length = (wT W n).length + 1 + (dg0 m).length := by simp only [List.length_append, List.length_cons, List.length_nil]
      exact ⟨(a1.app (CH.one (by decide))).app p1, by omega, fun _ => ⟨by omega, by omega⟩⟩
theorem sg_m {x : Int32} (h : -99 ≤ x.toInt ∧ x.toInt ≤ 99) : sg3 x := by
  refine ⟨x.toInt.natAbs, by omega, ?_⟩
  by_cases z : x.toInt < 0
  · refine Or.inr ⟨by omega, ?_⟩
    rw [← Int32.toInt_inj, Int32.toInt_neg, nI_toInt (by omega), Int.bmod_eq_of_le (by omega) (by omega)]
    omega
  · refine Or.inl ?_
    rw [← Int32.toInt_inj, nI_toInt (by omega)]
    omega
theorem dg_3l {v : Int32} (h : sg3 v) : CH (dg_ v) ∧ (dg_ v).length ≤ 4 := by
  obtain ⟨w, hw, rfl | ⟨h0, rfl⟩⟩ := h
  · obtain ⟨a, b, -, -, -⟩ := dg0_ch hw
    rw [dg_p hw]; exact ⟨a, by omega⟩
  · obtain ⟨a, b, -, -, -⟩ := dg0_ch hw
    rw [dg_n h0 hw]
    exact ⟨CH.app (a := [_]) (CH.one (c := 45) (by decide)) a, by rw [List.length_cons]; omega⟩
theorem gT_ch (h : WF N W) : CH (gT W) ∧ (gT W).length ≤ 60 := by
  obtain ⟨a1, a2, a3⟩ := wT_ch h 7 (Nat.le_refl 7)
  obtain ⟨b1, b2⟩ := dg_3l (sg_m (mom_b h))
  refine ⟨(a1.app (CH.one (by decide))).app b1, ?_⟩
  unfold gT
  simp only [List.length_append, List.length_cons, List.length_nil]
  omega
theorem c_bargeT (h : WF N W) : ∀ n i k (G : GS), i + n = 7 → n < k → 40 ≤ kk → AX W 0 G → XL (wT W i) G → ∃ G', L_PB_renderBarge kk k (nI i) G = okI (nI (gT W).length) G' ∧ XL (gT W) G' ∧ FrT G G' := by
  intro n
  induction n with
  | zero =>
    intro i k G hi hk hkk hA hx
    obtain ⟨k, rfl⟩ : ∃ j, k = j + 1 := ⟨k - 1, by omega⟩
    obtain rfl : i = 7 := by omega
    obtain ⟨l1, l2, l3⟩ := wT_ch h 7 (Nat.le_refl 7)
    have hs := sg_m (mom_b h)
    obtain ⟨b1, b2⟩ := sg3_b hs
    obtain ⟨G1, a1, a2, a3⟩ := c_bapc hx (by omega) (c := 61) (by decide)
    obtain ⟨G2, d1, d2, d3⟩ := c_bapi a2 (by simp only [List.length_append, List.length_cons, List.length_nil]; omega) b1 b2
    refine ⟨G2, ?_, d2, a3.tr d3⟩
    refine (show _ = (D_bapc 61 G).bind (fun r => oR 16 r (fun q7 G4 => (D_Cargo_momentOfPillows kk 0 G4).bind (fun r => oI r (fun v11 G8 => (D_bapi v11 G8).bind (fun r => oR 16 r (fun q15 G12 => okI (nI (gn G12)) G12) exc)) exc)) exc) from rfl).trans ?_
    refine (rR a1).trans ((rI (c_momentOfPillows h.1 (AX_T hA a3) hkk)).trans ((rR d1).trans ?_))
    rw [d2.1]; rfl
  | succ n ih =>
    intro i k G hi hk hkk hA hx
    obtain ⟨k, rfl⟩ : ∃ j, k = j + 1 := ⟨k - 1, by omega⟩
    have hi7 : i < 7 := by omega
    obtain ⟨l1, l2, l3⟩ := wT_ch h i (by omega)
    obtain ⟨m, hm, e⟩ := wB_b h hi7
    obtain ⟨b1, b2⟩ := sg3_b (sg_n (x := m) (by omega))
    have hl : (sT_ (wT W i)).length ≤ 4 * i + 1 := by
      unfold sT_
      by_cases z : (wT W i).length = 0
      · rw [if_pos z]; omega
      · rw [if_neg z, List.length_append]; show (wT W i).length + 1 ≤ 4 * i + 1; omega
    obtain ⟨G1, a1, a2, a3⟩ := c_sep (kk := kk) hx (by omega)
    obtain ⟨G2, d1, d2, d3⟩ := c_bapi a2 (by omega) (v := wB W i) (by rw [e]; exact b1) (by rw [e]; exact b2)
    obtain ⟨G', g1, g2, g3⟩ := ih (i + 1) k G2 (by omega) (by omega) hkk (AX_T (AX_T hA a3) d3) d2
    refine ⟨G', ?_, g2, (a3.tr d3).tr g3⟩
    refine (iF (nI_ge (b := 7) hi7 (by decide))).trans ((rV a1).trans ((rI (c_weightOfBay h.1 (AX_T hA a3) hkk hi7)).trans ((rR d1).trans ?_)))
    rw [nI_1]; exact g1
theorem m_bargeT (h : WF N W) (hkk : 40 ≤ kk) : ∀ n i k (G : GS), i + n = 7 → n < k → AM W G → ML (wT W i) G → ∃ G', L_Mo_renderBarge kk k (nI i) G = okI (nI (gT W).length) G' ∧ ML (gT W) G' ∧ FrW G G' := by
  intro n
  induction n with
  | zero =>
    intro i k G hi hk hM hx
    obtain ⟨k, rfl⟩ : ∃ j, k = j + 1 := ⟨k - 1, by omega⟩
    obtain rfl : i = 7 := by omega
    obtain ⟨l1, l2, l3⟩ := wT_ch h 7 (Nat.le_refl 7)
    have hs := sg_m (mom_b h)
    obtain ⟨G1, a1, a2, a3⟩ := m_writes (kk := kk) hx (by omega) (c := 61) (by decide)
    obtain ⟨G2, d1, d2, d3⟩ := m_number (kk := kk) a2 (by simp only [List.length_append, List.length_cons, List.length_nil]; omega) hkk hs
    refine ⟨G2, ?_, d2, a3.tr d3⟩
    refine (show _ = (D_Mo_writes kk 61 G).bind (fun r => oV r (fun G1 => (D_Mo_momentNow kk G1).bind (fun r => oI r (fun v7 G4 => (D_Mo_writesNumber kk v7 G4).bind (fun r => oV r (fun G8 => okI (gi G8 (0, 50) 9) G8) exc)) exc)) exc) from rfl).trans ?_
    refine (rV a1).trans ((rI (m_momentNow h.1 (AM_W hM a3) hkk)).trans ((rV d1).trans ?_))
    rw [d2.1]; rfl
  | succ n ih =>
    intro i k G hi hk hM hx
    obtain ⟨k, rfl⟩ : ∃ j, k = j + 1 := ⟨k - 1, by omega⟩
    have hi7 : i < 7 := by omega
    obtain ⟨l1, l2, l3⟩ := wT_ch h i (by omega)
    obtain ⟨m, hm, e⟩ := wB_b h hi7
    have hs : sg3 (wB W i) := by rw [e]; exact sg_n (by omega)
    refine (fun (x : ∃ G', _ ∧ _ ∧ _) => x) ?_
    by_cases z : i = 0
    · subst z
      obtain ⟨G2, d1, d2, d3⟩ := m_number (kk := kk) hx (by show 0 + 6 < 100; decide) hkk hs
      obtain ⟨G', g1, g2, g3⟩ := ih 1 k G2 (by omega) (by omega) (AM_W hM d3) d2
      refine ⟨G', ?_, g2, d3.tr g3⟩
      refine (show _ = (D_Mo_weightOfBay kk (nI 0) G).bind (fun r => oI r (fun v14 G11 => (D_Mo_writesNumber kk v14 G11).bind (fun r => oV r (fun G15 => (L_Mo_renderBarge kk k) (nI 0 + 1) G15) exc)) exc) from rfl).trans ?_
      refine (rI (m_weightOfBay h.1 hM hkk hi7)).trans ((rV d1).trans ?_)
      rw [nI_1]; exact g1
    · have l4 := l3 (by omega)
      obtain ⟨G1, a1, a2, a3⟩ := m_writes (kk := kk) hx (by omega) (c := 32) (by decide)
      obtain ⟨G2, d1, d2, d3⟩ := m_number (kk := kk) a2 (by rw [List.length_append]; show (wT W i).length + 1 + 6 < 100; omega) hkk hs
      obtain ⟨G', g1, g2, g3⟩ := ih (i + 1) k G2 (by omega) (by omega) (AM_W (AM_W hM a3) d3) (by
        unfold wT sT_
        rw [if_neg (by omega)]
        exact d2)
      refine ⟨G', ?_, g2, (a3.tr d3).tr g3⟩
      refine (iF (nI_ge (b := 7) hi7 (by decide))).trans ((iF (nI_nle (by omega) (by omega))).trans ((rV a1).trans ((rI (m_weightOfBay h.1 (AM_W hM a3) hkk hi7)).trans ((rV d1).trans ?_))))
      rw [nI_1]; exact g1
theorem e_renderBarge (hk : 200 ≤ kk) (h : Rel t G) : EQV t (D_PB_renderBarge kk G) (fun G => D_Mo_renderBarge kk G) := by
  obtain ⟨S, hS, hX, hM⟩ := h
  obtain ⟨l1, l2⟩ := gT_ch hS.2.1
  have f0 : FrT G (st_ G 0 (gt G)) := ⟨rfl, rfl, rfl⟩
  obtain ⟨G1, a1, a2, a3⟩ := c_bargeT (kk := kk) hS.2.1 7 0 (Nat.min kk 10) (st_ G 0 (gt G)) rfl (by rw [show Nat.min kk 10 = 10 from Nat.min_eq_right (by omega)]; decide) (by omega) (AX_T hX.1 f0) ⟨rfl, fun i hi => absurd hi (Nat.not_lt_zero i)⟩
  have fT := f0.tr a3
  have hM0 : RelM S G1 := RelM_fr hM (FrX_T fT)
  have hX0 : RelX (sOut S (gT (sW S))) G1 := RelX_T hX fT a2
  have hM1 : RelM S (si G1 (0, 50) 0 0) := RelM_th hM0
  obtain ⟨G2, b1, b2, b3⟩ := m_bargeT (kk := kk) hS.2.1 (by omega) 7 0 kk (si (si G1 (0, 50) 0 0) (0, 50) 9 0) rfl (by omega) (AM_W hM1.1 FrW_0) ML_0
  exact ⟨nI (gT (sW S)).length, G1, G2, (rV (G := st_ G 0 (gt G)) (iT rfl)).trans a1, b1, sOut S (gT (sW S)), SW_out hS l2 l1, RelX_fr (RelX_fr hX0 FrO_th) (FrO_W (FrW_0.tr b3)), RelM_W hM1 (FrW_0.tr b3) b2⟩
end Rd
