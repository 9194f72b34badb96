/-! WALKS OVER AN EXPLICIT WORLD: for the JDK's members and the constructors -/
def xw (x : CX) (ws : va_W) : CX := match x with
  | (a, (D, cs, b, ad, adV, sc, _, _), r) => (a, (D, cs, b, ad, adV, sc, [], fun _ w => w = ws), r)
def Gz : GS := (fun _ _ => 0, fun _ _ => 0, (0, fun _ => 0), (0, 0))
abbrev WJ (x : CX) (ws : va_W) (pc : Nat) (ls : Ls) (st : List AV) (u : Nat) : Prop := WG (xw x ws) pc ls st Gz u
/-- what is the same all through -/
abbrev KT : Type := va_G × (Nat → ClassId) × Nat × (Rf → Nat) × (Nat → Nat) × (Nat × (Nat → Int32))
def cxK (x : CX) : KT := match x with
  | (_, (D, cs, b, ad, adV, sc, _, _), _) => (D, cs, b, ad, adV, sc)
theorem jde {x : CX} {cc : ByteArray} (hC : cxC x = cc) {pc : Nat} {ws : va_W} {r : Except DecodeError (Instr × Nat)} (h : decode cc pc = r) : decode (cxC (xw x ws)) pc = r := by
  subst hC
  exact h
def Pj (K : KT) (vs : List Value) (ws : va_W) : Array Value → State → Prop := match K with
  | (D, cs, b, ad, adV, sc) => va_Pc vs (fun U => (va_P D cls_ ws U.heap ∧ va_D (Ab b) ws) ∧ KS D cs b ad adV sc U U.heap ∧ b ≤ U.heap.size)
def Qj (K : KT) (post : Option Value → va_W → Prop) : Array Value → State → Outcome → State → Prop := match K with
  | (D, _, b, _, _, _) => fun _ st oc t => (∃ v w, post v w ∧ oc = .returned v ∧ va_P D cls_ w t.heap ∧ va_D (Ab b) w) ∧ va_F (Ab b) st t
def kb (K : KT) : Nat := K.2.2.1
/-- a method over an explicit world -/
def JC (K : KT) (l : Launch) (y : MethodName) (bytes : ByteArray) (maxL : Nat) (ret : Option FieldType) (lev cost : Nat) (vs : List Value) (ws : va_W) (post : Option Value → va_W → Prop) : Prop :=
  Met l y (.code y bytes maxL ret :: lw_all) (roomL lev cost) (Pj K vs ws) (Qj K post) cost (100 * cost) (Ab (kb K))
theorem PWj {D : va_G} {cs : Nat → ClassId} {b : Nat} {ad : Rf → Nat} {ws : va_W} {H : Heap} (hP : va_P D cls_ ws H) (hD : va_D (Ab b) ws) : PW D cs b ad [] (fun _ w => w = ws) Gz H := ⟨ws, rfl, hP, hD⟩
theorem PWj' {D : va_G} {cs : Nat → ClassId} {b : Nat} {ad : Rf → Nat} {ws : va_W} {H : Heap} (h : PW D cs b ad [] (fun _ w => w = ws) Gz H) : va_P D cls_ ws H ∧ va_D (Ab b) ws := by
  obtain ⟨w, rfl, h1, h2⟩ := h
  exact ⟨h1, h2⟩
section J1
variable {x : CX} {pc : Nat} {ls : Ls} {st : List AV} {G : GS} {u : Nat}
theorem jd_top {a b : AV} (h : a = b) (hk : WG x pc ls (b :: st) G u) : WG x pc ls (a :: st) G u := h ▸ hk
theorem jd_aload {i q : Nat} (hF : FX x) (hd : decode (cxC x) pc = .ok (.aload i, 2)) (hi : ls[i]? = some (some (.inl (.ref q)))) (hk : WG x (pc + 2) ls (.inl (.ref q) :: st) G u) : WG x pc ls st G u := by
  obtain ⟨⟨p, l, e, R, s, m, args, below, meth, c, Q⟩, ⟨D, cs, b, ad, adV, sc, L, XT⟩, cc, nL, own, c0, s0, seg, lv⟩ := x
  obtain ⟨hx, hb, hml, hown, hts, hKS, hbs, hL, hlocks, hR1, hR2, hR3, hR4⟩ := hF
  intro H locs cells slots sl hP hS hl h1 h2
  exact lv_aload hx hb hd (LV_at hl hi) (hk H locs cells slots sl hP hS hl h1 h2)
theorem jd_aload_n {k : Fin 4} {i q : Nat} (hF : FX x) (hd : decode (cxC x) pc = .ok (.aload_n k, 1)) (hki : (k : Nat) = i) (hi : ls[i]? = some (some (.inl (.ref q)))) (hk : WG x (pc + 1) ls (.inl (.ref q) :: st) G u) : WG x pc ls st G u := by
  obtain ⟨⟨p, l, e, R, s, m, args, below, meth, c, Q⟩, ⟨D, cs, b, ad, adV, sc, L, XT⟩, cc, nL, own, c0, s0, seg, lv⟩ := x
  obtain ⟨hx, hb, hml, hown, hts, hKS, hbs, hL, hlocks, hR1, hR2, hR3, hR4⟩ := hF
  intro H locs cells slots sl hP hS hl h1 h2
  exact lv_aload_n hx hb hd hki (LV_at hl hi) (hk H locs cells slots sl hP hS hl h1 h2)
theorem jd_iload {i : Nat} {v : Int32} (hF : FX x) (hd : decode (cxC x) pc = .ok (.iload i, 2)) (hi : ls[i]? = some (some (.inl (.int v)))) (hk : WG x (pc + 2) ls (.inl (.int v) :: st) G u) : WG x pc ls st G u :=
  sd_ld hF hi (Or.inr (Or.inl ⟨rfl, Or.inl ⟨hd, rfl⟩⟩)) rfl hk
theorem jd_iload_n {k : Fin 4} {i : Nat} {v : Int32} (hF : FX x) (hd : decode (cxC x) pc = .ok (.iload_n k, 1)) (hki : (k : Nat) = i) (hi : ls[i]? = some (some (.inl (.int v)))) (hk : WG x (pc + 1) ls (.inl (.int v) :: st) G u) : WG x pc ls st G u :=
  sd_ld hF hi (Or.inr (Or.inl ⟨rfl, Or.inr ⟨k, hd, hki, rfl⟩⟩)) rfl hk
theorem jd_istore {i : Nat} {v : Int32} (hF : FX x) (hd : decode (cxC x) pc = .ok (.istore i, 2)) (hbl : ai_below i ls = true) (hil : i + 1 ≤ ls.length) (hk : WG x (pc + 2) (ls.set i (some (.inl (.int v)))) st G u) : WG x pc ls (.inl (.int v) :: st) G u :=
  sd_sto hF (by decide) (Or.inr (Or.inl ⟨rfl, Or.inl ⟨hd, rfl⟩⟩)) rfl hbl hil hk
theorem jd_istore_n {k : Fin 4} {i : Nat} {v : Int32} (hF : FX x) (hd : decode (cxC x) pc = .ok (.istore_n k, 1)) (hki : (k : Nat) = i) (hbl : ai_below i ls = true) (hil : i + 1 ≤ ls.length) (hk : WG x (pc + 1) (ls.set i (some (.inl (.int v)))) st G u) : WG x pc ls (.inl (.int v) :: st) G u :=
  sd_sto hF (by decide) (Or.inr (Or.inl ⟨rfl, Or.inr ⟨k, hd, hki, rfl⟩⟩)) rfl hbl hil hk
theorem jd_astore {i q : Nat} (hF : FX x) (hd : decode (cxC x) pc = .ok (.astore i, 2)) (hbl : ai_below i ls = true) (hil : i + 1 ≤ ls.length) (hk : WG x (pc + 2) (ls.set i (some (.inl (.ref q)))) st G u) : WG x pc ls (.inl (.ref q) :: st) G u := by
  obtain ⟨⟨p, l, e, R, s, m, args, below, meth, c, Q⟩, ⟨D, cs, b, ad, adV, sc, L, XT⟩, cc, nL, own, c0, s0, seg, lv⟩ := x
  obtain ⟨hx, hb, hml, hown, hts, hKS, hbs, hL, hlocks, hR1, hR2, hR3, hR4⟩ := hF
  intro H locs cells slots sl hP hS hl h1 h2
  exact lv_astore hx hb hd hl.2 (by rw [← hl.1]; omega) rfl (fun sl' h => hk H locs cells slots sl' hP hS (LV_set hl.1 hbl h) h1 h2)
theorem jd_astore_n {k : Fin 4} {i q : Nat} (hF : FX x) (hd : decode (cxC x) pc = .ok (.astore_n k, 1)) (hki : (k : Nat) = i) (hbl : ai_below i ls = true) (hil : i + 1 ≤ ls.length) (hk : WG x (pc + 1) (ls.set i (some (.inl (.ref q)))) st G u) : WG x pc ls (.inl (.ref q) :: st) G u := by
  obtain ⟨⟨p, l, e, R, s, m, args, below, meth, c, Q⟩, ⟨D, cs, b, ad, adV, sc, L, XT⟩, cc, nL, own, c0, s0, seg, lv⟩ := x
  obtain ⟨hx, hb, hml, hown, hts, hKS, hbs, hL, hlocks, hR1, hR2, hR3, hR4⟩ := hF
  intro H locs cells slots sl hP hS hl h1 h2
  exact lv_astore_n hx hb hd hki hl.2 (by rw [← hl.1]; omega) rfl (fun sl' h => hk H locs cells slots sl' hP hS (LV_set hl.1 hbl h) h1 h2)
theorem jd_ixor {a b : Int32} (hF : FX x) (hd : decode (cxC x) pc = .ok (.ixor, 1)) (hk : WG x (pc + 1) ls (.inl (.int (a ^^^ b)) :: st) G u) : WG x pc ls (.inl (.int b) :: .inl (.int a) :: st) G u := by
  obtain ⟨⟨p, l, e, R, s, m, args, below, meth, c, Q⟩, ⟨D, cs, b, ad, adV, sc, L, XT⟩, cc, nL, own, c0, s0, seg, lv⟩ := x
  obtain ⟨hx, hb, hml, hown, hts, hKS, hbs, hL, hlocks, hR1, hR2, hR3, hR4⟩ := hF
  intro H locs cells slots sl hP hS hl h1 h2
  exact lv_ixor hx hb hd (hk H locs cells slots sl hP hS hl h1 h2)
theorem jd_ishl {a b : Int32} (hF : FX x) (hd : decode (cxC x) pc = .ok (.ishl, 1)) (hk : WG x (pc + 1) ls (.inl (.int (a <<< (b &&& 31))) :: st) G u) : WG x pc ls (.inl (.int b) :: .inl (.int a) :: st) G u := by
  obtain ⟨⟨p, l, e, R, s, m, args, below, meth, c, Q⟩, ⟨D, cs, b, ad, adV, sc, L, XT⟩, cc, nL, own, c0, s0, seg, lv⟩ := x
  obtain ⟨hx, hb, hml, hown, hts, hKS, hbs, hL, hlocks, hR1, hR2, hR3, hR4⟩ := hF
  intro H locs cells slots sl hP hS hl h1 h2
  exact lv_ishl hx hb hd (hk H locs cells slots sl hP hS hl h1 h2)
theorem jd_ishr {a b : Int32} (hF : FX x) (hd : decode (cxC x) pc = .ok (.ishr, 1)) (hk : WG x (pc + 1) ls (.inl (.int (a >>> (b &&& 31))) :: st) G u) : WG x pc ls (.inl (.int b) :: .inl (.int a) :: st) G u := by
  obtain ⟨⟨p, l, e, R, s, m, args, below, meth, c, Q⟩, ⟨D, cs, b, ad, adV, sc, L, XT⟩, cc, nL, own, c0, s0, seg, lv⟩ := x
  obtain ⟨hx, hb, hml, hown, hts, hKS, hbs, hL, hlocks, hR1, hR2, hR3, hR4⟩ := hF
  intro H locs cells slots sl hP hS hl h1 h2
  exact lv_ishr hx hb hd (hk H locs cells slots sl hP hS hl h1 h2)
theorem jd_i2b {a : Int32} (hF : FX x) (hd : decode (cxC x) pc = .ok (.i2b, 1)) (hk : WG x (pc + 1) ls (.inl (.int a.toInt8.toInt32) :: st) G u) : WG x pc ls (.inl (.int a) :: st) G u := by
  obtain ⟨⟨p, l, e, R, s, m, args, below, meth, c, Q⟩, ⟨D, cs, b, ad, adV, sc, L, XT⟩, cc, nL, own, c0, s0, seg, lv⟩ := x
  obtain ⟨hx, hb, hml, hown, hts, hKS, hbs, hL, hlocks, hR1, hR2, hR3, hR4⟩ := hF
  intro H locs cells slots sl hP hS hl h1 h2
  exact lv_i2b hx hb hd rfl (hk H locs cells slots sl hP hS hl h1 h2)
theorem jd_dup_x1 {v w : AV} (hF : FX x) (hd : decode (cxC x) pc = .ok (.dup_x1, 1)) (hc : ai_cat v = 1) (hc2 : ai_cat w = 1) (hk : WG x (pc + 1) ls (v :: w :: v :: st) G u) : WG x pc ls (v :: w :: st) G u := by
  obtain ⟨⟨p, l, e, R, s, m, args, below, meth, c, Q⟩, ⟨D, cs, b, ad, adV, sc, L, XT⟩, cc, nL, own, c0, s0, seg, lv⟩ := x
  obtain ⟨hx, hb, hml, hown, hts, hKS, hbs, hL, hlocks, hR1, hR2, hR3, hR4⟩ := hF
  intro H locs cells slots sl hP hS hl h1 h2
  exact lv_dup_x1 hx hb hd ((ai_cat_eq ad v) ▸ hc) ((ai_cat_eq ad w) ▸ hc2) (hk H locs cells slots sl hP hS hl h1 h2)
theorem jd_ldc {idx : Nat} {v : Int32} (hF : FX x) (hd : decode (cxC x) pc = .ok (.ldc idx, 2)) (w : Cond.constant (cxO x) idx v ∈ lw_all) (hk : WG x (pc + 2) ls (.inl (.int v) :: st) G u) : WG x pc ls st G u := by
  obtain ⟨⟨p, l, e, R, s, m, args, below, meth, c, Q⟩, ⟨D, cs, b, ad, adV, sc, L, XT⟩, cc, nL, own, c0, s0, seg, lv⟩ := x
  obtain ⟨hx, hb, hml, hown, hts, hKS, hbs, hL, hlocks, hR1, hR2, hR3, hR4⟩ := hF
  intro H locs cells slots sl hP hS hl h1 h2
  exact lv_ldc hx hb hown (hts _ w) hd (hk H locs cells slots sl hP hS hl h1 h2)
theorem jd_compact {idx : Nat} (hF : FX x) (hd : decode (cxC x) pc = .ok (.getstatic idx, 3)) (w : Cond.fieldLink (cxO x) idx "java/lang/String" "COMPACT_STRINGS" "Z" ∈ lw_all) (hk : WG x (pc + 3) ls (.inl (.int 1) :: st) G u) : WG x pc ls st G u := by
  obtain ⟨⟨p, l, e, R, s, m, args, below, meth, c, Q⟩, ⟨D, cs, b, ad, adV, sc, L, XT⟩, cc, nL, own, c0, s0, seg, lv⟩ := x
  obtain ⟨hx, hb, hml, hown, hts, hKS, hbs, hL, hlocks, hR1, hR2, hR3, hR4⟩ := hF
  intro H locs cells slots sl hP hS hl h1 h2
  exact va_gets hx hb hKS.2.2.2.2.2.1.2.2.1 hS hown (hts _ w) (fun _ h9 => h9) hd (hk H locs cells slots sl hP hS hl h1 h2)
theorem jd_sioobe {idx : Nat} (hF : FX x) (hd : decode (cxC x) pc = .ok (.getstatic idx, 3)) (w : Cond.fieldLink (cxO x) idx "jdk/internal/util/Preconditions" "SIOOBE_FORMATTER" "Ljava/util/function/BiFunction;" ∈ lw_all) (hk : ∀ v, v = .null ∨ (∃ q, v = .ref q) → WG x (pc + 3) ls (.inl v :: st) G u) : WG x pc ls st G u := by
  obtain ⟨⟨p, l, e, R, s, m, args, below, meth, c, Q⟩, ⟨D, cs, b, ad, adV, sc, L, XT⟩, cc, nL, own, c0, s0, seg, lv⟩ := x
  obtain ⟨hx, hb, hml, hown, hts, hKS, hbs, hL, hlocks, hR1, hR2, hR3, hR4⟩ := hF
  intro H locs cells slots sl hP hS hl h1 h2
  rcases hKS.2.2.2.2.2.1.2.2.2.2.2 with h | ⟨t, h⟩
  · exact va_gets hx hb h hS hown (hts _ w) (fun _ h9 => h9) hd (hk _ (Or.inl rfl) H locs cells slots sl hP hS hl h1 h2)
  · exact va_gets hx hb h hS hown (hts _ w) (fun _ h9 => h9) hd (hk _ (Or.inr ⟨t, rfl⟩) H locs cells slots sl hP hS hl h1 h2)
/-- the rows of digits: loaded at once, whatever stands between -/
theorem jd_ones {idx : Nat} (hF : FX x) (hd : decode (cxC x) pc = .ok (.getstatic idx, 3)) (w : Cond.fieldLink (cxO x) idx "java/lang/Integer" "DigitOnes" "[B" ∈ lw_all)
    (hk : ∀ t, (∀ (pc : Nat) (ls : Ls) (st : List AV) (G : GS) (u : Nat) (i : Int32), decode (cxC x) pc = .ok (.baload, 1) → inb i 100 = true → WG x (pc + 1) ls (.inl (.int (Int32.ofNat (48 + i.toNatClampNeg % 10))) :: st) G u → WG x pc ls (.inl (.int i) :: .inl (.ref t) :: st) G u) → WG x (pc + 3) ls (.inl (.ref t) :: st) G u) : WG x pc ls st G u := by
  obtain ⟨⟨p, l, e, R, s, m, args, below, meth, c, Q⟩, ⟨D, cs, b, ad, adV, sc, L, XT⟩, cc, nL, own, c0, s0, seg, lv⟩ := x
  obtain ⟨hx, hb, hml, hown, hts, hKS, hbs, hL, hlocks, hR1, hR2, hR3, hR4⟩ := hF
  intro H locs cells slots sl hP hS hl h1 h2
  obtain ⟨t, ht, hT⟩ := hKS.2.2.2.2.2.1.2.2.2.1
  refine va_gets hx hb ht hS hown (hts _ w) (fun _ h9 => h9) hd (hk t (fun pc ls st G u i hd2 hin kk => ?_) H locs cells slots sl hP hS hl h1 h2)
  intro H locs cells slots sl hP hS hl h1 h2
  exact va_tb hx hb hT hS (inb_in hin) rfl hd2 (kk H locs cells slots sl hP hS hl h1 h2)
theorem jd_tens {idx : Nat} (hF : FX x) (hd : decode (cxC x) pc = .ok (.getstatic idx, 3)) (w : Cond.fieldLink (cxO x) idx "java/lang/Integer" "DigitTens" "[B" ∈ lw_all)
    (hk : ∀ t, (∀ (pc : Nat) (ls : Ls) (st : List AV) (G : GS) (u : Nat) (i : Int32), decode (cxC x) pc = .ok (.baload, 1) → inb i 100 = true → WG x (pc + 1) ls (.inl (.int (Int32.ofNat (48 + i.toNatClampNeg / 10))) :: st) G u → WG x pc ls (.inl (.int i) :: .inl (.ref t) :: st) G u) → WG x (pc + 3) ls (.inl (.ref t) :: st) G u) : WG x pc ls st G u := by
  obtain ⟨⟨p, l, e, R, s, m, args, below, meth, c, Q⟩, ⟨D, cs, b, ad, adV, sc, L, XT⟩, cc, nL, own, c0, s0, seg, lv⟩ := x
  obtain ⟨hx, hb, hml, hown, hts, hKS, hbs, hL, hlocks, hR1, hR2, hR3, hR4⟩ := hF
  intro H locs cells slots sl hP hS hl h1 h2
  obtain ⟨t, ht, hT⟩ := hKS.2.2.2.2.2.1.2.2.2.2.1
  refine va_gets hx hb ht hS hown (hts _ w) (fun _ h9 => h9) hd (hk t (fun pc ls st G u i hd2 hin kk => ?_) H locs cells slots sl hP hS hl h1 h2)
  intro H locs cells slots sl hP hS hl h1 h2
  exact va_tb hx hb hT hS (inb_in hin) rfl hd2 (kk H locs cells slots sl hP hS hl h1 h2)
end J1
section J2
variable {x : CX} {ws : va_W} {pc : Nat} {ls : Ls} {st : List AV} {u : Nat}
theorem jd_get {idx k ci h f : Nat} {fs : List Value} {v : Value} {q : vw_C} (hF : FX (xw x ws)) (hd : decode (cxC (xw x ws)) pc = .ok (.getfield idx, 3)) (hk : ws[k]? = some (h, .inr (ci, fs))) (hq : cls_[ci]? = some q) (hf : f < q.2.2)
    (w : Cond.fieldLink (cxO x) idx (q.2.1 f).1 (q.2.1 f).2.1 (q.2.1 f).2.2.1 ∈ lw_all ∨ ∃ host, Cond.fieldLinkNest (cxO x) idx (q.2.1 f).1 (q.2.1 f).2.1 (q.2.1 f).2.2.1 host ∈ nw_all) (hv : fs[f]? = some v) (kk : WJ x ws (pc + 3) ls (.inl v :: st) u) : WJ x ws pc ls (.inl (.ref h) :: st) u := by
  obtain ⟨⟨p, l, e, R, s, m, args, below, meth, c, Q⟩, ⟨D, cs, b, ad, adV, sc, L, XT⟩, cc, nL, own, c0, s0, seg, lv⟩ := x
  obtain ⟨hx, hb, hml, hown, hts, hKS, hbs, hL, hlocks, hR1, hR2, hR3, hR4⟩ := hF
  intro H locs cells slots sl hP0 hS hl h1 h2
  obtain ⟨hP, hD⟩ := PWj' hP0
  obtain ⟨C, T, N⟩ := q
  rcases w with w | ⟨host, w⟩
  · exact va_get (D := D) hx hb hts (cls_in _ _ hq) hown hKS.1 hP k hk hq f hf (hts _ w) (fun _ h9 => h9) hv hd (kk H locs cells slots sl hP0 hS hl h1 h2)
  · exact va_getN (D := D) hx hb hts (cls_in _ _ hq) hown hKS.1 hP k hk hq f hf (va_Nw.use rfl (hKS.2.2.2.1 _ w)) (fun _ h9 => h9) hv hd (kk H locs cells slots sl hP0 hS hl h1 h2)
theorem jd_put {idx k ci h f : Nat} {fs : List Value} {v : Value} {q : vw_C} {ty : FieldType} (hF : FX (xw x ws)) (hd : decode (cxC (xw x ws)) pc = .ok (.putfield idx, 3)) (hk : ws[k]? = some (h, .inr (ci, fs))) (hq : cls_[ci]? = some q) (hf : f < q.2.2)
    (w : Cond.fieldLink (cxO x) idx (q.2.1 f).1 (q.2.1 f).2.1 (q.2.1 f).2.2.1 ∈ lw_all) (hfin : (q.2.1 f).2.2.2 = false) (hpf : parseFieldDescriptor (q.2.1 f).2.2.1 = some ty) (hn : narrow ty v = v) (hfit : fits ty v = true) (hl : f < fs.length) (kk : WJ x (ws.set k (h, .inr (ci, fs.set f v))) (pc + 3) ls st u) : WJ x ws pc ls (.inl v :: .inl (.ref h) :: st) u := by
  obtain ⟨⟨p, l, e, R, s, m, args, below, meth, c, Q⟩, ⟨D, cs, b, ad, adV, sc, L, XT⟩, cc, nL, own, c0, s0, seg, lv⟩ := x
  obtain ⟨hx, hb, hml, hown, hts, hKS, hbs, hL, hlocks, hR1, hR2, hR3, hR4⟩ := hF
  intro H locs cells slots sl hP0 hS hl' h1 h2
  obtain ⟨hP, hD⟩ := PWj' hP0
  obtain ⟨C, T, N⟩ := q
  exact va_put (D := D) hx hb hts (cls_in _ _ hq) (tyC ci) (cls_ty _ _ hq) (cls_nm _ _ hq) hown hKS.1 hP hD hS k hk hq f hf (hts _ w) (fun _ h9 => h9) hfin hpf hn hfit hl hd (fun H1 locs1 g1 g2 g3 => kk H1 locs1 cells slots sl (PWj g1 g2) g3 hl' h1 h2)
/-- a final field, in a constructor -/
def cxI (x : CX) : Prop := x.1.2.2.2.2.2.2.2.2.1.name = "<init>"
theorem jd_putF {idx k ci h f : Nat} {fs : List Value} {v : Value} {q : vw_C} {ty : FieldType} (hF : FX (xw x ws)) (hI : cxI x) (hd : decode (cxC (xw x ws)) pc = .ok (.putfield idx, 3)) (hk : ws[k]? = some (h, .inr (ci, fs))) (hq : cls_[ci]? = some q) (hf : f < q.2.2)
    (w : Cond.fieldLink (cxO x) idx (q.2.1 f).1 (q.2.1 f).2.1 (q.2.1 f).2.2.1 ∈ lw_all) (hfin : (q.2.1 f).2.2.2 = true) (hdecl : (q.2.1 f).1 = cxO x) (hpf : parseFieldDescriptor (q.2.1 f).2.2.1 = some ty) (hn : narrow ty v = v) (hfit : fits ty v = true) (hl : f < fs.length) (kk : WJ x (ws.set k (h, .inr (ci, fs.set f v))) (pc + 3) ls st u) : WJ x ws pc ls (.inl v :: .inl (.ref h) :: st) u := by
  obtain ⟨⟨p, l, e, R, s, m, args, below, meth, c, Q⟩, ⟨D, cs, b, ad, adV, sc, L, XT⟩, cc, nL, own, c0, s0, seg, lv⟩ := x
  obtain ⟨hx, hb, hml, hown, hts, hKS, hbs, hL, hlocks, hR1, hR2, hR3, hR4⟩ := hF
  intro H locs cells slots sl hP0 hS hl' h1 h2
  obtain ⟨hP, hD⟩ := PWj' hP0
  obtain ⟨C, T, N⟩ := q
  exact va_putF (D := D) hx hb hts (cls_in _ _ hq) (tyC ci) (cls_ty _ _ hq) (cls_nm _ _ hq) hown hKS.1 hP hD hS k hk hq f hf (hts _ w) (fun _ h9 => h9) hfin hI hdecl hpf hn hfit hl hd (fun H1 locs1 g1 g2 g3 => kk H1 locs1 cells slots sl (PWj g1 g2) g3 hl' h1 h2)
theorem jd_bald {k h n : Nat} {f : Nat → Int32} {i : Int32} (hF : FX (xw x ws)) (hd : decode (cxC (xw x ws)) pc = .ok (.baload, 1)) (hk : ws[k]? = some (h, .inl ((cxK x).2.1 5, n, .inl f))) (hin : inb i n = true) (kk : WJ x ws (pc + 1) ls (.inl (.int (f i.toNatClampNeg)) :: st) u) : WJ x ws pc ls (.inl (.int i) :: .inl (.ref h) :: st) u := by
  obtain ⟨⟨p, l, e, R, s, m, args, below, meth, c, Q⟩, ⟨D, cs, b, ad, adV, sc, L, XT⟩, cc, nL, own, c0, s0, seg, lv⟩ := x
  obtain ⟨hx, hb, hml, hown, hts, hKS, hbs, hL, hlocks, hR1, hR2, hR3, hR4⟩ := hF
  intro H locs cells slots sl hP0 hS hl h1 h2
  obtain ⟨hP, hD⟩ := PWj' hP0
  exact va_bald (D := D) hx hb hKS.1 hP k 5 hk rfl (inb_in hin) hd (kk H locs cells slots sl hP0 hS hl h1 h2)
theorem jd_bast {k h n : Nat} {f : Nat → Int32} {i v : Int32} (hF : FX (xw x ws)) (hd : decode (cxC (xw x ws)) pc = .ok (.bastore, 1)) (hk : ws[k]? = some (h, .inl ((cxK x).2.1 5, n, .inl f))) (hin : inb i n = true) (kk : WJ x (ws.set k (h, .inl ((cxK x).2.1 5, n, .inl (upd f i.toNatClampNeg (vp_nar .byte v))))) (pc + 1) ls st u) : WJ x ws pc ls (.inl (.int v) :: .inl (.int i) :: .inl (.ref h) :: st) u := by
  obtain ⟨⟨p, l, e, R, s, m, args, below, meth, c, Q⟩, ⟨D, cs, b, ad, adV, sc, L, XT⟩, cc, nL, own, c0, s0, seg, lv⟩ := x
  obtain ⟨hx, hb, hml, hown, hts, hKS, hbs, hL, hlocks, hR1, hR2, hR3, hR4⟩ := hF
  intro H locs cells slots sl hP0 hS hl h1 h2
  obtain ⟨hP, hD⟩ := PWj' hP0
  exact va_bast (D := D) hx hb hKS.1 hP hD hS k 5 hk rfl (inb_in hin) hd (fun H1 locs1 g1 g2 g3 => kk H1 locs1 cells slots sl (PWj g1 g2) g3 hl h1 h2)
theorem jd_alen {k h : Nat} {a : vp_A} (hF : FX (xw x ws)) (hd : decode (cxC (xw x ws)) pc = .ok (.arraylength, 1)) (hk : ws[k]? = some (h, .inl ((cxK x).2.1 5, a))) (kk : WJ x ws (pc + 1) ls (.inl (.int (Int32.ofNat a.1)) :: st) u) : WJ x ws pc ls (.inl (.ref h) :: st) u := by
  obtain ⟨⟨p, l, e, R, s, m, args, below, meth, c, Q⟩, ⟨D, cs, b, ad, adV, sc, L, XT⟩, cc, nL, own, c0, s0, seg, lv⟩ := x
  obtain ⟨hx, hb, hml, hown, hts, hKS, hbs, hL, hlocks, hR1, hR2, hR3, hR4⟩ := hF
  intro H locs cells slots sl hP0 hS hl h1 h2
  obtain ⟨hP, hD⟩ := PWj' hP0
  exact va_alen (D := D) hx hb hKS.1 hP k 5 hk rfl rfl hd (kk H locs cells slots sl hP0 hS hl h1 h2)
/-- a new array of a known class -/
theorem jd_newa {t : Nat} {ty : FieldType} {at_ : ArrayType} {n : Int32} {N : Nat} {a0 : vp_A} {nm : String} (hF : FX (xw x ws)) (hd : decode (cxC (xw x ws)) pc = .ok (.newarray at_, 2)) (w : Cond.arrayClass (newarray.typeOf at_) ∈ lw_all) (hty : newarray.typeOf at_ = ty) (ht : (tys_ (cxK x).2.1)[t]? = some ((cxK x).2.1 t, ty))
    (hnm : ∀ (s : State) (c : ClassId), va_RA s c ty → s.vm.findClass nm = some c) (ha : ∀ cA : ClassId, vp_cell cA a0 = arrV cA N (fun _ => defaultValue ty)) (hn : ¬ n < 0) (hN : n.toNatClampNeg = N) (hN2 : N * componentBytes ty ≤ 536870912) {d : Nat} (hNd : N ≤ 100 * d) (hd1 : 1 ≤ d) (hu : u + d ≤ cxG x)
    (kk : ∀ q, WJ x (ws ++ [(q, .inl ((cxK x).2.1 t, a0))]) (pc + 2) ls (.inl (.ref q) :: st) (u + d)) : WJ x ws pc ls (.inl (.int n) :: st) u := by
  obtain ⟨⟨p, l, e, R, s, m, args, below, meth, c, Q⟩, ⟨D, cs, b, ad, adV, sc, L, XT⟩, cc, nL, own, c0, s0, seg, lv⟩ := x
  obtain ⟨hx, hb, hml, hown, hts, hKS, hbs, hL, hlocks, hR1, hR2, hR3, hR4⟩ := hF
  intro H locs cells slots sl hP0 hS hl h1 h2
  obtain ⟨hP, hD⟩ := PWj' hP0
  have hu : u + d ≤ seg := hu
  refine va_newa (D := D) hx hb (hts _ w) hty hKS.1 hP hD hS (fun q hq => Nat.le_trans hbs hq) ha hn hN hN2 (by omega) (by omega) hd (fun q cA H1 g0 g1 g2 g3 => ?_)
  have e1 : cA = cs t := by
    have k1 := hnm s cA (g0.2 6 (cA, ty) rfl).2
    have k2 := hnm s (cs t) (hKS.1.2 t (cs t, ty) ht).2
    rw [k1] at k2
    exact Option.some.inj k2
  subst e1
  exact kk q H1 locs (cells + 1) (slots + N) sl (PWj g1 g2) g3 hl (by omega) (by omega)
/-- a new object -/
theorem jd_new {idx ci : Nat} {q : vw_C} {fs : List Value} (hF : FX (xw x ws)) (hd : decode (cxC (xw x ws)) pc = .ok (.new idx, 3)) (hq : cls_[ci]? = some q) (w1 : Cond.classLink (cxO x) idx q.1 ∈ lw_all) (w2 : Cond.instantiable q.1 q.2.2 ∈ lw_all) (w3 : Cond.initialized q.1 ∈ lw_all)
    (hfs : ∀ j, j < q.2.2 → defaultValue (tyC ci j) = vp_V fs j) (hN : q.2.2 ≤ 100) (hu : u + 1 ≤ cxG x) (kk : ∀ h, WJ x (ws ++ [(h, .inr (ci, fs))]) (pc + 3) ls (.inl (.ref h) :: st) (u + 1)) : WJ x ws pc ls st u := by
  obtain ⟨⟨p, l, e, R, s, m, args, below, meth, c, Q⟩, ⟨D, cs, b, ad, adV, sc, L, XT⟩, cc, nL, own, c0, s0, seg, lv⟩ := x
  obtain ⟨hx, hb, hml, hown, hts, hKS, hbs, hL, hlocks, hR1, hR2, hR3, hR4⟩ := hF
  intro H locs cells slots sl hP0 hS hl h1 h2
  obtain ⟨hP, hD⟩ := PWj' hP0
  have hu : u + 1 ≤ seg := hu
  obtain ⟨C, T, N⟩ := q
  exact va_new (D := D) hx hb hts (cls_in _ _ hq) (tyC ci) (cls_ty _ _ hq) hown (hts _ w1) (hts _ w2) (hts _ w3) hKS.1 hP hD hS (fun q hq => Nat.le_trans hbs hq) hq hfs (by omega) (by have : N ≤ 100 := hN; omega) hd (fun h H1 g1 g2 g3 => kk h H1 locs (cells + 1) (slots + N) sl (PWj g1 g2) g3 hl (by omega) (by have : N ≤ 100 := hN; omega))
end J2
