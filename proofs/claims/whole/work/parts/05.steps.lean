/-! SOUNDNESS OF THE STEPS: over the machine, an instruction of the abstract machine is one of the machine's. -/
/-- the machine's side, the world's side, the method's side -/
abbrev CX : Type := (Program × Launch × Env × Room × State × MethodId × Array Value × List Frame × Method × Code × (State → Prop)) × (va_G × (Nat → ClassId) × Nat × (Rf → Nat) × (Nat → Nat) × (Nat × (Nat → Int32)) × List Rf × (Nat × (Nat → Int32) → va_W → Prop)) × (ByteArray × Nat × String × Nat × Nat × Nat × Nat)
/-- what holds all through a method's body -/
def FX (x : CX) : Prop := match x with
  | ((p, _, _, R, s, m, args, _, meth, c, _), (D, cs, b, ad, adV, sc, L, _), (cc, nL, own, c0, s0, seg, lv)) =>
    p.tables.exec = Jvm.exec ∧ c.code = cc ∧ c.maxLocals = nL ∧ s.vm.findClass own = some m.cls ∧ (∀ w ∈ lw_all, w.before args s = true) ∧ KS D cs b ad adV sc s s.heap ∧ b ≤ s.heap.size ∧ Lok L ∧ meth.locks = false ∧ c0 + seg ≤ R.cells ∧ s0 + 100 * seg ≤ R.slots ∧ lv ≤ R.frames ∧ 64 * lv ≤ R.locals
/-- the walk goes well from here -/
def WG (x : CX) (pc : Nat) (ls : Ls) (st : List AV) (G : GS) (u : Nat) : Prop := match x with
  | ((p, l, e, R, s, m, args, below, meth, c, Q), (D, cs, b, ad, _, _, L, XT), (_, nL, _, c0, s0, _, _)) =>
    ∀ (H : Heap) (locs : List Loc) (cells slots : Nat) (sl : Array Slot), PW D cs b ad L XT G H → va_S (Ab b) s.heap H locs → LV ad sl nL ls → cells ≤ c0 + u → slots ≤ s0 + 100 * u →
      W p l e R s m args below meth c H locs cells slots Q (F0 m pc sl (st.map (rv ad)))
theorem WG_kill {x : CX} {pc : Nat} {ls : Ls} {st : List AV} {G : GS} {u : Nat} (ks : List Nat) (h : WG x pc (ai_kill ks ls) st G u) : WG x pc ls st G u := by
  obtain ⟨⟨p, l, e, R, s, m, args, below, meth, c, Q⟩, ⟨D, cs, b, ad, adV, sc, L, XT⟩, cc, nL, own, c0, s0, seg, lv⟩ := x
  intro H locs cells slots sl hP hS hl h1 h2
  exact h H locs cells slots sl hP hS (LV_kill ks hl) h1 h2
theorem WG_up {x : CX} {pc : Nat} {ls : Ls} {st : List AV} {G : GS} {u v : Nat} (h : WG x pc ls st G v) (huv : u ≤ v) : WG x pc ls st G u := by
  obtain ⟨⟨p, l, e, R, s, m, args, below, meth, c, Q⟩, ⟨D, cs, b, ad, adV, sc, L, XT⟩, cc, nL, own, c0, s0, seg, lv⟩ := x
  intro H locs cells slots sl hP hS hl h1 h2
  exact h H locs cells slots sl hP hS hl (by omega) (by omega)
def cxC (x : CX) : ByteArray := x.2.2.1
def cxL (x : CX) : List Rf := x.2.1.2.2.2.2.2.2.1
def cxS (x : CX) : Nat × (Nat → Int32) := x.2.1.2.2.2.2.2.1
def cxO (x : CX) : String := x.2.2.2.2.1
def cxN (x : CX) : Nat := x.2.2.2.1
def cxG (x : CX) : Nat := x.2.2.2.2.2.2.2.1
def cxV (x : CX) : Nat := x.2.2.2.2.2.2.2.2
def cxH (x : CX) : Launch := x.1.2.1
-- loads
theorem ld_ty {t : Nat} {ad : Rf → Nat} {v : AV} (h : ai_ty t v = true) : (t = 0 ∧ (rv ad v = .null ∨ ∃ q, rv ad v = .ref q)) ∨ (t = 1 ∧ ∃ q, rv ad v = .int q) ∨ (t = 2 ∧ ∃ q, rv ad v = .float q) ∨ (t = 3 ∧ ∃ q, rv ad v = .double q) := by
  cases v with
  | inr r => exact Or.inl ⟨Nat.eq_of_beq_eq_true h, Or.inr ⟨_, rfl⟩⟩
  | inl v =>
    cases v with
    | null => exact Or.inl ⟨Nat.eq_of_beq_eq_true h, Or.inl rfl⟩
    | int q => exact Or.inr (Or.inl ⟨Nat.eq_of_beq_eq_true h, q, rfl⟩)
    | float q => exact Or.inr (Or.inr (Or.inl ⟨Nat.eq_of_beq_eq_true h, q, rfl⟩))
    | double q => exact Or.inr (Or.inr (Or.inr ⟨Nat.eq_of_beq_eq_true h, q, rfl⟩))
    | _ => cases h
section Loads
variable {x : CX} {pc i : Nat} {ls : Ls} {st : List AV} {G : GS} {u : Nat} {v : AV}
theorem sd_ld (hF : FX x) (hi : ls[i]? = some (some v)) {t n : Nat}
    (hd : (t = 0 ∧ ((decode (cxC x) pc = .ok (.aload i, 2) ∧ n = 2) ∨ ∃ k : Fin 4, decode (cxC x) pc = .ok (.aload_n k, 1) ∧ k.val = i ∧ n = 1)) ∨
      (t = 1 ∧ ((decode (cxC x) pc = .ok (.iload i, 2) ∧ n = 2) ∨ ∃ k : Fin 4, decode (cxC x) pc = .ok (.iload_n k, 1) ∧ k.val = i ∧ n = 1)) ∨
      (t = 2 ∧ ((decode (cxC x) pc = .ok (.fload i, 2) ∧ n = 2) ∨ ∃ k : Fin 4, decode (cxC x) pc = .ok (.fload_n k, 1) ∧ k.val = i ∧ n = 1)) ∨
      (t = 3 ∧ ((decode (cxC x) pc = .ok (.dload i, 2) ∧ n = 2) ∨ ∃ k : Fin 4, decode (cxC x) pc = .ok (.dload_n k, 1) ∧ k.val = i ∧ n = 1)))
    (hty : ai_ty t v = true) (hk : WG x (pc + n) ls (v :: st) G u) : WG x pc ls st G u := by
  obtain ⟨⟨p, l, e, R, s, m, args, below, meth, c, Q⟩, ⟨D, cs, b, ad, adV, sc, L, XT⟩, cc, nL, own, c0, s0, seg, lv⟩ := x
  obtain ⟨hx, hb, hml, hown, hts, hKS, hbs, hL, hlocks, hR1, hR2, hR3, hR4⟩ := hF
  intro H locs cells slots sl hP hS hl h1 h2
  have hk := hk H locs cells slots sl hP hS hl h1 h2
  have ha := LV_at hl hi
  rw [List.map_cons] at hk
  rcases hd with ⟨rfl, hd⟩ | ⟨rfl, hd⟩ | ⟨rfl, hd⟩ | ⟨rfl, hd⟩
  · rcases ld_ty (ad := ad) hty with ⟨-, h⟩ | ⟨h, -⟩ | ⟨h, -⟩ | ⟨h, -⟩ <;> try (exact absurd h (by decide))
    rcases h with h | ⟨q, h⟩ <;> rw [h] at ha hk
    · rcases hd with ⟨hd, rfl⟩ | ⟨k, hd, hki, rfl⟩
      · exact lv_aloadN hx hb hd ha hk
      · exact lv_aload_nN hx hb hd hki ha hk
    · rcases hd with ⟨hd, rfl⟩ | ⟨k, hd, hki, rfl⟩
      · exact lv_aload hx hb hd ha hk
      · exact lv_aload_n hx hb hd hki ha hk
  · rcases ld_ty (ad := ad) hty with ⟨h, -⟩ | ⟨-, q, h⟩ | ⟨h, -⟩ | ⟨h, -⟩ <;> try (exact absurd h (by decide))
    rw [h] at ha hk
    rcases hd with ⟨hd, rfl⟩ | ⟨k, hd, hki, rfl⟩
    · exact lv_iload hx hb hd ha hk
    · exact lv_iload_n hx hb hd hki ha hk
  · rcases ld_ty (ad := ad) hty with ⟨h, -⟩ | ⟨h, -⟩ | ⟨-, q, h⟩ | ⟨h, -⟩ <;> try (exact absurd h (by decide))
    rw [h] at ha hk
    rcases hd with ⟨hd, rfl⟩ | ⟨k, hd, hki, rfl⟩
    · exact lv_fload hx hb hd ha hk
    · exact lv_fload_n hx hb hd hki ha hk
  · rcases ld_ty (ad := ad) hty with ⟨h, -⟩ | ⟨h, -⟩ | ⟨h, -⟩ | ⟨-, q, h⟩ <;> try (exact absurd h (by decide))
    rw [h] at ha hk
    rcases hd with ⟨hd, rfl⟩ | ⟨k, hd, hki, rfl⟩
    · exact lv_dload hx hb hd ha hk
    · exact lv_dload_n hx hb hd hki ha hk
theorem sd_sto (hF : FX x) {t n : Nat} (ht : t ≠ 3)
    (hd : (t = 0 ∧ ((decode (cxC x) pc = .ok (.astore i, 2) ∧ n = 2) ∨ ∃ k : Fin 4, decode (cxC x) pc = .ok (.astore_n k, 1) ∧ k.val = i ∧ n = 1)) ∨
      (t = 1 ∧ ((decode (cxC x) pc = .ok (.istore i, 2) ∧ n = 2) ∨ ∃ k : Fin 4, decode (cxC x) pc = .ok (.istore_n k, 1) ∧ k.val = i ∧ n = 1)) ∨
      (t = 2 ∧ ((decode (cxC x) pc = .ok (.fstore i, 2) ∧ n = 2) ∨ ∃ k : Fin 4, decode (cxC x) pc = .ok (.fstore_n k, 1) ∧ k.val = i ∧ n = 1)))
    (hty : ai_ty t v = true) (hbl : ai_below i ls = true) (hil : i + 1 ≤ ls.length) (hk : WG x (pc + n) (ls.set i (some v)) st G u) : WG x pc ls (v :: st) G u := by
  obtain ⟨⟨p, l, e, R, s, m, args, below, meth, c, Q⟩, ⟨D, cs, b, ad, adV, sc, L, XT⟩, cc, nL, own, c0, s0, seg, lv⟩ := x
  obtain ⟨hx, hb, hml, hown, hts, hKS, hbs, hL, hlocks, hR1, hR2, hR3, hR4⟩ := hF
  intro H locs cells slots sl hP hS hl h1 h2
  have hn : i < nL := by rw [← hl.1]; omega
  rw [List.map_cons]
  have kk : ∀ (y : Value), rv ad v = y → ∀ sl' : Array Slot, lv_has sl' nL ((i, y) :: (toL ad 0 ls).filter (fun q => !(q.1 == i) && !(q.1 + 1 == i && q.2.category == 2))) → W p l e R s m args below meth c H locs cells slots Q (F0 m (pc + n) sl' (st.map (rv ad))) := fun y hy sl' h => hk H locs cells slots sl' hP hS (LV_set hl.1 hbl (hy ▸ h)) h1 h2
  rcases hd with ⟨rfl, hd⟩ | ⟨rfl, hd⟩ | ⟨rfl, hd⟩
  · rcases ld_ty (ad := ad) hty with ⟨-, h⟩ | ⟨h, -⟩ | ⟨h, -⟩ | ⟨h, -⟩ <;> try (exact absurd h (by decide))
    rcases h with h | ⟨q, h⟩ <;> rw [h]
    · rcases hd with ⟨hd, rfl⟩ | ⟨k, hd, hki, rfl⟩
      · exact lv_astoreN hx hb hd hl.2 hn rfl (kk _ h)
      · exact lv_astore_nN hx hb hd hki hl.2 hn rfl (kk _ h)
    · rcases hd with ⟨hd, rfl⟩ | ⟨k, hd, hki, rfl⟩
      · exact lv_astore hx hb hd hl.2 hn rfl (kk _ h)
      · exact lv_astore_n hx hb hd hki hl.2 hn rfl (kk _ h)
  · rcases ld_ty (ad := ad) hty with ⟨h, -⟩ | ⟨-, q, h⟩ | ⟨h, -⟩ | ⟨h, -⟩ <;> try (exact absurd h (by decide))
    rw [h]
    rcases hd with ⟨hd, rfl⟩ | ⟨k, hd, hki, rfl⟩
    · exact lv_istore hx hb hd hl.2 hn rfl (kk _ h)
    · exact lv_istore_n hx hb hd hki hl.2 hn rfl (kk _ h)
  · rcases ld_ty (ad := ad) hty with ⟨h, -⟩ | ⟨h, -⟩ | ⟨-, q, h⟩ | ⟨h, -⟩ <;> try (exact absurd h (by decide))
    rw [h]
    rcases hd with ⟨hd, rfl⟩ | ⟨k, hd, hki, rfl⟩
    · exact lv_fstore hx hb hd hl.2 hn rfl (kk _ h)
    · exact lv_fstore_n hx hb hd hki hl.2 hn rfl (kk _ h)
theorem sd_sto2 (hF : FX x) {n : Nat}
    (hd : (decode (cxC x) pc = .ok (.dstore i, 2) ∧ n = 2) ∨ ∃ k : Fin 4, decode (cxC x) pc = .ok (.dstore_n k, 1) ∧ k.val = i ∧ n = 1)
    (hty : ai_ty 3 v = true) (hbl : ai_below i ls = true) (hil : i + 2 ≤ ls.length) (hk : WG x (pc + n) ((ls.set i (some v)).set (i + 1) none) st G u) : WG x pc ls (v :: st) G u := by
  obtain ⟨⟨p, l, e, R, s, m, args, below, meth, c, Q⟩, ⟨D, cs, b, ad, adV, sc, L, XT⟩, cc, nL, own, c0, s0, seg, lv⟩ := x
  obtain ⟨hx, hb, hml, hown, hts, hKS, hbs, hL, hlocks, hR1, hR2, hR3, hR4⟩ := hF
  intro H locs cells slots sl hP hS hl h1 h2
  have hn : i + 1 < nL := by rw [← hl.1]; omega
  rw [List.map_cons]
  have kk : ∀ (y : Value), rv ad v = y → ∀ sl' : Array Slot, lv_has sl' nL ((i, y) :: (toL ad 0 ls).filter (fun q => !(q.1 == i) && (!(q.1 == i + 1) && !(q.1 + 1 == i && q.2.category == 2)))) → W p l e R s m args below meth c H locs cells slots Q (F0 m (pc + n) sl' (st.map (rv ad))) := fun y hy sl' h => hk H locs cells slots sl' hP hS (LV_set2 hl.1 hbl (hy ▸ h)) h1 h2
  rcases ld_ty (ad := ad) hty with ⟨h, -⟩ | ⟨h, -⟩ | ⟨h, -⟩ | ⟨-, q, h⟩ <;> try (exact absurd h (by decide))
  rw [h]
  rcases hd with ⟨hd, rfl⟩ | ⟨k, hd, hki, rfl⟩
  · exact lv_dstore hx hb hd hl.2 hn rfl (kk _ h)
  · exact lv_dstore_n hx hb hd hki hl.2 hn rfl (kk _ h)
end Loads
