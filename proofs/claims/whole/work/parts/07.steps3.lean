/-! Soundness of the steps: fields and arrays -/
theorem cls_in : ∀ (ci : Nat) (q : vw_C), cls_[ci]? = some q → ∀ w ∈ u_ws q.1 q.2.1 q.2.2, w ∈ lw_all := by
  have h : ∀ q ∈ cls_, ∀ w ∈ u_ws q.1 q.2.1 q.2.2, w ∈ lw_all := by decide +kernel
  exact fun ci q hq => h q (List.mem_of_getElem? hq)
def tyC (ci : Nat) : Nat → FieldType := match ci with
  | 0 => tyX6 | 1 => tyX3 | 2 => tyX0 | 3 => tyX5 | 4 => tyX4 | 5 => tyX1 | 6 => tyX2 | 7 => tyX7 | _ => tyJ4
theorem cls_ty : ∀ (ci : Nat) (q : vw_C), cls_[ci]? = some q → ∀ k, k < q.2.2 → parseFieldDescriptor (q.2.1 k).2.2.1 = some (tyC ci k) := by
  have h : ∀ ci, ci < 9 → ∀ q, cls_[ci]? = some q → ∀ k, k < q.2.2 → parseFieldDescriptor (q.2.1 k).2.2.1 = some (tyC ci k) := by
    intro ci hci q hq
    match ci, hci with
    | 0, _ => cases hq; exact tyX6_ok
    | 1, _ => cases hq; exact tyX3_ok
    | 2, _ => cases hq; exact tyX0_ok
    | 3, _ => cases hq; exact tyX5_ok
    | 4, _ => cases hq; exact tyX4_ok
    | 5, _ => cases hq; exact tyX1_ok
    | 6, _ => cases hq; exact tyX2_ok
    | 7, _ => cases hq; exact tyX7_ok
    | 8, _ => cases hq; exact tyJ4_ok
  intro ci q hq
  exact h ci (List.getElem?_eq_some_iff.mp hq).1 q hq
theorem cls_nm : ∀ (ci : Nat) (q : vw_C), cls_[ci]? = some q → ∀ a, a < q.2.2 → ∀ b, b < q.2.2 → a ≠ b → (q.2.1 a).2.1 ≠ (q.2.1 b).2.1 := by
  have h : ∀ ci, ci < 9 → ∀ q, cls_[ci]? = some q → ∀ a, a < q.2.2 → ∀ b, b < q.2.2 → a ≠ b → (q.2.1 a).2.1 ≠ (q.2.1 b).2.1 := by
    intro ci hci q hq
    match ci, hci with
    | 0, _ => cases hq; exact nmX6
    | 1, _ => cases hq; exact nmX3
    | 2, _ => cases hq; exact nmX0
    | 3, _ => cases hq; exact nmX5
    | 4, _ => cases hq; exact nmX4
    | 5, _ => cases hq; exact nmX1
    | 6, _ => cases hq; exact nmX2
    | 7, _ => cases hq; exact nmX7
    | 8, _ => cases hq; exact nmJ4
  intro ci q hq
  exact h ci (List.getElem?_eq_some_iff.mp hq).1 q hq
theorem kd_cls {k ci nf : Nat} (h : kd k = some (.inl (ci, nf))) : ∃ q : vw_C, cls_[ci]? = some q ∧ q.2.2 = nf := by
  unfold kd at h
  split at h <;> first | (cases h; exact ⟨_, rfl, rfl⟩) | cases h
/-- a field's link: plain, or of a nest mate -/
def FLk (own : String) (idx x : Nat) : Prop := ∃ q : vw_C, cls_[x / 64]? = some q ∧ (Cond.fieldLink own idx (q.2.1 (x / 2 % 32)).1 (q.2.1 (x / 2 % 32)).2.1 (q.2.1 (x / 2 % 32)).2.2.1 ∈ lw_all ∨ ∃ host, Cond.fieldLinkNest own idx (q.2.1 (x / 2 % 32)).1 (q.2.1 (x / 2 % 32)).2.1 (q.2.1 (x / 2 % 32)).2.2.1 host ∈ nw_all)
def PLk (own : String) (idx x : Nat) : Prop := FLk own idx x ∧ ∃ q : vw_C, cls_[x / 64]? = some q ∧ (q.2.1 (x / 2 % 32)).2.2.2 = false ∧ parseFieldDescriptor (q.2.1 (x / 2 % 32)).2.2.1 = some (match x % 2 with | 0 => .int | _ => .boolean)
theorem ent_o {cs : Nat → ClassId} {ad : Rf → Nat} {G : GS} {r : Rf} {ci n : Nat} (h : kd r.2 = some (.inl (ci, n))) : ent cs ad G r = .inr (ci, (List.range n).map (fv ad G r)) := by rw [ent, h]
theorem ent_a {cs : Nat → ClassId} {ad : Rf → Nat} {G : GS} {r : Rf} {t n : Nat} (h : kd r.2 = some (.inr (t, n))) : ent cs ad G r = .inl (cs t, n, entA ad G r t) := by rw [ent, h]
theorem fv_at {ad : Rf → Nat} {G : GS} {r : Rf} {n f : Nat} (h : f < n) : ((List.range n).map (fv ad G r))[f]? = some (fv ad G r f) := by
  rw [List.getElem?_map, List.getElem?_range h]; rfl
theorem gi_si {G : GS} {r q : Rf} {f j : Nat} {v : Int32} : gi (si G r f v) q j = if q = r ∧ j = f then v else gi G q j := rfl
theorem ga_sa {G : GS} {r q : Rf} {f j : Nat} {v : Int32} : ga (sa G r f v) q j = if q = r ∧ j = f then v else ga G q j := rfl
theorem ent_si {cs : Nat → ClassId} {ad : Rf → Nat} {G : GS} {r q : Rf} {f : Nat} {v : Int32} (h : q ≠ r) : ent cs ad (si G r f v) q = ent cs ad G q := by
  have e1 : fv ad (si G r f v) q = fv ad G q := by
    funext j
    rw [fv, fv, gi_si, if_neg (fun z => h z.1)]
  have e2 : ∀ t, entA ad (si G r f v) q t = entA ad G q t := fun t => by
    unfold entA; split <;> rfl
  unfold ent
  split <;> simp only [e1, e2]
theorem ent_si_same {cs : Nat → ClassId} {ad : Rf → Nat} {G : GS} {r : Rf} {ci n f : Nat} {v : Int32} (h : kd r.2 = some (.inl (ci, n))) (hf : f < n) (hg : gr r f = none) : (.inr (ci, ((List.range n).map (fv ad G r)).set f (.int v)) : va_E) = ent cs ad (si G r f v) r := by
  rw [ent_o h]
  congr 2
  apply List.ext_getElem?
  intro j
  by_cases e : f = j
  · subst e
    rw [List.getElem?_set_self (by simpa using hf), fv_at hf, fv, hg]
    show _ = some (Value.int (gi _ _ _))
    rw [gi_si, if_pos ⟨rfl, rfl⟩]
  · rw [List.getElem?_set_ne e, List.getElem?_map, List.getElem?_map]
    by_cases hj : j < n
    · rw [List.getElem?_range hj]
      show some (fv ad G r j) = some (fv ad (si G r f v) r j)
      unfold fv
      cases gr r j with
      | some q => rfl
      | none =>
        show some (Value.int (gi G r j)) = some (Value.int (gi _ _ _))
        rw [gi_si, if_neg (fun z => e z.2.symm)]
    · rw [List.getElem?_eq_none (by simpa using hj)]
      rfl
theorem ent_sa {cs : Nat → ClassId} {ad : Rf → Nat} {G : GS} {r q : Rf} {f : Nat} {v : Int32} (h : q ≠ r) : ent cs ad (sa G r f v) q = ent cs ad G q := by
  have e1 : fv ad (sa G r f v) q = fv ad G q := by
    funext j
    unfold fv; rfl
  have e3 : ga (sa G r f v) q = ga G q := by
    funext j
    rw [ga_sa, if_neg (fun z => h z.1)]
  have e2 : ∀ t, entA ad (sa G r f v) q t = entA ad G q t := fun t => by
    unfold entA; split <;> first | (simp only [e3]; done) | rfl
  unfold ent
  split <;> simp only [e1, e2]
theorem ent_sa_same {cs : Nat → ClassId} {ad : Rf → Nat} {G : GS} {r : Rf} {t n f : Nat} {v : Int32} (h : kd r.2 = some (.inr (t, n))) (ht : t = 0 ∨ t = 1) : (.inl (cs t, n, .inl (upd (ga G r) f v)) : va_E) = ent cs ad (sa G r f v) r := by
  rw [ent_a h]
  have e : upd (ga G r) f v = ga (sa G r f v) r := by
    funext j
    rw [ga_sa, upd]
    by_cases q : j = f
    · rw [if_pos q, if_pos ⟨rfl, q⟩]
    · rw [if_neg q, if_neg (fun z => q z.2)]
  rcases ht with rfl | rfl <;> rw [e] <;> rfl
theorem inb_in {i : Int32} {n : Nat} (h : inb i n = true) : vp_in i n := by
  unfold inb at h
  rw [Bool.and_eq_true] at h
  obtain ⟨h1, h2⟩ := h
  intro z
  rcases z with z | z
  · simp [z] at h1
  · have : i.toNatClampNeg < n := Nat.le_of_ble_eq_true h2
    omega
section Hp
variable {x : CX} {pc : Nat} {ls : Ls} {st : List AV} {G : GS} {u : Nat}
theorem sd_get {idx y : Nat} {r : Rf} {ci n : Nat} (hF : FX x) (hd : decode (cxC x) pc = .ok (.getfield idx, 3)) (hlk : FLk (cxO x) idx y) (hv : vA (cxL x) (.inr r)) (hkd : kd r.2 = some (.inl (ci, n))) (hci : ci = y / 64) (hf : y / 2 % 32 < n)
    (hk : ∀ v, (gr r (y / 2 % 32) = some v → vA (cxL x) (.inr v)) → WG x (pc + 3) ls ((match gr r (y / 2 % 32) with | some q => .inr q | none => .inl (.int (gi G r (y / 2 % 32)))) :: st) G u) : WG x pc ls (.inr r :: st) G u := by
  obtain ⟨⟨p, l, e, R, s, m, args, below, meth, c, Q⟩, ⟨D, cs, b, ad, adV, sc, L, XT⟩, cc, nL, own, c0, s0, seg, lv⟩ := x
  obtain ⟨hx, hb, hml, hown, hts, hKS, hbs, hL, hlocks, hR1, hR2, hR3, hR4⟩ := hF
  intro H locs cells slots sl hP hS hl h1 h2
  have hP0 := hP
  obtain ⟨w0, hXT, hP, hD⟩ := hP
  have hr : r ∈ L := hv (by rw [hkd]; rfl)
  have hk := hk (0, 0) (fun z => hL.2.1 r hr _ _ z) H locs cells slots sl hP0 hS hl h1 h2
  obtain ⟨k, hk1, -⟩ := cells_get (cs := cs) (ad := ad) hL.1 hr G w0
  rw [ent_o hkd] at hk1
  obtain ⟨⟨C, T, N⟩, hq, hq2⟩ := hlk
  obtain ⟨q9, hq9, hN⟩ := kd_cls hkd
  rw [hci] at hq9
  cases hq.symm.trans hq9
  subst hN
  have hval : rv ad (match gr r (y / 2 % 32) with | some q => .inr q | none => .inl (.int (gi G r (y / 2 % 32)))) = fv ad G r (y / 2 % 32) := by
    unfold fv; cases gr r (y / 2 % 32) <;> rfl
  rw [List.map_cons, hval] at hk
  rw [List.map_cons]
  show W p l e R s m args below meth c H locs cells slots Q (F0 m pc sl (.ref (ad r) :: st.map (rv ad)))
  rcases hq2 with hq2 | ⟨host, hq2⟩
  · exact va_get (D := D) hx hb hts (cls_in _ _ (hci ▸ hq)) hown hKS.1 hP k hk1 (hci ▸ hq) _ hf (hts _ hq2) (fun _ h9 => h9) (fv_at hf) hd hk
  · exact va_getN (D := D) hx hb hts (cls_in _ _ (hci ▸ hq)) hown hKS.1 hP k hk1 (hci ▸ hq) _ hf (va_Nw.use rfl (hKS.2.2.2.1 _ hq2)) (fun _ h9 => h9) (fv_at hf) hd hk
theorem sd_put {idx y : Nat} {r : Rf} {ci n : Nat} {v : Int32} (hF : FX x) (hd : decode (cxC x) pc = .ok (.putfield idx, 3)) (hlk : PLk (cxO x) idx y) (hv : vA (cxL x) (.inr r)) (hkd : kd r.2 = some (.inl (ci, n))) (hci : ci = y / 64) (hf : y / 2 % 32 < n) (hg : gr r (y / 2 % 32) = none) (hz : y % 2 = 0 ∨ v = 0 ∨ v = 1)
    (hk : WG x (pc + 3) ls st (si G r (y / 2 % 32) v) u) : WG x pc ls (.inl (.int v) :: .inr r :: st) G u := by
  obtain ⟨⟨p, l, e, R, s, m, args, below, meth, c, Q⟩, ⟨D, cs, b, ad, adV, sc, L, XT⟩, cc, nL, own, c0, s0, seg, lv⟩ := x
  obtain ⟨hx, hb, hml, hown, hts, hKS, hbs, hL, hlocks, hR1, hR2, hR3, hR4⟩ := hF
  intro H locs cells slots sl hP hS hl h1 h2
  have hP0 := hP
  obtain ⟨w0, hXT, hP, hD⟩ := hP
  have hr : r ∈ L := hv (by rw [hkd]; rfl)
  obtain ⟨k, hk1, hk2⟩ := cells_get (cs := cs) (ad := ad) hL.1 hr G w0
  have hset := hk2 (si G r (y / 2 % 32) v) _ (ent_si_same hkd hf hg) (fun q _ hq => ent_si hq)
  rw [ent_o hkd] at hk1
  obtain ⟨⟨⟨C, T, N⟩, hq, hq2⟩, ⟨C', T', N'⟩, hq', hfin, hpf⟩ := hlk
  obtain ⟨q9, hq9, hN⟩ := kd_cls hkd
  rw [hci] at hq9
  cases hq.symm.trans hq9
  cases hq.symm.trans hq'
  subst hN
  have hkk : ∀ (H1 : Heap) (locs1 : List Loc), va_P D cls_ ((cells_ cs ad L G ++ w0).set k (ad r, .inr (ci, ((List.range N).map (fv ad G r)).set (y / 2 % 32) (.int v)))) H1 → va_D (Ab b) ((cells_ cs ad L G ++ w0).set k (ad r, .inr (ci, ((List.range N).map (fv ad G r)).set (y / 2 % 32) (.int v)))) → va_S (Ab b) s.heap H1 locs1 → W p l e R s m args below meth c H1 locs1 cells slots Q (F0 m (pc + 3) sl (st.map (rv ad))) := by
    intro H1 locs1 g1 g2 g3
    rw [hset] at g1 g2
    exact hk H1 locs1 cells slots sl ⟨w0, hXT, g1, g2⟩ g3 hl h1 h2
  have hty : narrow (match y % 2 with | 0 => FieldType.int | _ => .boolean) (.int v) = .int v ∧ fits (match y % 2 with | 0 => FieldType.int | _ => .boolean) (.int v) = true := by
    rcases Nat.mod_two_eq_zero_or_one y with e2 | e2 <;> rw [e2]
    · exact ⟨rfl, rfl⟩
    · rcases hz with hz | rfl | rfl
      · omega
      · exact ⟨by decide, by decide⟩
      · exact ⟨by decide, by decide⟩
  rcases hq2 with hq2 | ⟨host, hq2⟩
  · exact va_put (D := D) hx hb hts (cls_in _ _ (hci ▸ hq)) (tyC ci) (cls_ty _ _ (hci ▸ hq)) (cls_nm _ _ (hci ▸ hq)) hown hKS.1 hP hD hS k hk1 (hci ▸ hq) _ hf (hts _ hq2) (fun _ h9 => h9) hfin hpf hty.1 hty.2 (by simpa using hf) hd hkk
  · exact va_putN (D := D) hx hb hts (cls_in _ _ (hci ▸ hq)) (tyC ci) (cls_ty _ _ (hci ▸ hq)) (cls_nm _ _ (hci ▸ hq)) hown hKS.1 hP hD hS k hk1 (hci ▸ hq) _ hf (va_Nw.use rfl (hKS.2.2.2.1 _ hq2)) (fun _ h9 => h9) hfin hpf hty.1 hty.2 (by simpa using hf) hd hkk
theorem sd_iald {r : Rf} {n : Nat} {j : Int32} (hF : FX x) (hd : decode (cxC x) pc = .ok (.iaload, 1)) (hv : vA (cxL x) (.inr r)) (hkd : kd r.2 = some (.inr (0, n))) (hin : inb j n = true)
    (hk : WG x (pc + 1) ls (.inl (.int (ga G r j.toNatClampNeg)) :: st) G u) : WG x pc ls (.inl (.int j) :: .inr r :: st) G u := by
  obtain ⟨⟨p, l, e, R, s, m, args, below, meth, c, Q⟩, ⟨D, cs, b, ad, adV, sc, L, XT⟩, cc, nL, own, c0, s0, seg, lv⟩ := x
  obtain ⟨hx, hb, hml, hown, hts, hKS, hbs, hL, hlocks, hR1, hR2, hR3, hR4⟩ := hF
  intro H locs cells slots sl hP hS hl h1 h2
  have hP0 := hP
  obtain ⟨w0, hXT, hP, hD⟩ := hP
  have hr : r ∈ L := hv (by rw [hkd]; rfl)
  obtain ⟨k, hk1, -⟩ := cells_get (cs := cs) (ad := ad) hL.1 hr G w0
  rw [ent_a hkd] at hk1
  exact va_iald (D := D) hx hb hKS.1 hP k 0 hk1 rfl (inb_in hin) hd (hk H locs cells slots sl hP0 hS hl h1 h2)
theorem sd_cald {r : Rf} {n : Nat} {j : Int32} (hF : FX x) (hd : decode (cxC x) pc = .ok (.caload, 1)) (hv : vA (cxL x) (.inr r)) (hkd : kd r.2 = some (.inr (1, n))) (hin : inb j n = true)
    (hk : WG x (pc + 1) ls (.inl (.int (ga G r j.toNatClampNeg)) :: st) G u) : WG x pc ls (.inl (.int j) :: .inr r :: st) G u := by
  obtain ⟨⟨p, l, e, R, s, m, args, below, meth, c, Q⟩, ⟨D, cs, b, ad, adV, sc, L, XT⟩, cc, nL, own, c0, s0, seg, lv⟩ := x
  obtain ⟨hx, hb, hml, hown, hts, hKS, hbs, hL, hlocks, hR1, hR2, hR3, hR4⟩ := hF
  intro H locs cells slots sl hP hS hl h1 h2
  have hP0 := hP
  obtain ⟨w0, hXT, hP, hD⟩ := hP
  have hr : r ∈ L := hv (by rw [hkd]; rfl)
  obtain ⟨k, hk1, -⟩ := cells_get (cs := cs) (ad := ad) hL.1 hr G w0
  rw [ent_a hkd] at hk1
  exact va_cald (D := D) hx hb hKS.1 hP k 1 hk1 rfl (inb_in hin) hd (hk H locs cells slots sl hP0 hS hl h1 h2)
theorem sd_sald {j : Int32} (hF : FX x) (hd : decode (cxC x) pc = .ok (.iaload, 1)) (hin : inb j (cxS x).1 = true)
    (hk : WG x (pc + 1) ls (.inl (.int ((cxS x).2 j.toNatClampNeg)) :: st) G u) : WG x pc ls (.inl (.int j) :: .inr (0, 250) :: st) G u := by
  obtain ⟨⟨p, l, e, R, s, m, args, below, meth, c, Q⟩, ⟨D, cs, b, ad, adV, sc, L, XT⟩, cc, nL, own, c0, s0, seg, lv⟩ := x
  obtain ⟨hx, hb, hml, hown, hts, hKS, hbs, hL, hlocks, hR1, hR2, hR3, hR4⟩ := hF
  intro H locs cells slots sl hP hS hl h1 h2
  have hP0 := hP
  obtain ⟨w0, hXT, hP, hD⟩ := hP
  obtain ⟨-, -, -, -, -, -, k1, k2, k3⟩ := hKS
  exact va_sld (A := Ab b) hx hb k1 k2 (Nat.not_le.mpr k3) hS (inb_in hin) hd (hk H locs cells slots sl hP0 hS hl h1 h2)
theorem sd_slen (hF : FX x) (hd : decode (cxC x) pc = .ok (.arraylength, 1))
    (hk : WG x (pc + 1) ls (.inl (.int (Int32.ofNat (cxS x).1)) :: st) G u) : WG x pc ls (.inr (0, 250) :: st) G u := by
  obtain ⟨⟨p, l, e, R, s, m, args, below, meth, c, Q⟩, ⟨D, cs, b, ad, adV, sc, L, XT⟩, cc, nL, own, c0, s0, seg, lv⟩ := x
  obtain ⟨hx, hb, hml, hown, hts, hKS, hbs, hL, hlocks, hR1, hR2, hR3, hR4⟩ := hF
  intro H locs cells slots sl hP hS hl h1 h2
  have hP0 := hP
  obtain ⟨w0, hXT, hP, hD⟩ := hP
  obtain ⟨-, -, -, -, -, -, k1, k2, k3⟩ := hKS
  exact va_slen (A := Ab b) hx hb k1 k2 (Nat.not_le.mpr k3) hS hd (hk H locs cells slots sl hP0 hS hl h1 h2)
theorem sd_aald {r : Rf} {j : Int32} (hF : FX x) (hd : decode (cxC x) pc = .ok (.aaload, 1)) (hv : vA (cxL x) (.inr r)) (hkd : kd r.2 = some (.inr (2, 9))) (hin : inb j 9 = true)
    (hk : WG x (pc + 1) ls (.inr (j.toNatClampNeg + 2, 1) :: st) G u) : WG x pc ls (.inl (.int j) :: .inr r :: st) G u := by
  obtain ⟨⟨p, l, e, R, s, m, args, below, meth, c, Q⟩, ⟨D, cs, b, ad, adV, sc, L, XT⟩, cc, nL, own, c0, s0, seg, lv⟩ := x
  obtain ⟨hx, hb, hml, hown, hts, hKS, hbs, hL, hlocks, hR1, hR2, hR3, hR4⟩ := hF
  intro H locs cells slots sl hP hS hl h1 h2
  have hP0 := hP
  obtain ⟨w0, hXT, hP, hD⟩ := hP
  have hr : r ∈ L := hv (by rw [hkd]; rfl)
  obtain ⟨k, hk1, -⟩ := cells_get (cs := cs) (ad := ad) hL.1 hr G w0
  rw [ent_a hkd] at hk1
  exact va_aldq (D := D) hx hb hKS.1 hP k 2 hk1 rfl (inb_in hin) hd (hk H locs cells slots sl hP0 hS hl h1 h2)
theorem inb1 {j : Int32} (h : inb j 1 = true) : j.toNatClampNeg = 0 := by
  have h1 := inb_in h
  have : j.toNatClampNeg < 1 := Nat.not_le.mp (fun z => h1 (Or.inr z))
  omega
theorem sd_lald {r : Rf} {n : Nat} {j : Int32} (hF : FX x) (hd : decode (cxC x) pc = .ok (.laload, 1)) (hv : vA (cxL x) (.inr r)) (hkd : kd r.2 = some (.inr (3, 1))) (hin : inb j 1 = true)
    (hk : WG x (pc + 1) ls (.inl (.long (go_ G)) :: st) G u) : WG x pc ls (.inl (.int j) :: .inr r :: st) G u := by
  obtain ⟨⟨p, l, e, R, s, m, args, below, meth, c, Q⟩, ⟨D, cs, b, ad, adV, sc, L, XT⟩, cc, nL, own, c0, s0, seg, lv⟩ := x
  obtain ⟨hx, hb, hml, hown, hts, hKS, hbs, hL, hlocks, hR1, hR2, hR3, hR4⟩ := hF
  intro H locs cells slots sl hP hS hl h1 h2
  have hP0 := hP
  obtain ⟨w0, hXT, hP, hD⟩ := hP
  have hr : r ∈ L := hv (by rw [hkd]; rfl)
  obtain ⟨k, hk1, -⟩ := cells_get (cs := cs) (ad := ad) hL.1 hr G w0
  rw [ent_a hkd] at hk1
  exact va_lald (D := D) hx hb hKS.1 hP k 3 hk1 rfl (inb_in hin) hd (by rw [inb1 hin]; exact hk H locs cells slots sl hP0 hS hl h1 h2)
theorem sd_dald {r : Rf} {n : Nat} {j : Int32} (hF : FX x) (hd : decode (cxC x) pc = .ok (.daload, 1)) (hv : vA (cxL x) (.inr r)) (hkd : kd r.2 = some (.inr (4, 1))) (hin : inb j 1 = true)
    (hk : WG x (pc + 1) ls (.inl (.double (gd_ G)) :: st) G u) : WG x pc ls (.inl (.int j) :: .inr r :: st) G u := by
  obtain ⟨⟨p, l, e, R, s, m, args, below, meth, c, Q⟩, ⟨D, cs, b, ad, adV, sc, L, XT⟩, cc, nL, own, c0, s0, seg, lv⟩ := x
  obtain ⟨hx, hb, hml, hown, hts, hKS, hbs, hL, hlocks, hR1, hR2, hR3, hR4⟩ := hF
  intro H locs cells slots sl hP hS hl h1 h2
  have hP0 := hP
  obtain ⟨w0, hXT, hP, hD⟩ := hP
  have hr : r ∈ L := hv (by rw [hkd]; rfl)
  obtain ⟨k, hk1, -⟩ := cells_get (cs := cs) (ad := ad) hL.1 hr G w0
  rw [ent_a hkd] at hk1
  exact va_dald (D := D) hx hb hKS.1 hP k 4 hk1 rfl (inb_in hin) hd (by rw [inb1 hin]; exact hk H locs cells slots sl hP0 hS hl h1 h2)
theorem sd_iast {r : Rf} {n : Nat} {j v : Int32} (hF : FX x) (hd : decode (cxC x) pc = .ok (.iastore, 1)) (hv : vA (cxL x) (.inr r)) (hkd : kd r.2 = some (.inr (0, n))) (hin : inb j n = true)
    (hk : WG x (pc + 1) ls st (sa G r j.toNatClampNeg v) u) : WG x pc ls (.inl (.int v) :: .inl (.int j) :: .inr r :: st) G u := by
  obtain ⟨⟨p, l, e, R, s, m, args, below, meth, c, Q⟩, ⟨D, cs, b, ad, adV, sc, L, XT⟩, cc, nL, own, c0, s0, seg, lv⟩ := x
  obtain ⟨hx, hb, hml, hown, hts, hKS, hbs, hL, hlocks, hR1, hR2, hR3, hR4⟩ := hF
  intro H locs cells slots sl hP hS hl h1 h2
  have hP0 := hP
  obtain ⟨w0, hXT, hP, hD⟩ := hP
  have hr : r ∈ L := hv (by rw [hkd]; rfl)
  obtain ⟨k, hk1, hk2⟩ := cells_get (cs := cs) (ad := ad) hL.1 hr G w0
  have hset := hk2 (sa G r j.toNatClampNeg v) _ (ent_sa_same hkd (Or.inl rfl)) (fun q _ hq => ent_sa hq)
  rw [ent_a hkd] at hk1
  refine va_iast (D := D) hx hb hKS.1 hP hD hS k 0 hk1 rfl (inb_in hin) hd (fun H1 locs1 g1 g2 g3 => ?_)
  rw [hset] at g1 g2
  exact hk H1 locs1 cells slots sl ⟨w0, hXT, g1, g2⟩ g3 hl h1 h2
theorem sd_cast {r : Rf} {n : Nat} {j v : Int32} (hF : FX x) (hd : decode (cxC x) pc = .ok (.castore, 1)) (hv : vA (cxL x) (.inr r)) (hkd : kd r.2 = some (.inr (1, n))) (hin : inb j n = true)
    (hk : WG x (pc + 1) ls st (sa G r j.toNatClampNeg (vp_nar .char v)) u) : WG x pc ls (.inl (.int v) :: .inl (.int j) :: .inr r :: st) G u := by
  obtain ⟨⟨p, l, e, R, s, m, args, below, meth, c, Q⟩, ⟨D, cs, b, ad, adV, sc, L, XT⟩, cc, nL, own, c0, s0, seg, lv⟩ := x
  obtain ⟨hx, hb, hml, hown, hts, hKS, hbs, hL, hlocks, hR1, hR2, hR3, hR4⟩ := hF
  intro H locs cells slots sl hP hS hl h1 h2
  have hP0 := hP
  obtain ⟨w0, hXT, hP, hD⟩ := hP
  have hr : r ∈ L := hv (by rw [hkd]; rfl)
  obtain ⟨k, hk1, hk2⟩ := cells_get (cs := cs) (ad := ad) hL.1 hr G w0
  have hset := hk2 (sa G r j.toNatClampNeg (vp_nar .char v)) _ (ent_sa_same hkd (Or.inr rfl)) (fun q _ hq => ent_sa hq)
  rw [ent_a hkd] at hk1
  refine va_cast (D := D) hx hb hKS.1 hP hD hS k 1 hk1 rfl (inb_in hin) hd (fun H1 locs1 g1 g2 g3 => ?_)
  rw [hset] at g1 g2
  exact hk H1 locs1 cells slots sl ⟨w0, hXT, g1, g2⟩ g3 hl h1 h2
theorem kd_3 {k n : Nat} (h : kd k = some (.inr (3, n))) : k = 18 ∧ n = 1 := by
  unfold kd at h
  split at h <;> first | (cases h; exact ⟨rfl, rfl⟩) | (cases h; done)
theorem kd_4 {k n : Nat} (h : kd k = some (.inr (4, n))) : k = 19 ∧ n = 1 := by
  unfold kd at h
  split at h <;> first | (cases h; exact ⟨rfl, rfl⟩) | (cases h; done)
theorem ent_so {cs : Nat → ClassId} {ad : Rf → Nat} {G : GS} {q : Rf} {v : Int64} (h : q.2 ≠ 18) : ent cs ad (so_ G v) q = ent cs ad G q := by
  have e1 : fv ad (so_ G v) q = fv ad G q := by funext j; unfold fv; rfl
  unfold ent
  split
  · rw [e1]
  · rename_i t n hq
    have ht : t ≠ 3 := fun z => h (kd_3 (z ▸ hq)).1
    congr 3
    unfold entA
    split <;> first | rfl | (exact absurd rfl ht)
  · rfl
theorem ent_sd {cs : Nat → ClassId} {ad : Rf → Nat} {G : GS} {q : Rf} {v : UInt64} (h : ∀ t n, kd q.2 = some (.inr (t, n)) → t ≤ 3) : ent cs ad (sd_ G v) q = ent cs ad G q := by
  have e1 : fv ad (sd_ G v) q = fv ad G q := by funext j; unfold fv; rfl
  unfold ent
  split
  · rw [e1]
  · rename_i t n hq
    have ht := h t n hq
    congr 3
    rcases (show t = 0 ∨ t = 1 ∨ t = 2 ∨ t = 3 by omega) with rfl | rfl | rfl | rfl <;> rfl
  · rfl
theorem kd_t {k t n : Nat} (h : kd k = some (.inr (t, n))) : t ≤ 3 ∨ k = 19 := by
  unfold kd at h
  split at h <;> first | (cases h; exact Or.inl (by decide)) | (cases h; exact Or.inr rfl) | (cases h; done)
theorem sd_last {r : Rf} {j : Int32} {v : Int64} (hF : FX x) (hd : decode (cxC x) pc = .ok (.lastore, 1)) (hv : vA (cxL x) (.inr r)) (h18 : r.2 = 18) (hin : inb j 1 = true)
    (hk : WG x (pc + 1) ls st (so_ G v) u) : WG x pc ls (.inl (.long v) :: .inl (.int j) :: .inr r :: st) G u := by
  obtain ⟨⟨p, l, e, R, s, m, args, below, meth, c, Q⟩, ⟨D, cs, b, ad, adV, sc, L, XT⟩, cc, nL, own, c0, s0, seg, lv⟩ := x
  obtain ⟨hx, hb, hml, hown, hts, hKS, hbs, hL, hlocks, hR1, hR2, hR3, hR4⟩ := hF
  intro H locs cells slots sl hP hS hl h1 h2
  have hP0 := hP
  obtain ⟨w0, hXT, hP, hD⟩ := hP
  have hkd : kd r.2 = some (.inr (3, 1)) := by rw [h18]; rfl
  have hr : r ∈ L := hv (by rw [hkd]; rfl)
  have hr0 : r.1 = 0 := hL.2.2.2 r hr (Or.inr (Or.inl h18))
  obtain ⟨k, hk1, hk2⟩ := cells_get (cs := cs) (ad := ad) hL.1 hr G w0
  have e1 : (.inl (cs 3, 1, .inr (.inl (vp_updL (fun i => if i = 0 then go_ G else 0) j.toNatClampNeg v))) : va_E) = ent cs ad (so_ G v) r := by
    rw [ent_a hkd, inb1 hin]
    have : vp_updL (fun i => if i = 0 then go_ G else 0) 0 v = fun i => if i = 0 then go_ (so_ G v) else 0 := by
      funext i
      unfold vp_updL
      by_cases q : i = 0
      · rw [if_pos q, if_pos q]; rfl
      · rw [if_neg q, if_neg q]; exact if_neg q
    rw [this]; rfl
  have hset := hk2 (so_ G v) _ e1 (fun q hq hne => ent_so (fun z => hne (Prod.ext ((hL.2.2.2 q hq (Or.inr (Or.inl z))).trans hr0.symm) (z.trans h18.symm))))
  rw [ent_a hkd] at hk1
  refine va_last (D := D) hx hb hKS.1 hP hD hS k 3 hk1 rfl (inb_in hin) hd (fun H1 locs1 g1 g2 g3 => ?_)
  rw [hset] at g1 g2
  exact hk H1 locs1 cells slots sl ⟨w0, hXT, g1, g2⟩ g3 hl h1 h2
theorem sd_dast {r : Rf} {j : Int32} {v : UInt64} (hF : FX x) (hd : decode (cxC x) pc = .ok (.dastore, 1)) (hv : vA (cxL x) (.inr r)) (h19 : r.2 = 19) (hin : inb j 1 = true)
    (hk : WG x (pc + 1) ls st (sd_ G v) u) : WG x pc ls (.inl (.double v) :: .inl (.int j) :: .inr r :: st) G u := by
  obtain ⟨⟨p, l, e, R, s, m, args, below, meth, c, Q⟩, ⟨D, cs, b, ad, adV, sc, L, XT⟩, cc, nL, own, c0, s0, seg, lv⟩ := x
  obtain ⟨hx, hb, hml, hown, hts, hKS, hbs, hL, hlocks, hR1, hR2, hR3, hR4⟩ := hF
  intro H locs cells slots sl hP hS hl h1 h2
  have hP0 := hP
  obtain ⟨w0, hXT, hP, hD⟩ := hP
  have hkd : kd r.2 = some (.inr (4, 1)) := by rw [h19]; rfl
  have hr : r ∈ L := hv (by rw [hkd]; rfl)
  have hr0 : r.1 = 0 := hL.2.2.2 r hr (Or.inr (Or.inr h19))
  obtain ⟨k, hk1, hk2⟩ := cells_get (cs := cs) (ad := ad) hL.1 hr G w0
  have e1 : (.inl (cs 4, 1, .inr (.inr (.inr (.inl (vf_upd (fun i => if i = 0 then gd_ G else 0) j.toNatClampNeg v))))) : va_E) = ent cs ad (sd_ G v) r := by
    rw [ent_a hkd, inb1 hin]
    have : vf_upd (fun i => if i = 0 then gd_ G else 0) 0 v = fun i => if i = 0 then gd_ (sd_ G v) else 0 := by
      funext i
      unfold vf_upd
      by_cases q : i = 0
      · rw [if_pos q, if_pos q]; rfl
      · rw [if_neg q, if_neg q]; exact if_neg q
    rw [this]; rfl
  have hset := hk2 (sd_ G v) _ e1 (fun q hq hne => ent_sd (fun t n h => (kd_t h).resolve_right (fun z => hne (Prod.ext ((hL.2.2.2 q hq (Or.inr (Or.inr z))).trans hr0.symm) (z.trans h19.symm)))))
  rw [ent_a hkd] at hk1
  refine va_dast (D := D) hx hb hKS.1 hP hD hS k 4 hk1 rfl (inb_in hin) hd (fun H1 locs1 g1 g2 g3 => ?_)
  rw [hset] at g1 g2
  exact hk H1 locs1 cells slots sl ⟨w0, hXT, g1, g2⟩ g3 hl h1 h2
theorem kd_arr {k t n : Nat} (h : kd k = some (.inr (t, n))) : n < 2 ^ 31 ∧ (t = 0 ∨ t = 1 ∨ t = 2 ∨ t = 3 ∨ t = 4) := by
  unfold kd at h
  split at h <;> first | (cases h; exact ⟨by decide, by decide⟩) | (cases h; done)
theorem sd_alen {r : Rf} {t n : Nat} (hF : FX x) (hd : decode (cxC x) pc = .ok (.arraylength, 1)) (hv : vA (cxL x) (.inr r)) (hkd : kd r.2 = some (.inr (t, n)))
    (hk : WG x (pc + 1) ls (.inl (.int (Int32.ofNat n)) :: st) G u) : WG x pc ls (.inr r :: st) G u := by
  obtain ⟨⟨p, l, e, R, s, m, args, below, meth, c, Q⟩, ⟨D, cs, b, ad, adV, sc, L, XT⟩, cc, nL, own, c0, s0, seg, lv⟩ := x
  obtain ⟨hx, hb, hml, hown, hts, hKS, hbs, hL, hlocks, hR1, hR2, hR3, hR4⟩ := hF
  intro H locs cells slots sl hP hS hl h1 h2
  have hP0 := hP
  obtain ⟨w0, hXT, hP, hD⟩ := hP
  have hr : r ∈ L := hv (by rw [hkd]; rfl)
  obtain ⟨k, hk1, -⟩ := cells_get (cs := cs) (ad := ad) hL.1 hr G w0
  rw [ent_a hkd] at hk1
  have hk := hk H locs cells slots sl hP0 hS hl h1 h2
  rcases (kd_arr hkd).2 with rfl | rfl | rfl | rfl | rfl
  · exact va_alen (D := D) hx hb hKS.1 hP k 0 hk1 rfl rfl hd hk
  · exact va_alen (D := D) hx hb hKS.1 hP k 1 hk1 rfl rfl hd hk
  · exact va_alen (D := D) hx hb hKS.1 hP k 2 hk1 rfl rfl hd hk
  · exact va_alen (D := D) hx hb hKS.1 hP k 3 hk1 rfl rfl hd hk
  · exact va_alen (D := D) hx hb hKS.1 hP k 4 hk1 rfl rfl hd hk
theorem sd_ldcf {idx : Nat} (hF : FX x) (hd : decode (cxC x) pc = .ok (.ldc idx, 2)) (hc : Cond.constantFloat (cxO x) idx 1110704128 ∈ lw_all)
    (hk : WG x (pc + 2) ls (.inl (.float 1110704128) :: st) G u) : WG x pc ls st G u := by
  obtain ⟨⟨p, l, e, R, s, m, args, below, meth, c, Q⟩, ⟨D, cs, b, ad, adV, sc, L, XT⟩, cc, nL, own, c0, s0, seg, lv⟩ := x
  obtain ⟨hx, hb, hml, hown, hts, hKS, hbs, hL, hlocks, hR1, hR2, hR3, hR4⟩ := hF
  intro H locs cells slots sl hP hS hl h1 h2
  have hP0 := hP
  obtain ⟨w0, hXT, hP, hD⟩ := hP
  exact lv_ldcf hx hb hown (hts _ hc) hd (hk H locs cells slots sl hP0 hS hl h1 h2)
theorem sd_ldcs {idx k : Nat} (hF : FX x) (hd : decode (cxC x) pc = .ok (.ldc idx, 2)) (hk7 : k < 7) (ho : cxO x = "PillowBarge$Script") (hi : idx = jsI.getD k 0)
    (hk : WG x (pc + 2) ls (.inr (k, 200) :: st) G u) : WG x pc ls st G u := by
  obtain ⟨⟨p, l, e, R, s, m, args, below, meth, c, Q⟩, ⟨D, cs, b, ad, adV, sc, L, XT⟩, cc, nL, own, c0, s0, seg, lv⟩ := x
  obtain ⟨hx, hb, hml, hown, hts, hKS, hbs, hL, hlocks, hR1, hR2, hR3, hR4⟩ := hF
  intro H locs cells slots sl hP hS hl h1 h2
  have hP0 := hP
  obtain ⟨w0, hXT, hP, hD⟩ := hP
  have ho : own = "PillowBarge$Script" := ho
  subst ho; subst hi
  exact va_ldcS hx hb hown (hKS.2.2.2.2.2.1.2.1 k hk7) hd (hk H locs cells slots sl hP0 hS hl h1 h2)
end Hp
