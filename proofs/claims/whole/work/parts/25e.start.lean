/-! THE START: what is known at the law's entry -/
theorem mem_cut {α : Type} {l : List α} {i n : Nat} {f : Nat → α} (h : (l.drop i).take n = (List.range n).map f) {j : Nat} (hj : j < n) : f j ∈ l :=
  List.mem_of_mem_drop (List.mem_of_mem_take (h ▸ List.mem_map.mpr ⟨j, List.mem_range.mpr hj, rfl⟩))
section Start
variable {s : State} {b L : Nat} {xs : Nat → Int32}
theorem tbl_w {w : Cond} (i : Nat) (hts : ∀ w ∈ lw_tbl, w.before #[Value.ref b] s = true) (h : lw_tbl[i]? = some w) : w.before #[Value.ref b] s = true := hts w (List.mem_of_getElem? h)
theorem st_nw (hts : ∀ w ∈ lw_tbl, w.before #[Value.ref b] s = true) : ∀ w ∈ nw_all, va_Nw w s := by
  intro w hw
  have h1 := List.mem_filter.mp hw
  have h2 := hts w h1.1
  have h3 : nw_is w = true := h1.2
  cases w <;> first | (exact va_Nw.of rfl h2) | (rename_i t; cases t <;> first | (exact va_AO.of h2) | (simp [nw_is] at h3; done)) | (simp [nw_is] at h3; done)
theorem st_all (hts : ∀ w ∈ lw_tbl, w.before #[Value.ref b] s = true) : ∀ w ∈ lw_all, w.before #[Value.ref b] s = true := by
  intro w hw
  rcases List.mem_append.mp (List.mem_filter.mp hw).1 with h | h
  · exact hts w h
  · rcases List.mem_cons.mp h with rfl | h
    · exact sel_priv (z := yJ5_isLatin1_aae02) ⟨by decide +kernel, by decide +kernel⟩ rfl (tbl_w 840 hts (by decide +kernel)) (tbl_w 807 hts (by decide +kernel)) (tbl_w 808 hts (by decide +kernel))
    · rcases List.mem_cons.mp h with rfl | h
      · exact sel_priv (z := yJ5_isLatin1_aae02) ⟨by decide +kernel, by decide +kernel⟩ rfl (tbl_w 840 hts (by decide +kernel)) (tbl_w 811 hts (by decide +kernel)) (tbl_w 812 hts (by decide +kernel))
      · cases h
theorem st_cls (hts : ∀ w ∈ lw_tbl, w.before #[Value.ref b] s = true) : ∃ f : Nat → ClassId × (Nat → Nat), ∀ (k : Nat) (q : vw_C), cls_[k]? = some q → u_Kn s q.1 q.2.1 q.2.2 (f k).1 (f k).2 := by
  have hA := st_all hts
  have hi : ∀ (k : Nat) (q : vw_C), cls_[k]? = some q → Cond.instantiable q.1 q.2.2 ∈ lw_all := by
    intro k q hq
    match k, hq with
    | 0, hq => cases hq; exact lkAll_in (by decide +kernel)
    | 1, hq => cases hq; exact lkAll_in (by decide +kernel)
    | 2, hq => cases hq; exact lkAll_in (by decide +kernel)
    | 3, hq => cases hq; exact lkAll_in (by decide +kernel)
    | 4, hq => cases hq; exact lkAll_in (by decide +kernel)
    | 5, hq => cases hq; exact lkAll_in (by decide +kernel)
    | 6, hq => cases hq; exact lkAll_in (by decide +kernel)
    | 7, hq => cases hq; exact lkAll_in (by decide +kernel)
    | 8, hq => cases hq; exact lkAll_in (by decide +kernel)
    | k + 9, hq => simp at hq
  obtain ⟨c0, i0, -⟩ := u_known hA (cls_in 0 _ rfl) (hA _ (hi 0 _ rfl))
  have hc : ∀ k : Nat, ∃ y : ClassId × (Nat → Nat), ∀ q : vw_C, cls_[k]? = some q → u_Kn s q.1 q.2.1 q.2.2 y.1 y.2 := by
    intro k
    cases h : cls_[k]? with
    | none => exact ⟨(c0, i0), fun q hq => by cases hq⟩
    | some q =>
      obtain ⟨c, i, h1⟩ := u_known hA (cls_in k q h) (hA _ (hi k q h))
      exact ⟨(c, i), fun q' hq' => by cases hq'; exact h1⟩
  exact ⟨fun k => (hc k).choose, fun k q h => (hc k).choose_spec q h⟩
theorem st_arr {ty : FieldType} {args : Array Value} (h : (Cond.arrayClass ty).before args s = true) : ∃ c, ArrOfT s c ty ∧ s.vm.findClass ("[" ++ ty.toString) = some c := by
  obtain ⟨c, k, comp, h1, h2, h3⟩ := Cond.arrayClass_spec h
  exact ⟨c, fun N z => ⟨(fun k h => by cases h), k, h2, comp, h3⟩, h1⟩
theorem st_K (hts : ∀ w ∈ lw_tbl, w.before #[Value.ref b] s = true) : ∃ (D : va_G) (cs : Nat → ClassId), va_K D cls_ (tys_ cs) s := by
  obtain ⟨f, hf⟩ := st_cls hts
  obtain ⟨c0, a0, r0⟩ := st_arr (tbl_w 153 hts (by decide +kernel : lw_tbl[153]? = some (.arrayClass .int)))
  obtain ⟨c1, a1, r1⟩ := st_arr (tbl_w 273 hts (by decide +kernel : lw_tbl[273]? = some (.arrayClass .char)))
  obtain ⟨c5, a5, r5⟩ := st_arr (tbl_w 306 hts (by decide +kernel : lw_tbl[306]? = some (.arrayClass .byte)))
  obtain ⟨c3, a3, r3⟩ := st_arr (tbl_w 2039 hts (by decide +kernel : lw_tbl[2039]? = some (.arrayClass .long)))
  obtain ⟨c4, a4, r4⟩ := st_arr (tbl_w 2040 hts (by decide +kernel : lw_tbl[2040]? = some (.arrayClass .double)))
  obtain ⟨comp, c2, k2, q1, q2, q3, q4, q5⟩ := Cond.arrayOver_spec (tbl_w 232 hts (by decide +kernel : lw_tbl[232]? = some (.arrayOver (.object "PillowBarge$State"))))
  refine ⟨(fun k => (f k).1, fun k => (f k).2), fun t => match t with | 0 => c0 | 1 => c1 | 2 => c2 | 3 => c3 | 4 => c4 | _ => c5, fun k q hq => hf k q hq, fun k q hq => ?_⟩
  match k, hq with
  | 0, hq => cases hq; exact ⟨a0, r0⟩
  | 1, hq => cases hq; exact ⟨a1, r1⟩
  | 2, hq => cases hq; exact ⟨fun N z => ⟨(fun k h => by cases h), k2, q3, comp, q4⟩, k2, comp, q3, q4, q1, q5⟩
  | 3, hq => cases hq; exact ⟨a3, r3⟩
  | 4, hq => cases hq; exact ⟨a4, r4⟩
  | 5, hq => cases hq; exact ⟨a5, r5⟩
  | k + 6, hq => simp at hq
abbrev flN : List Cond := flatC (Jvm.Cond.and given_1 narrow_1)
theorem st_Nc (hf : ∀ c ∈ flN, c.before #[Value.ref b] s = true) : ∀ e f, e < 7 → f < 7 → exN e ≠ exN f → va_Nc (exN e) (exN f) s := by
  have h : ∀ e, e < 7 → ∀ f, f < 7 → (exN e = exN f ∨ Cond.not (.castable (exN e) (exN f)) ∈ flN) := by decide +kernel
  intro e f he hf' hne
  rcases h e he f hf' with h | h
  · exact absurd h hne
  · exact va_Nc.of (hf _ h)
theorem st_dig {nm : String} {N : Nat} {f : Nat → Value} (hts : ∀ w ∈ lw_tbl, w.before #[Value.ref b] s = true) (hl : (Cond.laysStatic "java/lang/Integer" nm "[B").before #[Value.ref b] s = true) (hN : N < 2 ^ 31)
    (harr : (Cond.arrayOf (.static "java/lang/Integer" nm "[B") .byte).before #[Value.ref b] s = true) (hlen : (Cond.eq (.length (.static "java/lang/Integer" nm "[B")) (.int (Int32.ofNat N))).before #[Value.ref b] s = true)
    (hel : ∀ j, j < N → (Term.elem (.static "java/lang/Integer" nm "[B") (.int (Int32.ofNat j))).eval #[Value.ref b] s none [] s = some (f j)) : ∃ t, va_Z "java/lang/Integer" nm "[B" (.ref t) (Ab s.heap.size) s s.heap ∧ va_T .byte t N f (Ab s.heap.size) s s.heap := by
  have hA : ∀ a : Nat, a < s.heap.size → ¬ Ab s.heap.size a := fun a h => Nat.not_le.mpr h
  obtain ⟨t, h1, h2⟩ := va_Tof (f := f) (A := Ab s.heap.size) hN harr (va_eqt hlen) hel hA
  exact ⟨t, va_Zref hl (st_all hts _ (lkAll_in (by decide +kernel))) h1 hA, h2⟩
theorem st_KJ (hts : ∀ w ∈ lw_tbl, w.before #[Value.ref b] s = true) (hf : ∀ c ∈ flN, c.before #[Value.ref b] s = true) : ∃ (adK adV : Nat → Nat), ∀ ad : Rf → Nat, (∀ k, ad (k, 200) = adK k) → KJ s.heap.size ad adV s s.heap := by
  have hA : ∀ a : Nat, a < s.heap.size → ¬ Ab s.heap.size a := fun a h => Nat.not_le.mpr h
  have hW := st_all hts
  obtain ⟨adK, adV, h1, h2⟩ := vk_Sof (args := #[Value.ref b]) (s := s) (N := 7) (tm := fun i => .string "PillowBarge$Script" (jsI.getD i 0)) (len := jS.map List.length) (byt := jS) (A := Ab s.heap.size)
    (by decide +kernel)
    (fun i hi => hf _ ((by decide +kernel : ∀ i, i < 7 → Cond.exactly (.string "PillowBarge$Script" (jsI.getD i 0)) "java/lang/String" ∈ flN) i hi))
    (fun i hi => hf _ ((by decide +kernel : ∀ i, i < 7 → Cond.eq (.field (.string "PillowBarge$Script" (jsI.getD i 0)) "java/lang/String" "coder" "B") (.int 0) ∈ flN) i hi))
    (fun i hi => hf _ ((by decide +kernel : ∀ i, i < 7 → Cond.arrayOf (.field (.string "PillowBarge$Script" (jsI.getD i 0)) "java/lang/String" "value" "[B") .byte ∈ flN) i hi))
    (fun i hi => hf _ ((by decide +kernel : ∀ i, i < 7 → Cond.eq (.length (.field (.string "PillowBarge$Script" (jsI.getD i 0)) "java/lang/String" "value" "[B")) (.int (Int32.ofNat ((jS.map List.length).getD i 0))) ∈ flN) i hi))
    (fun i hi j hj => hf _ ((by decide +kernel : ∀ i, i < 7 → ∀ j, j < (jS.map List.length).getD i 0 → Cond.eq (.elem (.field (.string "PillowBarge$Script" (jsI.getD i 0)) "java/lang/String" "value" "[B") (.int (Int32.ofNat j))) (.int ((jS.getD i []).getD j 0)) ∈ flN) i hi j hj))
    (fun i j hi hj hne => by
      have h : ∀ i, i < 7 → ∀ j, j < 7 → (i = j ∨ Cond.not (Cond.eq (.string "PillowBarge$Script" (jsI.getD i 0)) (.string "PillowBarge$Script" (jsI.getD j 0))) ∈ flN ∨ Cond.not (Cond.eq (.string "PillowBarge$Script" (jsI.getD j 0)) (.string "PillowBarge$Script" (jsI.getD i 0))) ∈ flN) := by decide +kernel
      rcases h i hi j hj with q | q | q
      · exact absurd q hne
      · exact Or.inl (hf _ q)
      · exact Or.inr (hf _ q)) hA
  refine ⟨adK, adV, fun ad had => ⟨?_, fun k hk => ?_, ?_, ?_, ?_, ?_⟩⟩
  · rw [show (fun k => ad (k, 200)) = adK from funext had]; exact h1
  · rw [had k]
    exact vk_R.of (hts _ ((by decide +kernel : ∀ k, k < 7 → Cond.stringRef "PillowBarge$Script" (jsI.getD k 0) (jsT.getD k "") ∈ lw_tbl) k hk)) (h2 k hk)
  · exact va_Zof (tbl_w 284 hts (by decide +kernel)) (hW _ (lkAll_in (by decide +kernel))) (va_eqt (hf _ (by decide +kernel))) hA
  · exact st_dig (N := 100) (f := fun j => .int (Int32.ofNat (48 + j % 10))) hts (tbl_w 925 hts (by decide +kernel)) (by decide) (hf _ (by decide +kernel)) (hf _ (by decide +kernel)) (fun j hj => va_eqt (hf _ (mem_cut (i := 14) (n := 100) (f := fun j => Cond.eq (.elem (.static "java/lang/Integer" "DigitOnes" "[B") (.int (Int32.ofNat j))) (.int (Int32.ofNat (48 + j % 10)))) (by decide +kernel) hj)))
  · exact st_dig (N := 100) (f := fun j => .int (Int32.ofNat (48 + j / 10))) hts (tbl_w 927 hts (by decide +kernel)) (by decide) (hf _ (by decide +kernel)) (hf _ (by decide +kernel)) (fun j hj => va_eqt (hf _ (mem_cut (i := 117) (n := 100) (f := fun j => Cond.eq (.elem (.static "java/lang/Integer" "DigitTens" "[B") (.int (Int32.ofNat j))) (.int (Int32.ofNat (48 + j / 10)))) (by decide +kernel) hj)))
  · exact va_Zqof (tbl_w 855 hts (by decide +kernel)) (hW _ (lkAll_in (by decide +kernel))) (hf _ (by decide +kernel)) hA
/-- all that is known at the law's entry, for whatever addresses the objects will have -/
theorem st_KS (hts : ∀ w ∈ lw_tbl, w.before #[Value.ref b] s = true) (hgv : (Jvm.Cond.and given_1 narrow_1).before #[Value.ref b] s = true) (hX : va_X b L xs s s.heap) (hbl : b < s.heap.size) :
    ∃ (D : va_G) (cs : Nat → ClassId) (adK adV : Nat → Nat), ∀ ad : Rf → Nat, (∀ k, ad (k, 200) = adK k) → ad (0, 250) = b → KS D cs s.heap.size ad adV (L, xs) s s.heap := by
  have hA : ∀ a : Nat, a < s.heap.size → ¬ Ab s.heap.size a := fun a h => Nat.not_le.mpr h
  have hf : ∀ c ∈ flN, c.before #[Value.ref b] s = true := flat_of_before _ hgv
  have hW := st_all hts
  obtain ⟨D, cs, hK⟩ := st_K hts
  obtain ⟨adK, adV, hJ⟩ := st_KJ hts hf
  refine ⟨D, cs, adK, adV, fun ad h2 h3 => ⟨hK, ?_, ?_, st_nw hts, st_Nc hf, hJ ad h2, by rw [h3]; exact hX, by rw [h3]; exact hbl, by rw [h3]; exact hbl⟩⟩
  · exact vx_Zqof (tbl_w 451 hts (by decide +kernel)) (hW _ (lkAll_in (by decide +kernel))) (hf _ (by decide +kernel)) hA
  · exact vx_Zqof (tbl_w 453 hts (by decide +kernel)) (hW _ (lkAll_in (by decide +kernel))) (hf _ (by decide +kernel)) hA
end Start
