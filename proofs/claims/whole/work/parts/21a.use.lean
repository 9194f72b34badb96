theorem hd_nil {x : CX} {pc : Nat} : HdOK x pc [] := fun _ _ _ _ _ _ h _ _ => by cases h
theorem tk_use {T : Tb} {N : Nat} {P : Nat → En → Bool} (hN : ∀ pc, N ≤ pc → T pc = none) (h : (List.range N).all (fun pc => match T pc with | none => true | some e => P pc e) = true) (pc : Nat) (e : En) (he : T pc = some e) : P pc e = true := by
  have hlt : pc < N := by
    rcases Nat.lt_or_ge pc N with q | q
    · exact q
    · rw [hN pc q] at he; cases he
  have h1 := List.all_eq_true.mp h pc (List.mem_range.mpr hlt)
  rw [he] at h1
  exact h1
/-- without cuts any fuel serves -/
theorem ro0 {seg maxL F : Nat} {T : Tb} {call : Nat → List AV → GS → Res} {hd : Nat → Hd} {bk : Nat → Kb} {A : List AV → GS → Res} (h : RunOK seg maxL T call hd bk F A) (hb : ∀ k j, bk k = bk j) : RunOK seg maxL T call hd bk 0 A :=
  ⟨fun as G r hr => by obtain ⟨a, b, c⟩ := h.1 as G r hr; exact ⟨a, b, fun sc => by rw [hb 0 F]; exact c sc⟩, h.2.1, h.2.2⟩
def XTsb (cs : Nat → ClassId) (ad : Rf → Nat) (rest : va_W) : Nat × (Nat → Int32) → va_W → Prop := fun tx w =>
  ∃ (q cap : Nat) (f : Nat → Int32) (ml : Int32), w = (ad (0, 16), .inr (8, [.ref q, .int 0, .int ml, .int (Int32.ofNat tx.1)])) :: (q, .inl (cs 5, cap, .inl f)) :: rest ∧ tx.1 ≤ cap ∧ cap ≤ 100 ∧ sb_Fit f ∧ ∀ j, j < tx.1 → f j = tx.2 j ∧ 0 ≤ tx.2 j ∧ tx.2 j < 128
def sdM : Sd := fun _ _ _ _ _ => True
def sdX : Sd := fun _ cs ad _ XT => ∃ rest, XT = XTsb cs ad rest
