/-! RUNSCRIPT -/
theorem ps_len (C : Nat → Nat) (n : Nat) : ∀ f i, (psS C n f i).1 = true → i + 4 * (psS C n f i).2.2.length ≤ (psS C n f i).2.1
  | 0, i, h => absurd h Bool.false_ne_true
  | f + 1, i, h => by
    by_cases ok : (cmdS C i).2.1 = true
    · obtain ⟨ok7, okl⟩ := cmd_ok ok
      by_cases z : C (cmdS C i).2.2.1 = 59
      · have e : psS C n (f + 1) i = ((psS C n f ((cmdS C i).2.2.1 + 1)).1, (psS C n f ((cmdS C i).2.2.1 + 1)).2.1, cmdS C i :: (psS C n f ((cmdS C i).2.2.1 + 1)).2.2) := by
          rw [psS, if_pos ok, if_pos z]
        rw [e] at h ⊢
        have := ps_len C n f _ h
        show i + 4 * ((psS C n f ((cmdS C i).2.2.1 + 1)).2.2.length + 1) ≤ (psS C n f ((cmdS C i).2.2.1 + 1)).2.1
        omega
      · have e : psS C n (f + 1) i = (decide ((cmdS C i).2.2.1 = n), (cmdS C i).2.2.1, [cmdS C i]) := by
          rw [psS, if_pos ok, if_neg z]
        rw [e]
        show i + 4 * 1 ≤ (cmdS C i).2.2.1
        omega
    · rw [psS, if_neg ok] at h
      exact absurd h Bool.false_ne_true
theorem rn_lt : ∀ (rs : List (Nat × PR)) (W : Nat → Int32) (m q : Nat), (rnS W m rs).1 = some q → q < m + rs.length
  | [], W, m, q, h => by cases h
  | r :: rs, W, m, q, h => by
    rw [List.length_cons]
    by_cases z : fC W r.1 (A0 r) (A1 r) (A2 r) = 0
    · rw [rnS, if_pos z] at h
      have := rn_lt rs _ (m + 1) q h
      omega
    · rw [rnS, if_neg z] at h
      cases h; omega
def sNo (S : SS) : SS := (sN S, sW S, sH S, sV S, (0, sT S), (sE S, sF S), sO S)
section Sc
variable {kk t : Nat} {G : GS} {S : SS}
theorem AX_P {W : Nat → Int32} {j : Nat} {G G' : GS} (h : AX W j G) (f : FrP 0 G G') : AX W j G' := AX_eq h (fun k _ k9 => ⟨fun i => f.1 _ i (fun z => by have := congrArg Prod.snd z.1; simp at this; omega), fun i => f.2.1 _ i (fun z => by have := congrArg Prod.snd z.1; simp at this; omega) (fun z => by have := congrArg Prod.snd z.1; simp at this; omega)⟩)
theorem RelX_P {G' : GS} (h : RelX S G) (f : FrP 0 G G') : RelX S G' := by
  obtain ⟨h1, ⟨a1, a2, nx, a3, a4, a5⟩, ⟨b1, b2⟩, ⟨c1, c2⟩, ⟨d1, d2⟩, e1, e2⟩ := h
  have n1 : ∀ r : Rf, r ≠ (0, 12) → ∀ k, gi G' r k = gi G r k := fun r hr k => f.1 r k (fun z => hr z.1)
  have n2 : ∀ r : Rf, r ≠ (0, 14) → r ≠ (0, 15) → ∀ i, ga G' r i = ga G r i := fun r h h' i => f.2.1 r i (fun z => h z.1) (fun z => h' z.1)
  refine ⟨AX_P h1 f, ⟨(n1 _ (by decide) _).trans a1, a2, nx, a3, (n1 _ (by decide) _).trans a4, fun i row hi => AX_P (a5 i row hi) f⟩, ⟨(n1 _ (by decide) _).trans b1, fun row hr => AX_P (b2 row hr) f⟩, ⟨(f.1 _ _ (fun z => by omega)).trans c1, fun i hi => (n2 _ (by decide) (by decide) i).trans (c2 i hi)⟩, ⟨(n1 _ (by decide) _).trans d1, (n1 _ (by decide) _).trans d2⟩, ?_, fun i hi => ?_⟩
  · unfold gn; rw [f.2.2]; exact e1
  · unfold gt; rw [f.2.2]; exact e2 i hi
theorem RelX_N (h : RelX S G) : RelX (sNo S) (si G (0, 12) 3 0) := by
  obtain ⟨h1, ⟨a1, a2, nx, a3, a4, a5⟩, ⟨b1, b2⟩, ⟨c1, c2⟩, ⟨d1, d2⟩, e1, e2⟩ := h
  have n1 : ∀ r : Rf, r ≠ (0, 12) → ∀ k, gi (si G (0, 12) 3 0) r k = gi G r k := fun r hr k => by rw [gi_si, if_neg (fun z => hr z.1)]
  have qA : ∀ W k, AX W k G → AX W k (si G (0, 12) 3 0) := fun W k hA => AX_eq hA (fun m m1 m9 => ⟨fun i => n1 _ (fun z => by have := congrArg Prod.snd z; simp at this; omega) i, fun i => rfl⟩)
  exact ⟨qA _ _ h1, ⟨(n1 _ (by decide) _).trans a1, a2, nx, a3, (n1 _ (by decide) _).trans a4, fun i row hi => qA _ _ (a5 i row hi)⟩, ⟨(n1 _ (by decide) _).trans b1, fun row hr => qA _ _ (b2 row hr)⟩, ⟨by rw [gi_si, if_pos ⟨rfl, rfl⟩]; rfl, fun i hi => absurd hi (Nat.not_lt_zero i)⟩, ⟨(n1 _ (by decide) _).trans d1, (n1 _ (by decide) _).trans d2⟩, e1, e2⟩
theorem SW_N (h : SW t S) : SW (t + 1) (sNo S) := by
  obtain ⟨s1, s2, s3, s4, s5, s6, s7⟩ := h
  exact ⟨by show sN S + 0 ≤ t + 1; omega, s2, s3, s4, Nat.zero_le _, fun i hi => absurd hi (Nat.not_lt_zero i), s7⟩
theorem FrX_P {G' : GS} (f : FrP 0 G G') : FrX G G' := fun r hr => ⟨fun k => f.1 r k (fun z => by rw [z.1] at hr; exact absurd hr (by decide)), fun i => f.2.1 r i (fun z => by rw [z.1] at hr; exact absurd hr (by decide)) (fun z => by rw [z.1] at hr; exact absurd hr (by decide))⟩
theorem FrX_c {r0 : Rf} {k : Nat} {v : Int32} (h : r0.2 < 50) : FrX G (si G r0 k v) := fun r hr => ⟨fun f => by rw [gi_si, if_neg (fun z => by rw [z.1] at hr; omega)], fun i => rfl⟩
theorem TX_S (hS : SW t S) : TX (sn S) (sT S) := ⟨hS.2.2.2.2.1, hS.2.2.2.2.2.1⟩
/-- where the class's error places are set -/
theorem RelX_E {e f : Int32} (h : RelX S G) (k : Nat) (v : Int32) (hk : (k = 5 ∧ e = v ∧ f = sF S) ∨ (k = 6 ∧ f = v ∧ e = sE S)) : RelX (sN S, sW S, sH S, sV S, (sn S, sT S), (e, f), sO S) (si G (0, 0) k v) := by
  obtain ⟨h1, ⟨a1, a2, nx, a3, a4, a5⟩, ⟨b1, b2⟩, ⟨c1, c2⟩, ⟨d1, d2⟩, e1, e2⟩ := h
  have n1 : ∀ r : Rf, r ≠ (0, 0) → ∀ q, gi (si G (0, 0) k v) r q = gi G r q := fun r hr q => by rw [gi_si, if_neg (fun z => hr z.1)]
  have qA : ∀ W j, AX W j G → AX W j (si G (0, 0) k v) := fun W j hA => AX_eq hA (fun m m1 m9 => ⟨fun i => n1 _ (fun z => by have := congrArg Prod.snd z; simp at this; omega) i, fun i => rfl⟩)
  refine ⟨qA _ _ h1, ⟨(n1 _ (by decide) _).trans a1, a2, nx, a3, (n1 _ (by decide) _).trans a4, fun i row hi => qA _ _ (a5 i row hi)⟩, ⟨?_, fun row hr => qA _ _ (b2 row hr)⟩, ⟨(n1 _ (by decide) _).trans c1, c2⟩, ⟨?_, ?_⟩, e1, e2⟩
  · rw [gi_si, if_neg (fun z => by omega)]; exact b1
  · rcases hk with ⟨rfl, rfl, rfl⟩ | ⟨rfl, rfl, rfl⟩
    · rw [gi_si, if_pos ⟨rfl, rfl⟩]; rfl
    · rw [gi_si, if_neg (fun z => by omega)]; exact d1
  · rcases hk with ⟨rfl, rfl, rfl⟩ | ⟨rfl, rfl, rfl⟩
    · rw [gi_si, if_neg (fun z => by omega)]; exact d2
    · rw [gi_si, if_pos ⟨rfl, rfl⟩]; rfl
/-- the reference's side behind reading and running -/
theorem RelM_D {G' : GS} {W' : Nat → Int32} (h : RelM S G) (f : FrD G G') (hM : AM W' G') : RelM (sN S, W', sH S, sV S, (sn S, sT S), (sE S, sF S), sO S) G' := by
  obtain ⟨h1, ⟨a1, a2, g, a3, a4, a5⟩, ⟨b1, b2⟩, ⟨c1, c2⟩, ⟨d1, d2⟩, e1, e2⟩ := h
  have n1 : ∀ k, k ≠ 12 → k ≠ 16 → k ≠ 17 → gi G' (0, 50) k = gi G (0, 50) k := fun k h1 h2 h3 => f.1 _ _ (fun z => by omega)
  have n2 : ∀ r : Rf, r ≠ (0, 57) → r ≠ (0, 51) → ∀ i, ga G' r i = ga G r i := f.2.1
  exact ⟨hM, ⟨(n1 5 (by decide) (by decide) (by decide)).trans a1, a2, g, a3, (n1 6 (by decide) (by decide) (by decide)).trans a4, fun i row hi k hk => (n2 _ (by decide) (by decide) _).trans (a5 i row hi k hk)⟩, ⟨(n1 7 (by decide) (by decide) (by decide)).trans b1, fun row hr k hk => (n2 _ (by decide) (by decide) k).trans (b2 row hr k hk)⟩, ⟨(n1 11 (by decide) (by decide) (by decide)).trans c1, fun i hi => (n2 _ (by decide) (by decide) i).trans (c2 i hi)⟩, ⟨(n1 13 (by decide) (by decide) (by decide)).trans d1, (n1 14 (by decide) (by decide) (by decide)).trans d2⟩, (n1 9 (by decide) (by decide) (by decide)).trans e1, fun i hi => (n2 _ (by decide) (by decide) i).trans (e2 i hi)⟩
theorem RelM_N (h : RelM S G) : RelM (sNo S) (si G (0, 50) 11 0) := by
  obtain ⟨h1, ⟨a1, a2, g, a3, a4, a5⟩, ⟨b1, b2⟩, ⟨c1, c2⟩, ⟨d1, d2⟩, e1, e2⟩ := h
  have n1 : ∀ k, k ≠ 11 → gi (si G (0, 50) 11 0) (0, 50) k = gi G (0, 50) k := fun k h => by rw [gi_si, if_neg (fun z => h z.2)]
  exact ⟨h1, ⟨(n1 5 (by decide)).trans a1, a2, g, a3, (n1 6 (by decide)).trans a4, a5⟩, ⟨(n1 7 (by decide)).trans b1, b2⟩, ⟨by rw [gi_si, if_pos ⟨rfl, rfl⟩]; rfl, fun i hi => absurd hi (Nat.not_lt_zero i)⟩, ⟨(n1 13 (by decide)).trans d1, (n1 14 (by decide)).trans d2⟩, (n1 9 (by decide)).trans e1, e2⟩
theorem RelM_E {e f : Int32} (h : RelM S G) (k : Nat) (v : Int32) (hk : (k = 13 ∧ e = v ∧ f = sF S) ∨ (k = 14 ∧ f = v ∧ e = sE S)) : RelM (sN S, sW S, sH S, sV S, (sn S, sT S), (e, f), sO S) (si G (0, 50) k v) := by
  obtain ⟨h1, ⟨a1, a2, g, a3, a4, a5⟩, ⟨b1, b2⟩, ⟨c1, c2⟩, ⟨d1, d2⟩, e1, e2⟩ := h
  have n1 : ∀ q, q ≠ 13 → q ≠ 14 → gi (si G (0, 50) k v) (0, 50) q = gi G (0, 50) q := fun q h h' => by rw [gi_si, if_neg (fun z => by omega)]
  refine ⟨h1, ⟨(n1 5 (by decide) (by decide)).trans a1, a2, g, a3, (n1 6 (by decide) (by decide)).trans a4, a5⟩, ⟨(n1 7 (by decide) (by decide)).trans b1, b2⟩, ⟨(n1 11 (by decide) (by decide)).trans c1, c2⟩, ⟨?_, ?_⟩, (n1 9 (by decide) (by decide)).trans e1, e2⟩
  · rcases hk with ⟨rfl, rfl, rfl⟩ | ⟨rfl, rfl, rfl⟩
    · rw [gi_si, if_pos ⟨rfl, rfl⟩]; rfl
    · rw [gi_si, if_neg (fun z => by omega)]; exact d1
  · rcases hk with ⟨rfl, rfl, rfl⟩ | ⟨rfl, rfl, rfl⟩
    · rw [gi_si, if_neg (fun z => by omega)]; exact d2
    · rw [gi_si, if_pos ⟨rfl, rfl⟩]; rfl
end Sc
