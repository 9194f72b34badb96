/-! THE START'S RELATION -/
/-- the fields and arrays at the start -/
def W0 : Nat → Int32 := fun k => if k = 3 then 60 else 0
theorem hN_0 (b : Nat) : hN W0 b = 0 := by
  unfold hN W0
  rw [if_neg (by omega)]; rfl
theorem HH_0 : HH W0 := fun b _ => by
  rw [hN_0]
  exact ⟨by decide, by unfold W0; rw [if_neg (by omega)]; rfl⟩
theorem AX_0 (j : Nat) : AX W0 j G0 := by
  refine ⟨fun b hb => ?_, fun k hk b hb p hp => ?_, rfl, rfl, rfl, rfl, fun k hk => ?_⟩
  · show (0 : Int32) = W0 (9 + b)
    unfold W0; rw [if_neg (by omega)]
  · rw [hN_0] at hp; exact absurd hp (Nat.not_lt_zero p)
  · match k, hk with
    | 0, _ => rfl
    | 1, _ => rfl
    | 2, _ => rfl
    | 3, _ => rfl
    | 4, _ => rfl
theorem AM_0 : AM W0 G0 := fun k hk => rfl
def S0 : SS := (0, W0, [], none, (0, fun _ => 0), (-1, -1), [])
theorem WF_0 : WF 0 W0 := by
  refine ⟨HH_0, ⟨0, 0, by decide, by decide, rfl, rfl⟩, ⟨60, by decide, by decide, rfl⟩, ?_, fun b p hb hp => ?_, ⟨0, by decide, rfl⟩, ⟨0, by decide, rfl⟩, 0, 0, by decide, by decide, rfl, rfl⟩
  · have hw : ∀ b, wB W0 b = 0 := fun b => by
      unfold wB
      rw [hN_0]; rfl
    have hm : mom W0 = 0 := sm_0 (fun b _ => by rw [hw, Int32.mul_zero])
    unfold byd
    rw [hm]; decide
  · rw [hN_0] at hp; exact absurd hp (Nat.not_lt_zero p)
theorem Rel_0 : Rel 0 G0 := by
  refine ⟨S0, ⟨by decide, WF_0, (fun row hr => by cases hr), (fun row hr => by cases hr), by decide, fun i hi => absurd hi (Nat.not_lt_zero i), Or.inl rfl, Or.inl rfl, by decide, fun i hi => absurd hi (Nat.not_lt_zero i)⟩, ⟨AX_0 0, ⟨rfl, by decide, 0, by decide, rfl, (fun i row hi => by cases hi)⟩, ⟨rfl, (fun row hr => by cases hr)⟩, ⟨rfl, fun i hi => absurd hi (Nat.not_lt_zero i)⟩, ⟨rfl, rfl⟩, rfl, fun i hi => absurd hi (Nat.not_lt_zero i)⟩, ⟨AM_0, ⟨rfl, by decide, 0, by decide, rfl, (fun i row hi => by cases hi)⟩, ⟨rfl, (fun row hr => by cases hr)⟩, ⟨rfl, fun i hi => absurd hi (Nat.not_lt_zero i)⟩, ⟨rfl, rfl⟩, rfl, fun i hi => absurd hi (Nat.not_lt_zero i)⟩⟩
