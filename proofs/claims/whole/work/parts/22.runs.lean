set_option maxRecDepth 100000
theorem sh_Cargo_copyFrom (kk : Nat) : ∀ as G r, A_Cargo_copyFrom kk as G = some r → ∃ q tl, as = .inr q :: tl ∧ tl.length = 1 ∧ RC RX0 q := by
  intro as G r h
  unfold A_Cargo_copyFrom at h
  split at h
  · exact ⟨_, _, rfl, rfl, Or.inl ⟨2, 5, rfl, (RX0, TX0, 5), rfl, rfl⟩⟩
  · cases h
theorem sh_PB_isBay (kk : Nat) : ∀ as G r, A_PB_isBay kk as G = some r → as.length = 1 := by
  intro as G r h
  unfold A_PB_isBay at h
  split at h
  · rfl
  · cases h
theorem sh_Cargo_heightOf (kk : Nat) : ∀ as G r, A_Cargo_heightOf kk as G = some r → ∃ q tl, as = .inr q :: tl ∧ tl.length = 1 ∧ RC RX0 q := by
  intro as G r h
  unfold A_Cargo_heightOf at h
  split at h
  · exact ⟨_, _, rfl, rfl, Or.inl ⟨2, 5, rfl, (RX0, TX0, 5), rfl, rfl⟩⟩
  · cases h
theorem sh_Cargo_isTaken (kk : Nat) : ∀ as G r, A_Cargo_isTaken kk as G = some r → ∃ q tl, as = .inr q :: tl ∧ tl.length = 1 ∧ RC RX0 q := by
  intro as G r h
  unfold A_Cargo_isTaken at h
  split at h
  · exact ⟨_, _, rfl, rfl, Or.inl ⟨2, 5, rfl, (RX0, TX0, 5), rfl, rfl⟩⟩
  · cases h
theorem sh_Cargo_slotAt (kk : Nat) : ∀ as G r, A_Cargo_slotAt kk as G = some r → ∃ q tl, as = .inr q :: tl ∧ tl.length = 2 ∧ RC RX0 q := by
  intro as G r h
  unfold A_Cargo_slotAt at h
  split at h
  · exact ⟨_, _, rfl, rfl, Or.inl ⟨2, 5, rfl, (RX0, TX0, 5), rfl, rfl⟩⟩
  · cases h
theorem sh_Cargo_topSlot (kk : Nat) : ∀ as G r, A_Cargo_topSlot kk as G = some r → ∃ q tl, as = .inr q :: tl ∧ tl.length = 1 ∧ RC RX0 q := by
  intro as G r h
  unfold A_Cargo_topSlot at h
  split at h
  · exact ⟨_, _, rfl, rfl, Or.inl ⟨2, 5, rfl, (RX0, TX0, 5), rfl, rfl⟩⟩
  · cases h
theorem sh_Cargo_slotOf (kk : Nat) : ∀ as G r, A_Cargo_slotOf kk as G = some r → ∃ q tl, as = .inr q :: tl ∧ tl.length = 1 ∧ RC RX0 q := by
  intro as G r h
  unfold A_Cargo_slotOf at h
  split at h
  · exact ⟨_, _, rfl, rfl, Or.inl ⟨2, 5, rfl, (RX0, TX0, 5), rfl, rfl⟩⟩
  · cases h
theorem sh_PB_isSlot (kk : Nat) : ∀ as G r, A_PB_isSlot kk as G = some r → as.length = 1 := by
  intro as G r h
  unfold A_PB_isSlot at h
  split at h
  · rfl
  · cases h
theorem sh_Cargo_numberIn (kk : Nat) : ∀ as G r, A_Cargo_numberIn kk as G = some r → ∃ q tl, as = .inr q :: tl ∧ tl.length = 1 ∧ RC RX0 q := by
  intro as G r h
  unfold A_Cargo_numberIn at h
  split at h
  · exact ⟨_, _, rfl, rfl, Or.inl ⟨2, 5, rfl, (RX0, TX0, 5), rfl, rfl⟩⟩
  · cases h
theorem sh_Cargo_weightIn (kk : Nat) : ∀ as G r, A_Cargo_weightIn kk as G = some r → ∃ q tl, as = .inr q :: tl ∧ tl.length = 1 ∧ RC RX0 q := by
  intro as G r h
  unfold A_Cargo_weightIn at h
  split at h
  · exact ⟨_, _, rfl, rfl, Or.inl ⟨2, 5, rfl, (RX0, TX0, 5), rfl, rfl⟩⟩
  · cases h
theorem sh_Cargo_destinationIn (kk : Nat) : ∀ as G r, A_Cargo_destinationIn kk as G = some r → ∃ q tl, as = .inr q :: tl ∧ tl.length = 1 ∧ RC RX0 q := by
  intro as G r h
  unfold A_Cargo_destinationIn at h
  split at h
  · exact ⟨_, _, rfl, rfl, Or.inl ⟨2, 5, rfl, (RX0, TX0, 5), rfl, rfl⟩⟩
  · cases h
theorem sh_Cargo_dayIn (kk : Nat) : ∀ as G r, A_Cargo_dayIn kk as G = some r → ∃ q tl, as = .inr q :: tl ∧ tl.length = 1 ∧ RC RX0 q := by
  intro as G r h
  unfold A_Cargo_dayIn at h
  split at h
  · exact ⟨_, _, rfl, rfl, Or.inl ⟨2, 5, rfl, (RX0, TX0, 5), rfl, rfl⟩⟩
  · cases h
theorem sh_Cargo_countPillows (kk : Nat) : ∀ as G r, A_Cargo_countPillows kk as G = some r → ∃ q tl, as = .inr q :: tl ∧ tl.length = 0 ∧ RC RX0 q := by
  intro as G r h
  unfold A_Cargo_countPillows at h
  split at h
  · exact ⟨_, _, rfl, rfl, Or.inl ⟨2, 5, rfl, (RX0, TX0, 5), rfl, rfl⟩⟩
  · cases h
theorem sh_Cargo_weightOfAll (kk : Nat) : ∀ as G r, A_Cargo_weightOfAll kk as G = some r → ∃ q tl, as = .inr q :: tl ∧ tl.length = 0 ∧ RC RX0 q := by
  intro as G r h
  unfold A_Cargo_weightOfAll at h
  split at h
  · exact ⟨_, _, rfl, rfl, Or.inl ⟨2, 5, rfl, (RX0, TX0, 5), rfl, rfl⟩⟩
  · cases h
theorem sh_Cargo_weightForPort (kk : Nat) : ∀ as G r, A_Cargo_weightForPort kk as G = some r → ∃ q tl, as = .inr q :: tl ∧ tl.length = 1 ∧ RC RX0 q := by
  intro as G r h
  unfold A_Cargo_weightForPort at h
  split at h
  · exact ⟨_, _, rfl, rfl, Or.inl ⟨2, 5, rfl, (RX0, TX0, 5), rfl, rfl⟩⟩
  · cases h
theorem sh_Cargo_weightOfBay (kk : Nat) : ∀ as G r, A_Cargo_weightOfBay kk as G = some r → ∃ q tl, as = .inr q :: tl ∧ tl.length = 1 ∧ RC RX0 q := by
  intro as G r h
  unfold A_Cargo_weightOfBay at h
  split at h
  · exact ⟨_, _, rfl, rfl, Or.inl ⟨2, 5, rfl, (RX0, TX0, 5), rfl, rfl⟩⟩
  · cases h
theorem sh_PB_leverArm (kk : Nat) : ∀ as G r, A_PB_leverArm kk as G = some r → as.length = 1 := by
  intro as G r h
  unfold A_PB_leverArm at h
  split at h
  · rfl
  · cases h
theorem sh_Cargo_momentOfPillows (kk : Nat) : ∀ as G r, A_Cargo_momentOfPillows kk as G = some r → ∃ q tl, as = .inr q :: tl ∧ tl.length = 0 ∧ RC RX0 q := by
  intro as G r h
  unfold A_Cargo_momentOfPillows at h
  split at h
  · exact ⟨_, _, rfl, rfl, Or.inl ⟨2, 5, rfl, (RX0, TX0, 5), rfl, rfl⟩⟩
  · cases h
theorem sh_Cargo_momentOfBays (kk : Nat) : ∀ as G r, A_Cargo_momentOfBays kk as G = some r → ∃ q tl, as = .inr q :: tl ∧ tl.length = 0 ∧ RC RX0 q := by
  intro as G r h
  unfold A_Cargo_momentOfBays at h
  split at h
  · exact ⟨_, _, rfl, rfl, Or.inl ⟨2, 5, rfl, (RX0, TX0, 5), rfl, rfl⟩⟩
  · cases h
theorem sh_Cargo_put (kk : Nat) : ∀ as G r, A_Cargo_put kk as G = some r → ∃ q tl, as = .inr q :: tl ∧ tl.length = 5 ∧ RC RX0 q := by
  intro as G r h
  unfold A_Cargo_put at h
  split at h
  · exact ⟨_, _, rfl, rfl, Or.inl ⟨2, 5, rfl, (RX0, TX0, 5), rfl, rfl⟩⟩
  · cases h
theorem sh_Cargo_removeTop (kk : Nat) : ∀ as G r, A_Cargo_removeTop kk as G = some r → ∃ q tl, as = .inr q :: tl ∧ tl.length = 1 ∧ RC RX0 q := by
  intro as G r h
  unfold A_Cargo_removeTop at h
  split at h
  · exact ⟨_, _, rfl, rfl, Or.inl ⟨2, 5, rfl, (RX0, TX0, 5), rfl, rfl⟩⟩
  · cases h
theorem sh_History_placeAt (kk : Nat) : ∀ as G r, A_History_placeAt kk as G = some r → ∃ q tl, as = .inr q :: tl ∧ tl.length = 1 ∧ RC RX1 q := by
  intro as G r h
  unfold A_History_placeAt at h
  split at h
  · exact ⟨_, _, rfl, rfl, Or.inl ⟨5, 3, rfl, (RX1, TX1, 3), rfl, rfl⟩⟩
  · cases h
theorem sh_Voyage_copyFrom (kk : Nat) : ∀ as G r, A_Voyage_copyFrom kk as G = some r → ∃ q tl, as = .inr q :: tl ∧ tl.length = 1 ∧ RC RX5 q := by
  intro as G r h
  unfold A_Voyage_copyFrom at h
  split at h
  · exact ⟨_, _, rfl, rfl, Or.inl ⟨3, 3, rfl, (RX5, TX5, 3), rfl, rfl⟩⟩
  · cases h
theorem sh_Tally_copyFrom (kk : Nat) : ∀ as G r, A_Tally_copyFrom kk as G = some r → ∃ q tl, as = .inr q :: tl ∧ tl.length = 1 ∧ RC RX4 q := by
  intro as G r h
  unfold A_Tally_copyFrom at h
  split at h
  · exact ⟨_, _, rfl, rfl, Or.inl ⟨4, 5, rfl, (RX4, TX4, 5), rfl, rfl⟩⟩
  · cases h
theorem sh_State_copyFrom (kk : Nat) : ∀ as G r, A_State_copyFrom kk as G = some r → ∃ q tl, as = .inr q :: tl ∧ tl.length = 1 ∧ RC RX3 q := by
  intro as G r h
  unfold A_State_copyFrom at h
  split at h
  · exact ⟨_, _, rfl, rfl, Or.inl ⟨1, 4, rfl, (RX3, TX3, 4), rfl, rfl⟩⟩
  · cases h
theorem sh_History_draft (kk : Nat) : ∀ as G r, A_History_draft kk as G = some r → ∃ q tl, as = .inr q :: tl ∧ tl.length = 1 ∧ RC RX1 q := by
  intro as G r h
  unfold A_History_draft at h
  split at h
  · exact ⟨_, _, rfl, rfl, Or.inl ⟨5, 3, rfl, (RX1, TX1, 3), rfl, rfl⟩⟩
  · cases h
theorem sh_History_keepDraft (kk : Nat) : ∀ as G r, A_History_keepDraft kk as G = some r → ∃ q tl, as = .inr q :: tl ∧ tl.length = 0 ∧ RC RX1 q := by
  intro as G r h
  unfold A_History_keepDraft at h
  split at h
  · exact ⟨_, _, rfl, rfl, Or.inl ⟨5, 3, rfl, (RX1, TX1, 3), rfl, rfl⟩⟩
  · cases h
theorem sh_History_takeDraftBack (kk : Nat) : ∀ as G r, A_History_takeDraftBack kk as G = some r → ∃ q tl, as = .inr q :: tl ∧ tl.length = 1 ∧ RC RX1 q := by
  intro as G r h
  unfold A_History_takeDraftBack at h
  split at h
  · exact ⟨_, _, rfl, rfl, Or.inl ⟨5, 3, rfl, (RX1, TX1, 3), rfl, rfl⟩⟩
  · cases h
theorem sh_History_takeLatestBack (kk : Nat) : ∀ as G r, A_History_takeLatestBack kk as G = some r → ∃ q tl, as = .inr q :: tl ∧ tl.length = 1 ∧ RC RX1 q := by
  intro as G r h
  unfold A_History_takeLatestBack at h
  split at h
  · exact ⟨_, _, rfl, rfl, Or.inl ⟨5, 3, rfl, (RX1, TX1, 3), rfl, rfl⟩⟩
  · cases h
theorem sh_History_forget (kk : Nat) : ∀ as G r, A_History_forget kk as G = some r → ∃ q tl, as = .inr q :: tl ∧ tl.length = 0 ∧ RC RX1 q := by
  intro as G r h
  unfold A_History_forget at h
  split at h
  · exact ⟨_, _, rfl, rfl, Or.inl ⟨5, 3, rfl, (RX1, TX1, 3), rfl, rfl⟩⟩
  · cases h
theorem sh_Script_isFull (kk : Nat) : ∀ as G r, A_Script_isFull kk as G = some r → ∃ q tl, as = .inr q :: tl ∧ tl.length = 0 ∧ RC RX2 q := by
  intro as G r h
  unfold A_Script_isFull at h
  split at h
  · exact ⟨_, _, rfl, rfl, Or.inl ⟨6, 6, rfl, (RX2, TX2, 6), rfl, rfl⟩⟩
  · cases h
theorem sh_Script_append (kk : Nat) : ∀ as G r, A_Script_append kk as G = some r → ∃ q tl, as = .inr q :: tl ∧ tl.length = 1 ∧ RC RX2 q := by
  intro as G r h
  unfold A_Script_append at h
  split at h
  · exact ⟨_, _, rfl, rfl, Or.inl ⟨6, 6, rfl, (RX2, TX2, 6), rfl, rfl⟩⟩
  · cases h
theorem sh_Script_empty (kk : Nat) : ∀ as G r, A_Script_empty kk as G = some r → ∃ q tl, as = .inr q :: tl ∧ tl.length = 0 ∧ RC RX2 q := by
  intro as G r h
  unfold A_Script_empty at h
  split at h
  · exact ⟨_, _, rfl, rfl, Or.inl ⟨6, 6, rfl, (RX2, TX2, 6), rfl, rfl⟩⟩
  · cases h
theorem sh_Script_commandAt (kk : Nat) : ∀ as G r, A_Script_commandAt kk as G = some r → ∃ q tl, as = .inr q :: tl ∧ tl.length = 1 ∧ RC RX2 q := by
  intro as G r h
  unfold A_Script_commandAt at h
  split at h
  · exact ⟨_, _, rfl, rfl, Or.inl ⟨6, 6, rfl, (RX2, TX2, 6), rfl, rfl⟩⟩
  · cases h
theorem sh_Script_argumentAt (kk : Nat) : ∀ as G r, A_Script_argumentAt kk as G = some r → ∃ q tl, as = .inr q :: tl ∧ tl.length = 2 ∧ RC RX2 q := by
  intro as G r h
  unfold A_Script_argumentAt at h
  split at h
  · exact ⟨_, _, rfl, rfl, Or.inl ⟨6, 6, rfl, (RX2, TX2, 6), rfl, rfl⟩⟩
  · cases h
theorem sh_Script_keywordOf (kk : Nat) : ∀ as G r, A_Script_keywordOf kk as G = some r → as.length = 1 := by
  intro as G r h
  unfold A_Script_keywordOf at h
  split at h
  · rfl
  · cases h
theorem sh_Script_isNext (kk : Nat) : ∀ as G r, A_Script_isNext kk as G = some r → ∃ q tl, as = .inr q :: tl ∧ tl.length = 2 ∧ RC RX2 q := by
  intro as G r h
  unfold A_Script_isNext at h
  split at h
  · exact ⟨_, _, rfl, rfl, Or.inl ⟨6, 6, rfl, (RX2, TX2, 6), rfl, rfl⟩⟩
  · cases h
theorem sh_Script_countMatching (kk : Nat) : ∀ as G r, A_Script_countMatching kk as G = some r → ∃ q tl, as = .inr q :: tl ∧ tl.length = 1 ∧ RC RX2 q := by
  intro as G r h
  unfold A_Script_countMatching at h
  split at h
  · exact ⟨_, _, rfl, rfl, Or.inl ⟨6, 6, rfl, (RX2, TX2, 6), rfl, rfl⟩⟩
  · cases h
theorem sh_Script_readKeyword (kk : Nat) : ∀ as G r, A_Script_readKeyword kk as G = some r → ∃ q tl, as = .inr q :: tl ∧ tl.length = 0 ∧ RC RX2 q := by
  intro as G r h
  unfold A_Script_readKeyword at h
  split at h
  · exact ⟨_, _, rfl, rfl, Or.inl ⟨6, 6, rfl, (RX2, TX2, 6), rfl, rfl⟩⟩
  · cases h
theorem sh_Script_takeDigit (kk : Nat) : ∀ as G r, A_Script_takeDigit kk as G = some r → ∃ q tl, as = .inr q :: tl ∧ tl.length = 0 ∧ RC RX2 q := by
  intro as G r h
  unfold A_Script_takeDigit at h
  split at h
  · exact ⟨_, _, rfl, rfl, Or.inl ⟨6, 6, rfl, (RX2, TX2, 6), rfl, rfl⟩⟩
  · cases h
theorem sh_Script_setArgument (kk : Nat) : ∀ as G r, A_Script_setArgument kk as G = some r → ∃ q tl, as = .inr q :: tl ∧ tl.length = 2 ∧ RC RX2 q := by
  intro as G r h
  unfold A_Script_setArgument at h
  split at h
  · exact ⟨_, _, rfl, rfl, Or.inl ⟨6, 6, rfl, (RX2, TX2, 6), rfl, rfl⟩⟩
  · cases h
theorem sh_Script_readDigit (kk : Nat) : ∀ as G r, A_Script_readDigit kk as G = some r → ∃ q tl, as = .inr q :: tl ∧ tl.length = 1 ∧ RC RX2 q := by
  intro as G r h
  unfold A_Script_readDigit at h
  split at h
  · exact ⟨_, _, rfl, rfl, Or.inl ⟨6, 6, rfl, (RX2, TX2, 6), rfl, rfl⟩⟩
  · cases h
theorem sh_Script_accept (kk : Nat) : ∀ as G r, A_Script_accept kk as G = some r → ∃ q tl, as = .inr q :: tl ∧ tl.length = 1 ∧ RC RX2 q := by
  intro as G r h
  unfold A_Script_accept at h
  split at h
  · exact ⟨_, _, rfl, rfl, Or.inl ⟨6, 6, rfl, (RX2, TX2, 6), rfl, rfl⟩⟩
  · cases h
theorem sh_Script_readNumber (kk : Nat) : ∀ as G r, A_Script_readNumber kk as G = some r → ∃ q tl, as = .inr q :: tl ∧ tl.length = 1 ∧ RC RX2 q := by
  intro as G r h
  unfold A_Script_readNumber at h
  split at h
  · exact ⟨_, _, rfl, rfl, Or.inl ⟨6, 6, rfl, (RX2, TX2, 6), rfl, rfl⟩⟩
  · cases h
theorem sh_Script_readSignedNumber (kk : Nat) : ∀ as G r, A_Script_readSignedNumber kk as G = some r → ∃ q tl, as = .inr q :: tl ∧ tl.length = 1 ∧ RC RX2 q := by
  intro as G r h
  unfold A_Script_readSignedNumber at h
  split at h
  · exact ⟨_, _, rfl, rfl, Or.inl ⟨6, 6, rfl, (RX2, TX2, 6), rfl, rfl⟩⟩
  · cases h
theorem sh_Script_readCommand (kk : Nat) : ∀ as G r, A_Script_readCommand kk as G = some r → ∃ q tl, as = .inr q :: tl ∧ tl.length = 0 ∧ RC RX2 q := by
  intro as G r h
  unfold A_Script_readCommand at h
  split at h
  · exact ⟨_, _, rfl, rfl, Or.inl ⟨6, 6, rfl, (RX2, TX2, 6), rfl, rfl⟩⟩
  · cases h
theorem sh_Script_parse (kk : Nat) : ∀ as G r, A_Script_parse kk as G = some r → ∃ q tl, as = .inr q :: tl ∧ tl.length = 0 ∧ RC RX2 q := by
  intro as G r h
  unfold A_Script_parse at h
  split at h
  · exact ⟨_, _, rfl, rfl, Or.inl ⟨6, 6, rfl, (RX2, TX2, 6), rfl, rfl⟩⟩
  · cases h
theorem sh_State_isWithinLimit (kk : Nat) : ∀ as G r, A_State_isWithinLimit kk as G = some r → ∃ q tl, as = .inr q :: tl ∧ tl.length = 1 ∧ RC RX3 q := by
  intro as G r h
  unfold A_State_isWithinLimit at h
  split at h
  · exact ⟨_, _, rfl, rfl, Or.inl ⟨1, 4, rfl, (RX3, TX3, 4), rfl, rfl⟩⟩
  · cases h
theorem sh_Voyage_countLegsTo (kk : Nat) : ∀ as G r, A_Voyage_countLegsTo kk as G = some r → ∃ q tl, as = .inr q :: tl ∧ tl.length = 1 ∧ RC RX5 q := by
  intro as G r h
  unfold A_Voyage_countLegsTo at h
  split at h
  · exact ⟨_, _, rfl, rfl, Or.inl ⟨3, 3, rfl, (RX5, TX5, 3), rfl, rfl⟩⟩
  · cases h
theorem sh_State_legsIn (kk : Nat) : ∀ as G r, A_State_legsIn kk as G = some r → ∃ q tl, as = .inr q :: tl ∧ tl.length = 1 ∧ RC RX3 q := by
  intro as G r h
  unfold A_State_legsIn at h
  split at h
  · exact ⟨_, _, rfl, rfl, Or.inl ⟨1, 4, rfl, (RX3, TX3, 4), rfl, rfl⟩⟩
  · cases h
theorem sh_State_ageIn (kk : Nat) : ∀ as G r, A_State_ageIn kk as G = some r → ∃ q tl, as = .inr q :: tl ∧ tl.length = 1 ∧ RC RX3 q := by
  intro as G r h
  unfold A_State_ageIn at h
  split at h
  · exact ⟨_, _, rfl, rfl, Or.inl ⟨1, 4, rfl, (RX3, TX3, 4), rfl, rfl⟩⟩
  · cases h
theorem sh_PB_isWeight (kk : Nat) : ∀ as G r, A_PB_isWeight kk as G = some r → as.length = 1 := by
  intro as G r h
  unfold A_PB_isWeight at h
  split at h
  · rfl
  · cases h
theorem sh_PB_isPort (kk : Nat) : ∀ as G r, A_PB_isPort kk as G = some r → as.length = 1 := by
  intro as G r h
  unfold A_PB_isPort at h
  split at h
  · rfl
  · cases h
theorem sh_State_faultOfMoment (kk : Nat) : ∀ as G r, A_State_faultOfMoment kk as G = some r → ∃ q tl, as = .inr q :: tl ∧ tl.length = 1 ∧ RC RX3 q := by
  intro as G r h
  unfold A_State_faultOfMoment at h
  split at h
  · exact ⟨_, _, rfl, rfl, Or.inl ⟨1, 4, rfl, (RX3, TX3, 4), rfl, rfl⟩⟩
  · cases h
theorem sh_State_faultOfLoad (kk : Nat) : ∀ as G r, A_State_faultOfLoad kk as G = some r → ∃ q tl, as = .inr q :: tl ∧ tl.length = 3 ∧ RC RX3 q := by
  intro as G r h
  unfold A_State_faultOfLoad at h
  split at h
  · exact ⟨_, _, rfl, rfl, Or.inl ⟨1, 4, rfl, (RX3, TX3, 4), rfl, rfl⟩⟩
  · cases h
theorem sh_State_faultOfUnload (kk : Nat) : ∀ as G r, A_State_faultOfUnload kk as G = some r → ∃ q tl, as = .inr q :: tl ∧ tl.length = 1 ∧ RC RX3 q := by
  intro as G r h
  unfold A_State_faultOfUnload at h
  split at h
  · exact ⟨_, _, rfl, rfl, Or.inl ⟨1, 4, rfl, (RX3, TX3, 4), rfl, rfl⟩⟩
  · cases h
theorem sh_State_faultOfShift (kk : Nat) : ∀ as G r, A_State_faultOfShift kk as G = some r → ∃ q tl, as = .inr q :: tl ∧ tl.length = 2 ∧ RC RX3 q := by
  intro as G r h
  unfold A_State_faultOfShift at h
  split at h
  · exact ⟨_, _, rfl, rfl, Or.inl ⟨1, 4, rfl, (RX3, TX3, 4), rfl, rfl⟩⟩
  · cases h
theorem sh_State_faultOfLimit (kk : Nat) : ∀ as G r, A_State_faultOfLimit kk as G = some r → ∃ q tl, as = .inr q :: tl ∧ tl.length = 1 ∧ RC RX3 q := by
  intro as G r h
  unfold A_State_faultOfLimit at h
  split at h
  · exact ⟨_, _, rfl, rfl, Or.inl ⟨1, 4, rfl, (RX3, TX3, 4), rfl, rfl⟩⟩
  · cases h
theorem sh_State_faultOf (kk : Nat) : ∀ as G r, A_State_faultOf kk as G = some r → ∃ q tl, as = .inr q :: tl ∧ tl.length = 4 ∧ RC RX3 q := by
  intro as G r h
  unfold A_State_faultOf at h
  split at h
  · exact ⟨_, _, rfl, rfl, Or.inl ⟨1, 4, rfl, (RX3, TX3, 4), rfl, rfl⟩⟩
  · cases h
theorem sh_State_addPillow (kk : Nat) : ∀ as G r, A_State_addPillow kk as G = some r → ∃ q tl, as = .inr q :: tl ∧ tl.length = 3 ∧ RC RX3 q := by
  intro as G r h
  unfold A_State_addPillow at h
  split at h
  · exact ⟨_, _, rfl, rfl, Or.inl ⟨1, 4, rfl, (RX3, TX3, 4), rfl, rfl⟩⟩
  · cases h
theorem sh_State_deliverTop (kk : Nat) : ∀ as G r, A_State_deliverTop kk as G = some r → ∃ q tl, as = .inr q :: tl ∧ tl.length = 1 ∧ RC RX3 q := by
  intro as G r h
  unfold A_State_deliverTop at h
  split at h
  · exact ⟨_, _, rfl, rfl, Or.inl ⟨1, 4, rfl, (RX3, TX3, 4), rfl, rfl⟩⟩
  · cases h
theorem sh_State_moveTop (kk : Nat) : ∀ as G r, A_State_moveTop kk as G = some r → ∃ q tl, as = .inr q :: tl ∧ tl.length = 2 ∧ RC RX3 q := by
  intro as G r h
  unfold A_State_moveTop at h
  split at h
  · exact ⟨_, _, rfl, rfl, Or.inl ⟨1, 4, rfl, (RX3, TX3, 4), rfl, rfl⟩⟩
  · cases h
theorem sh_Voyage_portIn (kk : Nat) : ∀ as G r, A_Voyage_portIn kk as G = some r → ∃ q tl, as = .inr q :: tl ∧ tl.length = 1 ∧ RC RX5 q := by
  intro as G r h
  unfold A_Voyage_portIn at h
  split at h
  · exact ⟨_, _, rfl, rfl, Or.inl ⟨3, 3, rfl, (RX5, TX5, 3), rfl, rfl⟩⟩
  · cases h
theorem sh_Voyage_advance (kk : Nat) : ∀ as G r, A_Voyage_advance kk as G = some r → ∃ q tl, as = .inr q :: tl ∧ tl.length = 1 ∧ RC RX5 q := by
  intro as G r h
  unfold A_Voyage_advance at h
  split at h
  · exact ⟨_, _, rfl, rfl, Or.inl ⟨3, 3, rfl, (RX5, TX5, 3), rfl, rfl⟩⟩
  · cases h
theorem sh_Voyage_reverse (kk : Nat) : ∀ as G r, A_Voyage_reverse kk as G = some r → ∃ q tl, as = .inr q :: tl ∧ tl.length = 0 ∧ RC RX5 q := by
  intro as G r h
  unfold A_Voyage_reverse at h
  split at h
  · exact ⟨_, _, rfl, rfl, Or.inl ⟨3, 3, rfl, (RX5, TX5, 3), rfl, rfl⟩⟩
  · cases h
theorem sh_State_replaceLimit (kk : Nat) : ∀ as G r, A_State_replaceLimit kk as G = some r → ∃ q tl, as = .inr q :: tl ∧ tl.length = 1 ∧ RC RX3 q := by
  intro as G r h
  unfold A_State_replaceLimit at h
  split at h
  · exact ⟨_, _, rfl, rfl, Or.inl ⟨1, 4, rfl, (RX3, TX3, 4), rfl, rfl⟩⟩
  · cases h
theorem sh_State_practise (kk : Nat) : ∀ as G r, A_State_practise kk as G = some r → ∃ q tl, as = .inr q :: tl ∧ tl.length = 1 ∧ RC RX3 q := by
  intro as G r h
  unfold A_State_practise at h
  split at h
  · exact ⟨_, _, rfl, rfl, Or.inl ⟨1, 4, rfl, (RX3, TX3, 4), rfl, rfl⟩⟩
  · cases h
theorem sh_State_perform (kk : Nat) : ∀ as G r, A_State_perform kk as G = some r → ∃ q tl, as = .inr q :: tl ∧ tl.length = 4 ∧ RC RX3 q := by
  intro as G r h
  unfold A_State_perform at h
  split at h
  · exact ⟨_, _, rfl, rfl, Or.inl ⟨1, 4, rfl, (RX3, TX3, 4), rfl, rfl⟩⟩
  · cases h
theorem sh_PB_throwFault (kk : Nat) : ∀ as G r, A_PB_throwFault kk as G = some r → as.length = 1 := by
  intro as G r h
  unfold A_PB_throwFault at h
  split at h
  · rfl
  · cases h
theorem sh_PB_change (kk : Nat) : ∀ as G r, A_PB_change kk as G = some r → ∃ q tl, as = .inr q :: tl ∧ tl.length = 4 ∧ RC RX6 q := by
  intro as G r h
  unfold A_PB_change at h
  split at h
  · exact ⟨_, _, rfl, rfl, Or.inl ⟨0, 9, rfl, (RX6, TX6, 9), rfl, rfl⟩⟩
  · cases h
theorem sh_PB_load (kk : Nat) : ∀ as G r, A_PB_load kk as G = some r → ∃ q tl, as = .inr q :: tl ∧ tl.length = 3 ∧ RC RX6 q := by
  intro as G r h
  unfold A_PB_load at h
  split at h
  · exact ⟨_, _, rfl, rfl, Or.inl ⟨0, 9, rfl, (RX6, TX6, 9), rfl, rfl⟩⟩
  · cases h
theorem sh_PB_unload (kk : Nat) : ∀ as G r, A_PB_unload kk as G = some r → ∃ q tl, as = .inr q :: tl ∧ tl.length = 1 ∧ RC RX6 q := by
  intro as G r h
  unfold A_PB_unload at h
  split at h
  · exact ⟨_, _, rfl, rfl, Or.inl ⟨0, 9, rfl, (RX6, TX6, 9), rfl, rfl⟩⟩
  · cases h
theorem sh_PB_shift (kk : Nat) : ∀ as G r, A_PB_shift kk as G = some r → ∃ q tl, as = .inr q :: tl ∧ tl.length = 2 ∧ RC RX6 q := by
  intro as G r h
  unfold A_PB_shift at h
  split at h
  · exact ⟨_, _, rfl, rfl, Or.inl ⟨0, 9, rfl, (RX6, TX6, 9), rfl, rfl⟩⟩
  · cases h
theorem sh_PB_sail (kk : Nat) : ∀ as G r, A_PB_sail kk as G = some r → ∃ q tl, as = .inr q :: tl ∧ tl.length = 1 ∧ RC RX6 q := by
  intro as G r h
  unfold A_PB_sail at h
  split at h
  · exact ⟨_, _, rfl, rfl, Or.inl ⟨0, 9, rfl, (RX6, TX6, 9), rfl, rfl⟩⟩
  · cases h
theorem sh_PB_turn (kk : Nat) : ∀ as G r, A_PB_turn kk as G = some r → ∃ q tl, as = .inr q :: tl ∧ tl.length = 0 ∧ RC RX6 q := by
  intro as G r h
  unfold A_PB_turn at h
  split at h
  · exact ⟨_, _, rfl, rfl, Or.inl ⟨0, 9, rfl, (RX6, TX6, 9), rfl, rfl⟩⟩
  · cases h
theorem sh_PB_setLimit (kk : Nat) : ∀ as G r, A_PB_setLimit kk as G = some r → ∃ q tl, as = .inr q :: tl ∧ tl.length = 1 ∧ RC RX6 q := by
  intro as G r h
  unfold A_PB_setLimit at h
  split at h
  · exact ⟨_, _, rfl, rfl, Or.inl ⟨0, 9, rfl, (RX6, TX6, 9), rfl, rfl⟩⟩
  · cases h
theorem sh_PB_drill (kk : Nat) : ∀ as G r, A_PB_drill kk as G = some r → ∃ q tl, as = .inr q :: tl ∧ tl.length = 1 ∧ RC RX6 q := by
  intro as G r h
  unfold A_PB_drill at h
  split at h
  · exact ⟨_, _, rfl, rfl, Or.inl ⟨0, 9, rfl, (RX6, TX6, 9), rfl, rfl⟩⟩
  · cases h
theorem sh_PB_pillowCount (kk : Nat) : ∀ as G r, A_PB_pillowCount kk as G = some r → ∃ q tl, as = .inr q :: tl ∧ tl.length = 0 ∧ RC RX6 q := by
  intro as G r h
  unfold A_PB_pillowCount at h
  split at h
  · exact ⟨_, _, rfl, rfl, Or.inl ⟨0, 9, rfl, (RX6, TX6, 9), rfl, rfl⟩⟩
  · cases h
theorem sh_PB_requireBay (kk : Nat) : ∀ as G r, A_PB_requireBay kk as G = some r → as.length = 1 := by
  intro as G r h
  unfold A_PB_requireBay at h
  split at h
  · rfl
  · cases h
theorem sh_PB_stackHeight (kk : Nat) : ∀ as G r, A_PB_stackHeight kk as G = some r → ∃ q tl, as = .inr q :: tl ∧ tl.length = 1 ∧ RC RX6 q := by
  intro as G r h
  unfold A_PB_stackHeight at h
  split at h
  · exact ⟨_, _, rfl, rfl, Or.inl ⟨0, 9, rfl, (RX6, TX6, 9), rfl, rfl⟩⟩
  · cases h
theorem sh_PB_requireSlot (kk : Nat) : ∀ as G r, A_PB_requireSlot kk as G = some r → as.length = 1 := by
  intro as G r h
  unfold A_PB_requireSlot at h
  split at h
  · rfl
  · cases h
theorem sh_PB_pillowAt (kk : Nat) : ∀ as G r, A_PB_pillowAt kk as G = some r → ∃ q tl, as = .inr q :: tl ∧ tl.length = 2 ∧ RC RX6 q := by
  intro as G r h
  unfold A_PB_pillowAt at h
  split at h
  · exact ⟨_, _, rfl, rfl, Or.inl ⟨0, 9, rfl, (RX6, TX6, 9), rfl, rfl⟩⟩
  · cases h
theorem sh_PB_requirePillow (kk : Nat) : ∀ as G r, A_PB_requirePillow kk as G = some r → ∃ q tl, as = .inr q :: tl ∧ tl.length = 1 ∧ RC RX6 q := by
  intro as G r h
  unfold A_PB_requirePillow at h
  split at h
  · exact ⟨_, _, rfl, rfl, Or.inl ⟨0, 9, rfl, (RX6, TX6, 9), rfl, rfl⟩⟩
  · cases h
theorem sh_PB_weightOf (kk : Nat) : ∀ as G r, A_PB_weightOf kk as G = some r → ∃ q tl, as = .inr q :: tl ∧ tl.length = 1 ∧ RC RX6 q := by
  intro as G r h
  unfold A_PB_weightOf at h
  split at h
  · exact ⟨_, _, rfl, rfl, Or.inl ⟨0, 9, rfl, (RX6, TX6, 9), rfl, rfl⟩⟩
  · cases h
theorem sh_PB_destinationOf (kk : Nat) : ∀ as G r, A_PB_destinationOf kk as G = some r → ∃ q tl, as = .inr q :: tl ∧ tl.length = 1 ∧ RC RX6 q := by
  intro as G r h
  unfold A_PB_destinationOf at h
  split at h
  · exact ⟨_, _, rfl, rfl, Or.inl ⟨0, 9, rfl, (RX6, TX6, 9), rfl, rfl⟩⟩
  · cases h
theorem sh_PB_bayOf (kk : Nat) : ∀ as G r, A_PB_bayOf kk as G = some r → ∃ q tl, as = .inr q :: tl ∧ tl.length = 1 ∧ RC RX6 q := by
  intro as G r h
  unfold A_PB_bayOf at h
  split at h
  · exact ⟨_, _, rfl, rfl, Or.inl ⟨0, 9, rfl, (RX6, TX6, 9), rfl, rfl⟩⟩
  · cases h
theorem sh_PB_positionOf (kk : Nat) : ∀ as G r, A_PB_positionOf kk as G = some r → ∃ q tl, as = .inr q :: tl ∧ tl.length = 1 ∧ RC RX6 q := by
  intro as G r h
  unfold A_PB_positionOf at h
  split at h
  · exact ⟨_, _, rfl, rfl, Or.inl ⟨0, 9, rfl, (RX6, TX6, 9), rfl, rfl⟩⟩
  · cases h
theorem sh_PB_ageOf (kk : Nat) : ∀ as G r, A_PB_ageOf kk as G = some r → ∃ q tl, as = .inr q :: tl ∧ tl.length = 1 ∧ RC RX6 q := by
  intro as G r h
  unfold A_PB_ageOf at h
  split at h
  · exact ⟨_, _, rfl, rfl, Or.inl ⟨0, 9, rfl, (RX6, TX6, 9), rfl, rfl⟩⟩
  · cases h
theorem sh_PB_isOlder (kk : Nat) : ∀ as G r, A_PB_isOlder kk as G = some r → ∃ q tl, as = .inr q :: tl ∧ tl.length = 2 ∧ RC RX6 q := by
  intro as G r h
  unfold A_PB_isOlder at h
  split at h
  · exact ⟨_, _, rfl, rfl, Or.inl ⟨0, 9, rfl, (RX6, TX6, 9), rfl, rfl⟩⟩
  · cases h
theorem sh_PB_oldestSlotIn (kk : Nat) : ∀ as G r, A_PB_oldestSlotIn kk as G = some r → ∃ q tl, as = .inr q :: tl ∧ tl.length = 1 ∧ RC RX6 q := by
  intro as G r h
  unfold A_PB_oldestSlotIn at h
  split at h
  · exact ⟨_, _, rfl, rfl, Or.inl ⟨0, 9, rfl, (RX6, TX6, 9), rfl, rfl⟩⟩
  · cases h
theorem sh_PB_oldestIn (kk : Nat) : ∀ as G r, A_PB_oldestIn kk as G = some r → ∃ q tl, as = .inr q :: tl ∧ tl.length = 1 ∧ RC RX6 q := by
  intro as G r h
  unfold A_PB_oldestIn at h
  split at h
  · exact ⟨_, _, rfl, rfl, Or.inl ⟨0, 9, rfl, (RX6, TX6, 9), rfl, rfl⟩⟩
  · cases h
theorem sh_PB_moment (kk : Nat) : ∀ as G r, A_PB_moment kk as G = some r → ∃ q tl, as = .inr q :: tl ∧ tl.length = 0 ∧ RC RX6 q := by
  intro as G r h
  unfold A_PB_moment at h
  split at h
  · exact ⟨_, _, rfl, rfl, Or.inl ⟨0, 9, rfl, (RX6, TX6, 9), rfl, rfl⟩⟩
  · cases h
theorem sh_PB_momentByBays (kk : Nat) : ∀ as G r, A_PB_momentByBays kk as G = some r → ∃ q tl, as = .inr q :: tl ∧ tl.length = 0 ∧ RC RX6 q := by
  intro as G r h
  unfold A_PB_momentByBays at h
  split at h
  · exact ⟨_, _, rfl, rfl, Or.inl ⟨0, 9, rfl, (RX6, TX6, 9), rfl, rfl⟩⟩
  · cases h
theorem sh_PB_totalWeight (kk : Nat) : ∀ as G r, A_PB_totalWeight kk as G = some r → ∃ q tl, as = .inr q :: tl ∧ tl.length = 0 ∧ RC RX6 q := by
  intro as G r h
  unfold A_PB_totalWeight at h
  split at h
  · exact ⟨_, _, rfl, rfl, Or.inl ⟨0, 9, rfl, (RX6, TX6, 9), rfl, rfl⟩⟩
  · cases h
theorem sh_PB_requirePort (kk : Nat) : ∀ as G r, A_PB_requirePort kk as G = some r → as.length = 1 := by
  intro as G r h
  unfold A_PB_requirePort at h
  split at h
  · rfl
  · cases h
theorem sh_PB_weightFor (kk : Nat) : ∀ as G r, A_PB_weightFor kk as G = some r → ∃ q tl, as = .inr q :: tl ∧ tl.length = 1 ∧ RC RX6 q := by
  intro as G r h
  unfold A_PB_weightFor at h
  split at h
  · exact ⟨_, _, rfl, rfl, Or.inl ⟨0, 9, rfl, (RX6, TX6, 9), rfl, rfl⟩⟩
  · cases h
theorem sh_PB_limit (kk : Nat) : ∀ as G r, A_PB_limit kk as G = some r → ∃ q tl, as = .inr q :: tl ∧ tl.length = 0 ∧ RC RX6 q := by
  intro as G r h
  unfold A_PB_limit at h
  split at h
  · exact ⟨_, _, rfl, rfl, Or.inl ⟨0, 9, rfl, (RX6, TX6, 9), rfl, rfl⟩⟩
  · cases h
theorem sh_PB_listAngle (kk : Nat) : ∀ as G r, A_PB_listAngle kk as G = some r → ∃ q tl, as = .inr q :: tl ∧ tl.length = 0 ∧ RC RX6 q := by
  intro as G r h
  unfold A_PB_listAngle at h
  split at h
  · exact ⟨_, _, rfl, rfl, Or.inl ⟨0, 9, rfl, (RX6, TX6, 9), rfl, rfl⟩⟩
  · cases h
theorem sh_PB_greatestPush (kk : Nat) : ∀ as G r, A_PB_greatestPush kk as G = some r → ∃ q tl, as = .inr q :: tl ∧ tl.length = 0 ∧ RC RX6 q := by
  intro as G r h
  unfold A_PB_greatestPush at h
  split at h
  · exact ⟨_, _, rfl, rfl, Or.inl ⟨0, 9, rfl, (RX6, TX6, 9), rfl, rfl⟩⟩
  · cases h
theorem sh_PB_isMoreLevel (kk : Nat) : ∀ as G r, A_PB_isMoreLevel kk as G = some r → ∃ q tl, as = .inr q :: tl ∧ tl.length = 3 ∧ RC RX6 q := by
  intro as G r h
  unfold A_PB_isMoreLevel at h
  split at h
  · exact ⟨_, _, rfl, rfl, Or.inl ⟨0, 9, rfl, (RX6, TX6, 9), rfl, rfl⟩⟩
  · cases h
theorem sh_PB_mostLevelBay (kk : Nat) : ∀ as G r, A_PB_mostLevelBay kk as G = some r → ∃ q tl, as = .inr q :: tl ∧ tl.length = 1 ∧ RC RX6 q := by
  intro as G r h
  unfold A_PB_mostLevelBay at h
  split at h
  · exact ⟨_, _, rfl, rfl, Or.inl ⟨0, 9, rfl, (RX6, TX6, 9), rfl, rfl⟩⟩
  · cases h
theorem sh_PB_levelingBay (kk : Nat) : ∀ as G r, A_PB_levelingBay kk as G = some r → ∃ q tl, as = .inr q :: tl ∧ tl.length = 1 ∧ RC RX6 q := by
  intro as G r h
  unfold A_PB_levelingBay at h
  split at h
  · exact ⟨_, _, rfl, rfl, Or.inl ⟨0, 9, rfl, (RX6, TX6, 9), rfl, rfl⟩⟩
  · cases h
theorem sh_PB_port (kk : Nat) : ∀ as G r, A_PB_port kk as G = some r → ∃ q tl, as = .inr q :: tl ∧ tl.length = 0 ∧ RC RX6 q := by
  intro as G r h
  unfold A_PB_port at h
  split at h
  · exact ⟨_, _, rfl, rfl, Or.inl ⟨0, 9, rfl, (RX6, TX6, 9), rfl, rfl⟩⟩
  · cases h
theorem sh_PB_day (kk : Nat) : ∀ as G r, A_PB_day kk as G = some r → ∃ q tl, as = .inr q :: tl ∧ tl.length = 0 ∧ RC RX6 q := by
  intro as G r h
  unfold A_PB_day at h
  split at h
  · exact ⟨_, _, rfl, rfl, Or.inl ⟨0, 9, rfl, (RX6, TX6, 9), rfl, rfl⟩⟩
  · cases h
theorem sh_PB_isAscending (kk : Nat) : ∀ as G r, A_PB_isAscending kk as G = some r → ∃ q tl, as = .inr q :: tl ∧ tl.length = 0 ∧ RC RX6 q := by
  intro as G r h
  unfold A_PB_isAscending at h
  split at h
  · exact ⟨_, _, rfl, rfl, Or.inl ⟨0, 9, rfl, (RX6, TX6, 9), rfl, rfl⟩⟩
  · cases h
theorem sh_PB_legsTo (kk : Nat) : ∀ as G r, A_PB_legsTo kk as G = some r → ∃ q tl, as = .inr q :: tl ∧ tl.length = 1 ∧ RC RX6 q := by
  intro as G r h
  unfold A_PB_legsTo at h
  split at h
  · exact ⟨_, _, rfl, rfl, Or.inl ⟨0, 9, rfl, (RX6, TX6, 9), rfl, rfl⟩⟩
  · cases h
theorem sh_PB_portAfter (kk : Nat) : ∀ as G r, A_PB_portAfter kk as G = some r → ∃ q tl, as = .inr q :: tl ∧ tl.length = 1 ∧ RC RX6 q := by
  intro as G r h
  unfold A_PB_portAfter at h
  split at h
  · exact ⟨_, _, rfl, rfl, Or.inl ⟨0, 9, rfl, (RX6, TX6, 9), rfl, rfl⟩⟩
  · cases h
theorem sh_PB_heaviestPort (kk : Nat) : ∀ as G r, A_PB_heaviestPort kk as G = some r → ∃ q tl, as = .inr q :: tl ∧ tl.length = 0 ∧ RC RX6 q := by
  intro as G r h
  unfold A_PB_heaviestPort at h
  split at h
  · exact ⟨_, _, rfl, rfl, Or.inl ⟨0, 9, rfl, (RX6, TX6, 9), rfl, rfl⟩⟩
  · cases h
theorem sh_PB_countInTheWayOf (kk : Nat) : ∀ as G r, A_PB_countInTheWayOf kk as G = some r → ∃ q tl, as = .inr q :: tl ∧ tl.length = 1 ∧ RC RX6 q := by
  intro as G r h
  unfold A_PB_countInTheWayOf at h
  split at h
  · exact ⟨_, _, rfl, rfl, Or.inl ⟨0, 9, rfl, (RX6, TX6, 9), rfl, rfl⟩⟩
  · cases h
theorem sh_PB_pillowsInTheWay (kk : Nat) : ∀ as G r, A_PB_pillowsInTheWay kk as G = some r → ∃ q tl, as = .inr q :: tl ∧ tl.length = 1 ∧ RC RX6 q := by
  intro as G r h
  unfold A_PB_pillowsInTheWay at h
  split at h
  · exact ⟨_, _, rfl, rfl, Or.inl ⟨0, 9, rfl, (RX6, TX6, 9), rfl, rfl⟩⟩
  · cases h
theorem sh_PB_countPairs (kk : Nat) : ∀ as G r, A_PB_countPairs kk as G = some r → ∃ q tl, as = .inr q :: tl ∧ tl.length = 0 ∧ RC RX6 q := by
  intro as G r h
  unfold A_PB_countPairs at h
  split at h
  · exact ⟨_, _, rfl, rfl, Or.inl ⟨0, 9, rfl, (RX6, TX6, 9), rfl, rfl⟩⟩
  · cases h
theorem sh_PB_pairsInTheWay (kk : Nat) : ∀ as G r, A_PB_pairsInTheWay kk as G = some r → ∃ q tl, as = .inr q :: tl ∧ tl.length = 0 ∧ RC RX6 q := by
  intro as G r h
  unfold A_PB_pairsInTheWay at h
  split at h
  · exact ⟨_, _, rfl, rfl, Or.inl ⟨0, 9, rfl, (RX6, TX6, 9), rfl, rfl⟩⟩
  · cases h
theorem sh_PB_seePillow (kk : Nat) : ∀ as G r, A_PB_seePillow kk as G = some r → ∃ q tl, as = .inr q :: tl ∧ tl.length = 1 ∧ RC RX6 q := by
  intro as G r h
  unfold A_PB_seePillow at h
  split at h
  · exact ⟨_, _, rfl, rfl, Or.inl ⟨0, 9, rfl, (RX6, TX6, 9), rfl, rfl⟩⟩
  · cases h
theorem sh_PB_countPairsInStack (kk : Nat) : ∀ as G r, A_PB_countPairsInStack kk as G = some r → ∃ q tl, as = .inr q :: tl ∧ tl.length = 1 ∧ RC RX6 q := by
  intro as G r h
  unfold A_PB_countPairsInStack at h
  split at h
  · exact ⟨_, _, rfl, rfl, Or.inl ⟨0, 9, rfl, (RX6, TX6, 9), rfl, rfl⟩⟩
  · cases h
theorem sh_PB_countPairsByStacks (kk : Nat) : ∀ as G r, A_PB_countPairsByStacks kk as G = some r → ∃ q tl, as = .inr q :: tl ∧ tl.length = 0 ∧ RC RX6 q := by
  intro as G r h
  unfold A_PB_countPairsByStacks at h
  split at h
  · exact ⟨_, _, rfl, rfl, Or.inl ⟨0, 9, rfl, (RX6, TX6, 9), rfl, rfl⟩⟩
  · cases h
theorem sh_PB_pairsInTheWayByStacks (kk : Nat) : ∀ as G r, A_PB_pairsInTheWayByStacks kk as G = some r → ∃ q tl, as = .inr q :: tl ∧ tl.length = 0 ∧ RC RX6 q := by
  intro as G r h
  unfold A_PB_pairsInTheWayByStacks at h
  split at h
  · exact ⟨_, _, rfl, rfl, Or.inl ⟨0, 9, rfl, (RX6, TX6, 9), rfl, rfl⟩⟩
  · cases h
theorem sh_PB_unloadableCount (kk : Nat) : ∀ as G r, A_PB_unloadableCount kk as G = some r → ∃ q tl, as = .inr q :: tl ∧ tl.length = 0 ∧ RC RX6 q := by
  intro as G r h
  unfold A_PB_unloadableCount at h
  split at h
  · exact ⟨_, _, rfl, rfl, Or.inl ⟨0, 9, rfl, (RX6, TX6, 9), rfl, rfl⟩⟩
  · cases h
theorem sh_PB_possibleShifts (kk : Nat) : ∀ as G r, A_PB_possibleShifts kk as G = some r → ∃ q tl, as = .inr q :: tl ∧ tl.length = 0 ∧ RC RX6 q := by
  intro as G r h
  unfold A_PB_possibleShifts at h
  split at h
  · exact ⟨_, _, rfl, rfl, Or.inl ⟨0, 9, rfl, (RX6, TX6, 9), rfl, rfl⟩⟩
  · cases h
theorem sh_PB_hasEarlierTurn (kk : Nat) : ∀ as G r, A_PB_hasEarlierTurn kk as G = some r → ∃ q tl, as = .inr q :: tl ∧ tl.length = 2 ∧ RC RX6 q := by
  intro as G r h
  unfold A_PB_hasEarlierTurn at h
  split at h
  · exact ⟨_, _, rfl, rfl, Or.inl ⟨0, 9, rfl, (RX6, TX6, 9), rfl, rfl⟩⟩
  · cases h
theorem sh_PB_countEarlierTurns (kk : Nat) : ∀ as G r, A_PB_countEarlierTurns kk as G = some r → ∃ q tl, as = .inr q :: tl ∧ tl.length = 1 ∧ RC RX6 q := by
  intro as G r h
  unfold A_PB_countEarlierTurns at h
  split at h
  · exact ⟨_, _, rfl, rfl, Or.inl ⟨0, 9, rfl, (RX6, TX6, 9), rfl, rfl⟩⟩
  · cases h
theorem sh_PB_pillowByTurn (kk : Nat) : ∀ as G r, A_PB_pillowByTurn kk as G = some r → ∃ q tl, as = .inr q :: tl ∧ tl.length = 1 ∧ RC RX6 q := by
  intro as G r h
  unfold A_PB_pillowByTurn at h
  split at h
  · exact ⟨_, _, rfl, rfl, Or.inl ⟨0, 9, rfl, (RX6, TX6, 9), rfl, rfl⟩⟩
  · cases h
theorem sh_PB_countHeavierBays (kk : Nat) : ∀ as G r, A_PB_countHeavierBays kk as G = some r → ∃ q tl, as = .inr q :: tl ∧ tl.length = 1 ∧ RC RX6 q := by
  intro as G r h
  unfold A_PB_countHeavierBays at h
  split at h
  · exact ⟨_, _, rfl, rfl, Or.inl ⟨0, 9, rfl, (RX6, TX6, 9), rfl, rfl⟩⟩
  · cases h
theorem sh_PB_bayByWeight (kk : Nat) : ∀ as G r, A_PB_bayByWeight kk as G = some r → ∃ q tl, as = .inr q :: tl ∧ tl.length = 1 ∧ RC RX6 q := by
  intro as G r h
  unfold A_PB_bayByWeight at h
  split at h
  · exact ⟨_, _, rfl, rfl, Or.inl ⟨0, 9, rfl, (RX6, TX6, 9), rfl, rfl⟩⟩
  · cases h
theorem sh_PB_loadedTotal (kk : Nat) : ∀ as G r, A_PB_loadedTotal kk as G = some r → ∃ q tl, as = .inr q :: tl ∧ tl.length = 0 ∧ RC RX6 q := by
  intro as G r h
  unfold A_PB_loadedTotal at h
  split at h
  · exact ⟨_, _, rfl, rfl, Or.inl ⟨0, 9, rfl, (RX6, TX6, 9), rfl, rfl⟩⟩
  · cases h
theorem sh_PB_deliveredTotal (kk : Nat) : ∀ as G r, A_PB_deliveredTotal kk as G = some r → ∃ q tl, as = .inr q :: tl ∧ tl.length = 0 ∧ RC RX6 q := by
  intro as G r h
  unfold A_PB_deliveredTotal at h
  split at h
  · exact ⟨_, _, rfl, rfl, Or.inl ⟨0, 9, rfl, (RX6, TX6, 9), rfl, rfl⟩⟩
  · cases h
theorem sh_PB_deliveredWeight (kk : Nat) : ∀ as G r, A_PB_deliveredWeight kk as G = some r → ∃ q tl, as = .inr q :: tl ∧ tl.length = 0 ∧ RC RX6 q := by
  intro as G r h
  unfold A_PB_deliveredWeight at h
  split at h
  · exact ⟨_, _, rfl, rfl, Or.inl ⟨0, 9, rfl, (RX6, TX6, 9), rfl, rfl⟩⟩
  · cases h
theorem sh_PB_drillTotal (kk : Nat) : ∀ as G r, A_PB_drillTotal kk as G = some r → ∃ q tl, as = .inr q :: tl ∧ tl.length = 0 ∧ RC RX6 q := by
  intro as G r h
  unfold A_PB_drillTotal at h
  split at h
  · exact ⟨_, _, rfl, rfl, Or.inl ⟨0, 9, rfl, (RX6, TX6, 9), rfl, rfl⟩⟩
  · cases h
theorem sh_PB_capsizedTotal (kk : Nat) : ∀ as G r, A_PB_capsizedTotal kk as G = some r → ∃ q tl, as = .inr q :: tl ∧ tl.length = 0 ∧ RC RX6 q := by
  intro as G r h
  unfold A_PB_capsizedTotal at h
  split at h
  · exact ⟨_, _, rfl, rfl, Or.inl ⟨0, 9, rfl, (RX6, TX6, 9), rfl, rfl⟩⟩
  · cases h
theorem sh_PB_sumOfAges (kk : Nat) : ∀ as G r, A_PB_sumOfAges kk as G = some r → ∃ q tl, as = .inr q :: tl ∧ tl.length = 0 ∧ RC RX6 q := by
  intro as G r h
  unfold A_PB_sumOfAges at h
  split at h
  · exact ⟨_, _, rfl, rfl, Or.inl ⟨0, 9, rfl, (RX6, TX6, 9), rfl, rfl⟩⟩
  · cases h
theorem sh_PB_meanAge (kk : Nat) : ∀ as G r, A_PB_meanAge kk as G = some r → ∃ q tl, as = .inr q :: tl ∧ tl.length = 0 ∧ RC RX6 q := by
  intro as G r h
  unfold A_PB_meanAge at h
  split at h
  · exact ⟨_, _, rfl, rfl, Or.inl ⟨0, 9, rfl, (RX6, TX6, 9), rfl, rfl⟩⟩
  · cases h
theorem sh_PB_capsizedShare (kk : Nat) : ∀ as G r, A_PB_capsizedShare kk as G = some r → ∃ q tl, as = .inr q :: tl ∧ tl.length = 0 ∧ RC RX6 q := by
  intro as G r h
  unfold A_PB_capsizedShare at h
  split at h
  · exact ⟨_, _, rfl, rfl, Or.inl ⟨0, 9, rfl, (RX6, TX6, 9), rfl, rfl⟩⟩
  · cases h
theorem sh_PB_isConsistent (kk : Nat) : ∀ as G r, A_PB_isConsistent kk as G = some r → ∃ q tl, as = .inr q :: tl ∧ tl.length = 0 ∧ RC RX6 q := by
  intro as G r h
  unfold A_PB_isConsistent at h
  split at h
  · exact ⟨_, _, rfl, rfl, Or.inl ⟨0, 9, rfl, (RX6, TX6, 9), rfl, rfl⟩⟩
  · cases h
theorem sh_PB_separate (kk : Nat) : ∀ as G r, A_PB_separate kk as G = some r → ∃ q tl, as = .inr q :: tl ∧ tl.length = 0 ∧ RC RX6 q := by
  intro as G r h
  unfold A_PB_separate at h
  split at h
  · exact ⟨_, _, rfl, rfl, Or.inl ⟨0, 9, rfl, (RX6, TX6, 9), rfl, rfl⟩⟩
  · cases h
theorem sh_PB_renderPillow (kk : Nat) : ∀ as G r, A_PB_renderPillow kk as G = some r → ∃ q tl, as = .inr q :: tl ∧ tl.length = 1 ∧ RC RX6 q := by
  intro as G r h
  unfold A_PB_renderPillow at h
  split at h
  · exact ⟨_, _, rfl, rfl, Or.inl ⟨0, 9, rfl, (RX6, TX6, 9), rfl, rfl⟩⟩
  · cases h
theorem sh_PB_renderStack (kk : Nat) : ∀ as G r, A_PB_renderStack kk as G = some r → ∃ q tl, as = .inr q :: tl ∧ tl.length = 1 ∧ RC RX6 q := by
  intro as G r h
  unfold A_PB_renderStack at h
  split at h
  · exact ⟨_, _, rfl, rfl, Or.inl ⟨0, 9, rfl, (RX6, TX6, 9), rfl, rfl⟩⟩
  · cases h
theorem sh_PB_renderBarge (kk : Nat) : ∀ as G r, A_PB_renderBarge kk as G = some r → ∃ q tl, as = .inr q :: tl ∧ tl.length = 0 ∧ RC RX6 q := by
  intro as G r h
  unfold A_PB_renderBarge at h
  split at h
  · exact ⟨_, _, rfl, rfl, Or.inl ⟨0, 9, rfl, (RX6, TX6, 9), rfl, rfl⟩⟩
  · cases h
theorem sh_PB_outputAt (kk : Nat) : ∀ as G r, A_PB_outputAt kk as G = some r → ∃ q tl, as = .inr q :: tl ∧ tl.length = 1 ∧ RC RX6 q := by
  intro as G r h
  unfold A_PB_outputAt at h
  split at h
  · exact ⟨_, _, rfl, rfl, Or.inl ⟨0, 9, rfl, (RX6, TX6, 9), rfl, rfl⟩⟩
  · cases h
theorem sh_PB_type (kk : Nat) : ∀ as G r, A_PB_type kk as G = some r → ∃ q tl, as = .inr q :: tl ∧ tl.length = 1 ∧ RC RX6 q := by
  intro as G r h
  unfold A_PB_type at h
  split at h
  · exact ⟨_, _, rfl, rfl, Or.inl ⟨0, 9, rfl, (RX6, TX6, 9), rfl, rfl⟩⟩
  · cases h
theorem sh_PB_performCommands (kk : Nat) : ∀ as G r, A_PB_performCommands kk as G = some r → ∃ q tl, as = .inr q :: tl ∧ tl.length = 0 ∧ RC RX6 q := by
  intro as G r h
  unfold A_PB_performCommands at h
  split at h
  · exact ⟨_, _, rfl, rfl, Or.inl ⟨0, 9, rfl, (RX6, TX6, 9), rfl, rfl⟩⟩
  · cases h
theorem sh_PB_runScript (kk : Nat) : ∀ as G r, A_PB_runScript kk as G = some r → ∃ q tl, as = .inr q :: tl ∧ tl.length = 0 ∧ RC RX6 q := by
  intro as G r h
  unfold A_PB_runScript at h
  split at h
  · exact ⟨_, _, rfl, rfl, Or.inl ⟨0, 9, rfl, (RX6, TX6, 9), rfl, rfl⟩⟩
  · cases h
theorem sh_PB_errorPosition (kk : Nat) : ∀ as G r, A_PB_errorPosition kk as G = some r → ∃ q tl, as = .inr q :: tl ∧ tl.length = 0 ∧ RC RX6 q := by
  intro as G r h
  unfold A_PB_errorPosition at h
  split at h
  · exact ⟨_, _, rfl, rfl, Or.inl ⟨0, 9, rfl, (RX6, TX6, 9), rfl, rfl⟩⟩
  · cases h
theorem sh_PB_failedCommand (kk : Nat) : ∀ as G r, A_PB_failedCommand kk as G = some r → ∃ q tl, as = .inr q :: tl ∧ tl.length = 0 ∧ RC RX6 q := by
  intro as G r h
  unfold A_PB_failedCommand at h
  split at h
  · exact ⟨_, _, rfl, rfl, Or.inl ⟨0, 9, rfl, (RX6, TX6, 9), rfl, rfl⟩⟩
  · cases h
theorem sh_PB_undo (kk : Nat) : ∀ as G r, A_PB_undo kk as G = some r → ∃ q tl, as = .inr q :: tl ∧ tl.length = 0 ∧ RC RX6 q := by
  intro as G r h
  unfold A_PB_undo at h
  split at h
  · exact ⟨_, _, rfl, rfl, Or.inl ⟨0, 9, rfl, (RX6, TX6, 9), rfl, rfl⟩⟩
  · cases h
theorem sh_PB_save (kk : Nat) : ∀ as G r, A_PB_save kk as G = some r → ∃ q tl, as = .inr q :: tl ∧ tl.length = 0 ∧ RC RX6 q := by
  intro as G r h
  unfold A_PB_save at h
  split at h
  · exact ⟨_, _, rfl, rfl, Or.inl ⟨0, 9, rfl, (RX6, TX6, 9), rfl, rfl⟩⟩
  · cases h
theorem sh_PB_restore (kk : Nat) : ∀ as G r, A_PB_restore kk as G = some r → ∃ q tl, as = .inr q :: tl ∧ tl.length = 0 ∧ RC RX6 q := by
  intro as G r h
  unfold A_PB_restore at h
  split at h
  · exact ⟨_, _, rfl, rfl, Or.inl ⟨0, 9, rfl, (RX6, TX6, 9), rfl, rfl⟩⟩
  · cases h
theorem sh_Mo_thrown (kk : Nat) : ∀ as G r, A_Mo_thrown kk as G = some r → ∃ q tl, as = .inr q :: tl ∧ tl.length = 0 ∧ RC RX7 q := by
  intro as G r h
  unfold A_Mo_thrown at h
  split at h
  · exact ⟨_, _, rfl, rfl, Or.inl ⟨7, 18, rfl, (RX7, TX7, 18), rfl, rfl⟩⟩
  · cases h
theorem sh_Mo_fails (kk : Nat) : ∀ as G r, A_Mo_fails kk as G = some r → ∃ q tl, as = .inr q :: tl ∧ tl.length = 1 ∧ RC RX7 q := by
  intro as G r h
  unfold A_Mo_fails at h
  split at h
  · exact ⟨_, _, rfl, rfl, Or.inl ⟨7, 18, rfl, (RX7, TX7, 18), rfl, rfl⟩⟩
  · cases h
theorem sh_Mo_isBetween (kk : Nat) : ∀ as G r, A_Mo_isBetween kk as G = some r → as.length = 3 := by
  intro as G r h
  unfold A_Mo_isBetween at h
  split at h
  · rfl
  · cases h
theorem sh_Mo_copies (kk : Nat) : ∀ as G r, A_Mo_copies kk as G = some r → ∃ q tl, as = .inr q :: tl ∧ tl.length = 0 ∧ RC RX7 q := by
  intro as G r h
  unfold A_Mo_copies at h
  split at h
  · exact ⟨_, _, rfl, rfl, Or.inl ⟨7, 18, rfl, (RX7, TX7, 18), rfl, rfl⟩⟩
  · cases h
theorem sh_Mo_goesBack (kk : Nat) : ∀ as G r, A_Mo_goesBack kk as G = some r → ∃ q tl, as = .inr q :: tl ∧ tl.length = 0 ∧ RC RX7 q := by
  intro as G r h
  unfold A_Mo_goesBack at h
  split at h
  · exact ⟨_, _, rfl, rfl, Or.inl ⟨7, 18, rfl, (RX7, TX7, 18), rfl, rfl⟩⟩
  · cases h
theorem sh_Mo_keeps (kk : Nat) : ∀ as G r, A_Mo_keeps kk as G = some r → ∃ q tl, as = .inr q :: tl ∧ tl.length = 0 ∧ RC RX7 q := by
  intro as G r h
  unfold A_Mo_keeps at h
  split at h
  · exact ⟨_, _, rfl, rfl, Or.inl ⟨7, 18, rfl, (RX7, TX7, 18), rfl, rfl⟩⟩
  · cases h
theorem sh_Mo_remembers (kk : Nat) : ∀ as G r, A_Mo_remembers kk as G = some r → ∃ q tl, as = .inr q :: tl ∧ tl.length = 0 ∧ RC RX7 q := by
  intro as G r h
  unfold A_Mo_remembers at h
  split at h
  · exact ⟨_, _, rfl, rfl, Or.inl ⟨7, 18, rfl, (RX7, TX7, 18), rfl, rfl⟩⟩
  · cases h
theorem sh_Mo_isBay (kk : Nat) : ∀ as G r, A_Mo_isBay kk as G = some r → as.length = 1 := by
  intro as G r h
  unfold A_Mo_isBay at h
  split at h
  · rfl
  · cases h
theorem sh_Mo_at (kk : Nat) : ∀ as G r, A_Mo_at kk as G = some r → ∃ q tl, as = .inr q :: tl ∧ tl.length = 3 ∧ RC RX7 q := by
  intro as G r h
  unfold A_Mo_at at h
  split at h
  · exact ⟨_, _, rfl, rfl, Or.inl ⟨7, 18, rfl, (RX7, TX7, 18), rfl, rfl⟩⟩
  · cases h
theorem sh_Mo_puts (kk : Nat) : ∀ as G r, A_Mo_puts kk as G = some r → ∃ q tl, as = .inr q :: tl ∧ tl.length = 4 ∧ RC RX7 q := by
  intro as G r h
  unfold A_Mo_puts at h
  split at h
  · exact ⟨_, _, rfl, rfl, Or.inl ⟨7, 18, rfl, (RX7, TX7, 18), rfl, rfl⟩⟩
  · cases h
theorem sh_Mo_top (kk : Nat) : ∀ as G r, A_Mo_top kk as G = some r → ∃ q tl, as = .inr q :: tl ∧ tl.length = 2 ∧ RC RX7 q := by
  intro as G r h
  unfold A_Mo_top at h
  split at h
  · exact ⟨_, _, rfl, rfl, Or.inl ⟨7, 18, rfl, (RX7, TX7, 18), rfl, rfl⟩⟩
  · cases h
theorem sh_Mo_weightOfBay (kk : Nat) : ∀ as G r, A_Mo_weightOfBay kk as G = some r → ∃ q tl, as = .inr q :: tl ∧ tl.length = 1 ∧ RC RX7 q := by
  intro as G r h
  unfold A_Mo_weightOfBay at h
  split at h
  · exact ⟨_, _, rfl, rfl, Or.inl ⟨7, 18, rfl, (RX7, TX7, 18), rfl, rfl⟩⟩
  · cases h
theorem sh_Mo_momentNow (kk : Nat) : ∀ as G r, A_Mo_momentNow kk as G = some r → ∃ q tl, as = .inr q :: tl ∧ tl.length = 0 ∧ RC RX7 q := by
  intro as G r h
  unfold A_Mo_momentNow at h
  split at h
  · exact ⟨_, _, rfl, rfl, Or.inl ⟨7, 18, rfl, (RX7, TX7, 18), rfl, rfl⟩⟩
  · cases h
theorem sh_Mo_weightAll (kk : Nat) : ∀ as G r, A_Mo_weightAll kk as G = some r → ∃ q tl, as = .inr q :: tl ∧ tl.length = 0 ∧ RC RX7 q := by
  intro as G r h
  unfold A_Mo_weightAll at h
  split at h
  · exact ⟨_, _, rfl, rfl, Or.inl ⟨7, 18, rfl, (RX7, TX7, 18), rfl, rfl⟩⟩
  · cases h
theorem sh_Mo_countAll (kk : Nat) : ∀ as G r, A_Mo_countAll kk as G = some r → ∃ q tl, as = .inr q :: tl ∧ tl.length = 0 ∧ RC RX7 q := by
  intro as G r h
  unfold A_Mo_countAll at h
  split at h
  · exact ⟨_, _, rfl, rfl, Or.inl ⟨7, 18, rfl, (RX7, TX7, 18), rfl, rfl⟩⟩
  · cases h
theorem sh_Mo_isBeyond (kk : Nat) : ∀ as G r, A_Mo_isBeyond kk as G = some r → ∃ q tl, as = .inr q :: tl ∧ tl.length = 1 ∧ RC RX7 q := by
  intro as G r h
  unfold A_Mo_isBeyond at h
  split at h
  · exact ⟨_, _, rfl, rfl, Or.inl ⟨7, 18, rfl, (RX7, TX7, 18), rfl, rfl⟩⟩
  · cases h
theorem sh_Mo_lever (kk : Nat) : ∀ as G r, A_Mo_lever kk as G = some r → as.length = 2 := by
  intro as G r h
  unfold A_Mo_lever at h
  split at h
  · rfl
  · cases h
theorem sh_Mo_lays (kk : Nat) : ∀ as G r, A_Mo_lays kk as G = some r → ∃ q tl, as = .inr q :: tl ∧ tl.length = 5 ∧ RC RX7 q := by
  intro as G r h
  unfold A_Mo_lays at h
  split at h
  · exact ⟨_, _, rfl, rfl, Or.inl ⟨7, 18, rfl, (RX7, TX7, 18), rfl, rfl⟩⟩
  · cases h
theorem sh_Mo_takes (kk : Nat) : ∀ as G r, A_Mo_takes kk as G = some r → ∃ q tl, as = .inr q :: tl ∧ tl.length = 1 ∧ RC RX7 q := by
  intro as G r h
  unfold A_Mo_takes at h
  split at h
  · exact ⟨_, _, rfl, rfl, Or.inl ⟨7, 18, rfl, (RX7, TX7, 18), rfl, rfl⟩⟩
  · cases h
theorem sh_Mo_notLoad (kk : Nat) : ∀ as G r, A_Mo_notLoad kk as G = some r → ∃ q tl, as = .inr q :: tl ∧ tl.length = 3 ∧ RC RX7 q := by
  intro as G r h
  unfold A_Mo_notLoad at h
  split at h
  · exact ⟨_, _, rfl, rfl, Or.inl ⟨7, 18, rfl, (RX7, TX7, 18), rfl, rfl⟩⟩
  · cases h
theorem sh_Mo_loads (kk : Nat) : ∀ as G r, A_Mo_loads kk as G = some r → ∃ q tl, as = .inr q :: tl ∧ tl.length = 3 ∧ RC RX7 q := by
  intro as G r h
  unfold A_Mo_loads at h
  split at h
  · exact ⟨_, _, rfl, rfl, Or.inl ⟨7, 18, rfl, (RX7, TX7, 18), rfl, rfl⟩⟩
  · cases h
theorem sh_Mo_load (kk : Nat) : ∀ as G r, A_Mo_load kk as G = some r → ∃ q tl, as = .inr q :: tl ∧ tl.length = 3 ∧ RC RX7 q := by
  intro as G r h
  unfold A_Mo_load at h
  split at h
  · exact ⟨_, _, rfl, rfl, Or.inl ⟨7, 18, rfl, (RX7, TX7, 18), rfl, rfl⟩⟩
  · cases h
theorem sh_Mo_notUnload (kk : Nat) : ∀ as G r, A_Mo_notUnload kk as G = some r → ∃ q tl, as = .inr q :: tl ∧ tl.length = 1 ∧ RC RX7 q := by
  intro as G r h
  unfold A_Mo_notUnload at h
  split at h
  · exact ⟨_, _, rfl, rfl, Or.inl ⟨7, 18, rfl, (RX7, TX7, 18), rfl, rfl⟩⟩
  · cases h
theorem sh_Mo_unloads (kk : Nat) : ∀ as G r, A_Mo_unloads kk as G = some r → ∃ q tl, as = .inr q :: tl ∧ tl.length = 1 ∧ RC RX7 q := by
  intro as G r h
  unfold A_Mo_unloads at h
  split at h
  · exact ⟨_, _, rfl, rfl, Or.inl ⟨7, 18, rfl, (RX7, TX7, 18), rfl, rfl⟩⟩
  · cases h
theorem sh_Mo_unload (kk : Nat) : ∀ as G r, A_Mo_unload kk as G = some r → ∃ q tl, as = .inr q :: tl ∧ tl.length = 1 ∧ RC RX7 q := by
  intro as G r h
  unfold A_Mo_unload at h
  split at h
  · exact ⟨_, _, rfl, rfl, Or.inl ⟨7, 18, rfl, (RX7, TX7, 18), rfl, rfl⟩⟩
  · cases h
theorem sh_Mo_notShift (kk : Nat) : ∀ as G r, A_Mo_notShift kk as G = some r → ∃ q tl, as = .inr q :: tl ∧ tl.length = 2 ∧ RC RX7 q := by
  intro as G r h
  unfold A_Mo_notShift at h
  split at h
  · exact ⟨_, _, rfl, rfl, Or.inl ⟨7, 18, rfl, (RX7, TX7, 18), rfl, rfl⟩⟩
  · cases h
theorem sh_Mo_shifts (kk : Nat) : ∀ as G r, A_Mo_shifts kk as G = some r → ∃ q tl, as = .inr q :: tl ∧ tl.length = 2 ∧ RC RX7 q := by
  intro as G r h
  unfold A_Mo_shifts at h
  split at h
  · exact ⟨_, _, rfl, rfl, Or.inl ⟨7, 18, rfl, (RX7, TX7, 18), rfl, rfl⟩⟩
  · cases h
theorem sh_Mo_shift (kk : Nat) : ∀ as G r, A_Mo_shift kk as G = some r → ∃ q tl, as = .inr q :: tl ∧ tl.length = 2 ∧ RC RX7 q := by
  intro as G r h
  unfold A_Mo_shift at h
  split at h
  · exact ⟨_, _, rfl, rfl, Or.inl ⟨7, 18, rfl, (RX7, TX7, 18), rfl, rfl⟩⟩
  · cases h
theorem sh_Mo_portBehind (kk : Nat) : ∀ as G r, A_Mo_portBehind kk as G = some r → ∃ q tl, as = .inr q :: tl ∧ tl.length = 1 ∧ RC RX7 q := by
  intro as G r h
  unfold A_Mo_portBehind at h
  split at h
  · exact ⟨_, _, rfl, rfl, Or.inl ⟨7, 18, rfl, (RX7, TX7, 18), rfl, rfl⟩⟩
  · cases h
theorem sh_Mo_notSail (kk : Nat) : ∀ as G r, A_Mo_notSail kk as G = some r → as.length = 1 := by
  intro as G r h
  unfold A_Mo_notSail at h
  split at h
  · rfl
  · cases h
theorem sh_Mo_sails (kk : Nat) : ∀ as G r, A_Mo_sails kk as G = some r → ∃ q tl, as = .inr q :: tl ∧ tl.length = 1 ∧ RC RX7 q := by
  intro as G r h
  unfold A_Mo_sails at h
  split at h
  · exact ⟨_, _, rfl, rfl, Or.inl ⟨7, 18, rfl, (RX7, TX7, 18), rfl, rfl⟩⟩
  · cases h
theorem sh_Mo_sail (kk : Nat) : ∀ as G r, A_Mo_sail kk as G = some r → ∃ q tl, as = .inr q :: tl ∧ tl.length = 1 ∧ RC RX7 q := by
  intro as G r h
  unfold A_Mo_sail at h
  split at h
  · exact ⟨_, _, rfl, rfl, Or.inl ⟨7, 18, rfl, (RX7, TX7, 18), rfl, rfl⟩⟩
  · cases h
theorem sh_Mo_turns (kk : Nat) : ∀ as G r, A_Mo_turns kk as G = some r → ∃ q tl, as = .inr q :: tl ∧ tl.length = 0 ∧ RC RX7 q := by
  intro as G r h
  unfold A_Mo_turns at h
  split at h
  · exact ⟨_, _, rfl, rfl, Or.inl ⟨7, 18, rfl, (RX7, TX7, 18), rfl, rfl⟩⟩
  · cases h
theorem sh_Mo_turn (kk : Nat) : ∀ as G r, A_Mo_turn kk as G = some r → ∃ q tl, as = .inr q :: tl ∧ tl.length = 0 ∧ RC RX7 q := by
  intro as G r h
  unfold A_Mo_turn at h
  split at h
  · exact ⟨_, _, rfl, rfl, Or.inl ⟨7, 18, rfl, (RX7, TX7, 18), rfl, rfl⟩⟩
  · cases h
theorem sh_Mo_notLimit (kk : Nat) : ∀ as G r, A_Mo_notLimit kk as G = some r → ∃ q tl, as = .inr q :: tl ∧ tl.length = 1 ∧ RC RX7 q := by
  intro as G r h
  unfold A_Mo_notLimit at h
  split at h
  · exact ⟨_, _, rfl, rfl, Or.inl ⟨7, 18, rfl, (RX7, TX7, 18), rfl, rfl⟩⟩
  · cases h
theorem sh_Mo_setsLimit (kk : Nat) : ∀ as G r, A_Mo_setsLimit kk as G = some r → ∃ q tl, as = .inr q :: tl ∧ tl.length = 1 ∧ RC RX7 q := by
  intro as G r h
  unfold A_Mo_setsLimit at h
  split at h
  · exact ⟨_, _, rfl, rfl, Or.inl ⟨7, 18, rfl, (RX7, TX7, 18), rfl, rfl⟩⟩
  · cases h
theorem sh_Mo_setLimit (kk : Nat) : ∀ as G r, A_Mo_setLimit kk as G = some r → ∃ q tl, as = .inr q :: tl ∧ tl.length = 1 ∧ RC RX7 q := by
  intro as G r h
  unfold A_Mo_setLimit at h
  split at h
  · exact ⟨_, _, rfl, rfl, Or.inl ⟨7, 18, rfl, (RX7, TX7, 18), rfl, rfl⟩⟩
  · cases h
theorem sh_Mo_notDrill (kk : Nat) : ∀ as G r, A_Mo_notDrill kk as G = some r → as.length = 1 := by
  intro as G r h
  unfold A_Mo_notDrill at h
  split at h
  · rfl
  · cases h
theorem sh_Mo_drills (kk : Nat) : ∀ as G r, A_Mo_drills kk as G = some r → ∃ q tl, as = .inr q :: tl ∧ tl.length = 1 ∧ RC RX7 q := by
  intro as G r h
  unfold A_Mo_drills at h
  split at h
  · exact ⟨_, _, rfl, rfl, Or.inl ⟨7, 18, rfl, (RX7, TX7, 18), rfl, rfl⟩⟩
  · cases h
theorem sh_Mo_drill (kk : Nat) : ∀ as G r, A_Mo_drill kk as G = some r → ∃ q tl, as = .inr q :: tl ∧ tl.length = 1 ∧ RC RX7 q := by
  intro as G r h
  unfold A_Mo_drill at h
  split at h
  · exact ⟨_, _, rfl, rfl, Or.inl ⟨7, 18, rfl, (RX7, TX7, 18), rfl, rfl⟩⟩
  · cases h
theorem sh_Mo_pillowCount (kk : Nat) : ∀ as G r, A_Mo_pillowCount kk as G = some r → ∃ q tl, as = .inr q :: tl ∧ tl.length = 0 ∧ RC RX7 q := by
  intro as G r h
  unfold A_Mo_pillowCount at h
  split at h
  · exact ⟨_, _, rfl, rfl, Or.inl ⟨7, 18, rfl, (RX7, TX7, 18), rfl, rfl⟩⟩
  · cases h
theorem sh_Mo_stackHeight (kk : Nat) : ∀ as G r, A_Mo_stackHeight kk as G = some r → ∃ q tl, as = .inr q :: tl ∧ tl.length = 1 ∧ RC RX7 q := by
  intro as G r h
  unfold A_Mo_stackHeight at h
  split at h
  · exact ⟨_, _, rfl, rfl, Or.inl ⟨7, 18, rfl, (RX7, TX7, 18), rfl, rfl⟩⟩
  · cases h
theorem sh_Mo_pillowAt (kk : Nat) : ∀ as G r, A_Mo_pillowAt kk as G = some r → ∃ q tl, as = .inr q :: tl ∧ tl.length = 2 ∧ RC RX7 q := by
  intro as G r h
  unfold A_Mo_pillowAt at h
  split at h
  · exact ⟨_, _, rfl, rfl, Or.inl ⟨7, 18, rfl, (RX7, TX7, 18), rfl, rfl⟩⟩
  · cases h
theorem sh_Mo_placeOf (kk : Nat) : ∀ as G r, A_Mo_placeOf kk as G = some r → ∃ q tl, as = .inr q :: tl ∧ tl.length = 1 ∧ RC RX7 q := by
  intro as G r h
  unfold A_Mo_placeOf at h
  split at h
  · exact ⟨_, _, rfl, rfl, Or.inl ⟨7, 18, rfl, (RX7, TX7, 18), rfl, rfl⟩⟩
  · cases h
theorem sh_Mo_asks (kk : Nat) : ∀ as G r, A_Mo_asks kk as G = some r → ∃ q tl, as = .inr q :: tl ∧ tl.length = 2 ∧ RC RX7 q := by
  intro as G r h
  unfold A_Mo_asks at h
  split at h
  · exact ⟨_, _, rfl, rfl, Or.inl ⟨7, 18, rfl, (RX7, TX7, 18), rfl, rfl⟩⟩
  · cases h
theorem sh_Mo_weightOf (kk : Nat) : ∀ as G r, A_Mo_weightOf kk as G = some r → ∃ q tl, as = .inr q :: tl ∧ tl.length = 1 ∧ RC RX7 q := by
  intro as G r h
  unfold A_Mo_weightOf at h
  split at h
  · exact ⟨_, _, rfl, rfl, Or.inl ⟨7, 18, rfl, (RX7, TX7, 18), rfl, rfl⟩⟩
  · cases h
theorem sh_Mo_destinationOf (kk : Nat) : ∀ as G r, A_Mo_destinationOf kk as G = some r → ∃ q tl, as = .inr q :: tl ∧ tl.length = 1 ∧ RC RX7 q := by
  intro as G r h
  unfold A_Mo_destinationOf at h
  split at h
  · exact ⟨_, _, rfl, rfl, Or.inl ⟨7, 18, rfl, (RX7, TX7, 18), rfl, rfl⟩⟩
  · cases h
theorem sh_Mo_bayOf (kk : Nat) : ∀ as G r, A_Mo_bayOf kk as G = some r → ∃ q tl, as = .inr q :: tl ∧ tl.length = 1 ∧ RC RX7 q := by
  intro as G r h
  unfold A_Mo_bayOf at h
  split at h
  · exact ⟨_, _, rfl, rfl, Or.inl ⟨7, 18, rfl, (RX7, TX7, 18), rfl, rfl⟩⟩
  · cases h
theorem sh_Mo_positionOf (kk : Nat) : ∀ as G r, A_Mo_positionOf kk as G = some r → ∃ q tl, as = .inr q :: tl ∧ tl.length = 1 ∧ RC RX7 q := by
  intro as G r h
  unfold A_Mo_positionOf at h
  split at h
  · exact ⟨_, _, rfl, rfl, Or.inl ⟨7, 18, rfl, (RX7, TX7, 18), rfl, rfl⟩⟩
  · cases h
theorem sh_Mo_ageOf (kk : Nat) : ∀ as G r, A_Mo_ageOf kk as G = some r → ∃ q tl, as = .inr q :: tl ∧ tl.length = 1 ∧ RC RX7 q := by
  intro as G r h
  unfold A_Mo_ageOf at h
  split at h
  · exact ⟨_, _, rfl, rfl, Or.inl ⟨7, 18, rfl, (RX7, TX7, 18), rfl, rfl⟩⟩
  · cases h
theorem sh_Mo_moment (kk : Nat) : ∀ as G r, A_Mo_moment kk as G = some r → ∃ q tl, as = .inr q :: tl ∧ tl.length = 0 ∧ RC RX7 q := by
  intro as G r h
  unfold A_Mo_moment at h
  split at h
  · exact ⟨_, _, rfl, rfl, Or.inl ⟨7, 18, rfl, (RX7, TX7, 18), rfl, rfl⟩⟩
  · cases h
theorem sh_Mo_momentByBays (kk : Nat) : ∀ as G r, A_Mo_momentByBays kk as G = some r → ∃ q tl, as = .inr q :: tl ∧ tl.length = 0 ∧ RC RX7 q := by
  intro as G r h
  unfold A_Mo_momentByBays at h
  split at h
  · exact ⟨_, _, rfl, rfl, Or.inl ⟨7, 18, rfl, (RX7, TX7, 18), rfl, rfl⟩⟩
  · cases h
theorem sh_Mo_totalWeight (kk : Nat) : ∀ as G r, A_Mo_totalWeight kk as G = some r → ∃ q tl, as = .inr q :: tl ∧ tl.length = 0 ∧ RC RX7 q := by
  intro as G r h
  unfold A_Mo_totalWeight at h
  split at h
  · exact ⟨_, _, rfl, rfl, Or.inl ⟨7, 18, rfl, (RX7, TX7, 18), rfl, rfl⟩⟩
  · cases h
theorem sh_Mo_weightFor (kk : Nat) : ∀ as G r, A_Mo_weightFor kk as G = some r → ∃ q tl, as = .inr q :: tl ∧ tl.length = 1 ∧ RC RX7 q := by
  intro as G r h
  unfold A_Mo_weightFor at h
  split at h
  · exact ⟨_, _, rfl, rfl, Or.inl ⟨7, 18, rfl, (RX7, TX7, 18), rfl, rfl⟩⟩
  · cases h
theorem sh_Mo_limit (kk : Nat) : ∀ as G r, A_Mo_limit kk as G = some r → ∃ q tl, as = .inr q :: tl ∧ tl.length = 0 ∧ RC RX7 q := by
  intro as G r h
  unfold A_Mo_limit at h
  split at h
  · exact ⟨_, _, rfl, rfl, Or.inl ⟨7, 18, rfl, (RX7, TX7, 18), rfl, rfl⟩⟩
  · cases h
theorem sh_Mo_listAngle (kk : Nat) : ∀ as G r, A_Mo_listAngle kk as G = some r → ∃ q tl, as = .inr q :: tl ∧ tl.length = 0 ∧ RC RX7 q := by
  intro as G r h
  unfold A_Mo_listAngle at h
  split at h
  · exact ⟨_, _, rfl, rfl, Or.inl ⟨7, 18, rfl, (RX7, TX7, 18), rfl, rfl⟩⟩
  · cases h
theorem sh_Mo_greatestPush (kk : Nat) : ∀ as G r, A_Mo_greatestPush kk as G = some r → ∃ q tl, as = .inr q :: tl ∧ tl.length = 0 ∧ RC RX7 q := by
  intro as G r h
  unfold A_Mo_greatestPush at h
  split at h
  · exact ⟨_, _, rfl, rfl, Or.inl ⟨7, 18, rfl, (RX7, TX7, 18), rfl, rfl⟩⟩
  · cases h
theorem sh_Mo_magnitude (kk : Nat) : ∀ as G r, A_Mo_magnitude kk as G = some r → as.length = 1 := by
  intro as G r h
  unfold A_Mo_magnitude at h
  split at h
  · rfl
  · cases h
theorem sh_Mo_isBetter (kk : Nat) : ∀ as G r, A_Mo_isBetter kk as G = some r → ∃ q tl, as = .inr q :: tl ∧ tl.length = 3 ∧ RC RX7 q := by
  intro as G r h
  unfold A_Mo_isBetter at h
  split at h
  · exact ⟨_, _, rfl, rfl, Or.inl ⟨7, 18, rfl, (RX7, TX7, 18), rfl, rfl⟩⟩
  · cases h
theorem sh_Mo_levelingBay (kk : Nat) : ∀ as G r, A_Mo_levelingBay kk as G = some r → ∃ q tl, as = .inr q :: tl ∧ tl.length = 1 ∧ RC RX7 q := by
  intro as G r h
  unfold A_Mo_levelingBay at h
  split at h
  · exact ⟨_, _, rfl, rfl, Or.inl ⟨7, 18, rfl, (RX7, TX7, 18), rfl, rfl⟩⟩
  · cases h
theorem sh_Mo_port (kk : Nat) : ∀ as G r, A_Mo_port kk as G = some r → ∃ q tl, as = .inr q :: tl ∧ tl.length = 0 ∧ RC RX7 q := by
  intro as G r h
  unfold A_Mo_port at h
  split at h
  · exact ⟨_, _, rfl, rfl, Or.inl ⟨7, 18, rfl, (RX7, TX7, 18), rfl, rfl⟩⟩
  · cases h
theorem sh_Mo_day (kk : Nat) : ∀ as G r, A_Mo_day kk as G = some r → ∃ q tl, as = .inr q :: tl ∧ tl.length = 0 ∧ RC RX7 q := by
  intro as G r h
  unfold A_Mo_day at h
  split at h
  · exact ⟨_, _, rfl, rfl, Or.inl ⟨7, 18, rfl, (RX7, TX7, 18), rfl, rfl⟩⟩
  · cases h
theorem sh_Mo_isAscending (kk : Nat) : ∀ as G r, A_Mo_isAscending kk as G = some r → ∃ q tl, as = .inr q :: tl ∧ tl.length = 0 ∧ RC RX7 q := by
  intro as G r h
  unfold A_Mo_isAscending at h
  split at h
  · exact ⟨_, _, rfl, rfl, Or.inl ⟨7, 18, rfl, (RX7, TX7, 18), rfl, rfl⟩⟩
  · cases h
theorem sh_Mo_legs (kk : Nat) : ∀ as G r, A_Mo_legs kk as G = some r → ∃ q tl, as = .inr q :: tl ∧ tl.length = 1 ∧ RC RX7 q := by
  intro as G r h
  unfold A_Mo_legs at h
  split at h
  · exact ⟨_, _, rfl, rfl, Or.inl ⟨7, 18, rfl, (RX7, TX7, 18), rfl, rfl⟩⟩
  · cases h
theorem sh_Mo_legsTo (kk : Nat) : ∀ as G r, A_Mo_legsTo kk as G = some r → ∃ q tl, as = .inr q :: tl ∧ tl.length = 1 ∧ RC RX7 q := by
  intro as G r h
  unfold A_Mo_legsTo at h
  split at h
  · exact ⟨_, _, rfl, rfl, Or.inl ⟨7, 18, rfl, (RX7, TX7, 18), rfl, rfl⟩⟩
  · cases h
theorem sh_Mo_portAfter (kk : Nat) : ∀ as G r, A_Mo_portAfter kk as G = some r → ∃ q tl, as = .inr q :: tl ∧ tl.length = 1 ∧ RC RX7 q := by
  intro as G r h
  unfold A_Mo_portAfter at h
  split at h
  · exact ⟨_, _, rfl, rfl, Or.inl ⟨7, 18, rfl, (RX7, TX7, 18), rfl, rfl⟩⟩
  · cases h
theorem sh_Mo_inTheWay (kk : Nat) : ∀ as G r, A_Mo_inTheWay kk as G = some r → ∃ q tl, as = .inr q :: tl ∧ tl.length = 2 ∧ RC RX7 q := by
  intro as G r h
  unfold A_Mo_inTheWay at h
  split at h
  · exact ⟨_, _, rfl, rfl, Or.inl ⟨7, 18, rfl, (RX7, TX7, 18), rfl, rfl⟩⟩
  · cases h
theorem sh_Mo_pillowsInTheWay (kk : Nat) : ∀ as G r, A_Mo_pillowsInTheWay kk as G = some r → ∃ q tl, as = .inr q :: tl ∧ tl.length = 1 ∧ RC RX7 q := by
  intro as G r h
  unfold A_Mo_pillowsInTheWay at h
  split at h
  · exact ⟨_, _, rfl, rfl, Or.inl ⟨7, 18, rfl, (RX7, TX7, 18), rfl, rfl⟩⟩
  · cases h
theorem sh_Mo_pairsInTheWay (kk : Nat) : ∀ as G r, A_Mo_pairsInTheWay kk as G = some r → ∃ q tl, as = .inr q :: tl ∧ tl.length = 0 ∧ RC RX7 q := by
  intro as G r h
  unfold A_Mo_pairsInTheWay at h
  split at h
  · exact ⟨_, _, rfl, rfl, Or.inl ⟨7, 18, rfl, (RX7, TX7, 18), rfl, rfl⟩⟩
  · cases h
theorem sh_Mo_pairsInTheWayByStacks (kk : Nat) : ∀ as G r, A_Mo_pairsInTheWayByStacks kk as G = some r → ∃ q tl, as = .inr q :: tl ∧ tl.length = 0 ∧ RC RX7 q := by
  intro as G r h
  unfold A_Mo_pairsInTheWayByStacks at h
  split at h
  · exact ⟨_, _, rfl, rfl, Or.inl ⟨7, 18, rfl, (RX7, TX7, 18), rfl, rfl⟩⟩
  · cases h
theorem sh_Mo_isAhead (kk : Nat) : ∀ as G r, A_Mo_isAhead kk as G = some r → ∃ q tl, as = .inr q :: tl ∧ tl.length = 2 ∧ RC RX7 q := by
  intro as G r h
  unfold A_Mo_isAhead at h
  split at h
  · exact ⟨_, _, rfl, rfl, Or.inl ⟨7, 18, rfl, (RX7, TX7, 18), rfl, rfl⟩⟩
  · cases h
theorem sh_Mo_isTaken (kk : Nat) : ∀ as G r, A_Mo_isTaken kk as G = some r → ∃ q tl, as = .inr q :: tl ∧ tl.length = 1 ∧ RC RX7 q := by
  intro as G r h
  unfold A_Mo_isTaken at h
  split at h
  · exact ⟨_, _, rfl, rfl, Or.inl ⟨7, 18, rfl, (RX7, TX7, 18), rfl, rfl⟩⟩
  · cases h
theorem sh_Mo_unloadableCount (kk : Nat) : ∀ as G r, A_Mo_unloadableCount kk as G = some r → ∃ q tl, as = .inr q :: tl ∧ tl.length = 0 ∧ RC RX7 q := by
  intro as G r h
  unfold A_Mo_unloadableCount at h
  split at h
  · exact ⟨_, _, rfl, rfl, Or.inl ⟨7, 18, rfl, (RX7, TX7, 18), rfl, rfl⟩⟩
  · cases h
theorem sh_Mo_oldestIn (kk : Nat) : ∀ as G r, A_Mo_oldestIn kk as G = some r → ∃ q tl, as = .inr q :: tl ∧ tl.length = 1 ∧ RC RX7 q := by
  intro as G r h
  unfold A_Mo_oldestIn at h
  split at h
  · exact ⟨_, _, rfl, rfl, Or.inl ⟨7, 18, rfl, (RX7, TX7, 18), rfl, rfl⟩⟩
  · cases h
theorem sh_Mo_heaviestPort (kk : Nat) : ∀ as G r, A_Mo_heaviestPort kk as G = some r → ∃ q tl, as = .inr q :: tl ∧ tl.length = 0 ∧ RC RX7 q := by
  intro as G r h
  unfold A_Mo_heaviestPort at h
  split at h
  · exact ⟨_, _, rfl, rfl, Or.inl ⟨7, 18, rfl, (RX7, TX7, 18), rfl, rfl⟩⟩
  · cases h
theorem sh_Mo_possibleShifts (kk : Nat) : ∀ as G r, A_Mo_possibleShifts kk as G = some r → ∃ q tl, as = .inr q :: tl ∧ tl.length = 0 ∧ RC RX7 q := by
  intro as G r h
  unfold A_Mo_possibleShifts at h
  split at h
  · exact ⟨_, _, rfl, rfl, Or.inl ⟨7, 18, rfl, (RX7, TX7, 18), rfl, rfl⟩⟩
  · cases h
theorem sh_Mo_pillowByTurn (kk : Nat) : ∀ as G r, A_Mo_pillowByTurn kk as G = some r → ∃ q tl, as = .inr q :: tl ∧ tl.length = 1 ∧ RC RX7 q := by
  intro as G r h
  unfold A_Mo_pillowByTurn at h
  split at h
  · exact ⟨_, _, rfl, rfl, Or.inl ⟨7, 18, rfl, (RX7, TX7, 18), rfl, rfl⟩⟩
  · cases h
theorem sh_Mo_bayByWeight (kk : Nat) : ∀ as G r, A_Mo_bayByWeight kk as G = some r → ∃ q tl, as = .inr q :: tl ∧ tl.length = 1 ∧ RC RX7 q := by
  intro as G r h
  unfold A_Mo_bayByWeight at h
  split at h
  · exact ⟨_, _, rfl, rfl, Or.inl ⟨7, 18, rfl, (RX7, TX7, 18), rfl, rfl⟩⟩
  · cases h
theorem sh_Mo_loadedTotal (kk : Nat) : ∀ as G r, A_Mo_loadedTotal kk as G = some r → ∃ q tl, as = .inr q :: tl ∧ tl.length = 0 ∧ RC RX7 q := by
  intro as G r h
  unfold A_Mo_loadedTotal at h
  split at h
  · exact ⟨_, _, rfl, rfl, Or.inl ⟨7, 18, rfl, (RX7, TX7, 18), rfl, rfl⟩⟩
  · cases h
theorem sh_Mo_deliveredTotal (kk : Nat) : ∀ as G r, A_Mo_deliveredTotal kk as G = some r → ∃ q tl, as = .inr q :: tl ∧ tl.length = 0 ∧ RC RX7 q := by
  intro as G r h
  unfold A_Mo_deliveredTotal at h
  split at h
  · exact ⟨_, _, rfl, rfl, Or.inl ⟨7, 18, rfl, (RX7, TX7, 18), rfl, rfl⟩⟩
  · cases h
theorem sh_Mo_deliveredWeight (kk : Nat) : ∀ as G r, A_Mo_deliveredWeight kk as G = some r → ∃ q tl, as = .inr q :: tl ∧ tl.length = 0 ∧ RC RX7 q := by
  intro as G r h
  unfold A_Mo_deliveredWeight at h
  split at h
  · exact ⟨_, _, rfl, rfl, Or.inl ⟨7, 18, rfl, (RX7, TX7, 18), rfl, rfl⟩⟩
  · cases h
theorem sh_Mo_drillTotal (kk : Nat) : ∀ as G r, A_Mo_drillTotal kk as G = some r → ∃ q tl, as = .inr q :: tl ∧ tl.length = 0 ∧ RC RX7 q := by
  intro as G r h
  unfold A_Mo_drillTotal at h
  split at h
  · exact ⟨_, _, rfl, rfl, Or.inl ⟨7, 18, rfl, (RX7, TX7, 18), rfl, rfl⟩⟩
  · cases h
theorem sh_Mo_capsizedTotal (kk : Nat) : ∀ as G r, A_Mo_capsizedTotal kk as G = some r → ∃ q tl, as = .inr q :: tl ∧ tl.length = 0 ∧ RC RX7 q := by
  intro as G r h
  unfold A_Mo_capsizedTotal at h
  split at h
  · exact ⟨_, _, rfl, rfl, Or.inl ⟨7, 18, rfl, (RX7, TX7, 18), rfl, rfl⟩⟩
  · cases h
theorem sh_Mo_meanAge (kk : Nat) : ∀ as G r, A_Mo_meanAge kk as G = some r → ∃ q tl, as = .inr q :: tl ∧ tl.length = 0 ∧ RC RX7 q := by
  intro as G r h
  unfold A_Mo_meanAge at h
  split at h
  · exact ⟨_, _, rfl, rfl, Or.inl ⟨7, 18, rfl, (RX7, TX7, 18), rfl, rfl⟩⟩
  · cases h
theorem sh_Mo_capsizedShare (kk : Nat) : ∀ as G r, A_Mo_capsizedShare kk as G = some r → ∃ q tl, as = .inr q :: tl ∧ tl.length = 0 ∧ RC RX7 q := by
  intro as G r h
  unfold A_Mo_capsizedShare at h
  split at h
  · exact ⟨_, _, rfl, rfl, Or.inl ⟨7, 18, rfl, (RX7, TX7, 18), rfl, rfl⟩⟩
  · cases h
theorem sh_Mo_isConsistent (kk : Nat) : ∀ as G r, A_Mo_isConsistent kk as G = some r → ∃ q tl, as = .inr q :: tl ∧ tl.length = 0 ∧ RC RX7 q := by
  intro as G r h
  unfold A_Mo_isConsistent at h
  split at h
  · exact ⟨_, _, rfl, rfl, Or.inl ⟨7, 18, rfl, (RX7, TX7, 18), rfl, rfl⟩⟩
  · cases h
theorem sh_Mo_writes (kk : Nat) : ∀ as G r, A_Mo_writes kk as G = some r → ∃ q tl, as = .inr q :: tl ∧ tl.length = 1 ∧ RC RX7 q := by
  intro as G r h
  unfold A_Mo_writes at h
  split at h
  · exact ⟨_, _, rfl, rfl, Or.inl ⟨7, 18, rfl, (RX7, TX7, 18), rfl, rfl⟩⟩
  · cases h
theorem sh_Mo_writesNumber (kk : Nat) : ∀ as G r, A_Mo_writesNumber kk as G = some r → ∃ q tl, as = .inr q :: tl ∧ tl.length = 1 ∧ RC RX7 q := by
  intro as G r h
  unfold A_Mo_writesNumber at h
  split at h
  · exact ⟨_, _, rfl, rfl, Or.inl ⟨7, 18, rfl, (RX7, TX7, 18), rfl, rfl⟩⟩
  · cases h
theorem sh_Mo_renderStack (kk : Nat) : ∀ as G r, A_Mo_renderStack kk as G = some r → ∃ q tl, as = .inr q :: tl ∧ tl.length = 1 ∧ RC RX7 q := by
  intro as G r h
  unfold A_Mo_renderStack at h
  split at h
  · exact ⟨_, _, rfl, rfl, Or.inl ⟨7, 18, rfl, (RX7, TX7, 18), rfl, rfl⟩⟩
  · cases h
theorem sh_Mo_renderBarge (kk : Nat) : ∀ as G r, A_Mo_renderBarge kk as G = some r → ∃ q tl, as = .inr q :: tl ∧ tl.length = 0 ∧ RC RX7 q := by
  intro as G r h
  unfold A_Mo_renderBarge at h
  split at h
  · exact ⟨_, _, rfl, rfl, Or.inl ⟨7, 18, rfl, (RX7, TX7, 18), rfl, rfl⟩⟩
  · cases h
theorem sh_Mo_outputAt (kk : Nat) : ∀ as G r, A_Mo_outputAt kk as G = some r → ∃ q tl, as = .inr q :: tl ∧ tl.length = 1 ∧ RC RX7 q := by
  intro as G r h
  unfold A_Mo_outputAt at h
  split at h
  · exact ⟨_, _, rfl, rfl, Or.inl ⟨7, 18, rfl, (RX7, TX7, 18), rfl, rfl⟩⟩
  · cases h
theorem sh_Mo_type (kk : Nat) : ∀ as G r, A_Mo_type kk as G = some r → ∃ q tl, as = .inr q :: tl ∧ tl.length = 1 ∧ RC RX7 q := by
  intro as G r h
  unfold A_Mo_type at h
  split at h
  · exact ⟨_, _, rfl, rfl, Or.inl ⟨7, 18, rfl, (RX7, TX7, 18), rfl, rfl⟩⟩
  · cases h
theorem sh_Mo_nextChar (kk : Nat) : ∀ as G r, A_Mo_nextChar kk as G = some r → ∃ q tl, as = .inr q :: tl ∧ tl.length = 0 ∧ RC RX7 q := by
  intro as G r h
  unfold A_Mo_nextChar at h
  split at h
  · exact ⟨_, _, rfl, rfl, Or.inl ⟨7, 18, rfl, (RX7, TX7, 18), rfl, rfl⟩⟩
  · cases h
theorem sh_Mo_reads (kk : Nat) : ∀ as G r, A_Mo_reads kk as G = some r → ∃ q tl, as = .inr q :: tl ∧ tl.length = 1 ∧ RC RX7 q := by
  intro as G r h
  unfold A_Mo_reads at h
  split at h
  · exact ⟨_, _, rfl, rfl, Or.inl ⟨7, 18, rfl, (RX7, TX7, 18), rfl, rfl⟩⟩
  · cases h
theorem sh_Mo_readsDigit (kk : Nat) : ∀ as G r, A_Mo_readsDigit kk as G = some r → ∃ q tl, as = .inr q :: tl ∧ tl.length = 1 ∧ RC RX7 q := by
  intro as G r h
  unfold A_Mo_readsDigit at h
  split at h
  · exact ⟨_, _, rfl, rfl, Or.inl ⟨7, 18, rfl, (RX7, TX7, 18), rfl, rfl⟩⟩
  · cases h
theorem sh_Mo_readsNumber (kk : Nat) : ∀ as G r, A_Mo_readsNumber kk as G = some r → ∃ q tl, as = .inr q :: tl ∧ tl.length = 1 ∧ RC RX7 q := by
  intro as G r h
  unfold A_Mo_readsNumber at h
  split at h
  · exact ⟨_, _, rfl, rfl, Or.inl ⟨7, 18, rfl, (RX7, TX7, 18), rfl, rfl⟩⟩
  · cases h
theorem sh_Mo_readsL (kk : Nat) : ∀ as G r, A_Mo_readsL kk as G = some r → ∃ q tl, as = .inr q :: tl ∧ tl.length = 0 ∧ RC RX7 q := by
  intro as G r h
  unfold A_Mo_readsL at h
  split at h
  · exact ⟨_, _, rfl, rfl, Or.inl ⟨7, 18, rfl, (RX7, TX7, 18), rfl, rfl⟩⟩
  · cases h
theorem sh_Mo_readsS (kk : Nat) : ∀ as G r, A_Mo_readsS kk as G = some r → ∃ q tl, as = .inr q :: tl ∧ tl.length = 0 ∧ RC RX7 q := by
  intro as G r h
  unfold A_Mo_readsS at h
  split at h
  · exact ⟨_, _, rfl, rfl, Or.inl ⟨7, 18, rfl, (RX7, TX7, 18), rfl, rfl⟩⟩
  · cases h
theorem sh_Mo_readsDrill (kk : Nat) : ∀ as G r, A_Mo_readsDrill kk as G = some r → ∃ q tl, as = .inr q :: tl ∧ tl.length = 0 ∧ RC RX7 q := by
  intro as G r h
  unfold A_Mo_readsDrill at h
  split at h
  · exact ⟨_, _, rfl, rfl, Or.inl ⟨7, 18, rfl, (RX7, TX7, 18), rfl, rfl⟩⟩
  · cases h
theorem sh_Mo_readsCommand (kk : Nat) : ∀ as G r, A_Mo_readsCommand kk as G = some r → ∃ q tl, as = .inr q :: tl ∧ tl.length = 0 ∧ RC RX7 q := by
  intro as G r h
  unfold A_Mo_readsCommand at h
  split at h
  · exact ⟨_, _, rfl, rfl, Or.inl ⟨7, 18, rfl, (RX7, TX7, 18), rfl, rfl⟩⟩
  · cases h
theorem sh_Mo_readsAll (kk : Nat) : ∀ as G r, A_Mo_readsAll kk as G = some r → ∃ q tl, as = .inr q :: tl ∧ tl.length = 0 ∧ RC RX7 q := by
  intro as G r h
  unfold A_Mo_readsAll at h
  split at h
  · exact ⟨_, _, rfl, rfl, Or.inl ⟨7, 18, rfl, (RX7, TX7, 18), rfl, rfl⟩⟩
  · cases h
theorem sh_Mo_notNow (kk : Nat) : ∀ as G r, A_Mo_notNow kk as G = some r → ∃ q tl, as = .inr q :: tl ∧ tl.length = 0 ∧ RC RX7 q := by
  intro as G r h
  unfold A_Mo_notNow at h
  split at h
  · exact ⟨_, _, rfl, rfl, Or.inl ⟨7, 18, rfl, (RX7, TX7, 18), rfl, rfl⟩⟩
  · cases h
theorem sh_Mo_doesNow (kk : Nat) : ∀ as G r, A_Mo_doesNow kk as G = some r → ∃ q tl, as = .inr q :: tl ∧ tl.length = 0 ∧ RC RX7 q := by
  intro as G r h
  unfold A_Mo_doesNow at h
  split at h
  · exact ⟨_, _, rfl, rfl, Or.inl ⟨7, 18, rfl, (RX7, TX7, 18), rfl, rfl⟩⟩
  · cases h
theorem sh_Mo_doesAll (kk : Nat) : ∀ as G r, A_Mo_doesAll kk as G = some r → ∃ q tl, as = .inr q :: tl ∧ tl.length = 0 ∧ RC RX7 q := by
  intro as G r h
  unfold A_Mo_doesAll at h
  split at h
  · exact ⟨_, _, rfl, rfl, Or.inl ⟨7, 18, rfl, (RX7, TX7, 18), rfl, rfl⟩⟩
  · cases h
theorem sh_Mo_runScript (kk : Nat) : ∀ as G r, A_Mo_runScript kk as G = some r → ∃ q tl, as = .inr q :: tl ∧ tl.length = 0 ∧ RC RX7 q := by
  intro as G r h
  unfold A_Mo_runScript at h
  split at h
  · exact ⟨_, _, rfl, rfl, Or.inl ⟨7, 18, rfl, (RX7, TX7, 18), rfl, rfl⟩⟩
  · cases h
theorem sh_Mo_errorPosition (kk : Nat) : ∀ as G r, A_Mo_errorPosition kk as G = some r → ∃ q tl, as = .inr q :: tl ∧ tl.length = 0 ∧ RC RX7 q := by
  intro as G r h
  unfold A_Mo_errorPosition at h
  split at h
  · exact ⟨_, _, rfl, rfl, Or.inl ⟨7, 18, rfl, (RX7, TX7, 18), rfl, rfl⟩⟩
  · cases h
theorem sh_Mo_failedCommand (kk : Nat) : ∀ as G r, A_Mo_failedCommand kk as G = some r → ∃ q tl, as = .inr q :: tl ∧ tl.length = 0 ∧ RC RX7 q := by
  intro as G r h
  unfold A_Mo_failedCommand at h
  split at h
  · exact ⟨_, _, rfl, rfl, Or.inl ⟨7, 18, rfl, (RX7, TX7, 18), rfl, rfl⟩⟩
  · cases h
theorem sh_Mo_undo (kk : Nat) : ∀ as G r, A_Mo_undo kk as G = some r → ∃ q tl, as = .inr q :: tl ∧ tl.length = 0 ∧ RC RX7 q := by
  intro as G r h
  unfold A_Mo_undo at h
  split at h
  · exact ⟨_, _, rfl, rfl, Or.inl ⟨7, 18, rfl, (RX7, TX7, 18), rfl, rfl⟩⟩
  · cases h
theorem sh_Mo_save (kk : Nat) : ∀ as G r, A_Mo_save kk as G = some r → ∃ q tl, as = .inr q :: tl ∧ tl.length = 0 ∧ RC RX7 q := by
  intro as G r h
  unfold A_Mo_save at h
  split at h
  · exact ⟨_, _, rfl, rfl, Or.inl ⟨7, 18, rfl, (RX7, TX7, 18), rfl, rfl⟩⟩
  · cases h
theorem sh_Mo_restore (kk : Nat) : ∀ as G r, A_Mo_restore kk as G = some r → ∃ q tl, as = .inr q :: tl ∧ tl.length = 0 ∧ RC RX7 q := by
  intro as G r h
  unfold A_Mo_restore at h
  split at h
  · exact ⟨_, _, rfl, rfl, Or.inl ⟨7, 18, rfl, (RX7, TX7, 18), rfl, rfl⟩⟩
  · cases h
theorem sh_Law_load (kk : Nat) : ∀ as G r, A_Law_load kk as G = some r → as.length = 5 := by
  intro as G r h
  unfold A_Law_load at h
  split at h
  · rfl
  · cases h
theorem sh_Law_unload (kk : Nat) : ∀ as G r, A_Law_unload kk as G = some r → as.length = 3 := by
  intro as G r h
  unfold A_Law_unload at h
  split at h
  · rfl
  · cases h
theorem sh_Law_shift (kk : Nat) : ∀ as G r, A_Law_shift kk as G = some r → as.length = 4 := by
  intro as G r h
  unfold A_Law_shift at h
  split at h
  · rfl
  · cases h
theorem sh_Law_sail (kk : Nat) : ∀ as G r, A_Law_sail kk as G = some r → as.length = 3 := by
  intro as G r h
  unfold A_Law_sail at h
  split at h
  · rfl
  · cases h
theorem sh_Law_setLimit (kk : Nat) : ∀ as G r, A_Law_setLimit kk as G = some r → as.length = 3 := by
  intro as G r h
  unfold A_Law_setLimit at h
  split at h
  · rfl
  · cases h
theorem sh_Law_drill (kk : Nat) : ∀ as G r, A_Law_drill kk as G = some r → as.length = 3 := by
  intro as G r h
  unfold A_Law_drill at h
  split at h
  · rfl
  · cases h
theorem sh_Law_stackHeight (kk : Nat) : ∀ as G r, A_Law_stackHeight kk as G = some r → as.length = 3 := by
  intro as G r h
  unfold A_Law_stackHeight at h
  split at h
  · rfl
  · cases h
theorem sh_Law_pillowAt (kk : Nat) : ∀ as G r, A_Law_pillowAt kk as G = some r → as.length = 4 := by
  intro as G r h
  unfold A_Law_pillowAt at h
  split at h
  · rfl
  · cases h
theorem sh_Law_weightOf (kk : Nat) : ∀ as G r, A_Law_weightOf kk as G = some r → as.length = 3 := by
  intro as G r h
  unfold A_Law_weightOf at h
  split at h
  · rfl
  · cases h
theorem sh_Law_destinationOf (kk : Nat) : ∀ as G r, A_Law_destinationOf kk as G = some r → as.length = 3 := by
  intro as G r h
  unfold A_Law_destinationOf at h
  split at h
  · rfl
  · cases h
theorem sh_Law_bayOf (kk : Nat) : ∀ as G r, A_Law_bayOf kk as G = some r → as.length = 3 := by
  intro as G r h
  unfold A_Law_bayOf at h
  split at h
  · rfl
  · cases h
theorem sh_Law_positionOf (kk : Nat) : ∀ as G r, A_Law_positionOf kk as G = some r → as.length = 3 := by
  intro as G r h
  unfold A_Law_positionOf at h
  split at h
  · rfl
  · cases h
theorem sh_Law_ageOf (kk : Nat) : ∀ as G r, A_Law_ageOf kk as G = some r → as.length = 3 := by
  intro as G r h
  unfold A_Law_ageOf at h
  split at h
  · rfl
  · cases h
theorem sh_Law_weightFor (kk : Nat) : ∀ as G r, A_Law_weightFor kk as G = some r → as.length = 3 := by
  intro as G r h
  unfold A_Law_weightFor at h
  split at h
  · rfl
  · cases h
theorem sh_Law_levelingBay (kk : Nat) : ∀ as G r, A_Law_levelingBay kk as G = some r → as.length = 3 := by
  intro as G r h
  unfold A_Law_levelingBay at h
  split at h
  · rfl
  · cases h
theorem sh_Law_legsTo (kk : Nat) : ∀ as G r, A_Law_legsTo kk as G = some r → as.length = 3 := by
  intro as G r h
  unfold A_Law_legsTo at h
  split at h
  · rfl
  · cases h
theorem sh_Law_portAfter (kk : Nat) : ∀ as G r, A_Law_portAfter kk as G = some r → as.length = 3 := by
  intro as G r h
  unfold A_Law_portAfter at h
  split at h
  · rfl
  · cases h
theorem sh_Law_pillowsInTheWay (kk : Nat) : ∀ as G r, A_Law_pillowsInTheWay kk as G = some r → as.length = 3 := by
  intro as G r h
  unfold A_Law_pillowsInTheWay at h
  split at h
  · rfl
  · cases h
theorem sh_Law_oldestIn (kk : Nat) : ∀ as G r, A_Law_oldestIn kk as G = some r → as.length = 3 := by
  intro as G r h
  unfold A_Law_oldestIn at h
  split at h
  · rfl
  · cases h
theorem sh_Law_heaviestPort (kk : Nat) : ∀ as G r, A_Law_heaviestPort kk as G = some r → as.length = 2 := by
  intro as G r h
  unfold A_Law_heaviestPort at h
  split at h
  · rfl
  · cases h
theorem sh_Law_pillowByTurn (kk : Nat) : ∀ as G r, A_Law_pillowByTurn kk as G = some r → as.length = 3 := by
  intro as G r h
  unfold A_Law_pillowByTurn at h
  split at h
  · rfl
  · cases h
theorem sh_Law_bayByWeight (kk : Nat) : ∀ as G r, A_Law_bayByWeight kk as G = some r → as.length = 3 := by
  intro as G r h
  unfold A_Law_bayByWeight at h
  split at h
  · rfl
  · cases h
theorem sh_Law_meanAge (kk : Nat) : ∀ as G r, A_Law_meanAge kk as G = some r → as.length = 2 := by
  intro as G r h
  unfold A_Law_meanAge at h
  split at h
  · rfl
  · cases h
theorem sh_Law_capsizedShare (kk : Nat) : ∀ as G r, A_Law_capsizedShare kk as G = some r → as.length = 2 := by
  intro as G r h
  unfold A_Law_capsizedShare at h
  split at h
  · rfl
  · cases h
theorem sh_Law_renderStack (kk : Nat) : ∀ as G r, A_Law_renderStack kk as G = some r → as.length = 3 := by
  intro as G r h
  unfold A_Law_renderStack at h
  split at h
  · rfl
  · cases h
theorem sh_Law_outputAt (kk : Nat) : ∀ as G r, A_Law_outputAt kk as G = some r → as.length = 3 := by
  intro as G r h
  unfold A_Law_outputAt at h
  split at h
  · rfl
  · cases h
theorem sh_Law_type (kk : Nat) : ∀ as G r, A_Law_type kk as G = some r → as.length = 3 := by
  intro as G r h
  unfold A_Law_type at h
  split at h
  · rfl
  · cases h
theorem sh_Law_runScript (kk : Nat) : ∀ as G r, A_Law_runScript kk as G = some r → as.length = 2 := by
  intro as G r h
  unfold A_Law_runScript at h
  split at h
  · rfl
  · cases h
theorem sh_Law_errorPosition (kk : Nat) : ∀ as G r, A_Law_errorPosition kk as G = some r → as.length = 2 := by
  intro as G r h
  unfold A_Law_errorPosition at h
  split at h
  · rfl
  · cases h
theorem sh_Law_failedCommand (kk : Nat) : ∀ as G r, A_Law_failedCommand kk as G = some r → as.length = 2 := by
  intro as G r h
  unfold A_Law_failedCommand at h
  split at h
  · rfl
  · cases h
theorem sh_Law_undo (kk : Nat) : ∀ as G r, A_Law_undo kk as G = some r → as.length = 2 := by
  intro as G r h
  unfold A_Law_undo at h
  split at h
  · rfl
  · cases h
theorem sh_Law_restore (kk : Nat) : ∀ as G r, A_Law_restore kk as G = some r → as.length = 2 := by
  intro as G r h
  unfold A_Law_restore at h
  split at h
  · rfl
  · cases h
theorem ro_Cargo_copyFrom (kk : Nat) : RunOK 0 2 T_Cargo_copyFrom (call_Cargo_copyFrom kk) (fun _ => []) (bk_Cargo_copyFrom kk) kk (A_Cargo_copyFrom kk) := by
  refine ⟨fun as G r h => ?_, fun pc ls st G r h => ?_, fun k pc ls st G r h => ?_⟩
  · unfold A_Cargo_copyFrom at h
    split at h
    · exact ⟨by simp [ai_cat, Value.category], Nat.le_of_ble_eq_true rfl, fun sc => (R_Cargo_copyFrom sc kk _ _ G).trans h⟩
    · cases h
  · cases h
  · cases h
theorem ro_PB_isBay (kk : Nat) : RunOK 0 1 T_PB_isBay (call_PB_isBay kk) (fun _ => []) (bk_PB_isBay kk) kk (A_PB_isBay kk) := by
  refine ⟨fun as G r h => ?_, fun pc ls st G r h => ?_, fun k pc ls st G r h => ?_⟩
  · unfold A_PB_isBay at h
    split at h
    · exact ⟨by simp [ai_cat, Value.category], Nat.le_of_ble_eq_true rfl, fun sc => (R_PB_isBay sc kk _ G).trans h⟩
    · cases h
  · cases h
  · cases h
theorem ro_Cargo_heightOf (kk : Nat) : RunOK 0 2 T_Cargo_heightOf (call_Cargo_heightOf kk) (fun _ => []) (bk_Cargo_heightOf kk) kk (A_Cargo_heightOf kk) := by
  refine ⟨fun as G r h => ?_, fun pc ls st G r h => ?_, fun k pc ls st G r h => ?_⟩
  · unfold A_Cargo_heightOf at h
    split at h
    · exact ⟨by simp [ai_cat, Value.category], Nat.le_of_ble_eq_true rfl, fun sc => (R_Cargo_heightOf sc kk _ _ G).trans h⟩
    · cases h
  · cases h
  · cases h
theorem ro_Cargo_isTaken (kk : Nat) : RunOK 0 2 T_Cargo_isTaken (call_Cargo_isTaken kk) (fun _ => []) (bk_Cargo_isTaken kk) kk (A_Cargo_isTaken kk) := by
  refine ⟨fun as G r h => ?_, fun pc ls st G r h => ?_, fun k pc ls st G r h => ?_⟩
  · unfold A_Cargo_isTaken at h
    split at h
    · exact ⟨by simp [ai_cat, Value.category], Nat.le_of_ble_eq_true rfl, fun sc => (R_Cargo_isTaken sc kk _ _ G).trans h⟩
    · cases h
  · cases h
  · cases h
theorem ro_Cargo_slotAt (kk : Nat) : RunOK 0 4 T_Cargo_slotAt (call_Cargo_slotAt kk) (fun _ => []) (bk_Cargo_slotAt kk) kk (A_Cargo_slotAt kk) := by
  refine ⟨fun as G r h => ?_, fun pc ls st G r h => ?_, fun k pc ls st G r h => ?_⟩
  · unfold A_Cargo_slotAt at h
    split at h
    · exact ⟨by simp [ai_cat, Value.category], Nat.le_of_ble_eq_true rfl, fun sc => (R_Cargo_slotAt sc kk _ _ _ G).trans h⟩
    · cases h
  · cases h
  · cases h
theorem ro_Cargo_topSlot (kk : Nat) : RunOK 0 2 T_Cargo_topSlot (call_Cargo_topSlot kk) (fun _ => []) (bk_Cargo_topSlot kk) kk (A_Cargo_topSlot kk) := by
  refine ⟨fun as G r h => ?_, fun pc ls st G r h => ?_, fun k pc ls st G r h => ?_⟩
  · unfold A_Cargo_topSlot at h
    split at h
    · exact ⟨by simp [ai_cat, Value.category], Nat.le_of_ble_eq_true rfl, fun sc => (R_Cargo_topSlot sc kk _ _ G).trans h⟩
    · cases h
  · cases h
  · cases h
theorem ro_Cargo_slotOf (kk : Nat) : RunOK 0 3 T_Cargo_slotOf (call_Cargo_slotOf kk) (fun _ => []) (bk_Cargo_slotOf kk) kk (A_Cargo_slotOf kk) := by
  refine ⟨fun as G r h => ?_, fun pc ls st G r h => ?_, fun k pc ls st G r h => ?_⟩
  · unfold A_Cargo_slotOf at h
    split at h
    · exact ⟨by simp [ai_cat, Value.category], Nat.le_of_ble_eq_true rfl, fun sc => (R_Cargo_slotOf sc kk _ _ G).trans h⟩
    · cases h
  · unfold bk_Cargo_slotOf at h
    split at h
    · split at h
      · cases (show (none : Res) = some r from h)
      · cases h
    · cases h
  · unfold bk_Cargo_slotOf at h
    split at h
    · rename_i hpc
      have hpc := Nat.eq_of_beq_eq_true hpc
      subst hpc
      split at h
      · exact ⟨_, rfl, fun sc => (R_Cargo_slotOf_2 sc kk k _ _ _ _).trans h⟩
      · cases h
    · cases h
theorem ro_PB_isSlot (kk : Nat) : RunOK 0 1 T_PB_isSlot (call_PB_isSlot kk) (fun _ => []) (bk_PB_isSlot kk) kk (A_PB_isSlot kk) := by
  refine ⟨fun as G r h => ?_, fun pc ls st G r h => ?_, fun k pc ls st G r h => ?_⟩
  · unfold A_PB_isSlot at h
    split at h
    · exact ⟨by simp [ai_cat, Value.category], Nat.le_of_ble_eq_true rfl, fun sc => (R_PB_isSlot sc kk _ G).trans h⟩
    · cases h
  · cases h
  · cases h
theorem ro_Cargo_numberIn (kk : Nat) : RunOK 0 2 T_Cargo_numberIn (call_Cargo_numberIn kk) (fun _ => []) (bk_Cargo_numberIn kk) kk (A_Cargo_numberIn kk) := by
  refine ⟨fun as G r h => ?_, fun pc ls st G r h => ?_, fun k pc ls st G r h => ?_⟩
  · unfold A_Cargo_numberIn at h
    split at h
    · exact ⟨by simp [ai_cat, Value.category], Nat.le_of_ble_eq_true rfl, fun sc => (R_Cargo_numberIn sc kk _ _ G).trans h⟩
    · cases h
  · cases h
  · cases h
theorem ro_Cargo_weightIn (kk : Nat) : RunOK 0 2 T_Cargo_weightIn (call_Cargo_weightIn kk) (fun _ => []) (bk_Cargo_weightIn kk) kk (A_Cargo_weightIn kk) := by
  refine ⟨fun as G r h => ?_, fun pc ls st G r h => ?_, fun k pc ls st G r h => ?_⟩
  · unfold A_Cargo_weightIn at h
    split at h
    · exact ⟨by simp [ai_cat, Value.category], Nat.le_of_ble_eq_true rfl, fun sc => (R_Cargo_weightIn sc kk _ _ G).trans h⟩
    · cases h
  · cases h
  · cases h
theorem ro_Cargo_destinationIn (kk : Nat) : RunOK 0 2 T_Cargo_destinationIn (call_Cargo_destinationIn kk) (fun _ => []) (bk_Cargo_destinationIn kk) kk (A_Cargo_destinationIn kk) := by
  refine ⟨fun as G r h => ?_, fun pc ls st G r h => ?_, fun k pc ls st G r h => ?_⟩
  · unfold A_Cargo_destinationIn at h
    split at h
    · exact ⟨by simp [ai_cat, Value.category], Nat.le_of_ble_eq_true rfl, fun sc => (R_Cargo_destinationIn sc kk _ _ G).trans h⟩
    · cases h
  · cases h
  · cases h
theorem ro_Cargo_dayIn (kk : Nat) : RunOK 0 2 T_Cargo_dayIn (call_Cargo_dayIn kk) (fun _ => []) (bk_Cargo_dayIn kk) kk (A_Cargo_dayIn kk) := by
  refine ⟨fun as G r h => ?_, fun pc ls st G r h => ?_, fun k pc ls st G r h => ?_⟩
  · unfold A_Cargo_dayIn at h
    split at h
    · exact ⟨by simp [ai_cat, Value.category], Nat.le_of_ble_eq_true rfl, fun sc => (R_Cargo_dayIn sc kk _ _ G).trans h⟩
    · cases h
  · cases h
  · cases h
theorem ro_Cargo_countPillows (kk : Nat) : RunOK 0 3 T_Cargo_countPillows (call_Cargo_countPillows kk) (fun _ => []) (bk_Cargo_countPillows kk) kk (A_Cargo_countPillows kk) := by
  refine ⟨fun as G r h => ?_, fun pc ls st G r h => ?_, fun k pc ls st G r h => ?_⟩
  · unfold A_Cargo_countPillows at h
    split at h
    · exact ⟨by simp [ai_cat, Value.category], Nat.le_of_ble_eq_true rfl, fun sc => (R_Cargo_countPillows sc kk _ G).trans h⟩
    · cases h
  · unfold bk_Cargo_countPillows at h
    split at h
    · split at h
      · cases (show (none : Res) = some r from h)
      · cases h
    · cases h
  · unfold bk_Cargo_countPillows at h
    split at h
    · rename_i hpc
      have hpc := Nat.eq_of_beq_eq_true hpc
      subst hpc
      split at h
      · exact ⟨_, rfl, fun sc => (R_Cargo_countPillows_4 sc kk k _ _ _ _).trans h⟩
      · cases h
    · cases h
theorem ro_Cargo_weightOfAll (kk : Nat) : RunOK 0 3 T_Cargo_weightOfAll (call_Cargo_weightOfAll kk) (fun _ => []) (bk_Cargo_weightOfAll kk) kk (A_Cargo_weightOfAll kk) := by
  refine ⟨fun as G r h => ?_, fun pc ls st G r h => ?_, fun k pc ls st G r h => ?_⟩
  · unfold A_Cargo_weightOfAll at h
    split at h
    · exact ⟨by simp [ai_cat, Value.category], Nat.le_of_ble_eq_true rfl, fun sc => (R_Cargo_weightOfAll sc kk _ G).trans h⟩
    · cases h
  · unfold bk_Cargo_weightOfAll at h
    split at h
    · split at h
      · cases (show (none : Res) = some r from h)
      · cases h
    · cases h
  · unfold bk_Cargo_weightOfAll at h
    split at h
    · rename_i hpc
      have hpc := Nat.eq_of_beq_eq_true hpc
      subst hpc
      split at h
      · exact ⟨_, rfl, fun sc => (R_Cargo_weightOfAll_4 sc kk k _ _ _ _).trans h⟩
      · cases h
    · cases h
theorem ro_Cargo_weightForPort (kk : Nat) : RunOK 0 4 T_Cargo_weightForPort (call_Cargo_weightForPort kk) (fun _ => []) (bk_Cargo_weightForPort kk) kk (A_Cargo_weightForPort kk) := by
  refine ⟨fun as G r h => ?_, fun pc ls st G r h => ?_, fun k pc ls st G r h => ?_⟩
  · unfold A_Cargo_weightForPort at h
    split at h
    · exact ⟨by simp [ai_cat, Value.category], Nat.le_of_ble_eq_true rfl, fun sc => (R_Cargo_weightForPort sc kk _ _ G).trans h⟩
    · cases h
  · unfold bk_Cargo_weightForPort at h
    split at h
    · split at h
      · cases (show (none : Res) = some r from h)
      · cases h
    · cases h
  · unfold bk_Cargo_weightForPort at h
    split at h
    · rename_i hpc
      have hpc := Nat.eq_of_beq_eq_true hpc
      subst hpc
      split at h
      · exact ⟨_, rfl, fun sc => (R_Cargo_weightForPort_4 sc kk k _ _ _ _ _).trans h⟩
      · cases h
    · cases h
theorem ro_Cargo_weightOfBay (kk : Nat) : RunOK 0 5 T_Cargo_weightOfBay (call_Cargo_weightOfBay kk) (fun _ => []) (bk_Cargo_weightOfBay kk) kk (A_Cargo_weightOfBay kk) := by
  refine ⟨fun as G r h => ?_, fun pc ls st G r h => ?_, fun k pc ls st G r h => ?_⟩
  · unfold A_Cargo_weightOfBay at h
    split at h
    · exact ⟨by simp [ai_cat, Value.category], Nat.le_of_ble_eq_true rfl, fun sc => (R_Cargo_weightOfBay sc kk _ _ G).trans h⟩
    · cases h
  · unfold bk_Cargo_weightOfBay at h
    split at h
    · split at h
      · cases (show (none : Res) = some r from h)
      · cases h
    · cases h
  · unfold bk_Cargo_weightOfBay at h
    split at h
    · rename_i hpc
      have hpc := Nat.eq_of_beq_eq_true hpc
      subst hpc
      split at h
      · exact ⟨_, rfl, fun sc => (R_Cargo_weightOfBay_4 sc kk k _ _ _ _ _).trans h⟩
      · cases h
    · cases h
theorem ro_PB_leverArm (kk : Nat) : RunOK 0 1 T_PB_leverArm (call_PB_leverArm kk) (fun _ => []) (bk_PB_leverArm kk) kk (A_PB_leverArm kk) := by
  refine ⟨fun as G r h => ?_, fun pc ls st G r h => ?_, fun k pc ls st G r h => ?_⟩
  · unfold A_PB_leverArm at h
    split at h
    · exact ⟨by simp [ai_cat, Value.category], Nat.le_of_ble_eq_true rfl, fun sc => (R_PB_leverArm sc kk _ G).trans h⟩
    · cases h
  · cases h
  · cases h
theorem ro_Cargo_momentOfPillows (kk : Nat) : RunOK 0 3 T_Cargo_momentOfPillows (call_Cargo_momentOfPillows kk) (fun _ => []) (bk_Cargo_momentOfPillows kk) kk (A_Cargo_momentOfPillows kk) := by
  refine ⟨fun as G r h => ?_, fun pc ls st G r h => ?_, fun k pc ls st G r h => ?_⟩
  · unfold A_Cargo_momentOfPillows at h
    split at h
    · exact ⟨by simp [ai_cat, Value.category], Nat.le_of_ble_eq_true rfl, fun sc => (R_Cargo_momentOfPillows sc kk _ G).trans h⟩
    · cases h
  · unfold bk_Cargo_momentOfPillows at h
    split at h
    · split at h
      · cases (show (none : Res) = some r from h)
      · cases h
    · cases h
  · unfold bk_Cargo_momentOfPillows at h
    split at h
    · rename_i hpc
      have hpc := Nat.eq_of_beq_eq_true hpc
      subst hpc
      split at h
      · exact ⟨_, rfl, fun sc => (R_Cargo_momentOfPillows_4 sc kk k _ _ _ _).trans h⟩
      · cases h
    · cases h
theorem ro_Cargo_momentOfBays (kk : Nat) : RunOK 0 3 T_Cargo_momentOfBays (call_Cargo_momentOfBays kk) (fun _ => []) (bk_Cargo_momentOfBays kk) kk (A_Cargo_momentOfBays kk) := by
  refine ⟨fun as G r h => ?_, fun pc ls st G r h => ?_, fun k pc ls st G r h => ?_⟩
  · unfold A_Cargo_momentOfBays at h
    split at h
    · exact ⟨by simp [ai_cat, Value.category], Nat.le_of_ble_eq_true rfl, fun sc => (R_Cargo_momentOfBays sc kk _ G).trans h⟩
    · cases h
  · unfold bk_Cargo_momentOfBays at h
    split at h
    · split at h
      · cases (show (none : Res) = some r from h)
      · cases h
    · cases h
  · unfold bk_Cargo_momentOfBays at h
    split at h
    · rename_i hpc
      have hpc := Nat.eq_of_beq_eq_true hpc
      subst hpc
      split at h
      · exact ⟨_, rfl, fun sc => (R_Cargo_momentOfBays_4 sc kk k _ _ _ _).trans h⟩
      · cases h
    · cases h
theorem ro_Cargo_put (kk : Nat) : RunOK 0 8 T_Cargo_put (call_Cargo_put kk) (fun _ => []) (bk_Cargo_put kk) kk (A_Cargo_put kk) := by
  refine ⟨fun as G r h => ?_, fun pc ls st G r h => ?_, fun k pc ls st G r h => ?_⟩
  · unfold A_Cargo_put at h
    split at h
    · exact ⟨by simp [ai_cat, Value.category], Nat.le_of_ble_eq_true rfl, fun sc => (R_Cargo_put sc kk _ _ _ _ _ _ G).trans h⟩
    · cases h
  · cases h
  · cases h
theorem ro_Cargo_removeTop (kk : Nat) : RunOK 0 2 T_Cargo_removeTop (call_Cargo_removeTop kk) (fun _ => []) (bk_Cargo_removeTop kk) kk (A_Cargo_removeTop kk) := by
  refine ⟨fun as G r h => ?_, fun pc ls st G r h => ?_, fun k pc ls st G r h => ?_⟩
  · unfold A_Cargo_removeTop at h
    split at h
    · exact ⟨by simp [ai_cat, Value.category], Nat.le_of_ble_eq_true rfl, fun sc => (R_Cargo_removeTop sc kk _ _ G).trans h⟩
    · cases h
  · cases h
  · cases h
theorem ro_History_placeAt (kk : Nat) : RunOK 0 2 T_History_placeAt (call_History_placeAt kk) (fun _ => []) (bk_History_placeAt kk) kk (A_History_placeAt kk) := by
  refine ⟨fun as G r h => ?_, fun pc ls st G r h => ?_, fun k pc ls st G r h => ?_⟩
  · unfold A_History_placeAt at h
    split at h
    · exact ⟨by simp [ai_cat, Value.category], Nat.le_of_ble_eq_true rfl, fun sc => (R_History_placeAt sc kk _ G).trans h⟩
    · cases h
  · cases h
  · cases h
theorem ro_Voyage_copyFrom (kk : Nat) : RunOK 0 2 T_Voyage_copyFrom (call_Voyage_copyFrom kk) (fun _ => []) (bk_Voyage_copyFrom kk) kk (A_Voyage_copyFrom kk) := by
  refine ⟨fun as G r h => ?_, fun pc ls st G r h => ?_, fun k pc ls st G r h => ?_⟩
  · unfold A_Voyage_copyFrom at h
    split at h
    · exact ⟨by simp [ai_cat, Value.category], Nat.le_of_ble_eq_true rfl, fun sc => (R_Voyage_copyFrom sc kk _ _ G).trans h⟩
    · cases h
  · cases h
  · cases h
theorem ro_Tally_copyFrom (kk : Nat) : RunOK 0 2 T_Tally_copyFrom (call_Tally_copyFrom kk) (fun _ => []) (bk_Tally_copyFrom kk) kk (A_Tally_copyFrom kk) := by
  refine ⟨fun as G r h => ?_, fun pc ls st G r h => ?_, fun k pc ls st G r h => ?_⟩
  · unfold A_Tally_copyFrom at h
    split at h
    · exact ⟨by simp [ai_cat, Value.category], Nat.le_of_ble_eq_true rfl, fun sc => (R_Tally_copyFrom sc kk _ _ G).trans h⟩
    · cases h
  · cases h
  · cases h
theorem ro_State_copyFrom (kk : Nat) : RunOK 0 2 T_State_copyFrom (call_State_copyFrom kk) (fun _ => []) (bk_State_copyFrom kk) kk (A_State_copyFrom kk) := by
  refine ⟨fun as G r h => ?_, fun pc ls st G r h => ?_, fun k pc ls st G r h => ?_⟩
  · unfold A_State_copyFrom at h
    split at h
    · exact ⟨by simp [ai_cat, Value.category], Nat.le_of_ble_eq_true rfl, fun sc => (R_State_copyFrom sc kk _ _ G).trans h⟩
    · cases h
  · cases h
  · cases h
theorem ro_History_draft (kk : Nat) : RunOK 0 3 T_History_draft (call_History_draft kk) (fun _ => []) (bk_History_draft kk) kk (A_History_draft kk) := by
  refine ⟨fun as G r h => ?_, fun pc ls st G r h => ?_, fun k pc ls st G r h => ?_⟩
  · unfold A_History_draft at h
    split at h
    · exact ⟨by simp [ai_cat, Value.category], Nat.le_of_ble_eq_true rfl, fun sc => (R_History_draft sc kk _ G).trans h⟩
    · cases h
  · cases h
  · cases h
theorem ro_History_keepDraft (kk : Nat) : RunOK 0 1 T_History_keepDraft (call_History_keepDraft kk) (fun _ => []) (bk_History_keepDraft kk) kk (A_History_keepDraft kk) := by
  refine ⟨fun as G r h => ?_, fun pc ls st G r h => ?_, fun k pc ls st G r h => ?_⟩
  · unfold A_History_keepDraft at h
    split at h
    · exact ⟨by simp [ai_cat, Value.category], Nat.le_of_ble_eq_true rfl, fun sc => (R_History_keepDraft sc kk G).trans h⟩
    · cases h
  · cases h
  · cases h
theorem ro_History_takeDraftBack (kk : Nat) : RunOK 0 3 T_History_takeDraftBack (call_History_takeDraftBack kk) (fun _ => []) (bk_History_takeDraftBack kk) kk (A_History_takeDraftBack kk) := by
  refine ⟨fun as G r h => ?_, fun pc ls st G r h => ?_, fun k pc ls st G r h => ?_⟩
  · unfold A_History_takeDraftBack at h
    split at h
    · exact ⟨by simp [ai_cat, Value.category], Nat.le_of_ble_eq_true rfl, fun sc => (R_History_takeDraftBack sc kk _ G).trans h⟩
    · cases h
  · cases h
  · cases h
theorem ro_History_takeLatestBack (kk : Nat) : RunOK 0 2 T_History_takeLatestBack (call_History_takeLatestBack kk) (fun _ => []) (bk_History_takeLatestBack kk) kk (A_History_takeLatestBack kk) := by
  refine ⟨fun as G r h => ?_, fun pc ls st G r h => ?_, fun k pc ls st G r h => ?_⟩
  · unfold A_History_takeLatestBack at h
    split at h
    · exact ⟨by simp [ai_cat, Value.category], Nat.le_of_ble_eq_true rfl, fun sc => (R_History_takeLatestBack sc kk _ G).trans h⟩
    · cases h
  · cases h
  · cases h
theorem ro_History_forget (kk : Nat) : RunOK 0 1 T_History_forget (call_History_forget kk) (fun _ => []) (bk_History_forget kk) kk (A_History_forget kk) := by
  refine ⟨fun as G r h => ?_, fun pc ls st G r h => ?_, fun k pc ls st G r h => ?_⟩
  · unfold A_History_forget at h
    split at h
    · exact ⟨by simp [ai_cat, Value.category], Nat.le_of_ble_eq_true rfl, fun sc => (R_History_forget sc kk G).trans h⟩
    · cases h
  · cases h
  · cases h
theorem ro_Script_isFull (kk : Nat) : RunOK 0 1 T_Script_isFull (call_Script_isFull kk) (fun _ => []) (bk_Script_isFull kk) kk (A_Script_isFull kk) := by
  refine ⟨fun as G r h => ?_, fun pc ls st G r h => ?_, fun k pc ls st G r h => ?_⟩
  · unfold A_Script_isFull at h
    split at h
    · exact ⟨by simp [ai_cat, Value.category], Nat.le_of_ble_eq_true rfl, fun sc => (R_Script_isFull sc kk G).trans h⟩
    · cases h
  · cases h
  · cases h
theorem ro_Script_append (kk : Nat) : RunOK 0 2 T_Script_append (call_Script_append kk) (fun _ => []) (bk_Script_append kk) kk (A_Script_append kk) := by
  refine ⟨fun as G r h => ?_, fun pc ls st G r h => ?_, fun k pc ls st G r h => ?_⟩
  · unfold A_Script_append at h
    split at h
    · exact ⟨by simp [ai_cat, Value.category], Nat.le_of_ble_eq_true rfl, fun sc => (R_Script_append sc kk _ G).trans h⟩
    · cases h
  · cases h
  · cases h
theorem ro_Script_empty (kk : Nat) : RunOK 0 1 T_Script_empty (call_Script_empty kk) (fun _ => []) (bk_Script_empty kk) kk (A_Script_empty kk) := by
  refine ⟨fun as G r h => ?_, fun pc ls st G r h => ?_, fun k pc ls st G r h => ?_⟩
  · unfold A_Script_empty at h
    split at h
    · exact ⟨by simp [ai_cat, Value.category], Nat.le_of_ble_eq_true rfl, fun sc => (R_Script_empty sc kk G).trans h⟩
    · cases h
  · cases h
  · cases h
theorem ro_Script_commandAt (kk : Nat) : RunOK 0 2 T_Script_commandAt (call_Script_commandAt kk) (fun _ => []) (bk_Script_commandAt kk) kk (A_Script_commandAt kk) := by
  refine ⟨fun as G r h => ?_, fun pc ls st G r h => ?_, fun k pc ls st G r h => ?_⟩
  · unfold A_Script_commandAt at h
    split at h
    · exact ⟨by simp [ai_cat, Value.category], Nat.le_of_ble_eq_true rfl, fun sc => (R_Script_commandAt sc kk _ G).trans h⟩
    · cases h
  · cases h
  · cases h
theorem ro_Script_argumentAt (kk : Nat) : RunOK 0 4 T_Script_argumentAt (call_Script_argumentAt kk) (fun _ => []) (bk_Script_argumentAt kk) kk (A_Script_argumentAt kk) := by
  refine ⟨fun as G r h => ?_, fun pc ls st G r h => ?_, fun k pc ls st G r h => ?_⟩
  · unfold A_Script_argumentAt at h
    split at h
    · exact ⟨by simp [ai_cat, Value.category], Nat.le_of_ble_eq_true rfl, fun sc => (R_Script_argumentAt sc kk _ _ G).trans h⟩
    · cases h
  · cases h
  · cases h
theorem ro_Script_keywordOf (kk : Nat) : RunOK 0 1 T_Script_keywordOf (call_Script_keywordOf kk) (fun _ => []) (bk_Script_keywordOf kk) kk (A_Script_keywordOf kk) := by
  refine ⟨fun as G r h => ?_, fun pc ls st G r h => ?_, fun k pc ls st G r h => ?_⟩
  · unfold A_Script_keywordOf at h
    split at h
    · exact ⟨by simp [ai_cat, Value.category], Nat.le_of_ble_eq_true rfl, fun sc => (R_Script_keywordOf sc kk _ G).trans h⟩
    · cases h
  · cases h
  · cases h
theorem ro_Script_isNext (kk : Nat) : RunOK 0 4 T_Script_isNext (call_Script_isNext kk) (fun _ => []) (bk_Script_isNext kk) kk (A_Script_isNext kk) := by
  refine ⟨fun as G r h => ?_, fun pc ls st G r h => ?_, fun k pc ls st G r h => ?_⟩
  · unfold A_Script_isNext at h
    split at h
    · exact ⟨by simp [ai_cat, Value.category], Nat.le_of_ble_eq_true rfl, fun sc => (R_Script_isNext sc kk _ _ G).trans h⟩
    · cases h
  · cases h
  · cases h
theorem ro_Script_countMatching (kk : Nat) : RunOK 0 3 T_Script_countMatching (call_Script_countMatching kk) (fun _ => []) (bk_Script_countMatching kk) kk (A_Script_countMatching kk) := by
  refine ⟨fun as G r h => ?_, fun pc ls st G r h => ?_, fun k pc ls st G r h => ?_⟩
  · unfold A_Script_countMatching at h
    split at h
    · exact ⟨by simp [ai_cat, Value.category], Nat.le_of_ble_eq_true rfl, fun sc => (R_Script_countMatching sc kk _ G).trans h⟩
    · cases h
  · unfold bk_Script_countMatching at h
    split at h
    · split at h
      · cases (show (none : Res) = some r from h)
      · cases h
    · cases h
  · unfold bk_Script_countMatching at h
    split at h
    · rename_i hpc
      have hpc := Nat.eq_of_beq_eq_true hpc
      subst hpc
      split at h
      · exact ⟨_, rfl, fun sc => (R_Script_countMatching_2 sc kk k _ _ _).trans h⟩
      · cases h
    · cases h
theorem ro_Script_readKeyword (kk : Nat) : RunOK 0 5 T_Script_readKeyword (call_Script_readKeyword kk) (fun _ => []) (bk_Script_readKeyword kk) kk (A_Script_readKeyword kk) := by
  refine ⟨fun as G r h => ?_, fun pc ls st G r h => ?_, fun k pc ls st G r h => ?_⟩
  · unfold A_Script_readKeyword at h
    split at h
    · exact ⟨by simp [ai_cat, Value.category], Nat.le_of_ble_eq_true rfl, fun sc => (R_Script_readKeyword sc kk G).trans h⟩
    · cases h
  · unfold bk_Script_readKeyword at h
    split at h
    · split at h
      · cases (show (none : Res) = some r from h)
      · cases h
    · cases h
  · unfold bk_Script_readKeyword at h
    split at h
    · rename_i hpc
      have hpc := Nat.eq_of_beq_eq_true hpc
      subst hpc
      split at h
      · exact ⟨_, rfl, fun sc => (R_Script_readKeyword_4 sc kk k _ _ _).trans h⟩
      · cases h
    · cases h
theorem ro_Script_takeDigit (kk : Nat) : RunOK 0 2 T_Script_takeDigit (call_Script_takeDigit kk) (fun _ => []) (bk_Script_takeDigit kk) kk (A_Script_takeDigit kk) := by
  refine ⟨fun as G r h => ?_, fun pc ls st G r h => ?_, fun k pc ls st G r h => ?_⟩
  · unfold A_Script_takeDigit at h
    split at h
    · exact ⟨by simp [ai_cat, Value.category], Nat.le_of_ble_eq_true rfl, fun sc => (R_Script_takeDigit sc kk G).trans h⟩
    · cases h
  · cases h
  · cases h
theorem ro_Script_setArgument (kk : Nat) : RunOK 0 4 T_Script_setArgument (call_Script_setArgument kk) (fun _ => []) (bk_Script_setArgument kk) kk (A_Script_setArgument kk) := by
  refine ⟨fun as G r h => ?_, fun pc ls st G r h => ?_, fun k pc ls st G r h => ?_⟩
  · unfold A_Script_setArgument at h
    split at h
    · exact ⟨by simp [ai_cat, Value.category], Nat.le_of_ble_eq_true rfl, fun sc => (R_Script_setArgument sc kk _ _ G).trans h⟩
    · cases h
  · cases h
  · cases h
theorem ro_Script_readDigit (kk : Nat) : RunOK 0 3 T_Script_readDigit (call_Script_readDigit kk) (fun _ => []) (bk_Script_readDigit kk) kk (A_Script_readDigit kk) := by
  refine ⟨fun as G r h => ?_, fun pc ls st G r h => ?_, fun k pc ls st G r h => ?_⟩
  · unfold A_Script_readDigit at h
    split at h
    · exact ⟨by simp [ai_cat, Value.category], Nat.le_of_ble_eq_true rfl, fun sc => (R_Script_readDigit sc kk _ G).trans h⟩
    · cases h
  · cases h
  · cases h
theorem ro_Script_accept (kk : Nat) : RunOK 0 3 T_Script_accept (call_Script_accept kk) (fun _ => []) (bk_Script_accept kk) kk (A_Script_accept kk) := by
  refine ⟨fun as G r h => ?_, fun pc ls st G r h => ?_, fun k pc ls st G r h => ?_⟩
  · unfold A_Script_accept at h
    split at h
    · exact ⟨by simp [ai_cat, Value.category], Nat.le_of_ble_eq_true rfl, fun sc => (R_Script_accept sc kk _ G).trans h⟩
    · cases h
  · cases h
  · cases h
theorem ro_Script_readNumber (kk : Nat) : RunOK 0 4 T_Script_readNumber (call_Script_readNumber kk) (fun _ => []) (bk_Script_readNumber kk) kk (A_Script_readNumber kk) := by
  refine ⟨fun as G r h => ?_, fun pc ls st G r h => ?_, fun k pc ls st G r h => ?_⟩
  · unfold A_Script_readNumber at h
    split at h
    · exact ⟨by simp [ai_cat, Value.category], Nat.le_of_ble_eq_true rfl, fun sc => (R_Script_readNumber sc kk _ G).trans h⟩
    · cases h
  · cases h
  · cases h
theorem ro_Script_readSignedNumber (kk : Nat) : RunOK 0 4 T_Script_readSignedNumber (call_Script_readSignedNumber kk) (fun _ => []) (bk_Script_readSignedNumber kk) kk (A_Script_readSignedNumber kk) := by
  refine ⟨fun as G r h => ?_, fun pc ls st G r h => ?_, fun k pc ls st G r h => ?_⟩
  · unfold A_Script_readSignedNumber at h
    split at h
    · exact ⟨by simp [ai_cat, Value.category], Nat.le_of_ble_eq_true rfl, fun sc => (R_Script_readSignedNumber sc kk _ G).trans h⟩
    · cases h
  · cases h
  · cases h
theorem ro_Script_readCommand (kk : Nat) : RunOK 0 2 T_Script_readCommand (call_Script_readCommand kk) (fun _ => []) (bk_Script_readCommand kk) kk (A_Script_readCommand kk) := by
  refine ⟨fun as G r h => ?_, fun pc ls st G r h => ?_, fun k pc ls st G r h => ?_⟩
  · unfold A_Script_readCommand at h
    split at h
    · exact ⟨by simp [ai_cat, Value.category], Nat.le_of_ble_eq_true rfl, fun sc => (R_Script_readCommand sc kk G).trans h⟩
    · cases h
  · unfold bk_Script_readCommand at h
    split at h
    · split at h
      · cases (show (none : Res) = some r from h)
      · cases h
    · cases h
  · unfold bk_Script_readCommand at h
    split at h
    · rename_i hpc
      have hpc := Nat.eq_of_beq_eq_true hpc
      subst hpc
      split at h
      · exact ⟨_, rfl, fun sc => (R_Script_readCommand_31 sc kk k _ _).trans h⟩
      · cases h
    · cases h
theorem ro_Script_parse (kk : Nat) : RunOK 0 1 T_Script_parse (call_Script_parse kk) (fun _ => []) (bk_Script_parse kk) kk (A_Script_parse kk) := by
  refine ⟨fun as G r h => ?_, fun pc ls st G r h => ?_, fun k pc ls st G r h => ?_⟩
  · unfold A_Script_parse at h
    split at h
    · exact ⟨by simp [ai_cat, Value.category], Nat.le_of_ble_eq_true rfl, fun sc => (R_Script_parse sc kk G).trans h⟩
    · cases h
  · unfold bk_Script_parse at h
    split at h
    · split at h
      · cases (show (none : Res) = some r from h)
      · cases h
    · cases h
  · unfold bk_Script_parse at h
    split at h
    · rename_i hpc
      have hpc := Nat.eq_of_beq_eq_true hpc
      subst hpc
      split at h
      · exact ⟨_, rfl, fun sc => (R_Script_parse_10 sc kk k _).trans h⟩
      · cases h
    · cases h
theorem ro_State_isWithinLimit (kk : Nat) : RunOK 0 2 T_State_isWithinLimit (call_State_isWithinLimit kk) (fun _ => []) (bk_State_isWithinLimit kk) kk (A_State_isWithinLimit kk) := by
  refine ⟨fun as G r h => ?_, fun pc ls st G r h => ?_, fun k pc ls st G r h => ?_⟩
  · unfold A_State_isWithinLimit at h
    split at h
    · exact ⟨by simp [ai_cat, Value.category], Nat.le_of_ble_eq_true rfl, fun sc => (R_State_isWithinLimit sc kk _ _ G).trans h⟩
    · cases h
  · cases h
  · cases h
theorem ro_Voyage_countLegsTo (kk : Nat) : RunOK 0 2 T_Voyage_countLegsTo (call_Voyage_countLegsTo kk) (fun _ => []) (bk_Voyage_countLegsTo kk) kk (A_Voyage_countLegsTo kk) := by
  refine ⟨fun as G r h => ?_, fun pc ls st G r h => ?_, fun k pc ls st G r h => ?_⟩
  · unfold A_Voyage_countLegsTo at h
    split at h
    · exact ⟨by simp [ai_cat, Value.category], Nat.le_of_ble_eq_true rfl, fun sc => (R_Voyage_countLegsTo sc kk _ _ G).trans h⟩
    · cases h
  · cases h
  · cases h
theorem ro_State_legsIn (kk : Nat) : RunOK 0 2 T_State_legsIn (call_State_legsIn kk) (fun _ => []) (bk_State_legsIn kk) kk (A_State_legsIn kk) := by
  refine ⟨fun as G r h => ?_, fun pc ls st G r h => ?_, fun k pc ls st G r h => ?_⟩
  · unfold A_State_legsIn at h
    split at h
    · exact ⟨by simp [ai_cat, Value.category], Nat.le_of_ble_eq_true rfl, fun sc => (R_State_legsIn sc kk _ _ G).trans h⟩
    · cases h
  · cases h
  · cases h
theorem ro_State_ageIn (kk : Nat) : RunOK 0 2 T_State_ageIn (call_State_ageIn kk) (fun _ => []) (bk_State_ageIn kk) kk (A_State_ageIn kk) := by
  refine ⟨fun as G r h => ?_, fun pc ls st G r h => ?_, fun k pc ls st G r h => ?_⟩
  · unfold A_State_ageIn at h
    split at h
    · exact ⟨by simp [ai_cat, Value.category], Nat.le_of_ble_eq_true rfl, fun sc => (R_State_ageIn sc kk _ _ G).trans h⟩
    · cases h
  · cases h
  · cases h
theorem ro_PB_isWeight (kk : Nat) : RunOK 0 1 T_PB_isWeight (call_PB_isWeight kk) (fun _ => []) (bk_PB_isWeight kk) kk (A_PB_isWeight kk) := by
  refine ⟨fun as G r h => ?_, fun pc ls st G r h => ?_, fun k pc ls st G r h => ?_⟩
  · unfold A_PB_isWeight at h
    split at h
    · exact ⟨by simp [ai_cat, Value.category], Nat.le_of_ble_eq_true rfl, fun sc => (R_PB_isWeight sc kk _ G).trans h⟩
    · cases h
  · cases h
  · cases h
theorem ro_PB_isPort (kk : Nat) : RunOK 0 1 T_PB_isPort (call_PB_isPort kk) (fun _ => []) (bk_PB_isPort kk) kk (A_PB_isPort kk) := by
  refine ⟨fun as G r h => ?_, fun pc ls st G r h => ?_, fun k pc ls st G r h => ?_⟩
  · unfold A_PB_isPort at h
    split at h
    · exact ⟨by simp [ai_cat, Value.category], Nat.le_of_ble_eq_true rfl, fun sc => (R_PB_isPort sc kk _ G).trans h⟩
    · cases h
  · cases h
  · cases h
theorem ro_State_faultOfMoment (kk : Nat) : RunOK 0 2 T_State_faultOfMoment (call_State_faultOfMoment kk) (fun _ => []) (bk_State_faultOfMoment kk) kk (A_State_faultOfMoment kk) := by
  refine ⟨fun as G r h => ?_, fun pc ls st G r h => ?_, fun k pc ls st G r h => ?_⟩
  · unfold A_State_faultOfMoment at h
    split at h
    · exact ⟨by simp [ai_cat, Value.category], Nat.le_of_ble_eq_true rfl, fun sc => (R_State_faultOfMoment sc kk _ _ G).trans h⟩
    · cases h
  · cases h
  · cases h
theorem ro_State_faultOfLoad (kk : Nat) : RunOK 0 4 T_State_faultOfLoad (call_State_faultOfLoad kk) (fun _ => []) (bk_State_faultOfLoad kk) kk (A_State_faultOfLoad kk) := by
  refine ⟨fun as G r h => ?_, fun pc ls st G r h => ?_, fun k pc ls st G r h => ?_⟩
  · unfold A_State_faultOfLoad at h
    split at h
    · exact ⟨by simp [ai_cat, Value.category], Nat.le_of_ble_eq_true rfl, fun sc => (R_State_faultOfLoad sc kk _ _ _ _ G).trans h⟩
    · cases h
  · cases h
  · cases h
theorem ro_State_faultOfUnload (kk : Nat) : RunOK 0 3 T_State_faultOfUnload (call_State_faultOfUnload kk) (fun _ => []) (bk_State_faultOfUnload kk) kk (A_State_faultOfUnload kk) := by
  refine ⟨fun as G r h => ?_, fun pc ls st G r h => ?_, fun k pc ls st G r h => ?_⟩
  · unfold A_State_faultOfUnload at h
    split at h
    · exact ⟨by simp [ai_cat, Value.category], Nat.le_of_ble_eq_true rfl, fun sc => (R_State_faultOfUnload sc kk _ _ G).trans h⟩
    · cases h
  · cases h
  · cases h
theorem ro_State_faultOfShift (kk : Nat) : RunOK 0 4 T_State_faultOfShift (call_State_faultOfShift kk) (fun _ => []) (bk_State_faultOfShift kk) kk (A_State_faultOfShift kk) := by
  refine ⟨fun as G r h => ?_, fun pc ls st G r h => ?_, fun k pc ls st G r h => ?_⟩
  · unfold A_State_faultOfShift at h
    split at h
    · exact ⟨by simp [ai_cat, Value.category], Nat.le_of_ble_eq_true rfl, fun sc => (R_State_faultOfShift sc kk _ _ _ G).trans h⟩
    · cases h
  · cases h
  · cases h
theorem ro_State_faultOfLimit (kk : Nat) : RunOK 0 2 T_State_faultOfLimit (call_State_faultOfLimit kk) (fun _ => []) (bk_State_faultOfLimit kk) kk (A_State_faultOfLimit kk) := by
  refine ⟨fun as G r h => ?_, fun pc ls st G r h => ?_, fun k pc ls st G r h => ?_⟩
  · unfold A_State_faultOfLimit at h
    split at h
    · exact ⟨by simp [ai_cat, Value.category], Nat.le_of_ble_eq_true rfl, fun sc => (R_State_faultOfLimit sc kk _ _ G).trans h⟩
    · cases h
  · cases h
  · cases h
theorem ro_State_faultOf (kk : Nat) : RunOK 0 5 T_State_faultOf (call_State_faultOf kk) (fun _ => []) (bk_State_faultOf kk) kk (A_State_faultOf kk) := by
  refine ⟨fun as G r h => ?_, fun pc ls st G r h => ?_, fun k pc ls st G r h => ?_⟩
  · unfold A_State_faultOf at h
    split at h
    · exact ⟨by simp [ai_cat, Value.category], Nat.le_of_ble_eq_true rfl, fun sc => (R_State_faultOf sc kk _ _ _ _ _ G).trans h⟩
    · cases h
  · cases h
  · cases h
theorem ro_State_addPillow (kk : Nat) : RunOK 0 5 T_State_addPillow (call_State_addPillow kk) (fun _ => []) (bk_State_addPillow kk) kk (A_State_addPillow kk) := by
  refine ⟨fun as G r h => ?_, fun pc ls st G r h => ?_, fun k pc ls st G r h => ?_⟩
  · unfold A_State_addPillow at h
    split at h
    · exact ⟨by simp [ai_cat, Value.category], Nat.le_of_ble_eq_true rfl, fun sc => (R_State_addPillow sc kk _ _ _ _ G).trans h⟩
    · cases h
  · cases h
  · cases h
theorem ro_State_deliverTop (kk : Nat) : RunOK 0 4 T_State_deliverTop (call_State_deliverTop kk) (fun _ => []) (bk_State_deliverTop kk) kk (A_State_deliverTop kk) := by
  refine ⟨fun as G r h => ?_, fun pc ls st G r h => ?_, fun k pc ls st G r h => ?_⟩
  · unfold A_State_deliverTop at h
    split at h
    · exact ⟨by simp [ai_cat, Value.category], Nat.le_of_ble_eq_true rfl, fun sc => (R_State_deliverTop sc kk _ _ G).trans h⟩
    · cases h
  · cases h
  · cases h
theorem ro_State_moveTop (kk : Nat) : RunOK 0 5 T_State_moveTop (call_State_moveTop kk) (fun _ => []) (bk_State_moveTop kk) kk (A_State_moveTop kk) := by
  refine ⟨fun as G r h => ?_, fun pc ls st G r h => ?_, fun k pc ls st G r h => ?_⟩
  · unfold A_State_moveTop at h
    split at h
    · exact ⟨by simp [ai_cat, Value.category], Nat.le_of_ble_eq_true rfl, fun sc => (R_State_moveTop sc kk _ _ _ G).trans h⟩
    · cases h
  · cases h
  · cases h
theorem ro_Voyage_portIn (kk : Nat) : RunOK 0 2 T_Voyage_portIn (call_Voyage_portIn kk) (fun _ => []) (bk_Voyage_portIn kk) kk (A_Voyage_portIn kk) := by
  refine ⟨fun as G r h => ?_, fun pc ls st G r h => ?_, fun k pc ls st G r h => ?_⟩
  · unfold A_Voyage_portIn at h
    split at h
    · exact ⟨by simp [ai_cat, Value.category], Nat.le_of_ble_eq_true rfl, fun sc => (R_Voyage_portIn sc kk _ _ G).trans h⟩
    · cases h
  · cases h
  · cases h
theorem ro_Voyage_advance (kk : Nat) : RunOK 0 2 T_Voyage_advance (call_Voyage_advance kk) (fun _ => []) (bk_Voyage_advance kk) kk (A_Voyage_advance kk) := by
  refine ⟨fun as G r h => ?_, fun pc ls st G r h => ?_, fun k pc ls st G r h => ?_⟩
  · unfold A_Voyage_advance at h
    split at h
    · exact ⟨by simp [ai_cat, Value.category], Nat.le_of_ble_eq_true rfl, fun sc => (R_Voyage_advance sc kk _ _ G).trans h⟩
    · cases h
  · cases h
  · cases h
theorem ro_Voyage_reverse (kk : Nat) : RunOK 0 1 T_Voyage_reverse (call_Voyage_reverse kk) (fun _ => []) (bk_Voyage_reverse kk) kk (A_Voyage_reverse kk) := by
  refine ⟨fun as G r h => ?_, fun pc ls st G r h => ?_, fun k pc ls st G r h => ?_⟩
  · unfold A_Voyage_reverse at h
    split at h
    · exact ⟨by simp [ai_cat, Value.category], Nat.le_of_ble_eq_true rfl, fun sc => (R_Voyage_reverse sc kk _ G).trans h⟩
    · cases h
  · cases h
  · cases h
theorem ro_State_replaceLimit (kk : Nat) : RunOK 0 3 T_State_replaceLimit (call_State_replaceLimit kk) (fun _ => []) (bk_State_replaceLimit kk) kk (A_State_replaceLimit kk) := by
  refine ⟨fun as G r h => ?_, fun pc ls st G r h => ?_, fun k pc ls st G r h => ?_⟩
  · unfold A_State_replaceLimit at h
    split at h
    · exact ⟨by simp [ai_cat, Value.category], Nat.le_of_ble_eq_true rfl, fun sc => (R_State_replaceLimit sc kk _ _ G).trans h⟩
    · cases h
  · cases h
  · cases h
theorem ro_State_practise (kk : Nat) : RunOK 0 3 T_State_practise (call_State_practise kk) (fun _ => []) (bk_State_practise kk) kk (A_State_practise kk) := by
  refine ⟨fun as G r h => ?_, fun pc ls st G r h => ?_, fun k pc ls st G r h => ?_⟩
  · unfold A_State_practise at h
    split at h
    · exact ⟨by simp [ai_cat, Value.category], Nat.le_of_ble_eq_true rfl, fun sc => (R_State_practise sc kk _ _ G).trans h⟩
    · cases h
  · unfold bk_State_practise at h
    split at h
    · split at h
      · cases (show (none : Res) = some r from h)
      · cases h
    · cases h
  · unfold bk_State_practise at h
    split at h
    · rename_i hpc
      have hpc := Nat.eq_of_beq_eq_true hpc
      subst hpc
      split at h
      · exact ⟨_, rfl, fun sc => (R_State_practise_21 sc kk k _ _ _).trans h⟩
      · cases h
    · cases h
theorem ro_State_perform (kk : Nat) : RunOK 0 5 T_State_perform (call_State_perform kk) (fun _ => []) (bk_State_perform kk) kk (A_State_perform kk) := by
  refine ⟨fun as G r h => ?_, fun pc ls st G r h => ?_, fun k pc ls st G r h => ?_⟩
  · unfold A_State_perform at h
    split at h
    · exact ⟨by simp [ai_cat, Value.category], Nat.le_of_ble_eq_true rfl, fun sc => (R_State_perform sc kk _ _ _ _ _ G).trans h⟩
    · cases h
  · cases h
  · cases h
theorem ro_PB_throwFault (kk : Nat) : RunOK 1 1 T_PB_throwFault (call_PB_throwFault kk) (fun _ => []) (bk_PB_throwFault kk) kk (A_PB_throwFault kk) := by
  refine ⟨fun as G r h => ?_, fun pc ls st G r h => ?_, fun k pc ls st G r h => ?_⟩
  · unfold A_PB_throwFault at h
    split at h
    · exact ⟨by simp [ai_cat, Value.category], Nat.le_of_ble_eq_true rfl, fun sc => (R_PB_throwFault sc kk _ G).trans h⟩
    · cases h
  · cases h
  · cases h
theorem ro_PB_change (kk : Nat) : RunOK 1 5 T_PB_change (call_PB_change kk) (fun _ => []) (bk_PB_change kk) kk (A_PB_change kk) := by
  refine ⟨fun as G r h => ?_, fun pc ls st G r h => ?_, fun k pc ls st G r h => ?_⟩
  · unfold A_PB_change at h
    split at h
    · exact ⟨by simp [ai_cat, Value.category], Nat.le_of_ble_eq_true rfl, fun sc => (R_PB_change sc kk _ _ _ _ G).trans h⟩
    · cases h
  · cases h
  · cases h
theorem ro_PB_load (kk : Nat) : RunOK 1 4 T_PB_load (call_PB_load kk) (fun _ => []) (bk_PB_load kk) kk (A_PB_load kk) := by
  refine ⟨fun as G r h => ?_, fun pc ls st G r h => ?_, fun k pc ls st G r h => ?_⟩
  · unfold A_PB_load at h
    split at h
    · exact ⟨by simp [ai_cat, Value.category], Nat.le_of_ble_eq_true rfl, fun sc => (R_PB_load sc kk _ _ _ G).trans h⟩
    · cases h
  · cases h
  · cases h
theorem ro_PB_unload (kk : Nat) : RunOK 1 2 T_PB_unload (call_PB_unload kk) (fun _ => []) (bk_PB_unload kk) kk (A_PB_unload kk) := by
  refine ⟨fun as G r h => ?_, fun pc ls st G r h => ?_, fun k pc ls st G r h => ?_⟩
  · unfold A_PB_unload at h
    split at h
    · exact ⟨by simp [ai_cat, Value.category], Nat.le_of_ble_eq_true rfl, fun sc => (R_PB_unload sc kk _ G).trans h⟩
    · cases h
  · cases h
  · cases h
theorem ro_PB_shift (kk : Nat) : RunOK 1 3 T_PB_shift (call_PB_shift kk) (fun _ => []) (bk_PB_shift kk) kk (A_PB_shift kk) := by
  refine ⟨fun as G r h => ?_, fun pc ls st G r h => ?_, fun k pc ls st G r h => ?_⟩
  · unfold A_PB_shift at h
    split at h
    · exact ⟨by simp [ai_cat, Value.category], Nat.le_of_ble_eq_true rfl, fun sc => (R_PB_shift sc kk _ _ G).trans h⟩
    · cases h
  · cases h
  · cases h
theorem ro_PB_sail (kk : Nat) : RunOK 1 2 T_PB_sail (call_PB_sail kk) (fun _ => []) (bk_PB_sail kk) kk (A_PB_sail kk) := by
  refine ⟨fun as G r h => ?_, fun pc ls st G r h => ?_, fun k pc ls st G r h => ?_⟩
  · unfold A_PB_sail at h
    split at h
    · exact ⟨by simp [ai_cat, Value.category], Nat.le_of_ble_eq_true rfl, fun sc => (R_PB_sail sc kk _ G).trans h⟩
    · cases h
  · cases h
  · cases h
theorem ro_PB_turn (kk : Nat) : RunOK 1 1 T_PB_turn (call_PB_turn kk) (fun _ => []) (bk_PB_turn kk) kk (A_PB_turn kk) := by
  refine ⟨fun as G r h => ?_, fun pc ls st G r h => ?_, fun k pc ls st G r h => ?_⟩
  · unfold A_PB_turn at h
    split at h
    · exact ⟨by simp [ai_cat, Value.category], Nat.le_of_ble_eq_true rfl, fun sc => (R_PB_turn sc kk G).trans h⟩
    · cases h
  · cases h
  · cases h
theorem ro_PB_setLimit (kk : Nat) : RunOK 1 2 T_PB_setLimit (call_PB_setLimit kk) (fun _ => []) (bk_PB_setLimit kk) kk (A_PB_setLimit kk) := by
  refine ⟨fun as G r h => ?_, fun pc ls st G r h => ?_, fun k pc ls st G r h => ?_⟩
  · unfold A_PB_setLimit at h
    split at h
    · exact ⟨by simp [ai_cat, Value.category], Nat.le_of_ble_eq_true rfl, fun sc => (R_PB_setLimit sc kk _ G).trans h⟩
    · cases h
  · cases h
  · cases h
theorem ro_PB_drill (kk : Nat) : RunOK 1 2 T_PB_drill (call_PB_drill kk) (fun _ => []) (bk_PB_drill kk) kk (A_PB_drill kk) := by
  refine ⟨fun as G r h => ?_, fun pc ls st G r h => ?_, fun k pc ls st G r h => ?_⟩
  · unfold A_PB_drill at h
    split at h
    · exact ⟨by simp [ai_cat, Value.category], Nat.le_of_ble_eq_true rfl, fun sc => (R_PB_drill sc kk _ G).trans h⟩
    · cases h
  · cases h
  · cases h
theorem ro_PB_pillowCount (kk : Nat) : RunOK 0 1 T_PB_pillowCount (call_PB_pillowCount kk) (fun _ => []) (bk_PB_pillowCount kk) kk (A_PB_pillowCount kk) := by
  refine ⟨fun as G r h => ?_, fun pc ls st G r h => ?_, fun k pc ls st G r h => ?_⟩
  · unfold A_PB_pillowCount at h
    split at h
    · exact ⟨by simp [ai_cat, Value.category], Nat.le_of_ble_eq_true rfl, fun sc => (R_PB_pillowCount sc kk G).trans h⟩
    · cases h
  · cases h
  · cases h
theorem ro_PB_requireBay (kk : Nat) : RunOK 1 1 T_PB_requireBay (call_PB_requireBay kk) (fun _ => []) (bk_PB_requireBay kk) kk (A_PB_requireBay kk) := by
  refine ⟨fun as G r h => ?_, fun pc ls st G r h => ?_, fun k pc ls st G r h => ?_⟩
  · unfold A_PB_requireBay at h
    split at h
    · exact ⟨by simp [ai_cat, Value.category], Nat.le_of_ble_eq_true rfl, fun sc => (R_PB_requireBay sc kk _ G).trans h⟩
    · cases h
  · cases h
  · cases h
theorem ro_PB_stackHeight (kk : Nat) : RunOK 1 2 T_PB_stackHeight (call_PB_stackHeight kk) (fun _ => []) (bk_PB_stackHeight kk) kk (A_PB_stackHeight kk) := by
  refine ⟨fun as G r h => ?_, fun pc ls st G r h => ?_, fun k pc ls st G r h => ?_⟩
  · unfold A_PB_stackHeight at h
    split at h
    · exact ⟨by simp [ai_cat, Value.category], Nat.le_of_ble_eq_true rfl, fun sc => (R_PB_stackHeight sc kk _ G).trans h⟩
    · cases h
  · cases h
  · cases h
theorem ro_PB_requireSlot (kk : Nat) : RunOK 1 1 T_PB_requireSlot (call_PB_requireSlot kk) (fun _ => []) (bk_PB_requireSlot kk) kk (A_PB_requireSlot kk) := by
  refine ⟨fun as G r h => ?_, fun pc ls st G r h => ?_, fun k pc ls st G r h => ?_⟩
  · unfold A_PB_requireSlot at h
    split at h
    · exact ⟨by simp [ai_cat, Value.category], Nat.le_of_ble_eq_true rfl, fun sc => (R_PB_requireSlot sc kk _ G).trans h⟩
    · cases h
  · cases h
  · cases h
theorem ro_PB_pillowAt (kk : Nat) : RunOK 2 4 T_PB_pillowAt (call_PB_pillowAt kk) (fun _ => []) (bk_PB_pillowAt kk) kk (A_PB_pillowAt kk) := by
  refine ⟨fun as G r h => ?_, fun pc ls st G r h => ?_, fun k pc ls st G r h => ?_⟩
  · unfold A_PB_pillowAt at h
    split at h
    · exact ⟨by simp [ai_cat, Value.category], Nat.le_of_ble_eq_true rfl, fun sc => (R_PB_pillowAt sc kk _ _ G).trans h⟩
    · cases h
  · cases h
  · cases h
theorem ro_PB_requirePillow (kk : Nat) : RunOK 1 3 T_PB_requirePillow (call_PB_requirePillow kk) (fun _ => []) (bk_PB_requirePillow kk) kk (A_PB_requirePillow kk) := by
  refine ⟨fun as G r h => ?_, fun pc ls st G r h => ?_, fun k pc ls st G r h => ?_⟩
  · unfold A_PB_requirePillow at h
    split at h
    · exact ⟨by simp [ai_cat, Value.category], Nat.le_of_ble_eq_true rfl, fun sc => (R_PB_requirePillow sc kk _ G).trans h⟩
    · cases h
  · cases h
  · cases h
theorem ro_PB_weightOf (kk : Nat) : RunOK 1 2 T_PB_weightOf (call_PB_weightOf kk) (fun _ => []) (bk_PB_weightOf kk) kk (A_PB_weightOf kk) := by
  refine ⟨fun as G r h => ?_, fun pc ls st G r h => ?_, fun k pc ls st G r h => ?_⟩
  · unfold A_PB_weightOf at h
    split at h
    · exact ⟨by simp [ai_cat, Value.category], Nat.le_of_ble_eq_true rfl, fun sc => (R_PB_weightOf sc kk _ G).trans h⟩
    · cases h
  · cases h
  · cases h
theorem ro_PB_destinationOf (kk : Nat) : RunOK 1 2 T_PB_destinationOf (call_PB_destinationOf kk) (fun _ => []) (bk_PB_destinationOf kk) kk (A_PB_destinationOf kk) := by
  refine ⟨fun as G r h => ?_, fun pc ls st G r h => ?_, fun k pc ls st G r h => ?_⟩
  · unfold A_PB_destinationOf at h
    split at h
    · exact ⟨by simp [ai_cat, Value.category], Nat.le_of_ble_eq_true rfl, fun sc => (R_PB_destinationOf sc kk _ G).trans h⟩
    · cases h
  · cases h
  · cases h
theorem ro_PB_bayOf (kk : Nat) : RunOK 1 2 T_PB_bayOf (call_PB_bayOf kk) (fun _ => []) (bk_PB_bayOf kk) kk (A_PB_bayOf kk) := by
  refine ⟨fun as G r h => ?_, fun pc ls st G r h => ?_, fun k pc ls st G r h => ?_⟩
  · unfold A_PB_bayOf at h
    split at h
    · exact ⟨by simp [ai_cat, Value.category], Nat.le_of_ble_eq_true rfl, fun sc => (R_PB_bayOf sc kk _ G).trans h⟩
    · cases h
  · cases h
  · cases h
theorem ro_PB_positionOf (kk : Nat) : RunOK 1 2 T_PB_positionOf (call_PB_positionOf kk) (fun _ => []) (bk_PB_positionOf kk) kk (A_PB_positionOf kk) := by
  refine ⟨fun as G r h => ?_, fun pc ls st G r h => ?_, fun k pc ls st G r h => ?_⟩
  · unfold A_PB_positionOf at h
    split at h
    · exact ⟨by simp [ai_cat, Value.category], Nat.le_of_ble_eq_true rfl, fun sc => (R_PB_positionOf sc kk _ G).trans h⟩
    · cases h
  · cases h
  · cases h
theorem ro_PB_ageOf (kk : Nat) : RunOK 1 2 T_PB_ageOf (call_PB_ageOf kk) (fun _ => []) (bk_PB_ageOf kk) kk (A_PB_ageOf kk) := by
  refine ⟨fun as G r h => ?_, fun pc ls st G r h => ?_, fun k pc ls st G r h => ?_⟩
  · unfold A_PB_ageOf at h
    split at h
    · exact ⟨by simp [ai_cat, Value.category], Nat.le_of_ble_eq_true rfl, fun sc => (R_PB_ageOf sc kk _ G).trans h⟩
    · cases h
  · cases h
  · cases h
theorem ro_PB_isOlder (kk : Nat) : RunOK 0 5 T_PB_isOlder (call_PB_isOlder kk) (fun _ => []) (bk_PB_isOlder kk) kk (A_PB_isOlder kk) := by
  refine ⟨fun as G r h => ?_, fun pc ls st G r h => ?_, fun k pc ls st G r h => ?_⟩
  · unfold A_PB_isOlder at h
    split at h
    · exact ⟨by simp [ai_cat, Value.category], Nat.le_of_ble_eq_true rfl, fun sc => (R_PB_isOlder sc kk _ _ G).trans h⟩
    · cases h
  · cases h
  · cases h
theorem ro_PB_oldestSlotIn (kk : Nat) : RunOK 0 5 T_PB_oldestSlotIn (call_PB_oldestSlotIn kk) (fun _ => []) (bk_PB_oldestSlotIn kk) kk (A_PB_oldestSlotIn kk) := by
  refine ⟨fun as G r h => ?_, fun pc ls st G r h => ?_, fun k pc ls st G r h => ?_⟩
  · unfold A_PB_oldestSlotIn at h
    split at h
    · exact ⟨by simp [ai_cat, Value.category], Nat.le_of_ble_eq_true rfl, fun sc => (R_PB_oldestSlotIn sc kk _ G).trans h⟩
    · cases h
  · unfold bk_PB_oldestSlotIn at h
    split at h
    · split at h
      · cases (show (none : Res) = some r from h)
      · cases h
    · cases h
  · unfold bk_PB_oldestSlotIn at h
    split at h
    · rename_i hpc
      have hpc := Nat.eq_of_beq_eq_true hpc
      subst hpc
      split at h
      · exact ⟨_, rfl, fun sc => (R_PB_oldestSlotIn_4 sc kk k _ _ _ _).trans h⟩
      · cases h
    · cases h
theorem ro_PB_oldestIn (kk : Nat) : RunOK 2 3 T_PB_oldestIn (call_PB_oldestIn kk) (fun _ => []) (bk_PB_oldestIn kk) kk (A_PB_oldestIn kk) := by
  refine ⟨fun as G r h => ?_, fun pc ls st G r h => ?_, fun k pc ls st G r h => ?_⟩
  · unfold A_PB_oldestIn at h
    split at h
    · exact ⟨by simp [ai_cat, Value.category], Nat.le_of_ble_eq_true rfl, fun sc => (R_PB_oldestIn sc kk _ G).trans h⟩
    · cases h
  · cases h
  · cases h
theorem ro_PB_moment (kk : Nat) : RunOK 0 1 T_PB_moment (call_PB_moment kk) (fun _ => []) (bk_PB_moment kk) kk (A_PB_moment kk) := by
  refine ⟨fun as G r h => ?_, fun pc ls st G r h => ?_, fun k pc ls st G r h => ?_⟩
  · unfold A_PB_moment at h
    split at h
    · exact ⟨by simp [ai_cat, Value.category], Nat.le_of_ble_eq_true rfl, fun sc => (R_PB_moment sc kk G).trans h⟩
    · cases h
  · cases h
  · cases h
theorem ro_PB_momentByBays (kk : Nat) : RunOK 0 1 T_PB_momentByBays (call_PB_momentByBays kk) (fun _ => []) (bk_PB_momentByBays kk) kk (A_PB_momentByBays kk) := by
  refine ⟨fun as G r h => ?_, fun pc ls st G r h => ?_, fun k pc ls st G r h => ?_⟩
  · unfold A_PB_momentByBays at h
    split at h
    · exact ⟨by simp [ai_cat, Value.category], Nat.le_of_ble_eq_true rfl, fun sc => (R_PB_momentByBays sc kk G).trans h⟩
    · cases h
  · cases h
  · cases h
theorem ro_PB_totalWeight (kk : Nat) : RunOK 0 1 T_PB_totalWeight (call_PB_totalWeight kk) (fun _ => []) (bk_PB_totalWeight kk) kk (A_PB_totalWeight kk) := by
  refine ⟨fun as G r h => ?_, fun pc ls st G r h => ?_, fun k pc ls st G r h => ?_⟩
  · unfold A_PB_totalWeight at h
    split at h
    · exact ⟨by simp [ai_cat, Value.category], Nat.le_of_ble_eq_true rfl, fun sc => (R_PB_totalWeight sc kk G).trans h⟩
    · cases h
  · cases h
  · cases h
theorem ro_PB_requirePort (kk : Nat) : RunOK 1 1 T_PB_requirePort (call_PB_requirePort kk) (fun _ => []) (bk_PB_requirePort kk) kk (A_PB_requirePort kk) := by
  refine ⟨fun as G r h => ?_, fun pc ls st G r h => ?_, fun k pc ls st G r h => ?_⟩
  · unfold A_PB_requirePort at h
    split at h
    · exact ⟨by simp [ai_cat, Value.category], Nat.le_of_ble_eq_true rfl, fun sc => (R_PB_requirePort sc kk _ G).trans h⟩
    · cases h
  · cases h
  · cases h
theorem ro_PB_weightFor (kk : Nat) : RunOK 1 2 T_PB_weightFor (call_PB_weightFor kk) (fun _ => []) (bk_PB_weightFor kk) kk (A_PB_weightFor kk) := by
  refine ⟨fun as G r h => ?_, fun pc ls st G r h => ?_, fun k pc ls st G r h => ?_⟩
  · unfold A_PB_weightFor at h
    split at h
    · exact ⟨by simp [ai_cat, Value.category], Nat.le_of_ble_eq_true rfl, fun sc => (R_PB_weightFor sc kk _ G).trans h⟩
    · cases h
  · cases h
  · cases h
theorem ro_PB_limit (kk : Nat) : RunOK 0 1 T_PB_limit (call_PB_limit kk) (fun _ => []) (bk_PB_limit kk) kk (A_PB_limit kk) := by
  refine ⟨fun as G r h => ?_, fun pc ls st G r h => ?_, fun k pc ls st G r h => ?_⟩
  · unfold A_PB_limit at h
    split at h
    · exact ⟨by simp [ai_cat, Value.category], Nat.le_of_ble_eq_true rfl, fun sc => (R_PB_limit sc kk G).trans h⟩
    · cases h
  · cases h
  · cases h
theorem ro_PB_listAngle (kk : Nat) : RunOK 0 3 T_PB_listAngle (call_PB_listAngle kk) (fun _ => []) (bk_PB_listAngle kk) kk (A_PB_listAngle kk) := by
  refine ⟨fun as G r h => ?_, fun pc ls st G r h => ?_, fun k pc ls st G r h => ?_⟩
  · unfold A_PB_listAngle at h
    split at h
    · exact ⟨by simp [ai_cat, Value.category], Nat.le_of_ble_eq_true rfl, fun sc => (R_PB_listAngle sc kk G).trans h⟩
    · cases h
  · cases h
  · cases h
theorem ro_PB_greatestPush (kk : Nat) : RunOK 0 1 T_PB_greatestPush (call_PB_greatestPush kk) (fun _ => []) (bk_PB_greatestPush kk) kk (A_PB_greatestPush kk) := by
  refine ⟨fun as G r h => ?_, fun pc ls st G r h => ?_, fun k pc ls st G r h => ?_⟩
  · unfold A_PB_greatestPush at h
    split at h
    · exact ⟨by simp [ai_cat, Value.category], Nat.le_of_ble_eq_true rfl, fun sc => (R_PB_greatestPush sc kk G).trans h⟩
    · cases h
  · cases h
  · cases h
theorem ro_PB_isMoreLevel (kk : Nat) : RunOK 0 7 T_PB_isMoreLevel (call_PB_isMoreLevel kk) (fun _ => []) (bk_PB_isMoreLevel kk) kk (A_PB_isMoreLevel kk) := by
  refine ⟨fun as G r h => ?_, fun pc ls st G r h => ?_, fun k pc ls st G r h => ?_⟩
  · unfold A_PB_isMoreLevel at h
    split at h
    · exact ⟨by simp [ai_cat, Value.category], Nat.le_of_ble_eq_true rfl, fun sc => (R_PB_isMoreLevel sc kk _ _ _ G).trans h⟩
    · cases h
  · cases h
  · cases h
theorem ro_PB_mostLevelBay (kk : Nat) : RunOK 0 5 T_PB_mostLevelBay (call_PB_mostLevelBay kk) (fun _ => []) (bk_PB_mostLevelBay kk) kk (A_PB_mostLevelBay kk) := by
  refine ⟨fun as G r h => ?_, fun pc ls st G r h => ?_, fun k pc ls st G r h => ?_⟩
  · unfold A_PB_mostLevelBay at h
    split at h
    · exact ⟨by simp [ai_cat, Value.category], Nat.le_of_ble_eq_true rfl, fun sc => (R_PB_mostLevelBay sc kk _ G).trans h⟩
    · cases h
  · unfold bk_PB_mostLevelBay at h
    split at h
    · split at h
      · cases (show (none : Res) = some r from h)
      · cases h
    · split at h
      · split at h
        · cases (show (none : Res) = some r from h)
        · cases h
      · cases h
  · unfold bk_PB_mostLevelBay at h
    split at h
    · rename_i hpc
      have hpc := Nat.eq_of_beq_eq_true hpc
      subst hpc
      split at h
      · exact ⟨_, rfl, fun sc => (R_PB_mostLevelBay_4 sc kk k _ _ _ _).trans h⟩
      · cases h
    · split at h
      · rename_i hpc
        have hpc := Nat.eq_of_beq_eq_true hpc
        subst hpc
        split at h
        · exact ⟨_, rfl, fun sc => (R_PB_mostLevelBay_28 sc kk k _ _ _ _ _).trans h⟩
        · cases h
      · cases h
theorem ro_PB_levelingBay (kk : Nat) : RunOK 1 3 T_PB_levelingBay (call_PB_levelingBay kk) (fun _ => []) (bk_PB_levelingBay kk) kk (A_PB_levelingBay kk) := by
  refine ⟨fun as G r h => ?_, fun pc ls st G r h => ?_, fun k pc ls st G r h => ?_⟩
  · unfold A_PB_levelingBay at h
    split at h
    · exact ⟨by simp [ai_cat, Value.category], Nat.le_of_ble_eq_true rfl, fun sc => (R_PB_levelingBay sc kk _ G).trans h⟩
    · cases h
  · cases h
  · cases h
theorem ro_PB_port (kk : Nat) : RunOK 0 1 T_PB_port (call_PB_port kk) (fun _ => []) (bk_PB_port kk) kk (A_PB_port kk) := by
  refine ⟨fun as G r h => ?_, fun pc ls st G r h => ?_, fun k pc ls st G r h => ?_⟩
  · unfold A_PB_port at h
    split at h
    · exact ⟨by simp [ai_cat, Value.category], Nat.le_of_ble_eq_true rfl, fun sc => (R_PB_port sc kk G).trans h⟩
    · cases h
  · cases h
  · cases h
theorem ro_PB_day (kk : Nat) : RunOK 0 1 T_PB_day (call_PB_day kk) (fun _ => []) (bk_PB_day kk) kk (A_PB_day kk) := by
  refine ⟨fun as G r h => ?_, fun pc ls st G r h => ?_, fun k pc ls st G r h => ?_⟩
  · unfold A_PB_day at h
    split at h
    · exact ⟨by simp [ai_cat, Value.category], Nat.le_of_ble_eq_true rfl, fun sc => (R_PB_day sc kk G).trans h⟩
    · cases h
  · cases h
  · cases h
theorem ro_PB_isAscending (kk : Nat) : RunOK 0 1 T_PB_isAscending (call_PB_isAscending kk) (fun _ => []) (bk_PB_isAscending kk) kk (A_PB_isAscending kk) := by
  refine ⟨fun as G r h => ?_, fun pc ls st G r h => ?_, fun k pc ls st G r h => ?_⟩
  · unfold A_PB_isAscending at h
    split at h
    · exact ⟨by simp [ai_cat, Value.category], Nat.le_of_ble_eq_true rfl, fun sc => (R_PB_isAscending sc kk G).trans h⟩
    · cases h
  · cases h
  · cases h
theorem ro_PB_legsTo (kk : Nat) : RunOK 1 2 T_PB_legsTo (call_PB_legsTo kk) (fun _ => []) (bk_PB_legsTo kk) kk (A_PB_legsTo kk) := by
  refine ⟨fun as G r h => ?_, fun pc ls st G r h => ?_, fun k pc ls st G r h => ?_⟩
  · unfold A_PB_legsTo at h
    split at h
    · exact ⟨by simp [ai_cat, Value.category], Nat.le_of_ble_eq_true rfl, fun sc => (R_PB_legsTo sc kk _ G).trans h⟩
    · cases h
  · cases h
  · cases h
theorem ro_PB_portAfter (kk : Nat) : RunOK 1 2 T_PB_portAfter (call_PB_portAfter kk) (fun _ => []) (bk_PB_portAfter kk) kk (A_PB_portAfter kk) := by
  refine ⟨fun as G r h => ?_, fun pc ls st G r h => ?_, fun k pc ls st G r h => ?_⟩
  · unfold A_PB_portAfter at h
    split at h
    · exact ⟨by simp [ai_cat, Value.category], Nat.le_of_ble_eq_true rfl, fun sc => (R_PB_portAfter sc kk _ G).trans h⟩
    · cases h
  · cases h
  · cases h
theorem ro_PB_heaviestPort (kk : Nat) : RunOK 1 4 T_PB_heaviestPort (call_PB_heaviestPort kk) (fun _ => []) (bk_PB_heaviestPort kk) (Nat.min kk 8) (A_PB_heaviestPort kk) := by
  refine ⟨fun as G r h => ?_, fun pc ls st G r h => ?_, fun k pc ls st G r h => ?_⟩
  · unfold A_PB_heaviestPort at h
    split at h
    · exact ⟨by simp [ai_cat, Value.category], Nat.le_of_ble_eq_true rfl, fun sc => (R_PB_heaviestPort sc kk G).trans h⟩
    · cases h
  · unfold bk_PB_heaviestPort at h
    split at h
    · split at h
      · cases (show (none : Res) = some r from h)
      · cases h
    · cases h
  · unfold bk_PB_heaviestPort at h
    split at h
    · rename_i hpc
      have hpc := Nat.eq_of_beq_eq_true hpc
      subst hpc
      split at h
      · exact ⟨_, rfl, fun sc => (R_PB_heaviestPort_34 sc kk k _ _ _).trans h⟩
      · cases h
    · cases h
theorem ro_PB_countInTheWayOf (kk : Nat) : RunOK 0 6 T_PB_countInTheWayOf (call_PB_countInTheWayOf kk) (fun _ => []) (bk_PB_countInTheWayOf kk) kk (A_PB_countInTheWayOf kk) := by
  refine ⟨fun as G r h => ?_, fun pc ls st G r h => ?_, fun k pc ls st G r h => ?_⟩
  · unfold A_PB_countInTheWayOf at h
    split at h
    · exact ⟨by simp [ai_cat, Value.category], Nat.le_of_ble_eq_true rfl, fun sc => (R_PB_countInTheWayOf sc kk _ G).trans h⟩
    · cases h
  · unfold bk_PB_countInTheWayOf at h
    split at h
    · split at h
      · cases (show (none : Res) = some r from h)
      · cases h
    · cases h
  · unfold bk_PB_countInTheWayOf at h
    split at h
    · rename_i hpc
      have hpc := Nat.eq_of_beq_eq_true hpc
      subst hpc
      split at h
      · exact ⟨_, rfl, fun sc => (R_PB_countInTheWayOf_13 sc kk k _ _ _ _ _).trans h⟩
      · cases h
    · cases h
theorem ro_PB_pillowsInTheWay (kk : Nat) : RunOK 1 2 T_PB_pillowsInTheWay (call_PB_pillowsInTheWay kk) (fun _ => []) (bk_PB_pillowsInTheWay kk) kk (A_PB_pillowsInTheWay kk) := by
  refine ⟨fun as G r h => ?_, fun pc ls st G r h => ?_, fun k pc ls st G r h => ?_⟩
  · unfold A_PB_pillowsInTheWay at h
    split at h
    · exact ⟨by simp [ai_cat, Value.category], Nat.le_of_ble_eq_true rfl, fun sc => (R_PB_pillowsInTheWay sc kk _ G).trans h⟩
    · cases h
  · cases h
  · cases h
theorem ro_PB_countPairs (kk : Nat) : RunOK 0 3 T_PB_countPairs (call_PB_countPairs kk) (fun _ => []) (bk_PB_countPairs kk) kk (A_PB_countPairs kk) := by
  refine ⟨fun as G r h => ?_, fun pc ls st G r h => ?_, fun k pc ls st G r h => ?_⟩
  · unfold A_PB_countPairs at h
    split at h
    · exact ⟨by simp [ai_cat, Value.category], Nat.le_of_ble_eq_true rfl, fun sc => (R_PB_countPairs sc kk G).trans h⟩
    · cases h
  · unfold bk_PB_countPairs at h
    split at h
    · split at h
      · cases (show (none : Res) = some r from h)
      · cases h
    · cases h
  · unfold bk_PB_countPairs at h
    split at h
    · rename_i hpc
      have hpc := Nat.eq_of_beq_eq_true hpc
      subst hpc
      split at h
      · exact ⟨_, rfl, fun sc => (R_PB_countPairs_4 sc kk k _ _ _).trans h⟩
      · cases h
    · cases h
theorem ro_PB_pairsInTheWay (kk : Nat) : RunOK 0 1 T_PB_pairsInTheWay (call_PB_pairsInTheWay kk) (fun _ => []) (bk_PB_pairsInTheWay kk) kk (A_PB_pairsInTheWay kk) := by
  refine ⟨fun as G r h => ?_, fun pc ls st G r h => ?_, fun k pc ls st G r h => ?_⟩
  · unfold A_PB_pairsInTheWay at h
    split at h
    · exact ⟨by simp [ai_cat, Value.category], Nat.le_of_ble_eq_true rfl, fun sc => (R_PB_pairsInTheWay sc kk G).trans h⟩
    · cases h
  · cases h
  · cases h
theorem ro_PB_seePillow (kk : Nat) : RunOK 0 4 T_PB_seePillow (call_PB_seePillow kk) (fun _ => []) (bk_PB_seePillow kk) kk (A_PB_seePillow kk) := by
  refine ⟨fun as G r h => ?_, fun pc ls st G r h => ?_, fun k pc ls st G r h => ?_⟩
  · unfold A_PB_seePillow at h
    split at h
    · exact ⟨by simp [ai_cat, Value.category], Nat.le_of_ble_eq_true rfl, fun sc => (R_PB_seePillow sc kk _ G).trans h⟩
    · cases h
  · unfold bk_PB_seePillow at h
    split at h
    · split at h
      · cases (show (none : Res) = some r from h)
      · cases h
    · cases h
  · unfold bk_PB_seePillow at h
    split at h
    · rename_i hpc
      have hpc := Nat.eq_of_beq_eq_true hpc
      subst hpc
      split at h
      · exact ⟨_, rfl, fun sc => (R_PB_seePillow_4 sc kk k _ _ _ _).trans h⟩
      · cases h
    · cases h
theorem ro_PB_countPairsInStack (kk : Nat) : RunOK 0 5 T_PB_countPairsInStack (call_PB_countPairsInStack kk) (fun _ => []) (bk_PB_countPairsInStack kk) kk (A_PB_countPairsInStack kk) := by
  refine ⟨fun as G r h => ?_, fun pc ls st G r h => ?_, fun k pc ls st G r h => ?_⟩
  · unfold A_PB_countPairsInStack at h
    split at h
    · exact ⟨by simp [ai_cat, Value.category], Nat.le_of_ble_eq_true rfl, fun sc => (R_PB_countPairsInStack sc kk _ G).trans h⟩
    · cases h
  · unfold bk_PB_countPairsInStack at h
    split at h
    · split at h
      · cases (show (none : Res) = some r from h)
      · cases h
    · split at h
      · split at h
        · cases (show (none : Res) = some r from h)
        · cases h
      · cases h
  · unfold bk_PB_countPairsInStack at h
    split at h
    · rename_i hpc
      have hpc := Nat.eq_of_beq_eq_true hpc
      subst hpc
      split at h
      · exact ⟨_, rfl, fun sc => (R_PB_countPairsInStack_2 sc kk k _ _ _).trans h⟩
      · cases h
    · split at h
      · rename_i hpc
        have hpc := Nat.eq_of_beq_eq_true hpc
        subst hpc
        split at h
        · exact ⟨_, rfl, fun sc => (R_PB_countPairsInStack_24 sc kk k _ _ _ _).trans h⟩
        · cases h
      · cases h
theorem ro_PB_countPairsByStacks (kk : Nat) : RunOK 0 3 T_PB_countPairsByStacks (call_PB_countPairsByStacks kk) (fun _ => []) (bk_PB_countPairsByStacks kk) kk (A_PB_countPairsByStacks kk) := by
  refine ⟨fun as G r h => ?_, fun pc ls st G r h => ?_, fun k pc ls st G r h => ?_⟩
  · unfold A_PB_countPairsByStacks at h
    split at h
    · exact ⟨by simp [ai_cat, Value.category], Nat.le_of_ble_eq_true rfl, fun sc => (R_PB_countPairsByStacks sc kk G).trans h⟩
    · cases h
  · unfold bk_PB_countPairsByStacks at h
    split at h
    · split at h
      · cases (show (none : Res) = some r from h)
      · cases h
    · cases h
  · unfold bk_PB_countPairsByStacks at h
    split at h
    · rename_i hpc
      have hpc := Nat.eq_of_beq_eq_true hpc
      subst hpc
      split at h
      · exact ⟨_, rfl, fun sc => (R_PB_countPairsByStacks_4 sc kk k _ _ _).trans h⟩
      · cases h
    · cases h
theorem ro_PB_pairsInTheWayByStacks (kk : Nat) : RunOK 0 1 T_PB_pairsInTheWayByStacks (call_PB_pairsInTheWayByStacks kk) (fun _ => []) (bk_PB_pairsInTheWayByStacks kk) kk (A_PB_pairsInTheWayByStacks kk) := by
  refine ⟨fun as G r h => ?_, fun pc ls st G r h => ?_, fun k pc ls st G r h => ?_⟩
  · unfold A_PB_pairsInTheWayByStacks at h
    split at h
    · exact ⟨by simp [ai_cat, Value.category], Nat.le_of_ble_eq_true rfl, fun sc => (R_PB_pairsInTheWayByStacks sc kk G).trans h⟩
    · cases h
  · cases h
  · cases h
theorem ro_PB_unloadableCount (kk : Nat) : RunOK 0 3 T_PB_unloadableCount (call_PB_unloadableCount kk) (fun _ => []) (bk_PB_unloadableCount kk) kk (A_PB_unloadableCount kk) := by
  refine ⟨fun as G r h => ?_, fun pc ls st G r h => ?_, fun k pc ls st G r h => ?_⟩
  · unfold A_PB_unloadableCount at h
    split at h
    · exact ⟨by simp [ai_cat, Value.category], Nat.le_of_ble_eq_true rfl, fun sc => (R_PB_unloadableCount sc kk G).trans h⟩
    · cases h
  · unfold bk_PB_unloadableCount at h
    split at h
    · split at h
      · cases (show (none : Res) = some r from h)
      · cases h
    · cases h
  · unfold bk_PB_unloadableCount at h
    split at h
    · rename_i hpc
      have hpc := Nat.eq_of_beq_eq_true hpc
      subst hpc
      split at h
      · exact ⟨_, rfl, fun sc => (R_PB_unloadableCount_4 sc kk k _ _ _).trans h⟩
      · cases h
    · cases h
theorem ro_PB_possibleShifts (kk : Nat) : RunOK 0 4 T_PB_possibleShifts (call_PB_possibleShifts kk) (fun _ => []) (bk_PB_possibleShifts kk) kk (A_PB_possibleShifts kk) := by
  refine ⟨fun as G r h => ?_, fun pc ls st G r h => ?_, fun k pc ls st G r h => ?_⟩
  · unfold A_PB_possibleShifts at h
    split at h
    · exact ⟨by simp [ai_cat, Value.category], Nat.le_of_ble_eq_true rfl, fun sc => (R_PB_possibleShifts sc kk G).trans h⟩
    · cases h
  · unfold bk_PB_possibleShifts at h
    split at h
    · split at h
      · cases (show (none : Res) = some r from h)
      · cases h
    · split at h
      · split at h
        · cases (show (none : Res) = some r from h)
        · cases h
      · cases h
  · unfold bk_PB_possibleShifts at h
    split at h
    · rename_i hpc
      have hpc := Nat.eq_of_beq_eq_true hpc
      subst hpc
      split at h
      · exact ⟨_, rfl, fun sc => (R_PB_possibleShifts_4 sc kk k _ _ _).trans h⟩
      · cases h
    · split at h
      · rename_i hpc
        have hpc := Nat.eq_of_beq_eq_true hpc
        subst hpc
        split at h
        · exact ⟨_, rfl, fun sc => (R_PB_possibleShifts_12 sc kk k _ _ _ _).trans h⟩
        · cases h
      · cases h
theorem ro_PB_hasEarlierTurn (kk : Nat) : RunOK 0 5 T_PB_hasEarlierTurn (call_PB_hasEarlierTurn kk) (fun _ => []) (bk_PB_hasEarlierTurn kk) kk (A_PB_hasEarlierTurn kk) := by
  refine ⟨fun as G r h => ?_, fun pc ls st G r h => ?_, fun k pc ls st G r h => ?_⟩
  · unfold A_PB_hasEarlierTurn at h
    split at h
    · exact ⟨by simp [ai_cat, Value.category], Nat.le_of_ble_eq_true rfl, fun sc => (R_PB_hasEarlierTurn sc kk _ _ G).trans h⟩
    · cases h
  · cases h
  · cases h
theorem ro_PB_countEarlierTurns (kk : Nat) : RunOK 0 4 T_PB_countEarlierTurns (call_PB_countEarlierTurns kk) (fun _ => []) (bk_PB_countEarlierTurns kk) kk (A_PB_countEarlierTurns kk) := by
  refine ⟨fun as G r h => ?_, fun pc ls st G r h => ?_, fun k pc ls st G r h => ?_⟩
  · unfold A_PB_countEarlierTurns at h
    split at h
    · exact ⟨by simp [ai_cat, Value.category], Nat.le_of_ble_eq_true rfl, fun sc => (R_PB_countEarlierTurns sc kk _ G).trans h⟩
    · cases h
  · unfold bk_PB_countEarlierTurns at h
    split at h
    · split at h
      · cases (show (none : Res) = some r from h)
      · cases h
    · cases h
  · unfold bk_PB_countEarlierTurns at h
    split at h
    · rename_i hpc
      have hpc := Nat.eq_of_beq_eq_true hpc
      subst hpc
      split at h
      · exact ⟨_, rfl, fun sc => (R_PB_countEarlierTurns_4 sc kk k _ _ _ _).trans h⟩
      · cases h
    · cases h
theorem ro_PB_pillowByTurn (kk : Nat) : RunOK 1 3 T_PB_pillowByTurn (call_PB_pillowByTurn kk) (fun _ => []) (bk_PB_pillowByTurn kk) (Nat.min kk 40) (A_PB_pillowByTurn kk) := by
  refine ⟨fun as G r h => ?_, fun pc ls st G r h => ?_, fun k pc ls st G r h => ?_⟩
  · unfold A_PB_pillowByTurn at h
    split at h
    · exact ⟨by simp [ai_cat, Value.category], Nat.le_of_ble_eq_true rfl, fun sc => (R_PB_pillowByTurn sc kk _ G).trans h⟩
    · cases h
  · unfold bk_PB_pillowByTurn at h
    split at h
    · split at h
      · cases (show (none : Res) = some r from h)
      · cases h
    · cases h
  · unfold bk_PB_pillowByTurn at h
    split at h
    · rename_i hpc
      have hpc := Nat.eq_of_beq_eq_true hpc
      subst hpc
      split at h
      · exact ⟨_, rfl, fun sc => (R_PB_pillowByTurn_2 sc kk k _ _ _).trans h⟩
      · cases h
    · cases h
theorem ro_PB_countHeavierBays (kk : Nat) : RunOK 0 6 T_PB_countHeavierBays (call_PB_countHeavierBays kk) (fun _ => []) (bk_PB_countHeavierBays kk) kk (A_PB_countHeavierBays kk) := by
  refine ⟨fun as G r h => ?_, fun pc ls st G r h => ?_, fun k pc ls st G r h => ?_⟩
  · unfold A_PB_countHeavierBays at h
    split at h
    · exact ⟨by simp [ai_cat, Value.category], Nat.le_of_ble_eq_true rfl, fun sc => (R_PB_countHeavierBays sc kk _ G).trans h⟩
    · cases h
  · unfold bk_PB_countHeavierBays at h
    split at h
    · split at h
      · cases (show (none : Res) = some r from h)
      · cases h
    · cases h
  · unfold bk_PB_countHeavierBays at h
    split at h
    · rename_i hpc
      have hpc := Nat.eq_of_beq_eq_true hpc
      subst hpc
      split at h
      · exact ⟨_, rfl, fun sc => (R_PB_countHeavierBays_17 sc kk k _ _ _ _ _).trans h⟩
      · cases h
    · cases h
theorem ro_PB_bayByWeight (kk : Nat) : RunOK 1 3 T_PB_bayByWeight (call_PB_bayByWeight kk) (fun _ => []) (bk_PB_bayByWeight kk) (Nat.min kk 10) (A_PB_bayByWeight kk) := by
  refine ⟨fun as G r h => ?_, fun pc ls st G r h => ?_, fun k pc ls st G r h => ?_⟩
  · unfold A_PB_bayByWeight at h
    split at h
    · exact ⟨by simp [ai_cat, Value.category], Nat.le_of_ble_eq_true rfl, fun sc => (R_PB_bayByWeight sc kk _ G).trans h⟩
    · cases h
  · unfold bk_PB_bayByWeight at h
    split at h
    · split at h
      · cases (show (none : Res) = some r from h)
      · cases h
    · cases h
  · unfold bk_PB_bayByWeight at h
    split at h
    · rename_i hpc
      have hpc := Nat.eq_of_beq_eq_true hpc
      subst hpc
      split at h
      · exact ⟨_, rfl, fun sc => (R_PB_bayByWeight_2 sc kk k _ _ _).trans h⟩
      · cases h
    · cases h
theorem ro_PB_loadedTotal (kk : Nat) : RunOK 0 1 T_PB_loadedTotal (call_PB_loadedTotal kk) (fun _ => []) (bk_PB_loadedTotal kk) kk (A_PB_loadedTotal kk) := by
  refine ⟨fun as G r h => ?_, fun pc ls st G r h => ?_, fun k pc ls st G r h => ?_⟩
  · unfold A_PB_loadedTotal at h
    split at h
    · exact ⟨by simp [ai_cat, Value.category], Nat.le_of_ble_eq_true rfl, fun sc => (R_PB_loadedTotal sc kk G).trans h⟩
    · cases h
  · cases h
  · cases h
theorem ro_PB_deliveredTotal (kk : Nat) : RunOK 0 1 T_PB_deliveredTotal (call_PB_deliveredTotal kk) (fun _ => []) (bk_PB_deliveredTotal kk) kk (A_PB_deliveredTotal kk) := by
  refine ⟨fun as G r h => ?_, fun pc ls st G r h => ?_, fun k pc ls st G r h => ?_⟩
  · unfold A_PB_deliveredTotal at h
    split at h
    · exact ⟨by simp [ai_cat, Value.category], Nat.le_of_ble_eq_true rfl, fun sc => (R_PB_deliveredTotal sc kk G).trans h⟩
    · cases h
  · cases h
  · cases h
theorem ro_PB_deliveredWeight (kk : Nat) : RunOK 0 1 T_PB_deliveredWeight (call_PB_deliveredWeight kk) (fun _ => []) (bk_PB_deliveredWeight kk) kk (A_PB_deliveredWeight kk) := by
  refine ⟨fun as G r h => ?_, fun pc ls st G r h => ?_, fun k pc ls st G r h => ?_⟩
  · unfold A_PB_deliveredWeight at h
    split at h
    · exact ⟨by simp [ai_cat, Value.category], Nat.le_of_ble_eq_true rfl, fun sc => (R_PB_deliveredWeight sc kk G).trans h⟩
    · cases h
  · cases h
  · cases h
theorem ro_PB_drillTotal (kk : Nat) : RunOK 0 1 T_PB_drillTotal (call_PB_drillTotal kk) (fun _ => []) (bk_PB_drillTotal kk) kk (A_PB_drillTotal kk) := by
  refine ⟨fun as G r h => ?_, fun pc ls st G r h => ?_, fun k pc ls st G r h => ?_⟩
  · unfold A_PB_drillTotal at h
    split at h
    · exact ⟨by simp [ai_cat, Value.category], Nat.le_of_ble_eq_true rfl, fun sc => (R_PB_drillTotal sc kk G).trans h⟩
    · cases h
  · cases h
  · cases h
theorem ro_PB_capsizedTotal (kk : Nat) : RunOK 0 1 T_PB_capsizedTotal (call_PB_capsizedTotal kk) (fun _ => []) (bk_PB_capsizedTotal kk) kk (A_PB_capsizedTotal kk) := by
  refine ⟨fun as G r h => ?_, fun pc ls st G r h => ?_, fun k pc ls st G r h => ?_⟩
  · unfold A_PB_capsizedTotal at h
    split at h
    · exact ⟨by simp [ai_cat, Value.category], Nat.le_of_ble_eq_true rfl, fun sc => (R_PB_capsizedTotal sc kk G).trans h⟩
    · cases h
  · cases h
  · cases h
theorem ro_PB_sumOfAges (kk : Nat) : RunOK 0 3 T_PB_sumOfAges (call_PB_sumOfAges kk) (fun _ => []) (bk_PB_sumOfAges kk) kk (A_PB_sumOfAges kk) := by
  refine ⟨fun as G r h => ?_, fun pc ls st G r h => ?_, fun k pc ls st G r h => ?_⟩
  · unfold A_PB_sumOfAges at h
    split at h
    · exact ⟨by simp [ai_cat, Value.category], Nat.le_of_ble_eq_true rfl, fun sc => (R_PB_sumOfAges sc kk G).trans h⟩
    · cases h
  · unfold bk_PB_sumOfAges at h
    split at h
    · split at h
      · cases (show (none : Res) = some r from h)
      · cases h
    · cases h
  · unfold bk_PB_sumOfAges at h
    split at h
    · rename_i hpc
      have hpc := Nat.eq_of_beq_eq_true hpc
      subst hpc
      split at h
      · exact ⟨_, rfl, fun sc => (R_PB_sumOfAges_4 sc kk k _ _ _).trans h⟩
      · cases h
    · cases h
theorem ro_PB_meanAge (kk : Nat) : RunOK 1 2 T_PB_meanAge (call_PB_meanAge kk) (fun _ => []) (bk_PB_meanAge kk) kk (A_PB_meanAge kk) := by
  refine ⟨fun as G r h => ?_, fun pc ls st G r h => ?_, fun k pc ls st G r h => ?_⟩
  · unfold A_PB_meanAge at h
    split at h
    · exact ⟨by simp [ai_cat, Value.category], Nat.le_of_ble_eq_true rfl, fun sc => (R_PB_meanAge sc kk G).trans h⟩
    · cases h
  · cases h
  · cases h
theorem ro_PB_capsizedShare (kk : Nat) : RunOK 1 2 T_PB_capsizedShare (call_PB_capsizedShare kk) (fun _ => []) (bk_PB_capsizedShare kk) kk (A_PB_capsizedShare kk) := by
  refine ⟨fun as G r h => ?_, fun pc ls st G r h => ?_, fun k pc ls st G r h => ?_⟩
  · unfold A_PB_capsizedShare at h
    split at h
    · exact ⟨by simp [ai_cat, Value.category], Nat.le_of_ble_eq_true rfl, fun sc => (R_PB_capsizedShare sc kk G).trans h⟩
    · cases h
  · cases h
  · cases h
theorem ro_PB_isConsistent (kk : Nat) : RunOK 0 2 T_PB_isConsistent (call_PB_isConsistent kk) (fun _ => []) (bk_PB_isConsistent kk) kk (A_PB_isConsistent kk) := by
  refine ⟨fun as G r h => ?_, fun pc ls st G r h => ?_, fun k pc ls st G r h => ?_⟩
  · unfold A_PB_isConsistent at h
    split at h
    · exact ⟨by simp [ai_cat, Value.category], Nat.le_of_ble_eq_true rfl, fun sc => (R_PB_isConsistent sc kk G).trans h⟩
    · cases h
  · cases h
  · cases h
theorem ro_PB_separate (kk : Nat) : RunOK 1 1 T_PB_separate (call_PB_separate kk) (fun _ => []) (bk_PB_separate kk) kk (A_PB_separate kk) := by
  refine ⟨fun as G r h => ?_, fun pc ls st G r h => ?_, fun k pc ls st G r h => ?_⟩
  · unfold A_PB_separate at h
    split at h
    · exact ⟨by simp [ai_cat, Value.category], Nat.le_of_ble_eq_true rfl, fun sc => (R_PB_separate sc kk G).trans h⟩
    · cases h
  · cases h
  · cases h
theorem ro_PB_renderPillow (kk : Nat) : RunOK 5 2 T_PB_renderPillow (call_PB_renderPillow kk) (fun _ => []) (bk_PB_renderPillow kk) kk (A_PB_renderPillow kk) := by
  refine ⟨fun as G r h => ?_, fun pc ls st G r h => ?_, fun k pc ls st G r h => ?_⟩
  · unfold A_PB_renderPillow at h
    split at h
    · exact ⟨by simp [ai_cat, Value.category], Nat.le_of_ble_eq_true rfl, fun sc => (R_PB_renderPillow sc kk _ G).trans h⟩
    · cases h
  · cases h
  · cases h
theorem ro_PB_renderStack (kk : Nat) : RunOK 6 4 T_PB_renderStack (call_PB_renderStack kk) (fun _ => []) (bk_PB_renderStack kk) (Nat.min kk 14) (A_PB_renderStack kk) := by
  refine ⟨fun as G r h => ?_, fun pc ls st G r h => ?_, fun k pc ls st G r h => ?_⟩
  · unfold A_PB_renderStack at h
    split at h
    · exact ⟨by simp [ai_cat, Value.category], Nat.le_of_ble_eq_true rfl, fun sc => (R_PB_renderStack sc kk _ G).trans h⟩
    · cases h
  · unfold bk_PB_renderStack at h
    split at h
    · split at h
      · cases (show (none : Res) = some r from h)
      · cases h
    · cases h
  · unfold bk_PB_renderStack at h
    split at h
    · rename_i hpc
      have hpc := Nat.eq_of_beq_eq_true hpc
      subst hpc
      split at h
      · exact ⟨_, rfl, fun sc => (R_PB_renderStack_14 sc kk k _ _ _).trans h⟩
      · cases h
    · cases h
theorem ro_PB_renderBarge (kk : Nat) : RunOK 2 2 T_PB_renderBarge (call_PB_renderBarge kk) (fun _ => []) (bk_PB_renderBarge kk) (Nat.min kk 10) (A_PB_renderBarge kk) := by
  refine ⟨fun as G r h => ?_, fun pc ls st G r h => ?_, fun k pc ls st G r h => ?_⟩
  · unfold A_PB_renderBarge at h
    split at h
    · exact ⟨by simp [ai_cat, Value.category], Nat.le_of_ble_eq_true rfl, fun sc => (R_PB_renderBarge sc kk G).trans h⟩
    · cases h
  · unfold bk_PB_renderBarge at h
    split at h
    · split at h
      · cases (show (none : Res) = some r from h)
      · cases h
    · cases h
  · unfold bk_PB_renderBarge at h
    split at h
    · rename_i hpc
      have hpc := Nat.eq_of_beq_eq_true hpc
      subst hpc
      split at h
      · exact ⟨_, rfl, fun sc => (R_PB_renderBarge_10 sc kk k _ _).trans h⟩
      · cases h
    · cases h
theorem ro_PB_outputAt (kk : Nat) : RunOK 1 2 T_PB_outputAt (call_PB_outputAt kk) (fun _ => []) (bk_PB_outputAt kk) kk (A_PB_outputAt kk) := by
  refine ⟨fun as G r h => ?_, fun pc ls st G r h => ?_, fun k pc ls st G r h => ?_⟩
  · unfold A_PB_outputAt at h
    split at h
    · exact ⟨by simp [ai_cat, Value.category], Nat.le_of_ble_eq_true rfl, fun sc => (R_PB_outputAt sc kk _ G).trans h⟩
    · cases h
  · cases h
  · cases h
theorem ro_PB_type (kk : Nat) : RunOK 1 2 T_PB_type (call_PB_type kk) (fun _ => []) (bk_PB_type kk) kk (A_PB_type kk) := by
  refine ⟨fun as G r h => ?_, fun pc ls st G r h => ?_, fun k pc ls st G r h => ?_⟩
  · unfold A_PB_type at h
    split at h
    · exact ⟨by simp [ai_cat, Value.category], Nat.le_of_ble_eq_true rfl, fun sc => (R_PB_type sc kk _ G).trans h⟩
    · cases h
  · cases h
  · cases h
theorem ro_PB_performCommands (kk : Nat) : RunOK 0 6 T_PB_performCommands (call_PB_performCommands kk) (fun _ => []) (bk_PB_performCommands kk) kk (A_PB_performCommands kk) := by
  refine ⟨fun as G r h => ?_, fun pc ls st G r h => ?_, fun k pc ls st G r h => ?_⟩
  · unfold A_PB_performCommands at h
    split at h
    · exact ⟨by simp [ai_cat, Value.category], Nat.le_of_ble_eq_true rfl, fun sc => (R_PB_performCommands sc kk G).trans h⟩
    · cases h
  · unfold bk_PB_performCommands at h
    split at h
    · split at h
      · cases (show (none : Res) = some r from h)
      · cases h
    · cases h
  · unfold bk_PB_performCommands at h
    split at h
    · rename_i hpc
      have hpc := Nat.eq_of_beq_eq_true hpc
      subst hpc
      split at h
      · exact ⟨_, rfl, fun sc => (R_PB_performCommands_2 sc kk k _ _).trans h⟩
      · cases h
    · cases h
theorem ro_PB_runScript (kk : Nat) : RunOK 1 3 T_PB_runScript (call_PB_runScript kk) (fun _ => []) (bk_PB_runScript kk) kk (A_PB_runScript kk) := by
  refine ⟨fun as G r h => ?_, fun pc ls st G r h => ?_, fun k pc ls st G r h => ?_⟩
  · unfold A_PB_runScript at h
    split at h
    · exact ⟨by simp [ai_cat, Value.category], Nat.le_of_ble_eq_true rfl, fun sc => (R_PB_runScript sc kk G).trans h⟩
    · cases h
  · cases h
  · cases h
theorem ro_PB_errorPosition (kk : Nat) : RunOK 1 1 T_PB_errorPosition (call_PB_errorPosition kk) (fun _ => []) (bk_PB_errorPosition kk) kk (A_PB_errorPosition kk) := by
  refine ⟨fun as G r h => ?_, fun pc ls st G r h => ?_, fun k pc ls st G r h => ?_⟩
  · unfold A_PB_errorPosition at h
    split at h
    · exact ⟨by simp [ai_cat, Value.category], Nat.le_of_ble_eq_true rfl, fun sc => (R_PB_errorPosition sc kk G).trans h⟩
    · cases h
  · cases h
  · cases h
theorem ro_PB_failedCommand (kk : Nat) : RunOK 1 1 T_PB_failedCommand (call_PB_failedCommand kk) (fun _ => []) (bk_PB_failedCommand kk) kk (A_PB_failedCommand kk) := by
  refine ⟨fun as G r h => ?_, fun pc ls st G r h => ?_, fun k pc ls st G r h => ?_⟩
  · unfold A_PB_failedCommand at h
    split at h
    · exact ⟨by simp [ai_cat, Value.category], Nat.le_of_ble_eq_true rfl, fun sc => (R_PB_failedCommand sc kk G).trans h⟩
    · cases h
  · cases h
  · cases h
theorem ro_PB_undo (kk : Nat) : RunOK 1 1 T_PB_undo (call_PB_undo kk) (fun _ => []) (bk_PB_undo kk) kk (A_PB_undo kk) := by
  refine ⟨fun as G r h => ?_, fun pc ls st G r h => ?_, fun k pc ls st G r h => ?_⟩
  · unfold A_PB_undo at h
    split at h
    · exact ⟨by simp [ai_cat, Value.category], Nat.le_of_ble_eq_true rfl, fun sc => (R_PB_undo sc kk G).trans h⟩
    · cases h
  · cases h
  · cases h
theorem ro_PB_save (kk : Nat) : RunOK 0 1 T_PB_save (call_PB_save kk) (fun _ => []) (bk_PB_save kk) kk (A_PB_save kk) := by
  refine ⟨fun as G r h => ?_, fun pc ls st G r h => ?_, fun k pc ls st G r h => ?_⟩
  · unfold A_PB_save at h
    split at h
    · exact ⟨by simp [ai_cat, Value.category], Nat.le_of_ble_eq_true rfl, fun sc => (R_PB_save sc kk G).trans h⟩
    · cases h
  · cases h
  · cases h
theorem ro_PB_restore (kk : Nat) : RunOK 1 1 T_PB_restore (call_PB_restore kk) (fun _ => []) (bk_PB_restore kk) kk (A_PB_restore kk) := by
  refine ⟨fun as G r h => ?_, fun pc ls st G r h => ?_, fun k pc ls st G r h => ?_⟩
  · unfold A_PB_restore at h
    split at h
    · exact ⟨by simp [ai_cat, Value.category], Nat.le_of_ble_eq_true rfl, fun sc => (R_PB_restore sc kk G).trans h⟩
    · cases h
  · cases h
  · cases h
theorem ro_Mo_thrown (kk : Nat) : RunOK 0 1 T_Mo_thrown (call_Mo_thrown kk) (fun _ => []) (bk_Mo_thrown kk) kk (A_Mo_thrown kk) := by
  refine ⟨fun as G r h => ?_, fun pc ls st G r h => ?_, fun k pc ls st G r h => ?_⟩
  · unfold A_Mo_thrown at h
    split at h
    · exact ⟨by simp [ai_cat, Value.category], Nat.le_of_ble_eq_true rfl, fun sc => (R_Mo_thrown sc kk G).trans h⟩
    · cases h
  · cases h
  · cases h
theorem ro_Mo_fails (kk : Nat) : RunOK 0 2 T_Mo_fails (call_Mo_fails kk) (fun _ => []) (bk_Mo_fails kk) kk (A_Mo_fails kk) := by
  refine ⟨fun as G r h => ?_, fun pc ls st G r h => ?_, fun k pc ls st G r h => ?_⟩
  · unfold A_Mo_fails at h
    split at h
    · exact ⟨by simp [ai_cat, Value.category], Nat.le_of_ble_eq_true rfl, fun sc => (R_Mo_fails sc kk _ G).trans h⟩
    · cases h
  · cases h
  · cases h
theorem ro_Mo_isBetween (kk : Nat) : RunOK 0 3 T_Mo_isBetween (call_Mo_isBetween kk) (fun _ => []) (bk_Mo_isBetween kk) kk (A_Mo_isBetween kk) := by
  refine ⟨fun as G r h => ?_, fun pc ls st G r h => ?_, fun k pc ls st G r h => ?_⟩
  · unfold A_Mo_isBetween at h
    split at h
    · exact ⟨by simp [ai_cat, Value.category], Nat.le_of_ble_eq_true rfl, fun sc => (R_Mo_isBetween sc kk _ _ _ G).trans h⟩
    · cases h
  · cases h
  · cases h
theorem ro_Mo_copies (kk : Nat) : RunOK 0 2 T_Mo_copies (call_Mo_copies kk) (fun _ => []) (bk_Mo_copies kk) kk (A_Mo_copies kk) := by
  refine ⟨fun as G r h => ?_, fun pc ls st G r h => ?_, fun k pc ls st G r h => ?_⟩
  · unfold A_Mo_copies at h
    split at h
    · exact ⟨by simp [ai_cat, Value.category], Nat.le_of_ble_eq_true rfl, fun sc => (R_Mo_copies sc kk G).trans h⟩
    · cases h
  · unfold bk_Mo_copies at h
    split at h
    · split at h
      · cases (show (none : Res) = some r from h)
      · cases h
    · cases h
  · unfold bk_Mo_copies at h
    split at h
    · rename_i hpc
      have hpc := Nat.eq_of_beq_eq_true hpc
      subst hpc
      split at h
      · exact ⟨_, rfl, fun sc => (R_Mo_copies_2 sc kk k _ _).trans h⟩
      · cases h
    · cases h
theorem ro_Mo_goesBack (kk : Nat) : RunOK 0 2 T_Mo_goesBack (call_Mo_goesBack kk) (fun _ => []) (bk_Mo_goesBack kk) kk (A_Mo_goesBack kk) := by
  refine ⟨fun as G r h => ?_, fun pc ls st G r h => ?_, fun k pc ls st G r h => ?_⟩
  · unfold A_Mo_goesBack at h
    split at h
    · exact ⟨by simp [ai_cat, Value.category], Nat.le_of_ble_eq_true rfl, fun sc => (R_Mo_goesBack sc kk G).trans h⟩
    · cases h
  · unfold bk_Mo_goesBack at h
    split at h
    · split at h
      · cases (show (none : Res) = some r from h)
      · cases h
    · cases h
  · unfold bk_Mo_goesBack at h
    split at h
    · rename_i hpc
      have hpc := Nat.eq_of_beq_eq_true hpc
      subst hpc
      split at h
      · exact ⟨_, rfl, fun sc => (R_Mo_goesBack_2 sc kk k _ _).trans h⟩
      · cases h
    · cases h
theorem ro_Mo_keeps (kk : Nat) : RunOK 0 3 T_Mo_keeps (call_Mo_keeps kk) (fun _ => []) (bk_Mo_keeps kk) kk (A_Mo_keeps kk) := by
  refine ⟨fun as G r h => ?_, fun pc ls st G r h => ?_, fun k pc ls st G r h => ?_⟩
  · unfold A_Mo_keeps at h
    split at h
    · exact ⟨by simp [ai_cat, Value.category], Nat.le_of_ble_eq_true rfl, fun sc => (R_Mo_keeps sc kk G).trans h⟩
    · cases h
  · unfold bk_Mo_keeps at h
    split at h
    · split at h
      · cases (show (none : Res) = some r from h)
      · cases h
    · cases h
  · unfold bk_Mo_keeps at h
    split at h
    · rename_i hpc
      have hpc := Nat.eq_of_beq_eq_true hpc
      subst hpc
      split at h
      · exact ⟨_, rfl, fun sc => (R_Mo_keeps_47 sc kk k _ _ _).trans h⟩
      · cases h
    · cases h
theorem ro_Mo_remembers (kk : Nat) : RunOK 0 1 T_Mo_remembers (call_Mo_remembers kk) (fun _ => []) (bk_Mo_remembers kk) kk (A_Mo_remembers kk) := by
  refine ⟨fun as G r h => ?_, fun pc ls st G r h => ?_, fun k pc ls st G r h => ?_⟩
  · unfold A_Mo_remembers at h
    split at h
    · exact ⟨by simp [ai_cat, Value.category], Nat.le_of_ble_eq_true rfl, fun sc => (R_Mo_remembers sc kk G).trans h⟩
    · cases h
  · cases h
  · cases h
theorem ro_Mo_isBay (kk : Nat) : RunOK 0 1 T_Mo_isBay (call_Mo_isBay kk) (fun _ => []) (bk_Mo_isBay kk) kk (A_Mo_isBay kk) := by
  refine ⟨fun as G r h => ?_, fun pc ls st G r h => ?_, fun k pc ls st G r h => ?_⟩
  · unfold A_Mo_isBay at h
    split at h
    · exact ⟨by simp [ai_cat, Value.category], Nat.le_of_ble_eq_true rfl, fun sc => (R_Mo_isBay sc kk _ G).trans h⟩
    · cases h
  · cases h
  · cases h
theorem ro_Mo_at (kk : Nat) : RunOK 0 4 T_Mo_at (call_Mo_at kk) (fun _ => []) (bk_Mo_at kk) kk (A_Mo_at kk) := by
  refine ⟨fun as G r h => ?_, fun pc ls st G r h => ?_, fun k pc ls st G r h => ?_⟩
  · unfold A_Mo_at at h
    split at h
    · exact ⟨by simp [ai_cat, Value.category], Nat.le_of_ble_eq_true rfl, fun sc => (R_Mo_at sc kk _ _ _ G).trans h⟩
    · cases h
  · cases h
  · cases h
theorem ro_Mo_puts (kk : Nat) : RunOK 0 5 T_Mo_puts (call_Mo_puts kk) (fun _ => []) (bk_Mo_puts kk) kk (A_Mo_puts kk) := by
  refine ⟨fun as G r h => ?_, fun pc ls st G r h => ?_, fun k pc ls st G r h => ?_⟩
  · unfold A_Mo_puts at h
    split at h
    · exact ⟨by simp [ai_cat, Value.category], Nat.le_of_ble_eq_true rfl, fun sc => (R_Mo_puts sc kk _ _ _ _ G).trans h⟩
    · cases h
  · cases h
  · cases h
theorem ro_Mo_top (kk : Nat) : RunOK 0 3 T_Mo_top (call_Mo_top kk) (fun _ => []) (bk_Mo_top kk) kk (A_Mo_top kk) := by
  refine ⟨fun as G r h => ?_, fun pc ls st G r h => ?_, fun k pc ls st G r h => ?_⟩
  · unfold A_Mo_top at h
    split at h
    · exact ⟨by simp [ai_cat, Value.category], Nat.le_of_ble_eq_true rfl, fun sc => (R_Mo_top sc kk _ _ G).trans h⟩
    · cases h
  · cases h
  · cases h
theorem ro_Mo_weightOfBay (kk : Nat) : RunOK 0 4 T_Mo_weightOfBay (call_Mo_weightOfBay kk) (fun _ => []) (bk_Mo_weightOfBay kk) kk (A_Mo_weightOfBay kk) := by
  refine ⟨fun as G r h => ?_, fun pc ls st G r h => ?_, fun k pc ls st G r h => ?_⟩
  · unfold A_Mo_weightOfBay at h
    split at h
    · exact ⟨by simp [ai_cat, Value.category], Nat.le_of_ble_eq_true rfl, fun sc => (R_Mo_weightOfBay sc kk _ G).trans h⟩
    · cases h
  · unfold bk_Mo_weightOfBay at h
    split at h
    · split at h
      · cases (show (none : Res) = some r from h)
      · cases h
    · cases h
  · unfold bk_Mo_weightOfBay at h
    split at h
    · rename_i hpc
      have hpc := Nat.eq_of_beq_eq_true hpc
      subst hpc
      split at h
      · exact ⟨_, rfl, fun sc => (R_Mo_weightOfBay_4 sc kk k _ _ _ _).trans h⟩
      · cases h
    · cases h
theorem ro_Mo_momentNow (kk : Nat) : RunOK 0 3 T_Mo_momentNow (call_Mo_momentNow kk) (fun _ => []) (bk_Mo_momentNow kk) kk (A_Mo_momentNow kk) := by
  refine ⟨fun as G r h => ?_, fun pc ls st G r h => ?_, fun k pc ls st G r h => ?_⟩
  · unfold A_Mo_momentNow at h
    split at h
    · exact ⟨by simp [ai_cat, Value.category], Nat.le_of_ble_eq_true rfl, fun sc => (R_Mo_momentNow sc kk G).trans h⟩
    · cases h
  · unfold bk_Mo_momentNow at h
    split at h
    · split at h
      · cases (show (none : Res) = some r from h)
      · cases h
    · cases h
  · unfold bk_Mo_momentNow at h
    split at h
    · rename_i hpc
      have hpc := Nat.eq_of_beq_eq_true hpc
      subst hpc
      split at h
      · exact ⟨_, rfl, fun sc => (R_Mo_momentNow_4 sc kk k _ _ _).trans h⟩
      · cases h
    · cases h
theorem ro_Mo_weightAll (kk : Nat) : RunOK 0 3 T_Mo_weightAll (call_Mo_weightAll kk) (fun _ => []) (bk_Mo_weightAll kk) kk (A_Mo_weightAll kk) := by
  refine ⟨fun as G r h => ?_, fun pc ls st G r h => ?_, fun k pc ls st G r h => ?_⟩
  · unfold A_Mo_weightAll at h
    split at h
    · exact ⟨by simp [ai_cat, Value.category], Nat.le_of_ble_eq_true rfl, fun sc => (R_Mo_weightAll sc kk G).trans h⟩
    · cases h
  · unfold bk_Mo_weightAll at h
    split at h
    · split at h
      · cases (show (none : Res) = some r from h)
      · cases h
    · cases h
  · unfold bk_Mo_weightAll at h
    split at h
    · rename_i hpc
      have hpc := Nat.eq_of_beq_eq_true hpc
      subst hpc
      split at h
      · exact ⟨_, rfl, fun sc => (R_Mo_weightAll_4 sc kk k _ _ _).trans h⟩
      · cases h
    · cases h
theorem ro_Mo_countAll (kk : Nat) : RunOK 0 3 T_Mo_countAll (call_Mo_countAll kk) (fun _ => []) (bk_Mo_countAll kk) kk (A_Mo_countAll kk) := by
  refine ⟨fun as G r h => ?_, fun pc ls st G r h => ?_, fun k pc ls st G r h => ?_⟩
  · unfold A_Mo_countAll at h
    split at h
    · exact ⟨by simp [ai_cat, Value.category], Nat.le_of_ble_eq_true rfl, fun sc => (R_Mo_countAll sc kk G).trans h⟩
    · cases h
  · unfold bk_Mo_countAll at h
    split at h
    · split at h
      · cases (show (none : Res) = some r from h)
      · cases h
    · cases h
  · unfold bk_Mo_countAll at h
    split at h
    · rename_i hpc
      have hpc := Nat.eq_of_beq_eq_true hpc
      subst hpc
      split at h
      · exact ⟨_, rfl, fun sc => (R_Mo_countAll_4 sc kk k _ _ _).trans h⟩
      · cases h
    · cases h
theorem ro_Mo_isBeyond (kk : Nat) : RunOK 0 3 T_Mo_isBeyond (call_Mo_isBeyond kk) (fun _ => []) (bk_Mo_isBeyond kk) kk (A_Mo_isBeyond kk) := by
  refine ⟨fun as G r h => ?_, fun pc ls st G r h => ?_, fun k pc ls st G r h => ?_⟩
  · unfold A_Mo_isBeyond at h
    split at h
    · exact ⟨by simp [ai_cat, Value.category], Nat.le_of_ble_eq_true rfl, fun sc => (R_Mo_isBeyond sc kk _ G).trans h⟩
    · cases h
  · cases h
  · cases h
theorem ro_Mo_lever (kk : Nat) : RunOK 0 2 T_Mo_lever (call_Mo_lever kk) (fun _ => []) (bk_Mo_lever kk) kk (A_Mo_lever kk) := by
  refine ⟨fun as G r h => ?_, fun pc ls st G r h => ?_, fun k pc ls st G r h => ?_⟩
  · unfold A_Mo_lever at h
    split at h
    · exact ⟨by simp [ai_cat, Value.category], Nat.le_of_ble_eq_true rfl, fun sc => (R_Mo_lever sc kk _ _ G).trans h⟩
    · cases h
  · cases h
  · cases h
theorem ro_Mo_lays (kk : Nat) : RunOK 0 7 T_Mo_lays (call_Mo_lays kk) (fun _ => []) (bk_Mo_lays kk) kk (A_Mo_lays kk) := by
  refine ⟨fun as G r h => ?_, fun pc ls st G r h => ?_, fun k pc ls st G r h => ?_⟩
  · unfold A_Mo_lays at h
    split at h
    · exact ⟨by simp [ai_cat, Value.category], Nat.le_of_ble_eq_true rfl, fun sc => (R_Mo_lays sc kk _ _ _ _ _ G).trans h⟩
    · cases h
  · cases h
  · cases h
theorem ro_Mo_takes (kk : Nat) : RunOK 0 3 T_Mo_takes (call_Mo_takes kk) (fun _ => []) (bk_Mo_takes kk) kk (A_Mo_takes kk) := by
  refine ⟨fun as G r h => ?_, fun pc ls st G r h => ?_, fun k pc ls st G r h => ?_⟩
  · unfold A_Mo_takes at h
    split at h
    · exact ⟨by simp [ai_cat, Value.category], Nat.le_of_ble_eq_true rfl, fun sc => (R_Mo_takes sc kk _ G).trans h⟩
    · cases h
  · unfold bk_Mo_takes at h
    split at h
    · split at h
      · cases (show (none : Res) = some r from h)
      · cases h
    · cases h
  · unfold bk_Mo_takes at h
    split at h
    · rename_i hpc
      have hpc := Nat.eq_of_beq_eq_true hpc
      subst hpc
      split at h
      · exact ⟨_, rfl, fun sc => (R_Mo_takes_15 sc kk k _ _ _).trans h⟩
      · cases h
    · cases h
theorem ro_Mo_notLoad (kk : Nat) : RunOK 0 4 T_Mo_notLoad (call_Mo_notLoad kk) (fun _ => []) (bk_Mo_notLoad kk) kk (A_Mo_notLoad kk) := by
  refine ⟨fun as G r h => ?_, fun pc ls st G r h => ?_, fun k pc ls st G r h => ?_⟩
  · unfold A_Mo_notLoad at h
    split at h
    · exact ⟨by simp [ai_cat, Value.category], Nat.le_of_ble_eq_true rfl, fun sc => (R_Mo_notLoad sc kk _ _ _ G).trans h⟩
    · cases h
  · cases h
  · cases h
theorem ro_Mo_loads (kk : Nat) : RunOK 0 4 T_Mo_loads (call_Mo_loads kk) (fun _ => []) (bk_Mo_loads kk) kk (A_Mo_loads kk) := by
  refine ⟨fun as G r h => ?_, fun pc ls st G r h => ?_, fun k pc ls st G r h => ?_⟩
  · unfold A_Mo_loads at h
    split at h
    · exact ⟨by simp [ai_cat, Value.category], Nat.le_of_ble_eq_true rfl, fun sc => (R_Mo_loads sc kk _ _ _ G).trans h⟩
    · cases h
  · cases h
  · cases h
theorem ro_Mo_load (kk : Nat) : RunOK 0 5 T_Mo_load (call_Mo_load kk) (fun _ => []) (bk_Mo_load kk) kk (A_Mo_load kk) := by
  refine ⟨fun as G r h => ?_, fun pc ls st G r h => ?_, fun k pc ls st G r h => ?_⟩
  · unfold A_Mo_load at h
    split at h
    · exact ⟨by simp [ai_cat, Value.category], Nat.le_of_ble_eq_true rfl, fun sc => (R_Mo_load sc kk _ _ _ G).trans h⟩
    · cases h
  · cases h
  · cases h
theorem ro_Mo_notUnload (kk : Nat) : RunOK 0 2 T_Mo_notUnload (call_Mo_notUnload kk) (fun _ => []) (bk_Mo_notUnload kk) kk (A_Mo_notUnload kk) := by
  refine ⟨fun as G r h => ?_, fun pc ls st G r h => ?_, fun k pc ls st G r h => ?_⟩
  · unfold A_Mo_notUnload at h
    split at h
    · exact ⟨by simp [ai_cat, Value.category], Nat.le_of_ble_eq_true rfl, fun sc => (R_Mo_notUnload sc kk _ G).trans h⟩
    · cases h
  · cases h
  · cases h
theorem ro_Mo_unloads (kk : Nat) : RunOK 0 3 T_Mo_unloads (call_Mo_unloads kk) (fun _ => []) (bk_Mo_unloads kk) kk (A_Mo_unloads kk) := by
  refine ⟨fun as G r h => ?_, fun pc ls st G r h => ?_, fun k pc ls st G r h => ?_⟩
  · unfold A_Mo_unloads at h
    split at h
    · exact ⟨by simp [ai_cat, Value.category], Nat.le_of_ble_eq_true rfl, fun sc => (R_Mo_unloads sc kk _ G).trans h⟩
    · cases h
  · cases h
  · cases h
theorem ro_Mo_unload (kk : Nat) : RunOK 0 3 T_Mo_unload (call_Mo_unload kk) (fun _ => []) (bk_Mo_unload kk) kk (A_Mo_unload kk) := by
  refine ⟨fun as G r h => ?_, fun pc ls st G r h => ?_, fun k pc ls st G r h => ?_⟩
  · unfold A_Mo_unload at h
    split at h
    · exact ⟨by simp [ai_cat, Value.category], Nat.le_of_ble_eq_true rfl, fun sc => (R_Mo_unload sc kk _ G).trans h⟩
    · cases h
  · cases h
  · cases h
theorem ro_Mo_notShift (kk : Nat) : RunOK 0 4 T_Mo_notShift (call_Mo_notShift kk) (fun _ => []) (bk_Mo_notShift kk) kk (A_Mo_notShift kk) := by
  refine ⟨fun as G r h => ?_, fun pc ls st G r h => ?_, fun k pc ls st G r h => ?_⟩
  · unfold A_Mo_notShift at h
    split at h
    · exact ⟨by simp [ai_cat, Value.category], Nat.le_of_ble_eq_true rfl, fun sc => (R_Mo_notShift sc kk _ _ G).trans h⟩
    · cases h
  · cases h
  · cases h
theorem ro_Mo_shifts (kk : Nat) : RunOK 0 4 T_Mo_shifts (call_Mo_shifts kk) (fun _ => []) (bk_Mo_shifts kk) kk (A_Mo_shifts kk) := by
  refine ⟨fun as G r h => ?_, fun pc ls st G r h => ?_, fun k pc ls st G r h => ?_⟩
  · unfold A_Mo_shifts at h
    split at h
    · exact ⟨by simp [ai_cat, Value.category], Nat.le_of_ble_eq_true rfl, fun sc => (R_Mo_shifts sc kk _ _ G).trans h⟩
    · cases h
  · cases h
  · cases h
theorem ro_Mo_shift (kk : Nat) : RunOK 0 4 T_Mo_shift (call_Mo_shift kk) (fun _ => []) (bk_Mo_shift kk) kk (A_Mo_shift kk) := by
  refine ⟨fun as G r h => ?_, fun pc ls st G r h => ?_, fun k pc ls st G r h => ?_⟩
  · unfold A_Mo_shift at h
    split at h
    · exact ⟨by simp [ai_cat, Value.category], Nat.le_of_ble_eq_true rfl, fun sc => (R_Mo_shift sc kk _ _ G).trans h⟩
    · cases h
  · cases h
  · cases h
theorem ro_Mo_portBehind (kk : Nat) : RunOK 0 2 T_Mo_portBehind (call_Mo_portBehind kk) (fun _ => []) (bk_Mo_portBehind kk) kk (A_Mo_portBehind kk) := by
  refine ⟨fun as G r h => ?_, fun pc ls st G r h => ?_, fun k pc ls st G r h => ?_⟩
  · unfold A_Mo_portBehind at h
    split at h
    · exact ⟨by simp [ai_cat, Value.category], Nat.le_of_ble_eq_true rfl, fun sc => (R_Mo_portBehind sc kk _ G).trans h⟩
    · cases h
  · cases h
  · cases h
theorem ro_Mo_notSail (kk : Nat) : RunOK 0 1 T_Mo_notSail (call_Mo_notSail kk) (fun _ => []) (bk_Mo_notSail kk) kk (A_Mo_notSail kk) := by
  refine ⟨fun as G r h => ?_, fun pc ls st G r h => ?_, fun k pc ls st G r h => ?_⟩
  · unfold A_Mo_notSail at h
    split at h
    · exact ⟨by simp [ai_cat, Value.category], Nat.le_of_ble_eq_true rfl, fun sc => (R_Mo_notSail sc kk _ G).trans h⟩
    · cases h
  · cases h
  · cases h
theorem ro_Mo_sails (kk : Nat) : RunOK 0 2 T_Mo_sails (call_Mo_sails kk) (fun _ => []) (bk_Mo_sails kk) kk (A_Mo_sails kk) := by
  refine ⟨fun as G r h => ?_, fun pc ls st G r h => ?_, fun k pc ls st G r h => ?_⟩
  · unfold A_Mo_sails at h
    split at h
    · exact ⟨by simp [ai_cat, Value.category], Nat.le_of_ble_eq_true rfl, fun sc => (R_Mo_sails sc kk _ G).trans h⟩
    · cases h
  · cases h
  · cases h
theorem ro_Mo_sail (kk : Nat) : RunOK 0 2 T_Mo_sail (call_Mo_sail kk) (fun _ => []) (bk_Mo_sail kk) kk (A_Mo_sail kk) := by
  refine ⟨fun as G r h => ?_, fun pc ls st G r h => ?_, fun k pc ls st G r h => ?_⟩
  · unfold A_Mo_sail at h
    split at h
    · exact ⟨by simp [ai_cat, Value.category], Nat.le_of_ble_eq_true rfl, fun sc => (R_Mo_sail sc kk _ G).trans h⟩
    · cases h
  · cases h
  · cases h
theorem ro_Mo_turns (kk : Nat) : RunOK 0 1 T_Mo_turns (call_Mo_turns kk) (fun _ => []) (bk_Mo_turns kk) kk (A_Mo_turns kk) := by
  refine ⟨fun as G r h => ?_, fun pc ls st G r h => ?_, fun k pc ls st G r h => ?_⟩
  · unfold A_Mo_turns at h
    split at h
    · exact ⟨by simp [ai_cat, Value.category], Nat.le_of_ble_eq_true rfl, fun sc => (R_Mo_turns sc kk G).trans h⟩
    · cases h
  · cases h
  · cases h
theorem ro_Mo_turn (kk : Nat) : RunOK 0 1 T_Mo_turn (call_Mo_turn kk) (fun _ => []) (bk_Mo_turn kk) kk (A_Mo_turn kk) := by
  refine ⟨fun as G r h => ?_, fun pc ls st G r h => ?_, fun k pc ls st G r h => ?_⟩
  · unfold A_Mo_turn at h
    split at h
    · exact ⟨by simp [ai_cat, Value.category], Nat.le_of_ble_eq_true rfl, fun sc => (R_Mo_turn sc kk G).trans h⟩
    · cases h
  · cases h
  · cases h
theorem ro_Mo_notLimit (kk : Nat) : RunOK 0 3 T_Mo_notLimit (call_Mo_notLimit kk) (fun _ => []) (bk_Mo_notLimit kk) kk (A_Mo_notLimit kk) := by
  refine ⟨fun as G r h => ?_, fun pc ls st G r h => ?_, fun k pc ls st G r h => ?_⟩
  · unfold A_Mo_notLimit at h
    split at h
    · exact ⟨by simp [ai_cat, Value.category], Nat.le_of_ble_eq_true rfl, fun sc => (R_Mo_notLimit sc kk _ G).trans h⟩
    · cases h
  · cases h
  · cases h
theorem ro_Mo_setsLimit (kk : Nat) : RunOK 0 3 T_Mo_setsLimit (call_Mo_setsLimit kk) (fun _ => []) (bk_Mo_setsLimit kk) kk (A_Mo_setsLimit kk) := by
  refine ⟨fun as G r h => ?_, fun pc ls st G r h => ?_, fun k pc ls st G r h => ?_⟩
  · unfold A_Mo_setsLimit at h
    split at h
    · exact ⟨by simp [ai_cat, Value.category], Nat.le_of_ble_eq_true rfl, fun sc => (R_Mo_setsLimit sc kk _ G).trans h⟩
    · cases h
  · cases h
  · cases h
theorem ro_Mo_setLimit (kk : Nat) : RunOK 0 3 T_Mo_setLimit (call_Mo_setLimit kk) (fun _ => []) (bk_Mo_setLimit kk) kk (A_Mo_setLimit kk) := by
  refine ⟨fun as G r h => ?_, fun pc ls st G r h => ?_, fun k pc ls st G r h => ?_⟩
  · unfold A_Mo_setLimit at h
    split at h
    · exact ⟨by simp [ai_cat, Value.category], Nat.le_of_ble_eq_true rfl, fun sc => (R_Mo_setLimit sc kk _ G).trans h⟩
    · cases h
  · cases h
  · cases h
theorem ro_Mo_notDrill (kk : Nat) : RunOK 0 1 T_Mo_notDrill (call_Mo_notDrill kk) (fun _ => []) (bk_Mo_notDrill kk) kk (A_Mo_notDrill kk) := by
  refine ⟨fun as G r h => ?_, fun pc ls st G r h => ?_, fun k pc ls st G r h => ?_⟩
  · unfold A_Mo_notDrill at h
    split at h
    · exact ⟨by simp [ai_cat, Value.category], Nat.le_of_ble_eq_true rfl, fun sc => (R_Mo_notDrill sc kk _ G).trans h⟩
    · cases h
  · cases h
  · cases h
theorem ro_Mo_drills (kk : Nat) : RunOK 0 3 T_Mo_drills (call_Mo_drills kk) (fun _ => []) (bk_Mo_drills kk) kk (A_Mo_drills kk) := by
  refine ⟨fun as G r h => ?_, fun pc ls st G r h => ?_, fun k pc ls st G r h => ?_⟩
  · unfold A_Mo_drills at h
    split at h
    · exact ⟨by simp [ai_cat, Value.category], Nat.le_of_ble_eq_true rfl, fun sc => (R_Mo_drills sc kk _ G).trans h⟩
    · cases h
  · cases h
  · cases h
theorem ro_Mo_drill (kk : Nat) : RunOK 0 2 T_Mo_drill (call_Mo_drill kk) (fun _ => []) (bk_Mo_drill kk) kk (A_Mo_drill kk) := by
  refine ⟨fun as G r h => ?_, fun pc ls st G r h => ?_, fun k pc ls st G r h => ?_⟩
  · unfold A_Mo_drill at h
    split at h
    · exact ⟨by simp [ai_cat, Value.category], Nat.le_of_ble_eq_true rfl, fun sc => (R_Mo_drill sc kk _ G).trans h⟩
    · cases h
  · cases h
  · cases h
theorem ro_Mo_pillowCount (kk : Nat) : RunOK 0 1 T_Mo_pillowCount (call_Mo_pillowCount kk) (fun _ => []) (bk_Mo_pillowCount kk) kk (A_Mo_pillowCount kk) := by
  refine ⟨fun as G r h => ?_, fun pc ls st G r h => ?_, fun k pc ls st G r h => ?_⟩
  · unfold A_Mo_pillowCount at h
    split at h
    · exact ⟨by simp [ai_cat, Value.category], Nat.le_of_ble_eq_true rfl, fun sc => (R_Mo_pillowCount sc kk G).trans h⟩
    · cases h
  · cases h
  · cases h
theorem ro_Mo_stackHeight (kk : Nat) : RunOK 0 2 T_Mo_stackHeight (call_Mo_stackHeight kk) (fun _ => []) (bk_Mo_stackHeight kk) kk (A_Mo_stackHeight kk) := by
  refine ⟨fun as G r h => ?_, fun pc ls st G r h => ?_, fun k pc ls st G r h => ?_⟩
  · unfold A_Mo_stackHeight at h
    split at h
    · exact ⟨by simp [ai_cat, Value.category], Nat.le_of_ble_eq_true rfl, fun sc => (R_Mo_stackHeight sc kk _ G).trans h⟩
    · cases h
  · cases h
  · cases h
theorem ro_Mo_pillowAt (kk : Nat) : RunOK 0 3 T_Mo_pillowAt (call_Mo_pillowAt kk) (fun _ => []) (bk_Mo_pillowAt kk) kk (A_Mo_pillowAt kk) := by
  refine ⟨fun as G r h => ?_, fun pc ls st G r h => ?_, fun k pc ls st G r h => ?_⟩
  · unfold A_Mo_pillowAt at h
    split at h
    · exact ⟨by simp [ai_cat, Value.category], Nat.le_of_ble_eq_true rfl, fun sc => (R_Mo_pillowAt sc kk _ _ G).trans h⟩
    · cases h
  · cases h
  · cases h
theorem ro_Mo_placeOf (kk : Nat) : RunOK 0 4 T_Mo_placeOf (call_Mo_placeOf kk) (fun _ => []) (bk_Mo_placeOf kk) kk (A_Mo_placeOf kk) := by
  refine ⟨fun as G r h => ?_, fun pc ls st G r h => ?_, fun k pc ls st G r h => ?_⟩
  · unfold A_Mo_placeOf at h
    split at h
    · exact ⟨by simp [ai_cat, Value.category], Nat.le_of_ble_eq_true rfl, fun sc => (R_Mo_placeOf sc kk _ G).trans h⟩
    · cases h
  · unfold bk_Mo_placeOf at h
    split at h
    · split at h
      · cases (show (none : Res) = some r from h)
      · cases h
    · split at h
      · split at h
        · cases (show (none : Res) = some r from h)
        · cases h
      · cases h
  · unfold bk_Mo_placeOf at h
    split at h
    · rename_i hpc
      have hpc := Nat.eq_of_beq_eq_true hpc
      subst hpc
      split at h
      · exact ⟨_, rfl, fun sc => (R_Mo_placeOf_2 sc kk k _ _ _).trans h⟩
      · cases h
    · split at h
      · rename_i hpc
        have hpc := Nat.eq_of_beq_eq_true hpc
        subst hpc
        split at h
        · exact ⟨_, rfl, fun sc => (R_Mo_placeOf_10 sc kk k _ _ _ _).trans h⟩
        · cases h
      · cases h
theorem ro_Mo_asks (kk : Nat) : RunOK 0 4 T_Mo_asks (call_Mo_asks kk) (fun _ => []) (bk_Mo_asks kk) kk (A_Mo_asks kk) := by
  refine ⟨fun as G r h => ?_, fun pc ls st G r h => ?_, fun k pc ls st G r h => ?_⟩
  · unfold A_Mo_asks at h
    split at h
    · exact ⟨by simp [ai_cat, Value.category], Nat.le_of_ble_eq_true rfl, fun sc => (R_Mo_asks sc kk _ _ G).trans h⟩
    · cases h
  · cases h
  · cases h
theorem ro_Mo_weightOf (kk : Nat) : RunOK 0 2 T_Mo_weightOf (call_Mo_weightOf kk) (fun _ => []) (bk_Mo_weightOf kk) kk (A_Mo_weightOf kk) := by
  refine ⟨fun as G r h => ?_, fun pc ls st G r h => ?_, fun k pc ls st G r h => ?_⟩
  · unfold A_Mo_weightOf at h
    split at h
    · exact ⟨by simp [ai_cat, Value.category], Nat.le_of_ble_eq_true rfl, fun sc => (R_Mo_weightOf sc kk _ G).trans h⟩
    · cases h
  · cases h
  · cases h
theorem ro_Mo_destinationOf (kk : Nat) : RunOK 0 2 T_Mo_destinationOf (call_Mo_destinationOf kk) (fun _ => []) (bk_Mo_destinationOf kk) kk (A_Mo_destinationOf kk) := by
  refine ⟨fun as G r h => ?_, fun pc ls st G r h => ?_, fun k pc ls st G r h => ?_⟩
  · unfold A_Mo_destinationOf at h
    split at h
    · exact ⟨by simp [ai_cat, Value.category], Nat.le_of_ble_eq_true rfl, fun sc => (R_Mo_destinationOf sc kk _ G).trans h⟩
    · cases h
  · cases h
  · cases h
theorem ro_Mo_bayOf (kk : Nat) : RunOK 0 3 T_Mo_bayOf (call_Mo_bayOf kk) (fun _ => []) (bk_Mo_bayOf kk) kk (A_Mo_bayOf kk) := by
  refine ⟨fun as G r h => ?_, fun pc ls st G r h => ?_, fun k pc ls st G r h => ?_⟩
  · unfold A_Mo_bayOf at h
    split at h
    · exact ⟨by simp [ai_cat, Value.category], Nat.le_of_ble_eq_true rfl, fun sc => (R_Mo_bayOf sc kk _ G).trans h⟩
    · cases h
  · cases h
  · cases h
theorem ro_Mo_positionOf (kk : Nat) : RunOK 0 3 T_Mo_positionOf (call_Mo_positionOf kk) (fun _ => []) (bk_Mo_positionOf kk) kk (A_Mo_positionOf kk) := by
  refine ⟨fun as G r h => ?_, fun pc ls st G r h => ?_, fun k pc ls st G r h => ?_⟩
  · unfold A_Mo_positionOf at h
    split at h
    · exact ⟨by simp [ai_cat, Value.category], Nat.le_of_ble_eq_true rfl, fun sc => (R_Mo_positionOf sc kk _ G).trans h⟩
    · cases h
  · cases h
  · cases h
theorem ro_Mo_ageOf (kk : Nat) : RunOK 0 3 T_Mo_ageOf (call_Mo_ageOf kk) (fun _ => []) (bk_Mo_ageOf kk) kk (A_Mo_ageOf kk) := by
  refine ⟨fun as G r h => ?_, fun pc ls st G r h => ?_, fun k pc ls st G r h => ?_⟩
  · unfold A_Mo_ageOf at h
    split at h
    · exact ⟨by simp [ai_cat, Value.category], Nat.le_of_ble_eq_true rfl, fun sc => (R_Mo_ageOf sc kk _ G).trans h⟩
    · cases h
  · cases h
  · cases h
theorem ro_Mo_moment (kk : Nat) : RunOK 0 1 T_Mo_moment (call_Mo_moment kk) (fun _ => []) (bk_Mo_moment kk) kk (A_Mo_moment kk) := by
  refine ⟨fun as G r h => ?_, fun pc ls st G r h => ?_, fun k pc ls st G r h => ?_⟩
  · unfold A_Mo_moment at h
    split at h
    · exact ⟨by simp [ai_cat, Value.category], Nat.le_of_ble_eq_true rfl, fun sc => (R_Mo_moment sc kk G).trans h⟩
    · cases h
  · cases h
  · cases h
theorem ro_Mo_momentByBays (kk : Nat) : RunOK 0 1 T_Mo_momentByBays (call_Mo_momentByBays kk) (fun _ => []) (bk_Mo_momentByBays kk) kk (A_Mo_momentByBays kk) := by
  refine ⟨fun as G r h => ?_, fun pc ls st G r h => ?_, fun k pc ls st G r h => ?_⟩
  · unfold A_Mo_momentByBays at h
    split at h
    · exact ⟨by simp [ai_cat, Value.category], Nat.le_of_ble_eq_true rfl, fun sc => (R_Mo_momentByBays sc kk G).trans h⟩
    · cases h
  · cases h
  · cases h
theorem ro_Mo_totalWeight (kk : Nat) : RunOK 0 1 T_Mo_totalWeight (call_Mo_totalWeight kk) (fun _ => []) (bk_Mo_totalWeight kk) kk (A_Mo_totalWeight kk) := by
  refine ⟨fun as G r h => ?_, fun pc ls st G r h => ?_, fun k pc ls st G r h => ?_⟩
  · unfold A_Mo_totalWeight at h
    split at h
    · exact ⟨by simp [ai_cat, Value.category], Nat.le_of_ble_eq_true rfl, fun sc => (R_Mo_totalWeight sc kk G).trans h⟩
    · cases h
  · cases h
  · cases h
theorem ro_Mo_weightFor (kk : Nat) : RunOK 0 5 T_Mo_weightFor (call_Mo_weightFor kk) (fun _ => []) (bk_Mo_weightFor kk) kk (A_Mo_weightFor kk) := by
  refine ⟨fun as G r h => ?_, fun pc ls st G r h => ?_, fun k pc ls st G r h => ?_⟩
  · unfold A_Mo_weightFor at h
    split at h
    · exact ⟨by simp [ai_cat, Value.category], Nat.le_of_ble_eq_true rfl, fun sc => (R_Mo_weightFor sc kk _ G).trans h⟩
    · cases h
  · unfold bk_Mo_weightFor at h
    split at h
    · split at h
      · cases (show (none : Res) = some r from h)
      · cases h
    · split at h
      · split at h
        · cases (show (none : Res) = some r from h)
        · cases h
      · cases h
  · unfold bk_Mo_weightFor at h
    split at h
    · rename_i hpc
      have hpc := Nat.eq_of_beq_eq_true hpc
      subst hpc
      split at h
      · exact ⟨_, rfl, fun sc => (R_Mo_weightFor_24 sc kk k _ _ _ _).trans h⟩
      · cases h
    · split at h
      · rename_i hpc
        have hpc := Nat.eq_of_beq_eq_true hpc
        subst hpc
        split at h
        · exact ⟨_, rfl, fun sc => (R_Mo_weightFor_33 sc kk k _ _ _ _ _).trans h⟩
        · cases h
      · cases h
theorem ro_Mo_limit (kk : Nat) : RunOK 0 1 T_Mo_limit (call_Mo_limit kk) (fun _ => []) (bk_Mo_limit kk) kk (A_Mo_limit kk) := by
  refine ⟨fun as G r h => ?_, fun pc ls st G r h => ?_, fun k pc ls st G r h => ?_⟩
  · unfold A_Mo_limit at h
    split at h
    · exact ⟨by simp [ai_cat, Value.category], Nat.le_of_ble_eq_true rfl, fun sc => (R_Mo_limit sc kk G).trans h⟩
    · cases h
  · cases h
  · cases h
theorem ro_Mo_listAngle (kk : Nat) : RunOK 0 1 T_Mo_listAngle (call_Mo_listAngle kk) (fun _ => []) (bk_Mo_listAngle kk) kk (A_Mo_listAngle kk) := by
  refine ⟨fun as G r h => ?_, fun pc ls st G r h => ?_, fun k pc ls st G r h => ?_⟩
  · unfold A_Mo_listAngle at h
    split at h
    · exact ⟨by simp [ai_cat, Value.category], Nat.le_of_ble_eq_true rfl, fun sc => (R_Mo_listAngle sc kk G).trans h⟩
    · cases h
  · cases h
  · cases h
theorem ro_Mo_greatestPush (kk : Nat) : RunOK 0 1 T_Mo_greatestPush (call_Mo_greatestPush kk) (fun _ => []) (bk_Mo_greatestPush kk) kk (A_Mo_greatestPush kk) := by
  refine ⟨fun as G r h => ?_, fun pc ls st G r h => ?_, fun k pc ls st G r h => ?_⟩
  · unfold A_Mo_greatestPush at h
    split at h
    · exact ⟨by simp [ai_cat, Value.category], Nat.le_of_ble_eq_true rfl, fun sc => (R_Mo_greatestPush sc kk G).trans h⟩
    · cases h
  · cases h
  · cases h
theorem ro_Mo_magnitude (kk : Nat) : RunOK 0 1 T_Mo_magnitude (call_Mo_magnitude kk) (fun _ => []) (bk_Mo_magnitude kk) kk (A_Mo_magnitude kk) := by
  refine ⟨fun as G r h => ?_, fun pc ls st G r h => ?_, fun k pc ls st G r h => ?_⟩
  · unfold A_Mo_magnitude at h
    split at h
    · exact ⟨by simp [ai_cat, Value.category], Nat.le_of_ble_eq_true rfl, fun sc => (R_Mo_magnitude sc kk _ G).trans h⟩
    · cases h
  · cases h
  · cases h
theorem ro_Mo_isBetter (kk : Nat) : RunOK 0 5 T_Mo_isBetter (call_Mo_isBetter kk) (fun _ => []) (bk_Mo_isBetter kk) kk (A_Mo_isBetter kk) := by
  refine ⟨fun as G r h => ?_, fun pc ls st G r h => ?_, fun k pc ls st G r h => ?_⟩
  · unfold A_Mo_isBetter at h
    split at h
    · exact ⟨by simp [ai_cat, Value.category], Nat.le_of_ble_eq_true rfl, fun sc => (R_Mo_isBetter sc kk _ _ _ G).trans h⟩
    · cases h
  · cases h
  · cases h
theorem ro_Mo_levelingBay (kk : Nat) : RunOK 0 4 T_Mo_levelingBay (call_Mo_levelingBay kk) (fun _ => []) (bk_Mo_levelingBay kk) kk (A_Mo_levelingBay kk) := by
  refine ⟨fun as G r h => ?_, fun pc ls st G r h => ?_, fun k pc ls st G r h => ?_⟩
  · unfold A_Mo_levelingBay at h
    split at h
    · exact ⟨by simp [ai_cat, Value.category], Nat.le_of_ble_eq_true rfl, fun sc => (R_Mo_levelingBay sc kk _ G).trans h⟩
    · cases h
  · unfold bk_Mo_levelingBay at h
    split at h
    · split at h
      · cases (show (none : Res) = some r from h)
      · cases h
    · cases h
  · unfold bk_Mo_levelingBay at h
    split at h
    · rename_i hpc
      have hpc := Nat.eq_of_beq_eq_true hpc
      subst hpc
      split at h
      · exact ⟨_, rfl, fun sc => (R_Mo_levelingBay_25 sc kk k _ _ _ _).trans h⟩
      · cases h
    · cases h
theorem ro_Mo_port (kk : Nat) : RunOK 0 1 T_Mo_port (call_Mo_port kk) (fun _ => []) (bk_Mo_port kk) kk (A_Mo_port kk) := by
  refine ⟨fun as G r h => ?_, fun pc ls st G r h => ?_, fun k pc ls st G r h => ?_⟩
  · unfold A_Mo_port at h
    split at h
    · exact ⟨by simp [ai_cat, Value.category], Nat.le_of_ble_eq_true rfl, fun sc => (R_Mo_port sc kk G).trans h⟩
    · cases h
  · cases h
  · cases h
theorem ro_Mo_day (kk : Nat) : RunOK 0 1 T_Mo_day (call_Mo_day kk) (fun _ => []) (bk_Mo_day kk) kk (A_Mo_day kk) := by
  refine ⟨fun as G r h => ?_, fun pc ls st G r h => ?_, fun k pc ls st G r h => ?_⟩
  · unfold A_Mo_day at h
    split at h
    · exact ⟨by simp [ai_cat, Value.category], Nat.le_of_ble_eq_true rfl, fun sc => (R_Mo_day sc kk G).trans h⟩
    · cases h
  · cases h
  · cases h
theorem ro_Mo_isAscending (kk : Nat) : RunOK 0 1 T_Mo_isAscending (call_Mo_isAscending kk) (fun _ => []) (bk_Mo_isAscending kk) kk (A_Mo_isAscending kk) := by
  refine ⟨fun as G r h => ?_, fun pc ls st G r h => ?_, fun k pc ls st G r h => ?_⟩
  · unfold A_Mo_isAscending at h
    split at h
    · exact ⟨by simp [ai_cat, Value.category], Nat.le_of_ble_eq_true rfl, fun sc => (R_Mo_isAscending sc kk G).trans h⟩
    · cases h
  · cases h
  · cases h
theorem ro_Mo_legs (kk : Nat) : RunOK 0 3 T_Mo_legs (call_Mo_legs kk) (fun _ => []) (bk_Mo_legs kk) kk (A_Mo_legs kk) := by
  refine ⟨fun as G r h => ?_, fun pc ls st G r h => ?_, fun k pc ls st G r h => ?_⟩
  · unfold A_Mo_legs at h
    split at h
    · exact ⟨by simp [ai_cat, Value.category], Nat.le_of_ble_eq_true rfl, fun sc => (R_Mo_legs sc kk _ G).trans h⟩
    · cases h
  · unfold bk_Mo_legs at h
    split at h
    · split at h
      · cases (show (none : Res) = some r from h)
      · cases h
    · cases h
  · unfold bk_Mo_legs at h
    split at h
    · rename_i hpc
      have hpc := Nat.eq_of_beq_eq_true hpc
      subst hpc
      split at h
      · exact ⟨_, rfl, fun sc => (R_Mo_legs_2 sc kk k _ _ _).trans h⟩
      · cases h
    · cases h
theorem ro_Mo_legsTo (kk : Nat) : RunOK 0 2 T_Mo_legsTo (call_Mo_legsTo kk) (fun _ => []) (bk_Mo_legsTo kk) kk (A_Mo_legsTo kk) := by
  refine ⟨fun as G r h => ?_, fun pc ls st G r h => ?_, fun k pc ls st G r h => ?_⟩
  · unfold A_Mo_legsTo at h
    split at h
    · exact ⟨by simp [ai_cat, Value.category], Nat.le_of_ble_eq_true rfl, fun sc => (R_Mo_legsTo sc kk _ G).trans h⟩
    · cases h
  · cases h
  · cases h
theorem ro_Mo_portAfter (kk : Nat) : RunOK 0 2 T_Mo_portAfter (call_Mo_portAfter kk) (fun _ => []) (bk_Mo_portAfter kk) kk (A_Mo_portAfter kk) := by
  refine ⟨fun as G r h => ?_, fun pc ls st G r h => ?_, fun k pc ls st G r h => ?_⟩
  · unfold A_Mo_portAfter at h
    split at h
    · exact ⟨by simp [ai_cat, Value.category], Nat.le_of_ble_eq_true rfl, fun sc => (R_Mo_portAfter sc kk _ G).trans h⟩
    · cases h
  · cases h
  · cases h
theorem ro_Mo_inTheWay (kk : Nat) : RunOK 0 6 T_Mo_inTheWay (call_Mo_inTheWay kk) (fun _ => []) (bk_Mo_inTheWay kk) kk (A_Mo_inTheWay kk) := by
  refine ⟨fun as G r h => ?_, fun pc ls st G r h => ?_, fun k pc ls st G r h => ?_⟩
  · unfold A_Mo_inTheWay at h
    split at h
    · exact ⟨by simp [ai_cat, Value.category], Nat.le_of_ble_eq_true rfl, fun sc => (R_Mo_inTheWay sc kk _ _ G).trans h⟩
    · cases h
  · unfold bk_Mo_inTheWay at h
    split at h
    · split at h
      · cases (show (none : Res) = some r from h)
      · cases h
    · cases h
  · unfold bk_Mo_inTheWay at h
    split at h
    · rename_i hpc
      have hpc := Nat.eq_of_beq_eq_true hpc
      subst hpc
      split at h
      · exact ⟨_, rfl, fun sc => (R_Mo_inTheWay_20 sc kk k _ _ _ _ _).trans h⟩
      · cases h
    · cases h
theorem ro_Mo_pillowsInTheWay (kk : Nat) : RunOK 0 3 T_Mo_pillowsInTheWay (call_Mo_pillowsInTheWay kk) (fun _ => []) (bk_Mo_pillowsInTheWay kk) kk (A_Mo_pillowsInTheWay kk) := by
  refine ⟨fun as G r h => ?_, fun pc ls st G r h => ?_, fun k pc ls st G r h => ?_⟩
  · unfold A_Mo_pillowsInTheWay at h
    split at h
    · exact ⟨by simp [ai_cat, Value.category], Nat.le_of_ble_eq_true rfl, fun sc => (R_Mo_pillowsInTheWay sc kk _ G).trans h⟩
    · cases h
  · cases h
  · cases h
theorem ro_Mo_pairsInTheWay (kk : Nat) : RunOK 0 4 T_Mo_pairsInTheWay (call_Mo_pairsInTheWay kk) (fun _ => []) (bk_Mo_pairsInTheWay kk) kk (A_Mo_pairsInTheWay kk) := by
  refine ⟨fun as G r h => ?_, fun pc ls st G r h => ?_, fun k pc ls st G r h => ?_⟩
  · unfold A_Mo_pairsInTheWay at h
    split at h
    · exact ⟨by simp [ai_cat, Value.category], Nat.le_of_ble_eq_true rfl, fun sc => (R_Mo_pairsInTheWay sc kk G).trans h⟩
    · cases h
  · unfold bk_Mo_pairsInTheWay at h
    split at h
    · split at h
      · cases (show (none : Res) = some r from h)
      · cases h
    · split at h
      · split at h
        · cases (show (none : Res) = some r from h)
        · cases h
      · cases h
  · unfold bk_Mo_pairsInTheWay at h
    split at h
    · rename_i hpc
      have hpc := Nat.eq_of_beq_eq_true hpc
      subst hpc
      split at h
      · exact ⟨_, rfl, fun sc => (R_Mo_pairsInTheWay_9 sc kk k _ _ _).trans h⟩
      · cases h
    · split at h
      · rename_i hpc
        have hpc := Nat.eq_of_beq_eq_true hpc
        subst hpc
        split at h
        · exact ⟨_, rfl, fun sc => (R_Mo_pairsInTheWay_17 sc kk k _ _ _ _).trans h⟩
        · cases h
      · cases h
theorem ro_Mo_pairsInTheWayByStacks (kk : Nat) : RunOK 0 1 T_Mo_pairsInTheWayByStacks (call_Mo_pairsInTheWayByStacks kk) (fun _ => []) (bk_Mo_pairsInTheWayByStacks kk) kk (A_Mo_pairsInTheWayByStacks kk) := by
  refine ⟨fun as G r h => ?_, fun pc ls st G r h => ?_, fun k pc ls st G r h => ?_⟩
  · unfold A_Mo_pairsInTheWayByStacks at h
    split at h
    · exact ⟨by simp [ai_cat, Value.category], Nat.le_of_ble_eq_true rfl, fun sc => (R_Mo_pairsInTheWayByStacks sc kk G).trans h⟩
    · cases h
  · cases h
  · cases h
theorem ro_Mo_isAhead (kk : Nat) : RunOK 0 5 T_Mo_isAhead (call_Mo_isAhead kk) (fun _ => []) (bk_Mo_isAhead kk) kk (A_Mo_isAhead kk) := by
  refine ⟨fun as G r h => ?_, fun pc ls st G r h => ?_, fun k pc ls st G r h => ?_⟩
  · unfold A_Mo_isAhead at h
    split at h
    · exact ⟨by simp [ai_cat, Value.category], Nat.le_of_ble_eq_true rfl, fun sc => (R_Mo_isAhead sc kk _ _ G).trans h⟩
    · cases h
  · cases h
  · cases h
theorem ro_Mo_isTaken (kk : Nat) : RunOK 0 2 T_Mo_isTaken (call_Mo_isTaken kk) (fun _ => []) (bk_Mo_isTaken kk) kk (A_Mo_isTaken kk) := by
  refine ⟨fun as G r h => ?_, fun pc ls st G r h => ?_, fun k pc ls st G r h => ?_⟩
  · unfold A_Mo_isTaken at h
    split at h
    · exact ⟨by simp [ai_cat, Value.category], Nat.le_of_ble_eq_true rfl, fun sc => (R_Mo_isTaken sc kk _ G).trans h⟩
    · cases h
  · cases h
  · cases h
theorem ro_Mo_unloadableCount (kk : Nat) : RunOK 0 3 T_Mo_unloadableCount (call_Mo_unloadableCount kk) (fun _ => []) (bk_Mo_unloadableCount kk) kk (A_Mo_unloadableCount kk) := by
  refine ⟨fun as G r h => ?_, fun pc ls st G r h => ?_, fun k pc ls st G r h => ?_⟩
  · unfold A_Mo_unloadableCount at h
    split at h
    · exact ⟨by simp [ai_cat, Value.category], Nat.le_of_ble_eq_true rfl, fun sc => (R_Mo_unloadableCount sc kk G).trans h⟩
    · cases h
  · unfold bk_Mo_unloadableCount at h
    split at h
    · split at h
      · cases (show (none : Res) = some r from h)
      · cases h
    · cases h
  · unfold bk_Mo_unloadableCount at h
    split at h
    · rename_i hpc
      have hpc := Nat.eq_of_beq_eq_true hpc
      subst hpc
      split at h
      · exact ⟨_, rfl, fun sc => (R_Mo_unloadableCount_9 sc kk k _ _ _).trans h⟩
      · cases h
    · cases h
theorem ro_Mo_oldestIn (kk : Nat) : RunOK 0 5 T_Mo_oldestIn (call_Mo_oldestIn kk) (fun _ => []) (bk_Mo_oldestIn kk) kk (A_Mo_oldestIn kk) := by
  refine ⟨fun as G r h => ?_, fun pc ls st G r h => ?_, fun k pc ls st G r h => ?_⟩
  · unfold A_Mo_oldestIn at h
    split at h
    · exact ⟨by simp [ai_cat, Value.category], Nat.le_of_ble_eq_true rfl, fun sc => (R_Mo_oldestIn sc kk _ G).trans h⟩
    · cases h
  · unfold bk_Mo_oldestIn at h
    split at h
    · split at h
      · cases (show (none : Res) = some r from h)
      · cases h
    · cases h
  · unfold bk_Mo_oldestIn at h
    split at h
    · rename_i hpc
      have hpc := Nat.eq_of_beq_eq_true hpc
      subst hpc
      split at h
      · exact ⟨_, rfl, fun sc => (R_Mo_oldestIn_40 sc kk k _ _ _ _).trans h⟩
      · cases h
    · cases h
theorem ro_Mo_heaviestPort (kk : Nat) : RunOK 0 4 T_Mo_heaviestPort (call_Mo_heaviestPort kk) (fun _ => []) (bk_Mo_heaviestPort kk) kk (A_Mo_heaviestPort kk) := by
  refine ⟨fun as G r h => ?_, fun pc ls st G r h => ?_, fun k pc ls st G r h => ?_⟩
  · unfold A_Mo_heaviestPort at h
    split at h
    · exact ⟨by simp [ai_cat, Value.category], Nat.le_of_ble_eq_true rfl, fun sc => (R_Mo_heaviestPort sc kk G).trans h⟩
    · cases h
  · unfold bk_Mo_heaviestPort at h
    split at h
    · split at h
      · cases (show (none : Res) = some r from h)
      · cases h
    · cases h
  · unfold bk_Mo_heaviestPort at h
    split at h
    · rename_i hpc
      have hpc := Nat.eq_of_beq_eq_true hpc
      subst hpc
      split at h
      · exact ⟨_, rfl, fun sc => (R_Mo_heaviestPort_22 sc kk k _ _ _).trans h⟩
      · cases h
    · cases h
theorem ro_Mo_possibleShifts (kk : Nat) : RunOK 0 4 T_Mo_possibleShifts (call_Mo_possibleShifts kk) (fun _ => []) (bk_Mo_possibleShifts kk) kk (A_Mo_possibleShifts kk) := by
  refine ⟨fun as G r h => ?_, fun pc ls st G r h => ?_, fun k pc ls st G r h => ?_⟩
  · unfold A_Mo_possibleShifts at h
    split at h
    · exact ⟨by simp [ai_cat, Value.category], Nat.le_of_ble_eq_true rfl, fun sc => (R_Mo_possibleShifts sc kk G).trans h⟩
    · cases h
  · unfold bk_Mo_possibleShifts at h
    split at h
    · split at h
      · cases (show (none : Res) = some r from h)
      · cases h
    · split at h
      · split at h
        · cases (show (none : Res) = some r from h)
        · cases h
      · cases h
  · unfold bk_Mo_possibleShifts at h
    split at h
    · rename_i hpc
      have hpc := Nat.eq_of_beq_eq_true hpc
      subst hpc
      split at h
      · exact ⟨_, rfl, fun sc => (R_Mo_possibleShifts_9 sc kk k _ _ _).trans h⟩
      · cases h
    · split at h
      · rename_i hpc
        have hpc := Nat.eq_of_beq_eq_true hpc
        subst hpc
        split at h
        · exact ⟨_, rfl, fun sc => (R_Mo_possibleShifts_17 sc kk k _ _ _ _).trans h⟩
        · cases h
      · cases h
theorem ro_Mo_pillowByTurn (kk : Nat) : RunOK 0 5 T_Mo_pillowByTurn (call_Mo_pillowByTurn kk) (fun _ => []) (bk_Mo_pillowByTurn kk) kk (A_Mo_pillowByTurn kk) := by
  refine ⟨fun as G r h => ?_, fun pc ls st G r h => ?_, fun k pc ls st G r h => ?_⟩
  · unfold A_Mo_pillowByTurn at h
    split at h
    · exact ⟨by simp [ai_cat, Value.category], Nat.le_of_ble_eq_true rfl, fun sc => (R_Mo_pillowByTurn sc kk _ G).trans h⟩
    · cases h
  · unfold bk_Mo_pillowByTurn at h
    split at h
    · split at h
      · cases (show (none : Res) = some r from h)
      · cases h
    · split at h
      · split at h
        · cases (show (none : Res) = some r from h)
        · cases h
      · cases h
  · unfold bk_Mo_pillowByTurn at h
    split at h
    · rename_i hpc
      have hpc := Nat.eq_of_beq_eq_true hpc
      subst hpc
      split at h
      · exact ⟨_, rfl, fun sc => (R_Mo_pillowByTurn_7 sc kk k _ _ _).trans h⟩
      · cases h
    · split at h
      · rename_i hpc
        have hpc := Nat.eq_of_beq_eq_true hpc
        subst hpc
        split at h
        · exact ⟨_, rfl, fun sc => (R_Mo_pillowByTurn_29 sc kk k _ _ _ _ _).trans h⟩
        · cases h
      · cases h
theorem ro_Mo_bayByWeight (kk : Nat) : RunOK 0 6 T_Mo_bayByWeight (call_Mo_bayByWeight kk) (fun _ => []) (bk_Mo_bayByWeight kk) kk (A_Mo_bayByWeight kk) := by
  refine ⟨fun as G r h => ?_, fun pc ls st G r h => ?_, fun k pc ls st G r h => ?_⟩
  · unfold A_Mo_bayByWeight at h
    split at h
    · exact ⟨by simp [ai_cat, Value.category], Nat.le_of_ble_eq_true rfl, fun sc => (R_Mo_bayByWeight sc kk _ G).trans h⟩
    · cases h
  · unfold bk_Mo_bayByWeight at h
    split at h
    · split at h
      · cases (show (none : Res) = some r from h)
      · cases h
    · split at h
      · split at h
        · cases (show (none : Res) = some r from h)
        · cases h
      · cases h
  · unfold bk_Mo_bayByWeight at h
    split at h
    · rename_i hpc
      have hpc := Nat.eq_of_beq_eq_true hpc
      subst hpc
      split at h
      · exact ⟨_, rfl, fun sc => (R_Mo_bayByWeight_7 sc kk k _ _ _).trans h⟩
      · cases h
    · split at h
      · rename_i hpc
        have hpc := Nat.eq_of_beq_eq_true hpc
        subst hpc
        split at h
        · exact ⟨_, rfl, fun sc => (R_Mo_bayByWeight_18 sc kk k _ _ _ _ _).trans h⟩
        · cases h
      · cases h
theorem ro_Mo_loadedTotal (kk : Nat) : RunOK 0 1 T_Mo_loadedTotal (call_Mo_loadedTotal kk) (fun _ => []) (bk_Mo_loadedTotal kk) kk (A_Mo_loadedTotal kk) := by
  refine ⟨fun as G r h => ?_, fun pc ls st G r h => ?_, fun k pc ls st G r h => ?_⟩
  · unfold A_Mo_loadedTotal at h
    split at h
    · exact ⟨by simp [ai_cat, Value.category], Nat.le_of_ble_eq_true rfl, fun sc => (R_Mo_loadedTotal sc kk G).trans h⟩
    · cases h
  · cases h
  · cases h
theorem ro_Mo_deliveredTotal (kk : Nat) : RunOK 0 1 T_Mo_deliveredTotal (call_Mo_deliveredTotal kk) (fun _ => []) (bk_Mo_deliveredTotal kk) kk (A_Mo_deliveredTotal kk) := by
  refine ⟨fun as G r h => ?_, fun pc ls st G r h => ?_, fun k pc ls st G r h => ?_⟩
  · unfold A_Mo_deliveredTotal at h
    split at h
    · exact ⟨by simp [ai_cat, Value.category], Nat.le_of_ble_eq_true rfl, fun sc => (R_Mo_deliveredTotal sc kk G).trans h⟩
    · cases h
  · cases h
  · cases h
theorem ro_Mo_deliveredWeight (kk : Nat) : RunOK 0 1 T_Mo_deliveredWeight (call_Mo_deliveredWeight kk) (fun _ => []) (bk_Mo_deliveredWeight kk) kk (A_Mo_deliveredWeight kk) := by
  refine ⟨fun as G r h => ?_, fun pc ls st G r h => ?_, fun k pc ls st G r h => ?_⟩
  · unfold A_Mo_deliveredWeight at h
    split at h
    · exact ⟨by simp [ai_cat, Value.category], Nat.le_of_ble_eq_true rfl, fun sc => (R_Mo_deliveredWeight sc kk G).trans h⟩
    · cases h
  · cases h
  · cases h
theorem ro_Mo_drillTotal (kk : Nat) : RunOK 0 1 T_Mo_drillTotal (call_Mo_drillTotal kk) (fun _ => []) (bk_Mo_drillTotal kk) kk (A_Mo_drillTotal kk) := by
  refine ⟨fun as G r h => ?_, fun pc ls st G r h => ?_, fun k pc ls st G r h => ?_⟩
  · unfold A_Mo_drillTotal at h
    split at h
    · exact ⟨by simp [ai_cat, Value.category], Nat.le_of_ble_eq_true rfl, fun sc => (R_Mo_drillTotal sc kk G).trans h⟩
    · cases h
  · cases h
  · cases h
theorem ro_Mo_capsizedTotal (kk : Nat) : RunOK 0 1 T_Mo_capsizedTotal (call_Mo_capsizedTotal kk) (fun _ => []) (bk_Mo_capsizedTotal kk) kk (A_Mo_capsizedTotal kk) := by
  refine ⟨fun as G r h => ?_, fun pc ls st G r h => ?_, fun k pc ls st G r h => ?_⟩
  · unfold A_Mo_capsizedTotal at h
    split at h
    · exact ⟨by simp [ai_cat, Value.category], Nat.le_of_ble_eq_true rfl, fun sc => (R_Mo_capsizedTotal sc kk G).trans h⟩
    · cases h
  · cases h
  · cases h
theorem ro_Mo_meanAge (kk : Nat) : RunOK 0 3 T_Mo_meanAge (call_Mo_meanAge kk) (fun _ => []) (bk_Mo_meanAge kk) kk (A_Mo_meanAge kk) := by
  refine ⟨fun as G r h => ?_, fun pc ls st G r h => ?_, fun k pc ls st G r h => ?_⟩
  · unfold A_Mo_meanAge at h
    split at h
    · exact ⟨by simp [ai_cat, Value.category], Nat.le_of_ble_eq_true rfl, fun sc => (R_Mo_meanAge sc kk G).trans h⟩
    · cases h
  · unfold bk_Mo_meanAge at h
    split at h
    · split at h
      · cases (show (none : Res) = some r from h)
      · cases h
    · cases h
  · unfold bk_Mo_meanAge at h
    split at h
    · rename_i hpc
      have hpc := Nat.eq_of_beq_eq_true hpc
      subst hpc
      split at h
      · exact ⟨_, rfl, fun sc => (R_Mo_meanAge_23 sc kk k _ _ _).trans h⟩
      · cases h
    · cases h
theorem ro_Mo_capsizedShare (kk : Nat) : RunOK 0 1 T_Mo_capsizedShare (call_Mo_capsizedShare kk) (fun _ => []) (bk_Mo_capsizedShare kk) kk (A_Mo_capsizedShare kk) := by
  refine ⟨fun as G r h => ?_, fun pc ls st G r h => ?_, fun k pc ls st G r h => ?_⟩
  · unfold A_Mo_capsizedShare at h
    split at h
    · exact ⟨by simp [ai_cat, Value.category], Nat.le_of_ble_eq_true rfl, fun sc => (R_Mo_capsizedShare sc kk G).trans h⟩
    · cases h
  · cases h
  · cases h
theorem ro_Mo_isConsistent (kk : Nat) : RunOK 0 1 T_Mo_isConsistent (call_Mo_isConsistent kk) (fun _ => []) (bk_Mo_isConsistent kk) kk (A_Mo_isConsistent kk) := by
  refine ⟨fun as G r h => ?_, fun pc ls st G r h => ?_, fun k pc ls st G r h => ?_⟩
  · unfold A_Mo_isConsistent at h
    split at h
    · exact ⟨by simp [ai_cat, Value.category], Nat.le_of_ble_eq_true rfl, fun sc => (R_Mo_isConsistent sc kk G).trans h⟩
    · cases h
  · cases h
  · cases h
theorem ro_Mo_writes (kk : Nat) : RunOK 0 2 T_Mo_writes (call_Mo_writes kk) (fun _ => []) (bk_Mo_writes kk) kk (A_Mo_writes kk) := by
  refine ⟨fun as G r h => ?_, fun pc ls st G r h => ?_, fun k pc ls st G r h => ?_⟩
  · unfold A_Mo_writes at h
    split at h
    · exact ⟨by simp [ai_cat, Value.category], Nat.le_of_ble_eq_true rfl, fun sc => (R_Mo_writes sc kk _ G).trans h⟩
    · cases h
  · cases h
  · cases h
theorem ro_Mo_writesNumber (kk : Nat) : RunOK 0 5 T_Mo_writesNumber (call_Mo_writesNumber kk) (fun _ => []) (bk_Mo_writesNumber kk) kk (A_Mo_writesNumber kk) := by
  refine ⟨fun as G r h => ?_, fun pc ls st G r h => ?_, fun k pc ls st G r h => ?_⟩
  · unfold A_Mo_writesNumber at h
    split at h
    · exact ⟨by simp [ai_cat, Value.category], Nat.le_of_ble_eq_true rfl, fun sc => (R_Mo_writesNumber sc kk _ G).trans h⟩
    · cases h
  · unfold bk_Mo_writesNumber at h
    split at h
    · split at h
      · cases (show (none : Res) = some r from h)
      · cases h
    · split at h
      · split at h
        · cases (show (none : Res) = some r from h)
        · cases h
      · cases h
  · unfold bk_Mo_writesNumber at h
    split at h
    · rename_i hpc
      have hpc := Nat.eq_of_beq_eq_true hpc
      subst hpc
      split at h
      · exact ⟨_, rfl, fun sc => (R_Mo_writesNumber_17 sc kk k _ _ _).trans h⟩
      · cases h
    · split at h
      · rename_i hpc
        have hpc := Nat.eq_of_beq_eq_true hpc
        subst hpc
        split at h
        · exact ⟨_, rfl, fun sc => (R_Mo_writesNumber_36 sc kk k _ _ _).trans h⟩
        · cases h
      · cases h
theorem ro_Mo_renderStack (kk : Nat) : RunOK 0 3 T_Mo_renderStack (call_Mo_renderStack kk) (fun _ => []) (bk_Mo_renderStack kk) kk (A_Mo_renderStack kk) := by
  refine ⟨fun as G r h => ?_, fun pc ls st G r h => ?_, fun k pc ls st G r h => ?_⟩
  · unfold A_Mo_renderStack at h
    split at h
    · exact ⟨by simp [ai_cat, Value.category], Nat.le_of_ble_eq_true rfl, fun sc => (R_Mo_renderStack sc kk _ G).trans h⟩
    · cases h
  · unfold bk_Mo_renderStack at h
    split at h
    · split at h
      · cases (show (none : Res) = some r from h)
      · cases h
    · split at h
      · split at h
        · cases (show (none : Res) = some r from h)
        · cases h
      · cases h
  · unfold bk_Mo_renderStack at h
    split at h
    · rename_i hpc
      have hpc := Nat.eq_of_beq_eq_true hpc
      subst hpc
      split at h
      · exact ⟨_, rfl, fun sc => (R_Mo_renderStack_25 sc kk k _ _ _).trans h⟩
      · cases h
    · split at h
      · rename_i hpc
        have hpc := Nat.eq_of_beq_eq_true hpc
        subst hpc
        split at h
        · exact ⟨_, rfl, fun sc => (R_Mo_renderStack_48 sc kk k _ _ _).trans h⟩
        · cases h
      · cases h
theorem ro_Mo_renderBarge (kk : Nat) : RunOK 0 2 T_Mo_renderBarge (call_Mo_renderBarge kk) (fun _ => []) (bk_Mo_renderBarge kk) kk (A_Mo_renderBarge kk) := by
  refine ⟨fun as G r h => ?_, fun pc ls st G r h => ?_, fun k pc ls st G r h => ?_⟩
  · unfold A_Mo_renderBarge at h
    split at h
    · exact ⟨by simp [ai_cat, Value.category], Nat.le_of_ble_eq_true rfl, fun sc => (R_Mo_renderBarge sc kk G).trans h⟩
    · cases h
  · unfold bk_Mo_renderBarge at h
    split at h
    · split at h
      · cases (show (none : Res) = some r from h)
      · cases h
    · cases h
  · unfold bk_Mo_renderBarge at h
    split at h
    · rename_i hpc
      have hpc := Nat.eq_of_beq_eq_true hpc
      subst hpc
      split at h
      · exact ⟨_, rfl, fun sc => (R_Mo_renderBarge_12 sc kk k _ _).trans h⟩
      · cases h
    · cases h
theorem ro_Mo_outputAt (kk : Nat) : RunOK 0 2 T_Mo_outputAt (call_Mo_outputAt kk) (fun _ => []) (bk_Mo_outputAt kk) kk (A_Mo_outputAt kk) := by
  refine ⟨fun as G r h => ?_, fun pc ls st G r h => ?_, fun k pc ls st G r h => ?_⟩
  · unfold A_Mo_outputAt at h
    split at h
    · exact ⟨by simp [ai_cat, Value.category], Nat.le_of_ble_eq_true rfl, fun sc => (R_Mo_outputAt sc kk _ G).trans h⟩
    · cases h
  · cases h
  · cases h
theorem ro_Mo_type (kk : Nat) : RunOK 0 2 T_Mo_type (call_Mo_type kk) (fun _ => []) (bk_Mo_type kk) kk (A_Mo_type kk) := by
  refine ⟨fun as G r h => ?_, fun pc ls st G r h => ?_, fun k pc ls st G r h => ?_⟩
  · unfold A_Mo_type at h
    split at h
    · exact ⟨by simp [ai_cat, Value.category], Nat.le_of_ble_eq_true rfl, fun sc => (R_Mo_type sc kk _ G).trans h⟩
    · cases h
  · cases h
  · cases h
theorem ro_Mo_nextChar (kk : Nat) : RunOK 0 1 T_Mo_nextChar (call_Mo_nextChar kk) (fun _ => []) (bk_Mo_nextChar kk) kk (A_Mo_nextChar kk) := by
  refine ⟨fun as G r h => ?_, fun pc ls st G r h => ?_, fun k pc ls st G r h => ?_⟩
  · unfold A_Mo_nextChar at h
    split at h
    · exact ⟨by simp [ai_cat, Value.category], Nat.le_of_ble_eq_true rfl, fun sc => (R_Mo_nextChar sc kk G).trans h⟩
    · cases h
  · cases h
  · cases h
theorem ro_Mo_reads (kk : Nat) : RunOK 0 2 T_Mo_reads (call_Mo_reads kk) (fun _ => []) (bk_Mo_reads kk) kk (A_Mo_reads kk) := by
  refine ⟨fun as G r h => ?_, fun pc ls st G r h => ?_, fun k pc ls st G r h => ?_⟩
  · unfold A_Mo_reads at h
    split at h
    · exact ⟨by simp [ai_cat, Value.category], Nat.le_of_ble_eq_true rfl, fun sc => (R_Mo_reads sc kk _ G).trans h⟩
    · cases h
  · cases h
  · cases h
theorem ro_Mo_readsDigit (kk : Nat) : RunOK 0 2 T_Mo_readsDigit (call_Mo_readsDigit kk) (fun _ => []) (bk_Mo_readsDigit kk) kk (A_Mo_readsDigit kk) := by
  refine ⟨fun as G r h => ?_, fun pc ls st G r h => ?_, fun k pc ls st G r h => ?_⟩
  · unfold A_Mo_readsDigit at h
    split at h
    · exact ⟨by simp [ai_cat, Value.category], Nat.le_of_ble_eq_true rfl, fun sc => (R_Mo_readsDigit sc kk _ G).trans h⟩
    · cases h
  · cases h
  · cases h
theorem ro_Mo_readsNumber (kk : Nat) : RunOK 0 2 T_Mo_readsNumber (call_Mo_readsNumber kk) (fun _ => []) (bk_Mo_readsNumber kk) kk (A_Mo_readsNumber kk) := by
  refine ⟨fun as G r h => ?_, fun pc ls st G r h => ?_, fun k pc ls st G r h => ?_⟩
  · unfold A_Mo_readsNumber at h
    split at h
    · exact ⟨by simp [ai_cat, Value.category], Nat.le_of_ble_eq_true rfl, fun sc => (R_Mo_readsNumber sc kk _ G).trans h⟩
    · cases h
  · cases h
  · cases h
theorem ro_Mo_readsL (kk : Nat) : RunOK 0 1 T_Mo_readsL (call_Mo_readsL kk) (fun _ => []) (bk_Mo_readsL kk) kk (A_Mo_readsL kk) := by
  refine ⟨fun as G r h => ?_, fun pc ls st G r h => ?_, fun k pc ls st G r h => ?_⟩
  · unfold A_Mo_readsL at h
    split at h
    · exact ⟨by simp [ai_cat, Value.category], Nat.le_of_ble_eq_true rfl, fun sc => (R_Mo_readsL sc kk G).trans h⟩
    · cases h
  · cases h
  · cases h
theorem ro_Mo_readsS (kk : Nat) : RunOK 0 1 T_Mo_readsS (call_Mo_readsS kk) (fun _ => []) (bk_Mo_readsS kk) kk (A_Mo_readsS kk) := by
  refine ⟨fun as G r h => ?_, fun pc ls st G r h => ?_, fun k pc ls st G r h => ?_⟩
  · unfold A_Mo_readsS at h
    split at h
    · exact ⟨by simp [ai_cat, Value.category], Nat.le_of_ble_eq_true rfl, fun sc => (R_Mo_readsS sc kk G).trans h⟩
    · cases h
  · cases h
  · cases h
theorem ro_Mo_readsDrill (kk : Nat) : RunOK 0 2 T_Mo_readsDrill (call_Mo_readsDrill kk) (fun _ => []) (bk_Mo_readsDrill kk) kk (A_Mo_readsDrill kk) := by
  refine ⟨fun as G r h => ?_, fun pc ls st G r h => ?_, fun k pc ls st G r h => ?_⟩
  · unfold A_Mo_readsDrill at h
    split at h
    · exact ⟨by simp [ai_cat, Value.category], Nat.le_of_ble_eq_true rfl, fun sc => (R_Mo_readsDrill sc kk G).trans h⟩
    · cases h
  · cases h
  · cases h
theorem ro_Mo_readsCommand (kk : Nat) : RunOK 0 1 T_Mo_readsCommand (call_Mo_readsCommand kk) (fun _ => []) (bk_Mo_readsCommand kk) kk (A_Mo_readsCommand kk) := by
  refine ⟨fun as G r h => ?_, fun pc ls st G r h => ?_, fun k pc ls st G r h => ?_⟩
  · unfold A_Mo_readsCommand at h
    split at h
    · exact ⟨by simp [ai_cat, Value.category], Nat.le_of_ble_eq_true rfl, fun sc => (R_Mo_readsCommand sc kk G).trans h⟩
    · cases h
  · cases h
  · cases h
theorem ro_Mo_readsAll (kk : Nat) : RunOK 0 2 T_Mo_readsAll (call_Mo_readsAll kk) (fun _ => []) (bk_Mo_readsAll kk) kk (A_Mo_readsAll kk) := by
  refine ⟨fun as G r h => ?_, fun pc ls st G r h => ?_, fun k pc ls st G r h => ?_⟩
  · unfold A_Mo_readsAll at h
    split at h
    · exact ⟨by simp [ai_cat, Value.category], Nat.le_of_ble_eq_true rfl, fun sc => (R_Mo_readsAll sc kk G).trans h⟩
    · cases h
  · unfold bk_Mo_readsAll at h
    split at h
    · split at h
      · cases (show (none : Res) = some r from h)
      · cases h
    · cases h
  · unfold bk_Mo_readsAll at h
    split at h
    · rename_i hpc
      have hpc := Nat.eq_of_beq_eq_true hpc
      subst hpc
      split at h
      · exact ⟨_, rfl, fun sc => (R_Mo_readsAll_7 sc kk k _ _).trans h⟩
      · cases h
    · cases h
theorem ro_Mo_notNow (kk : Nat) : RunOK 0 2 T_Mo_notNow (call_Mo_notNow kk) (fun _ => []) (bk_Mo_notNow kk) kk (A_Mo_notNow kk) := by
  refine ⟨fun as G r h => ?_, fun pc ls st G r h => ?_, fun k pc ls st G r h => ?_⟩
  · unfold A_Mo_notNow at h
    split at h
    · exact ⟨by simp [ai_cat, Value.category], Nat.le_of_ble_eq_true rfl, fun sc => (R_Mo_notNow sc kk G).trans h⟩
    · cases h
  · cases h
  · cases h
theorem ro_Mo_doesNow (kk : Nat) : RunOK 0 2 T_Mo_doesNow (call_Mo_doesNow kk) (fun _ => []) (bk_Mo_doesNow kk) kk (A_Mo_doesNow kk) := by
  refine ⟨fun as G r h => ?_, fun pc ls st G r h => ?_, fun k pc ls st G r h => ?_⟩
  · unfold A_Mo_doesNow at h
    split at h
    · exact ⟨by simp [ai_cat, Value.category], Nat.le_of_ble_eq_true rfl, fun sc => (R_Mo_doesNow sc kk G).trans h⟩
    · cases h
  · cases h
  · cases h
theorem ro_Mo_doesAll (kk : Nat) : RunOK 0 2 T_Mo_doesAll (call_Mo_doesAll kk) (fun _ => []) (bk_Mo_doesAll kk) kk (A_Mo_doesAll kk) := by
  refine ⟨fun as G r h => ?_, fun pc ls st G r h => ?_, fun k pc ls st G r h => ?_⟩
  · unfold A_Mo_doesAll at h
    split at h
    · exact ⟨by simp [ai_cat, Value.category], Nat.le_of_ble_eq_true rfl, fun sc => (R_Mo_doesAll sc kk G).trans h⟩
    · cases h
  · unfold bk_Mo_doesAll at h
    split at h
    · split at h
      · cases (show (none : Res) = some r from h)
      · cases h
    · cases h
  · unfold bk_Mo_doesAll at h
    split at h
    · rename_i hpc
      have hpc := Nat.eq_of_beq_eq_true hpc
      subst hpc
      split at h
      · exact ⟨_, rfl, fun sc => (R_Mo_doesAll_12 sc kk k _ _).trans h⟩
      · cases h
    · cases h
theorem ro_Mo_runScript (kk : Nat) : RunOK 0 2 T_Mo_runScript (call_Mo_runScript kk) (fun _ => []) (bk_Mo_runScript kk) kk (A_Mo_runScript kk) := by
  refine ⟨fun as G r h => ?_, fun pc ls st G r h => ?_, fun k pc ls st G r h => ?_⟩
  · unfold A_Mo_runScript at h
    split at h
    · exact ⟨by simp [ai_cat, Value.category], Nat.le_of_ble_eq_true rfl, fun sc => (R_Mo_runScript sc kk G).trans h⟩
    · cases h
  · cases h
  · cases h
theorem ro_Mo_errorPosition (kk : Nat) : RunOK 0 1 T_Mo_errorPosition (call_Mo_errorPosition kk) (fun _ => []) (bk_Mo_errorPosition kk) kk (A_Mo_errorPosition kk) := by
  refine ⟨fun as G r h => ?_, fun pc ls st G r h => ?_, fun k pc ls st G r h => ?_⟩
  · unfold A_Mo_errorPosition at h
    split at h
    · exact ⟨by simp [ai_cat, Value.category], Nat.le_of_ble_eq_true rfl, fun sc => (R_Mo_errorPosition sc kk G).trans h⟩
    · cases h
  · cases h
  · cases h
theorem ro_Mo_failedCommand (kk : Nat) : RunOK 0 1 T_Mo_failedCommand (call_Mo_failedCommand kk) (fun _ => []) (bk_Mo_failedCommand kk) kk (A_Mo_failedCommand kk) := by
  refine ⟨fun as G r h => ?_, fun pc ls st G r h => ?_, fun k pc ls st G r h => ?_⟩
  · unfold A_Mo_failedCommand at h
    split at h
    · exact ⟨by simp [ai_cat, Value.category], Nat.le_of_ble_eq_true rfl, fun sc => (R_Mo_failedCommand sc kk G).trans h⟩
    · cases h
  · cases h
  · cases h
theorem ro_Mo_undo (kk : Nat) : RunOK 0 3 T_Mo_undo (call_Mo_undo kk) (fun _ => []) (bk_Mo_undo kk) kk (A_Mo_undo kk) := by
  refine ⟨fun as G r h => ?_, fun pc ls st G r h => ?_, fun k pc ls st G r h => ?_⟩
  · unfold A_Mo_undo at h
    split at h
    · exact ⟨by simp [ai_cat, Value.category], Nat.le_of_ble_eq_true rfl, fun sc => (R_Mo_undo sc kk G).trans h⟩
    · cases h
  · unfold bk_Mo_undo at h
    split at h
    · split at h
      · cases (show (none : Res) = some r from h)
      · cases h
    · cases h
  · unfold bk_Mo_undo at h
    split at h
    · rename_i hpc
      have hpc := Nat.eq_of_beq_eq_true hpc
      subst hpc
      split at h
      · exact ⟨_, rfl, fun sc => (R_Mo_undo_43 sc kk k _ _ _).trans h⟩
      · cases h
    · cases h
theorem ro_Mo_save (kk : Nat) : RunOK 0 2 T_Mo_save (call_Mo_save kk) (fun _ => []) (bk_Mo_save kk) kk (A_Mo_save kk) := by
  refine ⟨fun as G r h => ?_, fun pc ls st G r h => ?_, fun k pc ls st G r h => ?_⟩
  · unfold A_Mo_save at h
    split at h
    · exact ⟨by simp [ai_cat, Value.category], Nat.le_of_ble_eq_true rfl, fun sc => (R_Mo_save sc kk G).trans h⟩
    · cases h
  · unfold bk_Mo_save at h
    split at h
    · split at h
      · cases (show (none : Res) = some r from h)
      · cases h
    · cases h
  · unfold bk_Mo_save at h
    split at h
    · rename_i hpc
      have hpc := Nat.eq_of_beq_eq_true hpc
      subst hpc
      split at h
      · exact ⟨_, rfl, fun sc => (R_Mo_save_7 sc kk k _ _).trans h⟩
      · cases h
    · cases h
theorem ro_Mo_restore (kk : Nat) : RunOK 0 2 T_Mo_restore (call_Mo_restore kk) (fun _ => []) (bk_Mo_restore kk) kk (A_Mo_restore kk) := by
  refine ⟨fun as G r h => ?_, fun pc ls st G r h => ?_, fun k pc ls st G r h => ?_⟩
  · unfold A_Mo_restore at h
    split at h
    · exact ⟨by simp [ai_cat, Value.category], Nat.le_of_ble_eq_true rfl, fun sc => (R_Mo_restore sc kk G).trans h⟩
    · cases h
  · unfold bk_Mo_restore at h
    split at h
    · split at h
      · cases (show (none : Res) = some r from h)
      · cases h
    · cases h
  · unfold bk_Mo_restore at h
    split at h
    · rename_i hpc
      have hpc := Nat.eq_of_beq_eq_true hpc
      subst hpc
      split at h
      · exact ⟨_, rfl, fun sc => (R_Mo_restore_20 sc kk k _ _).trans h⟩
      · cases h
    · cases h
theorem nx_PB_isBay {kk : Nat} : ∀ as G ex G1, A_PB_isBay kk as G = some (.inr ex, G1) → False := by
  intro as G ex G1 h
  unfold A_PB_isBay at h
  split at h
  · unfold D_PB_isBay at h
    revert h
    (repeat' split) <;> (intro h; cases h)
  · cases h
theorem nx_PB_isSlot {kk : Nat} : ∀ as G ex G1, A_PB_isSlot kk as G = some (.inr ex, G1) → False := by
  intro as G ex G1 h
  unfold A_PB_isSlot at h
  split at h
  · unfold D_PB_isSlot at h
    revert h
    (repeat' split) <;> (intro h; cases h)
  · cases h
theorem nx_PB_leverArm {kk : Nat} : ∀ as G ex G1, A_PB_leverArm kk as G = some (.inr ex, G1) → False := by
  intro as G ex G1 h
  unfold A_PB_leverArm at h
  split at h
  · unfold D_PB_leverArm at h
    revert h
    (repeat' split) <;> (intro h; cases h)
  · cases h
theorem nx_PB_isWeight {kk : Nat} : ∀ as G ex G1, A_PB_isWeight kk as G = some (.inr ex, G1) → False := by
  intro as G ex G1 h
  unfold A_PB_isWeight at h
  split at h
  · unfold D_PB_isWeight at h
    revert h
    (repeat' split) <;> (intro h; cases h)
  · cases h
theorem nx_PB_isPort {kk : Nat} : ∀ as G ex G1, A_PB_isPort kk as G = some (.inr ex, G1) → False := by
  intro as G ex G1 h
  unfold A_PB_isPort at h
  split at h
  · unfold D_PB_isPort at h
    revert h
    (repeat' split) <;> (intro h; cases h)
  · cases h
