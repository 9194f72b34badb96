/-! one step of the abstract machine -/
section Step
variable {x : CX} {T : Tb} {call : Nat → List AV → GS → Res} {hd : Nat → Hd} {self : Ks} {out : Out × GS}
theorem ld_sound {t pc n i : Nat} {ls : Ls} {st : List AV} {G : GS} {u : Nat} (hF : FX x)
    (hd : (t = 0 ∧ ((decode (cxC x) pc = .ok (.aload i, 2) ∧ n = 2) ∨ ∃ k : Fin 4, decode (cxC x) pc = .ok (.aload_n k, 1) ∧ k.val = i ∧ n = 1)) ∨
      (t = 1 ∧ ((decode (cxC x) pc = .ok (.iload i, 2) ∧ n = 2) ∨ ∃ k : Fin 4, decode (cxC x) pc = .ok (.iload_n k, 1) ∧ k.val = i ∧ n = 1)) ∨
      (t = 2 ∧ ((decode (cxC x) pc = .ok (.fload i, 2) ∧ n = 2) ∨ ∃ k : Fin 4, decode (cxC x) pc = .ok (.fload_n k, 1) ∧ k.val = i ∧ n = 1)) ∨
      (t = 3 ∧ ((decode (cxC x) pc = .ok (.dload i, 2) ∧ n = 2) ∨ ∃ k : Fin 4, decode (cxC x) pc = .ok (.dload_n k, 1) ∧ k.val = i ∧ n = 1)))
    (hself : ∀ pc ls st G u, self pc ls st G u = some out → vLs (cxL x) ls → vAs (cxL x) st → u ≤ cxG x → WG x pc ls st G u)
    (hls : vLs (cxL x) ls) (hst : vAs (cxL x) st) (hu : u ≤ cxG x) (h : ai_ld t self (pc + n) i ls st G u = some out) : WG x pc ls st G u := by
  unfold ai_ld at h
  split at h
  · rename_i v hv
    cases hty : ai_ty t v with
    | false => rw [hty] at h; cases h
    | true =>
      rw [hty] at h
      exact sd_ld hF hv hd hty (hself _ _ _ _ _ h hls (vAs_cons (vLs_at hls hv) hst) hu)
  · cases h
theorem sto_sound {t pc n i : Nat} {ls : Ls} {st : List AV} {G : GS} {u : Nat} (hF : FX x) (ht : t ≠ 3)
    (hd : (t = 0 ∧ ((decode (cxC x) pc = .ok (.astore i, 2) ∧ n = 2) ∨ ∃ k : Fin 4, decode (cxC x) pc = .ok (.astore_n k, 1) ∧ k.val = i ∧ n = 1)) ∨
      (t = 1 ∧ ((decode (cxC x) pc = .ok (.istore i, 2) ∧ n = 2) ∨ ∃ k : Fin 4, decode (cxC x) pc = .ok (.istore_n k, 1) ∧ k.val = i ∧ n = 1)) ∨
      (t = 2 ∧ ((decode (cxC x) pc = .ok (.fstore i, 2) ∧ n = 2) ∨ ∃ k : Fin 4, decode (cxC x) pc = .ok (.fstore_n k, 1) ∧ k.val = i ∧ n = 1)))
    (hself : ∀ pc ls st G u, self pc ls st G u = some out → vLs (cxL x) ls → vAs (cxL x) st → u ≤ cxG x → WG x pc ls st G u)
    (hls : vLs (cxL x) ls) (hst : vAs (cxL x) st) (hu : u ≤ cxG x) (h : ai_sto t self (pc + n) i ls st G u = some out) : WG x pc ls st G u := by
  unfold ai_sto at h
  cases st with
  | nil => cases h
  | cons v st =>
    dsimp only at h
    cases hb : ai_ty t v && (ai_below i ls && Nat.ble (i + 1) ls.length) with
    | false => rw [hb] at h; cases h
    | true =>
      rw [hb] at h
      rw [Bool.and_eq_true, Bool.and_eq_true] at hb
      exact sd_sto hF ht hd hb.1 hb.2.1 (Nat.le_of_ble_eq_true hb.2.2) (hself _ _ _ _ _ h (vLs_some hls (vAs_hd hst)) (vAs_tl hst) hu)
theorem sto2_sound {pc n i : Nat} {ls : Ls} {st : List AV} {G : GS} {u : Nat} (hF : FX x)
    (hd : (decode (cxC x) pc = .ok (.dstore i, 2) ∧ n = 2) ∨ ∃ k : Fin 4, decode (cxC x) pc = .ok (.dstore_n k, 1) ∧ k.val = i ∧ n = 1)
    (hself : ∀ pc ls st G u, self pc ls st G u = some out → vLs (cxL x) ls → vAs (cxL x) st → u ≤ cxG x → WG x pc ls st G u)
    (hls : vLs (cxL x) ls) (hst : vAs (cxL x) st) (hu : u ≤ cxG x) (h : ai_sto2 3 self (pc + n) i ls st G u = some out) : WG x pc ls st G u := by
  unfold ai_sto2 at h
  cases st with
  | nil => cases h
  | cons v st =>
    dsimp only at h
    cases hb : ai_ty 3 v && (ai_below i ls && Nat.ble (i + 2) ls.length) with
    | false => rw [hb] at h; cases h
    | true =>
      rw [hb] at h
      rw [Bool.and_eq_true, Bool.and_eq_true] at hb
      exact sd_sto2 hF hd hb.1 hb.2.1 (Nat.le_of_ble_eq_true hb.2.2) (hself _ _ _ _ _ h (vLs_none (vLs_some hls (vAs_hd hst))) (vAs_tl hst) hu)
theorem get_sound {pc idx y : Nat} {ls : Ls} {st : List AV} {G : GS} {u : Nat} {r : Rf} (hF : FX x) (hd : decode (cxC x) pc = .ok (.getfield idx, 3)) (hlk : FLk (cxO x) idx y)
    (hself : ∀ pc ls st G u, self pc ls st G u = some out → vLs (cxL x) ls → vAs (cxL x) st → u ≤ cxG x → WG x pc ls st G u)
    (hls : vLs (cxL x) ls) (hst : vAs (cxL x) (.inr r :: st)) (hu : u ≤ cxG x) (h : ai_get G r y (fun v => self (pc + 3) ls (v :: st) G u) = some out) : WG x pc ls (.inr r :: st) G u := by
  unfold ai_get at h
  split at h
  · rename_i c n hk
    cases hb : (Nat.beq c (y / 64) && Nat.blt (y / 2 % 32) n) with
    | false => rw [hb] at h; cases h
    | true =>
      rw [hb] at h
      rw [Bool.and_eq_true] at hb
      refine sd_get hF hd hlk (vAs_hd hst) hk (Nat.eq_of_beq_eq_true hb.1) (Nat.le_of_ble_eq_true hb.2) (fun v hv => ?_)
      have h : (match gr r (y / 2 % 32) with | some q => self (pc + 3) ls (.inr q :: st) G u | none => self (pc + 3) ls (.inl (.int (gi G r (y / 2 % 32))) :: st) G u) = some out := h
      cases hg : gr r (y / 2 % 32) with
      | some q =>
        rw [hg] at h
        refine hself _ _ _ _ _ h hls (vAs_cons ?_ (vAs_tl hst)) hu
        have hr := vAs_hd hst (by rw [hk]; rfl)
        obtain ⟨⟨p, l, e, R, s, m, args, below, meth, c, Q⟩, ⟨D, cs, b, ad, adV, sc, L, XT⟩, cc, nL, own, c0, s0, seg, lv⟩ := x
        exact hF.2.2.2.2.2.2.2.1.2.1 r hr _ q hg
      | none =>
        rw [hg] at h
        exact hself _ _ _ _ _ h hls (vAs_cons trivial (vAs_tl hst)) hu
  · cases h
theorem put_sound {pc idx y : Nat} {ls : Ls} {st : List AV} {G : GS} {u : Nat} {r : Rf} {v : Int32} (hF : FX x) (hd : decode (cxC x) pc = .ok (.putfield idx, 3)) (hlk : PLk (cxO x) idx y)
    (hself : ∀ pc ls st G u, self pc ls st G u = some out → vLs (cxL x) ls → vAs (cxL x) st → u ≤ cxG x → WG x pc ls st G u)
    (hls : vLs (cxL x) ls) (hst : vAs (cxL x) (.inl (.int v) :: .inr r :: st)) (hu : u ≤ cxG x) (h : ai_put G r y v (fun G1 => self (pc + 3) ls st G1 u) = some out) : WG x pc ls (.inl (.int v) :: .inr r :: st) G u := by
  unfold ai_put at h
  have hst2 := vAs_tl hst
  split at h
  · rename_i c n hk
    cases hb : (Nat.beq c (y / 64) && Nat.blt (y / 2 % 32) n) with
    | false => rw [hb] at h; cases h
    | true =>
      rw [hb] at h
      rw [Bool.and_eq_true] at hb
      have h : (match gr r (y / 2 % 32) with | some _ => none | none => bif Nat.beq (y % 2) 0 then self (pc + 3) ls st (si G r (y / 2 % 32) v) u else if v = 0 ∨ v = 1 then self (pc + 3) ls st (si G r (y / 2 % 32) v) u else none) = some out := h
      cases hg : gr r (y / 2 % 32) with
      | some q => rw [hg] at h; cases h
      | none =>
        rw [hg] at h
        dsimp only at h
        cases hz : Nat.beq (y % 2) 0 with
        | true =>
          rw [hz] at h
          exact sd_put hF hd hlk (vAs_hd hst2) hk (Nat.eq_of_beq_eq_true hb.1) (Nat.le_of_ble_eq_true hb.2) hg (Or.inl (Nat.eq_of_beq_eq_true hz)) (hself _ _ _ _ _ h hls (vAs_tl hst2) hu)
        | false =>
          rw [hz] at h
          have h : (if v = 0 ∨ v = 1 then self (pc + 3) ls st (si G r (y / 2 % 32) v) u else none) = some out := h
          by_cases hv : v = 0 ∨ v = 1
          · rw [if_pos hv] at h
            exact sd_put hF hd hlk (vAs_hd hst2) hk (Nat.eq_of_beq_eq_true hb.1) (Nat.le_of_ble_eq_true hb.2) hg (Or.inr hv) (hself _ _ _ _ _ h hls (vAs_tl hst2) hu)
          · rw [if_neg hv] at h; cases h
  · cases h
theorem if_sound {pc y : Nat} {off : Int} {cn : Jvm.ClassFile.Cond} {a : Int32} {ls : Ls} {st : List AV} {G : GS} {u : Nat} (hF : FX x) (hd : decode (cxC x) pc = .ok (.ifCond cn off, 3)) (ht : (pc : Int) + off = (y : Int))
    (hself : ∀ pc ls st G u, self pc ls st G u = some out → vLs (cxL x) ls → vAs (cxL x) st → u ≤ cxG x → WG x pc ls st G u)
    (hls : vLs (cxL x) ls) (hst : vAs (cxL x) st) (hu : u ≤ cxG x) (h : ai_if cn a (self y ls st G u) (self (pc + 3) ls st G u) = some out) : WG x pc ls (.inl (.int a) :: st) G u := by
  have k : ∀ pc, self pc ls st G u = some out → WG x pc ls st G u := fun pc h => hself pc ls st G u h hls hst hu
  cases cn <;> unfold ai_if at h <;> dsimp only at h
  · exact sd_if_eq hF hd ht (fun q => k _ (by rwa [if_pos q] at h)) (fun q => k _ (by rwa [if_neg q] at h))
  · exact sd_if_ne hF hd ht (fun q => k _ (by rwa [if_neg q] at h)) (fun q => k _ (by rwa [if_pos q] at h))
  · exact sd_if_lt hF hd ht (fun q => k _ (by rwa [if_pos q] at h)) (fun q => k _ (by rwa [if_neg q] at h))
  · exact sd_if_ge hF hd ht (fun q => k _ (by rwa [if_pos q] at h)) (fun q => k _ (by rwa [if_neg q] at h))
  · exact sd_if_gt hF hd ht (fun q => k _ (by rwa [if_pos q] at h)) (fun q => k _ (by rwa [if_neg q] at h))
  · exact sd_if_le hF hd ht (fun q => k _ (by rwa [if_pos q] at h)) (fun q => k _ (by rwa [if_neg q] at h))
theorem icmp_sound {pc y : Nat} {off : Int} {cn : Jvm.ClassFile.Cond} {a b : Int32} {ls : Ls} {st : List AV} {G : GS} {u : Nat} (hF : FX x) (hd : decode (cxC x) pc = .ok (.if_icmp cn off, 3)) (ht : (pc : Int) + off = (y : Int))
    (hself : ∀ pc ls st G u, self pc ls st G u = some out → vLs (cxL x) ls → vAs (cxL x) st → u ≤ cxG x → WG x pc ls st G u)
    (hls : vLs (cxL x) ls) (hst : vAs (cxL x) st) (hu : u ≤ cxG x) (h : ai_icmp cn a b (self y ls st G u) (self (pc + 3) ls st G u) = some out) : WG x pc ls (.inl (.int b) :: .inl (.int a) :: st) G u := by
  have k : ∀ pc, self pc ls st G u = some out → WG x pc ls st G u := fun pc h => hself pc ls st G u h hls hst hu
  cases cn <;> unfold ai_icmp at h <;> dsimp only at h
  · exact sd_icmp_eq hF hd ht (fun q => k _ (by rwa [if_pos q] at h)) (fun q => k _ (by rwa [if_neg q] at h))
  · exact sd_icmp_ne hF hd ht (fun q => k _ (by rwa [if_neg q] at h)) (fun q => k _ (by rwa [if_pos q] at h))
  · exact sd_icmp_lt hF hd ht (fun q => k _ (by rwa [if_pos q] at h)) (fun q => k _ (by rwa [if_neg q] at h))
  · exact sd_icmp_ge hF hd ht (fun q => k _ (by rwa [if_pos q] at h)) (fun q => k _ (by rwa [if_neg q] at h))
  · exact sd_icmp_gt hF hd ht (fun q => k _ (by rwa [if_pos q] at h)) (fun q => k _ (by rwa [if_neg q] at h))
  · exact sd_icmp_le hF hd ht (fun q => k _ (by rwa [if_pos q] at h)) (fun q => k _ (by rwa [if_neg q] at h))
theorem char_nar {v : Int32} (h : 0 ≤ v ∧ v ≤ 65535) : narrow .char (.int v) = .int v := by
  obtain ⟨j, hj, rfl⟩ := nI_of2 (M := 65535) (n := 65535) (by decide) (fun q => Int32.lt_irrefl (Int32.lt_of_lt_of_le q h.1)) h.2
  exact (pk_charN (by omega)).1
theorem aa_valid {r : Rf} {j : Int32} (hF : FX x) (hv : vA (cxL x) (.inr r)) (h11 : r.2 = 11) (hin : inb j 9 = true) : vA (cxL x) (.inr (j.toNatClampNeg + 2, 1)) := by
  obtain ⟨⟨p, l, e, R, s, m, args, below, meth, c, Q⟩, ⟨D, cs, b, ad, adV, sc, L, XT⟩, cc, nL, own, c0, s0, seg, lv⟩ := x
  have hL : Lok L := hF.2.2.2.2.2.2.2.1
  intro _
  have hr : r ∈ L := hv (by rw [h11]; rfl)
  have h0 : r.1 = 0 := hL.2.2.2 r hr (Or.inl h11)
  have e : r = (0, 11) := Prod.ext h0 h11
  rw [e] at hr
  have h1 := inb_in hin
  exact hL.2.2.1 hr _ (Nat.not_le.mp (fun z => h1 (Or.inr z)))
set_option maxHeartbeats 4000000 in
theorem step_sound (hF : FX x) (hEr : EOr x out) (hEn : EOn x out) (hEx : EOx x out) {pc : Nat} {e : En} {ls0 : Ls} {st : List AV} {G : GS} {u : Nat} (he : EnOK x call hd pc e)
    (hself : ∀ pc ls st G u, self pc ls st G u = some out → vLs (cxL x) ls → vAs (cxL x) st → u ≤ cxG x → WG x pc ls st G u)
    (h : ai_step (cxS x) T call hd (cxG x) self pc e ls0 st G u = some out) (hls : vLs (cxL x) ls0) (hst : vAs (cxL x) st) (hu : u ≤ cxG x) : WG x pc ls0 st G u := by
  obtain ⟨i, n0, y, ks, ct, sw⟩ := e
  refine WG_kill ks ?_
  replace hls := vLs_kill ks hls
  cases i with
  | aload_n k =>
    exact ld_sound (n := 1) hF (Or.inl ⟨rfl, Or.inr ⟨k, he, rfl, rfl⟩⟩) hself hls hst hu h
  | aload k =>
    exact ld_sound (n := 2) hF (Or.inl ⟨rfl, Or.inl ⟨he, rfl⟩⟩) hself hls hst hu h
  | astore_n k =>
    exact sto_sound (n := 1) hF (by decide) (Or.inl ⟨rfl, Or.inr ⟨k, he, rfl, rfl⟩⟩) hself hls hst hu h
  | astore k =>
    exact sto_sound (n := 2) hF (by decide) (Or.inl ⟨rfl, Or.inl ⟨he, rfl⟩⟩) hself hls hst hu h
  | iload_n k =>
    exact ld_sound (n := 1) hF (Or.inr (Or.inl ⟨rfl, Or.inr ⟨k, he, rfl, rfl⟩⟩)) hself hls hst hu h
  | iload k =>
    exact ld_sound (n := 2) hF (Or.inr (Or.inl ⟨rfl, Or.inl ⟨he, rfl⟩⟩)) hself hls hst hu h
  | istore_n k =>
    exact sto_sound (n := 1) hF (by decide) (Or.inr (Or.inl ⟨rfl, Or.inr ⟨k, he, rfl, rfl⟩⟩)) hself hls hst hu h
  | istore k =>
    exact sto_sound (n := 2) hF (by decide) (Or.inr (Or.inl ⟨rfl, Or.inl ⟨he, rfl⟩⟩)) hself hls hst hu h
  | fload k =>
    exact ld_sound (n := 2) hF (Or.inr (Or.inr (Or.inl ⟨rfl, Or.inl ⟨he, rfl⟩⟩))) hself hls hst hu h
  | fstore k =>
    exact sto_sound (n := 2) hF (by decide) (Or.inr (Or.inr ⟨rfl, Or.inl ⟨he, rfl⟩⟩)) hself hls hst hu h
  | dload k =>
    exact ld_sound (n := 2) hF (Or.inr (Or.inr (Or.inr ⟨rfl, Or.inl ⟨he, rfl⟩⟩))) hself hls hst hu h
  | dstore k =>
    exact sto2_sound (n := 2) hF (Or.inl ⟨he, rfl⟩) hself hls hst hu h
  | iconst c =>
    exact sd_iconst hF he (hself _ _ _ _ _ h hls (vAs_cons trivial hst) hu)
  | bipush c =>
    exact sd_bipush hF he (hself _ _ _ _ _ h hls (vAs_cons trivial hst) hu)
  | sipush c =>
    exact sd_sipush hF he (hself _ _ _ _ _ h hls (vAs_cons trivial hst) hu)
  | aconst_null =>
    exact sd_null hF he (hself _ _ _ _ _ h hls (vAs_cons trivial hst) hu)
  | lconst c =>
    exact sd_lconst hF he (hself _ _ _ _ _ h hls (vAs_cons trivial hst) hu)
  | ldc idx =>
    obtain ⟨he, hy⟩ := he
    cases y with
    | zero => exact sd_ldcf hF he hy (hself _ _ _ _ _ h hls (vAs_cons trivial hst) hu)
    | succ k => exact sd_ldcs hF he hy.1 hy.2.1 hy.2.2 (hself _ _ _ _ _ h hls (vAs_cons (fun z => by cases z) hst) hu)
  | iadd =>
    dsimp only [ai_step] at h
    split at h
    · rename_i b a st
      exact sd_iadd hF he (hself _ _ _ _ _ h hls (vAs_cons trivial (vAs_tl (vAs_tl hst))) hu)
    · cases h
  | isub =>
    dsimp only [ai_step] at h
    split at h
    · rename_i b a st
      exact sd_isub hF he (hself _ _ _ _ _ h hls (vAs_cons trivial (vAs_tl (vAs_tl hst))) hu)
    · cases h
  | imul =>
    dsimp only [ai_step] at h
    split at h
    · rename_i b a st
      exact sd_imul hF he (hself _ _ _ _ _ h hls (vAs_cons trivial (vAs_tl (vAs_tl hst))) hu)
    · cases h
  | iand =>
    dsimp only [ai_step] at h
    split at h
    · rename_i b a st
      exact sd_iand hF he (hself _ _ _ _ _ h hls (vAs_cons trivial (vAs_tl (vAs_tl hst))) hu)
    · cases h
  | idiv =>
    dsimp only [ai_step] at h
    split at h
    · rename_i b a st
      by_cases hz : b = 0
      · rw [if_pos hz] at h; cases h
      · rw [if_neg hz] at h
        exact sd_idiv hF he hz (hself _ _ _ _ _ h hls (vAs_cons trivial (vAs_tl (vAs_tl hst))) hu)
    · cases h
  | irem =>
    dsimp only [ai_step] at h
    split at h
    · rename_i b a st
      by_cases hz : b = 0
      · rw [if_pos hz] at h; cases h
      · rw [if_neg hz] at h
        exact sd_irem hF he hz (hself _ _ _ _ _ h hls (vAs_cons trivial (vAs_tl (vAs_tl hst))) hu)
    · cases h
  | ineg =>
    dsimp only [ai_step] at h
    split at h
    · rename_i a st
      exact sd_ineg hF he (hself _ _ _ _ _ h hls (vAs_cons trivial (vAs_tl hst)) hu)
    · cases h
  | i2c =>
    dsimp only [ai_step] at h
    split at h
    · rename_i a st
      exact sd_i2c hF he (hself _ _ _ _ _ h hls (vAs_cons trivial (vAs_tl hst)) hu)
    · cases h
  | i2l =>
    dsimp only [ai_step] at h
    split at h
    · rename_i a st
      exact sd_i2l hF he (hself _ _ _ _ _ h hls (vAs_cons trivial (vAs_tl hst)) hu)
    · cases h
  | i2f =>
    dsimp only [ai_step] at h
    split at h
    · rename_i a st
      exact sd_i2f hF he (hself _ _ _ _ _ h hls (vAs_cons trivial (vAs_tl hst)) hu)
    · cases h
  | i2d =>
    dsimp only [ai_step] at h
    split at h
    · rename_i a st
      exact sd_i2d hF he (hself _ _ _ _ _ h hls (vAs_cons trivial (vAs_tl hst)) hu)
    · cases h
  | f2d =>
    dsimp only [ai_step] at h
    split at h
    · rename_i a st
      split at h
      · rename_i hz
        exact sd_f2d hF he hz (hself _ _ _ _ _ h hls (vAs_cons trivial (vAs_tl hst)) hu)
      · cases h
    · cases h
  | fmul =>
    dsimp only [ai_step] at h
    split at h
    · rename_i b a st
      split at h
      · rename_i hz
        exact sd_fmul hF he hz (hself _ _ _ _ _ h hls (vAs_cons trivial (vAs_tl (vAs_tl hst))) hu)
      · cases h
    · cases h
  | fdiv =>
    dsimp only [ai_step] at h
    split at h
    · rename_i b a st
      split at h
      · rename_i hz
        exact sd_fdiv hF he hz (hself _ _ _ _ _ h hls (vAs_cons trivial (vAs_tl (vAs_tl hst))) hu)
      · cases h
    · cases h
  | ddiv =>
    dsimp only [ai_step] at h
    split at h
    · rename_i b a st
      split at h
      · rename_i hz
        exact sd_ddiv hF he hz (hself _ _ _ _ _ h hls (vAs_cons trivial (vAs_tl (vAs_tl hst))) hu)
      · cases h
    · cases h
  | fcmp op =>
    dsimp only [ai_step] at h
    split at h
    · rename_i b a st
      exact sd_fcmp hF he (hself _ _ _ _ _ h hls (vAs_cons trivial (vAs_tl (vAs_tl hst))) hu)
    · cases h
  | dcmp op =>
    dsimp only [ai_step] at h
    split at h
    · rename_i b a st
      exact sd_dcmp hF he (hself _ _ _ _ _ h hls (vAs_cons trivial (vAs_tl (vAs_tl hst))) hu)
    · cases h
  | lcmp =>
    dsimp only [ai_step] at h
    split at h
    · rename_i b a st
      exact sd_lcmp hF he (hself _ _ _ _ _ h hls (vAs_cons trivial (vAs_tl (vAs_tl hst))) hu)
    · cases h
  | dup =>
    dsimp only [ai_step] at h
    split at h
    · rename_i v st
      cases hb : Nat.beq (ai_cat v) 1 with
      | false => rw [hb] at h; cases h
      | true =>
        rw [hb] at h
        exact sd_dup hF he (Nat.eq_of_beq_eq_true hb) (hself _ _ _ _ _ h hls (vAs_cons (vAs_hd hst) hst) hu)
    · cases h
  | dup2 =>
    dsimp only [ai_step] at h
    split at h
    · rename_i v w st
      cases hb : (Nat.beq (ai_cat v) 1 && Nat.beq (ai_cat w) 1) with
      | false => rw [hb] at h; cases h
      | true =>
        rw [hb] at h
        rw [Bool.and_eq_true] at hb
        exact sd_dup2 hF he (Nat.eq_of_beq_eq_true hb.1) (Nat.eq_of_beq_eq_true hb.2) (hself _ _ _ _ _ h hls (vAs_cons (vAs_hd hst) (vAs_cons (vAs_hd (vAs_tl hst)) hst)) hu)
    · cases h
  | pop =>
    dsimp only [ai_step] at h
    split at h
    · rename_i v st
      cases hb : Nat.beq (ai_cat v) 1 with
      | false => rw [hb] at h; cases h
      | true =>
        rw [hb] at h
        exact sd_pop hF he (Nat.eq_of_beq_eq_true hb) (hself _ _ _ _ _ h hls (vAs_tl hst) hu)
    · cases h
  | iinc k c =>
    dsimp only [ai_step] at h
    split at h
    · rename_i a ha
      unfold ai_sto at h
      dsimp only at h
      cases hb : (ai_ty 1 (.inl (.int (a + Int32.ofInt c))) && (ai_below k (ai_kill ks ls0) && Nat.ble (k + 1) (ai_kill ks ls0).length)) with
      | false => rw [hb] at h; cases h
      | true =>
        rw [hb] at h
        rw [Bool.and_eq_true, Bool.and_eq_true] at hb
        exact sd_iinc hF he ha hb.2.1 (Nat.le_of_ble_eq_true hb.2.2) (hself _ _ _ _ _ h (vLs_some hls trivial) hst hu)
    · cases h
  | ifCond cn off =>
    dsimp only [ai_step] at h
    split at h
    · rename_i a st
      exact if_sound hF he.1 he.2 hself hls (vAs_tl hst) hu h
    · cases h
  | if_icmp cn off =>
    dsimp only [ai_step] at h
    split at h
    · rename_i b a st
      exact icmp_sound hF he.1 he.2 hself hls (vAs_tl (vAs_tl hst)) hu h
    · cases h
  | goto off =>
    exact sd_goto hF he.1 he.2 (hself _ _ _ _ _ h hls hst hu)
  | ifnull off =>
    dsimp only [ai_step] at h
    split at h
    · exact sd_ifnullN hF he.1 he.2 (hself _ _ _ _ _ h hls (vAs_tl hst) hu)
    · exact sd_ifnull hF he.1 (hself _ _ _ _ _ h hls (vAs_tl hst) hu)
    · cases h
  | tableswitch d lo hi offs =>
    dsimp only [ai_step] at h
    split at h
    · rename_i a st
      rw [sw_eq] at h
      obtain ⟨⟨len, he⟩, hsw⟩ := he
      exact sd_tab hF he hsw (hself _ _ _ _ _ h hls (vAs_tl hst) hu)
    · cases h
  | lookupswitch d ps =>
    dsimp only [ai_step] at h
    split at h
    · rename_i a st
      rw [sw_eq] at h
      obtain ⟨⟨len, he⟩, hsw⟩ := he
      exact sd_look hF he hsw (hself _ _ _ _ _ h hls (vAs_tl hst) hu)
    · cases h
  | getfield idx =>
    dsimp only [ai_step] at h
    split at h
    · rename_i r st
      exact get_sound hF he.1 he.2 hself hls hst hu h
    · cases h
  | putfield idx =>
    dsimp only [ai_step] at h
    split at h
    · rename_i v r st
      exact put_sound hF he.1 he.2 hself hls hst hu h
    · cases h
  | iaload =>
    dsimp only [ai_step] at h
    split at h
    · rename_i j r st
      cases h250 : (Nat.beq r.2 250 && Nat.beq r.1 0) with
      | true =>
        rw [h250] at h
        rw [Bool.and_eq_true] at h250
        have e : r = (0, 250) := Prod.ext (Nat.eq_of_beq_eq_true h250.2) (Nat.eq_of_beq_eq_true h250.1)
        subst e
        cases hin : inb j (cxS x).1 with
        | false => rw [hin] at h; cases h
        | true =>
          rw [hin] at h
          exact sd_sald hF he hin (hself _ _ _ _ _ h hls (vAs_cons trivial (vAs_tl (vAs_tl hst))) hu)
      | false =>
        rw [h250] at h
        have h : ai_ald G r 0 j (fun v => self (pc + 1) (ai_kill ks ls0) (.inl (.int v) :: st) G u) = some out := h
        unfold ai_ald at h
        split at h
        · rename_i t n hk
          cases hb : Nat.beq t 0 with
          | false => rw [hb] at h; cases h
          | true =>
            rw [hb] at h
            rw [Nat.eq_of_beq_eq_true hb] at hk
            cases hin : inb j n with
            | false => rw [hin] at h; cases h
            | true =>
              rw [hin] at h
              exact sd_iald hF he (vAs_hd (vAs_tl hst)) hk hin (hself _ _ _ _ _ h hls (vAs_cons trivial (vAs_tl (vAs_tl hst))) hu)
        · cases h
    · cases h
  | caload =>
    dsimp only [ai_step] at h
    split at h
    · rename_i j r st
      unfold ai_ald at h
      split at h
      · rename_i t n hk
        cases hb : Nat.beq t 1 with
        | false => rw [hb] at h; cases h
        | true =>
          rw [hb] at h
          rw [Nat.eq_of_beq_eq_true hb] at hk
          cases hin : inb j n with
          | false => rw [hin] at h; cases h
          | true =>
            rw [hin] at h
            exact sd_cald hF he (vAs_hd (vAs_tl hst)) hk hin (hself _ _ _ _ _ h hls (vAs_cons trivial (vAs_tl (vAs_tl hst))) hu)
      · cases h
    · cases h
  | aaload =>
    dsimp only [ai_step] at h
    split at h
    · rename_i j r st
      cases hb : (Nat.beq r.2 11 && inb j 9) with
      | false => rw [hb] at h; cases h
      | true =>
        rw [hb] at h
        rw [Bool.and_eq_true] at hb
        have hk : kd r.2 = some (.inr (2, 9)) := by rw [Nat.eq_of_beq_eq_true hb.1]; rfl
        exact sd_aald hF he (vAs_hd (vAs_tl hst)) hk hb.2 (hself _ _ _ _ _ h hls (vAs_cons (aa_valid hF (vAs_hd (vAs_tl hst)) (Nat.eq_of_beq_eq_true hb.1) hb.2) (vAs_tl (vAs_tl hst))) hu)
    · cases h
  | laload =>
    dsimp only [ai_step] at h
    split at h
    · rename_i j r st
      cases hb : (Nat.beq r.2 18 && inb j 1) with
      | false => rw [hb] at h; cases h
      | true =>
        rw [hb] at h
        rw [Bool.and_eq_true] at hb
        have hk : kd r.2 = some (.inr (3, 1)) := by rw [Nat.eq_of_beq_eq_true hb.1]; rfl
        exact sd_lald (n := 1) hF he (vAs_hd (vAs_tl hst)) hk hb.2 (hself _ _ _ _ _ h hls (vAs_cons trivial (vAs_tl (vAs_tl hst))) hu)
    · cases h
  | daload =>
    dsimp only [ai_step] at h
    split at h
    · rename_i j r st
      cases hb : (Nat.beq r.2 19 && inb j 1) with
      | false => rw [hb] at h; cases h
      | true =>
        rw [hb] at h
        rw [Bool.and_eq_true] at hb
        have hk : kd r.2 = some (.inr (4, 1)) := by rw [Nat.eq_of_beq_eq_true hb.1]; rfl
        exact sd_dald (n := 1) hF he (vAs_hd (vAs_tl hst)) hk hb.2 (hself _ _ _ _ _ h hls (vAs_cons trivial (vAs_tl (vAs_tl hst))) hu)
    · cases h
  | iastore =>
    dsimp only [ai_step] at h
    split at h
    · rename_i v j r st
      unfold ai_ast at h
      split at h
      · rename_i t n hk
        cases hb : Nat.beq t 0 with
        | false => rw [hb] at h; cases h
        | true =>
          rw [hb] at h
          rw [Nat.eq_of_beq_eq_true hb] at hk
          cases hin : inb j n with
          | false => rw [hin] at h; cases h
          | true =>
            rw [hin] at h
            exact sd_iast hF he (vAs_hd (vAs_tl (vAs_tl hst))) hk hin (hself _ _ _ _ _ h hls (vAs_tl (vAs_tl (vAs_tl hst))) hu)
      · cases h
    · cases h
  | castore =>
    dsimp only [ai_step] at h
    split at h
    · rename_i v j r st
      unfold ai_ast at h
      split at h
      · rename_i t n hk
        cases hb : Nat.beq t 1 with
        | false => rw [hb] at h; cases h
        | true =>
          rw [hb] at h
          rw [Nat.eq_of_beq_eq_true hb] at hk
          cases hin : inb j n with
          | false => rw [hin] at h; cases h
          | true =>
            rw [hin] at h
            exact sd_cast hF he (vAs_hd (vAs_tl (vAs_tl hst))) hk hin (hself _ _ _ _ _ h hls (vAs_tl (vAs_tl (vAs_tl hst))) hu)
      · cases h
    · cases h
  | lastore =>
    dsimp only [ai_step] at h
    split at h
    · rename_i v j r st
      cases hb : (Nat.beq r.2 18 && inb j 1) with
      | false => rw [hb] at h; cases h
      | true =>
        rw [hb] at h
        rw [Bool.and_eq_true] at hb
        exact sd_last hF he (vAs_hd (vAs_tl (vAs_tl hst))) (Nat.eq_of_beq_eq_true hb.1) hb.2 (hself _ _ _ _ _ h hls (vAs_tl (vAs_tl (vAs_tl hst))) hu)
    · cases h
  | dastore =>
    dsimp only [ai_step] at h
    split at h
    · rename_i v j r st
      cases hb : (Nat.beq r.2 19 && inb j 1) with
      | false => rw [hb] at h; cases h
      | true =>
        rw [hb] at h
        rw [Bool.and_eq_true] at hb
        exact sd_dast hF he (vAs_hd (vAs_tl (vAs_tl hst))) (Nat.eq_of_beq_eq_true hb.1) hb.2 (hself _ _ _ _ _ h hls (vAs_tl (vAs_tl (vAs_tl hst))) hu)
    · cases h
  | arraylength =>
    dsimp only [ai_step] at h
    split at h
    · rename_i r st
      cases h250 : (Nat.beq r.2 250 && Nat.beq r.1 0) with
      | true =>
        rw [h250] at h
        rw [Bool.and_eq_true] at h250
        have e : r = (0, 250) := Prod.ext (Nat.eq_of_beq_eq_true h250.2) (Nat.eq_of_beq_eq_true h250.1)
        subst e
        exact sd_slen hF he (hself _ _ _ _ _ h hls (vAs_cons trivial (vAs_tl hst)) hu)
      | false =>
        rw [h250] at h
        dsimp only [cond] at h
        split at h
        · rename_i t n hk
          exact sd_alen hF he (vAs_hd hst) hk (hself _ _ _ _ _ h hls (vAs_cons trivial (vAs_tl hst)) hu)
        · cases h
    · cases h
  | invokevirtual idx =>
    exact call_sound hEx he.1 he.2 hself h hls hst
  | invokestatic idx =>
    exact call_sound hEx he.1 he.2 hself h hls hst
  | new idx =>
    dsimp only [ai_step] at h
    cases hb : (Nat.ble (u + 1) (cxG x) && Nat.ble (ai_cats st) 8) with
    | false => rw [hb] at h; cases h
    | true =>
      rw [hb] at h
      cases h
      rw [Bool.and_eq_true] at hb
      exact hEn y G rfl pc u idx _ st he (Nat.le_of_ble_eq_true hb.1) (Nat.le_of_ble_eq_true hb.2)
  | ireturn =>
    dsimp only [ai_step] at h
    obtain ⟨he, hret⟩ := he
    split at h
    · rename_i v
      split at h
      · cases h
        exact hEr _ G rfl pc u _ _ he ⟨v, _, rfl, hret, rfl⟩ (fun w e => by cases e; trivial) hu
      · split at h
        · rename_i hz
          cases h
          refine hEr _ G rfl pc u _ _ he ⟨v, _, rfl, hret, ?_⟩ (fun w e => by cases e; trivial) hu
          rcases hz with rfl | rfl <;> decide
        · cases h
      · rename_i y1 y2
        split at h
        · rename_i hz
          cases h
          refine hEr _ G rfl pc u _ _ he ⟨v, _, rfl, hret, ?_⟩ (fun w e => by cases e; trivial) hu
          have e : retTy y = .char := by
            unfold retTy
            split
            · exact absurd rfl y1
            · exact absurd rfl y2
            · rfl
          rw [e]
          exact char_nar hz
        · cases h
    · cases h
  | areturn =>
    dsimp only [ai_step] at h
    obtain ⟨he, hret⟩ := he
    split at h
    · rename_i q
      cases h
      exact hEr _ G rfl pc u _ _ he ⟨Or.inr ⟨q, rfl⟩, hret⟩ (fun w e => by cases e; exact vAs_hd hst) hu
    · cases h
      exact hEr _ G rfl pc u _ _ he ⟨Or.inl rfl, hret⟩ (fun w e => by cases e; trivial) hu
    · cases h
  | freturn =>
    dsimp only [ai_step] at h
    obtain ⟨he, hret⟩ := he
    split at h
    · rename_i v
      cases h
      exact hEr _ G rfl pc u _ _ he ⟨v, rfl, hret⟩ (fun w e => by cases e; trivial) hu
    · cases h
  | dreturn =>
    dsimp only [ai_step] at h
    obtain ⟨he, hret⟩ := he
    split at h
    · rename_i v
      cases h
      exact hEr _ G rfl pc u _ _ he ⟨v, rfl, hret⟩ (fun w e => by cases e; trivial) hu
    · cases h
  | return_ =>
    dsimp only [ai_step] at h
    obtain ⟨he, hret⟩ := he
    split at h
    · cases h
      exact hEr none G rfl pc u _ _ he ⟨rfl, hret⟩ (fun w e => by cases e) hu
    · cases h
  | _ => cases h
end Step
