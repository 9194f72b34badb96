/-! THE CLAIM out of a run of the abstract machine (printed by gen/run9.py) -/
theorem vLs_c {L : List Rf} {v : AV} {ls : Ls} (h : vA L v) (t : vLs L ls) : vLs L (some v :: ls) := fun w hw => (List.mem_cons.mp hw).elim (fun e => by cases e; exact h) (t w)
theorem vLs_n {L : List Rf} {ls : Ls} (t : vLs L ls) : vLs L (none :: ls) := fun w hw => (List.mem_cons.mp hw).elim (fun e => by cases e) (t w)
theorem gr_lt {r : Rf} {f : Nat} {q : Rf} (h : gr r f = some q) : f < 32 := by
  unfold gr at h
  (repeat' split at h) <;> first | (cases h; done) | decide | omega
theorem Lok_0 : Lok L0 := by
  refine ⟨by decide +kernel, fun r hr f q hq hk => ?_, fun _ => by decide +kernel, by decide +kernel⟩
  have h : (L0.all (fun r => (List.range 32).all (fun f => match gr r f with | none => true | some q => !(kd q.2).isSome || decide (q ∈ L0)))) = true := by decide +kernel
  have h1 := List.all_eq_true.mp (List.all_eq_true.mp h r hr) f (List.mem_range.mpr (gr_lt hq))
  rw [hq] at h1
  dsimp only at h1
  rw [hk] at h1
  exact of_decide_eq_true h1
theorem bk_28 (sc : Nat × (Nat → Int32)) (kk k : Nat) (x5 : Int32) (G : GS) : bk_Law_law sc kk k 28 [some (.inr (0, 250)), some (.inr (0, 0)), some (.inr (0, 50)), some (.inr (0, 18)), some (.inr (0, 19)), some (.inl (.int x5)), none, none, none, none] [] G = L_Law_law sc kk k x5 G := rfl
theorem vLs_0 : vLs L0 [some (.inr (0, 250)), some (.inr (0, 0)), some (.inr (0, 50)), some (.inr (0, 18)), some (.inr (0, 19)), some (.inl (.int 0)), none, none, none, none] :=
  vLs_c (fun h => by cases h) (vLs_c (fun _ => by decide +kernel) (vLs_c (fun _ => by decide +kernel) (vLs_c (fun _ => by decide +kernel) (vLs_c (fun _ => by decide +kernel) (vLs_c trivial (vLs_n (vLs_n (vLs_n (vLs_n (fun v h => nomatch h))))))))))
set_option maxRecDepth 100000 in
set_option maxHeartbeats 4000000 in
theorem whole_of {p : Program} {e : Env} {s : State} {m : MethodId} {below : List Frame} {meth : Method} {c : Code} (l : Launch) (hflags : l.flags = flags0) {b L : Nat} {xs : Nat → Int32} (KK : Nat) (hpure : ∃ G', L_Law_law (L, xs) KK 513 0 G0 = some (.inl (some (.inl (.int 1))), G'))
    (C0 : lw_At p s m meth c b L xs) : W p l e room_1 s m #[Value.ref b] below meth c s.heap [] 0 0 (lw_Z below #[Value.ref b] s) (entryFrame m ([Value.ref b] : List Value).toArray 10) := by
  obtain ⟨hx, hb, hr, hml, hown, hts, hX, hbl, hlocks, hgv⟩ := id C0
  have hst : l.stackTraces = false := by unfold Launch.stackTraces; rw [hflags]; decide +kernel
  obtain ⟨D, cs, adK, adV, hKS⟩ := st_KS hts hgv hX hbl
  have hW := st_all hts
  have hK0 := hKS (fun r => bif Nat.beq r.2 250 then b else adK r.1) (fun _ => rfl) rfl
  rw [lg_entry_eq]
  have hlv0 := LV_entry (ad := fun r => bif Nat.beq r.2 250 then b else adK r.1) (as := [.inl (.ref b)]) (n := 10) (fun v hv => by obtain rfl := List.mem_singleton.mp hv; rfl) (Nat.le_of_ble_eq_true rfl)
  have hgo := law_start (x := ((p, l, e, room_1, s, m, #[Value.ref b], below, meth, c, lw_Z below #[Value.ref b] s), (D, cs, s.heap.size, (fun r => bif Nat.beq r.2 250 then b else adK r.1), adV, (L, xs), [], fun _ _ => True), code, 10, RL, 0, 0, 134, 14))
    (D := D) (cs := cs) (b := s.heap.size) (ad := fun r => bif Nat.beq r.2 250 then b else adK r.1) (adV := adV) (sc := (L, xs)) (l := l)
    (fun ws => ⟨hx, hb, hml, hown, hW, hK0, Nat.le_refl _, ⟨List.nodup_nil, (fun r hr => by cases hr), (fun hr => by cases hr), (fun q hq => by cases hq)⟩, hlocks, Nat.le_of_ble_eq_true rfl, Nat.le_of_ble_eq_true rfl, Nat.le_of_ble_eq_true rfl, Nat.le_of_ble_eq_true rfl⟩) rfl rfl rfl rfl rfl rfl (sb := b)
  refine hgo (fun o1 o2 o3 o4 q0 q1 s9 Q ar b1 b2 b3 b4 p1 p2 p3 p4 p5 p6 m1 m2 m3 m4 m5 m6 m7 => ?_) s.heap [] 0 0 _ (PWj (fun k q h => by simp at h) ⟨fun i j p q h => by simp at h, fun k q h => by simp at h⟩) va_S.rf hlv0 (Nat.zero_le _) (Nat.zero_le _)
  intro H locs cells slots sl hP0 hS hl h1 h2
  obtain ⟨hP, hD⟩ := PWj' hP0
  have hm := w0_map (cs := cs) (sb := b) (adK := adK) (o1 := o1) (o2 := o2) (o3 := o3) (o4 := o4) (q0 := q0) (q1 := q1) (s := s9) (Q := Q) (ar := ar) (b1 := b1) (b2 := b2) (b3 := b3) (b4 := b4) (p1 := p1) (p2 := p2) (p3 := p3) (p4 := p4) (p5 := p5) (p6 := p6) (m1 := m1) (m2 := m2) (m3 := m3) (m4 := m4) (m5 := m5) (m6 := m6) (m7 := m7)
  have hP1 := hP.sub [0, 1, 2, 3, 4, 5, 6, 7, 8, 9, 10, 11, 12, 13, 14, 15, 16, 17, 18, 19, 20, 21, 22, 23, 24, 25, 26, 27, 28, 29, 30, 31, 32, 33, 34, 35, 36, 37, 38, 39, 40, 41, 42, 43, 44, 45, 46, 47, 48, 49, 50, 51, 52, 53, 54, 55, 56, 57, 58, 59, 60, 61, 62, 63, 64, 65, 66, 67, 68, 69, 70, 71, 72, 73, 74, 75, 76, 77, 78, 79, 80, 81, 82, 83, 84, 85, 86, 87, 88, 89, 90, 91, 92, 93, 94, 95, 96, 97, 98, 99, 100, 101, 102, 104, 106, 107, 108, 109, 110, 111, 112, 113, 114, 115, 116, 117, 118, 105, 103] (fm_of hm)
  have hD1 := hD.sub [0, 1, 2, 3, 4, 5, 6, 7, 8, 9, 10, 11, 12, 13, 14, 15, 16, 17, 18, 19, 20, 21, 22, 23, 24, 25, 26, 27, 28, 29, 30, 31, 32, 33, 34, 35, 36, 37, 38, 39, 40, 41, 42, 43, 44, 45, 46, 47, 48, 49, 50, 51, 52, 53, 54, 55, 56, 57, 58, 59, 60, 61, 62, 63, 64, 65, 66, 67, 68, 69, 70, 71, 72, 73, 74, 75, 76, 77, 78, 79, 80, 81, 82, 83, 84, 85, 86, 87, 88, 89, 90, 91, 92, 93, 94, 95, 96, 97, 98, 99, 100, 101, 102, 104, 106, 107, 108, 109, 110, 111, 112, 113, 114, 115, 116, 117, 118, 105, 103] (by decide +kernel) hm
  obtain ⟨G', hpure⟩ := hpure
  have hK1 := hKS (adF b adK o1 o2 o3 o4 q0 q1 s9 Q ar b1 b2 b3 b4 p1 p2 p3 p4 p5 p6 m1 m2 m3 m4 m5 m6 m7) (fun _ => rfl) rfl
  have hFX : ∀ c0 s0, c0 + 90 ≤ 46304 → s0 + 100 * 90 ≤ 100 * 46304 → FX ((p, l, e, room_1, s, m, #[Value.ref b], below, meth, c, lw_Z below #[Value.ref b] s), (D, cs, s.heap.size, adF b adK o1 o2 o3 o4 q0 q1 s9 Q ar b1 b2 b3 b4 p1 p2 p3 p4 p5 p6 m1 m2 m3 m4 m5 m6 m7, adV, (L, xs), L0, XTsb cs (adF b adK o1 o2 o3 o4 q0 q1 s9 Q ar b1 b2 b3 b4 p1 p2 p3 p4 p5 p6 m1 m2 m3 m4 m5 m6 m7) []), code, 10, RL, c0, s0, 90, 14) :=
    fun c0 s0 f1 f2 => ⟨hx, hb, hml, hown, hW, hK1, Nat.le_refl _, Lok_0, hlocks, (by show c0 + 90 ≤ 603072; omega), (by show s0 + 100 * 90 ≤ 7211114; omega), Nat.le_of_ble_eq_true rfl, Nat.le_of_ble_eq_true rfl⟩
  have hloop := loop_sound (X := ((p, l, e, room_1, s, m, #[Value.ref b], below, meth, c, lw_Z below #[Value.ref b] s), (D, cs, s.heap.size, adF b adK o1 o2 o3 o4 q0 q1 s9 Q ar b1 b2 b3 b4 p1 p2 p3 p4 p5 p6 m1 m2 m3 m4 m5 m6 m7, adV, (L, xs), L0, XTsb cs (adF b adK o1 o2 o3 o4 q0 q1 s9 Q ar b1 b2 b3 b4 p1 p2 p3 p4 p5 p6 m1 m2 m3 m4 m5 m6 m7) []), code, 10, RL, 0, 0, 90, 14))
    (T := T_Law_law) (call := call_Law_law KK) (hd := fun _ => []) (out := (.inl (some (.inl (.int 1))), G')) (bk := bk_Law_law (L, xs) KK) (mc := 46304) (fun _ _ => rfl) (fun _ _ => rfl) (fun _ _ => rfl) hFX
    (fun c0 s0 f1 f2 => by
      refine ⟨?_, (fun ex G2 h => by cases h), (fun ex G2 h => by cases h)⟩
      intro v G hout pc u i ls hd hrk hvo hu H locs cells slots sl hP hS hl k1 k2
      cases hout
      have hu : u ≤ 90 := hu
      have f1 : c0 + 90 ≤ 46304 := f1
      have f2 : s0 + 100 * 90 ≤ 100 * 46304 := f2
      cases i with
      | ireturn => exact va_forget (fun q hq => hS.2.2 q hq) (W.widen (k := 603072) (n := 7211114) (by omega) (by omega) (W.base (lw_ret (Drawn.sameBut.refl s.drawn lw_cs) hx hb hr hlocks hd)))
      | areturn => obtain ⟨h, _⟩ := hrk; rcases h with h | ⟨q, h⟩ <;> cases h
      | freturn => obtain ⟨k, h, _⟩ := hrk; cases h
      | dreturn => obtain ⟨k, h, _⟩ := hrk; cases h
      | return_ => obtain ⟨h, _⟩ := hrk; cases h
      | _ => exact False.elim hrk)
    (fun c0 s0 hF => TT_law KK l hst _ hF rfl rfl rfl rfl hr ⟨[], rfl⟩) (fun pc ls st G h => lawb_0 h) (fun k pc ls st G h => lawb_s h) 513 134 (show 134 + 90 * 513 ≤ 46304 from by decide) 28
    [some (.inr (0, 250)), some (.inr (0, 0)), some (.inr (0, 50)), some (.inr (0, 18)), some (.inr (0, 19)), some (.inl (.int 0)), none, none, none, none] [] G0 ((bk_28 (L, xs) KK 513 0 G0).trans hpure)
    vLs_0 (fun v h => nomatch h)
  exact hloop H locs cells slots sl ⟨_, ⟨b4, 16, fun _ => 0, 0, rfl, by decide, by decide, sb_fit0, fun j hj => absurd hj (Nat.not_lt_zero _)⟩, hP1, hD1⟩ hS hl (by show cells ≤ 134 + 0; exact h1) (by show slots ≤ 100 * 134 + 100 * 0; omega)
