/-! BOTH RUN THE SCRIPT -/
def A0 (r : Nat × PR) : Int32 := r.2.2.2.1
def A1 (r : Nat × PR) : Int32 := r.2.2.2.2.1
def A2 (r : Nat × PR) : Int32 := r.2.2.2.2.2
def rnS : (Nat → Int32) → Nat → List (Nat × PR) → Option Nat × (Nat → Int32)
  | W, _, [] => (none, W)
  | W, idx, r :: rs => if fC W r.1 (A0 r) (A1 r) (A2 r) = 0 then rnS (opC W r.1 (A0 r) (A1 r) (A2 r)) (idx + 1) rs else (some idx, W)
def rn1 : Option Nat → Int32
  | none => -1
  | some q => nI q
theorem rel_C (W : Nat → Int32) {kw : Nat} (hk : kw < 7) {x0 x1 x2 a0 a1 a2 : Int32} (e0 : kw ≠ 4 → x0 = a0) (e1 : kw = 0 ∨ kw = 2 → x1 = a1) (e2 : kw = 0 → x2 = a2) : fC W kw x0 x1 x2 = fC W kw a0 a1 a2 ∧ opC W kw x0 x1 x2 = opC W kw a0 a1 a2 := by
  match kw, hk with
  | 0, _ =>
    rw [e0 (by decide), e1 (Or.inl rfl), e2 rfl]
    exact ⟨rfl, rfl⟩
  | 1, _ =>
    rw [e0 (by decide)]
    show fUnload W a0 = fUnload W a0 ∧ opUnload W (bN a0) = opUnload W (bN a0)
    exact ⟨rfl, rfl⟩
  | 2, _ =>
    rw [e0 (by decide), e1 (Or.inr rfl)]
    show fShift W a0 a1 = fShift W a0 a1 ∧ opShift W (bN a0) (bN a1) = opShift W (bN a0) (bN a1)
    exact ⟨rfl, rfl⟩
  | 3, _ =>
    rw [e0 (by decide)]
    show fSail a0 = fSail a0 ∧ opSail W a0 = opSail W a0
    exact ⟨rfl, rfl⟩
  | 4, _ =>
    show (0 : Nat) = 0 ∧ opTurn W = opTurn W
    exact ⟨rfl, rfl⟩
  | 5, _ =>
    rw [e0 (by decide)]
    show fLimit W a0 = fLimit W a0 ∧ opLimit W a0 = opLimit W a0
    exact ⟨rfl, rfl⟩
  | 6, _ =>
    rw [e0 (by decide)]
    show fDrill a0 = fDrill a0 ∧ opDrill W a0 = opDrill W a0
    exact ⟨rfl, rfl⟩
section Rn
variable {kk n : Nat} {T : Nat → Int32}
theorem x_cmdAt {m : Nat} {G : GS} (hm : m < 15) : D_Script_commandAt kk (nI m) G = okI (ga G (0, 14) m) G := by
  unfold D_Script_commandAt
  refine (iF (nI_pos (by omega))).trans ((iF (nI_ge (b := 15) hm (by decide))).trans ((bT (in_of hm (by decide))).trans ?_))
  rw [nI_clamp (by omega)]
theorem x_arg {m a : Nat} {G : GS} (hm : m < 15) (ha : a < 3) : D_Script_argumentAt kk (nI m) (nI a) G = okI (ga G (0, 15) (3 * m + a)) G := by
  unfold D_Script_argumentAt
  rw [show nI m * (3 : Int32) = nI (3 * m) from by rw [Int32.mul_comm]; exact pk_mul 3 m, nI_add]
  refine (iF (nI_pos (by omega))).trans ((iF (nI_ge (b := 45) (by omega) (by decide))).trans ((bT (in_of (by omega) (by decide))).trans ?_))
  rw [nI_clamp (by omega)]
theorem KX_S {m : Nat} {rs : List (Nat × PR)} {G G' : GS} (h : KX m rs G) (f : FrS 0 G G') : KX m rs G' := fun j r hj => by
  obtain ⟨h1, h2, h3, h4, h5⟩ := h j r hj
  have n14 : ¬ (((0, 14) : Rf).1 = 0 ∧ 1 ≤ ((0, 14) : Rf).2 ∧ ((0, 14) : Rf).2 ≤ 9) := fun z => absurd z.2.2 (by decide)
  have n15 : ¬ (((0, 15) : Rf).1 = 0 ∧ 1 ≤ ((0, 15) : Rf).2 ∧ ((0, 15) : Rf).2 ≤ 9) := fun z => absurd z.2.2 (by decide)
  exact ⟨h1, ((f.1 _ n14).2 _).trans h2, fun z => ((f.1 _ n15).2 _).trans (h3 z), fun z => ((f.1 _ n15).2 _).trans (h4 z), fun z => ((f.1 _ n15).2 _).trans (h5 z)⟩
theorem x_run (hk : 40 ≤ kk) : ∀ (rs : List (Nat × PR)) (idx N k : Nat) (W : Nat → Int32) (G : GS), WF N W → AX W 0 G → KX idx rs G → gi G (0, 12) 4 = nI (idx + rs.length) → idx + rs.length ≤ 13 → rs.length < k → ∃ G', L_PB_performCommands kk k (nI idx) G = okI (rn1 (rnS W idx rs).1) G' ∧ FrS 0 G G' ∧ ((rnS W idx rs).1 = none → AX (rnS W idx rs).2 0 G' ∧ WF (N + rs.length) (rnS W idx rs).2)
  | [], idx, N, k, W, G, hW, hA, hK, h4, h13, hk2 => by
    obtain ⟨k, rfl⟩ : ∃ j, k = j + 1 := ⟨k - 1, by omega⟩
    refine ⟨G, iT ?_, FrS.rf, fun _ => ⟨hA, hW⟩⟩
    rw [h4]
    exact nI_le (Nat.le_refl _) (by have : idx + 0 ≤ 13 := h13; omega)
  | r :: rs, idx, N, k, W, G, hW, hA, hK, h4, h13, hk2 => by
    obtain ⟨k, rfl⟩ : ∃ j, k = j + 1 := ⟨k - 1, by omega⟩
    rw [List.length_cons] at h4 h13 hk2
    obtain ⟨r7, r14, q0, q1, q2⟩ := hK 0 r rfl
    rw [Nat.add_zero] at r14 q0 q1 q2
    obtain ⟨ef, eo⟩ := rel_C W r7 (x0 := ga G (0, 15) (3 * idx + 0)) (x1 := ga G (0, 15) (3 * idx + 1)) (x2 := ga G (0, 15) (3 * idx + 2)) (a0 := A0 r) (a1 := A1 r) (a2 := A2 r) q0 q1 q2
    have hfl := c_faultOf (kk := kk) hW.1 hA hW.lim0 hk r7 (ga G (0, 15) (3 * idx + 0)) (ga G (0, 15) (3 * idx + 1)) (ga G (0, 15) (3 * idx + 2))
    rw [ef] at hfl
    have pre : L_PB_performCommands kk (k + 1) (nI idx) G = (if nI (fC W r.1 (A0 r) (A1 r) (A2 r)) = 0 then (D_State_perform kk 0 (nI r.1) (ga G (0, 15) (3 * idx + 0)) (ga G (0, 15) (3 * idx + 1)) (ga G (0, 15) (3 * idx + 2)) G).bind (fun r => oI r (fun v24 G21 => (L_PB_performCommands kk k) (nI idx + (1 : Int32)) G21) exc) else okI (nI idx) G) := by
      refine (iF (by rw [h4]; exact nI_ge (by omega) (by omega))).trans ((rI (x_cmdAt (by omega))).trans ((rI (x_arg (a := 0) (by omega) (by decide))).trans ((rI (x_arg (a := 1) (by omega) (by decide))).trans ((rI (x_arg (a := 2) (by omega) (by decide))).trans ?_))))
      rw [r14]
      exact rI hfl
    by_cases z : fC W r.1 (A0 r) (A1 r) (A2 r) = 0
    · have e : rnS W idx (r :: rs) = rnS (opC W r.1 (A0 r) (A1 r) (A2 r)) (idx + 1) rs := by rw [rnS, if_pos z]
      obtain ⟨G1, a1, a2, a3⟩ := c_perform (kk := kk) hW.1 hA hW.2.1 hW.lim0 hk r7 (ef.trans z)
      rw [eo] at a2
      have n12 : ¬ (((0, 12) : Rf).1 = 0 ∧ 1 ≤ ((0, 12) : Rf).2 ∧ ((0, 12) : Rf).2 ≤ 9) := fun y => absurd y.2.2 (by decide)
      obtain ⟨G', b1, b2, b3⟩ := x_run hk rs (idx + 1) (N + 1) k (opC W r.1 (A0 r) (A1 r) (A2 r)) G1 (WF_op hW r7 z) a2 (KX_S (fun j r' hj => by
        have := hK (j + 1) r' (by rw [List.getElem?_cons_succ]; exact hj)
        rw [show idx + (j + 1) = idx + 1 + j by omega] at this
        exact this) a3) (((a3.1 _ n12).1 4).trans (h4.trans (congrArg nI (by omega)))) (by omega) (by omega)
      rw [e]
      refine ⟨G', pre.trans ((iT (by rw [z]; rfl)).trans ((rI a1).trans ?_)), a3.tr b2, fun hn => ?_⟩
      · rw [nI_1]; exact b1
      · obtain ⟨c1, c2⟩ := b3 hn
        exact ⟨c1, by rw [List.length_cons, show N + (rs.length + 1) = N + 1 + rs.length by omega]; exact c2⟩
    · have e : rnS W idx (r :: rs) = (some idx, W) := by rw [rnS, if_neg z]
      rw [e]
      exact ⟨G, pre.trans (iF (ml_ne z fC_lt)), FrS.rf, fun y => by cases y⟩
theorem m_notNow {W : Nat → Int32} {G : GS} {kw : Nat} {r : PR} (h7 : kw < 7) (hH : HH W) (hM : AM W G) (hk : 40 ≤ kk) (h16 : gi G (0, 50) 16 = nI (ltr kw)) (ha : argsM kw r G) : ∃ v, D_Mo_notNow kk G = okI v G ∧ (v = 0 ↔ fC W kw r.2.2.1 r.2.2.2.1 r.2.2.2.2 = 0) := by
  obtain ⟨q0, q1, q2⟩ := ha
  unfold D_Mo_notNow
  rw [h16]
  have mz : ∀ (g : Nat → Nat) (x : Nat), x < 6 → (∀ y, y < 6 → g y < 6 ∧ (g y = 0 ↔ y = 0)) → (nI (g x) = 0 ↔ x = 0) := fun g x hx hg => by
    obtain ⟨g1, g2⟩ := hg x hx
    exact (nI_eq (b := 0) (by omega) (by decide)).trans g2
  match kw, h7, q0, q1, q2 with
  | 0, _, q0, q1, q2 =>
    refine ⟨nI (mLoad (fLoad W r.2.2.1 r.2.2.2.1 r.2.2.2.2)), ?_, ?_⟩
    · rw [q0 (by decide), q1 (Or.inl rfl), q2 rfl]
      exact (show _ = (D_Mo_notLoad kk r.2.2.1 r.2.2.2.1 r.2.2.2.2 G).bind (fun r => oI r (fun v12 G9 => okI v12 G9) exc) from rfl).trans (rI (m_fLoad hH hM hk _ _ _))
    · have hl : fLoad W r.2.2.1 r.2.2.2.1 r.2.2.2.2 < 6 := fC_lt (c := 0)
      have hne : fLoad W r.2.2.1 r.2.2.2.1 r.2.2.2.2 ≠ 3 := by
        unfold fLoad
        repeat' split
        all_goals simp
      revert hl hne
      show fLoad W r.2.2.1 r.2.2.2.1 r.2.2.2.2 < 6 → _ → (nI (mLoad (fLoad W r.2.2.1 r.2.2.2.1 r.2.2.2.2)) = 0 ↔ fLoad W r.2.2.1 r.2.2.2.1 r.2.2.2.2 = 0)
      generalize fLoad W r.2.2.1 r.2.2.2.1 r.2.2.2.2 = x
      intro hl hne
      exact mz mLoad x hl (by decide)
  | 1, _, q0, _, _ =>
    refine ⟨nI (mUnload (fUnload W r.2.2.1)), ?_, mz mUnload _ (fC_lt (c := 1) (a1 := r.2.2.1) (a2 := 0) (a3 := 0)) (by decide)⟩
    rw [q0 (by decide)]
    exact (show _ = (D_Mo_notUnload kk r.2.2.1 G).bind (fun r => oI r (fun v12 G9 => okI v12 G9) exc) from rfl).trans (rI (m_fUnload hH hM hk _))
  | 2, _, q0, q1, _ =>
    refine ⟨nI (fShift W r.2.2.1 r.2.2.2.1), ?_, mz (fun x => x) _ (fC_lt (c := 2) (a1 := r.2.2.1) (a2 := r.2.2.2.1) (a3 := 0)) (by decide)⟩
    rw [q0 (by decide), q1 (Or.inr rfl)]
    exact (show _ = (D_Mo_notShift kk r.2.2.1 r.2.2.2.1 G).bind (fun r => oI r (fun v12 G9 => okI v12 G9) exc) from rfl).trans (rI (m_fShift hH hM hk _ _))
  | 3, _, q0, _, _ =>
    refine ⟨nI (mOne (fSail r.2.2.1)), ?_, mz mOne _ (fC_lt (W := W) (c := 3) (a1 := r.2.2.1) (a2 := 0) (a3 := 0)) (by decide)⟩
    rw [q0 (by decide)]
    exact (show _ = (D_Mo_notSail kk r.2.2.1 G).bind (fun r => oI r (fun v12 G9 => okI v12 G9) exc) from rfl).trans (rI (m_fSail _))
  | 4, _, _, _, _ => exact ⟨0, rfl, ⟨fun _ => rfl, fun _ => rfl⟩⟩
  | 5, _, q0, _, _ =>
    refine ⟨nI (mLimit (fLimit W r.2.2.1)), ?_, mz mLimit _ (fC_lt (c := 5) (a1 := r.2.2.1) (a2 := 0) (a3 := 0)) (by decide)⟩
    rw [q0 (by decide)]
    exact (show _ = (D_Mo_notLimit kk r.2.2.1 G).bind (fun r => oI r (fun v12 G9 => okI v12 G9) exc) from rfl).trans (rI (m_fLimit hH hM hk _))
  | 6, _, q0, _, _ =>
    refine ⟨nI (mOne (fDrill r.2.2.1)), ?_, mz mOne _ (fC_lt (W := W) (c := 6) (a1 := r.2.2.1) (a2 := 0) (a3 := 0)) (by decide)⟩
    rw [q0 (by decide)]
    exact (show _ = (D_Mo_notDrill kk r.2.2.1 G).bind (fun r => oI r (fun v12 G9 => okI v12 G9) exc) from rfl).trans (rI (m_fDrill _))
theorem m_doesNow {W : Nat → Int32} {G : GS} {kw : Nat} {r : PR} (h7 : kw < 7) (hH : HH W) (hM : AM W G) (hk : 40 ≤ kk) (h16 : gi G (0, 50) 16 = nI (ltr kw)) (ha : argsM kw r G) (hf : fC W kw r.2.2.1 r.2.2.2.1 r.2.2.2.2 = 0) : ∃ v G', D_Mo_doesNow kk G = okI v G' ∧ AM (opC W kw r.2.2.1 r.2.2.2.1 r.2.2.2.2) G' ∧ FrM G G' := by
  obtain ⟨q0, q1, q2⟩ := ha
  have key : ∀ (op : Res) (v : Int32) (W' : Nat → Int32), (∃ G', op = okI v G' ∧ AM W' G' ∧ FrM G G') → D_Mo_doesNow kk G = op.bind (fun r => oI r (fun v4 G1 => okI v4 G1) exc) → ∃ v G', D_Mo_doesNow kk G = okI v G' ∧ AM W' G' ∧ FrM G G' := fun op v W' h e => by
    obtain ⟨G', g1, g2, g3⟩ := h
    exact ⟨v, G', e.trans (rI g1), g2, g3⟩
  match kw, h7, q0, q1, q2, hf, h16 with
  | 0, _, q0, q1, q2, hf, h16 =>
    obtain ⟨q, p1, p2, p3, p4, -⟩ := fLoad_ok hf
    refine key (D_Mo_loads kk r.2.2.1 r.2.2.2.1 r.2.2.2.2 G) (W 4) _ ?_ (by unfold D_Mo_doesNow; rw [h16, q0 (by decide), q1 (Or.inl rfl), q2 rfl]; rfl)
    show ∃ G', _ ∧ AM (opLoad W (bN r.2.2.1) r.2.2.2.1 r.2.2.2.2) G' ∧ _
    rw [p3, p2]
    exact m_loads hH hM p1 (by have := (hH q p1).1; omega) _ _
  | 1, _, q0, _, _, hf, h16 =>
    obtain ⟨q, p1, p2, p3, p4, -⟩ := fUnload_ok (show fUnload W r.2.2.1 = 0 from hf)
    refine key (D_Mo_unloads kk r.2.2.1 G) (fW W q (hN W q - 1) 0) _ ?_ (by unfold D_Mo_doesNow; rw [h16, q0 (by decide)]; rfl)
    show ∃ G', _ ∧ AM (opUnload W (bN r.2.2.1)) G' ∧ _
    rw [p3, p2]
    exact m_unloads hH hM hk p1 (by omega)
  | 2, _, q0, q1, _, hf, h16 =>
    obtain ⟨q, d, p1, d1, p2, d2, p3, d3, hne, p4, d4, -⟩ := fShift_ok (show fShift W r.2.2.1 r.2.2.2.1 = 0 from hf)
    refine key (D_Mo_shifts kk r.2.2.1 r.2.2.2.1 G) (fW W q (hN W q - 1) 0) _ ?_ (by unfold D_Mo_doesNow; rw [h16, q0 (by decide), q1 (Or.inr rfl)]; rfl)
    show ∃ G', _ ∧ AM (opShift W (bN r.2.2.1) (bN r.2.2.2.1)) G' ∧ _
    rw [p3, d3, p2, d2]
    exact m_shifts hH hM hk p1 d1 hne (by omega) (by have := (hH d d1).1; omega)
  | 3, _, q0, _, _, _, h16 => exact key (D_Mo_sails kk r.2.2.1 G) _ _ (m_sails hM _) (by unfold D_Mo_doesNow; rw [h16, q0 (by decide)]; rfl)
  | 4, _, _, _, _, _, h16 => exact key (D_Mo_turns kk G) _ _ (m_turns hM) (by unfold D_Mo_doesNow; rw [h16]; rfl)
  | 5, _, q0, _, _, _, h16 => exact key (D_Mo_setsLimit kk r.2.2.1 G) _ _ (m_setsLimit hM _) (by unfold D_Mo_doesNow; rw [h16, q0 (by decide)]; rfl)
  | 6, _, q0, _, _, _, h16 => exact key (D_Mo_drills kk r.2.2.1 G) _ _ (m_drills hH hM hk _) (by unfold D_Mo_doesNow; rw [h16, q0 (by decide)]; rfl)
end Rn
/-- what running changes in the reference -/
def FrD (G G' : GS) : Prop := (∀ r f, ¬ (r = (0, 50) ∧ (f = 12 ∨ f = 16 ∨ f = 17)) → gi G' r f = gi G r f) ∧ (∀ r : Rf, r ≠ (0, 57) → r ≠ (0, 51) → ∀ i, ga G' r i = ga G r i) ∧ G'.2.2 = G.2.2
theorem FrD.rf {G : GS} : FrD G G := ⟨fun _ _ _ => rfl, fun _ _ _ _ => rfl, rfl⟩
theorem FrD.tr {G G1 G2 : GS} (h : FrD G G1) (g : FrD G1 G2) : FrD G G2 := ⟨fun r f q => (g.1 r f q).trans (h.1 r f q), fun r q q' i => (g.2.1 r q q' i).trans (h.2.1 r q q' i), g.2.2.trans h.2.2⟩
theorem FrR.d {G G' : GS} (h : FrR G G') : FrD G G' := ⟨fun r f q => h.1 r f (fun z => q ⟨z.1, z.2.elim Or.inl (fun y => Or.inr (Or.inl y))⟩), fun r q _ i => h.2.1 r q i, h.2.2⟩
theorem FrM.d {G G' : GS} (h : FrM G G') : FrD G G' := ⟨fun r f _ => h.1 r f, fun r _ q i => h.2.1 r q i, h.2.2⟩
theorem FrD_17 {G : GS} {v : Int32} : FrD G (si G (0, 50) 17 v) := ⟨fun r f q => by rw [gi_si, if_neg (fun z => q ⟨z.1, Or.inr (Or.inr z.2)⟩)], fun _ _ _ _ => rfl, rfl⟩
section Ra
variable {kk n : Nat} {T : Nat → Int32}
theorem PM_M {i : Nat} {G G' : GS} (hP : PM n T i G) (h : FrM G G') : PM n T i G' := ⟨(h.1 _ _).trans hP.1, (h.1 _ _).trans hP.2.1, fun j hj => (h.2.1 _ (by decide) j).trans (hP.2.2.1 j hj), hP.2.2.2⟩
theorem PM_17 {i : Nat} {v : Int32} {G : GS} (hP : PM n T i G) : PM n T i (si G (0, 50) 17 v) := ⟨by rw [gi_si, if_neg (fun z => by cases z.2)]; exact hP.1, by rw [gi_si, if_neg (fun z => by cases z.2)]; exact hP.2.1, hP.2.2.1, hP.2.2.2⟩
theorem AM_R {W : Nat → Int32} {G G' : GS} (h : AM W G) (f : FrR G G') : AM W G' := fun k hk => (f.2.1 _ (by decide) k).trans (h k hk)
def rn2 (m : Nat) (rs : List (Nat × PR)) : Option Nat → Nat
  | none => m + rs.length
  | some q => q
theorem rn2_s (m : Nat) (r : Nat × PR) (rs : List (Nat × PR)) (o : Option Nat) : rn2 m (r :: rs) o = rn2 (m + 1) rs o := by
  cases o with
  | none => show m + (rs.length + 1) = m + 1 + rs.length; omega
  | some q => rfl
theorem m_run (hT : TX n T) (hk : 40 ≤ kk) : ∀ (f m i k N : Nat) (W : Nat → Int32) (G : GS), m + f = 13 → 5 * m ≤ i → f + 1 < k → WF N W → AM W G → PM n T i G → gi G (0, 50) 17 = nI m → (psS (Ch n T) n f i).1 = true →
    ∃ G', L_Mo_doesAll kk k 1 G = okI (if (rnS W m (psS (Ch n T) n f i).2.2).1 = none then 1 else 0) G' ∧ FrD G G' ∧ gi G' (0, 50) 17 = nI (rn2 m (psS (Ch n T) n f i).2.2 (rnS W m (psS (Ch n T) n f i).2.2).1) ∧ ((rnS W m (psS (Ch n T) n f i).2.2).1 = none → AM (rnS W m (psS (Ch n T) n f i).2.2).2 G')
  | 0, m, i, k, N, W, G, hm, h5, hk2, hW, hM, hP, h17, hok => absurd hok Bool.false_ne_true
  | f + 1, m, i, k, N, W, G, hm, h5, hk2, hW, hM, hP, h17, hok => by
    obtain ⟨k, rfl⟩ : ∃ j, k = j + 2 := ⟨k - 2, by omega⟩
    by_cases ok : (cmdS (Ch n T) i).2.1 = true
    · obtain ⟨ok7, okl⟩ := cmd_ok ok
      obtain ⟨G1, a1, a2, a3, a4⟩ := m_cmd (kk := kk) hT hP
      rw [if_pos ok] at a1
      obtain ⟨-, a5, a6⟩ := a4 ok
      have M1 := AM_R hM a3
      obtain ⟨v, n1, n2⟩ := m_notNow (kk := kk) ok7 hW.1 M1 hk a6 a5
      have h171 : gi G1 (0, 50) 17 = nI m := (a3.1 _ _ (fun z => by omega)).trans h17
      have head : ∃ tl, (psS (Ch n T) n (f + 1) i).2.2 = cmdS (Ch n T) i :: tl := by
        rw [psS, if_pos ok]
        by_cases z : Ch n T (cmdS (Ch n T) i).2.2.1 = 59
        · rw [if_pos z]; exact ⟨_, rfl⟩
        · rw [if_neg z]; exact ⟨_, rfl⟩
      by_cases hf : fC W (cmdS (Ch n T) i).1 (A0 (cmdS (Ch n T) i)) (A1 (cmdS (Ch n T) i)) (A2 (cmdS (Ch n T) i)) = 0
      · obtain ⟨v2, G2, b1, b2, b3⟩ := m_doesNow (kk := kk) ok7 hW.1 M1 hk a6 a5 hf
        have P2 := PM_17 (v := nI (m + 1)) (PM_M a2 b3)
        have g17 : gi (si G2 (0, 50) 17 (nI (m + 1))) (0, 50) 17 = nI (m + 1) := by rw [gi_si, if_pos ⟨rfl, rfl⟩]
        have start : L_Mo_doesAll kk (k + 2) 1 G = (D_Mo_reads kk (nI 59) (si G2 (0, 50) 17 (nI (m + 1)))).bind (fun r => oI r (fun v16 G13 => (L_Mo_doesAll kk (k + 1)) v16 G13) exc) := by
          refine (show _ = (D_Mo_readsCommand kk G).bind (fun r => oI r (fun v4 G1 => (D_Mo_notNow kk G1).bind (fun r => oI r (fun v8 G5 => if v8 = 0 then (D_Mo_doesNow kk G5).bind (fun r => oI r (fun v12 G9 => (D_Mo_reads kk (59 : Int32) (si G9 (0, 50) 17 ((gi G9 (0, 50) 17) + (1 : Int32)))).bind (fun r => oI r (fun v16 G13 => (L_Mo_doesAll kk (k + 1)) v16 G13) exc)) exc) else okI (0 : Int32) G5) exc)) exc) from rfl).trans ?_
          refine (rI a1).trans ((rI n1).trans ((iT (n2.mpr hf)).trans ((rI b1).trans ?_)))
          rw [b3.1, h171, nI_1]; rfl
        have fr := (a3.d.tr b3.d).tr (FrD_17 (v := nI (m + 1)))
        by_cases z : Ch n T (cmdS (Ch n T) i).2.2.1 = 59
        · have hi := ch_lt hT (i := (cmdS (Ch n T) i).2.2.1) (by omega)
          have e : psS (Ch n T) n (f + 1) i = ((psS (Ch n T) n f ((cmdS (Ch n T) i).2.2.1 + 1)).1, (psS (Ch n T) n f ((cmdS (Ch n T) i).2.2.1 + 1)).2.1, cmdS (Ch n T) i :: (psS (Ch n T) n f ((cmdS (Ch n T) i).2.2.1 + 1)).2.2) := by
            rw [psS, if_pos ok, if_pos z]
          rw [e] at hok ⊢
          have P3 := PM_s P2 (j := (cmdS (Ch n T) i).2.2.1 + 1) hi
          obtain ⟨G', c1, c2, c3, c4⟩ := m_run hT hk f (m + 1) ((cmdS (Ch n T) i).2.2.1 + 1) (k + 1) (N + 1) (opC W (cmdS (Ch n T) i).1 (A0 (cmdS (Ch n T) i)) (A1 (cmdS (Ch n T) i)) (A2 (cmdS (Ch n T) i))) (si (si G2 (0, 50) 17 (nI (m + 1))) (0, 50) 12 (nI ((cmdS (Ch n T) i).2.2.1 + 1))) (by omega) (by omega) (by omega) (WF_op hW ok7 hf) b2 P3 (by rw [gi_si, if_neg (fun z => by cases z.2)]; exact g17) hok
          have er : rnS W m (cmdS (Ch n T) i :: (psS (Ch n T) n f ((cmdS (Ch n T) i).2.2.1 + 1)).2.2) = rnS (opC W (cmdS (Ch n T) i).1 (A0 (cmdS (Ch n T) i)) (A1 (cmdS (Ch n T) i)) (A2 (cmdS (Ch n T) i))) (m + 1) (psS (Ch n T) n f ((cmdS (Ch n T) i).2.2.1 + 1)).2.2 := by
            rw [rnS, if_pos hf]
          show ∃ G', L_Mo_doesAll kk (k + 2) 1 G = okI (if (rnS W m (cmdS (Ch n T) i :: (psS (Ch n T) n f ((cmdS (Ch n T) i).2.2.1 + 1)).2.2)).1 = none then 1 else 0) G' ∧ FrD G G' ∧ gi G' (0, 50) 17 = nI (rn2 m (cmdS (Ch n T) i :: (psS (Ch n T) n f ((cmdS (Ch n T) i).2.2.1 + 1)).2.2) (rnS W m (cmdS (Ch n T) i :: (psS (Ch n T) n f ((cmdS (Ch n T) i).2.2.1 + 1)).2.2)).1) ∧ ((rnS W m (cmdS (Ch n T) i :: (psS (Ch n T) n f ((cmdS (Ch n T) i).2.2.1 + 1)).2.2)).1 = none → AM (rnS W m (cmdS (Ch n T) i :: (psS (Ch n T) n f ((cmdS (Ch n T) i).2.2.1 + 1)).2.2)).2 G')
          rw [er, rn2_s]
          exact ⟨G', start.trans ((rI (m_readsT hT (c := 59) (by decide) P2 z)).trans c1), (fr.tr (FrR.d FrR_s)).tr c2, c3, c4⟩
        · have e : psS (Ch n T) n (f + 1) i = (decide ((cmdS (Ch n T) i).2.2.1 = n), (cmdS (Ch n T) i).2.2.1, [cmdS (Ch n T) i]) := by
            rw [psS, if_pos ok, if_neg z]
          rw [e]
          have er : rnS W m [cmdS (Ch n T) i] = (none, opC W (cmdS (Ch n T) i).1 (A0 (cmdS (Ch n T) i)) (A1 (cmdS (Ch n T) i)) (A2 (cmdS (Ch n T) i))) := by
            rw [rnS, if_pos hf]; rfl
          show ∃ G', L_Mo_doesAll kk (k + 2) 1 G = okI (if (rnS W m [cmdS (Ch n T) i]).1 = none then 1 else 0) G' ∧ FrD G G' ∧ gi G' (0, 50) 17 = nI (rn2 m [cmdS (Ch n T) i] (rnS W m [cmdS (Ch n T) i]).1) ∧ ((rnS W m [cmdS (Ch n T) i]).1 = none → AM (rnS W m [cmdS (Ch n T) i]).2 G')
          rw [er]
          exact ⟨_, start.trans ((rI (m_readsF hT (c := 59) (by decide) P2 z)).trans rfl), fr, g17, fun _ => b2⟩
      · obtain ⟨tl, et⟩ := head
        rw [et]
        have er : rnS W m (cmdS (Ch n T) i :: tl) = (some m, W) := by rw [rnS, if_neg hf]
        rw [er]
        refine ⟨G1, ?_, a3.d, h171, fun y => by cases y⟩
        refine (show _ = (D_Mo_readsCommand kk G).bind (fun r => oI r (fun v4 G1 => (D_Mo_notNow kk G1).bind (fun r => oI r (fun v8 G5 => if v8 = 0 then (D_Mo_doesNow kk G5).bind (fun r => oI r (fun v12 G9 => (D_Mo_reads kk (59 : Int32) (si G9 (0, 50) 17 ((gi G9 (0, 50) 17) + (1 : Int32)))).bind (fun r => oI r (fun v16 G13 => (L_Mo_doesAll kk (k + 1)) v16 G13) exc)) exc) else okI (0 : Int32) G5) exc)) exc) from rfl).trans ?_
        exact (rI a1).trans ((rI n1).trans ((iF (fun y => hf (n2.mp y))).trans rfl))
    · rw [psS, if_neg ok] at hok
      exact absurd hok Bool.false_ne_true
end Ra
