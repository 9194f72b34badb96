/-! BOUNDS, FLOATS -/
theorem sb_le {a b : Nat} (ha : a < 2 ^ 30) (hb : b < 2 ^ 30) : nI a - nI b ≤ 0 ↔ nI a ≤ nI b := by
  rw [Int32.le_iff_toInt_le, pk_sub_toInt ha hb, Int32.toInt_zero, nI_leI (by omega) (by omega)]
  omega
theorem sb_0 {a b : Nat} (ha : a < 2 ^ 30) (hb : b < 2 ^ 30) : nI a - nI b = 0 ↔ nI a = nI b := by
  rw [← Int32.toInt_inj, pk_sub_toInt ha hb, Int32.toInt_zero, nI_eq (by omega) (by omega)]
  omega
theorem sb_lt {a b : Nat} (ha : a < 2 ^ 30) (hb : b < 2 ^ 30) : 0 < nI a - nI b ↔ nI b < nI a := by
  rw [Int32.lt_iff_toInt_lt, pk_sub_toInt ha hb, Int32.toInt_zero, nI_ltI (by omega) (by omega)]
  omega
theorem sm_b {f : Nat → Int32} {M : Nat} : ∀ {n : Nat}, (∀ i, i < n → ∃ q, q ≤ M ∧ f i = nI q) → ∃ m, m ≤ n * M ∧ sm f n = nI m
  | 0, _ => ⟨0, by omega, rfl⟩
  | n + 1, h => by
    obtain ⟨m, hm, e⟩ := sm_b (fun i hi => h i (Nat.lt_succ_of_lt hi))
    obtain ⟨q, hq, e2⟩ := h n (Nat.lt_succ_self n)
    exact ⟨m + q, by rw [Nat.succ_mul]; omega, by rw [sm, e, e2, nI_add]⟩
section Bd
variable {N : Nat} {W : Nat → Int32}
theorem wB_b (h : WF N W) {b : Nat} (hb : b < 7) : ∃ m, m ≤ 100 ∧ wB W b = nI m := by
  obtain ⟨m, hm, e⟩ := sm_b (f := fun p => fW W b p 1) (M := 20) (n := hN W b) (fun p hp => by
    obtain ⟨-, ⟨q, -, h2, h3⟩, -⟩ := h.2.2.2.2.1 b p hb hp
    exact ⟨q, h2, h3⟩)
  have h5 := (h.1 b hb).1
  exact ⟨m, by omega, e⟩
theorem tot_b (h : WF N W) : ∃ m, m ≤ 700 ∧ tot W = nI m := by
  obtain ⟨m, hm, e⟩ := sm_b (f := fun b => wB W b) (M := 100) (n := 7) (fun b hb => wB_b h hb)
  exact ⟨m, by omega, e⟩
theorem cnt_b (h : WF N W) : ∃ m, m ≤ 35 ∧ cnt W = nI m := by
  obtain ⟨m, hm, e⟩ := sm_b (f := fun b => W (9 + b)) (M := 5) (n := 7) (fun b hb => ⟨_, (h.1 b hb).1, (h.1 b hb).2⟩)
  exact ⟨m, by omega, e⟩
theorem wP_b (h : WF N W) (d : Int32) : ∃ m, m ≤ 700 ∧ wP W d = nI m := by
  obtain ⟨m, hm, e⟩ := sm_b (f := fun b => sm (fun p => if fW W b p 2 = d then fW W b p 1 else 0) (hN W b)) (M := 100) (n := 7) (fun b hb => by
    obtain ⟨m, hm, e⟩ := sm_b (f := fun p => if fW W b p 2 = d then fW W b p 1 else 0) (M := 20) (n := hN W b) (fun p hp => by
      obtain ⟨-, ⟨q, -, h2, h3⟩, -⟩ := h.2.2.2.2.1 b p hb hp
      by_cases z : fW W b p 2 = d
      · exact ⟨q, h2, by rw [if_pos z]; exact h3⟩
      · exact ⟨0, by omega, by rw [if_neg z]; rfl⟩)
    have h5 := (h.1 b hb).1
    exact ⟨m, by omega, e⟩)
  exact ⟨m, by omega, e⟩
theorem lev_b {b m : Nat} (hb : b < 7) (hm : m ≤ 100) : -300 ≤ ((nI b - 3) * nI m).toInt ∧ ((nI b - 3) * nI m).toInt ≤ 300 := by
  have key : ∀ b, b < 7 → (3 ≤ b ∧ nI b - 3 = nI (b - 3)) ∨ (b < 3 ∧ nI b - 3 = -nI (3 - b)) := by decide
  rcases key b hb with ⟨h1, h2⟩ | ⟨h1, h2⟩
  · have h3 := Nat.mul_le_mul (show b - 3 ≤ 3 by omega) hm
    rw [h2, pk_mul, nI_toInt (by omega)]
    omega
  · have h3 := Nat.mul_le_mul (show 3 - b ≤ 3 by omega) hm
    rw [h2, Int32.neg_mul, pk_mul, Int32.toInt_neg, nI_toInt (by omega), Int.bmod_eq_of_le (by omega) (by omega)]
    omega
theorem sm_ib {f : Nat → Int32} {M : Nat} : ∀ {n : Nat}, (∀ i, i < n → -(M : Int) ≤ (f i).toInt ∧ (f i).toInt ≤ M) → n * M < 2 ^ 30 → -((n * M : Nat) : Int) ≤ (sm f n).toInt ∧ (sm f n).toInt ≤ ((n * M : Nat) : Int)
  | 0, _, _ => by
    rw [Nat.zero_mul]
    show -((0 : Nat) : Int) ≤ (0 : Int32).toInt ∧ (0 : Int32).toInt ≤ ((0 : Nat) : Int)
    decide
  | n + 1, h, hb => by
    rw [Nat.succ_mul] at hb ⊢
    have h1 := sm_ib (n := n) (fun i hi => h i (Nat.lt_succ_of_lt hi)) (by omega)
    have h2 := h n (Nat.lt_succ_self n)
    rw [sm, Int32.toInt_add, Int.bmod_eq_of_le (by omega) (by omega)]
    omega
theorem mom_w (h : WF N W) : -2100 ≤ (mom W).toInt ∧ (mom W).toInt ≤ 2100 := by
  have := sm_ib (f := fun b => (nI b - 3) * wB W b) (M := 300) (n := 7) (fun b hb => by
    obtain ⟨m, hm, e⟩ := wB_b h hb
    show -300 ≤ ((nI b - 3) * wB W b).toInt ∧ ((nI b - 3) * wB W b).toInt ≤ 300
    rw [e]
    exact lev_b hb hm) (by decide)
  exact this
theorem mom_b (h : WF N W) : -99 ≤ (mom W).toInt ∧ (mom W).toInt ≤ 99 := by
  obtain ⟨l, l1, l2, l3⟩ := h.2.2.1
  have hy := h.2.2.2.1
  unfold byd at hy
  rw [Bool.or_eq_false_iff] at hy
  have h1 := of_decide_eq_false hy.1
  have h2 := of_decide_eq_false hy.2
  rw [Int32.add_zero, l3] at h1 h2
  rw [Int32.lt_iff_toInt_lt, nI_toInt (by omega)] at h1 h2
  have h3 : -(2 ^ 31 : Int) ≤ (mom W).toInt := Int32.le_toInt _
  have h4 : (mom W).toInt ≤ 99 := by omega
  have h5 : (2 ^ 31 : Int) ≠ 0 := by decide
  rw [Int32.toInt_neg] at h2
  by_cases e : (mom W).toInt = -(2 ^ 31 : Int)
  · exfalso
    have := mom_w h
    omega
  · rw [Int.bmod_eq_of_le (by omega) (by omega)] at h2
    exact ⟨by omega, h4⟩
end Bd
theorem bits32 {a : UInt32} (h : FP.fIsNaN a = false) : a &&& 0x7fffffff ≤ 0x7f800000 := by
  have h1 := (FP.Core.ne_nan32 a).mp ((FP.Core.notNaN_iff32 a).mp h)
  rw [UInt32.le_iff_toNat_le, UInt32.toNat_and]
  show a.toNat &&& (2 ^ 31 - 1) ≤ 2139095040
  rw [Nat.and_two_pow_sub_one_eq_mod]
  exact h1
theorem bits64 {a : UInt64} (h : FP.dIsNaN a = false) : a &&& 0x7fffffffffffffff ≤ 0x7ff0000000000000 := by
  have h1 := (FP.Core.ne_nan a).mp ((FP.Core.notNaN_iff a).mp h)
  rw [UInt64.le_iff_toNat_le, UInt64.toNat_and]
  show a.toNat &&& (2 ^ 63 - 1) ≤ 9218868437227405312
  rw [Nat.and_two_pow_sub_one_eq_mod]
  exact h1
theorem f2d_no {a : UInt32} (h : FP.fIsNaN a = false) : FP.dIsNaN (FP.f2d a) = false := by
  have h' : FP.Core.fIsNaN a = false := h
  unfold FP.f2d
  rw [h', if_neg Bool.false_ne_true]
  exact FP.Core.f2d_out h
theorem dself {a : UInt64} (h : FP.dIsNaN a = false) : Op.cmpValue (FP.dcmp a a) .l = 0 := by
  show Op.cmpValue (FP.Core.dcmp a a) .l = 0
  rw [FP.Core.dcmp_self ((FP.Core.notNaN_iff a).mp h)]; rfl
theorem fdiv_no {a : UInt32} {v : Int32} (h : FP.fIsNaN a = false) (hv : v ≠ 0) : FP.fIsNaN (FP.fdiv a (FP.i2f v)) = false :=
  FP.Core.fdiv_out h (FP.Core.i2f_fin v) (fun z => FP.Core.i2f_ne_zero hv ((FP.Core.zero_bits232 _).mp z))
theorem ddiv_no {u v : Int32} (hv : v ≠ 0) : FP.dIsNaN (FP.ddiv (FP.i2d u) (FP.i2d v)) = false :=
  FP.Core.ddiv_out ((FP.Core.notNaN_iff _).mpr (FP.Core.i2d_fin u).ne_nan) (FP.Core.i2d_fin v) (fun z => FP.Core.i2d_ne_zero hv ((FP.Core.zero_bits2 _).mp z))
theorem i2f_no (v : Int32) : FP.fIsNaN (FP.i2f v) = false := (FP.Core.notNaN_iff32 _).mpr (FP.Core.i2f_fin v).ne_nan
theorem fmul_no (v : Int32) : FP.fIsNaN (FP.fmul 1110704128 (FP.i2f v)) = false :=
  FP.Core.fmul_out ((FP.Core.fin_bits32 _).mpr (by decide)) (FP.Core.i2f_fin v)
def EQF (t : Nat) (L : Res) (M : GS → Res) : Prop := ∃ (v : UInt32) (G1 G2 : GS), L = okF v G1 ∧ M G1 = okF v G2 ∧ FP.fIsNaN v = false ∧ Rel (t + 1) G2
def EQD (t : Nat) (L : Res) (M : GS → Res) : Prop := ∃ (k : Int32) (G1 : GS) (b : UInt64) (G2 : GS), L = okI k G1 ∧ M G1 = okD b G2 ∧ gi G2 (0, 50) 0 = k ∧ (k = 0 → gd_ G2 = b ∧ FP.dIsNaN b = false) ∧ Rel (t + 1) G2
def EQS (t : Nat) (L : Res) (M : GS → Res) : Prop := ∃ (k : Int32) (G1 : GS) (b : UInt32) (G2 : GS), L = okI k G1 ∧ M G1 = okF b G2 ∧ gi G2 (0, 50) 0 = k ∧ (k = 0 → gd_ G2 = FP.f2d b ∧ FP.fIsNaN b = false) ∧ Rel (t + 1) G2
section Fl
variable {kk : Nat} {G : GS} {S : SS} {t : Nat}
theorem e_listAngle (hk : 200 ≤ kk) (h : Rel t G) : EQF t (D_PB_listAngle kk G) (fun G => D_Mo_listAngle kk G) := by
  obtain ⟨S, hS, hX, hM⟩ := h
  obtain ⟨m, hm, ht⟩ := tot_b hS.2.1
  have h0 : tot (sW S) + 40 ≠ 0 := by
    rw [ht, show nI m + (40 : Int32) = nI (m + 40) from nI_add m 40]
    exact nI_ne0 (by omega) (by omega)
  have n1 := fmul_no (mom (sW S))
  have n2 := fdiv_no n1 h0
  refine ⟨FP.fdiv (FP.fmul 1110704128 (FP.i2f (mom (sW S)))) (FP.i2f (tot (sW S) + 40)), G, si G (0, 50) 0 0, ?_, ?_, n2, Rel_th hS hX hM⟩
  · exact (rI (c_momentOfPillows hS.2.1.1 hX.1 (by omega))).trans ((rI (c_weightOfAll hS.2.1.1 hX.1 (by omega))).trans ((iT (bits32 n1)).trans (iT (bits32 n2))))
  · have hM1 := RelM_th (v := 0) hM
    exact (rI (m_momentNow hS.2.1.1 hM1.1 (by omega))).trans ((iT (bits32 n1)).trans ((rI (m_weightAll hS.2.1.1 hM1.1 (by omega))).trans (iT (bits32 n2))))
theorem m_isTaken {W : Nat → Int32} (hH : HH W) (hM : AM W G) {s : Nat} (hs : s < 35) : D_Mo_isTaken kk (nI s) G = okI (if tk W s = true then 1 else 0) G := by
  unfold D_Mo_isTaken
  obtain ⟨e1, e2⟩ := ne_dec hs
  have hb : s / 5 < 7 := by omega
  have h5 := (hH _ hb).1
  rw [e2, e1, m_hgt hH hM hb]
  refine (bT (m_hin hb)).trans ?_
  by_cases h : s % 5 < hN W (s / 5)
  · rw [if_neg (nI_ge h (by omega)), if_pos (show tk W s = true from decide_eq_true h)]
  · rw [if_pos (nI_le (Nat.not_lt.mp h) (by omega)), if_neg (show ¬ tk W s = true from fun z => h (of_decide_eq_true z))]
def ages (W : Nat → Int32) (n : Nat) : Int32 := sm (fun s => if tk W s = true then W 0 - fW W (s / 5) (s % 5) 3 else 0) n
theorem c_sumOfAges {W : Nat → Int32} (hH : HH W) (hA : AX W 0 G) (hk : 40 ≤ kk) : D_PB_sumOfAges kk G = okI (ages W 35) G := by
  refine loop_up (fun k a i => L_PB_sumOfAges kk k a i G) (fun i => ages W i) 35 _ (fun _ => rfl) (fun k i hi => ?_) 35 0 kk rfl (by omega)
  refine (iF (nI_ge (b := 35) hi (by decide))).trans ?_
  refine (rI (c_isTaken hH hA hi)).trans ?_
  by_cases h : tk W i = true
  · rw [if_pos h]
    refine (iF (by decide)).trans ?_
    have ha : D_State_ageIn kk 0 (nI i) G = okI (gi G (0, 3) 1 - ga G (0, 9) i) G := rI (c_in hi).2.2.2
    refine (rI ha).trans ?_
    rw [hA.2.2.2.1, show ga G (0, 9) i = fW W (i / 5) (i % 5) 3 from ax_at (k := 3) hA hi (by decide) h, nI_1]
    show L_PB_sumOfAges kk k (ages W i + _) _ G = L_PB_sumOfAges kk k (ages W i + (if tk W i = true then W 0 - fW W (i / 5) (i % 5) 3 else 0)) _ G
    rw [if_pos h]
  · rw [if_neg h]
    refine (iT rfl).trans ?_
    rw [nI_1]
    show _ = L_PB_sumOfAges kk k (ages W i + (if tk W i = true then W 0 - fW W (i / 5) (i % 5) 3 else 0)) _ G
    rw [if_neg h, Int32.add_zero]
theorem m_meanAge {W : Nat → Int32} (hH : HH W) (hM : AM W G) (hk : 40 ≤ kk) (hn : FP.dIsNaN (FP.ddiv (FP.i2d (ages W 35)) (FP.i2d (cnt W))) = false) : L_Mo_meanAge kk kk 0 0 G = okD (FP.ddiv (FP.i2d (ages W 35)) (FP.i2d (cnt W))) G := by
  refine loop_up (fun k a i => L_Mo_meanAge kk k a i G) (fun i => ages W i) 35 _ (fun k => ?_) (fun k i hi => ?_) 35 0 kk rfl (by omega)
  · refine (show _ = (D_Mo_countAll kk G).bind (fun r => oI r (fun v12 G9 => if (FP.ddiv (FP.i2d (ages W 35)) (FP.i2d v12)) &&& 0x7fffffffffffffff ≤ 0x7ff0000000000000 then okD (FP.ddiv (FP.i2d (ages W 35)) (FP.i2d v12)) G9 else none) exc) from rfl).trans ?_
    exact (rI (m_countAll hM hk)).trans (iT (bits64 hn))
  · refine (iF (nI_ge (b := 35) hi (by decide))).trans ?_
    refine (rI (m_isTaken hH hM hi)).trans ?_
    obtain ⟨e1, e2⟩ := ne_dec hi
    by_cases h : tk W i = true
    · have hp : i % 5 < hN W (i / 5) := of_decide_eq_true h
      have h5 := (hH (i / 5) (by omega)).1
      rw [if_pos h]
      refine (iF (by decide)).trans ?_
      rw [e2, e1]
      refine (rI (m_at (k := 3) hM (by omega) (by omega) (by decide))).trans ?_
      rw [hM 0 (by decide), nI_1]
      show L_Mo_meanAge kk k (ages W i + _) _ G = L_Mo_meanAge kk k (ages W i + (if tk W i = true then W 0 - fW W (i / 5) (i % 5) 3 else 0)) _ G
      rw [if_pos h]
    · rw [if_neg h]
      refine (iT rfl).trans ?_
      rw [nI_1]
      show _ = L_Mo_meanAge kk k (ages W i + (if tk W i = true then W 0 - fW W (i / 5) (i % 5) 3 else 0)) _ G
      rw [if_neg h, Int32.add_zero]
theorem e_meanAge (hk : 200 ≤ kk) (h : Rel t G) : EQD t (D_Law_meanAge kk G) (fun G => D_Mo_meanAge kk G) := by
  obtain ⟨S, hS, hX, hM⟩ := h
  have hH := hS.2.1.1
  by_cases h0 : cnt (sW S) = 0
  · have hx : D_PB_meanAge kk G = exc 6 G := by
      refine (rI (c_countPillows hX.1 (by omega))).trans ?_
      exact iT h0
    refine ⟨1, G, FP.i2d 0, si (si G (0, 50) 0 0) (0, 50) 0 1, rDx hx, ?_, th_eq, fun z => absurd z (by decide), Rel_th2 hS hX hM⟩
    exact (rI (m_countAll (RelM_th hM).1 (by omega))).trans ((iT h0).trans (rI rfl))
  · have hn := ddiv_no (u := ages (sW S) 35) h0
    have hx : D_PB_meanAge kk G = okD (FP.ddiv (FP.i2d (ages (sW S) 35)) (FP.i2d (cnt (sW S)))) G := by
      refine (rI (c_countPillows hX.1 (by omega))).trans ?_
      refine (iF h0).trans ?_
      exact (rI (c_sumOfAges hH hX.1 (by omega))).trans (iT (bits64 hn))
    have hM1 : RelM S (si (sd_ G (FP.ddiv (FP.i2d (ages (sW S) 35)) (FP.i2d (cnt (sW S))))) (0, 50) 0 0) := RelM_th (show RelM S (sd_ G _) from hM)
    refine ⟨0, _, _, _, rD hx, (rI (m_countAll hM1.1 (by omega))).trans ((iF h0).trans (m_meanAge hH hM1.1 (by omega) hn)), th_eq, fun _ => ⟨rfl, hn⟩, Rel_th hS (show RelX S (sd_ G _) from hX) (show RelM S (sd_ G _) from hM)⟩
theorem e_capsizedShare (h : Rel t G) : EQS t (D_Law_capsizedShare kk G) (fun G => D_Mo_capsizedShare kk G) := by
  obtain ⟨S, hS, hX, hM⟩ := h
  have x3 := hX.1.2.2.2.2.2.2 3 (by decide)
  have x4 := hX.1.2.2.2.2.2.2 4 (by decide)
  by_cases h0 : sW S 7 = 0
  · have hx : D_PB_capsizedShare kk G = exc 6 G := iT (x3.trans h0)
    refine ⟨1, G, FP.i2f 0, si (si G (0, 50) 0 0) (0, 50) 0 1, rFx hx, ?_, th_eq, fun z => absurd z (by decide), Rel_th2 hS hX hM⟩
    exact (iT (((RelM_th hM).1 7 (by decide)).trans h0)).trans (rI rfl)
  · have hn := fdiv_no (i2f_no (sW S 8)) h0
    have hx : D_PB_capsizedShare kk G = okF (FP.fdiv (FP.i2f (sW S 8)) (FP.i2f (sW S 7))) G := by
      unfold D_PB_capsizedShare
      rw [x3, x4]
      exact (iF h0).trans (iT (bits32 hn))
    have hM1 : RelM S (si (sd_ G (FP.f2d (FP.fdiv (FP.i2f (sW S 8)) (FP.i2f (sW S 7))))) (0, 50) 0 0) := RelM_th (show RelM S (sd_ G _) from hM)
    refine ⟨0, sd_ G (FP.f2d (FP.fdiv (FP.i2f (sW S 8)) (FP.i2f (sW S 7)))), FP.fdiv (FP.i2f (sW S 8)) (FP.i2f (sW S 7)), si (sd_ G (FP.f2d (FP.fdiv (FP.i2f (sW S 8)) (FP.i2f (sW S 7))))) (0, 50) 0 0, (rF hx).trans (iT (bits64 (f2d_no hn))), ?_, th_eq, fun _ => ⟨rfl, hn⟩, Rel_th hS (show RelX S (sd_ G _) from hX) (show RelM S (sd_ G _) from hM)⟩
    show D_Mo_capsizedShare kk (sd_ G _) = _
    unfold D_Mo_capsizedShare
    rw [hM1.1 7 (by decide), hM1.1 8 (by decide)]
    exact (iF h0).trans (iT (bits32 hn))
end Fl
/-! PILLOWS IN THE WAY, COUNTS, THE HEAVIEST PORT -/
/-- legs to a destination -/
def lg (W : Nat → Int32) (d : Int32) : Nat := lgN (W 1).toNatClampNeg (W 2).toNatClampNeg d.toNatClampNeg
/-- how many of the first n in bay b lie above p and go further -/
def aw (W : Nat → Int32) (b p n : Nat) : Int32 := sm (fun i => if p < i ∧ i < hN W b ∧ lg W (fW W b p 2) < lg W (fW W b i 2) then 1 else 0) n
def PWy (W : Nat → Int32) : Int32 := sm (fun b => sm (fun p => aw W b p 5) (hN W b)) 7
/-- counting up to N from i0 -/
theorem loop_from {α : Type} (F : Nat → α → Int32 → Res) (st : Nat → α) (i0 N : Nat) (R : Res) (hend : ∀ k, F (k + 1) (st N) (nI N) = R) (hstep : ∀ k i, i0 ≤ i → i < N → F (k + 1) (st i) (nI i) = F k (st (i + 1)) (nI (i + 1))) : ∀ (n i k : Nat), i0 ≤ i → i + n = N → n < k → F k (st i) (nI i) = R
  | 0, i, k, _, hi, hk => by
    obtain ⟨k, rfl⟩ : ∃ j, k = j + 1 := ⟨k - 1, by omega⟩
    obtain rfl : i = N := by omega
    exact hend k
  | n + 1, i, k, h0, hi, hk => by
    obtain ⟨k, rfl⟩ : ∃ j, k = j + 1 := ⟨k - 1, by omega⟩
    rw [hstep k i h0 (by omega)]
    exact loop_from F st i0 N R hend hstep n (i + 1) k (by omega) (by omega) (by omega)
theorem sm_0 {f : Nat → Int32} {n : Nat} (h : ∀ i, i < n → f i = 0) : sm f n = 0 := (sm_congr h).trans (sm_zero n)
theorem sm_tail {f : Nat → Int32} {m n : Nat} (hmn : m ≤ n) (h : ∀ i, m ≤ i → i < n → f i = 0) : sm f n = sm f m := by
  obtain ⟨d, rfl⟩ : ∃ d, n = m + d := ⟨n - m, by omega⟩
  rw [sm_add, sm_0 (f := fun i => f (m + i)) (fun i hi => h _ (by omega) (by omega)), Int32.add_zero]
theorem sm_plus (f g : Nat → Int32) : ∀ n, sm (fun i => f i + g i) n = sm f n + sm g n
  | 0 => rfl
  | n + 1 => by
    rw [sm, sm, sm, sm_plus f g n, Int32.add_assoc, Int32.add_assoc, ← Int32.add_assoc (sm g n), Int32.add_comm (sm g n), Int32.add_assoc]
theorem sm_swap (f : Nat → Nat → Int32) (m : Nat) : ∀ n, sm (fun x => sm (fun p => f x p) m) n = sm (fun p => sm (fun x => f x p) n) m
  | 0 => (sm_zero m).symm
  | n + 1 => by
    rw [sm, sm_swap f m n, ← sm_plus]
    rfl
theorem sm_one {n l : Nat} {v : Int32} (h : l < n) : sm (fun x => if x = l then v else 0) n = v := by
  have := sm_at (f := fun _ => (0 : Int32)) (g := fun x => if x = l then v else 0) (δ := v) (b := l) h (fun i _ hi => if_neg hi) (by rw [if_pos rfl, Int32.zero_add])
  rw [this, sm_zero, Int32.zero_add]
section Wy
variable {kk : Nat} {G : GS} {S : SS} {t N : Nat} {W : Nat → Int32}
theorem pe_of (hV : VW W) : (W 1).toNatClampNeg < 5 ∧ (W 2).toNatClampNeg < 2 ∧ W 1 = nI (W 1).toNatClampNeg ∧ W 2 = nI (W 2).toNatClampNeg := by
  obtain ⟨p, e, hp, he, h1, h2⟩ := hV
  rw [h1, h2, nI_clamp (by omega), nI_clamp (by omega)]
  exact ⟨hp, he, rfl, rfl⟩
theorem d_of (h : WF N W) {b p : Nat} (hb : b < 7) (hp : p < hN W b) : (fW W b p 2).toNatClampNeg < 5 ∧ fW W b p 2 = nI (fW W b p 2).toNatClampNeg := by
  obtain ⟨-, -, ⟨q, h1, h2⟩, -⟩ := h.2.2.2.2.1 b p hb hp
  rw [h2, nI_clamp (by omega)]
  exact ⟨h1, rfl⟩
theorem lg_lt (h : WF N W) {b p : Nat} (hb : b < 7) (hp : p < hN W b) : lg W (fW W b p 2) < 5 := by
  obtain ⟨a1, a2, -, -⟩ := pe_of h.2.1
  exact (lgN_ok _ a1 _ a2 _ (d_of h hb hp).1).1
theorem c_lg (h : WF N W) (hA : AX W 0 G) {b p : Nat} (hb : b < 7) (hp : p < hN W b) : D_Voyage_countLegsTo kk 0 (fW W b p 2) G = okI (nI (lg W (fW W b p 2))) G := by
  obtain ⟨a1, a2, a3, a4⟩ := pe_of h.2.1
  obtain ⟨d1, d2⟩ := d_of h hb hp
  have := c_legs (kk := kk) hA a1 a2 a3 a4 d1
  rw [← d2] at this
  exact this
theorem m_lg (h : WF N W) (hM : AM W G) (hk : 200 ≤ kk) {b p : Nat} (hb : b < 7) (hp : p < hN W b) : D_Mo_legs kk (fW W b p 2) G = okI (nI (lg W (fW W b p 2))) G := by
  obtain ⟨a1, a2, a3, a4⟩ := pe_of h.2.1
  obtain ⟨d1, d2⟩ := d_of h hb hp
  have := m_legs (kk := kk) hM hk a1 a2 a3 a4 d1
  rw [← d2] at this
  exact this
theorem c_legsIn (h : WF N W) (hA : AX W 0 G) {b p : Nat} (hb : b < 7) (hp : p < hN W b) : D_State_legsIn kk 0 (nI (5 * b + p)) G = okI (nI (lg W (fW W b p 2))) G :=
  (rI (c_at hA hb hp (h.1 b hb).1).2.2.1).trans (rI (c_lg h hA hb hp))
theorem aw_0 {b p : Nat} : aw W b p (p + 1) = 0 := sm_0 (fun i hi => if_neg (fun z => by omega))
theorem aw_h {b p : Nat} (h5 : hN W b ≤ 5) : aw W b p (hN W b) = aw W b p 5 := (sm_tail h5 (fun i h1 _ => if_neg (fun z => by omega))).symm
theorem c_inWay (h : WF N W) (hA : AX W 0 G) (hk : 40 ≤ kk) {b p : Nat} (hb : b < 7) (hp : p < hN W b) : D_PB_countInTheWayOf kk (nI (5 * b + p)) G = okI (aw W b p 5) G := by
  have h5 := (h.1 b hb).1
  obtain ⟨e1, e2⟩ := ne_dec (s := 5 * b + p) (by omega)
  unfold D_PB_countInTheWayOf
  rw [e2, e1, show (5 * b + p) / 5 = b by omega, show (5 * b + p) % 5 = p by omega, nI_1]
  have key := loop_from (fun k a i => L_PB_countInTheWayOf kk k (nI (5 * b + p)) (nI b) a i G) (fun i => aw W b p i) (p + 1) 5 (okI (aw W b p 5) G) (fun _ => rfl) (fun k i h0 hi => ?_) (5 - (p + 1)) (p + 1) kk (Nat.le_refl _) (by omega) (by omega)
  · rw [aw_0] at key
    exact key
  · refine (iF (nI_ge (b := 5) hi (by decide))).trans ?_
    refine (rI (c_slotAt h.1 hA hb hi)).trans ?_
    by_cases q : i < hN W b
    · rw [if_pos q]
      refine (rI (c_isSlot (by omega))).trans ?_
      refine (iF (by decide)).trans ?_
      refine (rI (c_legsIn h hA hb q)).trans ?_
      refine (rI (c_legsIn h hA hb hp)).trans ?_
      have l1 := lg_lt h hb q
      have l2 := lg_lt h hb hp
      by_cases z : lg W (fW W b p 2) < lg W (fW W b i 2)
      · refine (iF (nI_ge z (by omega))).trans ?_
        rw [nI_1]
        show _ = L_PB_countInTheWayOf kk k (nI (5 * b + p)) (nI b) (aw W b p i + (if p < i ∧ i < hN W b ∧ lg W (fW W b p 2) < lg W (fW W b i 2) then 1 else 0)) (nI (i + 1)) G
        rw [if_pos ⟨by omega, q, z⟩]
      · refine (iT (nI_le (Nat.not_lt.mp z) (by omega))).trans ?_
        rw [nI_1]
        show _ = L_PB_countInTheWayOf kk k (nI (5 * b + p)) (nI b) (aw W b p i + (if p < i ∧ i < hN W b ∧ lg W (fW W b p 2) < lg W (fW W b i 2) then 1 else 0)) (nI (i + 1)) G
        rw [if_neg (fun y => z y.2.2), Int32.add_zero]
    · rw [if_neg q]
      refine (rI c_isSlotm).trans ?_
      refine (iT rfl).trans ?_
      rw [nI_1]
      show _ = L_PB_countInTheWayOf kk k (nI (5 * b + p)) (nI b) (aw W b p i + (if p < i ∧ i < hN W b ∧ lg W (fW W b p 2) < lg W (fW W b i 2) then 1 else 0)) (nI (i + 1)) G
      rw [if_neg (fun z => q z.2.1), Int32.add_zero]
theorem m_inWay (h : WF N W) (hM : AM W G) (hk : 200 ≤ kk) {b p : Nat} (hb : b < 7) (hp : p < hN W b) : D_Mo_inTheWay kk (nI b) (nI p) G = okI (aw W b p 5) G := by
  have h5 := (h.1 b hb).1
  refine (rI (m_at (k := 2) hM hb (by omega) (by decide))).trans ?_
  refine (rI (m_lg h hM hk hb hp)).trans ?_
  rw [nI_1]
  have key := loop_from (fun k a i => L_Mo_inTheWay kk k (nI b) (nI (lg W (fW W b p 2))) a i G) (fun i => aw W b p i) (p + 1) (hN W b) (okI (aw W b p 5) G) (fun k => ?_) (fun k i h0 hi => ?_) (hN W b - (p + 1)) (p + 1) kk (Nat.le_refl _) (by omega) (by omega)
  · rw [aw_0] at key
    exact key
  · refine (bT (m_hin hb)).trans ?_
    rw [m_hgt h.1 hM hb, aw_h h5]
    exact iT (nI_le (Nat.le_refl _) (by omega))
  · have l1 := lg_lt h hb hi
    have l2 := lg_lt h hb hp
    refine (bT (m_hin hb)).trans ?_
    rw [m_hgt h.1 hM hb]
    refine (iF (nI_ge hi (by omega))).trans ?_
    refine (rI (m_at (k := 2) hM hb (by omega) (by decide))).trans ?_
    refine (rI (m_lg h hM hk hb hi)).trans ?_
    by_cases z : lg W (fW W b p 2) < lg W (fW W b i 2)
    · refine (iF (nI_ge z (by omega))).trans ?_
      rw [nI_1]
      show _ = L_Mo_inTheWay kk k (nI b) (nI (lg W (fW W b p 2))) (aw W b p i + (if p < i ∧ i < hN W b ∧ lg W (fW W b p 2) < lg W (fW W b i 2) then 1 else 0)) (nI (i + 1)) G
      rw [if_pos ⟨by omega, hi, z⟩]
    · refine (iT (nI_le (Nat.not_lt.mp z) (by omega))).trans ?_
      rw [nI_1]
      show _ = L_Mo_inTheWay kk k (nI b) (nI (lg W (fW W b p 2))) (aw W b p i + (if p < i ∧ i < hN W b ∧ lg W (fW W b p 2) < lg W (fW W b i 2) then 1 else 0)) (nI (i + 1)) G
      rw [if_neg (fun y => z y.2.2)]
theorem e_pillowsInTheWay (hk : 200 ≤ kk) (h : Rel t G) (x : Int32) : EQI t (D_Law_pillowsInTheWay kk x G) (fun G => D_Mo_pillowsInTheWay kk x G) := by
  obtain ⟨S, hS, hX, hM⟩ := h
  have hq := c_reqPillow (kk := kk) hS.2.1.1 hX.1 (by omega) x
  have hp := fun G1 (h1 : RelM S G1) => m_placeOf (kk := kk) hS.2.1.1 h1.1 (by omega) x
  cases hf : fP (sW S) x with
  | none =>
    rw [hf] at hq hp
    refine eqi_x (k := 1) hS hX hM (by decide) (by decide) (rIx (rIx (show D_PB_requirePillow kk x G = exc 3 G from hq))) (fun G1 h1 G0 e => ?_)
    subst e
    exact (rI (show D_Mo_placeOf kk x _ = okI (-1) _ from hp _ h1)).trans ((iF (by decide)).trans (rI rfl))
  | some s =>
    obtain ⟨a1, a2, a3⟩ := fP_ok hf
    obtain ⟨e1, e2⟩ := ne_dec a1
    rw [hf] at hq hp
    have hc := c_inWay (kk := kk) hS.2.1 hX.1 (by omega) a2 a3
    rw [show 5 * (s / 5) + s % 5 = s by omega] at hc
    refine eqi_ok (v := aw (sW S) (s / 5) (s % 5) 5) hS hX hM (rI ((rI (show D_PB_requirePillow kk x G = okI (nI s) G from hq)).trans (rI hc))) (fun G1 h1 _ G0 e => ?_)
    subst e
    refine (rI (show D_Mo_placeOf kk x _ = okI (nI s) _ from hp _ h1)).trans ((iT (nn (by omega))).trans ?_)
    rw [e2, e1]
    exact rI (m_inWay hS.2.1 h1.1 hk a2 a3)
theorem c_pairs (h : WF N W) (hA : AX W 0 G) (hk : 40 ≤ kk) : D_PB_countPairs kk G = okI (PWy W) G := by
  refine (loop_up (fun k a i => L_PB_countPairs kk k a i G) (fun i => sm (fun s => if tk W s = true then aw W (s / 5) (s % 5) 5 else 0) i) 35 (okI (sm (fun s => if tk W s = true then aw W (s / 5) (s % 5) 5 else 0) 35) G) (fun _ => rfl) (fun k i hi => ?_) 35 0 kk rfl (by omega)).trans ?_
  · refine (iF (nI_ge (b := 35) hi (by decide))).trans ?_
    refine (rI (c_isTaken h.1 hA hi)).trans ?_
    by_cases z : tk W i = true
    · rw [if_pos z]
      refine (iF (by decide)).trans ?_
      have hc := c_inWay (kk := kk) h hA hk (b := i / 5) (p := i % 5) (by omega) (of_decide_eq_true z)
      rw [show 5 * (i / 5) + i % 5 = i by omega] at hc
      refine (rI hc).trans ?_
      rw [sm, if_pos z, nI_1]
    · rw [if_neg z]
      refine (iT rfl).trans ?_
      rw [sm, if_neg z, Int32.add_zero, nI_1]
  · rw [sm_slots h.1 (fun b p => aw W b p 5)]; rfl
theorem m_pairs (h : WF N W) (hM : AM W G) (hk : 200 ≤ kk) : (L_Mo_pairsInTheWay kk kk).1 0 0 G = okI (PWy W) G := by
  refine loop_two (fun k a b => (L_Mo_pairsInTheWay kk k).1 a b G) (fun k a b p => (L_Mo_pairsInTheWay kk k).2 a b p G) (fun b p => sm (fun b => sm (fun p => aw W b p 5) (hN W b)) b + sm (fun p => aw W b p 5) p) (fun b => hN W b) 7 5 _ (fun k => ?_) (fun k b hb => ?_) (fun k b p hb hp => ?_) (fun k b hb => ?_) (fun b hb => (h.1 b hb).1) 7 0 kk rfl (by omega)
  · refine (show _ = okI (PWy W + 0) G from rfl).trans ?_
    rw [Int32.add_zero]
  · exact iF (nI_ge (b := 7) hb (by decide))
  · have h5 := (h.1 b hb).1
    refine (bT (m_hin hb)).trans ?_
    rw [m_hgt h.1 hM hb]
    refine (iF (nI_ge hp (by omega))).trans ?_
    refine (rI (m_inWay h hM hk hb hp)).trans ?_
    rw [nI_1, Int32.add_assoc]
    rfl
  · have h5 := (h.1 b hb).1
    refine (bT (m_hin hb)).trans ?_
    rw [m_hgt h.1 hM hb]
    refine (iT (nI_le (Nat.le_refl _) (by omega))).trans ?_
    rw [nI_1, show ∀ f : Nat → Int32, sm f 0 = 0 from fun _ => rfl, Int32.add_zero]; rfl
theorem e_pairsInTheWay (hk : 200 ≤ kk) (h : Rel t G) : EQV t (D_PB_pairsInTheWay kk G) (fun G => D_Mo_pairsInTheWay kk G) := by
  obtain ⟨S, hS, hX, hM⟩ := h
  exact eqv hS hX hM (rI (c_pairs hS.2.1 hX.1 (by omega))) (fun G1 h1 G0 e => by subst e; exact m_pairs hS.2.1 h1.1 hk)
theorem e_unloadableCount (hk : 200 ≤ kk) (h : Rel t G) : EQV t (D_PB_unloadableCount kk G) (fun G => D_Mo_unloadableCount kk G) := by
  obtain ⟨S, hS, hX, hM⟩ := h
  have hH := hS.2.1.1
  refine eqv (v := sm (fun b => if fUnload (sW S) (nI b) = 0 then 1 else 0) 7) hS hX hM ?_ (fun G1 h1 G0 e => ?_)
  · refine loop_up (fun k a i => L_PB_unloadableCount kk k a i G) (fun i => sm (fun b => if fUnload (sW S) (nI b) = 0 then 1 else 0) i) 7 _ (fun _ => rfl) (fun k i hi => ?_) 7 0 kk rfl (by omega)
    refine (iF (nI_ge (b := 7) hi (by decide))).trans ?_
    refine (rI (c_fUnload hH hX.1 hS.2.1.lim0 (by omega) (nI i))).trans ?_
    have hl : fUnload (sW S) (nI i) < 6 := fC_lt (W := sW S) (c := 1) (a1 := nI i) (a2 := 0) (a3 := 0)
    by_cases z : fUnload (sW S) (nI i) = 0
    · rw [sm, if_pos z, z, nI_1]; rfl
    · refine (iF (ml_ne z hl)).trans ?_
      rw [sm, if_neg z, Int32.add_zero, nI_1]
  · subst e
    refine loop_up (fun k a i => L_Mo_unloadableCount kk k a i (si G0 (0, 50) 0 0)) (fun i => sm (fun b => if fUnload (sW S) (nI b) = 0 then 1 else 0) i) 7 _ (fun _ => rfl) (fun k i hi => ?_) 7 0 kk rfl (by omega)
    refine (iF (nI_ge (b := 7) hi (by decide))).trans ?_
    refine (rI (m_fUnload hH h1.1 (by omega) (nI i))).trans ?_
    by_cases z : fUnload (sW S) (nI i) = 0
    · rw [sm, if_pos z, z, nI_1]; rfl
    · have hv : mUnload (fUnload (sW S) (nI i)) ≠ 0 ∧ mUnload (fUnload (sW S) (nI i)) < 6 := by
        revert z
        generalize fUnload (sW S) (nI i) = n
        intro z
        unfold mUnload
        split <;> first | (exact absurd rfl z) | decide
      refine (iF (ml_ne hv.1 hv.2)).trans ?_
      rw [sm, if_neg z, nI_1]
theorem e_possibleShifts (hk : 200 ≤ kk) (h : Rel t G) : EQV t (D_PB_possibleShifts kk G) (fun G => D_Mo_possibleShifts kk G) := by
  obtain ⟨S, hS, hX, hM⟩ := h
  have hH := hS.2.1.1
  have hl : ∀ b d, fShift (sW S) (nI b) (nI d) < 6 := fun b d => fC_lt (W := sW S) (c := 2) (a1 := nI b) (a2 := nI d) (a3 := 0)
  refine eqv (v := sm (fun b => sm (fun d => if fShift (sW S) (nI b) (nI d) = 0 then 1 else 0) 7) 7) hS hX hM ?_ (fun G1 h1 G0 e => ?_)
  · refine loop_two (fun k a b => (L_PB_possibleShifts kk k).1 a b G) (fun k a b p => (L_PB_possibleShifts kk k).2 a b p G) (fun b p => sm (fun b => sm (fun d => if fShift (sW S) (nI b) (nI d) = 0 then 1 else 0) 7) b + sm (fun d => if fShift (sW S) (nI b) (nI d) = 0 then 1 else 0) p) (fun _ => 7) 7 7 _ (fun k => ?_) (fun k b hb => ?_) (fun k b p hb hp => ?_) (fun k b hb => ?_) (fun b hb => Nat.le_refl 7) 7 0 kk rfl (by omega)
    · refine (show _ = okI (sm (fun b => sm (fun d => if fShift (sW S) (nI b) (nI d) = 0 then 1 else 0) 7) 7 + 0) G from rfl).trans ?_
      rw [Int32.add_zero]
    · exact iF (nI_ge (b := 7) hb (by decide))
    · refine (iF (nI_ge (b := 7) hp (by decide))).trans ?_
      refine (rI (c_fShift hH hX.1 hS.2.1.lim0 (by omega) (nI b) (nI p))).trans ?_
      by_cases z : fShift (sW S) (nI b) (nI p) = 0
      · rw [sm, if_pos z, z, nI_1, ← Int32.add_assoc]; rfl
      · refine (iF (ml_ne z (hl b p))).trans ?_
        rw [sm, if_neg z, Int32.add_zero, nI_1]
    · show (L_PB_possibleShifts kk k).1 _ (nI b + 1) G = _
      rw [nI_1, show ∀ f : Nat → Int32, sm f 0 = 0 from fun _ => rfl, Int32.add_zero]; rfl
  · subst e
    refine loop_two (fun k a b => (L_Mo_possibleShifts kk k).1 a b (si G0 (0, 50) 0 0)) (fun k a b p => (L_Mo_possibleShifts kk k).2 a b p (si G0 (0, 50) 0 0)) (fun b p => sm (fun b => sm (fun d => if fShift (sW S) (nI b) (nI d) = 0 then 1 else 0) 7) b + sm (fun d => if fShift (sW S) (nI b) (nI d) = 0 then 1 else 0) p) (fun _ => 7) 7 7 _ (fun k => ?_) (fun k b hb => ?_) (fun k b p hb hp => ?_) (fun k b hb => ?_) (fun b hb => Nat.le_refl 7) 7 0 kk rfl (by omega)
    · refine (show _ = okI (sm (fun b => sm (fun d => if fShift (sW S) (nI b) (nI d) = 0 then 1 else 0) 7) 7 + 0) (si G0 (0, 50) 0 0) from rfl).trans ?_
      rw [Int32.add_zero]
    · exact iF (nI_ge (b := 7) hb (by decide))
    · refine (iF (nI_ge (b := 7) hp (by decide))).trans ?_
      refine (rI (m_fShift hH h1.1 (by omega) (nI b) (nI p))).trans ?_
      by_cases z : fShift (sW S) (nI b) (nI p) = 0
      · rw [sm, if_pos z, z, nI_1, ← Int32.add_assoc]; rfl
      · refine (iF (ml_ne z (hl b p))).trans ?_
        rw [sm, if_neg z, ← Int32.add_assoc, nI_1]
    · show (L_Mo_possibleShifts kk k).1 _ (nI b + 1) (si G0 (0, 50) 0 0) = _
      rw [nI_1, show ∀ f : Nat → Int32, sm f 0 = 0 from fun _ => rfl, Int32.add_zero]; rfl
theorem si_si {r : Rf} {f : Nat} {u v : Int32} : si (si G r f u) r f v = si G r f v := by
  obtain ⟨g1, g2⟩ := G
  unfold si
  refine congrArg (fun z => (z, g2)) ?_
  funext q k
  show (if q = r ∧ k = f then v else (if q = r ∧ k = f then u else g1 q k)) = (if q = r ∧ k = f then v else g1 q k)
  by_cases h : q = r ∧ k = f
  · rw [if_pos h, if_pos h]
  · rw [if_neg h, if_neg h, if_neg h]
/-- the best port after some legs -/
def bst (W : Nat → Int32) : Nat → Int32
  | 0 => W 1
  | n + 1 => if wP W (pB W (nI (n + 1))) ≤ wP W (bst W n) then bst W n else pB W (nI (n + 1))
theorem bst_p (hV : VW W) : ∀ n, n < 100 → ∃ q, q < 5 ∧ bst W n = nI q
  | 0, _ => by
    obtain ⟨p, e, hp, he, h1, h2⟩ := hV
    exact ⟨p, hp, h1⟩
  | n + 1, hn => by
    obtain ⟨q, hq, e1⟩ := bst_p hV n (by omega)
    obtain ⟨p, e, hp, he, h1, h2⟩ := hV
    unfold bst
    by_cases z : wP W (pB W (nI (n + 1))) ≤ wP W (bst W n)
    · rw [if_pos z]; exact ⟨q, hq, e1⟩
    · rw [if_neg z]; exact ⟨_, pN_lt, pB_eq hp he h1 h2 hn⟩
theorem e_heaviestPort (hk : 200 ≤ kk) (h : Rel t G) : EQI t (D_Law_heaviestPort kk G) (fun G => D_Mo_heaviestPort kk G) := by
  obtain ⟨S, hS, hX, hM⟩ := h
  obtain ⟨p, e, hp, he, w1, w2⟩ := hS.2.1.2.1
  have hH := hS.2.1.1
  by_cases h0 : cnt (sW S) = 0
  · have hx : D_PB_heaviestPort kk G = exc 3 G := (rI (c_countPillows hX.1 (by omega))).trans (iT h0)
    refine eqi_x (k := 1) hS hX hM (by decide) (by decide) (rIx hx) (fun G1 h1 G0 e => ?_)
    subst e
    have hM0 : AM (sW S) G0 := h1.1
    refine (rI (m_countAll (kk := kk) hM0 (by omega))).trans ?_
    refine (iT h0).trans ?_
    refine (rI (v := 0) (G := si G0 (0, 50) 0 1) rfl).trans ?_
    rw [si_si]; rfl
  · have hx : D_PB_heaviestPort kk G = okI (bst (sW S) 4) G := by
      refine (rI (c_countPillows hX.1 (by omega))).trans ((iF h0).trans ?_)
      rw [hX.1.2.2.1]
      refine loop_from (fun k x i => L_PB_heaviestPort kk k x i G) (fun i => bst (sW S) (i - 1)) 1 5 _ (fun _ => rfl) (fun k i hi0 hi => ?_) 4 1 (Nat.min kk 8) (by omega) (by omega) (by rw [show Nat.min kk 8 = 8 from Nat.min_eq_right (by omega)]; decide)
      obtain ⟨i, rfl⟩ : ∃ j, i = j + 1 := ⟨i - 1, by omega⟩
      refine (iF (nI_ge (b := 5) hi (by decide))).trans ?_
      refine (rI (c_portIn hX.1 hp he w1 w2 (by omega))).trans ?_
      rw [← pB_eq hp he w1 w2 (by omega)]
      refine (rI (c_weightForPort hH hX.1 (by omega) _)).trans ?_
      refine (rI (c_weightForPort hH hX.1 (by omega) _)).trans ?_
      show _ = L_PB_heaviestPort kk k (if wP (sW S) (pB (sW S) (nI (i + 1))) ≤ wP (sW S) (bst (sW S) i) then bst (sW S) i else pB (sW S) (nI (i + 1))) (nI (i + 1 + 1)) G
      rw [← nI_1 (i + 1)]
      by_cases z : wP (sW S) (pB (sW S) (nI (i + 1))) ≤ wP (sW S) (bst (sW S) i)
      · exact (iT z).trans (by rw [if_pos z]; rfl)
      · exact (iF z).trans (by rw [if_neg z])
    refine eqi_ok (v := bst (sW S) 4) hS hX hM (rI hx) (fun G1 h1 _ G0 e0 => ?_)
    subst e0
    have hM0 : AM (sW S) G0 := h1.1
    refine (rI (m_countAll (kk := kk) hM0 (by omega))).trans ?_
    refine (iF h0).trans ?_
    rw [show ga G0 (0, 51) 1 = sW S 1 from h1.1 1 (by decide)]
    have key := loop_from (fun k (x : Int32 × GS) i => L_Mo_heaviestPort kk k x.1 i x.2) (fun i => (bst (sW S) (i - 1), if i = 1 then G0 else si G0 (0, 50) 0 0)) 1 5 (okI (bst (sW S) 4) (si G0 (0, 50) 0 0)) (fun k => ?_) (fun k i hi0 hi => ?_) 4 1 kk (by omega) (by omega) (by omega)
    · exact key
    · show okI (bst (sW S) 4) (si (si G0 (0, 50) 0 0) (0, 50) 0 0) = _
      rw [si_si]
    · obtain ⟨i, rfl⟩ : ∃ j, i = j + 1 := ⟨i - 1, by omega⟩
      have two : ∀ Ga, (Ga = G0 ∨ Ga = si G0 (0, 50) 0 0) → RelM S (si Ga (0, 50) 0 0) ∧ si Ga (0, 50) 0 0 = si G0 (0, 50) 0 0 := by
        intro Ga hGa
        rcases hGa with rfl | rfl
        · exact ⟨h1, rfl⟩
        · rw [si_si]; exact ⟨h1, rfl⟩
      have step : ∀ Ga, (Ga = G0 ∨ Ga = si G0 (0, 50) 0 0) → L_Mo_heaviestPort kk (k + 1) (bst (sW S) i) (nI (i + 1)) Ga = L_Mo_heaviestPort kk k (bst (sW S) (i + 1)) (nI (i + 1 + 1)) (si G0 (0, 50) 0 0) := by
        intro Ga hGa
        obtain ⟨g1, g2⟩ := two Ga hGa
        obtain ⟨q, hq, eq⟩ := bst_p (W := sW S) ⟨p, e, hp, he, w1, w2⟩ i (by omega)
        refine (iF (nI_ge (b := 5) hi (by decide))).trans ?_
        have gA : AM (sW S) Ga := g1.1
        refine (rI (m_portBehind gA _)).trans ?_
        have eb : pB (sW S) (nI (i + 1)) = nI (pN p e (i + 1)) := pB_eq hp he w1 w2 (by omega)
        rw [eb]
        refine (rI (m_weightFor hS hk g1 pN_lt)).trans ?_
        rw [g2, eq]
        refine (rI (m_weightFor hS hk (G0 := si G0 (0, 50) 0 0) (by rw [si_si]; exact h1) hq)).trans ?_
        rw [si_si, ← eb, ← eq]
        show _ = L_Mo_heaviestPort kk k (if wP (sW S) (pB (sW S) (nI (i + 1))) ≤ wP (sW S) (bst (sW S) i) then bst (sW S) i else pB (sW S) (nI (i + 1))) (nI (i + 1 + 1)) (si G0 (0, 50) 0 0)
        rw [← nI_1 (i + 1)]
        by_cases z : wP (sW S) (pB (sW S) (nI (i + 1))) ≤ wP (sW S) (bst (sW S) i)
        · exact (iT z).trans (by rw [if_pos z])
        · exact (iF z).trans (by rw [if_neg z])
      by_cases z : i + 1 = 1
      · show L_Mo_heaviestPort kk (k + 1) (bst (sW S) i) (nI (i + 1)) (if i + 1 = 1 then G0 else si G0 (0, 50) 0 0) = L_Mo_heaviestPort kk k (bst (sW S) (i + 1)) (nI (i + 1 + 1)) (if i + 1 + 1 = 1 then G0 else si G0 (0, 50) 0 0)
        rw [if_pos z, if_neg (by omega)]
        exact step _ (Or.inl rfl)
      · show L_Mo_heaviestPort kk (k + 1) (bst (sW S) i) (nI (i + 1)) (if i + 1 = 1 then G0 else si G0 (0, 50) 0 0) = L_Mo_heaviestPort kk k (bst (sW S) (i + 1)) (nI (i + 1 + 1)) (if i + 1 + 1 = 1 then G0 else si G0 (0, 50) 0 0)
        rw [if_neg z, if_neg (by omega)]
        exact step _ (Or.inr rfl)
end Wy
/-! PAIRS BY STACKS -/
def Fr17 (G G' : GS) : Prop := (∀ r f, gi G' r f = gi G r f) ∧ (∀ r : Rf, r ≠ (0, 17) → ∀ i, ga G' r i = ga G r i) ∧ G'.2.2 = G.2.2
theorem Fr17.rf {G : GS} : Fr17 G G := ⟨fun _ _ => rfl, fun _ _ _ => rfl, rfl⟩
theorem Fr17.tr {G G1 G2 : GS} (h : Fr17 G G1) (g : Fr17 G1 G2) : Fr17 G G2 := ⟨fun r f => (g.1 r f).trans (h.1 r f), fun r hr i => (g.2.1 r hr i).trans (h.2.1 r hr i), g.2.2.trans h.2.2⟩
theorem Fr17.sa {G : GS} {i : Nat} {v : Int32} : Fr17 G (sa G (0, 17) i v) := ⟨fun _ _ => rfl, fun r hr i' => by rw [ga_sa, if_neg (fun z => hr z.1)], rfl⟩
theorem AX_17 {W : Nat → Int32} {j : Nat} {G G' : GS} (h : AX W j G) (f : Fr17 G G') : AX W j G' := AX_eq h (fun k _ k9 => ⟨fun i => f.1 _ i, fun i => f.2.1 _ (fun z => by have := congrArg Prod.snd z; simp at this; omega) i⟩)
theorem RelX_17 {S : SS} {G G' : GS} (h : RelX S G) (f : Fr17 G G') : RelX S G' := by
  obtain ⟨h1, ⟨a1, a2, nx, a3, a4, a5⟩, hr⟩ := h
  exact ⟨AX_17 h1 f, ⟨(f.1 _ _).trans a1, a2, nx, a3, (f.1 _ _).trans a4, fun i row hi => AX_17 (a5 i row hi) f⟩, RXr_of hr (fun r hr => ⟨fun i => f.1 r i, fun i => f.2.1 r (fun z => by
    subst z
    rcases hr with hr | hr | hr | hr <;> first | (cases hr; done) | exact absurd hr.2.2 (by decide)) i⟩) (congrArg Prod.fst f.2.2)⟩
theorem FrX_17 {G G' : GS} (f : Fr17 G G') : FrX G G' := fun r hr => ⟨fun i => f.1 r i, fun i => f.2.1 r (fun z => by rw [z] at hr; exact absurd hr (by decide)) i⟩
/-- pillows from i upwards in bay b with x legs -/
def cl (W : Nat → Int32) (b i x : Nat) : Int32 := sm (fun p => if i ≤ p ∧ p < hN W b ∧ lg W (fW W b p 2) = x then 1 else 0) 5
section Sk
variable {kk : Nat} {G : GS} {S : SS} {t N : Nat} {W : Nat → Int32}
theorem cl_s {b i x : Nat} (h5 : hN W b ≤ 5) (hi : i < hN W b) : cl W b i x = cl W b (i + 1) x + if lg W (fW W b i 2) = x then 1 else 0 := by
  by_cases z : lg W (fW W b i 2) = x
  · rw [if_pos z]
    refine sm_at (b := i) (by omega) (fun p hp hne => ?_) ?_
    · by_cases q : i + 1 ≤ p
      · by_cases q2 : p < hN W b ∧ lg W (fW W b p 2) = x
        · rw [if_pos ⟨by omega, q2⟩, if_pos ⟨q, q2⟩]
        · rw [if_neg (fun y => q2 y.2), if_neg (fun y => q2 y.2)]
      · rw [if_neg (fun y => by omega), if_neg (fun y => q y.1)]
    · rw [if_pos ⟨Nat.le_refl _, hi, z⟩, if_neg (fun y => by omega)]; rfl
  · rw [if_neg z, Int32.add_zero]
    refine sm_congr (fun p hp => ?_)
    by_cases q : i + 1 ≤ p
    · by_cases q2 : p < hN W b ∧ lg W (fW W b p 2) = x
      · rw [if_pos ⟨by omega, q2⟩, if_pos ⟨q, q2⟩]
      · rw [if_neg (fun y => q2 y.2), if_neg (fun y => q2 y.2)]
    · rw [if_neg (show ¬ (i ≤ p ∧ p < hN W b ∧ lg W (fW W b p 2) = x) from fun y => by
        obtain rfl : p = i := by omega
        exact z y.2.2), if_neg (show ¬ (i + 1 ≤ p ∧ p < hN W b ∧ lg W (fW W b p 2) = x) from fun y => q y.1)]
theorem cl_h {b i x : Nat} (hi : hN W b ≤ i) : cl W b i x = 0 := sm_0 (fun p _ => if_neg (fun z => by omega))
theorem cl_sum (h : WF N W) {b i : Nat} (hb : b < 7) (hi : i < hN W b) : sm (fun x => if lg W (fW W b i 2) < x then cl W b (i + 1) x else 0) 5 = aw W b i 5 := by
  have e1 : sm (fun x => if lg W (fW W b i 2) < x then cl W b (i + 1) x else 0) 5 = sm (fun x => sm (fun p => if lg W (fW W b i 2) < x ∧ i + 1 ≤ p ∧ p < hN W b ∧ lg W (fW W b p 2) = x then 1 else 0) 5) 5 := by
    refine sm_congr (fun x hx => ?_)
    by_cases z : lg W (fW W b i 2) < x
    · rw [if_pos z]
      refine sm_congr (fun p hp => ?_)
      by_cases y : i + 1 ≤ p ∧ p < hN W b ∧ lg W (fW W b p 2) = x
      · rw [if_pos y, if_pos ⟨z, y⟩]
      · rw [if_neg y, if_neg (fun q => y q.2)]
    · rw [if_neg z]
      exact (sm_0 (fun p _ => if_neg (fun y => z y.1))).symm
  rw [e1, sm_swap]
  refine sm_congr (fun p hp => ?_)
  by_cases z : i < p ∧ p < hN W b
  · have hl := lg_lt h hb z.2
    by_cases y : lg W (fW W b i 2) < lg W (fW W b p 2)
    · rw [if_pos ⟨z.1, z.2, y⟩]
      refine (sm_congr (g := fun x => if x = lg W (fW W b p 2) then (1 : Int32) else 0) (fun x hx => ?_)).trans (sm_one hl)
      by_cases q : x = lg W (fW W b p 2)
      · subst q; rw [if_pos rfl, if_pos ⟨y, z.1, z.2, rfl⟩]
      · rw [if_neg q, if_neg (fun r => q r.2.2.2.symm)]
    · rw [if_neg (fun q => y q.2.2)]
      exact sm_0 (fun x _ => if_neg (show ¬ (lg W (fW W b i 2) < x ∧ i + 1 ≤ p ∧ p < hN W b ∧ lg W (fW W b p 2) = x) from fun q => y (by rw [q.2.2.2]; exact q.1)))
  · rw [if_neg (fun q => z ⟨q.1, q.2.1⟩)]
    exact sm_0 (fun x _ => if_neg (show ¬ (lg W (fW W b i 2) < x ∧ i + 1 ≤ p ∧ p < hN W b ∧ lg W (fW W b p 2) = x) from fun q => z ⟨q.2.1, q.2.2.1⟩))
theorem c_see (hk : 40 ≤ kk) {l : Nat} (hl : l < 5) {A : Nat → Int32} (hA : ∀ x, x < 5 → ga G (0, 17) x = A x) : D_PB_seePillow kk (nI l) G = okI (sm (fun x => if l < x then A x else 0) 5) (sa G (0, 17) l (A l + 1)) := by
  refine loop_up (fun k a i => L_PB_seePillow kk k (nI l) a i G) (fun i => sm (fun x => if l < x then A x else 0) i) 5 _ (fun k => ?_) (fun k i hi => ?_) 5 0 kk rfl (by omega)
  · show (D_PB_isPort kk (nI l) G).bind _ = _
    refine (rI (c_isPort hl)).trans ?_
    refine (iF (by decide)).trans ?_
    refine (bT (in_of hl (by decide))).trans ((bT (in_of hl (by decide))).trans ?_)
    rw [nI_clamp (by omega), hA l hl]
  · refine (iF (nI_ge (b := 5) hi (by decide))).trans ?_
    by_cases z : l < i
    · refine (iF (nI_ge z (by omega))).trans ((bT (in_of hi (by decide))).trans ?_)
      rw [nI_clamp (by omega), hA i hi, sm, if_pos z, nI_1]
    · refine (iT (nI_le (Nat.not_lt.mp z) (by omega))).trans ?_
      rw [sm, if_neg z, Int32.add_zero, nI_1]
theorem c_stackL (h : WF N W) (hk : 40 ≤ kk) {b : Nat} (hb : b < 7) : ∀ (n : Nat) (a : Int32) (G : GS) (k : Nat), n ≤ 5 → n < k → AX W 0 G → (∀ x, x < 5 → ga G (0, 17) x = cl W b n x) → ∃ G', (L_PB_countPairsInStack kk k).2 (nI b) a (nI n + (-1)) G = okI (a + sm (fun p => if p < hN W b then aw W b p 5 else 0) n) G' ∧ Fr17 G G'
  | 0, a, G, k, hn, hk2, hA, hc => by
    obtain ⟨k, rfl⟩ : ∃ j, k = j + 1 := ⟨k - 1, by omega⟩
    refine ⟨G, ?_, Fr17.rf⟩
    rw [show sm (fun p => if p < hN W b then aw W b p 5 else 0) 0 = 0 from rfl, Int32.add_zero]
    rfl
  | n + 1, a, G, k, hn, hk2, hA, hc => by
    obtain ⟨k, rfl⟩ : ∃ j, k = j + 1 := ⟨k - 1, by omega⟩
    have h5 := (h.1 b hb).1
    rw [pk_m1]
    by_cases q : n < hN W b
    · have hl := lg_lt h hb q
      obtain ⟨G', g1, g2⟩ := c_stackL h hk hb n (a + aw W b n 5) (sa G (0, 17) (lg W (fW W b n 2)) (cl W b (n + 1) (lg W (fW W b n 2)) + 1)) k (by omega) (by omega) (AX_17 hA Fr17.sa) (fun x hx => by
        rw [ga_sa, cl_s h5 q]
        by_cases e : x = lg W (fW W b n 2)
        · rw [if_pos ⟨rfl, e⟩, e, if_pos rfl]
        · rw [if_neg (fun z => e z.2), hc x hx, if_neg (fun z => e z.symm), Int32.add_zero])
      refine ⟨G', ?_, Fr17.sa.tr g2⟩
      refine (iF (nI_pos (by omega))).trans ?_
      refine (rI (c_slotAt h.1 hA hb (by omega))).trans ?_
      rw [if_pos q]
      refine (rI (c_isSlot (by omega))).trans ((iF (by decide)).trans ?_)
      refine (rI (c_legsIn h hA hb q)).trans ?_
      refine (rI (c_see hk hl hc)).trans ?_
      rw [cl_sum h hb q]
      show (L_PB_countPairsInStack kk k).2 (nI b) (a + aw W b n 5) (nI n + (-1)) _ = _
      rw [g1, sm, if_pos q, Int32.add_assoc, Int32.add_comm (aw W b n 5)]
    · obtain ⟨G', g1, g2⟩ := c_stackL h hk hb n a G k (by omega) (by omega) hA (fun x hx => by rw [hc x hx, cl_h (by omega), cl_h (by omega)])
      refine ⟨G', ?_, g2⟩
      refine (iF (nI_pos (by omega))).trans ?_
      refine (rI (c_slotAt h.1 hA hb (by omega))).trans ?_
      rw [if_neg q]
      refine (rI c_isSlotm).trans ((iT rfl).trans ?_)
      show (L_PB_countPairsInStack kk k).2 (nI b) a (nI n + (-1)) _ = _
      rw [g1, sm, if_neg q, Int32.add_zero]
theorem c_stack (h : WF N W) (hk : 40 ≤ kk) (hA : AX W 0 G) {b : Nat} (hb : b < 7) : ∃ G', D_PB_countPairsInStack kk (nI b) G = okI (sm (fun p => aw W b p 5) (hN W b)) G' ∧ Fr17 G G' := by
  obtain ⟨k, rfl⟩ : ∃ k, kk = k + 6 := ⟨kk - 6, by omega⟩
  have h5 := (h.1 b hb).1
  obtain ⟨G', g1, g2⟩ := c_stackL (kk := k + 6) h hk hb 5 0 (sa (sa (sa (sa (sa G (0, 17) 0 0) (0, 17) 1 0) (0, 17) 2 0) (0, 17) 3 0) (0, 17) 4 0) k (Nat.le_refl _) (by omega) (AX_17 hA ((((Fr17.sa.tr Fr17.sa).tr Fr17.sa).tr Fr17.sa).tr Fr17.sa)) (fun x hx => by
    rw [cl_h h5]
    match x, hx with
    | 0, _ => rfl
    | 1, _ => rfl
    | 2, _ => rfl
    | 3, _ => rfl
    | 4, _ => rfl)
  refine ⟨G', ?_, ((((Fr17.sa.tr Fr17.sa).tr Fr17.sa).tr Fr17.sa).tr Fr17.sa).tr g2⟩
  rw [Int32.zero_add, sm_cut _ h5] at g1
  exact g1
theorem c_byStacks (h : WF N W) (hk : 40 ≤ kk) (hA : AX W 0 G) : ∃ G', D_PB_countPairsByStacks kk G = okI (PWy W) G' ∧ Fr17 G G' := by
  have key : ∀ n i k (G : GS), i + n = 7 → n < k → AX W 0 G → ∃ G', L_PB_countPairsByStacks kk k (sm (fun b => sm (fun p => aw W b p 5) (hN W b)) i) (nI i) G = okI (PWy W) G' ∧ Fr17 G G' := by
    intro n
    induction n with
    | zero =>
      intro i k G hi hk2 hA
      obtain ⟨k, rfl⟩ : ∃ j, k = j + 1 := ⟨k - 1, by omega⟩
      obtain rfl : i = 7 := by omega
      exact ⟨G, rfl, Fr17.rf⟩
    | succ n ih =>
      intro i k G hi hk2 hA
      obtain ⟨k, rfl⟩ : ∃ j, k = j + 1 := ⟨k - 1, by omega⟩
      obtain ⟨G1, a1, a2⟩ := c_stack h hk hA (b := i) (by omega)
      obtain ⟨G2, b1, b2⟩ := ih (i + 1) k G1 (by omega) (by omega) (AX_17 hA a2)
      refine ⟨G2, ?_, a2.tr b2⟩
      refine (iF (nI_ge (b := 7) (by omega) (by decide))).trans ((rI a1).trans ?_)
      rw [nI_1]
      exact b1
  exact key 7 0 kk G rfl (by omega) hA
theorem e_pairsByStacks (hk : 200 ≤ kk) (h : Rel t G) : EQV t (D_PB_pairsInTheWayByStacks kk G) (fun G => D_Mo_pairsInTheWayByStacks kk G) := by
  obtain ⟨S, hS, hX, hM⟩ := h
  obtain ⟨G1, g1, g2⟩ := c_byStacks (kk := kk) hS.2.1 (by omega) hX.1
  have hM1 : RelM S (si G1 (0, 50) 0 0) := RelM_th (RelM_fr hM (FrX_17 g2))
  exact ⟨PWy (sW S), G1, si G1 (0, 50) 0 0, rI g1, rI (m_pairs hS.2.1 hM1.1 hk), Rel_th hS (RelX_17 hX g2) (RelM_fr hM (FrX_17 g2))⟩
theorem e_isConsistent (hk : 200 ≤ kk) (h : Rel t G) : EQV t (D_PB_isConsistent kk G) (fun G => D_Mo_isConsistent kk G) := by
  obtain ⟨S, hS, hX, hM⟩ := h
  have hH := hS.2.1.1
  have hy := hS.2.1.2.2.2.1
  obtain ⟨G1, g1, g2⟩ := c_byStacks (kk := kk) hS.2.1 (by omega) hX.1
  have hX1 := RelX_17 hX g2
  have hM1 : RelM S (si G1 (0, 50) 0 0) := RelM_th (RelM_fr hM (FrX_17 g2))
  refine ⟨if sW S 4 = sW S 5 + cnt (sW S) then 1 else 0, G1, si G1 (0, 50) 0 0, ?_, ?_, Rel_th hS hX1 (RelM_fr hM (FrX_17 g2))⟩
  · refine (rI (c_momentOfPillows hH hX.1 (by omega))).trans ((rI (c_momentOfBays hH hX.1 (by omega))).trans ((iT rfl).trans ?_))
    refine (rI (c_pairs hS.2.1 hX.1 (by omega))).trans ((rI g1).trans ((iT rfl).trans ?_))
    have hw := c_within (kk := kk) hX1.1 hS.2.1.lim0 0
    rw [Int32.add_zero, hy, if_neg Bool.false_ne_true] at hw
    refine (rI hw).trans ((iF (by decide)).trans ?_)
    refine (rI (c_countPillows hX1.1 (by omega))).trans ?_
    rw [hX1.1.2.2.2.2.2.2 0 (by decide), hX1.1.2.2.2.2.2.2 1 (by decide)]
    by_cases z : sW S 4 = sW S 5 + cnt (sW S)
    · refine (iT z).trans ?_; rw [if_pos z]
    · refine (iF z).trans ?_; rw [if_neg z]
  · have hb := m_isBeyond (kk := kk) hH hM1.1 (by omega) 0
    rw [hy, if_neg Bool.false_ne_true] at hb
    refine (rI hb).trans ((iT rfl).trans ((rI (m_countAll hM1.1 (by omega))).trans ?_))
    rw [hM1.1 4 (by decide), hM1.1 5 (by decide)]
    by_cases z : sW S 4 = sW S 5 + cnt (sW S)
    · refine (iT z).trans ?_; rw [if_pos z]
    · refine (iF z).trans ?_; rw [if_neg z]
end Sk
/-! THE OLDEST, THE TURNS, THE HEAVIER BAYS, THE LEVELING BAY -/
def dy (W : Nat → Int32) (s : Nat) : Int32 := fW W (s / 5) (s % 5) 3
def nu (W : Nat → Int32) (s : Nat) : Int32 := fW W (s / 5) (s % 5) 0
/-- pillow u is older than pillow s -/
def old (W : Nat → Int32) (u s : Nat) : Bool := decide (dy W u < dy W s) || (decide (dy W u = dy W s) && decide (nu W u < nu W s))
section Sk2
variable {kk : Nat} {G : GS} {S : SS} {t N : Nat} {W : Nat → Int32}
theorem dy_b (h : WF N W) (hNN : N ≤ 600) {s : Nat} (hs : s < 35) (ht : tk W s = true) : ∃ q, q ≤ 12000 ∧ dy W s = nI q := by
  obtain ⟨-, -, -, q, h1, h2⟩ := h.2.2.2.2.1 (s / 5) (s % 5) (by omega) (of_decide_eq_true ht)
  exact ⟨q, by omega, h2⟩
theorem sub_eq (a b c : Int32) : a - b = a - c ↔ b = c := by
  constructor
  · intro h
    rw [Int32.sub_eq_add_neg, Int32.sub_eq_add_neg] at h
    exact Int32.neg_inj.mp ((Int32.add_right_inj a).mp h)
  · intro h; rw [h]
theorem c_age (hA : AX W 0 G) {s : Nat} (hs : s < 35) (ht : tk W s = true) : D_State_ageIn kk 0 (nI s) G = okI (W 0 - dy W s) G := by
  refine (rI (c_in hs).2.2.2).trans ?_
  rw [hA.2.2.2.1, show ga G (0, 9) s = dy W s from ax_at (k := 3) hA hs (by decide) ht]
theorem c_num (hA : AX W 0 G) {s : Nat} (hs : s < 35) (ht : tk W s = true) : D_Cargo_numberIn kk 0 (nI s) G = okI (nu W s) G := by
  rw [(c_in hs).1, show ga G (0, 6) s = nu W s from ax_at (k := 0) hA hs (by decide) ht]
theorem c_older (h : WF N W) (hNN : N ≤ 600) (hA : AX W 0 G) {u s : Nat} (hu : u < 35) (hs : s < 35) (tu : tk W u = true) (ts : tk W s = true) : D_PB_isOlder kk (nI u) (nI s) G = okI (if old W u s = true then 1 else 0) G := by
  obtain ⟨a, ha, ea⟩ := dy_b h hNN hu tu
  obtain ⟨b, hb, eb⟩ := dy_b h hNN hs ts
  obtain ⟨t0, h1, h2⟩ := h.2.2.2.2.2.1
  refine (rI (c_age hA hu tu)).trans ((rI (c_age hA hs ts)).trans ?_)
  unfold old
  by_cases z : dy W u = dy W s
  · rw [z]
    refine (iT rfl).trans ((rI (c_num hA hu tu)).trans ((rI (c_num hA hs ts)).trans ?_))
    by_cases y : nu W s ≤ nu W u
    · refine (iT y).trans ?_
      rw [decide_eq_false (show ¬ dy W s < dy W s from fun q => absurd q (Int32.lt_irrefl)), decide_eq_true rfl, decide_eq_false (Int32.not_lt.mpr y)]; rfl
    · refine (iF y).trans ?_
      rw [decide_eq_false (show ¬ dy W s < dy W s from fun q => absurd q (Int32.lt_irrefl)), decide_eq_true rfl, decide_eq_true (Int32.not_le.mp y)]; rfl
  · refine (iF (fun q => z ((sub_eq _ _ _).mp q))).trans ?_
    rw [decide_eq_false z, Bool.false_and, Bool.or_false, h2, ea, eb]
    rw [ea, eb, nI_eq (by omega) (by omega)] at z
    by_cases y : a < b
    · refine (iF (fun q => ?_)).trans ?_
      · rw [Int32.le_iff_toInt_le, pk_sub_toInt (by omega) (by omega), pk_sub_toInt (by omega) (by omega)] at q
        omega
      · rw [decide_eq_true (nI_lt y (by omega))]; rfl
    · refine (iT ?_).trans ?_
      · rw [Int32.le_iff_toInt_le, pk_sub_toInt (by omega) (by omega), pk_sub_toInt (by omega) (by omega)]
        omega
      · rw [decide_eq_false (nI_nlt (by omega) (by omega))]; rfl
/-- the oldest of the first n + 1 in bay b -/
def od (W : Nat → Int32) (b : Nat) : Nat → Nat
  | 0 => 0
  | n + 1 => if old W (5 * b + (n + 1)) (5 * b + od W b n) = true then n + 1 else od W b n
theorem od_le (b : Nat) : ∀ n, od W b n ≤ n
  | 0 => Nat.le_refl 0
  | n + 1 => by
    have := od_le b n
    unfold od
    split <;> omega
theorem tk_of {b p : Nat} (hp : p < 5) (h : p < hN W b) : tk W (5 * b + p) = true := by
  rw [tk_bp hp]; exact decide_eq_true h
theorem c_oldest (h : WF N W) (hNN : N ≤ 600) (hA : AX W 0 G) (hk : 40 ≤ kk) {b : Nat} (hb : b < 7) : D_PB_oldestSlotIn kk (nI b) G = okI (if hN W b = 0 then -1 else nI (5 * b + od W b (hN W b - 1))) G := by
  have h5 := (h.1 b hb).1
  refine loop_up (fun k a i => L_PB_oldestSlotIn kk k (nI b) a i G) (fun i => if min i (hN W b) = 0 then -1 else nI (5 * b + od W b (min i (hN W b) - 1))) 5 _ (fun _ => ?_) (fun k i hi => ?_) 5 0 kk rfl (by omega)
  · rw [Nat.min_eq_right h5]; rfl
  · refine (iF (nI_ge (b := 5) hi (by decide))).trans ?_
    refine (rI (c_slotAt h.1 hA hb hi)).trans ?_
    by_cases q : i < hN W b
    · rw [if_pos q, Nat.min_eq_left (Nat.le_of_lt q), Nat.min_eq_left q]
      refine (rI (c_isSlot (by omega))).trans ((iF (by decide)).trans ?_)
      cases i with
      | zero => rfl
      | succ i =>
        rw [if_neg (Nat.succ_ne_zero i), if_neg (Nat.succ_ne_zero _)]
        have ho := od_le (W := W) b i
        refine (iF (fun z => ?_)).trans ?_
        · exact absurd (nI_pos (n := 5 * b + od W b (i + 1 - 1)) (by rw [Nat.add_sub_cancel]; omega)) (by rw [z]; decide)
        · rw [Nat.add_sub_cancel]
          refine (rI (c_older h hNN hA (by omega) (by omega) (tk_of hi q) (tk_of (by omega) (by omega)))).trans ?_
          show _ = L_PB_oldestSlotIn kk k (nI b) (nI (5 * b + if old W (5 * b + (i + 1)) (5 * b + od W b i) = true then i + 1 else od W b i)) (nI (i + 1 + 1)) G
          rw [← nI_1 (i + 1)]
          by_cases z : old W (5 * b + (i + 1)) (5 * b + od W b i) = true
          · rw [if_pos z, if_pos z]; rfl
          · rw [if_neg z, if_neg z]; rfl
    · rw [if_neg q]
      refine (rI c_isSlotm).trans ((iT rfl).trans ?_)
      rw [nI_1, Nat.min_eq_right (by omega), Nat.min_eq_right (by omega)]
theorem m_oldest (h : WF N W) (hNN : N ≤ 600) (hM : AM W G) (hk : 40 ≤ kk) {b : Nat} (hb : b < 7) (h0 : 0 < hN W b) : L_Mo_oldestIn kk kk (nI b) 0 1 G = okI (nu W (5 * b + od W b (hN W b - 1))) G := by
  have h5 := (h.1 b hb).1
  refine loop_from (fun k x i => L_Mo_oldestIn kk k (nI b) x i G) (fun i => nI (od W b (i - 1))) 1 (hN W b) _ (fun k => ?_) (fun k i h0 hi => ?_) (hN W b - 1) 1 kk (Nat.le_refl 1) (by omega) (by omega)
  · have ho := od_le (W := W) b (hN W b - 1)
    refine (bT (m_hin hb)).trans ?_
    rw [m_hgt h.1 hM hb]
    refine (iT (nI_le (Nat.le_refl _) (by omega))).trans ?_
    refine (rI (m_at (k := 0) hM hb (by omega) (by decide))).trans ?_
    unfold nu
    rw [show (5 * b + od W b (hN W b - 1)) / 5 = b by omega, show (5 * b + od W b (hN W b - 1)) % 5 = od W b (hN W b - 1) by omega]
  · obtain ⟨i, rfl⟩ : ∃ j, i = j + 1 := ⟨i - 1, by omega⟩
    have ho := od_le (W := W) b i
    rw [Nat.add_sub_cancel, Nat.add_sub_cancel]
    have ti := tk_of (W := W) (b := b) (p := i + 1) (by omega) hi
    have to := tk_of (W := W) (b := b) (p := od W b i) (by omega) (by omega)
    obtain ⟨x, hx, ex⟩ := dy_b h hNN (s := 5 * b + (i + 1)) (by omega) ti
    obtain ⟨y, hy, ey⟩ := dy_b h hNN (s := 5 * b + od W b i) (by omega) to
    have f3 : ∀ p, p < 5 → fW W b p 3 = dy W (5 * b + p) := fun p hp => by
      unfold dy
      rw [show (5 * b + p) / 5 = b by omega, show (5 * b + p) % 5 = p by omega]
    have f0 : ∀ p, p < 5 → fW W b p 0 = nu W (5 * b + p) := fun p hp => by
      unfold nu
      rw [show (5 * b + p) / 5 = b by omega, show (5 * b + p) % 5 = p by omega]
    refine (bT (m_hin hb)).trans ?_
    rw [m_hgt h.1 hM hb]
    refine (iF (nI_ge hi (by omega))).trans ?_
    refine (rI (m_at (k := 3) hM hb (by omega) (by decide))).trans ?_
    refine (rI (m_at (k := 3) hM hb (by omega) (by decide))).trans ?_
    rw [f3 _ (by omega), f3 _ (by omega), ex, ey]
    have eo : old W (5 * b + (i + 1)) (5 * b + od W b i) = (decide (nI x < nI y) || (decide (nI x = nI y) && decide (nu W (5 * b + (i + 1)) < nu W (5 * b + od W b i)))) := by
      unfold old
      rw [ex, ey]
    show _ = L_Mo_oldestIn kk k (nI b) (nI (if old W (5 * b + (i + 1)) (5 * b + od W b i) = true then i + 1 else od W b i)) (nI (i + 1 + 1)) G
    rw [eo, ← nI_1 (i + 1)]
    by_cases z : x < y
    · refine (iT ((sb_lt (by omega) (by omega)).mpr (nI_lt z (by omega)))).trans ?_
      rw [decide_eq_true (nI_lt z (by omega)), Bool.true_or, if_pos rfl]
    · refine (iF (fun q => z ((nI_ltI (by omega) (by omega)).mp ((sb_lt (by omega) (by omega)).mp q)))).trans ?_
      rw [decide_eq_false (nI_nlt (by omega) (by omega)), Bool.false_or]
      by_cases w : x = y
      · refine (iT ((sb_0 (by omega) (by omega)).mpr (by rw [w]))).trans ?_
        refine (rI (m_at (k := 0) hM hb (by omega) (by decide))).trans ?_
        refine (rI (m_at (k := 0) hM hb (by omega) (by decide))).trans ?_
        rw [f0 _ (by omega), f0 _ (by omega), w, decide_eq_true rfl, Bool.true_and]
        by_cases v : nu W (5 * b + od W b i) ≤ nu W (5 * b + (i + 1))
        · refine (iT v).trans ?_
          rw [decide_eq_false (Int32.not_lt.mpr v), if_neg Bool.false_ne_true]
        · refine (iF v).trans ?_
          rw [decide_eq_true (Int32.not_le.mp v), if_pos rfl]
      · refine (iF (fun q => w ((nI_eq (by omega) (by omega)).mp ((sb_0 (by omega) (by omega)).mp q)).symm)).trans ?_
        rw [decide_eq_false (fun q => w ((nI_eq (by omega) (by omega)).mp q)), Bool.false_and, if_neg Bool.false_ne_true]
theorem e_oldestIn (hk : 200 ≤ kk) (ht : t ≤ 600) (h : Rel t G) (a : Int32) : EQI t (D_Law_oldestIn kk a G) (fun G => D_Mo_oldestIn kk a G) := by
  obtain ⟨S, hS, hX, hM⟩ := h
  have hNN : sN S ≤ 600 := by have := hS.1; omega
  rcases bayc a with hb | ⟨b, hb, rfl⟩
  · exact eqi_x (k := 1) hS hX hM (by decide) (by decide) (rIx (rVx (c_reqBayx hb))) (fun G1 h1 G0 e => by subst e; exact (rI (m_isBayx hb)).trans ((iT rfl).trans (rI rfl)))
  · have h5 := (hS.2.1.1 b hb).1
    have ho := c_oldest (kk := kk) hS.2.1 hNN hX.1 (by omega) hb
    by_cases h0 : hN (sW S) b = 0
    · rw [if_pos h0] at ho
      have hx : D_PB_oldestIn kk (nI b) G = exc 3 G := (rV (c_reqBay hb)).trans ((rI ho).trans (rVx c_reqSlotm))
      refine eqi_x (k := 2) hS hX hM (by decide) (by decide) (rIx hx) (fun G1 h1 G0 e => ?_)
      subst e
      refine (rI (m_isBay hb)).trans ((iF (by decide)).trans ((bT (m_hin hb)).trans ?_))
      rw [m_hgt hS.2.1.1 h1.1 hb, h0]
      exact (iT rfl).trans (rI rfl)
    · rw [if_neg h0] at ho
      have hl := od_le (W := sW S) b (hN (sW S) b - 1)
      have hx : D_PB_oldestIn kk (nI b) G = okI (nu (sW S) (5 * b + od (sW S) b (hN (sW S) b - 1))) G :=
        (rV (c_reqBay hb)).trans ((rI ho).trans ((rV (c_reqSlot (by omega))).trans (rI (c_num hX.1 (by omega) (tk_of (by omega) (by omega))))))
      refine eqi_ok hS hX hM (rI hx) (fun G1 h1 _ G0 e => ?_)
      subst e
      refine (rI (m_isBay hb)).trans ((iF (by decide)).trans ((bT (m_hin hb)).trans ?_))
      rw [m_hgt hS.2.1.1 h1.1 hb]
      refine (iF (nI_ne0 (by omega) (by omega))).trans ?_
      exact m_oldest hS.2.1 hNN h1.1 (by omega) hb (by omega)
end Sk2
section Sk3
variable {kk : Nat} {G : GS} {S : SS} {t N : Nat} {W : Nat → Int32}
def lgs (W : Nat → Int32) (s : Nat) : Nat := lg W (fW W (s / 5) (s % 5) 2)
/-- pillow u has its turn before pillow s -/
def ahd (W : Nat → Int32) (u s : Nat) : Bool := decide (lgs W u < lgs W s) || (decide (lgs W u = lgs W s) && old W u s)
def ctA (W : Nat → Int32) (s n : Nat) : Int32 := sm (fun u => if tk W u = true ∧ ahd W u s = true then 1 else 0) n
theorem c_lgs (h : WF N W) (hA : AX W 0 G) {s : Nat} (hs : s < 35) (ht : tk W s = true) : D_State_legsIn kk 0 (nI s) G = okI (nI (lgs W s)) G := by
  have := c_legsIn (kk := kk) h hA (b := s / 5) (p := s % 5) (by omega) (of_decide_eq_true ht)
  rw [show 5 * (s / 5) + s % 5 = s by omega] at this
  exact this
theorem lgs_lt (h : WF N W) {s : Nat} (hs : s < 35) (ht : tk W s = true) : lgs W s < 5 := lg_lt h (by omega) (of_decide_eq_true ht)
theorem c_ahead (h : WF N W) (hNN : N ≤ 600) (hA : AX W 0 G) {u s : Nat} (hu : u < 35) (hs : s < 35) (tu : tk W u = true) (ts : tk W s = true) : D_PB_hasEarlierTurn kk (nI u) (nI s) G = okI (if ahd W u s = true then 1 else 0) G := by
  have l1 := lgs_lt h hu tu
  have l2 := lgs_lt h hs ts
  refine (rI (c_lgs h hA hu tu)).trans ((rI (c_lgs h hA hs ts)).trans ?_)
  unfold ahd
  by_cases z : lgs W u = lgs W s
  · refine (iT (by rw [z])).trans ((rI (c_older h hNN hA hu hs tu ts)).trans ?_)
    rw [z, decide_eq_false (Nat.lt_irrefl _), decide_eq_true rfl, Bool.false_or, Bool.true_and]
    by_cases y : old W u s = true
    · rw [if_pos y]; exact iT (Or.inr rfl)
    · rw [if_neg y]; exact iT (Or.inl rfl)
  · refine (iF (fun q => z ((nI_eq (by omega) (by omega)).mp q))).trans ?_
    rw [decide_eq_false z, Bool.false_and, Bool.or_false]
    by_cases y : lgs W u < lgs W s
    · refine (iF (nI_ge y (by omega))).trans ?_
      rw [decide_eq_true y, if_pos rfl]
    · refine (iT (nI_le (by omega) (by omega))).trans ?_
      rw [decide_eq_false y, if_neg Bool.false_ne_true]
theorem m_ahead (h : WF N W) (hNN : N ≤ 600) (hM : AM W G) (hk : 200 ≤ kk) {u s : Nat} (hu : u < 35) (hs : s < 35) (tu : tk W u = true) (ts : tk W s = true) : D_Mo_isAhead kk (nI u) (nI s) G = okI (if ahd W u s = true then 1 else 0) G := by
  have l1 := lgs_lt h hu tu
  have l2 := lgs_lt h hs ts
  have pu : u % 5 < hN W (u / 5) := of_decide_eq_true tu
  have ps : s % 5 < hN W (s / 5) := of_decide_eq_true ts
  obtain ⟨u1, u2⟩ := ne_dec hu
  obtain ⟨s1, s2⟩ := ne_dec hs
  obtain ⟨x, hx, ex⟩ := dy_b h hNN hu tu
  obtain ⟨y, hy, ey⟩ := dy_b h hNN hs ts
  have hub : u / 5 < 7 := by omega
  have hsb : s / 5 < 7 := by omega
  have hup : u % 5 < 5 := by omega
  have hsp : s % 5 < 5 := by omega
  unfold D_Mo_isAhead
  rw [u2, s2, u1, s1]
  refine (rI (m_at (k := 2) hM hsb hsp (by decide))).trans ((rI (m_lg h hM hk hsb ps)).trans ?_)
  refine (rI (m_at (k := 2) hM hub hup (by decide))).trans ((rI (m_lg h hM hk hub pu)).trans ?_)
  refine (rI (m_at (k := 3) hM hsb hsp (by decide))).trans ((rI (m_at (k := 3) hM hub hup (by decide))).trans ?_)
  show (if nI (lgs W s) - nI (lgs W u) = 0 then (if dy W s - dy W u = 0 then _ else if dy W s - dy W u ≤ 0 then okI 0 G else okI 1 G) else if nI (lgs W s) - nI (lgs W u) ≤ 0 then okI 0 G else okI 1 G) = _
  unfold ahd
  by_cases z : lgs W u = lgs W s
  · refine (iT ((sb_0 (by omega) (by omega)).mpr (by rw [z]))).trans ?_
    rw [z, decide_eq_false (Nat.lt_irrefl _), decide_eq_true rfl, Bool.false_or, Bool.true_and]
    unfold old
    rw [ex, ey]
    by_cases w : x = y
    · refine (iT ((sb_0 (by omega) (by omega)).mpr (by rw [w]))).trans ?_
      refine (rI (m_at (k := 0) hM hub hup (by decide))).trans ((rI (m_at (k := 0) hM hsb hsp (by decide))).trans ?_)
      rw [w, decide_eq_false (show ¬ nI y < nI y from fun q => absurd q Int32.lt_irrefl), decide_eq_true rfl, Bool.false_or, Bool.true_and]
      show (if nu W s ≤ nu W u then okI 0 G else okI 1 G) = _
      by_cases v : nu W s ≤ nu W u
      · rw [if_pos v, decide_eq_false (Int32.not_lt.mpr v), if_neg Bool.false_ne_true]
      · rw [if_neg v, decide_eq_true (Int32.not_le.mp v), if_pos rfl]
    · refine (iF (fun q => w ((nI_eq (by omega) (by omega)).mp ((sb_0 (by omega) (by omega)).mp q)).symm)).trans ?_
      rw [decide_eq_false (fun q => w ((nI_eq (by omega) (by omega)).mp q)), Bool.false_and, Bool.or_false]
      by_cases v : x < y
      · refine (iF (fun q => ?_)).trans ?_
        · have := (nI_leI (by omega) (by omega)).mp ((sb_le (by omega) (by omega)).mp q)
          omega
        · rw [decide_eq_true (nI_lt v (by omega)), if_pos rfl]
      · refine (iT ((sb_le (by omega) (by omega)).mpr (nI_le (by omega) (by omega)))).trans ?_
        rw [decide_eq_false (nI_nlt (by omega) (by omega)), if_neg Bool.false_ne_true]
  · refine (iF (fun q => z ((nI_eq (by omega) (by omega)).mp ((sb_0 (by omega) (by omega)).mp q)).symm)).trans ?_
    rw [decide_eq_false z, Bool.false_and, Bool.or_false]
    by_cases v : lgs W u < lgs W s
    · refine (iF (fun q => ?_)).trans ?_
      · have := (nI_leI (by omega) (by omega)).mp ((sb_le (by omega) (by omega)).mp q)
        omega
      · rw [decide_eq_true v, if_pos rfl]
    · refine (iT ((sb_le (by omega) (by omega)).mpr (nI_le (by omega) (by omega)))).trans ?_
      rw [decide_eq_false v, if_neg Bool.false_ne_true]
theorem c_countA (h : WF N W) (hNN : N ≤ 600) (hA : AX W 0 G) (hk : 40 ≤ kk) {s : Nat} (hs : s < 35) (ts : tk W s = true) : D_PB_countEarlierTurns kk (nI s) G = okI (ctA W s 35) G := by
  refine loop_up (fun k a i => L_PB_countEarlierTurns kk k (nI s) a i G) (fun i => ctA W s i) 35 _ (fun _ => rfl) (fun k i hi => ?_) 35 0 kk rfl (by omega)
  refine (iF (nI_ge (b := 35) hi (by decide))).trans ((rI (c_isTaken h.1 hA hi)).trans ?_)
  have e : ctA W s (i + 1) = ctA W s i + (if tk W i = true ∧ ahd W i s = true then 1 else 0) := rfl
  rw [e, ← nI_1 i]
  by_cases z : tk W i = true
  · rw [if_pos z]
    refine (iF (by decide)).trans ((rI (c_ahead h hNN hA hi hs z ts)).trans ?_)
    by_cases y : ahd W i s = true
    · rw [if_pos y]
      refine (iF (show ¬ (1 : Int32) = 0 by decide)).trans ?_
      rw [if_pos ⟨z, y⟩]
    · rw [if_neg y]
      refine (iT rfl).trans ?_
      rw [if_neg (show ¬ (tk W i = true ∧ ahd W i s = true) from fun q => y q.2), Int32.add_zero]
  · rw [if_neg z]
    refine (iT rfl).trans ?_
    rw [if_neg (show ¬ (tk W i = true ∧ ahd W i s = true) from fun q => z q.1), Int32.add_zero]
theorem m_countA (h : WF N W) (hNN : N ≤ 600) (hM : AM W G) (hk : 200 ≤ kk) {a : Int32} {s : Nat} (hs : s < 35) (ts : tk W s = true) (R : Res) (m : Nat) (hR : ∀ k, m < k → (L_Mo_pillowByTurn kk k).1 a (nI (s + 1)) G = R) : ∀ n i k, i + n = 35 → m + 1 + n < k → (L_Mo_pillowByTurn kk k).2 a (nI s) (ctA W s i) (nI i) G = if ctA W s 35 = a then okI (nu W s) G else R := by
  intro n
  obtain ⟨s1, s2⟩ := ne_dec hs
  have ps : s % 5 < hN W (s / 5) := of_decide_eq_true ts
  induction n with
  | zero =>
    intro i k hi hk2
    obtain ⟨k, rfl⟩ : ∃ j, k = j + 1 := ⟨k - 1, by omega⟩
    obtain rfl : i = 35 := by omega
    refine (show _ = (if ctA W s 35 = a then (D_Mo_at kk (nI s / 5) (nI s - nI s / 5 * 5) 0 G).bind (fun r => oI r (fun v12 G9 => okI v12 G9) exc) else (L_Mo_pillowByTurn kk k).1 a (nI s + 1) G) from rfl).trans ?_
    by_cases z : ctA W s 35 = a
    · refine (iT z).trans ?_
      rw [if_pos z, s2, s1]
      exact rI (m_at (k := 0) hM (by omega) (by omega) (by decide))
    · refine (iF z).trans ?_
      rw [if_neg z, nI_1]
      exact hR k (by omega)
  | succ n ih =>
    intro i k hi hk2
    obtain ⟨k, rfl⟩ : ∃ j, k = j + 1 := ⟨k - 1, by omega⟩
    have hi35 : i < 35 := by omega
    have := ih (i + 1) k (by omega) (by omega)
    refine Eq.trans ?_ this
    have e : ctA W s (i + 1) = ctA W s i + (if tk W i = true ∧ ahd W i s = true then 1 else 0) := rfl
    rw [e, ← nI_1 i]
    refine (iF (nI_ge (b := 35) hi35 (by decide))).trans ((rI (m_isTaken h.1 hM hi35)).trans ?_)
    by_cases z : tk W i = true
    · rw [if_pos z]
      refine (iF (by decide)).trans ((rI (m_ahead h hNN hM hk hi35 hs z ts)).trans ?_)
      by_cases y : ahd W i s = true
      · rw [if_pos y]
        refine (iF (show ¬ (1 : Int32) = 0 by decide)).trans ?_
        rw [if_pos ⟨z, y⟩]
      · rw [if_neg y]
        refine (iT rfl).trans ?_
        rw [if_neg (show ¬ (tk W i = true ∧ ahd W i s = true) from fun q => y q.2)]
    · rw [if_neg z]
      refine (iT rfl).trans ?_
      rw [if_neg (show ¬ (tk W i = true ∧ ahd W i s = true) from fun q => z q.1)]
def isT (W : Nat → Int32) (a : Int32) (s : Nat) : Bool := tk W s && decide (ctA W s 35 = a)
theorem e_pillowByTurn (hk : 2000 ≤ kk) (ht : t ≤ 600) (h : Rel t G) (a : Int32) : EQI t (D_Law_pillowByTurn kk a G) (fun G => D_Mo_pillowByTurn kk a G) := by
  obtain ⟨S, hS, hX, hM⟩ := h
  have hNN : sN S ≤ 600 := by have := hS.1; omega
  have hc : D_PB_pillowByTurn kk a G = fsel (fun s => okI (nu (sW S) s) G) (exc 3 G) (fnd (isT (sW S) a) 0 35) := by
    refine loop_find (fun k i => L_PB_pillowByTurn kk k a i G) (isT (sW S) a) _ _ 35 (fun _ => rfl) (fun k i hi => ?_) 35 0 (Nat.min kk 40) rfl (by rw [show Nat.min kk 40 = 40 from Nat.min_eq_right (by omega)]; decide)
    refine (iF (nI_ge (b := 35) hi (by decide))).trans ((rI (c_isTaken hS.2.1.1 hX.1 hi)).trans ?_)
    unfold isT
    by_cases z : tk (sW S) i = true
    · rw [if_pos z, z, Bool.true_and]
      refine (iF (by decide)).trans ((rI (c_countA hS.2.1 hNN hX.1 (by omega) hi z)).trans ?_)
      by_cases y : ctA (sW S) i 35 = a
      · rw [decide_eq_true y, if_pos rfl]
        exact (iT y).trans (rI (c_num hX.1 hi z))
      · rw [decide_eq_false y, if_neg Bool.false_ne_true]
        refine (iF y).trans ?_
        rw [nI_1]
    · rw [if_neg z, show tk (sW S) i = false by simpa using z, Bool.false_and, if_neg Bool.false_ne_true]
      refine (iT rfl).trans ?_
      rw [nI_1]
  have hm : ∀ G1, RelM S G1 → (L_Mo_pillowByTurn kk kk).1 a 0 G1 = fsel (fun s => okI (nu (sW S) s) G1) (okI 0 (si G1 (0, 50) 0 1)) (fnd (isT (sW S) a) 0 35) := fun G1 h1 => by
    refine loop_look (fun k i => (L_Mo_pillowByTurn kk k).1 a i G1) (isT (sW S) a) _ _ 35 40 (fun _ => rfl) (fun i hi R m hR k hk2 => ?_) 35 0 kk rfl (by omega)
    obtain ⟨k, rfl⟩ : ∃ j, k = j + 1 := ⟨k - 1, by omega⟩
    refine (iF (nI_ge (b := 35) hi (by decide))).trans ((rI (m_isTaken hS.2.1.1 h1.1 hi)).trans ?_)
    unfold isT
    by_cases z : tk (sW S) i = true
    · rw [if_pos z, z, Bool.true_and]
      refine (iF (by decide)).trans ?_
      refine (m_countA hS.2.1 hNN h1.1 (by omega) hi z R m hR 35 0 k rfl (by omega)).trans ?_
      by_cases y : ctA (sW S) i 35 = a
      · rw [if_pos y, decide_eq_true y, if_pos rfl]
      · rw [if_neg y, decide_eq_false y, if_neg Bool.false_ne_true]
    · rw [if_neg z, show tk (sW S) i = false by simpa using z, Bool.false_and, if_neg Bool.false_ne_true]
      refine (iT rfl).trans ?_
      rw [nI_1]
      exact hR k (by omega)
  cases hf : fnd (isT (sW S) a) 0 35 with
  | none =>
    rw [hf] at hc
    refine eqi_x (k := 1) hS hX hM (by decide) (by decide) (rIx (show D_PB_pillowByTurn kk a G = exc 3 G from hc)) (fun G1 h1 G0 e => ?_)
    subst e
    have := hm _ h1
    rw [hf] at this
    exact this
  | some s =>
    rw [hf] at hc
    refine eqi_ok (v := nu (sW S) s) hS hX hM (rI (show D_PB_pillowByTurn kk a G = okI _ G from hc)) (fun G1 h1 _ G0 e => ?_)
    subst e
    have := hm _ h1
    rw [hf] at this
    exact this
/-- bay c is heavier than bay b -/
def hvy (W : Nat → Int32) (c b : Nat) : Bool := decide (wB W b < wB W c) || (decide (wB W c = wB W b) && decide (c < b))
def ctH (W : Nat → Int32) (b n : Nat) : Int32 := sm (fun c => if hvy W c b = true then 1 else 0) n
theorem c_countH (h : WF N W) (hA : AX W 0 G) (hk : 40 ≤ kk) {b : Nat} (hb : b < 7) : D_PB_countHeavierBays kk (nI b) G = okI (ctH W b 7) G := by
  refine (rI (c_weightOfBay h.1 hA hk hb)).trans ?_
  refine loop_up (fun k a i => L_PB_countHeavierBays kk k (nI b) (wB W b) a i G) (fun i => ctH W b i) 7 _ (fun _ => rfl) (fun k i hi => ?_) 7 0 kk rfl (by omega)
  refine (iF (nI_ge (b := 7) hi (by decide))).trans ((rI (c_weightOfBay h.1 hA hk hi)).trans ?_)
  have e : ctH W b (i + 1) = ctH W b i + (if hvy W i b = true then 1 else 0) := rfl
  rw [e, ← nI_1 i]
  unfold hvy
  by_cases z : wB W b < wB W i
  · refine (iT z).trans ?_
    rw [decide_eq_true z, Bool.true_or, if_pos rfl]
  · refine (iF z).trans ?_
    rw [decide_eq_false z, Bool.false_or]
    by_cases y : wB W i = wB W b
    · refine (iT y).trans ?_
      rw [decide_eq_true y, Bool.true_and]
      by_cases x : i < b
      · refine (iF (nI_ge x (by omega))).trans ?_
        rw [decide_eq_true x, if_pos rfl]
      · refine (iT (nI_le (by omega) (by omega))).trans ?_
        rw [decide_eq_false x, if_neg Bool.false_ne_true, Int32.add_zero]
    · refine (iF y).trans ?_
      rw [decide_eq_false y, Bool.false_and, if_neg Bool.false_ne_true, Int32.add_zero]
theorem m_countH (h : WF N W) (hM : AM W G) (hk : 200 ≤ kk) {a : Int32} {b : Nat} (hb : b < 7) (R : Res) (m : Nat) (hR : ∀ k, m < k → (L_Mo_bayByWeight kk k).1 a (nI (b + 1)) G = R) : ∀ n i k, i + n = 7 → m + 1 + n < k → (L_Mo_bayByWeight kk k).2 a (nI b) (ctH W b i) (nI i) G = if ctH W b 7 = a then okI (nI b) G else R := by
  intro n
  induction n with
  | zero =>
    intro i k hi hk2
    obtain ⟨k, rfl⟩ : ∃ j, k = j + 1 := ⟨k - 1, by omega⟩
    obtain rfl : i = 7 := by omega
    by_cases z : ctH W b 7 = a
    · rw [if_pos z]
      exact iT z
    · rw [if_neg z]
      refine (show _ = (if ctH W b 7 = a then okI (nI b) G else (L_Mo_bayByWeight kk k).1 a (nI b + 1) G) from rfl).trans ((iF z).trans ?_)
      rw [nI_1]
      exact hR k (by omega)
  | succ n ih =>
    intro i k hi hk2
    obtain ⟨k, rfl⟩ : ∃ j, k = j + 1 := ⟨k - 1, by omega⟩
    have hi7 : i < 7 := by omega
    obtain ⟨x, hx, ex⟩ := wB_b h hi7
    obtain ⟨y, hy, ey⟩ := wB_b h hb
    refine Eq.trans ?_ (ih (i + 1) k (by omega) (by omega))
    have e : ctH W b (i + 1) = ctH W b i + (if hvy W i b = true then 1 else 0) := rfl
    rw [e, ← nI_1 i]
    refine (iF (nI_ge (b := 7) hi7 (by decide))).trans ((rI (m_weightOfBay h.1 hM (by omega) hi7)).trans ((rI (m_weightOfBay h.1 hM (by omega) hb)).trans ?_))
    unfold hvy
    rw [ex, ey]
    by_cases z : y < x
    · refine (iT ((sb_lt (by omega) (by omega)).mpr (nI_lt z (by omega)))).trans ?_
      rw [decide_eq_true (nI_lt z (by omega)), Bool.true_or, if_pos rfl]
    · refine (iF (fun q => z ((nI_ltI (by omega) (by omega)).mp ((sb_lt (by omega) (by omega)).mp q)))).trans ?_
      rw [decide_eq_false (nI_nlt (by omega) (by omega)), Bool.false_or]
      by_cases w : x = y
      · refine (iT ((sb_0 (by omega) (by omega)).mpr (by rw [w]))).trans ?_
        rw [w, decide_eq_true rfl, Bool.true_and]
        by_cases v : i < b
        · refine (iF (nI_ge v (by omega))).trans ?_
          rw [decide_eq_true v, if_pos rfl]
        · refine (iT (nI_le (by omega) (by omega))).trans ?_
          rw [decide_eq_false v, if_neg Bool.false_ne_true]
      · refine (iF (fun q => w ((nI_eq (by omega) (by omega)).mp ((sb_0 (by omega) (by omega)).mp q)))).trans ?_
        rw [decide_eq_false (fun q => w ((nI_eq (by omega) (by omega)).mp q)), Bool.false_and, if_neg Bool.false_ne_true]
def isH (W : Nat → Int32) (a : Int32) (b : Nat) : Bool := decide (ctH W b 7 = a)
theorem e_bayByWeight (hk : 2000 ≤ kk) (h : Rel t G) (a : Int32) : EQI t (D_Law_bayByWeight kk a G) (fun G => D_Mo_bayByWeight kk a G) := by
  obtain ⟨S, hS, hX, hM⟩ := h
  have hc : D_PB_bayByWeight kk a G = fsel (fun b => okI (nI b) G) (exc 3 G) (fnd (isH (sW S) a) 0 7) := by
    refine loop_find (fun k i => L_PB_bayByWeight kk k a i G) (isH (sW S) a) _ _ 7 (fun _ => rfl) (fun k i hi => ?_) 7 0 (Nat.min kk 10) rfl (by rw [show Nat.min kk 10 = 10 from Nat.min_eq_right (by omega)]; decide)
    refine (iF (nI_ge (b := 7) hi (by decide))).trans ((rI (c_countH hS.2.1 hX.1 (by omega) hi)).trans ?_)
    unfold isH
    by_cases y : ctH (sW S) i 7 = a
    · rw [decide_eq_true y, if_pos rfl]
      exact iT y
    · rw [decide_eq_false y, if_neg Bool.false_ne_true]
      refine (iF y).trans ?_
      rw [nI_1]
  have hm : ∀ G1, RelM S G1 → (L_Mo_bayByWeight kk kk).1 a 0 G1 = fsel (fun b => okI (nI b) G1) (okI 0 (si G1 (0, 50) 0 1)) (fnd (isH (sW S) a) 0 7) := fun G1 h1 => by
    refine loop_look (fun k i => (L_Mo_bayByWeight kk k).1 a i G1) (isH (sW S) a) _ _ 7 10 (fun _ => rfl) (fun i hi R m hR k hk2 => ?_) 7 0 kk rfl (by omega)
    obtain ⟨k, rfl⟩ : ∃ j, k = j + 1 := ⟨k - 1, by omega⟩
    refine (iF (nI_ge (b := 7) hi (by decide))).trans ?_
    unfold isH
    refine (m_countH hS.2.1 h1.1 (by omega) hi R m hR 7 0 k rfl (by omega)).trans ?_
    by_cases y : ctH (sW S) i 7 = a
    · rw [if_pos y, decide_eq_true y, if_pos rfl]
    · rw [if_neg y, decide_eq_false y, if_neg Bool.false_ne_true]
  cases hf : fnd (isH (sW S) a) 0 7 with
  | none =>
    rw [hf] at hc
    refine eqi_x (k := 1) hS hX hM (by decide) (by decide) (rIx (show D_PB_bayByWeight kk a G = exc 3 G from hc)) (fun G1 h1 G0 e => ?_)
    subst e
    have := hm _ h1
    rw [hf] at this
    exact this
  | some s =>
    rw [hf] at hc
    refine eqi_ok (v := nI s) hS hX hM (rI (show D_PB_bayByWeight kk a G = okI _ G from hc)) (fun G1 h1 _ G0 e => ?_)
    subst e
    have := hm _ h1
    rw [hf] at this
    exact this
end Sk3
section Lv
variable {kk : Nat} {G : GS} {S : SS} {t N : Nat} {W : Nat → Int32}
def ab (x : Int32) : Int32 := if x < 0 then -x else x
/-- the moment's size if a pillow of weight w came into bay b -/
def mX (W : Nat → Int32) (w : Int32) (b : Nat) : Int32 := ab (mom W + (nI b - 3) * w)
def bet (W : Nat → Int32) (w : Int32) (b c : Nat) : Bool := decide (mX W w b < mX W w c) || (decide (mX W w b = mX W w c) && decide (hN W b < hN W c))
theorem ab_b {x : Int32} (h : -400 ≤ x.toInt ∧ x.toInt ≤ 400) : ∃ q, q ≤ 400 ∧ ab x = nI q := by
  have key : ∀ y : Int32, 0 ≤ y.toInt → y.toInt ≤ 400 → ∃ q, q ≤ 400 ∧ y = nI q := fun y h1 h2 =>
    ⟨y.toInt.toNat, by omega, by rw [← Int32.toInt_inj, nI_toInt (by omega)]; omega⟩
  unfold ab
  by_cases z : x < 0
  · rw [if_pos z]
    rw [Int32.lt_iff_toInt_lt, Int32.toInt_zero] at z
    refine key _ ?_ ?_ <;> rw [Int32.toInt_neg, Int.bmod_eq_of_le (by omega) (by omega)] <;> omega
  · rw [if_neg z]
    rw [Int32.lt_iff_toInt_lt, Int32.toInt_zero] at z
    exact key _ (by omega) h.2
theorem mX_b (h : WF N W) {q b : Nat} (hq : q ≤ 20) (hb : b < 7) : ∃ x, x ≤ 400 ∧ mX W (nI q) b = nI x := by
  obtain ⟨h1, h2⟩ := mom_b h
  obtain ⟨h3, h4⟩ := lev_b hb (m := q) (by omega)
  refine ab_b ?_
  rw [Int32.toInt_add, Int.bmod_eq_of_le (by omega) (by omega)]
  omega
theorem c_moreLevel (h : WF N W) (hA : AX W 0 G) (hk : 40 ≤ kk) {b c : Nat} {w : Int32} (hb : b < 7) (hc : c < 7) : D_PB_isMoreLevel kk (nI b) (nI c) w G = okI (if bet W w b c = true then 1 else 0) G := by
  have hb5 := (h.1 b hb).1
  have hc5 := (h.1 c hc).1
  refine (rI (c_momentOfPillows h.1 hA hk)).trans ?_
  refine (rI (v := nI b - 3) (G := G) rfl).trans ?_
  refine (rI (v := ab (mom W + w * (nI b - 3))) (G := G) rfl).trans ?_
  refine (rI (v := nI c - 3) (G := G) rfl).trans ?_
  refine (rI (v := ab (mom W + w * (nI c - 3))) (G := G) rfl).trans ?_
  rw [Int32.mul_comm w, Int32.mul_comm w]
  show (if mX W w b = mX W w c then _ else if mX W w c ≤ mX W w b then okI 0 G else okI 1 G) = _
  unfold bet
  by_cases z : mX W w b = mX W w c
  · refine (iT z).trans ((rI (c_heightOf h.1 hA hb)).trans ((rI (c_heightOf h.1 hA hc)).trans ?_))
    rw [z, decide_eq_false (show ¬ mX W w c < mX W w c from fun q => absurd q Int32.lt_irrefl), decide_eq_true rfl, Bool.false_or, Bool.true_and]
    by_cases y : hN W b < hN W c
    · refine (iF (nI_ge y (by omega))).trans ?_
      rw [decide_eq_true y, if_pos rfl]
    · refine (iT (nI_le (by omega) (by omega))).trans ?_
      rw [decide_eq_false y, if_neg Bool.false_ne_true]
  · refine (iF z).trans ?_
    rw [decide_eq_false z, Bool.false_and, Bool.or_false]
    by_cases y : mX W w c ≤ mX W w b
    · rw [if_pos y, decide_eq_false (Int32.not_lt.mpr y), if_neg Bool.false_ne_true]
    · rw [if_neg y, decide_eq_true (Int32.not_le.mp y), if_pos rfl]
theorem m_mag {x : Int32} : D_Mo_magnitude kk x G = okI (ab x) G := by
  unfold D_Mo_magnitude ab
  by_cases z : x < 0
  · rw [if_pos z, if_neg (Int32.not_le.mpr z)]
  · rw [if_neg z, if_pos (Int32.not_lt.mp z)]
theorem m_better (h : WF N W) (hM : AM W G) (hk : 40 ≤ kk) {b c q : Nat} (hq : q ≤ 20) (hb : b < 7) (hc : c < 7) : D_Mo_isBetter kk (nI b) (nI c) (nI q) G = okI (if bet W (nI q) b c = true then 1 else 0) G := by
  have hb5 := (h.1 b hb).1
  have hc5 := (h.1 c hc).1
  obtain ⟨x, hx, ex⟩ := mX_b h hq hb
  obtain ⟨y, hy, ey⟩ := mX_b h hq hc
  refine (rI (m_momentNow h.1 hM hk)).trans ((rI m_lever).trans ((rI m_mag).trans ?_))
  refine (rI (m_momentNow h.1 hM hk)).trans ((rI m_lever).trans ((rI m_mag).trans ?_))
  have e1 : ab (mom W + (nI c - 3) * nI q) = nI y := ey
  have e2 : ab (mom W + (nI b - 3) * nI q) = nI x := ex
  rw [e1, e2]
  unfold bet
  rw [ex, ey]
  by_cases z : x = y
  · refine (iT ((sb_0 (by omega) (by omega)).mpr (by rw [z]))).trans ?_
    refine (bT (m_hin hb)).trans ((bT (m_hin hc)).trans ?_)
    rw [m_hgt h.1 hM hb, m_hgt h.1 hM hc, z, decide_eq_false (show ¬ nI y < nI y from fun q => absurd q Int32.lt_irrefl), decide_eq_true rfl, Bool.false_or, Bool.true_and]
    by_cases v : hN W b < hN W c
    · refine (iF (nI_ge v (by omega))).trans ?_
      rw [decide_eq_true v, if_pos rfl]
    · refine (iT (nI_le (by omega) (by omega))).trans ?_
      rw [decide_eq_false v, if_neg Bool.false_ne_true]
  · refine (iF (fun q => z ((nI_eq (by omega) (by omega)).mp ((sb_0 (by omega) (by omega)).mp q)).symm)).trans ?_
    rw [decide_eq_false (show ¬ nI x = nI y from fun q => z ((nI_eq (by omega) (by omega)).mp q)), Bool.false_and, Bool.or_false]
    by_cases v : x < y
    · refine (iF (fun q => ?_)).trans ?_
      · have := (nI_leI (by omega) (by omega)).mp ((sb_le (by omega) (by omega)).mp q)
        omega
      · rw [decide_eq_true (nI_lt v (by omega)), if_pos rfl]
    · refine (iT ((sb_le (by omega) (by omega)).mpr (nI_le (by omega) (by omega)))).trans ?_
      rw [decide_eq_false (nI_nlt (by omega) (by omega)), if_neg Bool.false_ne_true]
/-- a bay that can take it -/
def cnd (W : Nat → Int32) (w : Int32) (b : Nat) : Bool := decide (hN W b ≠ 5) && !byd W ((nI b - 3) * w)
def lv (W : Nat → Int32) (w : Int32) : Nat → Option Nat
  | 0 => none
  | n + 1 => if cnd W w n = true then (match lv W w n with | none => some n | some c => if bet W w n c = true then some n else some c) else lv W w n
def oc : Option Nat → Int32
  | none => -1
  | some b => nI b
theorem lvl_lt (w : Int32) : ∀ n c, lv W w n = some c → c < n
  | 0, c, h => by cases h
  | n + 1, c, h => by
    unfold lv at h
    by_cases z : cnd W w n = true
    · rw [if_pos z] at h
      cases hl : lv W w n with
      | none => rw [hl] at h; cases h; exact Nat.lt_succ_self _
      | some d =>
        rw [hl] at h
        have hd := lvl_lt w n d hl
        by_cases y : bet W w n d = true
        · rw [show (match some d with | none => some n | some c => if bet W w n c = true then some n else some c) = (if bet W w n d = true then some n else some d) from rfl, if_pos y] at h
          cases h; exact Nat.lt_succ_self _
        · rw [show (match some d with | none => some n | some c => if bet W w n c = true then some n else some c) = (if bet W w n d = true then some n else some d) from rfl, if_neg y] at h
          cases h; omega
    · rw [if_neg z] at h
      exact Nat.lt_succ_of_lt (lvl_lt w n c h)
theorem lv_s (w : Int32) (n : Nat) : lv W w (n + 1) = if cnd W w n = true then (match lv W w n with | none => some n | some c => if bet W w n c = true then some n else some c) else lv W w n := rfl
theorem fLoad_c {q b : Nat} (hq1 : 1 ≤ q) (hq : q ≤ 20) (hb : b < 7) : fLoad W (nI b) (nI q) 0 = 0 ↔ cnd W (nI q) b = true := by
  have hbad : bad (nI b) = false := by
    unfold bad
    rw [decide_eq_false (nI_pos (by omega)), decide_eq_false (nI_ge (b := 7) hb (by decide))]; rfl
  have hbN : bN (nI b) = b := nI_clamp (by omega)
  have hw : ¬ (nI q < 1 ∨ 20 < nI q ∨ (0 : Int32) < 0 ∨ nI 5 ≤ 0) := by
    rintro (z | z | z | z)
    · exact absurd z (nI_nlt (a := q) (b := 1) hq1 (by omega))
    · exact absurd z (nI_nlt (a := 20) (b := q) hq (by omega))
    · exact absurd z (by decide)
    · exact absurd z (by decide)
  unfold fLoad cnd
  rw [hbad, hbN, if_neg Bool.false_ne_true, if_neg hw]
  by_cases z : hN W b = 5
  · rw [if_pos z, decide_eq_false (fun y => y z), Bool.false_and]
    exact ⟨fun y => absurd y (by decide), fun y => absurd y (by decide)⟩
  · rw [if_neg z, decide_eq_true z, Bool.true_and]
    cases byd W ((nI b - 3) * nI q) <;> decide
theorem c_level (h : WF N W) (hA : AX W 0 G) (hk : 40 ≤ kk) {q : Nat} (hq1 : 1 ≤ q) (hq : q ≤ 20) : D_PB_mostLevelBay kk (nI q) G = okI (oc (lv W (nI q) 7)) G := by
  have key : ∀ n i k, i + n = 7 → 2 * n < k → (L_PB_mostLevelBay kk k).1 (nI q) (oc (lv W (nI q) i)) (nI i) G = okI (oc (lv W (nI q) 7)) G := by
    intro n
    induction n with
    | zero =>
      intro i k hi hk2
      obtain ⟨k, rfl⟩ : ∃ j, k = j + 1 := ⟨k - 1, by omega⟩
      obtain rfl : i = 7 := by omega
      rfl
    | succ n ih =>
      intro i k hi hk2
      obtain ⟨k, rfl⟩ : ∃ j, k = j + 2 := ⟨k - 2, by omega⟩
      have hi7 : i < 7 := by omega
      refine Eq.trans ?_ (ih (i + 1) k (by omega) (by omega))
      refine (iF (nI_ge (b := 7) hi7 (by decide))).trans ?_
      refine (rI (c_fLoad h.1 hA h.lim0 hk (nI i) (nI q) 0)).trans ?_
      rw [lv_s, ← nI_1 i]
      by_cases z : cnd W (nI q) i = true
      · rw [(fLoad_c hq1 hq hi7).mpr z, if_pos z]
        cases hl : lv W (nI q) i with
        | none => rfl
        | some c =>
          have hc := lvl_lt (W := W) (nI q) i c hl
          refine (show _ = (if nI c = -1 then (L_PB_mostLevelBay kk k).1 (nI q) (nI i) (nI i + 1) G else (D_PB_isMoreLevel kk (nI i) (nI c) (nI q) G).bind (fun r => oI r (fun v8 G5 => if v8 = 0 then (L_PB_mostLevelBay kk k).1 (nI q) (nI c) (nI i + 1) G5 else (L_PB_mostLevelBay kk k).1 (nI q) (nI i) (nI i + 1) G5) exc)) from rfl).trans ?_
          refine (iF (fun y => ?_)).trans ((rI (c_moreLevel h hA hk hi7 (by omega))).trans ?_)
          · exact absurd (nI_pos (n := c) (by omega)) (by rw [show nI c = -1 from y]; decide)
          · show _ = (L_PB_mostLevelBay kk k).1 (nI q) (oc (if bet W (nI q) i c = true then some i else some c)) (nI i + 1) G
            by_cases y : bet W (nI q) i c = true
            · rw [if_pos y, if_pos y]; rfl
            · rw [if_neg y, if_neg y]; rfl
      · have hf : fLoad W (nI i) (nI q) 0 ≠ 0 := fun y => z ((fLoad_c hq1 hq hi7).mp y)
        have hl : fLoad W (nI i) (nI q) 0 < 6 := fC_lt (W := W) (c := 0) (a1 := nI i) (a2 := nI q) (a3 := 0)
        refine (iF (ml_ne hf hl)).trans ?_
        rw [if_neg z]; rfl
  exact key 7 0 kk rfl (by omega)
theorem m_level (h : WF N W) (hM : AM W G) (hk : 40 ≤ kk) {q : Nat} (hq1 : 1 ≤ q) (hq : q ≤ 20) : L_Mo_levelingBay kk kk (nI q) (-1) 0 G = (match lv W (nI q) 7 with | none => okI 0 (si G (0, 50) 0 2) | some b => okI (nI b) G) := by
  have key : ∀ n i k, i + n = 7 → n < k → L_Mo_levelingBay kk k (nI q) (oc (lv W (nI q) i)) (nI i) G = (match lv W (nI q) 7 with | none => okI 0 (si G (0, 50) 0 2) | some b => okI (nI b) G) := by
    intro n
    induction n with
    | zero =>
      intro i k hi hk2
      obtain ⟨k, rfl⟩ : ∃ j, k = j + 1 := ⟨k - 1, by omega⟩
      obtain rfl : i = 7 := by omega
      refine (show _ = (if 0 ≤ oc (lv W (nI q) 7) then okI (oc (lv W (nI q) 7)) G else okI 0 (si G (0, 50) 0 2)) from rfl).trans ?_
      cases hl : lv W (nI q) 7 with
      | none => rfl
      | some c =>
        have hc := lvl_lt (W := W) (nI q) 7 c hl
        exact iT (nn (by omega))
    | succ n ih =>
      intro i k hi hk2
      obtain ⟨k, rfl⟩ : ∃ j, k = j + 1 := ⟨k - 1, by omega⟩
      have hi7 : i < 7 := by omega
      have h5 := (h.1 i hi7).1
      refine Eq.trans ?_ (ih (i + 1) k (by omega) (by omega))
      refine (iF (nI_ge (b := 7) hi7 (by decide))).trans ((bT (m_hin hi7)).trans ?_)
      rw [m_hgt h.1 hM hi7, lv_s, ← nI_1 i]
      by_cases z5 : hN W i = 5
      · refine (iT (by rw [z5]; rfl)).trans ?_
        rw [if_neg (show ¬ cnd W (nI q) i = true from by unfold cnd; rw [decide_eq_false (fun y => y z5), Bool.false_and]; decide)]
      · refine (iF (fun y => z5 ((nI_eq (b := 5) (by omega) (by decide)).mp y))).trans ((rI m_lever).trans ((rI (m_isBeyond h.1 hM hk _)).trans ?_))
        by_cases z : byd W ((nI i - 3) * nI q) = true
        · rw [if_pos z]
          refine (iF (show ¬ (1 : Int32) = 0 by decide)).trans ?_
          rw [if_neg (show ¬ cnd W (nI q) i = true from by unfold cnd; rw [z, Bool.not_true, Bool.and_false]; decide)]
        · have hcn : cnd W (nI q) i = true := by
            unfold cnd
            rw [decide_eq_true z5, show byd W ((nI i - 3) * nI q) = false by simpa using z]; rfl
          rw [if_neg z, if_pos hcn]
          refine (iT rfl).trans ?_
          cases hl : lv W (nI q) i with
          | none => exact iT (by decide)
          | some c =>
            have hc := lvl_lt (W := W) (nI q) i c hl
            refine (iF (nI_pos (by omega))).trans ((rI (m_better h hM hk hq hi7 (by omega))).trans ?_)
            show _ = L_Mo_levelingBay kk k (nI q) (oc (if bet W (nI q) i c = true then some i else some c)) (nI i + 1) G
            by_cases y : bet W (nI q) i c = true
            · rw [if_pos y, if_pos y]; rfl
            · rw [if_neg y, if_neg y]; rfl
  exact key 7 0 kk rfl (by omega)
theorem e_levelingBay (hk : 200 ≤ kk) (h : Rel t G) (a : Int32) : EQI t (D_Law_levelingBay kk a G) (fun G => D_Mo_levelingBay kk a G) := by
  obtain ⟨S, hS, hX, hM⟩ := h
  by_cases ha : a < 1 ∨ 20 < a
  · have hw := c_isWeight (kk := kk) (G := G) (w := a)
    rw [if_pos ha] at hw
    have hx : D_PB_levelingBay kk a G = exc 2 G := (rI hw).trans (iT rfl)
    refine eqi_x (k := 1) hS hX hM (by decide) (by decide) (rIx hx) (fun G1 h1 G0 e => ?_)
    subst e
    exact (rI (m_betwx ha)).trans ((iT rfl).trans (rI rfl))
  · have hw := c_isWeight (kk := kk) (G := G) (w := a)
    rw [if_neg ha] at hw
    obtain ⟨q, hq1, hq, rfl⟩ : ∃ q, 1 ≤ q ∧ q ≤ 20 ∧ a = nI q := by
      rcases ixc a (n := 21) (by decide) with z | ⟨-, z⟩ | ⟨q, hq, rfl⟩
      · exact absurd (Or.inl (Int32.lt_of_lt_of_le z (by decide))) ha
      · exact absurd (Or.inr (Int32.lt_of_lt_of_le (by decide : (20 : Int32) < nI 21) z)) ha
      · refine ⟨q, ?_, by omega, rfl⟩
        rcases Nat.eq_zero_or_pos q with z | z
        · subst z; exact absurd (Or.inl (by decide)) ha
        · exact z
    have hc := c_level (kk := kk) hS.2.1 hX.1 (by omega) hq1 hq
    have hm := fun G1 (h1 : RelM S G1) => m_level (kk := kk) hS.2.1 h1.1 (by omega) hq1 hq
    have hbt : ∀ G1, D_Mo_isBetween kk (nI q) 1 20 G1 = okI 1 G1 := fun G1 => m_betw (fun z => ha (Or.inl z)) (fun z => ha (Or.inr z))
    cases hl : lv (sW S) (nI q) 7 with
    | none =>
      rw [hl] at hc hm
      have hx : D_PB_levelingBay kk (nI q) G = exc 3 G := (rI hw).trans ((iF (by decide)).trans ((rI hc).trans (iT rfl)))
      refine eqi_x (k := 2) hS hX hM (by decide) (by decide) (rIx hx) (fun G1 h1 G0 e => ?_)
      subst e
      exact (rI (hbt _)).trans ((iF (by decide)).trans (hm _ h1))
    | some c =>
      have hcl := lvl_lt (W := sW S) (nI q) 7 c hl
      rw [hl] at hc hm
      have hx : D_PB_levelingBay kk (nI q) G = okI (nI c) G := (rI hw).trans ((iF (by decide)).trans ((rI hc).trans (iF (fun y => absurd (nI_pos (n := c) (by omega)) (by rw [show nI c = -1 from y]; decide)))))
      refine eqi_ok (v := nI c) hS hX hM (rI hx) (fun G1 h1 _ G0 e => ?_)
      subst e
      exact (rI (hbt _)).trans ((iF (by decide)).trans (hm _ h1))
end Lv
