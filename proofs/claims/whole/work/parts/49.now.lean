/-! BOUNDS, FLOATS -/
theorem sb_le {a b : Nat} (ha : a < 2 ^ 30) (hb : b < 2 ^ 30) : nI a - nI b ≤ 0 ↔ nI a ≤ nI b := by
  rw [Int32.le_iff_toInt_le, pk_sub_toInt ha hb, Int32.toInt_zero, nI_leI (by omega) (by omega)]
  omega
theorem sb_0 {a b : Nat} (ha : a < 2 ^ 30) (hb : b < 2 ^ 30) : nI a - nI b = 0 ↔ nI a = nI b := by
  rw [← Int32.toInt_inj, pk_sub_toInt ha hb, Int32.toInt_zero, nI_eq (by omega) (by omega)]
  omega
theorem sb_lt {a b : Nat} (ha : a < 2 ^ 30) (hb : b < 2 ^ 30) : 0 < nI a - nI b ↔ nI b < nI a := by
  rw [Int32.lt_iff_toInt_lt, pk_sub_toInt ha hb, Int32.toInt_zero, nI_ltI (by omega) (by omega)]
  omega
theorem sm_b {f : Nat → Int32} {M : Nat} : ∀ {n : Nat}, (∀ i, i < n → ∃ q, q ≤ M ∧ f i = nI q) → ∃ m, m ≤ n * M ∧ sm f n = nI m
  | 0, _ => ⟨0, by omega, rfl⟩
  | n + 1, h => by
    obtain ⟨m, hm, e⟩ := sm_b (fun i hi => h i (Nat.lt_succ_of_lt hi))
    obtain ⟨q, hq, e2⟩ := h n (Nat.lt_succ_self n)
    exact ⟨m + q, by rw [Nat.succ_mul]; omega, by rw [sm, e, e2, nI_add]⟩
section Bd
variable {N : Nat} {W : Nat → Int32}
theorem wB_b (h : WF N W) {b : Nat} (hb : b < 7) : ∃ m, m ≤ 100 ∧ wB W b = nI m := by
  obtain ⟨m, hm, e⟩ := sm_b (f := fun p => fW W b p 1) (M := 20) (n := hN W b) (fun p hp => by
    obtain ⟨-, ⟨q, -, h2, h3⟩, -⟩ := h.2.2.2.2.1 b p hb hp
    exact ⟨q, h2, h3⟩)
  have h5 := (h.1 b hb).1
  exact ⟨m, by omega, e⟩
theorem tot_b (h : WF N W) : ∃ m, m ≤ 700 ∧ tot W = nI m := by
  obtain ⟨m, hm, e⟩ := sm_b (f := fun b => wB W b) (M := 100) (n := 7) (fun b hb => wB_b h hb)
  exact ⟨m, by omega, e⟩
theorem cnt_b (h : WF N W) : ∃ m, m ≤ 35 ∧ cnt W = nI m := by
  obtain ⟨m, hm, e⟩ := sm_b (f := fun b => W (9 + b)) (M := 5) (n := 7) (fun b hb => ⟨_, (h.1 b hb).1, (h.1 b hb).2⟩)
  exact ⟨m, by omega, e⟩
theorem wP_b (h : WF N W) (d : Int32) : ∃ m, m ≤ 700 ∧ wP W d = nI m := by
  obtain ⟨m, hm, e⟩ := sm_b (f := fun b => sm (fun p => if fW W b p 2 = d then fW W b p 1 else 0) (hN W b)) (M := 100) (n := 7) (fun b hb => by
    obtain ⟨m, hm, e⟩ := sm_b (f := fun p => if fW W b p 2 = d then fW W b p 1 else 0) (M := 20) (n := hN W b) (fun p hp => by
      obtain ⟨-, ⟨q, -, h2, h3⟩, -⟩ := h.2.2.2.2.1 b p hb hp
      by_cases z : fW W b p 2 = d
      · exact ⟨q, h2, by rw [if_pos z]; exact h3⟩
      · exact ⟨0, by omega, by rw [if_neg z]; rfl⟩)
    have h5 := (h.1 b hb).1
    exact ⟨m, by omega, e⟩)
  exact ⟨m, by omega, e⟩
theorem lev_b {b m : Nat} (hb : b < 7) (hm : m ≤ 100) : -300 ≤ ((nI b - 3) * nI m).toInt ∧ ((nI b - 3) * nI m).toInt ≤ 300 := by
  have key : ∀ b, b < 7 → (3 ≤ b ∧ nI b - 3 = nI (b - 3)) ∨ (b < 3 ∧ nI b - 3 = -nI (3 - b)) := by decide
  rcases key b hb with ⟨h1, h2⟩ | ⟨h1, h2⟩
  · have h3 := Nat.mul_le_mul (show b - 3 ≤ 3 by omega) hm
    rw [h2, pk_mul, nI_toInt (by omega)]
    omega
  · have h3 := Nat.mul_le_mul (show 3 - b ≤ 3 by omega) hm
    rw [h2, Int32.neg_mul, pk_mul, Int32.toInt_neg, nI_toInt (by omega), Int.bmod_eq_of_le (by omega) (by omega)]
    omega
theorem sm_ib {f : Nat → Int32} {M : Nat} : ∀ {n : Nat}, (∀ i, i < n → -(M : Int) ≤ (f i).toInt ∧ (f i).toInt ≤ M) → n * M < 2 ^ 30 → -((n * M : Nat) : Int) ≤ (sm f n).toInt ∧ (sm f n).toInt ≤ ((n * M : Nat) : Int)
  | 0, _, _ => by
    rw [Nat.zero_mul]
    show -((0 : Nat) : Int) ≤ (0 : Int32).toInt ∧ (0 : Int32).toInt ≤ ((0 : Nat) : Int)
    decide
  | n + 1, h, hb => by
    rw [Nat.succ_mul] at hb ⊢
    have h1 := sm_ib (n := n) (fun i hi => h i (Nat.lt_succ_of_lt hi)) (by omega)
    have h2 := h n (Nat.lt_succ_self n)
    rw [sm, Int32.toInt_add, Int.bmod_eq_of_le (by omega) (by omega)]
    omega
theorem mom_w (h : WF N W) : -2100 ≤ (mom W).toInt ∧ (mom W).toInt ≤ 2100 := by
  have := sm_ib (f := fun b => (nI b - 3) * wB W b) (M := 300) (n := 7) (fun b hb => by
    obtain ⟨m, hm, e⟩ := wB_b h hb
    show -300 ≤ ((nI b - 3) * wB W b).toInt ∧ ((nI b - 3) * wB W b).toInt ≤ 300
    rw [e]
    exact lev_b hb hm) (by decide)
  exact this
theorem mom_b (h : WF N W) : -99 ≤ (mom W).toInt ∧ (mom W).toInt ≤ 99 := by
  obtain ⟨l, l1, l2, l3⟩ := h.2.2.1
  have hy := h.2.2.2.1
  unfold byd at hy
  rw [Bool.or_eq_false_iff] at hy
  have h1 := of_decide_eq_false hy.1
  have h2 := of_decide_eq_false hy.2
  rw [Int32.add_zero, l3] at h1 h2
  rw [Int32.lt_iff_toInt_lt, nI_toInt (by omega)] at h1 h2
  have h3 : -(2 ^ 31 : Int) ≤ (mom W).toInt := Int32.le_toInt _
  have h4 : (mom W).toInt ≤ 99 := by omega
  have h5 : (2 ^ 31 : Int) ≠ 0 := by decide
  rw [Int32.toInt_neg] at h2
  by_cases e : (mom W).toInt = -(2 ^ 31 : Int)
  · exfalso
    have := mom_w h
    omega
  · rw [Int.bmod_eq_of_le (by omega) (by omega)] at h2
    exact ⟨by omega, h4⟩
end Bd
theorem bits32 {a : UInt32} (h : FP.fIsNaN a = false) : a &&& 0x7fffffff ≤ 0x7f800000 := by
  have h1 := (FP.Core.ne_nan32 a).mp ((FP.Core.notNaN_iff32 a).mp h)
  rw [UInt32.le_iff_toNat_le, UInt32.toNat_and]
  show a.toNat &&& (2 ^ 31 - 1) ≤ 2139095040
  rw [Nat.and_two_pow_sub_one_eq_mod]
  exact h1
theorem bits64 {a : UInt64} (h : FP.dIsNaN a = false) : a &&& 0x7fffffffffffffff ≤ 0x7ff0000000000000 := by
  have h1 := (FP.Core.ne_nan a).mp ((FP.Core.notNaN_iff a).mp h)
  rw [UInt64.le_iff_toNat_le, UInt64.toNat_and]
  show a.toNat &&& (2 ^ 63 - 1) ≤ 9218868437227405312
  rw [Nat.and_two_pow_sub_one_eq_mod]
  exact h1
theorem f2d_no {a : UInt32} (h : FP.fIsNaN a = false) : FP.dIsNaN (FP.f2d a) = false := by
  have h' : FP.Core.fIsNaN a = false := h
  unfold FP.f2d
  rw [h', if_neg Bool.false_ne_true]
  exact FP.Core.f2d_out h
theorem dself {a : UInt64} (h : FP.dIsNaN a = false) : Op.cmpValue (FP.dcmp a a) .l = 0 := by
  show Op.cmpValue (FP.Core.dcmp a a) .l = 0
  rw [FP.Core.dcmp_self ((FP.Core.notNaN_iff a).mp h)]; rfl
theorem fdiv_no {a : UInt32} {v : Int32} (h : FP.fIsNaN a = false) (hv : v ≠ 0) : FP.fIsNaN (FP.fdiv a (FP.i2f v)) = false :=
  FP.Core.fdiv_out h (FP.Core.i2f_fin v) (fun z => FP.Core.i2f_ne_zero hv ((FP.Core.zero_bits232 _).mp z))
theorem ddiv_no {u v : Int32} (hv : v ≠ 0) : FP.dIsNaN (FP.ddiv (FP.i2d u) (FP.i2d v)) = false :=
  FP.Core.ddiv_out ((FP.Core.notNaN_iff _).mpr (FP.Core.i2d_fin u).ne_nan) (FP.Core.i2d_fin v) (fun z => FP.Core.i2d_ne_zero hv ((FP.Core.zero_bits2 _).mp z))
theorem i2f_no (v : Int32) : FP.fIsNaN (FP.i2f v) = false := (FP.Core.notNaN_iff32 _).mpr (FP.Core.i2f_fin v).ne_nan
theorem fmul_no (v : Int32) : FP.fIsNaN (FP.fmul 1110704128 (FP.i2f v)) = false :=
  FP.Core.fmul_out ((FP.Core.fin_bits32 _).mpr (by decide)) (FP.Core.i2f_fin v)
def EQF (t : Nat) (L : Res) (M : GS → Res) : Prop := ∃ (v : UInt32) (G1 G2 : GS), L = okF v G1 ∧ M G1 = okF v G2 ∧ FP.fIsNaN v = false ∧ Rel (t + 1) G2
def EQD (t : Nat) (L : Res) (M : GS → Res) : Prop := ∃ (k : Int32) (G1 : GS) (b : UInt64) (G2 : GS), L = okI k G1 ∧ M G1 = okD b G2 ∧ gi G2 (0, 50) 0 = k ∧ (k = 0 → gd_ G2 = b ∧ FP.dIsNaN b = false) ∧ Rel (t + 1) G2
def EQS (t : Nat) (L : Res) (M : GS → Res) : Prop := ∃ (k : Int32) (G1 : GS) (b : UInt32) (G2 : GS), L = okI k G1 ∧ M G1 = okF b G2 ∧ gi G2 (0, 50) 0 = k ∧ (k = 0 → gd_ G2 = FP.f2d b ∧ FP.fIsNaN b = false) ∧ Rel (t + 1) G2
section Fl
variable {kk : Nat} {G : GS} {S : SS} {t : Nat}
theorem e_listAngle (hk : 200 ≤ kk) (h : Rel t G) : EQF t (D_PB_listAngle kk G) (fun G => D_Mo_listAngle kk G) := by
  obtain ⟨S, hS, hX, hM⟩ := h
  obtain ⟨m, hm, ht⟩ := tot_b hS.2.1
  have h0 : tot (sW S) + 40 ≠ 0 := by
    rw [ht, show nI m + (40 : Int32) = nI (m + 40) from nI_add m 40]
    exact nI_ne0 (by omega) (by omega)
  have n1 := fmul_no (mom (sW S))
  have n2 := fdiv_no n1 h0
  refine ⟨FP.fdiv (FP.fmul 1110704128 (FP.i2f (mom (sW S)))) (FP.i2f (tot (sW S) + 40)), G, si G (0, 50) 0 0, ?_, ?_, n2, Rel_th hS hX hM⟩
  · exact (rI (c_momentOfPillows hS.2.1.1 hX.1 (by omega))).trans ((rI (c_weightOfAll hS.2.1.1 hX.1 (by omega))).trans ((iT (bits32 n1)).trans (iT (bits32 n2))))
  · have hM1 := RelM_th (v := 0) hM
    exact (rI (m_momentNow hS.2.1.1 hM1.1 (by omega))).trans ((iT (bits32 n1)).trans ((rI (m_weightAll hS.2.1.1 hM1.1 (by omega))).trans (iT (bits32 n2))))
theorem m_isTaken {W : Nat → Int32} (hH : HH W) (hM : AM W G) {s : Nat} (hs : s < 35) : D_Mo_isTaken kk (nI s) G = okI (if tk W s = true then 1 else 0) G := by
  unfold D_Mo_isTaken
  obtain ⟨e1, e2⟩ := ne_dec hs
  have hb : s / 5 < 7 := by omega
  have h5 := (hH _ hb).1
  rw [e2, e1, m_hgt hH hM hb]
  refine (bT (m_hin hb)).trans ?_
  by_cases h : s % 5 < hN W (s / 5)
  · rw [if_neg (nI_ge h (by omega)), if_pos (show tk W s = true from decide_eq_true h)]
  · rw [if_pos (nI_le (Nat.not_lt.mp h) (by omega)), if_neg (show ¬ tk W s = true from fun z => h (of_decide_eq_true z))]
def ages (W : Nat → Int32) (n : Nat) : Int32 := sm (fun s => if tk W s = true then W 0 - fW W (s / 5) (s % 5) 3 else 0) n
theorem c_sumOfAges {W : Nat → Int32} (hH : HH W) (hA : AX W 0 G) (hk : 40 ≤ kk) : D_PB_sumOfAges kk G = okI (ages W 35) G := by
  refine loop_up (fun k a i => L_PB_sumOfAges kk k a i G) (fun i => ages W i) 35 _ (fun _ => rfl) (fun k i hi => ?_) 35 0 kk rfl (by omega)
  refine (iF (nI_ge (b := 35) hi (by decide))).trans ?_
  refine (rI (c_isTaken hH hA hi)).trans ?_
  by_cases h : tk W i = true
  · rw [if_pos h]
    refine (iF (by decide)).trans ?_
    have ha : D_State_ageIn kk 0 (nI i) G = okI (gi G (0, 3) 1 - ga G (0, 9) i) G := rI (c_in hi).2.2.2
    refine (rI ha).trans ?_
    rw [hA.2.2.2.1, show ga G (0, 9) i = fW W (i / 5) (i % 5) 3 from ax_at (k := 3) hA hi (by decide) h, nI_1]
    show L_PB_sumOfAges kk k (ages W i + _) _ G = L_PB_sumOfAges kk k (ages W i + (if tk W i = true then W 0 - fW W (i / 5) (i % 5) 3 else 0)) _ G
    rw [if_pos h]
  · rw [if_neg h]
    refine (iT rfl).trans ?_
    rw [nI_1]
    show _ = L_PB_sumOfAges kk k (ages W i + (if tk W i = true then W 0 - fW W (i / 5) (i % 5) 3 else 0)) _ G
    rw [if_neg h, Int32.add_zero]
theorem m_meanAge {W : Nat → Int32} (hH : HH W) (hM : AM W G) (hk : 40 ≤ kk) (hn : FP.dIsNaN (FP.ddiv (FP.i2d (ages W 35)) (FP.i2d (cnt W))) = false) : L_Mo_meanAge kk kk 0 0 G = okD (FP.ddiv (FP.i2d (ages W 35)) (FP.i2d (cnt W))) G := by
  refine loop_up (fun k a i => L_Mo_meanAge kk k a i G) (fun i => ages W i) 35 _ (fun k => ?_) (fun k i hi => ?_) 35 0 kk rfl (by omega)
  · refine (show _ = (D_Mo_countAll kk G).bind (fun r => oI r (fun v12 G9 => if (FP.ddiv (FP.i2d (ages W 35)) (FP.i2d v12)) &&& 0x7fffffffffffffff ≤ 0x7ff0000000000000 then okD (FP.ddiv (FP.i2d (ages W 35)) (FP.i2d v12)) G9 else none) exc) from rfl).trans ?_
    exact (rI (m_countAll hM hk)).trans (iT (bits64 hn))
  · refine (iF (nI_ge (b := 35) hi (by decide))).trans ?_
    refine (rI (m_isTaken hH hM hi)).trans ?_
    obtain ⟨e1, e2⟩ := ne_dec hi
    by_cases h : tk W i = true
    · have hp : i % 5 < hN W (i / 5) := of_decide_eq_true h
      have h5 := (hH (i / 5) (by omega)).1
      rw [if_pos h]
      refine (iF (by decide)).trans ?_
      rw [e2, e1]
      refine (rI (m_at (k := 3) hM (by omega) (by omega) (by decide))).trans ?_
      rw [hM 0 (by decide), nI_1]
      show L_Mo_meanAge kk k (ages W i + _) _ G = L_Mo_meanAge kk k (ages W i + (if tk W i = true then W 0 - fW W (i / 5) (i % 5) 3 else 0)) _ G
      rw [if_pos h]
    · rw [if_neg h]
      refine (iT rfl).trans ?_
      rw [nI_1]
      show _ = L_Mo_meanAge kk k (ages W i + (if tk W i = true then W 0 - fW W (i / 5) (i % 5) 3 else 0)) _ G
      rw [if_neg h, Int32.add_zero]
theorem e_meanAge (hk : 200 ≤ kk) (h : Rel t G) : EQD t (D_Law_meanAge kk G) (fun G => D_Mo_meanAge kk G) := by
  obtain ⟨S, hS, hX, hM⟩ := h
  have hH := hS.2.1.1
  by_cases h0 : cnt (sW S) = 0
  · have hx : D_PB_meanAge kk G = exc 6 G := by
      refine (rI (c_countPillows hX.1 (by omega))).trans ?_
      exact iT h0
    refine ⟨1, G, FP.i2d 0, si (si G (0, 50) 0 0) (0, 50) 0 1, rDx hx, ?_, th_eq, fun z => absurd z (by decide), Rel_th2 hS hX hM⟩
    exact (rI (m_countAll (RelM_th hM).1 (by omega))).trans ((iT h0).trans (rI rfl))
  · have hn := ddiv_no (u := ages (sW S) 35) h0
    have hx : D_PB_meanAge kk G = okD (FP.ddiv (FP.i2d (ages (sW S) 35)) (FP.i2d (cnt (sW S)))) G := by
      refine (rI (c_countPillows hX.1 (by omega))).trans ?_
      refine (iF h0).trans ?_
      exact (rI (c_sumOfAges hH hX.1 (by omega))).trans (iT (bits64 hn))
    have hM1 : RelM S (si (sd_ G (FP.ddiv (FP.i2d (ages (sW S) 35)) (FP.i2d (cnt (sW S))))) (0, 50) 0 0) := RelM_th (show RelM S (sd_ G _) from hM)
    refine ⟨0, _, _, _, rD hx, (rI (m_countAll hM1.1 (by omega))).trans ((iF h0).trans (m_meanAge hH hM1.1 (by omega) hn)), th_eq, fun _ => ⟨rfl, hn⟩, Rel_th hS (show RelX S (sd_ G _) from hX) (show RelM S (sd_ G _) from hM)⟩
theorem e_capsizedShare (h : Rel t G) : EQS t (D_Law_capsizedShare kk G) (fun G => D_Mo_capsizedShare kk G) := by
  obtain ⟨S, hS, hX, hM⟩ := h
  have x3 := hX.1.2.2.2.2.2.2 3 (by decide)
  have x4 := hX.1.2.2.2.2.2.2 4 (by decide)
  by_cases h0 : sW S 7 = 0
  · have hx : D_PB_capsizedShare kk G = exc 6 G := iT (x3.trans h0)
    refine ⟨1, G, FP.i2f 0, si (si G (0, 50) 0 0) (0, 50) 0 1, rFx hx, ?_, th_eq, fun z => absurd z (by decide), Rel_th2 hS hX hM⟩
    exact (iT (((RelM_th hM).1 7 (by decide)).trans h0)).trans (rI rfl)
  · have hn := fdiv_no (i2f_no (sW S 8)) h0
    have hx : D_PB_capsizedShare kk G = okF (FP.fdiv (FP.i2f (sW S 8)) (FP.i2f (sW S 7))) G := by
      unfold D_PB_capsizedShare
      rw [x3, x4]
      exact (iF h0).trans (iT (bits32 hn))
    have hM1 : RelM S (si (sd_ G (FP.f2d (FP.fdiv (FP.i2f (sW S 8)) (FP.i2f (sW S 7))))) (0, 50) 0 0) := RelM_th (show RelM S (sd_ G _) from hM)
    refine ⟨0, sd_ G (FP.f2d (FP.fdiv (FP.i2f (sW S 8)) (FP.i2f (sW S 7)))), FP.fdiv (FP.i2f (sW S 8)) (FP.i2f (sW S 7)), si (sd_ G (FP.f2d (FP.fdiv (FP.i2f (sW S 8)) (FP.i2f (sW S 7))))) (0, 50) 0 0, (rF hx).trans (iT (bits64 (f2d_no hn))), ?_, th_eq, fun _ => ⟨rfl, hn⟩, Rel_th hS (show RelX S (sd_ G _) from hX) (show RelM S (sd_ G _) from hM)⟩
    show D_Mo_capsizedShare kk (sd_ G _) = _
    unfold D_Mo_capsizedShare
    rw [hM1.1 7 (by decide), hM1.1 8 (by decide)]
    exact (iF h0).trans (iT (bits32 hn))
end Fl
/-! PILLOWS IN THE WAY, COUNTS, THE HEAVIEST PORT -/
/-- legs to a destination -/
def lg (W : Nat → Int32) (d : Int32) : Nat := lgN (W 1).toNatClampNeg (W 2).toNatClampNeg d.toNatClampNeg
/-- how many of the first n in bay b lie above p and go further -/
def aw (W : Nat → Int32) (b p n : Nat) : Int32 := sm (fun i => if p < i ∧ i < hN W b ∧ lg W (fW W b p 2) < lg W (fW W b i 2) then 1 else 0) n
def PWy (W : Nat → Int32) : Int32 := sm (fun b => sm (fun p => aw W b p 5) (hN W b)) 7
/-- counting up to N from i0 -/
theorem loop_from {α : Type} (F : Nat → α → Int32 → Res) (st : Nat → α) (i0 N : Nat) (R : Res) (hend : ∀ k, F (k + 1) (st N) (nI N) = R) (hstep : ∀ k i, i0 ≤ i → i < N → F (k + 1) (st i) (nI i) = F k (st (i + 1)) (nI (i + 1))) : ∀ (n i k : Nat), i0 ≤ i → i + n = N → n < k → F k (st i) (nI i) = R
  | 0, i, k, _, hi, hk => by
    obtain ⟨k, rfl⟩ : ∃ j, k = j + 1 := ⟨k - 1, by omega⟩
    obtain rfl : i = N := by omega
    exact hend k
  | n + 1, i, k, h0, hi, hk => by
    obtain ⟨k, rfl⟩ : ∃ j, k = j + 1 := ⟨k - 1, by omega⟩
    rw [hstep k i h0 (by omega)]
    exact loop_from F st i0 N R hend hstep n (i + 1) k (by omega) (by omega) (by omega)
theorem sm_0 {f : Nat → Int32} {n : Nat} (h : ∀ i, i < n → f i = 0) : sm f n = 0 := (sm_congr h).trans (sm_zero n)
theorem sm_tail {f : Nat → Int32} {m n : Nat} (hmn : m ≤ n) (h : ∀ i, m ≤ i → i < n → f i = 0) : sm f n = sm f m := by
  obtain ⟨d, rfl⟩ : ∃ d, n = m + d := ⟨n - m, by omega⟩
  rw [sm_add, sm_0 (f := fun i => f (m + i)) (fun i hi => h _ (by omega) (by omega)), Int32.add_zero]
theorem sm_plus (f g : Nat → Int32) : ∀ n, sm (fun i => f i + g i) n = sm f n + sm g n
  | 0 => rfl
  | n + 1 => by
    rw [sm, sm, sm, sm_plus f g n, Int32.add_assoc, Int32.add_assoc, ← Int32.add_assoc (sm g n), Int32.add_comm (sm g n), Int32.add_assoc]
theorem sm_swap (f : Nat → Nat → Int32) (m : Nat) : ∀ n, sm (fun x => sm (fun p => f x p) m) n = sm (fun p => sm (fun x => f x p) n) m
  | 0 => (sm_zero m).symm
  | n + 1 => by
    rw [sm, sm_swap f m n, ← sm_plus]
    rfl
theorem sm_one {n l : Nat} {v : Int32} (h : l < n) : sm (fun x => if x = l then v else 0) n = v := by
  have := sm_at (f := fun _ => (0 : Int32)) (g := fun x => if x = l then v else 0) (δ := v) (b := l) h (fun i _ hi => if_neg hi) (by rw [if_pos rfl, Int32.zero_add])
  rw [this, sm_zero, Int32.zero_add]
section Wy
variable {kk : Nat} {G : GS} {S : SS} {t N : Nat} {W : Nat → Int32}
theorem pe_of (hV : VW W) : (W 1).toNatClampNeg < 5 ∧ (W 2).toNatClampNeg < 2 ∧ W 1 = nI (W 1).toNatClampNeg ∧ W 2 = nI (W 2).toNatClampNeg := by
  obtain ⟨p, e, hp, he, h1, h2⟩ := hV
  rw [h1, h2, nI_clamp (by omega), nI_clamp (by omega)]
  exact ⟨hp, he, rfl, rfl⟩
theorem d_of (h : WF N W) {b p : Nat} (hb : b < 7) (hp : p < hN W b) : (fW W b p 2).toNatClampNeg < 5 ∧ fW W b p 2 = nI (fW W b p 2).toNatClampNeg := by
  obtain ⟨-, -, ⟨q, h1, h2⟩, -⟩ := h.2.2.2.2.1 b p hb hp
  rw [h2, nI_clamp (by omega)]
  exact ⟨h1, rfl⟩
theorem lg_lt (h : WF N W) {b p : Nat} (hb : b < 7) (hp : p < hN W b) : lg W (fW W b p 2) < 5 := by
  obtain ⟨a1, a2, -, -⟩ := pe_of h.2.1
  exact (lgN_ok _ a1 _ a2 _ (d_of h hb hp).1).1
theorem c_lg (h : WF N W) (hA : AX W 0 G) {b p : Nat} (hb : b < 7) (hp : p < hN W b) : D_Voyage_countLegsTo kk 0 (fW W b p 2) G = okI (nI (lg W (fW W b p 2))) G := by
  obtain ⟨a1, a2, a3, a4⟩ := pe_of h.2.1
  obtain ⟨d1, d2⟩ := d_of h hb hp
  have := c_legs (kk := kk) hA a1 a2 a3 a4 d1
  rw [← d2] at this
  exact this
theorem m_lg (h : WF N W) (hM : AM W G) (hk : 200 ≤ kk) {b p : Nat} (hb : b < 7) (hp : p < hN W b) : D_Mo_legs kk (fW W b p 2) G = okI (nI (lg W (fW W b p 2))) G := by
  obtain ⟨a1, a2, a3, a4⟩ := pe_of h.2.1
  obtain ⟨d1, d2⟩ := d_of h hb hp
  have := m_legs (kk := kk) hM hk a1 a2 a3 a4 d1
  rw [← d2] at this
  exact this
theorem c_legsIn (h : WF N W) (hA : AX W 0 G) {b p : Nat} (hb : b < 7) (hp : p < hN W b) : D_State_legsIn kk 0 (nI (5 * b + p)) G = okI (nI (lg W (fW W b p 2))) G :=
  (rI (c_at hA hb hp (h.1 b hb).1).2.2.1).trans (rI (c_lg h hA hb hp))
theorem aw_0 {b p : Nat} : aw W b p (p + 1) = 0 := sm_0 (fun i hi => if_neg (fun z => by omega))
theorem aw_h {b p : Nat} (h5 : hN W b ≤ 5) : aw W b p (hN W b) = aw W b p 5 := (sm_tail h5 (fun i h1 _ => if_neg (fun z => by omega))).symm
theorem c_inWay (h : WF N W) (hA : AX W 0 G) (hk : 40 ≤ kk) {b p : Nat} (hb : b < 7) (hp : p < hN W b) : D_PB_countInTheWayOf kk (nI (5 * b + p)) G = okI (aw W b p 5) G := by
  have h5 := (h.1 b hb).1
  obtain ⟨e1, e2⟩ := ne_dec (s := 5 * b + p) (by omega)
  unfold D_PB_countInTheWayOf
  rw [e2, e1, show (5 * b + p) / 5 = b by omega, show (5 * b + p) % 5 = p by omega, nI_1]
  have key := loop_from (fun k a i => L_PB_countInTheWayOf kk k (nI (5 * b + p)) (nI b) a i G) (fun i => aw W b p i) (p + 1) 5 (okI (aw W b p 5) G) (fun _ => rfl) (fun k i h0 hi => ?_) (5 - (p + 1)) (p + 1) kk (Nat.le_refl _) (by omega) (by omega)
  · rw [aw_0] at key
    exact key
  · refine (iF (nI_ge (b := 5) hi (by decide))).trans ?_
    refine (rI (c_slotAt h.1 hA hb hi)).trans ?_
    by_cases q : i < hN W b
    · rw [if_pos q]
      refine (rI (c_isSlot (by omega))).trans ?_
      refine (iF (by decide)).trans ?_
      refine (rI (c_legsIn h hA hb q)).trans ?_
      refine (rI (c_legsIn h hA hb hp)).trans ?_
      have l1 := lg_lt h hb q
      have l2 := lg_lt h hb hp
      by_cases z : lg W (fW W b p 2) < lg W (fW W b i 2)
      · refine (iF (nI_ge z (by omega))).trans ?_
        rw [nI_1]
        show _ = L_PB_countInTheWayOf kk k (nI (5 * b + p)) (nI b) (aw W b p i + (if p < i ∧ i < hN W b ∧ lg W (fW W b p 2) < lg W (fW W b i 2) then 1 else 0)) (nI (i + 1)) G
        rw [if_pos ⟨by omega, q, z⟩]
      · refine (iT (nI_le (Nat.not_lt.mp z) (by omega))).trans ?_
        rw [nI_1]
        show _ = L_PB_countInTheWayOf kk k (nI (5 * b + p)) (nI b) (aw W b p i + (if p < i ∧ i < hN W b ∧ lg W (fW W b p 2) < lg W (fW W b i 2) then 1 else 0)) (nI (i + 1)) G
        rw [if_neg (fun y => z y.2.2), Int32.add_zero]
    · rw [if_neg q]
      refine (rI c_isSlotm).trans ?_
      refine (iT rfl).trans ?_
      rw [nI_1]
      show _ = L_PB_countInTheWayOf kk k (nI (5 * b + p)) (nI b) (aw W b p i + (if p < i ∧ i < hN W b ∧ lg W (fW W b p 2) < lg W (fW W b i 2) then 1 else 0)) (nI (i + 1)) G
      rw [if_neg (fun z => q z.2.1), Int32.add_zero]
theorem m_inWay (h : WF N W) (hM : AM W G) (hk : 200 ≤ kk) {b p : Nat} (hb : b < 7) (hp : p < hN W b) : D_Mo_inTheWay kk (nI b) (nI p) G = okI (aw W b p 5) G := by
  have h5 := (h.1 b hb).1
  refine (rI (m_at (k := 2) hM hb (by omega) (by decide))).trans ?_
  refine (rI (m_lg h hM hk hb hp)).trans ?_
  rw [nI_1]
  have key := loop_from (fun k a i => L_Mo_inTheWay kk k (nI b) (nI (lg W (fW W b p 2))) a i G) (fun i => aw W b p i) (p + 1) (hN W b) (okI (aw W b p 5) G) (fun k => ?_) (fun k i h0 hi => ?_) (hN W b - (p + 1)) (p + 1) kk (Nat.le_refl _) (by omega) (by omega)
  · rw [aw_0] at key
    exact key
  · refine (bT (m_hin hb)).trans ?_
    rw [m_hgt h.1 hM hb, aw_h h5]
    exact iT (nI_le (Nat.le_refl _) (by omega))
  · have l1 := lg_lt h hb hi
    have l2 := lg_lt h hb hp
    refine (bT (m_hin hb)).trans ?_
    rw [m_hgt h.1 hM hb]
    refine (iF (nI_ge hi (by omega))).trans ?_
    refine (rI (m_at (k := 2) hM hb (by omega) (by decide))).trans ?_
    refine (rI (m_lg h hM hk hb hi)).trans ?_
    by_cases z : lg W (fW W b p 2) < lg W (fW W b i 2)
    · refine (iF (nI_ge z (by omega))).trans ?_
      rw [nI_1]
      show _ = L_Mo_inTheWay kk k (nI b) (nI (lg W (fW W b p 2))) (aw W b p i + (if p < i ∧ i < hN W b ∧ lg W (fW W b p 2) < lg W (fW W b i 2) then 1 else 0)) (nI (i + 1)) G
      rw [if_pos ⟨by omega, hi, z⟩]
    · refine (iT (nI_le (Nat.not_lt.mp z) (by omega))).trans ?_
      rw [nI_1]
      show _ = L_Mo_inTheWay kk k (nI b) (nI (lg W (fW W b p 2))) (aw W b p i + (if p < i ∧ i < hN W b ∧ lg W (fW W b p 2) < lg W (fW W b i 2) then 1 else 0)) (nI (i + 1)) G
      rw [if_neg (fun y => z y.2.2)]
theorem e_pillowsInTheWay (hk : 200 ≤ kk) (h : Rel t G) (x : Int32) : EQI t (D_Law_pillowsInTheWay kk x G) (fun G => D_Mo_pillowsInTheWay kk x G) := by
  obtain ⟨S, hS, hX, hM⟩ := h
  have hq := c_reqPillow (kk := kk) hS.2.1.1 hX.1 (by omega) x
  have hp := fun G1 (h1 : RelM S G1) => m_placeOf (kk := kk) hS.2.1.1 h1.1 (by omega) x
  cases hf : fP (sW S) x with
  | none =>
    rw [hf] at hq hp
    refine eqi_x (k := 1) hS hX hM (by decide) (by decide) (rIx (rIx (show D_PB_requirePillow kk x G = exc 3 G from hq))) (fun G1 h1 G0 e => ?_)
    subst e
    exact (rI (show D_Mo_placeOf kk x _ = okI (-1) _ from hp _ h1)).trans ((iF (by decide)).trans (rI rfl))
  | some s =>
    obtain ⟨a1, a2, a3⟩ := fP_ok hf
    obtain ⟨e1, e2⟩ := ne_dec a1
    rw [hf] at hq hp
    have hc := c_inWay (kk := kk) hS.2.1 hX.1 (by omega) a2 a3
    rw [show 5 * (s / 5) + s % 5 = s by omega] at hc
    refine eqi_ok (v := aw (sW S) (s / 5) (s % 5) 5) hS hX hM (rI ((rI (show D_PB_requirePillow kk x G = okI (nI s) G from hq)).trans (rI hc))) (fun G1 h1 _ G0 e => ?_)
    subst e
    refine (rI (show D_Mo_placeOf kk x _ = okI (nI s) _ from hp _ h1)).trans ((iT (nn (by omega))).trans ?_)
    rw [e2, e1]
    exact rI (m_inWay hS.2.1 h1.1 hk a2 a3)
theorem c_pairs (h : WF N W) (hA : AX W 0 G) (hk : 40 ≤ kk) : D_PB_countPairs kk G = okI (PWy W) G := by
  refine (loop_up (fun k a i => L_PB_countPairs kk k a i G) (fun i => sm (fun s => if tk W s = true then aw W (s / 5) (s % 5) 5 else 0) i) 35 (okI (sm (fun s => if tk W s = true then aw W (s / 5) (s % 5) 5 else 0) 35) G) (fun _ => rfl) (fun k i hi => ?_) 35 0 kk rfl (by omega)).trans ?_
  · refine (iF (nI_ge (b := 35) hi (by decide))).trans ?_
    refine (rI (c_isTaken h.1 hA hi)).trans ?_
    by_cases z : tk W i = true
    · rw [if_pos z]
      refine (iF (by decide)).trans ?_
      have hc := c_inWay (kk := kk) h hA hk (b := i / 5) (p := i % 5) (by omega) (of_decide_eq_true z)
      rw [show 5 * (i / 5) + i % 5 = i by omega] at hc
      refine (rI hc).trans ?_
      rw [sm, if_pos z, nI_1]
    · rw [if_neg z]
      refine (iT rfl).trans ?_
      rw [sm, if_neg z, Int32.add_zero, nI_1]
  · rw [sm_slots h.1 (fun b p => aw W b p 5)]; rfl
theorem m_pairs (h : WF N W) (hM : AM W G) (hk : 200 ≤ kk) : (L_Mo_pairsInTheWay kk kk).1 0 0 G = okI (PWy W) G := by
  refine loop_two (fun k a b => (L_Mo_pairsInTheWay kk k).1 a b G) (fun k a b p => (L_Mo_pairsInTheWay kk k).2 a b p G) (fun b p => sm (fun b => sm (fun p => aw W b p 5) (hN W b)) b + sm (fun p => aw W b p 5) p) (fun b => hN W b) 7 5 _ (fun k => ?_) (fun k b hb => ?_) (fun k b p hb hp => ?_) (fun k b hb => ?_) (fun b hb => (h.1 b hb).1) 7 0 kk rfl (by omega)
  · refine (show _ = okI (PWy W + 0) G from rfl).trans ?_
    rw [Int32.add_zero]
  · exact iF (nI_ge (b := 7) hb (by decide))
  · have h5 := (h.1 b hb).1
    refine (bT (m_hin hb)).trans ?_
    rw [m_hgt h.1 hM hb]
    refine (iF (nI_ge hp (by omega))).trans ?_
    refine (rI (m_inWay h hM hk hb hp)).trans ?_
    rw [nI_1, Int32.add_assoc]
    rfl
  · have h5 := (h.1 b hb).1
    refine (bT (m_hin hb)).trans ?_
    rw [m_hgt h.1 hM hb]
    refine (iT (nI_le (Nat.le_refl _) (by omega))).trans ?_
    rw [nI_1, show ∀ f : Nat → Int32, sm f 0 = 0 from fun _ => rfl, Int32.add_zero]; rfl
theorem e_pairsInTheWay (hk : 200 ≤ kk) (h : Rel t G) : EQV t (D_PB_pairsInTheWay kk G) (fun G => D_Mo_pairsInTheWay kk G) := by
  obtain ⟨S, hS, hX, hM⟩ := h
  exact eqv hS hX hM (rI (c_pairs hS.2.1 hX.1 (by omega))) (fun G1 h1 G0 e => by subst e; exact m_pairs hS.2.1 h1.1 hk)
theorem e_unloadableCount (hk : 200 ≤ kk) (h : Rel t G) : EQV t (D_PB_unloadableCount kk G) (fun G => D_Mo_unloadableCount kk G) := by
  obtain ⟨S, hS, hX, hM⟩ := h
  have hH := hS.2.1.1
  refine eqv (v := sm (fun b => if fUnload (sW S) (nI b) = 0 then 1 else 0) 7) hS hX hM ?_ (fun G1 h1 G0 e => ?_)
  · refine loop_up (fun k a i => L_PB_unloadableCount kk k a i G) (fun i => sm (fun b => if fUnload (sW S) (nI b) = 0 then 1 else 0) i) 7 _ (fun _ => rfl) (fun k i hi => ?_) 7 0 kk rfl (by omega)
    refine (iF (nI_ge (b := 7) hi (by decide))).trans ?_
    refine (rI (c_fUnload hH hX.1 hS.2.1.lim0 (by omega) (nI i))).trans ?_
    have hl : fUnload (sW S) (nI i) < 6 := fC_lt (W := sW S) (c := 1) (a1 := nI i) (a2 := 0) (a3 := 0)
    by_cases z : fUnload (sW S) (nI i) = 0
    · rw [sm, if_pos z, z, nI_1]; rfl
    · refine (iF (ml_ne z hl)).trans ?_
      rw [sm, if_neg z, Int32.add_zero, nI_1]
  · subst e
    refine loop_up (fun k a i => L_Mo_unloadableCount kk k a i (si G0 (0, 50) 0 0)) (fun i => sm (fun b => if fUnload (sW S) (nI b) = 0 then 1 else 0) i) 7 _ (fun _ => rfl) (fun k i hi => ?_) 7 0 kk rfl (by omega)
    refine (iF (nI_ge (b := 7) hi (by decide))).trans ?_
    refine (rI (m_fUnload hH h1.1 (by omega) (nI i))).trans ?_
    by_cases z : fUnload (sW S) (nI i) = 0
    · rw [sm, if_pos z, z, nI_1]; rfl
    · have hv : mUnload (fUnload (sW S) (nI i)) ≠ 0 ∧ mUnload (fUnload (sW S) (nI i)) < 6 := by
        revert z
        generalize fUnload (sW S) (nI i) = n
        intro z
        unfold mUnload
        split <;> first | (exact absurd rfl z) | decide
      refine (iF (ml_ne hv.1 hv.2)).trans ?_
      rw [sm, if_neg z, nI_1]
theorem e_possibleShifts (hk : 200 ≤ kk) (h : Rel t G) : EQV t (D_PB_possibleShifts kk G) (fun G => D_Mo_possibleShifts kk G) := by
  obtain ⟨S, hS, hX, hM⟩ := h
  have hH := hS.2.1.1
  have hl : ∀ b d, fShift (sW S) (nI b) (nI d) < 6 := fun b d => fC_lt (W := sW S) (c := 2) (a1 := nI b) (a2 := nI d) (a3 := 0)
  refine eqv (v := sm (fun b => sm (fun d => if fShift (sW S) (nI b) (nI d) = 0 then 1 else 0) 7) 7) hS hX hM ?_ (fun G1 h1 G0 e => ?_)
  · refine loop_two (fun k a b => (L_PB_possibleShifts kk k).1 a b G) (fun k a b p => (L_PB_possibleShifts kk k).2 a b p G) (fun b p => sm (fun b => sm (fun d => if fShift (sW S) (nI b) (nI d) = 0 then 1 else 0) 7) b + sm (fun d => if fShift (sW S) (nI b) (nI d) = 0 then 1 else 0) p) (fun _ => 7) 7 7 _ (fun k => ?_) (fun k b hb => ?_) (fun k b p hb hp => ?_) (fun k b hb => ?_) (fun b hb => Nat.le_refl 7) 7 0 kk rfl (by omega)
    · refine (show _ = okI (sm (fun b => sm (fun d => if fShift (sW S) (nI b) (nI d) = 0 then 1 else 0) 7) 7 + 0) G from rfl).trans ?_
      rw [Int32.add_zero]
    · exact iF (nI_ge (b := 7) hb (by decide))
    · refine (iF (nI_ge (b := 7) hp (by decide))).trans ?_
      refine (rI (c_fShift hH hX.1 hS.2.1.lim0 (by omega) (nI b) (nI p))).trans ?_
      by_cases z : fShift (sW S) (nI b) (nI p) = 0
      · rw [sm, if_pos z, z, nI_1, ← Int32.add_assoc]; rfl
      · refine (iF (ml_ne z (hl b p))).trans ?_
        rw [sm, if_neg z, Int32.add_zero, nI_1]
    · show (L_PB_possibleShifts kk k).1 _ (nI b + 1) G = _
      rw [nI_1, show ∀ f : Nat → Int32, sm f 0 = 0 from fun _ => rfl, Int32.add_zero]; rfl
  · subst e
    refine loop_two (fun k a b => (L_Mo_possibleShifts kk k).1 a b (si G0 (0, 50) 0 0)) (fun k a b p => (L_Mo_possibleShifts kk k).2 a b p (si G0 (0, 50) 0 0)) (fun b p => sm (fun b => sm (fun d => if fShift (sW S) (nI b) (nI d) = 0 then 1 else 0) 7) b + sm (fun d => if fShift (sW S) (nI b) (nI d) = 0 then 1 else 0) p) (fun _ => 7) 7 7 _ (fun k => ?_) (fun k b hb => ?_) (fun k b p hb hp => ?_) (fun k b hb => ?_) (fun b hb => Nat.le_refl 7) 7 0 kk rfl (by omega)
    · refine (show _ = okI (sm (fun b => sm (fun d => if fShift (sW S) (nI b) (nI d) = 0 then 1 else 0) 7) 7 + 0) (si G0 (0, 50) 0 0) from rfl).trans ?_
      rw [Int32.add_zero]
    · exact iF (nI_ge (b := 7) hb (by decide))
    · refine (iF (nI_ge (b := 7) hp (by decide))).trans ?_
      refine (rI (m_fShift hH h1.1 (by omega) (nI b) (nI p))).trans ?_
      by_cases z : fShift (sW S) (nI b) (nI p) = 0
      · rw [sm, if_pos z, z, nI_1, ← Int32.add_assoc]; rfl
      · refine (iF (ml_ne z (hl b p))).trans ?_
        rw [sm, if_neg z, ← Int32.add_assoc, nI_1]
    · show (L_Mo_possibleShifts kk k).1 _ (nI b + 1) (si G0 (0, 50) 0 0) = _
      rw [nI_1, show ∀ f : Nat → Int32, sm f 0 = 0 from fun _ => rfl, Int32.add_zero]; rfl
theorem si_si {r : Rf} {f : Nat} {u v : Int32} : si (si G r f u) r f v = si G r f v := by
  obtain ⟨g1, g2⟩ := G
  unfold si
  refine congrArg (fun z => (z, g2)) ?_
  funext q k
  show (if q = r ∧ k = f then v else (if q = r ∧ k = f then u else g1 q k)) = (if q = r ∧ k = f then v else g1 q k)
  by_cases h : q = r ∧ k = f
  · rw [if_pos h, if_pos h]
  · rw [if_neg h, if_neg h, if_neg h]
/-- the best port after some legs -/
def bst (W : Nat → Int32) : Nat → Int32
  | 0 => W 1
  | n + 1 => if wP W (pB W (nI (n + 1))) ≤ wP W (bst W n) then bst W n else pB W (nI (n + 1))
theorem bst_p (hV : VW W) : ∀ n, n < 100 → ∃ q, q < 5 ∧ bst W n = nI q
  | 0, _ => by
    obtain ⟨p, e, hp, he, h1, h2⟩ := hV
    exact ⟨p, hp, h1⟩
  | n + 1, hn => by
    obtain ⟨q, hq, e1⟩ := bst_p hV n (by omega)
    obtain ⟨p, e, hp, he, h1, h2⟩ := hV
    unfold bst
    by_cases z : wP W (pB W (nI (n + 1))) ≤ wP W (bst W n)
    · rw [if_pos z]; exact ⟨q, hq, e1⟩
    · rw [if_neg z]; exact ⟨_, pN_lt, pB_eq hp he h1 h2 hn⟩
theorem e_heaviestPort (hk : 200 ≤ kk) (h : Rel t G) : EQI t (D_Law_heaviestPort kk G) (fun G => D_Mo_heaviestPort kk G) := by
  obtain ⟨S, hS, hX, hM⟩ := h
  obtain ⟨p, e, hp, he, w1, w2⟩ := hS.2.1.2.1
  have hH := hS.2.1.1
  by_cases h0 : cnt (sW S) = 0
  · have hx : D_PB_heaviestPort kk G = exc 3 G := (rI (c_countPillows hX.1 (by omega))).trans (iT h0)
    refine eqi_x (k := 1) hS hX hM (by decide) (by decide) (rIx hx) (fun G1 h1 G0 e => ?_)
    subst e
    refine (rI (m_countAll (kk := kk) (W := sW S) h1.1 (by omega))).trans ((iT h0).trans ((rI rfl).trans ?_))
    rw [si_si]
  · have hx : D_PB_heaviestPort kk G = okI (bst (sW S) 4) G := by
      refine (rI (c_countPillows hX.1 (by omega))).trans ((iF h0).trans ?_)
      rw [hX.1.2.2.1]
      refine loop_from (fun k x i => L_PB_heaviestPort kk k x i G) (fun i => bst (sW S) (i - 1)) 1 5 _ (fun _ => rfl) (fun k i hi0 hi => ?_) 4 1 (Nat.min kk 8) (by omega) (by omega) (by rw [show Nat.min kk 8 = 8 from Nat.min_eq_right (by omega)]; decide)
      obtain ⟨i, rfl⟩ : ∃ j, i = j + 1 := ⟨i - 1, by omega⟩
      refine (iF (nI_ge (b := 5) hi (by decide))).trans ?_
      refine (rI (c_portIn hX.1 hp he w1 w2 (by omega))).trans ?_
      rw [← pB_eq hp he w1 w2 (by omega)]
      refine (rI (c_weightForPort hH hX.1 (by omega) _)).trans ?_
      refine (rI (c_weightForPort hH hX.1 (by omega) _)).trans ?_
      show _ = L_PB_heaviestPort kk k (if wP (sW S) (pB (sW S) (nI (i + 1))) ≤ wP (sW S) (bst (sW S) i) then bst (sW S) i else pB (sW S) (nI (i + 1))) (nI (i + 1 + 1)) G
      rw [← nI_1 (i + 1)]
      by_cases z : wP (sW S) (pB (sW S) (nI (i + 1))) ≤ wP (sW S) (bst (sW S) i)
      · exact (iT z).trans (by rw [if_pos z]; rfl)
      · exact (iF z).trans (by rw [if_neg z])
    refine eqi_ok (v := bst (sW S) 4) hS hX hM (rI hx) (fun G1 h1 _ G0 e0 => ?_)
    subst e0
    refine (rI (m_countAll (kk := kk) (W := sW S) h1.1 (by omega))).trans ((iF h0).trans ?_)
    rw [show ga G0 (0, 51) 1 = sW S 1 from h1.1 1 (by decide)]
    have key := loop_from (fun k (x : Int32 × GS) i => L_Mo_heaviestPort kk k x.1 i x.2) (fun i => (bst (sW S) (i - 1), if i = 1 then G0 else si G0 (0, 50) 0 0)) 1 5 (okI (bst (sW S) 4) (si G0 (0, 50) 0 0)) (fun k => ?_) (fun k i hi0 hi => ?_) 4 1 kk (by omega) (by omega) (by omega)
    · exact key
    · show okI (bst (sW S) 4) (si (si G0 (0, 50) 0 0) (0, 50) 0 0) = _
      rw [si_si]
    · obtain ⟨i, rfl⟩ : ∃ j, i = j + 1 := ⟨i - 1, by omega⟩
      have two : ∀ Ga, (Ga = G0 ∨ Ga = si G0 (0, 50) 0 0) → RelM S (si Ga (0, 50) 0 0) ∧ si Ga (0, 50) 0 0 = si G0 (0, 50) 0 0 := by
        intro Ga hGa
        rcases hGa with rfl | rfl
        · exact ⟨h1, rfl⟩
        · rw [si_si]; exact ⟨h1, rfl⟩
      have step : ∀ Ga, (Ga = G0 ∨ Ga = si G0 (0, 50) 0 0) → L_Mo_heaviestPort kk (k + 1) (bst (sW S) i) (nI (i + 1)) Ga = L_Mo_heaviestPort kk k (bst (sW S) (i + 1)) (nI (i + 1 + 1)) (si G0 (0, 50) 0 0) := by
        intro Ga hGa
        obtain ⟨g1, g2⟩ := two Ga hGa
        obtain ⟨q, hq, eq⟩ := bst_p (W := sW S) ⟨p, e, hp, he, w1, w2⟩ i (by omega)
        refine (iF (nI_ge (b := 5) hi (by decide))).trans ?_
        refine (rI (m_portBehind (W := sW S) g1.1 _)).trans ?_
        have eb : pB (sW S) (nI (i + 1)) = nI (pN p e (i + 1)) := pB_eq hp he w1 w2 (by omega)
        rw [eb]
        refine (rI (m_weightFor hS hk g1 pN_lt)).trans ?_
        rw [g2, eq]
        refine (rI (m_weightFor hS hk (G0 := si G0 (0, 50) 0 0) (by rw [si_si]; exact h1) hq)).trans ?_
        rw [si_si, ← eb, ← eq]
        show _ = L_Mo_heaviestPort kk k (if wP (sW S) (pB (sW S) (nI (i + 1))) ≤ wP (sW S) (bst (sW S) i) then bst (sW S) i else pB (sW S) (nI (i + 1))) (nI (i + 1 + 1)) (si G0 (0, 50) 0 0)
        rw [← nI_1 (i + 1)]
        by_cases z : wP (sW S) (pB (sW S) (nI (i + 1))) ≤ wP (sW S) (bst (sW S) i)
        · exact (iT z).trans (by rw [if_pos z])
        · exact (iF z).trans (by rw [if_neg z])
      by_cases z : i + 1 = 1
      · show L_Mo_heaviestPort kk (k + 1) (bst (sW S) i) (nI (i + 1)) (if i + 1 = 1 then G0 else si G0 (0, 50) 0 0) = L_Mo_heaviestPort kk k (bst (sW S) (i + 1)) (nI (i + 1 + 1)) (if i + 1 + 1 = 1 then G0 else si G0 (0, 50) 0 0)
        rw [if_pos z, if_neg (by omega)]
        exact step _ (Or.inl rfl)
      · show L_Mo_heaviestPort kk (k + 1) (bst (sW S) i) (nI (i + 1)) (if i + 1 = 1 then G0 else si G0 (0, 50) 0 0) = L_Mo_heaviestPort kk k (bst (sW S) (i + 1)) (nI (i + 1 + 1)) (if i + 1 + 1 = 1 then G0 else si G0 (0, 50) 0 0)
        rw [if_neg z, if_neg (by omega)]
        exact step _ (Or.inr rfl)
end Wy
/-! PAIRS BY STACKS -/
def Fr17 (G G' : GS) : Prop := (∀ r f, gi G' r f = gi G r f) ∧ (∀ r : Rf, r ≠ (0, 17) → ∀ i, ga G' r i = ga G r i) ∧ G'.2.2 = G.2.2
theorem Fr17.rf {G : GS} : Fr17 G G := ⟨fun _ _ => rfl, fun _ _ _ => rfl, rfl⟩
theorem Fr17.tr {G G1 G2 : GS} (h : Fr17 G G1) (g : Fr17 G1 G2) : Fr17 G G2 := ⟨fun r f => (g.1 r f).trans (h.1 r f), fun r hr i => (g.2.1 r hr i).trans (h.2.1 r hr i), g.2.2.trans h.2.2⟩
theorem Fr17.sa {G : GS} {i : Nat} {v : Int32} : Fr17 G (sa G (0, 17) i v) := ⟨fun _ _ => rfl, fun r hr i' => by rw [ga_sa, if_neg (fun z => hr z.1)], rfl⟩
theorem AX_17 {W : Nat → Int32} {j : Nat} {G G' : GS} (h : AX W j G) (f : Fr17 G G') : AX W j G' := AX_eq h (fun k _ k9 => ⟨fun i => f.1 _ i, fun i => f.2.1 _ (fun z => by have := congrArg Prod.snd z; simp at this; omega) i⟩)
theorem RelX_17 {S : SS} {G G' : GS} (h : RelX S G) (f : Fr17 G G') : RelX S G' := by
  obtain ⟨h1, ⟨a1, a2, nx, a3, a4, a5⟩, hr⟩ := h
  exact ⟨AX_17 h1 f, ⟨(f.1 _ _).trans a1, a2, nx, a3, (f.1 _ _).trans a4, fun i row hi => AX_17 (a5 i row hi) f⟩, RXr_of hr (fun r hr => ⟨fun i => f.1 r i, fun i => f.2.1 r (fun z => by
    subst z
    rcases hr with hr | hr | hr | hr <;> first | (cases hr; done) | exact absurd hr.2.2 (by decide)) i⟩) (congrArg Prod.fst f.2.2)⟩
theorem FrX_17 {G G' : GS} (f : Fr17 G G') : FrX G G' := fun r hr => ⟨fun i => f.1 r i, fun i => f.2.1 r (fun z => by rw [z] at hr; exact absurd hr (by decide)) i⟩
/-- pillows from i upwards in bay b with x legs -/
def cl (W : Nat → Int32) (b i x : Nat) : Int32 := sm (fun p => if i ≤ p ∧ p < hN W b ∧ lg W (fW W b p 2) = x then 1 else 0) 5
section Sk
variable {kk : Nat} {G : GS} {S : SS} {t N : Nat} {W : Nat → Int32}
theorem cl_s {b i x : Nat} (h5 : hN W b ≤ 5) (hi : i < hN W b) : cl W b i x = cl W b (i + 1) x + if lg W (fW W b i 2) = x then 1 else 0 := by
  by_cases z : lg W (fW W b i 2) = x
  · rw [if_pos z]
    refine sm_at (b := i) (by omega) (fun p hp hne => ?_) ?_
    · by_cases q : i + 1 ≤ p
      · by_cases q2 : p < hN W b ∧ lg W (fW W b p 2) = x
        · rw [if_pos ⟨by omega, q2⟩, if_pos ⟨q, q2⟩]
        · rw [if_neg (fun y => q2 y.2), if_neg (fun y => q2 y.2)]
      · rw [if_neg (fun y => by omega), if_neg (fun y => q y.1)]
    · rw [if_pos ⟨Nat.le_refl _, hi, z⟩, if_neg (fun y => by omega)]; rfl
  · rw [if_neg z, Int32.add_zero]
    refine sm_congr (fun p hp => ?_)
    by_cases q : i + 1 ≤ p
    · by_cases q2 : p < hN W b ∧ lg W (fW W b p 2) = x
      · rw [if_pos ⟨by omega, q2⟩, if_pos ⟨q, q2⟩]
      · rw [if_neg (fun y => q2 y.2), if_neg (fun y => q2 y.2)]
    · rw [if_neg (fun y => q y.1), if_neg (fun y => by
        obtain rfl : p = i := by omega
        exact z y.2.2)]
theorem cl_h {b i x : Nat} (hi : hN W b ≤ i) : cl W b i x = 0 := sm_0 (fun p _ => if_neg (fun z => by omega))
theorem cl_sum (h : WF N W) {b i : Nat} (hb : b < 7) (hi : i < hN W b) : sm (fun x => if lg W (fW W b i 2) < x then cl W b (i + 1) x else 0) 5 = aw W b i 5 := by
  have e1 : sm (fun x => if lg W (fW W b i 2) < x then cl W b (i + 1) x else 0) 5 = sm (fun x => sm (fun p => if lg W (fW W b i 2) < x ∧ i + 1 ≤ p ∧ p < hN W b ∧ lg W (fW W b p 2) = x then 1 else 0) 5) 5 := by
    refine sm_congr (fun x hx => ?_)
    by_cases z : lg W (fW W b i 2) < x
    · rw [if_pos z]
      refine sm_congr (fun p hp => ?_)
      by_cases y : i + 1 ≤ p ∧ p < hN W b ∧ lg W (fW W b p 2) = x
      · rw [if_pos y, if_pos ⟨z, y⟩]
      · rw [if_neg y, if_neg (fun q => y q.2)]
    · rw [if_neg z]
      exact (sm_0 (fun p _ => if_neg (fun y => z y.1))).symm
  rw [e1, sm_swap]
  refine sm_congr (fun p hp => ?_)
  by_cases z : i < p ∧ p < hN W b
  · have hl := lg_lt h hb z.2
    by_cases y : lg W (fW W b i 2) < lg W (fW W b p 2)
    · rw [if_pos ⟨z.1, z.2, y⟩, ← sm_one (n := 5) (v := 1) hl]
      refine sm_congr (fun x hx => ?_)
      by_cases q : x = lg W (fW W b p 2)
      · subst q; rw [if_pos rfl, if_pos ⟨y, z.1, z.2, rfl⟩]
      · rw [if_neg q, if_neg (fun r => q r.2.2.2.symm)]
    · rw [if_neg (fun q => y q.2.2)]
      exact sm_0 (fun x _ => if_neg (fun q => y (q.2.2.2 ▸ q.1)))
  · rw [if_neg (fun q => z ⟨q.1, q.2.1⟩)]
    exact sm_0 (fun x _ => if_neg (fun q => z ⟨q.2.1, q.2.2.1⟩))
theorem c_see (hk : 40 ≤ kk) {l : Nat} (hl : l < 5) {A : Nat → Int32} (hA : ∀ x, x < 5 → ga G (0, 17) x = A x) : D_PB_seePillow kk (nI l) G = okI (sm (fun x => if l < x then A x else 0) 5) (sa G (0, 17) l (A l + 1)) := by
  refine loop_up (fun k a i => L_PB_seePillow kk k (nI l) a i G) (fun i => sm (fun x => if l < x then A x else 0) i) 5 _ (fun k => ?_) (fun k i hi => ?_) 5 0 kk rfl (by omega)
  · show (D_PB_isPort kk (nI l) G).bind _ = _
    refine (rI (c_isPort hl)).trans ?_
    refine (iF (by decide)).trans ?_
    refine (bT (in_of hl (by decide))).trans ((bT (in_of hl (by decide))).trans ?_)
    rw [nI_clamp (by omega), hA l hl]
  · refine (iF (nI_ge (b := 5) hi (by decide))).trans ?_
    by_cases z : l < i
    · refine (iF (nI_ge z (by omega))).trans ((bT (in_of hi (by decide))).trans ?_)
      rw [nI_clamp (by omega), hA i hi, sm, if_pos z, nI_1]
    · refine (iT (nI_le (Nat.not_lt.mp z) (by omega))).trans ?_
      rw [sm, if_neg z, Int32.add_zero, nI_1]
theorem c_stackL (h : WF N W) (hk : 40 ≤ kk) {b : Nat} (hb : b < 7) : ∀ (n : Nat) (a : Int32) (G : GS) (k : Nat), n ≤ 5 → n < k → AX W 0 G → (∀ x, x < 5 → ga G (0, 17) x = cl W b n x) → ∃ G', (L_PB_countPairsInStack kk k).2 (nI b) a (nI n - 1) G = okI (a + sm (fun p => if p < hN W b then aw W b p 5 else 0) n) G' ∧ Fr17 G G'
  | 0, a, G, k, hn, hk2, hA, hc => by
    obtain ⟨k, rfl⟩ : ∃ j, k = j + 1 := ⟨k - 1, by omega⟩
    refine ⟨G, ?_, Fr17.rf⟩
    rw [show sm (fun p => if p < hN W b then aw W b p 5 else 0) 0 = 0 from rfl, Int32.add_zero]
    rfl
  | n + 1, a, G, k, hn, hk2, hA, hc => by
    obtain ⟨k, rfl⟩ : ∃ j, k = j + 1 := ⟨k - 1, by omega⟩
    have h5 := (h.1 b hb).1
    rw [nI_pred]
    by_cases q : n < hN W b
    · have hl := lg_lt h hb q
      obtain ⟨G', g1, g2⟩ := c_stackL h hk hb n (a + aw W b n 5) (sa G (0, 17) (lg W (fW W b n 2)) (cl W b (n + 1) (lg W (fW W b n 2)) + 1)) k (by omega) (by omega) (AX_17 hA Fr17.sa) (fun x hx => by
        rw [ga_sa, cl_s h5 q]
        by_cases e : x = lg W (fW W b n 2)
        · rw [if_pos ⟨rfl, e⟩, e, if_pos rfl]
        · rw [if_neg (fun z => e z.2), hc x hx, if_neg (fun z => e z.symm), Int32.add_zero])
      refine ⟨G', ?_, Fr17.sa.tr g2⟩
      refine (iF (nI_pos (by omega))).trans ?_
      refine (rI (c_slotAt h.1 hA hb (by omega))).trans ?_
      rw [if_pos q]
      refine (rI (c_isSlot (by omega))).trans ((iF (by decide)).trans ?_)
      refine (rI (c_legsIn h hA hb q)).trans ?_
      refine (rI (c_see hk hl hc)).trans ?_
      rw [cl_sum h hb q]
      show (L_PB_countPairsInStack kk k).2 (nI b) (a + aw W b n 5) (nI n - 1) _ = _
      rw [g1, sm, if_pos q, Int32.add_assoc, Int32.add_comm (aw W b n 5)]
    · obtain ⟨G', g1, g2⟩ := c_stackL h hk hb n a G k (by omega) (by omega) hA (fun x hx => by rw [hc x hx, cl_h (by omega), cl_h (by omega)])
      refine ⟨G', ?_, g2⟩
      refine (iF (nI_pos (by omega))).trans ?_
      refine (rI (c_slotAt h.1 hA hb (by omega))).trans ?_
      rw [if_neg q]
      refine (rI c_isSlotm).trans ((iT rfl).trans ?_)
      show (L_PB_countPairsInStack kk k).2 (nI b) a (nI n - 1) _ = _
      rw [g1, sm, if_neg q, Int32.add_zero]
theorem c_stack (h : WF N W) (hk : 40 ≤ kk) (hA : AX W 0 G) {b : Nat} (hb : b < 7) : ∃ G', D_PB_countPairsInStack kk (nI b) G = okI (sm (fun p => aw W b p 5) (hN W b)) G' ∧ Fr17 G G' := by
  obtain ⟨k, rfl⟩ : ∃ k, kk = k + 6 := ⟨kk - 6, by omega⟩
  have h5 := (h.1 b hb).1
  obtain ⟨G', g1, g2⟩ := c_stackL (kk := k + 6) h hk hb 5 0 (sa (sa (sa (sa (sa G (0, 17) 0 0) (0, 17) 1 0) (0, 17) 2 0) (0, 17) 3 0) (0, 17) 4 0) k (Nat.le_refl _) (by omega) (AX_17 hA ((((Fr17.sa.tr Fr17.sa).tr Fr17.sa).tr Fr17.sa).tr Fr17.sa)) (fun x hx => by
    rw [cl_h h5]
    match x, hx with
    | 0, _ => rfl
    | 1, _ => rfl
    | 2, _ => rfl
    | 3, _ => rfl
    | 4, _ => rfl)
  refine ⟨G', ?_, ((((Fr17.sa.tr Fr17.sa).tr Fr17.sa).tr Fr17.sa).tr Fr17.sa).tr g2⟩
  rw [Int32.zero_add, sm_cut _ h5] at g1
  exact g1
theorem c_byStacks (h : WF N W) (hk : 40 ≤ kk) (hA : AX W 0 G) : ∃ G', D_PB_countPairsByStacks kk G = okI (PWy W) G' ∧ Fr17 G G' := by
  have key : ∀ n i k (G : GS), i + n = 7 → n < k → AX W 0 G → ∃ G', L_PB_countPairsByStacks kk k (sm (fun b => sm (fun p => aw W b p 5) (hN W b)) i) (nI i) G = okI (PWy W) G' ∧ Fr17 G G' := by
    intro n
    induction n with
    | zero =>
      intro i k G hi hk2 hA
      obtain ⟨k, rfl⟩ : ∃ j, k = j + 1 := ⟨k - 1, by omega⟩
      obtain rfl : i = 7 := by omega
      exact ⟨G, rfl, Fr17.rf⟩
    | succ n ih =>
      intro i k G hi hk2 hA
      obtain ⟨k, rfl⟩ : ∃ j, k = j + 1 := ⟨k - 1, by omega⟩
      obtain ⟨G1, a1, a2⟩ := c_stack h hk hA (b := i) (by omega)
      obtain ⟨G2, b1, b2⟩ := ih (i + 1) k G1 (by omega) (by omega) (AX_17 hA a2)
      refine ⟨G2, ?_, a2.tr b2⟩
      refine (iF (nI_ge (b := 7) (by omega) (by decide))).trans ((rI a1).trans ?_)
      rw [nI_1]
      exact b1
  exact key 7 0 kk G rfl (by omega) hA
theorem e_pairsByStacks (hk : 200 ≤ kk) (h : Rel t G) : EQV t (D_PB_pairsInTheWayByStacks kk G) (fun G => D_Mo_pairsInTheWayByStacks kk G) := by
  obtain ⟨S, hS, hX, hM⟩ := h
  obtain ⟨G1, g1, g2⟩ := c_byStacks (kk := kk) hS.2.1 (by omega) hX.1
  have hM1 : RelM S (si G1 (0, 50) 0 0) := RelM_th (RelM_fr hM (FrX_17 g2))
  exact ⟨PWy (sW S), G1, si G1 (0, 50) 0 0, rI g1, rI (m_pairs hS.2.1 hM1.1 hk), Rel_th hS (RelX_17 hX g2) (RelM_fr hM (FrX_17 g2))⟩
theorem e_isConsistent (hk : 200 ≤ kk) (h : Rel t G) : EQV t (D_PB_isConsistent kk G) (fun G => D_Mo_isConsistent kk G) := by
  obtain ⟨S, hS, hX, hM⟩ := h
  have hH := hS.2.1.1
  have hy := hS.2.1.2.2.2.1
  obtain ⟨G1, g1, g2⟩ := c_byStacks (kk := kk) hS.2.1 (by omega) hX.1
  have hX1 := RelX_17 hX g2
  have hM1 : RelM S (si G1 (0, 50) 0 0) := RelM_th (RelM_fr hM (FrX_17 g2))
  refine ⟨if sW S 4 = sW S 5 + cnt (sW S) then 1 else 0, G1, si G1 (0, 50) 0 0, ?_, ?_, Rel_th hS hX1 (RelM_fr hM (FrX_17 g2))⟩
  · refine (rI (c_momentOfPillows hH hX.1 (by omega))).trans ((rI (c_momentOfBays hH hX.1 (by omega))).trans ((iT rfl).trans ?_))
    refine (rI (c_pairs hS.2.1 hX.1 (by omega))).trans ((rI g1).trans ((iT rfl).trans ?_))
    have hw := c_within (kk := kk) hX1.1 hS.2.1.lim0 0
    rw [Int32.add_zero, hy, if_neg Bool.false_ne_true] at hw
    refine (rI hw).trans ((iF (by decide)).trans ?_)
    refine (rI (c_countPillows hX1.1 (by omega))).trans ?_
    rw [hX1.1.2.2.2.2.2.2 0 (by decide), hX1.1.2.2.2.2.2.2 1 (by decide)]
    by_cases z : sW S 4 = sW S 5 + cnt (sW S)
    · rw [if_pos z]; exact iT z
    · rw [if_neg z]; exact iF z
  · have hb := m_isBeyond (kk := kk) hH hM1.1 (by omega) 0
    rw [hy, if_neg Bool.false_ne_true] at hb
    refine (rI hb).trans ((iT rfl).trans ((rI (m_countAll hM1.1 (by omega))).trans ?_))
    rw [hM1.1 4 (by decide), hM1.1 5 (by decide)]
    by_cases z : sW S 4 = sW S 5 + cnt (sW S)
    · rw [if_pos z]; exact iT z
    · rw [if_neg z]; exact iF z
end Sk
