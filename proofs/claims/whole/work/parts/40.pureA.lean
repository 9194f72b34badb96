/-! PURE: how the functions of the methods are run -/
section Run
variable {A : Res} {G : GS} {v : Int32} {e : Nat} {kI : Int32 → GS → Res} {kV : GS → Res} {kx : Nat → GS → Res}
theorem rI (h : A = okI v G) : A.bind (fun r => oI r kI kx) = kI v G := by rw [h]; rfl
theorem rIx (h : A = exc e G) : A.bind (fun r => oI r kI kx) = kx e G := by rw [h]; rfl
theorem rV (h : A = okV G) : A.bind (fun r => oV r kV kx) = kV G := by rw [h]; rfl
theorem rVx (h : A = exc e G) : A.bind (fun r => oV r kV kx) = kx e G := by rw [h]; rfl
theorem rF {w : UInt32} {k : UInt32 → GS → Res} (h : A = okF w G) : A.bind (fun r => oF r k kx) = k w G := by rw [h]; rfl
theorem rFx {k : UInt32 → GS → Res} (h : A = exc e G) : A.bind (fun r => oF r k kx) = kx e G := by rw [h]; rfl
theorem rD {w : UInt64} {k : UInt64 → GS → Res} (h : A = okD w G) : A.bind (fun r => oD r k kx) = k w G := by rw [h]; rfl
theorem rDx {k : UInt64 → GS → Res} (h : A = exc e G) : A.bind (fun r => oD r k kx) = kx e G := by rw [h]; rfl
theorem rR {q kn : Nat} {k : Nat → GS → Res} (h : A = okR (q, kn) G) : A.bind (fun r => oR kn r k kx) = k q G := by
  rw [h]
  show (bif Nat.beq kn kn then k q G else none) = k q G
  rw [Nat.beq_refl]; rfl
theorem rQ {q : Nat} {k0 : GS → Res} {k : Nat → GS → Res} (h : A = okR (q, 1) G) : A.bind (fun r => oQ 1 r k0 k kx) = k q G := by rw [h]; rfl
end Run
theorem iT {c : Prop} [Decidable c] {α : Sort _} {a b : α} (h : c) : (if c then a else b) = a := if_pos h
theorem iF {c : Prop} [Decidable c] {α : Sort _} {a b : α} (h : ¬ c) : (if c then a else b) = b := if_neg h
theorem bT {c : Bool} {α : Type} {a b : α} (h : c = true) : (bif c then a else b) = a := by rw [h]; rfl
theorem lit_nI (n : Nat) : (OfNat.ofNat n : Int32) = nI n := rfl
/-- an index is below 0, beyond, or good -/
theorem ixc (x : Int32) {n : Nat} (hn : n < 2 ^ 31) : (x < 0) ∨ (¬ x < 0 ∧ nI n ≤ x) ∨ ∃ j : Nat, j < n ∧ x = nI j := by
  rcases pk_ix x hn with h | h | h
  · exact Or.inl h
  · by_cases h0 : x < 0
    · exact Or.inl h0
    · exact Or.inr (Or.inl ⟨h0, h⟩)
  · exact Or.inr (Or.inr h)
def sm (f : Nat → Int32) : Nat → Int32
  | 0 => 0
  | n + 1 => sm f n + f n
theorem sm_congr {f g : Nat → Int32} : ∀ {n : Nat}, (∀ i, i < n → f i = g i) → sm f n = sm g n
  | 0, _ => rfl
  | n + 1, h => by rw [sm, sm, sm_congr (fun i hi => h i (Nat.lt_succ_of_lt hi)), h n (Nat.lt_succ_self n)]
theorem sm_add (f : Nat → Int32) (m : Nat) : ∀ n, sm f (m + n) = sm f m + sm (fun i => f (m + i)) n
  | 0 => by rw [Nat.add_zero, sm, Int32.add_zero]
  | n + 1 => by rw [← Nat.add_assoc, sm, sm_add f m n, sm, Int32.add_assoc]
theorem sm_zero : ∀ n, sm (fun _ => 0) n = 0
  | 0 => rfl
  | n + 1 => by rw [sm, sm_zero n]; rfl
theorem sm_mul (f : Nat → Int32) (m : Nat) : ∀ n, sm f (m * n) = sm (fun b => sm (fun p => f (m * b + p)) m) n
  | 0 => rfl
  | n + 1 => by rw [Nat.mul_succ, sm_add, sm_mul f m n, sm]
theorem sm_cut (f : Nat → Int32) {h : Nat} : ∀ {n : Nat}, h ≤ n → sm (fun p => if p < h then f p else 0) n = sm f h
  | 0, hn => by
    obtain rfl : h = 0 := Nat.le_zero.mp hn
    rfl
  | n + 1, hn => by
    rcases Nat.lt_or_ge n h with q | q
    · obtain rfl : h = n + 1 := by omega
      exact sm_congr (fun i hi => if_pos hi)
    · rw [sm, sm_cut f q, if_neg (by omega), Int32.add_zero]
/-- counting up to N -/
theorem loop_up {α : Type} (F : Nat → α → Int32 → Res) (st : Nat → α) (N : Nat) (R : Res) (hend : ∀ k, F (k + 1) (st N) (nI N) = R) (hstep : ∀ k i, i < N → F (k + 1) (st i) (nI i) = F k (st (i + 1)) (nI (i + 1))) : ∀ (n i k : Nat), i + n = N → n < k → F k (st i) (nI i) = R
  | 0, i, k, hi, hk => by
    obtain ⟨k, rfl⟩ : ∃ j, k = j + 1 := ⟨k - 1, by omega⟩
    obtain rfl : i = N := by omega
    exact hend k
  | n + 1, i, k, hi, hk => by
    obtain ⟨k, rfl⟩ : ∃ j, k = j + 1 := ⟨k - 1, by omega⟩
    rw [hstep k i (by omega)]
    exact loop_up F st N R hend hstep n (i + 1) k (by omega) (by omega)
/-- the first of i, i + 1, .. (n of them) with P -/
def fnd (P : Nat → Bool) : Nat → Nat → Option Nat
  | _, 0 => none
  | i, n + 1 => if P i = true then some i else fnd P (i + 1) n
def fsel (Rs : Nat → Res) (Rn : Res) : Option Nat → Res
  | some j => Rs j
  | none => Rn
theorem fnd_add (P : Nat → Bool) : ∀ (m i n : Nat), fnd P i (m + n) = (fnd P i m).or (fnd P (i + m) n)
  | 0, i, n => by rw [Nat.zero_add, fnd]; rfl
  | m + 1, i, n => by
    rw [show m + 1 + n = (m + n) + 1 by omega, fnd, fnd]
    by_cases h : P i = true
    · rw [if_pos h, if_pos h]; rfl
    · rw [if_neg h, if_neg h, fnd_add P m (i + 1) n, show i + 1 + m = i + (m + 1) by omega]
theorem fnd_congr {P Q : Nat → Bool} : ∀ (n i : Nat), (∀ j, i ≤ j → j < i + n → P j = Q j) → fnd P i n = fnd Q i n
  | 0, _, _ => rfl
  | n + 1, i, h => by rw [fnd, fnd, h i (Nat.le_refl _) (by omega), fnd_congr n (i + 1) (fun j h1 h2 => h j (by omega) (by omega))]
theorem fnd_some {P : Nat → Bool} : ∀ (n i j : Nat), fnd P i n = some j → i ≤ j ∧ j < i + n ∧ P j = true
  | 0, _, _, h => by cases h
  | n + 1, i, j, h => by
    rw [fnd] at h
    by_cases q : P i = true
    · rw [if_pos q] at h; cases h
      exact ⟨Nat.le_refl _, by omega, q⟩
    · rw [if_neg q] at h
      obtain ⟨a, b, c⟩ := fnd_some n (i + 1) j h
      exact ⟨by omega, by omega, c⟩
theorem fnd_none {P : Nat → Bool} : ∀ (n i : Nat), fnd P i n = none → ∀ j, i ≤ j → j < i + n → P j = false
  | 0, _, _, j, h1, h2 => by omega
  | n + 1, i, h, j, h1, h2 => by
    rw [fnd] at h
    by_cases q : P i = true
    · rw [if_pos q] at h; cases h
    · rw [if_neg q] at h
      rcases Nat.eq_or_lt_of_le h1 with rfl | h3
      · simpa using q
      · exact fnd_none n (i + 1) h j h3 (by omega)
theorem loop_find (F : Nat → Int32 → Res) (P : Nat → Bool) (Rs : Nat → Res) (Rn : Res) (N : Nat) (hend : ∀ k, F (k + 1) (nI N) = Rn) (hstep : ∀ k i, i < N → F (k + 1) (nI i) = if P i = true then Rs i else F k (nI (i + 1))) : ∀ (n i k : Nat), i + n = N → n < k → F k (nI i) = fsel Rs Rn (fnd P i n)
  | 0, i, k, hi, hk => by
    obtain ⟨k, rfl⟩ : ∃ j, k = j + 1 := ⟨k - 1, by omega⟩
    obtain rfl : i = N := by omega
    exact hend k
  | n + 1, i, k, hi, hk => by
    obtain ⟨k, rfl⟩ : ∃ j, k = j + 1 := ⟨k - 1, by omega⟩
    rw [hstep k i (by omega), fnd]
    by_cases q : P i = true
    · rw [if_pos q, if_pos q]; rfl
    · rw [if_neg q, if_neg q]
      exact loop_find F P Rs Rn N hend hstep n (i + 1) k (by omega) (by omega)
/-! THE ROW W that both sides hold: 0 day, 1 port, 2 descends, 3 limit, 4 next, 5 delivered, 6 delivered weight, 7 drills, 8 capsized, 9 + b heights, 16 + 20 b + 4 p + k pillows (number, weight, destination, day) -/
def hN (W : Nat → Int32) (b : Nat) : Nat := (W (9 + b)).toNatClampNeg
def fW (W : Nat → Int32) (b p k : Nat) : Int32 := W (16 + 20 * b + 4 * p + k)
/-- a slot is taken -/
def tk (W : Nat → Int32) (s : Nat) : Bool := decide (s % 5 < hN W (s / 5))
def wB (W : Nat → Int32) (b : Nat) : Int32 := sm (fun p => fW W b p 1) (hN W b)
def mom (W : Nat → Int32) : Int32 := sm (fun b => (nI b - 3) * wB W b) 7
def tot (W : Nat → Int32) : Int32 := sm (fun b => wB W b) 7
def cnt (W : Nat → Int32) : Int32 := sm (fun b => W (9 + b)) 7
def wP (W : Nat → Int32) (d : Int32) : Int32 := sm (fun b => sm (fun p => if fW W b p 2 = d then fW W b p 1 else 0) (hN W b)) 7
def HH (W : Nat → Int32) : Prop := ∀ b, b < 7 → hN W b ≤ 5 ∧ W (9 + b) = nI (hN W b)
/-- the State j of the class holds the row W -/
def AX (W : Nat → Int32) (j : Nat) (G : GS) : Prop :=
  (∀ b, b < 7 → ga G (j, 5) b = W (9 + b)) ∧ (∀ k, k < 4 → ∀ b, b < 7 → ∀ p, p < hN W b → ga G (j, 6 + k) (5 * b + p) = fW W b p k) ∧
  gi G (j, 3) 0 = W 1 ∧ gi G (j, 3) 1 = W 0 ∧ gi G (j, 3) 2 = 1 - W 2 ∧ gi G (j, 1) 3 = W 3 ∧ ∀ k, k < 5 → gi G (j, 4) k = W (4 + k)
theorem sm_c (c : Int32) (f : Nat → Int32) : ∀ n, sm (fun i => f i * c) n = c * sm f n
  | 0 => by rw [sm, sm, Int32.mul_zero]
  | n + 1 => by rw [sm, sm, sm_c c f n, Int32.mul_add, Int32.mul_comm (f n) c]
theorem sm_slots {W : Nat → Int32} (hH : HH W) (f : Nat → Nat → Int32) : sm (fun s => if tk W s = true then f (s / 5) (s % 5) else 0) 35 = sm (fun b => sm (f b) (hN W b)) 7 := by
  rw [show 35 = 5 * 7 from rfl, sm_mul]
  refine sm_congr (fun b hb => ?_)
  rw [← sm_cut (f b) (hH b hb).1]
  refine sm_congr (fun p hp => ?_)
  have e1 : (5 * b + p) / 5 = b := by omega
  have e2 : (5 * b + p) % 5 = p := by omega
  unfold tk
  rw [e1, e2]
  simp only [decide_eq_true_eq]
section Cl
variable {kk : Nat} {G : GS} {j : Nat} {W : Nat → Int32}
theorem c_isBay {b : Nat} (hb : b < 7) : D_PB_isBay kk (nI b) G = okI 1 G :=
  (iF (nI_pos (by omega))).trans (iF (nI_ge (b := 7) hb (by decide)))
theorem c_isBayx {x : Int32} (h : x < 0 ∨ nI 7 ≤ x) : D_PB_isBay kk x G = okI 0 G := by
  unfold D_PB_isBay
  by_cases h0 : x < 0
  · rw [if_pos h0]
  · rw [if_neg h0]; exact iT (h.resolve_left h0)
theorem c_isSlot {b : Nat} (hb : b < 35) : D_PB_isSlot kk (nI b) G = okI 1 G :=
  (iF (nI_pos (by omega))).trans (iF (nI_ge (b := 35) hb (by decide)))
theorem c_isSlotm : D_PB_isSlot kk (-1) G = okI 0 G := iT (by decide)
theorem c_isPort {b : Nat} (hb : b < 5) : D_PB_isPort kk (nI b) G = okI 1 G :=
  (iF (nI_pos (by omega))).trans (iF (nI_ge (b := 5) hb (by decide)))
theorem c_isPortx {x : Int32} (h : x < 0 ∨ nI 5 ≤ x) : D_PB_isPort kk x G = okI 0 G := by
  unfold D_PB_isPort
  by_cases h0 : x < 0
  · rw [if_pos h0]
  · rw [if_neg h0]; exact iT (h.resolve_left h0)
theorem c_heightOf (hH : HH W) (hA : AX W j G) {b : Nat} (hb : b < 7) : D_Cargo_heightOf kk j (nI b) G = okI (nI (hN W b)) G := by
  refine (rI (c_isBay hb)).trans ?_
  refine (iF (by decide)).trans ?_
  refine (bT (in_of hb (by decide))).trans ?_
  rw [nI_clamp (by omega), hA.1 b hb, (hH b hb).2]
theorem c_isTaken (hH : HH W) (hA : AX W j G) {s : Nat} (hs : s < 35) : D_Cargo_isTaken kk j (nI s) G = okI (if tk W s = true then 1 else 0) G := by
  refine (iF (nI_pos (by omega))).trans ?_
  refine (iF (nI_ge (b := 35) hs (by decide))).trans ?_
  have e1 : nI s / (5 : Int32) = nI (s / 5) := pk_div (d := 5) (by omega) (by decide) (by decide)
  have e2 : nI s - nI s / (5 : Int32) * (5 : Int32) = nI (s % 5) := pk_rem (d := 5) (by omega) (by decide) (by decide)
  have hb : s / 5 < 7 := by omega
  rw [e2, e1]
  refine (bT (in_of hb (by decide))).trans ?_
  rw [nI_clamp (by omega), hA.1 _ hb, (hH _ hb).2]
  have h5 := (hH _ hb).1
  by_cases h : s % 5 < hN W (s / 5)
  · rw [if_neg (nI_ge h (by omega)), if_pos (show tk W s = true from decide_eq_true h)]
  · rw [if_pos (nI_le (Nat.not_lt.mp h) (by omega)), if_neg (show ¬ tk W s = true from fun z => h (of_decide_eq_true z))]
theorem c_slotAt (hH : HH W) (hA : AX W j G) {b p : Nat} (hb : b < 7) (hp : p < 5) : D_Cargo_slotAt kk j (nI b) (nI p) G = okI (if p < hN W b then nI (5 * b + p) else -1) G := by
  refine (rI (c_isBay hb)).trans ?_
  refine (iF (by decide)).trans ?_
  refine (iF (nI_pos (by omega))).trans ?_
  refine (iT (nI_lt (b := 5) hp (by decide))).trans ?_
  have e1 : nI b * (5 : Int32) + nI p = nI (5 * b + p) := by
    rw [Int32.mul_comm]
    exact (congrArg (· + nI p) (pk_mul 5 b)).trans (nI_add _ _)
  rw [e1]
  refine (rI (c_isTaken hH hA (by omega))).trans ?_
  have e2 : (5 * b + p) / 5 = b := by omega
  have e3 : (5 * b + p) % 5 = p := by omega
  unfold tk
  rw [e2, e3]
  by_cases h : p < hN W b
  · rw [if_pos h, decide_eq_true h]; rfl
  · rw [if_neg h, decide_eq_false h]; rfl
theorem c_slotAtx {b : Nat} {x : Int32} (hb : b < 7) (h : x < 0 ∨ nI 5 ≤ x) : D_Cargo_slotAt kk j (nI b) x G = okI (-1) G := by
  refine (rI (c_isBay hb)).trans ?_
  refine (iF (by decide)).trans ?_
  by_cases h0 : x < 0
  · exact iT h0
  · exact (iF h0).trans (iF (Int32.not_lt.mpr (h.resolve_left h0)))
theorem c_topSlot (hH : HH W) (hA : AX W j G) {b : Nat} (hb : b < 7) : D_Cargo_topSlot kk j (nI b) G = okI (if hN W b = 0 then -1 else nI (5 * b + (hN W b - 1))) G := by
  refine (rI (c_heightOf hH hA hb)).trans ?_
  have h5 := (hH b hb).1
  by_cases h : hN W b = 0
  · rw [h, if_pos rfl]
    exact rI (c_slotAtx hb (Or.inl (by decide)))
  · rw [if_neg h]
    have e1 : nI (hN W b) - 1 = nI (hN W b - 1) := pk_sub (b := 1) (by omega)
    rw [e1]
    refine (rI (c_slotAt hH hA hb (by omega))).trans ?_
    rw [if_pos (by omega)]
theorem c_in {s : Nat} (hs : s < 35) : D_Cargo_numberIn kk j (nI s) G = okI (ga G (j, 6) s) G ∧ D_Cargo_weightIn kk j (nI s) G = okI (ga G (j, 7) s) G ∧ D_Cargo_destinationIn kk j (nI s) G = okI (ga G (j, 8) s) G ∧ D_Cargo_dayIn kk j (nI s) G = okI (ga G (j, 9) s) G := by
  refine ⟨?_, ?_, ?_, ?_⟩ <;>
  · refine (rI (c_isSlot hs)).trans ?_
    refine (iF (by decide)).trans ?_
    refine (bT (in_of hs (by decide))).trans ?_
    rw [nI_clamp (by omega)]
/-- a pillow's data by its slot -/
theorem ax_at (hA : AX W j G) {s k : Nat} (hs : s < 35) (hk : k < 4) (ht : tk W s = true) : ga G (j, 6 + k) s = fW W (s / 5) (s % 5) k := by
  have h := hA.2.1 k hk (s / 5) (by omega) (s % 5) (of_decide_eq_true ht)
  rw [show 5 * (s / 5) + s % 5 = s by omega] at h
  exact h
theorem c_countPillows (hA : AX W j G) (hk : 40 ≤ kk) : D_Cargo_countPillows kk j G = okI (cnt W) G := by
  refine loop_up (fun k a i => L_Cargo_countPillows kk k j a i G) (fun i => sm (fun b => W (9 + b)) i) 7 _ (fun _ => rfl) (fun k i hi => ?_) 7 0 kk rfl (by omega)
  refine (iF (nI_ge (b := 7) hi (by decide))).trans ?_
  refine (bT (in_of hi (by decide))).trans ?_
  rw [nI_clamp (by omega), hA.1 i hi]
  exact congrArg (fun z => L_Cargo_countPillows kk k j _ z G) (nI_1 i)
theorem c_weightOfAll (hH : HH W) (hA : AX W j G) (hk : 40 ≤ kk) : D_Cargo_weightOfAll kk j G = okI (tot W) G := by
  refine (loop_up (fun k a i => L_Cargo_weightOfAll kk k j a i G) (fun i => sm (fun s => if tk W s = true then fW W (s / 5) (s % 5) 1 else 0) i) 35 (okI (sm (fun s => if tk W s = true then fW W (s / 5) (s % 5) 1 else 0) 35) G) (fun _ => rfl) (fun k i hi => ?_) 35 0 kk rfl (by omega)).trans ?_
  · refine (iF (nI_ge (b := 35) hi (by decide))).trans ?_
    refine (rI (c_isTaken hH hA hi)).trans ?_
    by_cases h : tk W i = true
    · rw [if_pos h]
      refine (iF (by decide)).trans ?_
      refine (bT (in_of hi (by decide))).trans ?_
      rw [nI_clamp (by omega), ax_at (k := 1) hA hi (by decide) h, sm, if_pos h, nI_1] <;> rfl
    · rw [if_neg h]
      refine (iT rfl).trans ?_
      rw [sm, if_neg h, Int32.add_zero, nI_1] <;> rfl
  · rw [sm_slots hH (fun b p => fW W b p 1)]; rfl
theorem c_momentOfPillows (hH : HH W) (hA : AX W j G) (hk : 40 ≤ kk) : D_Cargo_momentOfPillows kk j G = okI (mom W) G := by
  refine (loop_up (fun k a i => L_Cargo_momentOfPillows kk k j a i G) (fun i => sm (fun s => if tk W s = true then fW W (s / 5) (s % 5) 1 * (nI (s / 5) - 3) else 0) i) 35 (okI (sm (fun s => if tk W s = true then fW W (s / 5) (s % 5) 1 * (nI (s / 5) - 3) else 0) 35) G) (fun _ => rfl) (fun k i hi => ?_) 35 0 kk rfl (by omega)).trans ?_
  · refine (iF (nI_ge (b := 35) hi (by decide))).trans ?_
    refine (rI (c_isTaken hH hA hi)).trans ?_
    by_cases h : tk W i = true
    · rw [if_pos h]
      refine (iF (by decide)).trans ?_
      refine (bT (in_of hi (by decide))).trans ?_
      have e1 : nI i / (5 : Int32) = nI (i / 5) := pk_div (d := 5) (by omega) (by decide) (by decide)
      rw [e1]
      refine (rI (v := nI (i / 5) - 3) (G := G) rfl).trans ?_
      rw [nI_clamp (by omega), ax_at (k := 1) hA hi (by decide) h, sm, if_pos h, nI_1] <;> rfl
    · rw [if_neg h]
      refine (iT rfl).trans ?_
      rw [sm, if_neg h, Int32.add_zero, nI_1] <;> rfl
  · rw [sm_slots hH (fun b p => fW W b p 1 * (nI b - 3))]
    unfold mom
    rw [sm_congr (fun b _ => sm_c (nI b - 3) (fun p => fW W b p 1) (hN W b))]
    rfl
theorem c_weightOfBay (hH : HH W) (hA : AX W j G) (hk : 40 ≤ kk) {b : Nat} (hb : b < 7) : D_Cargo_weightOfBay kk j (nI b) G = okI (wB W b) G := by
  refine (loop_up (fun k a i => L_Cargo_weightOfBay kk k j (nI b) a i G) (fun i => sm (fun p => if p < hN W b then fW W b p 1 else 0) i) 5 (okI (sm (fun p => if p < hN W b then fW W b p 1 else 0) 5) G) (fun _ => rfl) (fun k i hi => ?_) 5 0 kk rfl (by omega)).trans ?_
  · refine (iF (nI_ge (b := 5) hi (by decide))).trans ?_
    refine (rI (c_slotAt hH hA hb hi)).trans ?_
    by_cases h : i < hN W b
    · rw [if_pos h]
      refine (rI (c_isSlot (by omega))).trans ?_
      refine (iF (by decide)).trans ?_
      refine (bT (in_of (by omega) (by decide))).trans ?_
      rw [nI_clamp (by omega), hA.2.1 1 (by decide) b hb i h, sm, if_pos h, nI_1] <;> rfl
    · rw [if_neg h]
      refine (rI c_isSlotm).trans ?_
      refine (iT rfl).trans ?_
      rw [sm, if_neg h, Int32.add_zero, nI_1] <;> rfl
  · rw [sm_cut _ (hH b hb).1]; rfl
theorem c_momentOfBays (hH : HH W) (hA : AX W j G) (hk : 40 ≤ kk) : D_Cargo_momentOfBays kk j G = okI (mom W) G := by
  refine loop_up (fun k a i => L_Cargo_momentOfBays kk k j a i G) (fun i => sm (fun b => (nI b - 3) * wB W b) i) 7 _ (fun _ => rfl) (fun k i hi => ?_) 7 0 kk rfl (by omega)
  refine (iF (nI_ge (b := 7) hi (by decide))).trans ?_
  refine (rI (c_weightOfBay hH hA hk hi)).trans ?_
  refine (rI (v := nI i - 3) (G := G) rfl).trans ?_
  rw [sm, Int32.mul_comm, nI_1] <;> rfl
theorem c_weightForPort (hH : HH W) (hA : AX W j G) (hk : 40 ≤ kk) (d : Int32) : D_Cargo_weightForPort kk j d G = okI (wP W d) G := by
  refine (loop_up (fun k a i => L_Cargo_weightForPort kk k j d a i G) (fun i => sm (fun s => if tk W s = true then (if fW W (s / 5) (s % 5) 2 = d then fW W (s / 5) (s % 5) 1 else 0) else 0) i) 35 (okI (sm (fun s => if tk W s = true then (if fW W (s / 5) (s % 5) 2 = d then fW W (s / 5) (s % 5) 1 else 0) else 0) 35) G) (fun _ => rfl) (fun k i hi => ?_) 35 0 kk rfl (by omega)).trans ?_
  · refine (iF (nI_ge (b := 35) hi (by decide))).trans ?_
    refine (rI (c_isTaken hH hA hi)).trans ?_
    by_cases h : tk W i = true
    · rw [if_pos h]
      refine (iF (by decide)).trans ?_
      refine (bT (in_of hi (by decide))).trans ?_
      rw [nI_clamp (by omega), ax_at (k := 2) hA hi (by decide) h, sm, if_pos h]
      by_cases h2 : fW W (i / 5) (i % 5) 2 = d
      · rw [if_pos h2, if_pos h2]
        refine (bT (in_of hi (by decide))).trans ?_
        rw [ax_at (k := 1) hA hi (by decide) h, nI_1] <;> rfl
      · rw [if_neg h2, if_neg h2, Int32.add_zero, nI_1] <;> rfl
    · rw [if_neg h]
      refine (iT rfl).trans ?_
      rw [sm, if_neg h, Int32.add_zero, nI_1] <;> rfl
  · rw [sm_slots hH (fun b p => if fW W b p 2 = d then fW W b p 1 else 0)]; rfl
end Cl
/-! THE REFERENCE over its row W -/
/-- changed by x, the moment is beyond the limit -/
def byd (W : Nat → Int32) (x : Int32) : Bool := decide (W 3 < mom W + x) || decide (W 3 < -(mom W + x))
section Mo
variable {kk : Nat} {G : GS} {W : Nat → Int32}
theorem m_betw {a lo hi : Int32} (h1 : ¬ a < lo) (h2 : ¬ hi < a) : D_Mo_isBetween kk a lo hi G = okI 1 G := (iF h1).trans (iF h2)
theorem m_betwx {a lo hi : Int32} (h : a < lo ∨ hi < a) : D_Mo_isBetween kk a lo hi G = okI 0 G := by
  unfold D_Mo_isBetween
  by_cases h0 : a < lo
  · rw [if_pos h0]
  · rw [if_neg h0]; exact iT (h.resolve_left h0)
theorem m_isBay {b : Nat} (hb : b < 7) : D_Mo_isBay kk (nI b) G = okI 1 G := by
  refine (rI (m_betw (nI_pos (by omega)) (nI_nlt (a := 6) (by omega) (by omega) : ¬ nI 6 < nI b))).trans ?_
  exact iT (Or.inr rfl)
theorem lt6 {x : Int32} (h : nI 7 ≤ x) : nI 6 < x := by
  rw [Int32.lt_iff_toInt_lt]
  rw [Int32.le_iff_toInt_le] at h
  rw [nI_toInt (by decide)] at h ⊢
  omega
theorem lt4 {x : Int32} (h : nI 5 ≤ x) : 4 < x := by
  show nI 4 < x
  rw [Int32.lt_iff_toInt_lt]
  rw [Int32.le_iff_toInt_le] at h
  rw [nI_toInt (by decide)] at h ⊢
  omega
theorem le5 {x : Int32} (h : 4 < x) : nI 5 ≤ x := by
  have h : nI 4 < x := h
  rw [Int32.lt_iff_toInt_lt] at h
  rw [Int32.le_iff_toInt_le]
  rw [nI_toInt (by decide)] at h ⊢
  omega
theorem m_isBayx {x : Int32} (h : x < 0 ∨ nI 7 ≤ x) : D_Mo_isBay kk x G = okI 0 G := by
  refine (rI (m_betwx (h.imp id (fun z => lt6 z)))).trans ?_
  exact iT (Or.inl rfl)
theorem ix_at (b p k : Nat) : (((16 : Int32) + ((20 : Int32) * nI b)) + ((4 : Int32) * nI p)) + nI k = nI (16 + 20 * b + 4 * p + k) := by
  rw [show (20 : Int32) * nI b = nI (20 * b) from pk_mul 20 b, show (4 : Int32) * nI p = nI (4 * p) from pk_mul 4 p, show (16 : Int32) + nI (20 * b) = nI (16 + 20 * b) from nI_add 16 _, nI_add, nI_add]
theorem ix_h (b : Nat) : (9 : Int32) + nI b = nI (9 + b) := nI_add 9 b
theorem m_at (hM : ∀ k, k < 156 → ga G (0, 51) k = W k) {b p k : Nat} (hb : b < 7) (hp : p < 5) (hk : k < 4) : D_Mo_at kk (nI b) (nI p) (nI k) G = okI (fW W b p k) G := by
  unfold D_Mo_at
  rw [ix_at]
  refine (bT (in_of (by omega) (by decide))).trans ?_
  rw [nI_clamp (by omega), hM _ (by omega)]; rfl
theorem m_h (hM : ∀ k, k < 156 → ga G (0, 51) k = W k) {b : Nat} (hb : b < 7) {R : Int32 → Res} : (bif inb ((9 : Int32) + nI b) 156 then R (ga G (0, 51) ((9 : Int32) + nI b).toNatClampNeg) else none) = R (W (9 + b)) := by
  rw [ix_h]
  refine (bT (in_of (by omega) (by decide))).trans ?_
  rw [nI_clamp (by omega), hM _ (by omega)]
theorem m_top (hH : HH W) (hM : ∀ k, k < 156 → ga G (0, 51) k = W k) {b k : Nat} (hb : b < 7) (hk : k < 4) (h0 : 0 < hN W b) : D_Mo_top kk (nI b) (nI k) G = okI (fW W b (hN W b - 1) k) G := by
  unfold D_Mo_top
  rw [ix_h]
  refine (bT (in_of (by omega) (by decide))).trans ?_
  have h5 := (hH b hb).1
  rw [nI_clamp (by omega), hM _ (by omega), (hH b hb).2]
  have e1 : nI (hN W b) - 1 = nI (hN W b - 1) := pk_sub (b := 1) (by omega)
  rw [e1]
  exact rI (m_at hM hb (by omega) hk)
theorem m_weightOfBay (hH : HH W) (hM : ∀ k, k < 156 → ga G (0, 51) k = W k) (hk : 40 ≤ kk) {b : Nat} (hb : b < 7) : D_Mo_weightOfBay kk (nI b) G = okI (wB W b) G := by
  have h5 := (hH b hb).1
  refine loop_up (fun k a i => L_Mo_weightOfBay kk k (nI b) a i G) (fun i => sm (fun p => fW W b p 1) i) (hN W b) _ (fun k => ?_) (fun k i hi => ?_) (hN W b) 0 kk (Nat.zero_add _) (by omega)
  · show (bif inb ((9 : Int32) + nI b) 156 then _ else none) = _
    rw [ix_h]
    refine (bT (in_of (by omega) (by decide))).trans ?_
    rw [nI_clamp (by omega), hM _ (by omega), (hH b hb).2]
    exact iT (nI_le (Nat.le_refl _) (by omega))
  · show (bif inb ((9 : Int32) + nI b) 156 then _ else none) = _
    rw [ix_h]
    refine (bT (in_of (by omega) (by decide))).trans ?_
    rw [nI_clamp (by omega), hM _ (by omega), (hH b hb).2]
    refine (iF (nI_ge hi (by omega))).trans ?_
    refine (rI (m_at (k := 1) hM hb (by omega) (by decide))).trans ?_
    exact congrArg (fun z => L_Mo_weightOfBay kk k (nI b) _ z G) (nI_1 i)
theorem m_momentNow (hH : HH W) (hM : ∀ k, k < 156 → ga G (0, 51) k = W k) (hk : 40 ≤ kk) : D_Mo_momentNow kk G = okI (mom W) G := by
  refine loop_up (fun k a i => L_Mo_momentNow kk k a i G) (fun i => sm (fun b => (nI b - 3) * wB W b) i) 7 _ (fun _ => rfl) (fun k i hi => ?_) 7 0 kk rfl (by omega)
  refine (iF (nI_ge (b := 7) hi (by decide))).trans ?_
  refine (rI (m_weightOfBay hH hM hk hi)).trans ?_
  exact congrArg (fun z => L_Mo_momentNow kk k _ z G) (nI_1 i)
theorem m_weightAll (hH : HH W) (hM : ∀ k, k < 156 → ga G (0, 51) k = W k) (hk : 40 ≤ kk) : D_Mo_weightAll kk G = okI (tot W) G := by
  refine loop_up (fun k a i => L_Mo_weightAll kk k a i G) (fun i => sm (fun b => wB W b) i) 7 _ (fun _ => rfl) (fun k i hi => ?_) 7 0 kk rfl (by omega)
  refine (iF (nI_ge (b := 7) hi (by decide))).trans ?_
  refine (rI (m_weightOfBay hH hM hk hi)).trans ?_
  exact congrArg (fun z => L_Mo_weightAll kk k _ z G) (nI_1 i)
theorem m_countAll (hM : ∀ k, k < 156 → ga G (0, 51) k = W k) (hk : 40 ≤ kk) : D_Mo_countAll kk G = okI (cnt W) G := by
  refine loop_up (fun k a i => L_Mo_countAll kk k a i G) (fun i => sm (fun b => W (9 + b)) i) 7 _ (fun _ => rfl) (fun k i hi => ?_) 7 0 kk rfl (by omega)
  refine (iF (nI_ge (b := 7) hi (by decide))).trans ?_
  rw [ix_h]
  refine (bT (in_of (by omega) (by decide))).trans ?_
  rw [nI_clamp (by omega), hM _ (by omega)]
  exact congrArg (fun z => L_Mo_countAll kk k _ z G) (nI_1 i)
theorem m_isBeyond (hH : HH W) (hM : ∀ k, k < 156 → ga G (0, 51) k = W k) (hk : 40 ≤ kk) (x : Int32) : D_Mo_isBeyond kk x G = okI (if byd W x = true then 1 else 0) G := by
  refine (rI (m_momentNow hH hM hk)).trans ?_
  rw [hM 3 (by decide)]
  unfold byd
  by_cases h1 : W 3 < mom W + x
  · rw [if_pos h1, decide_eq_true h1]; rfl
  · rw [if_neg h1, decide_eq_false h1]
    by_cases h2 : -(mom W + x) ≤ W 3
    · rw [if_pos h2, decide_eq_false (Int32.not_lt.mpr h2)]; rfl
    · rw [if_neg h2, decide_eq_true (Int32.not_le.mp h2)]; rfl
end Mo
/-- the class's limit -/
theorem byd_iff {W : Nat → Int32} (h0 : 0 ≤ W 3) (x : Int32) : W 3 < (if mom W + x < 0 then -(mom W + x) else mom W + x) ↔ byd W x = true := by
  unfold byd
  rw [Bool.or_eq_true, decide_eq_true_eq, decide_eq_true_eq]
  by_cases h : mom W + x < 0
  · rw [if_pos h]
    refine ⟨Or.inr, fun z => z.elim (fun q => ?_) id⟩
    rw [Int32.lt_iff_toInt_lt] at h q
    rw [Int32.le_iff_toInt_le] at h0
    rw [Int32.toInt_zero] at h h0
    omega
  · rw [if_neg h]
    refine ⟨Or.inl, fun z => z.elim id (fun q => ?_)⟩
    exfalso
    have hn : (-(mom W + x)).toInt ≤ 0 := by
      have h1 : 0 ≤ (mom W + x).toInt := by
        rw [Int32.lt_iff_toInt_lt, Int32.toInt_zero] at h
        omega
      have h2 : (mom W + x).toInt < 2 ^ 31 := Int32.toInt_lt _
      rw [Int32.toInt_neg]
      rw [Int.bmod_eq_of_le (by omega) (by omega)]
      omega
    rw [Int32.lt_iff_toInt_lt] at q
    rw [Int32.le_iff_toInt_le, Int32.toInt_zero] at h0
    omega
theorem c_within {kk : Nat} {G : GS} {j : Nat} {W : Nat → Int32} (hA : AX W j G) (h0 : 0 ≤ W 3) (x : Int32) : D_State_isWithinLimit kk j (mom W + x) G = okI (if byd W x = true then 0 else 1) G := by
  refine (rI (v := if mom W + x < 0 then -(mom W + x) else mom W + x) (G := G) rfl).trans ?_
  rw [hA.2.2.2.2.2.1]
  by_cases h : byd W x = true
  · rw [if_pos ((byd_iff h0 x).mpr h), if_pos h]
  · rw [if_neg (fun z => h ((byd_iff h0 x).mp z)), if_neg h]
/-! FAULTS: what a command would throw (the class's codes: 1 index, 2 argument, 3 element, 4 state, 5 balance) -/
def bad (x : Int32) : Bool := decide (x < 0) || decide (nI 7 ≤ x)
def bN (x : Int32) : Nat := x.toNatClampNeg
def fLoad (W : Nat → Int32) (a w d : Int32) : Nat := if bad a = true then 1 else if w < 1 ∨ 20 < w ∨ d < 0 ∨ nI 5 ≤ d then 2 else if hN W (bN a) = 5 then 4 else if byd W ((a - 3) * w) = true then 5 else 0
def fUnload (W : Nat → Int32) (a : Int32) : Nat := if bad a = true then 1 else if hN W (bN a) = 0 then 3 else if fW W (bN a) (hN W (bN a) - 1) 2 = W 1 then (if byd W (-((a - 3) * fW W (bN a) (hN W (bN a) - 1) 1)) = true then 5 else 0) else 4
def fShift (W : Nat → Int32) (a c : Int32) : Nat := if bad a = true then 1 else if bad c = true then 1 else if a = c then 2 else if hN W (bN a) = 0 then 3 else if hN W (bN c) = 5 then 4 else
  if byd W ((c - 3) * fW W (bN a) (hN W (bN a) - 1) 1 - (a - 3) * fW W (bN a) (hN W (bN a) - 1) 1) = true then 5 else 0
def fSail (a : Int32) : Nat := if a < 1 then 2 else if a ≤ 20 then 0 else 2
def fLimit (W : Nat → Int32) (a : Int32) : Nat := if a < 10 then 2 else if a ≤ 99 then (if a < mom W ∨ a < -(mom W) then 5 else 0) else 2
def fDrill (a : Int32) : Nat := if a < -99 then 2 else if a ≤ 99 then 0 else 2
def fC (W : Nat → Int32) (c : Nat) (a1 a2 a3 : Int32) : Nat := match c with
  | 0 => fLoad W a1 a2 a3 | 1 => fUnload W a1 | 2 => fShift W a1 a2 | 3 => fSail a1 | 5 => fLimit W a1 | 6 => fDrill a1 | _ => 0
theorem bad_f {x : Int32} (h : bad x = false) : ∃ b, b < 7 ∧ x = nI b ∧ bN x = b := by
  unfold bad at h
  rw [Bool.or_eq_false_iff, decide_eq_false_iff_not, decide_eq_false_iff_not] at h
  rcases ixc x (n := 7) (by decide) with q | q | ⟨j, hj, rfl⟩
  · exact absurd q h.1
  · exact absurd q.2 h.2
  · exact ⟨j, hj, rfl, nI_clamp (by omega)⟩
theorem bad_t {x : Int32} (h : bad x = true) : x < 0 ∨ nI 7 ≤ x := by
  unfold bad at h
  rw [Bool.or_eq_true, decide_eq_true_eq, decide_eq_true_eq] at h
  exact h
theorem neg_mul32 (a b : Int32) : -a * b = -(a * b) := Int32.neg_mul a b
section Fa
variable {kk : Nat} {G : GS} {j : Nat} {W : Nat → Int32}
theorem c_fMoment (hH : HH W) (hA : AX W j G) (h0 : 0 ≤ W 3) (hk : 40 ≤ kk) (x : Int32) : D_State_faultOfMoment kk j x G = okI (if byd W x = true then 5 else 0) G := by
  refine (rI (c_momentOfPillows hH hA hk)).trans ?_
  refine (rI (c_within hA h0 x)).trans ?_
  by_cases h : byd W x = true
  · rw [if_pos h, if_pos h]; rfl
  · rw [if_neg h, if_neg h]; rfl
theorem c_isWeight {w : Int32} : D_PB_isWeight kk w G = okI (if w < 1 ∨ 20 < w then 0 else 1) G := by
  unfold D_PB_isWeight
  by_cases h1 : w < 1
  · rw [if_pos h1, if_pos (Or.inl h1)]
  · rw [if_neg h1]
    by_cases h2 : 20 < w
    · rw [if_pos h2, if_pos (Or.inr h2)]
    · rw [if_neg h2, if_neg (fun z => z.elim h1 h2)]
theorem c_fLoad (hH : HH W) (hA : AX W j G) (h0 : 0 ≤ W 3) (hk : 40 ≤ kk) (a w d : Int32) : D_State_faultOfLoad kk j a w d G = okI (nI (fLoad W a w d)) G := by
  unfold fLoad
  cases hb : bad a with
  | true =>
    rw [if_pos rfl]
    exact (rI (c_isBayx (bad_t hb))).trans (iT rfl)
  | false =>
    obtain ⟨b, hb7, rfl, hbN⟩ := bad_f hb
    rw [if_neg (by decide), hbN]
    refine (rI (c_isBay hb7)).trans ?_
    refine (iF (by decide)).trans ?_
    refine (rI c_isWeight).trans ?_
    by_cases hw : w < 1 ∨ 20 < w
    · rw [if_pos hw, if_pos (hw.elim Or.inl (fun z => Or.inr (Or.inl z)))]; rfl
    · rw [if_neg hw]
      refine (iF (by decide)).trans ?_
      rcases ixc d (n := 5) (by decide) with q | q | ⟨i, hi, rfl⟩
      · rw [if_pos (Or.inr (Or.inr (Or.inl q)))]
        exact (rI (c_isPortx (Or.inl q))).trans (iT rfl)
      · rw [if_pos (Or.inr (Or.inr (Or.inr q.2)))]
        exact (rI (c_isPortx (Or.inr q.2))).trans (iT rfl)
      · rw [if_neg (by
          rintro (z | z | z | z)
          · exact hw (Or.inl z)
          · exact hw (Or.inr z)
          · exact nI_pos (by omega) z
          · exact nI_ge hi (by decide) z)]
        refine (rI (c_isPort hi)).trans ?_
        refine (iF (by decide)).trans ?_
        refine (rI (c_heightOf hH hA hb7)).trans ?_
        have h5 := (hH b hb7).1
        by_cases h : hN W b = 5
        · rw [if_pos h, h]; rfl
        · rw [if_neg h]
          refine (iT (nI_lt (b := 5) (by omega) (by decide))).trans ?_
          refine (rI (v := nI b - 3) (G := G) rfl).trans ?_
          refine (rI (c_fMoment hH hA h0 hk _)).trans ?_
          rw [Int32.mul_comm]
          by_cases h9 : byd W ((nI b - 3) * w) = true
          · rw [if_pos h9, if_pos h9]; rfl
          · rw [if_neg h9, if_neg h9]; rfl
theorem c_at (hA : AX W j G) {b p : Nat} (hb : b < 7) (hp : p < hN W b) (h5 : hN W b ≤ 5) : D_Cargo_numberIn kk j (nI (5 * b + p)) G = okI (fW W b p 0) G ∧ D_Cargo_weightIn kk j (nI (5 * b + p)) G = okI (fW W b p 1) G ∧ D_Cargo_destinationIn kk j (nI (5 * b + p)) G = okI (fW W b p 2) G ∧ D_Cargo_dayIn kk j (nI (5 * b + p)) G = okI (fW W b p 3) G := by
  obtain ⟨h0, h1, h2, h3⟩ := c_in (kk := kk) (G := G) (j := j) (s := 5 * b + p) (by omega)
  rw [h0, h1, h2, h3, hA.2.1 0 (by decide) b hb p hp |> fun z => (z : ga G (j, 6) (5 * b + p) = _), hA.2.1 1 (by decide) b hb p hp |> fun z => (z : ga G (j, 7) (5 * b + p) = _), hA.2.1 2 (by decide) b hb p hp |> fun z => (z : ga G (j, 8) (5 * b + p) = _), hA.2.1 3 (by decide) b hb p hp |> fun z => (z : ga G (j, 9) (5 * b + p) = _)]
  exact ⟨rfl, rfl, rfl, rfl⟩
theorem c_fUnload (hH : HH W) (hA : AX W j G) (h0 : 0 ≤ W 3) (hk : 40 ≤ kk) (a : Int32) : D_State_faultOfUnload kk j a G = okI (nI (fUnload W a)) G := by
  unfold fUnload
  cases hb : bad a with
  | true =>
    rw [if_pos rfl]
    exact (rI (c_isBayx (bad_t hb))).trans (iT rfl)
  | false =>
    obtain ⟨b, hb7, rfl, hbN⟩ := bad_f hb
    rw [if_neg (by decide), hbN]
    have h5 := (hH b hb7).1
    refine (rI (c_isBay hb7)).trans ?_
    refine (iF (by decide)).trans ?_
    refine (rI (c_topSlot hH hA hb7)).trans ?_
    by_cases h : hN W b = 0
    · rw [if_pos h, if_pos h]
      exact (rI c_isSlotm).trans (iT rfl)
    · rw [if_neg h, if_neg h]
      obtain ⟨-, e1, e2, -⟩ := c_at (kk := kk) hA hb7 (p := hN W b - 1) (by omega) h5
      refine (rI (c_isSlot (by omega))).trans ?_
      refine (iF (by decide)).trans ?_
      refine (rI e2).trans ?_
      rw [hA.2.2.1]
      by_cases h2 : fW W b (hN W b - 1) 2 = W 1
      · rw [if_pos h2, if_pos h2]
        refine (rI e1).trans ?_
        refine (rI (v := nI b - 3) (G := G) rfl).trans ?_
        refine (rI (c_fMoment hH hA h0 hk _)).trans ?_
        rw [neg_mul32, Int32.mul_comm (fW W b (hN W b - 1) 1)]
        by_cases h9 : byd W (-((nI b - 3) * fW W b (hN W b - 1) 1)) = true
        · rw [if_pos h9, if_pos h9]; rfl
        · rw [if_neg h9, if_neg h9]; rfl
      · rw [if_neg h2, if_neg h2]; rfl
theorem c_fShift (hH : HH W) (hA : AX W j G) (h0 : 0 ≤ W 3) (hk : 40 ≤ kk) (a c : Int32) : D_State_faultOfShift kk j a c G = okI (nI (fShift W a c)) G := by
  unfold fShift
  cases hb : bad a with
  | true =>
    rw [if_pos rfl]
    exact (rI (c_isBayx (bad_t hb))).trans (iT rfl)
  | false =>
    obtain ⟨b, hb7, rfl, hbN⟩ := bad_f hb
    rw [if_neg (by decide), hbN]
    refine (rI (c_isBay hb7)).trans ?_
    refine (iF (by decide)).trans ?_
    cases hc : bad c with
    | true =>
      rw [if_pos rfl]
      exact (rI (c_isBayx (bad_t hc))).trans (iT rfl)
    | false =>
      obtain ⟨d, hd7, rfl, hdN⟩ := bad_f hc
      rw [if_neg (by decide), hdN]
      have h5 := (hH b hb7).1
      have h6 := (hH d hd7).1
      refine (rI (c_isBay hd7)).trans ?_
      refine (iF (by decide)).trans ?_
      by_cases hbd : nI b = nI d
      · rw [if_pos hbd, if_pos hbd]; rfl
      · rw [if_neg hbd, if_neg hbd]
        refine (rI (c_topSlot hH hA hb7)).trans ?_
        by_cases h : hN W b = 0
        · rw [if_pos h, if_pos h]
          exact (rI c_isSlotm).trans (iT rfl)
        · rw [if_neg h, if_neg h]
          obtain ⟨-, e1, e2, -⟩ := c_at (kk := kk) hA hb7 (p := hN W b - 1) (by omega) h5
          refine (rI (c_isSlot (by omega))).trans ?_
          refine (iF (by decide)).trans ?_
          refine (rI (c_heightOf hH hA hd7)).trans ?_
          by_cases h2 : hN W d = 5
          · rw [if_pos h2, h2]; rfl
          · rw [if_neg h2]
            refine (iT (nI_lt (b := 5) (by omega) (by decide))).trans ?_
            refine (rI e1).trans ?_
            refine (rI (v := nI d - 3) (G := G) rfl).trans ?_
            refine (rI (v := nI b - 3) (G := G) rfl).trans ?_
            refine (rI (c_fMoment hH hA h0 hk _)).trans ?_
            rw [Int32.mul_sub, Int32.mul_comm (fW W b (hN W b - 1) 1), Int32.mul_comm (fW W b (hN W b - 1) 1)]
            by_cases h9 : byd W ((nI d - 3) * fW W b (hN W b - 1) 1 - (nI b - 3) * fW W b (hN W b - 1) 1) = true
            · rw [if_pos h9, if_pos h9]; rfl
            · rw [if_neg h9, if_neg h9]; rfl
end Fa
/-! FAULTS of the reference, by the class's codes -/
def mLoad (c : Nat) : Nat := match c with | 0 => 0 | 1 => 1 | 2 => 2 | 4 => 3 | _ => 4
def mUnload (c : Nat) : Nat := match c with | 0 => 0 | 1 => 1 | 3 => 2 | 4 => 3 | _ => 4
def mLimit (c : Nat) : Nat := match c with | 0 => 0 | 2 => 1 | _ => 2
def mOne (c : Nat) : Nat := match c with | 0 => 0 | _ => 1
section Mf
variable {kk : Nat} {G : GS} {W : Nat → Int32}
theorem m_lever {a w : Int32} : D_Mo_lever kk a w G = okI ((a - 3) * w) G := rfl
theorem m_isBad {x : Int32} : D_Mo_isBay kk x G = okI (if bad x = true then 0 else 1) G := by
  cases h : bad x with
  | true => rw [if_pos rfl]; exact m_isBayx (bad_t h)
  | false =>
    obtain ⟨b, hb, rfl, -⟩ := bad_f h
    rw [if_neg (by decide)]; exact m_isBay hb
theorem m_hgt (hH : HH W) (hM : ∀ k, k < 156 → ga G (0, 51) k = W k) {b : Nat} (hb : b < 7) : ga G (0, 51) ((9 : Int32) + nI b).toNatClampNeg = nI (hN W b) := by
  rw [ix_h, nI_clamp (by omega), hM _ (by omega), (hH b hb).2]
theorem m_hin {b : Nat} (hb : b < 7) : inb ((9 : Int32) + nI b) 156 = true := by
  rw [ix_h]; exact in_of (by omega) (by decide)
theorem m_fLoad (hH : HH W) (hM : ∀ k, k < 156 → ga G (0, 51) k = W k) (hk : 40 ≤ kk) (a w d : Int32) : D_Mo_notLoad kk a w d G = okI (nI (mLoad (fLoad W a w d))) G := by
  unfold fLoad
  refine (rI m_isBad).trans ?_
  cases hb : bad a with
  | true => rfl
  | false =>
    obtain ⟨b, hb7, rfl, hbN⟩ := bad_f hb
    repeat rw [if_neg Bool.false_ne_true]
    rw [hbN]
    refine (iF (by decide)).trans ?_
    by_cases hw : w < 1 ∨ 20 < w
    · rw [if_pos (hw.elim Or.inl (fun z => Or.inr (Or.inl z)))]
      exact (rI (m_betwx hw)).trans (iT rfl)
    · refine (rI (m_betw (fun z => hw (Or.inl z)) (fun z => hw (Or.inr z)))).trans ?_
      refine (iF (by decide)).trans ?_
      by_cases hd : d < 0 ∨ 4 < d
      · rw [if_pos (hd.elim (fun z => Or.inr (Or.inr (Or.inl z))) (fun z => Or.inr (Or.inr (Or.inr (le5 z)))))]
        exact (rI (m_betwx hd)).trans (iT rfl)
      · rw [if_neg (by
          rintro (z | z | z | z)
          · exact hw (Or.inl z)
          · exact hw (Or.inr z)
          · exact hd (Or.inl z)
          · exact hd (Or.inr (lt4 z)))]
        refine (rI (m_betw (fun z => hd (Or.inl z)) (fun z => hd (Or.inr z)))).trans ?_
        refine (iF (by decide)).trans ?_
        refine (bT (m_hin hb7)).trans ?_
        rw [m_hgt hH hM hb7]
        have h5 := (hH b hb7).1
        by_cases h : hN W b = 5
        · rw [if_pos h, h]; rfl
        · rw [if_neg h]
          refine (iF (fun z => h ((nI_eq (b := 5) (by omega) (by decide)).mp z))).trans ?_
          refine (rI m_lever).trans ?_
          refine (rI (m_isBeyond hH hM hk _)).trans ?_
          by_cases h9 : byd W ((nI b - 3) * w) = true
          · rw [if_pos h9, if_pos h9]; rfl
          · rw [if_neg h9, if_neg h9]; rfl
theorem m_fUnload (hH : HH W) (hM : ∀ k, k < 156 → ga G (0, 51) k = W k) (hk : 40 ≤ kk) (a : Int32) : D_Mo_notUnload kk a G = okI (nI (mUnload (fUnload W a))) G := by
  unfold fUnload
  refine (rI m_isBad).trans ?_
  cases hb : bad a with
  | true => rfl
  | false =>
    obtain ⟨b, hb7, rfl, hbN⟩ := bad_f hb
    repeat rw [if_neg Bool.false_ne_true]
    rw [hbN]
    refine (iF (by decide)).trans ?_
    refine (bT (m_hin hb7)).trans ?_
    rw [m_hgt hH hM hb7]
    have h5 := (hH b hb7).1
    by_cases h : hN W b = 0
    · rw [if_pos h, h]; rfl
    · rw [if_neg h]
      refine (iF (nI_ne0 (by omega) (by omega))).trans ?_
      refine (rI (m_top (k := 2) hH hM hb7 (by decide) (by omega))).trans ?_
      rw [hM 1 (by decide)]
      by_cases h2 : fW W b (hN W b - 1) 2 = W 1
      · rw [if_pos h2, if_pos h2]
        refine (rI (m_top (k := 1) hH hM hb7 (by decide) (by omega))).trans ?_
        refine (rI m_lever).trans ?_
        refine (rI (m_isBeyond hH hM hk _)).trans ?_
        by_cases h9 : byd W (-((nI b - 3) * fW W b (hN W b - 1) 1)) = true
        · rw [if_pos h9, if_pos h9]; rfl
        · rw [if_neg h9, if_neg h9]; rfl
      · rw [if_neg h2, if_neg h2]; rfl
theorem m_fShift (hH : HH W) (hM : ∀ k, k < 156 → ga G (0, 51) k = W k) (hk : 40 ≤ kk) (a c : Int32) : D_Mo_notShift kk a c G = okI (nI (fShift W a c)) G := by
  unfold fShift
  refine (rI m_isBad).trans ?_
  cases hb : bad a with
  | true => rfl
  | false =>
    obtain ⟨b, hb7, rfl, hbN⟩ := bad_f hb
    repeat rw [if_neg Bool.false_ne_true]
    rw [hbN]
    refine (iF (by decide)).trans ?_
    refine (rI m_isBad).trans ?_
    cases hc : bad c with
    | true => rfl
    | false =>
      obtain ⟨d, hd7, rfl, hdN⟩ := bad_f hc
      repeat rw [if_neg Bool.false_ne_true]
      rw [hdN]
      refine (iF (by decide)).trans ?_
      have h5 := (hH b hb7).1
      have h6 := (hH d hd7).1
      by_cases hbd : nI b = nI d
      · rw [if_pos hbd, if_pos hbd]; rfl
      · rw [if_neg hbd, if_neg hbd]
        refine (bT (m_hin hb7)).trans ?_
        rw [m_hgt hH hM hb7]
        by_cases h : hN W b = 0
        · rw [if_pos h, h]; rfl
        · rw [if_neg h]
          refine (iF (nI_ne0 (by omega) (by omega))).trans ?_
          refine (bT (m_hin hd7)).trans ?_
          rw [m_hgt hH hM hd7]
          by_cases h2 : hN W d = 5
          · rw [if_pos h2, h2]; rfl
          · rw [if_neg h2]
            refine (iF (fun z => h2 ((nI_eq (b := 5) (by omega) (by decide)).mp z))).trans ?_
            refine (rI (m_top (k := 1) hH hM hb7 (by decide) (by omega))).trans ?_
            refine (rI m_lever).trans ?_
            refine (rI m_lever).trans ?_
            refine (rI (m_isBeyond hH hM hk _)).trans ?_
            by_cases h9 : byd W ((nI d - 3) * fW W b (hN W b - 1) 1 - (nI b - 3) * fW W b (hN W b - 1) 1) = true
            · rw [if_pos h9, if_pos h9]; rfl
            · rw [if_neg h9, if_neg h9]; rfl
theorem m_fSail (a : Int32) : D_Mo_notSail kk a G = okI (nI (mOne (fSail a))) G := by
  unfold fSail
  by_cases h1 : a < 1
  · rw [if_pos h1]; exact (rI (m_betwx (Or.inl h1))).trans (iT rfl)
  · rw [if_neg h1]
    by_cases h2 : a ≤ 20
    · rw [if_pos h2]; exact (rI (m_betw h1 (Int32.not_lt.mpr h2))).trans (iF (by decide))
    · rw [if_neg h2]; exact (rI (m_betwx (Or.inr (Int32.not_le.mp h2)))).trans (iT rfl)
theorem m_fDrill (a : Int32) : D_Mo_notDrill kk a G = okI (nI (mOne (fDrill a))) G := by
  unfold fDrill
  by_cases h1 : a < -99
  · rw [if_pos h1]; exact (rI (m_betwx (Or.inl h1))).trans (iT rfl)
  · rw [if_neg h1]
    by_cases h2 : a ≤ 99
    · rw [if_pos h2]; exact (rI (m_betw h1 (Int32.not_lt.mpr h2))).trans (iF (by decide))
    · rw [if_neg h2]; exact (rI (m_betwx (Or.inr (Int32.not_le.mp h2)))).trans (iT rfl)
theorem m_fLimit (hH : HH W) (hM : ∀ k, k < 156 → ga G (0, 51) k = W k) (hk : 40 ≤ kk) (a : Int32) : D_Mo_notLimit kk a G = okI (nI (mLimit (fLimit W a))) G := by
  unfold fLimit
  by_cases h1 : a < 10
  · rw [if_pos h1]; exact (rI (m_betwx (Or.inl h1))).trans (iT rfl)
  · rw [if_neg h1]
    by_cases h2 : a ≤ 99
    · rw [if_pos h2]
      refine (rI (m_betw h1 (Int32.not_lt.mpr h2))).trans ?_
      refine (iF (by decide)).trans ?_
      refine (rI (m_momentNow hH hM hk)).trans ?_
      by_cases h3 : a < mom W
      · rw [if_pos h3, if_pos (Or.inl h3)]; rfl
      · rw [if_neg h3]
        by_cases h4 : -mom W ≤ a
        · rw [if_pos h4, if_neg (fun z => z.elim h3 (Int32.not_lt.mpr h4))]; rfl
        · rw [if_neg h4, if_pos (Or.inr (Int32.not_le.mp h4))]; rfl
    · rw [if_neg h2]; exact (rI (m_betwx (Or.inr (Int32.not_le.mp h2)))).trans (iT rfl)
end Mf
section Cf
variable {kk : Nat} {G : GS} {j : Nat} {W : Nat → Int32}
theorem c_fLimit (hH : HH W) (hA : AX W j G) (hk : 40 ≤ kk) (a : Int32) : D_State_faultOfLimit kk j a G = okI (nI (fLimit W a)) G := by
  unfold fLimit
  by_cases h1 : a < 10
  · rw [if_pos h1]; exact iT h1
  · rw [if_neg h1]
    refine (iF h1).trans ?_
    by_cases h2 : a ≤ 99
    · refine (iT h2).trans ?_
      rw [if_pos h2]
      refine (rI (c_momentOfPillows hH hA hk)).trans ?_
      refine (rI (v := if mom W < 0 then -(mom W) else mom W) (G := G) rfl).trans ?_
      have hk : (if mom W < 0 then -(mom W) else mom W) ≤ a ↔ ¬ (a < mom W ∨ a < -(mom W)) := by
        have ha : (10 : Int) ≤ a.toInt := by
          rw [Int32.lt_iff_toInt_lt] at h1
          have : (10 : Int32).toInt = 10 := by decide
          omega
        by_cases h : mom W < 0
        · rw [if_pos h, ← Int32.not_lt]
          refine not_congr ⟨Or.inr, fun z => z.elim (fun q => ?_) id⟩
          rw [Int32.lt_iff_toInt_lt] at h q
          rw [Int32.toInt_zero] at h
          omega
        · rw [if_neg h, ← Int32.not_lt]
          refine not_congr ⟨Or.inl, fun z => z.elim id (fun q => ?_)⟩
          exfalso
          have h1 : 0 ≤ (mom W).toInt := by
            rw [Int32.lt_iff_toInt_lt, Int32.toInt_zero] at h
            omega
          have h2 : (mom W).toInt < 2 ^ 31 := Int32.toInt_lt _
          rw [Int32.lt_iff_toInt_lt, Int32.toInt_neg, Int.bmod_eq_of_le (by omega) (by omega)] at q
          omega
      by_cases h3 : a < mom W ∨ a < -(mom W)
      · rw [if_pos h3, if_neg (fun z => hk.mp z h3)]; rfl
      · rw [if_neg h3, if_pos (hk.mpr h3)]; rfl
    · refine (iF h2).trans ?_
      rw [if_neg h2]; rfl
theorem c_faultOf (hH : HH W) (hA : AX W j G) (h0 : 0 ≤ W 3) (hk : 40 ≤ kk) {c : Nat} (hc : c < 7) (a1 a2 a3 : Int32) : D_State_faultOf kk j (nI c) a1 a2 a3 G = okI (nI (fC W c a1 a2 a3)) G := by
  match c, hc with
  | 0, _ => exact rI (c_fLoad hH hA h0 hk a1 a2 a3)
  | 1, _ => exact (iF (by decide)).trans ((iT rfl).trans (rI (c_fUnload hH hA h0 hk a1)))
  | 2, _ => exact (iF (by decide)).trans ((iF (by decide)).trans ((iT rfl).trans (rI (c_fShift hH hA h0 hk a1 a2))))
  | 3, _ =>
    refine (iF (by decide)).trans ((iF (by decide)).trans ((iF (by decide)).trans ((iT rfl).trans ?_)))
    show _ = okI (nI (fSail a1)) G
    unfold fSail
    by_cases h1 : a1 < 1
    · rw [if_pos h1, if_pos h1]; rfl
    · rw [if_neg h1, if_neg h1]
      by_cases h2 : a1 ≤ 20
      · rw [if_pos h2, if_pos h2]; rfl
      · rw [if_neg h2, if_neg h2]; rfl
  | 4, _ => exact (iF (by decide)).trans ((iF (by decide)).trans ((iF (by decide)).trans ((iF (by decide)).trans (iT rfl))))
  | 5, _ => exact (iF (by decide)).trans ((iF (by decide)).trans ((iF (by decide)).trans ((iF (by decide)).trans ((iF (by decide)).trans ((iT rfl).trans (rI (c_fLimit hH hA hk a1)))))))
  | 6, _ =>
    refine (iF (by decide)).trans ((iF (by decide)).trans ((iF (by decide)).trans ((iF (by decide)).trans ((iF (by decide)).trans ((iF (by decide)).trans ((iT rfl).trans ?_))))))
    show _ = okI (nI (fDrill a1)) G
    unfold fDrill
    by_cases h1 : a1 < -99
    · rw [if_pos h1, if_pos h1]; rfl
    · rw [if_neg h1, if_neg h1]
      by_cases h2 : a1 ≤ 99
      · rw [if_pos h2, if_pos h2]; rfl
      · rw [if_neg h2, if_neg h2]; rfl
  | c + 7, h => omega
end Cf
/-! WHAT A COMMAND DOES TO THE ROW -/
theorem gi_sa {G : GS} {r r' : Rf} {i f : Nat} {v : Int32} : gi (sa G r i v) r' f = gi G r' f := rfl
theorem ga_si {G : GS} {r r' : Rf} {f i : Nat} {v : Int32} : ga (si G r f v) r' i = ga G r' i := rfl
def qN (b h : Nat) : Nat := 16 + 20 * b + 4 * h
def opPut (W : Nat → Int32) (b : Nat) (n w d t : Int32) : Nat → Int32 := upd (upd (upd (upd (upd W (qN b (hN W b)) n) (qN b (hN W b) + 1) w) (qN b (hN W b) + 2) d) (qN b (hN W b) + 3) t) (9 + b) (nI (hN W b + 1))
def opTake (W : Nat → Int32) (b : Nat) : Nat → Int32 := upd (upd (upd (upd (upd W (9 + b) (nI (hN W b - 1))) (qN b (hN W b - 1)) 0) (qN b (hN W b - 1) + 1) 0) (qN b (hN W b - 1) + 2) 0) (qN b (hN W b - 1) + 3) 0
def opLoad (W : Nat → Int32) (b : Nat) (w d : Int32) : Nat → Int32 := upd (opPut W b (W 4) w d (W 0)) 4 (W 4 + 1)
def opUnload (W : Nat → Int32) (b : Nat) : Nat → Int32 := opTake (upd (upd W 5 (W 5 + 1)) 6 (W 6 + fW W b (hN W b - 1) 1)) b
def opShift (W : Nat → Int32) (b c : Nat) : Nat → Int32 := opTake (opPut W c (fW W b (hN W b - 1) 0) (fW W b (hN W b - 1) 1) (fW W b (hN W b - 1) 2) (fW W b (hN W b - 1) 3)) b
/-- the port after some legs -/
def pB (W : Nat → Int32) (a : Int32) : Int32 := if W 2 = 1 then (W 1 + 4 * a) - (W 1 + 4 * a) / 5 * 5 else (W 1 + 1 * a) - (W 1 + 1 * a) / 5 * 5
def opSail (W : Nat → Int32) (a : Int32) : Nat → Int32 := upd (upd W 1 (pB W a)) 0 (W 0 + a)
def opTurn (W : Nat → Int32) : Nat → Int32 := upd W 2 (1 - W 2)
def opLimit (W : Nat → Int32) (a : Int32) : Nat → Int32 := upd W 3 a
def opDrill (W : Nat → Int32) (a : Int32) : Nat → Int32 := upd (upd W 7 (W 7 + 1)) 8 (W 8 + (if byd W a = true then 1 else 0))
def opC (W : Nat → Int32) (c : Nat) (a1 a2 a3 : Int32) : Nat → Int32 := match c with
  | 0 => opLoad W (bN a1) a2 a3 | 1 => opUnload W (bN a1) | 2 => opShift W (bN a1) (bN a2) | 3 => opSail W a1 | 4 => opTurn W | 5 => opLimit W a1 | _ => opDrill W a1
theorem upd_ne {f : Nat → Int32} {k i : Nat} {v : Int32} (h : i ≠ k) : upd f k v i = f i := pk_un h
theorem upd_eq {f : Nat → Int32} {k : Nat} {v : Int32} : upd f k v k = v := pk_us
section Rd
variable {W : Nat → Int32} {b i k : Nat} {n w d t : Int32}
theorem put_h : opPut W b n w d t (9 + b) = nI (hN W b + 1) := upd_eq
theorem put_q (hb : b < 7) (hk : k < 4) : opPut W b n w d t (qN b (hN W b) + k) = (match k with | 0 => n | 1 => w | 2 => d | _ => t) := by
  unfold opPut
  rw [upd_ne (by unfold qN; omega)]
  match k, hk with
  | 0, _ => rw [upd_ne (by omega), upd_ne (by omega), upd_ne (by omega)]; exact upd_eq
  | 1, _ => rw [upd_ne (by omega), upd_ne (by omega)]; exact upd_eq
  | 2, _ => rw [upd_ne (by omega)]; exact upd_eq
  | 3, _ => exact upd_eq
theorem put_o (h1 : i ≠ 9 + b) (h2 : ∀ k, k < 4 → i ≠ qN b (hN W b) + k) : opPut W b n w d t i = W i := by
  unfold opPut
  rw [upd_ne h1, upd_ne (h2 3 (by decide)), upd_ne (h2 2 (by decide)), upd_ne (h2 1 (by decide)), upd_ne (show i ≠ qN b (hN W b) from h2 0 (by decide))]
theorem take_h (hb : b < 7) : opTake W b (9 + b) = nI (hN W b - 1) := by
  unfold opTake
  rw [upd_ne (by unfold qN; omega), upd_ne (by unfold qN; omega), upd_ne (by unfold qN; omega), upd_ne (by unfold qN; omega)]; exact upd_eq
theorem take_o (h1 : i ≠ 9 + b) (h2 : ∀ k, k < 4 → i ≠ qN b (hN W b - 1) + k) : opTake W b i = W i := by
  unfold opTake
  rw [upd_ne (h2 3 (by decide)), upd_ne (h2 2 (by decide)), upd_ne (h2 1 (by decide)), upd_ne (show i ≠ qN b (hN W b - 1) from h2 0 (by decide)), upd_ne h1]
theorem hN_of {m : Nat} (h : W (9 + b) = nI m) (hm : m < 2 ^ 31) : hN W b = m := by
  unfold hN
  rw [h, nI_clamp hm]
theorem hN_eq {W' : Nat → Int32} (h : W' (9 + b) = W (9 + b)) : hN W' b = hN W b := by unfold hN; rw [h]
end Rd
/-- only the State j has changed -/
def FrS (j : Nat) (G G' : GS) : Prop := (∀ r : Rf, ¬ (r.1 = j ∧ 1 ≤ r.2 ∧ r.2 ≤ 9) → (∀ f, gi G' r f = gi G r f) ∧ ∀ i, ga G' r i = ga G r i) ∧ G'.2.2 = G.2.2
theorem FrS.rf {j : Nat} {G : GS} : FrS j G G := ⟨fun _ _ => ⟨fun _ => rfl, fun _ => rfl⟩, rfl⟩
theorem FrS.tr {j : Nat} {G G1 G2 : GS} (h : FrS j G G1) (g : FrS j G1 G2) : FrS j G G2 := ⟨fun r hr => ⟨fun f => ((g.1 r hr).1 f).trans ((h.1 r hr).1 f), fun i => ((g.1 r hr).2 i).trans ((h.1 r hr).2 i)⟩, g.2.trans h.2⟩
theorem FrS.sa {j k i : Nat} {v : Int32} {G : GS} (h1 : 1 ≤ k) (h2 : k ≤ 9) : FrS j G (sa G (j, k) i v) := by
  refine ⟨fun r hr => ⟨fun f => rfl, fun i' => ?_⟩, rfl⟩
  rw [ga_sa, if_neg (fun z => hr (by rw [z.1]; exact ⟨rfl, h1, h2⟩))]
theorem FrS.si {j k i : Nat} {v : Int32} {G : GS} (h1 : 1 ≤ k) (h2 : k ≤ 9) : FrS j G (si G (j, k) i v) := by
  refine ⟨fun r hr => ⟨fun f => ?_, fun i' => rfl⟩, rfl⟩
  rw [gi_si, if_neg (fun z => hr (by rw [z.1]; exact ⟨rfl, h1, h2⟩))]
section Put
variable {kk : Nat} {G : GS} {j : Nat} {W : Nat → Int32}
theorem c_put (hH : HH W) (hA : AX W j G) {b : Nat} (hb : b < 7) (hh : hN W b < 5) (n w d t : Int32) : ∃ G', D_Cargo_put kk j (nI b) n w d t G = okV G' ∧ AX (opPut W b n w d t) j G' ∧ FrS j G G' := by
  have e1 : nI b * (5 : Int32) + nI (hN W b) = nI (5 * b + hN W b) := by
    rw [Int32.mul_comm]
    exact (congrArg (· + nI (hN W b)) (pk_mul 5 b)).trans (nI_add _ _)
  have e2 : nI (hN W b) + (1 : Int32) = nI (hN W b + 1) := nI_1 _
  refine ⟨sa (sa (sa (sa (sa G (j, 6) (5 * b + hN W b) n) (j, 7) (5 * b + hN W b) w) (j, 8) (5 * b + hN W b) d) (j, 9) (5 * b + hN W b) t) (j, 5) b (nI (hN W b + 1)), ?_, ?_, ?_⟩
  · refine (rI (c_heightOf hH hA hb)).trans ?_
    refine (rI (c_isBay hb)).trans ?_
    refine (iF (by decide)).trans ?_
    refine (iF (nI_ge (b := 5) hh (by decide))).trans ?_
    rw [e1, e2]
    refine (rI (c_isSlot (by omega))).trans ?_
    refine (iF (by decide)).trans ?_
    refine (bT (in_of (by omega) (by decide))).trans ?_
    refine (bT (in_of (by omega) (by decide))).trans ?_
    refine (bT (in_of (by omega) (by decide))).trans ?_
    refine (bT (in_of (by omega) (by decide))).trans ?_
    refine (bT (in_of hb (by decide))).trans ?_
    rw [nI_clamp (by omega), nI_clamp (by omega)]
  · obtain ⟨a1, a2, a3, a4, a5, a6, a7⟩ := hA
    refine ⟨fun b' hb' => ?_, fun k hk b' hb' p hp => ?_, ?_, ?_, ?_, ?_, fun k hk => ?_⟩
    · rw [ga_sa]
      by_cases e : b' = b
      · subst e; rw [if_pos ⟨rfl, rfl⟩, put_h]
      · rw [if_neg (fun z => e z.2), put_o (by omega) (fun k hk => by unfold qN; omega)]
        simp only [ga_sa, Prod.mk.injEq]
        exact a1 b' hb'
    · by_cases e : b' = b
      · subst e
        have hN' : hN (opPut W b' n w d t) b' = hN W b' + 1 := hN_of put_h (by omega)
        rw [hN'] at hp
        by_cases e3 : p = hN W b'
        · subst e3
          show _ = opPut W b' n w d t (qN b' (hN W b') + k)
          rw [put_q hb hk]
          match k, hk with
          | 0, _ => simp [ga_sa]
          | 1, _ => simp [ga_sa]
          | 2, _ => simp [ga_sa]
          | 3, _ => simp [ga_sa]
        · unfold fW
          rw [put_o (by omega) (fun k' hk' => by unfold qN; omega)]
          have := a2 k hk b' hb' p (by omega)
          unfold fW at this
          rw [← this]
          have e4 : 5 * b' + p ≠ 5 * b' + hN W b' := by omega
          match k, hk with
          | 0, _ => simp [ga_sa, e3]
          | 1, _ => simp [ga_sa, e3]
          | 2, _ => simp [ga_sa, e3]
          | 3, _ => simp [ga_sa, e3]
      · have hN' : hN (opPut W b n w d t) b' = hN W b' := hN_eq (put_o (by omega) (fun k hk => by unfold qN; omega))
        rw [hN'] at hp
        have h5 := (hH b' hb').1
        unfold fW
        rw [put_o (by omega) (fun k' hk' => by unfold qN; omega)]
        have := a2 k hk b' hb' p hp
        unfold fW at this
        rw [← this]
        have e4 : ¬ 5 * b' + p = 5 * b + hN W b := by omega
        match k, hk with
        | 0, _ => simp [ga_sa, e4]
        | 1, _ => simp [ga_sa, e4]
        | 2, _ => simp [ga_sa, e4]
        | 3, _ => simp [ga_sa, e4]
    · rw [put_o (by omega) (fun k hk => by unfold qN; omega)]; exact a3
    · rw [put_o (by omega) (fun k hk => by unfold qN; omega)]; exact a4
    · rw [put_o (by omega) (fun k hk => by unfold qN; omega)]; exact a5
    · rw [put_o (by omega) (fun k hk => by unfold qN; omega)]; exact a6
    · rw [put_o (by omega) (fun k hk => by unfold qN; omega)]; exact a7 k hk
  · exact ((((FrS.sa (by decide) (by decide)).tr (FrS.sa (by decide) (by decide))).tr (FrS.sa (by decide) (by decide))).tr (FrS.sa (by decide) (by decide))).tr (FrS.sa (by decide) (by decide))
theorem c_take (hH : HH W) (hA : AX W j G) {b : Nat} (hb : b < 7) (hh : 0 < hN W b) : ∃ G', D_Cargo_removeTop kk j (nI b) G = okV G' ∧ AX (opTake W b) j G' ∧ FrS j G G' := by
  have h5 := (hH b hb).1
  have e2 : nI (hN W b) - (1 : Int32) = nI (hN W b - 1) := pk_sub (b := 1) (by omega)
  refine ⟨sa G (j, 5) b (nI (hN W b - 1)), ?_, ?_, FrS.sa (by decide) (by decide)⟩
  · refine (rI (c_isBay hb)).trans ?_
    refine (iF (by decide)).trans ?_
    refine (bT (in_of hb (by decide))).trans ?_
    rw [nI_clamp (by omega), hA.1 b hb, (hH b hb).2]
    refine (iF (nI_nle hh (by omega))).trans ?_
    refine (bT (in_of hb (by decide))).trans ?_
    refine (bT (in_of hb (by decide))).trans ?_
    rw [e2]
  · obtain ⟨a1, a2, a3, a4, a5, a6, a7⟩ := hA
    refine ⟨fun b' hb' => ?_, fun k hk b' hb' p hp => ?_, ?_, ?_, ?_, ?_, fun k hk => ?_⟩
    · rw [ga_sa]
      by_cases e : b' = b
      · subst e; rw [if_pos ⟨rfl, rfl⟩, take_h hb]
      · rw [if_neg (fun z => e z.2), take_o (by omega) (fun k hk => by unfold qN; omega)]
        exact a1 b' hb'
    · have hp2 : p < hN W b' ∧ ∀ k', k' < 4 → 16 + 20 * b' + 4 * p + k ≠ qN b (hN W b - 1) + k' := by
        by_cases e : b' = b
        · subst e
          have hN' : hN (opTake W b') b' = hN W b' - 1 := hN_of (take_h hb) (by omega)
          rw [hN'] at hp
          exact ⟨by omega, fun k' hk' => by unfold qN; omega⟩
        · have hN' : hN (opTake W b) b' = hN W b' := hN_eq (take_o (by omega) (fun k hk => by unfold qN; omega))
          rw [hN'] at hp
          have := (hH b' hb').1
          exact ⟨hp, fun k' hk' => by unfold qN; omega⟩
      show _ = opTake W b (16 + 20 * b' + 4 * p + k)
      rw [take_o (by omega) hp2.2]
      have := a2 k hk b' hb' p hp2.1
      rw [ga_sa, if_neg (fun z => by have := congrArg Prod.snd z.1; simp at this; omega)]
      exact this
    · rw [take_o (by omega) (fun k hk => by unfold qN; omega)]; exact a3
    · rw [take_o (by omega) (fun k hk => by unfold qN; omega)]; exact a4
    · rw [take_o (by omega) (fun k hk => by unfold qN; omega)]; exact a5
    · rw [take_o (by omega) (fun k hk => by unfold qN; omega)]; exact a6
    · rw [take_o (by omega) (fun k hk => by unfold qN; omega)]; exact a7 k hk
end Put
/-! THE CLASS CARRIES OUT A COMMAND -/
def VW (W : Nat → Int32) : Prop := ∃ p e : Nat, p < 5 ∧ e < 2 ∧ W 1 = nI p ∧ W 2 = nI e
def fmv5 (x : Int32) : Int32 := if x ^^^ 5 < 0 ∧ ¬ x - x / 5 * 5 = 0 then x - x / 5 * 5 + 5 else x - x / 5 * 5
theorem fm_minus : ∀ p, p < 5 → ∀ a, a < 100 → fmv5 (nI p - nI a) = nI ((p + 4 * a) % 5) := by decide +kernel
theorem fm_plus : ∀ p, p < 5 → ∀ a, a < 100 → fmv5 (nI p + nI a) = nI ((p + a) % 5) := by decide +kernel
theorem c_fmod {x : Int32} {G : GS} : D_fmod x 5 G = okI (fmv5 x) G := iF (by decide)
/-- the port after n legs -/
def pN (p e n : Nat) : Nat := if e = 1 then (p + 4 * n) % 5 else (p + n) % 5
theorem pN_lt {p e n : Nat} : pN p e n < 5 := by unfold pN; split <;> omega
theorem pB_eq {W : Nat → Int32} {p e n : Nat} (hp : p < 5) (he : e < 2) (h1 : W 1 = nI p) (h2 : W 2 = nI e) (hn : n < 100) : pB W (nI n) = nI (pN p e n) := by
  unfold pB pN
  rw [h1, h2]
  have e4 : nI p + (4 : Int32) * nI n = nI (p + 4 * n) := (congrArg (nI p + ·) (pk_mul 4 n)).trans (nI_add _ _)
  have e1 : nI p + (1 : Int32) * nI n = nI (p + n) := by rw [Int32.one_mul]; exact nI_add _ _
  have r4 : nI (p + 4 * n) - nI (p + 4 * n) / (5 : Int32) * (5 : Int32) = nI ((p + 4 * n) % 5) := pk_rem (d := 5) (by omega) (by decide) (by decide)
  have r1 : nI (p + n) - nI (p + n) / (5 : Int32) * (5 : Int32) = nI ((p + n) % 5) := pk_rem (d := 5) (by omega) (by decide) (by decide)
  rw [e4, e1, r4, r1]
  rcases (show e = 0 ∨ e = 1 by omega) with rfl | rfl
  · rw [if_neg (by decide), if_neg (by decide)]
  · rw [if_pos (show nI 1 = 1 from rfl), if_pos rfl]
section Pf
variable {kk : Nat} {G : GS} {j : Nat} {W : Nat → Int32}
theorem ax_sub {W' : Nat → Int32} (hA : AX W j G) (h : ∀ i, W' i = W i) : AX W' j G := by
  obtain rfl : W' = W := funext h
  exact hA
theorem AX_tally {k : Nat} {v : Int32} (hA : AX W j G) (hk : k < 5) : AX (upd W (4 + k) v) j (si G (j, 4) k v) := by
  obtain ⟨a1, a2, a3, a4, a5, a6, a7⟩ := hA
  refine ⟨fun b hb => ?_, fun k' hk' b hb p hp => ?_, ?_, ?_, ?_, ?_, fun k' hk' => ?_⟩
  · rw [upd_ne (by omega)]; exact a1 b hb
  · rw [hN_eq (upd_ne (by omega))] at hp
    unfold fW
    rw [upd_ne (by omega)]
    exact a2 k' hk' b hb p hp
  · rw [upd_ne (by omega), gi_si, if_neg (fun z => by cases z.1)]; exact a3
  · rw [upd_ne (by omega), gi_si, if_neg (fun z => by cases z.1)]; exact a4
  · rw [upd_ne (by omega), gi_si, if_neg (fun z => by cases z.1)]; exact a5
  · rw [upd_ne (by omega), gi_si, if_neg (fun z => by cases z.1)]; exact a6
  · rw [gi_si]
    by_cases e : k' = k
    · subst e; rw [if_pos ⟨rfl, rfl⟩]; exact upd_eq.symm
    · rw [if_neg (fun z => e z.2), upd_ne (by omega)]; exact a7 k' hk'
theorem AX_port {v : Int32} (hA : AX W j G) : AX (upd W 1 v) j (si G (j, 3) 0 v) := by
  obtain ⟨a1, a2, a3, a4, a5, a6, a7⟩ := hA
  refine ⟨fun b hb => ?_, fun k' hk' b hb p hp => ?_, ?_, ?_, ?_, ?_, fun k' hk' => ?_⟩
  · rw [upd_ne (by omega)]; exact a1 b hb
  · rw [hN_eq (upd_ne (by omega))] at hp
    unfold fW
    rw [upd_ne (by omega)]
    exact a2 k' hk' b hb p hp
  · rw [gi_si, if_pos ⟨rfl, rfl⟩]; exact upd_eq.symm
  · rw [upd_ne (by decide), gi_si, if_neg (fun z => by cases z.2)]; exact a4
  · rw [upd_ne (by decide), gi_si, if_neg (fun z => by cases z.2)]; exact a5
  · rw [upd_ne (by decide), gi_si, if_neg (fun z => by cases z.1)]; exact a6
  · rw [upd_ne (by omega), gi_si, if_neg (fun z => by cases z.1)]; exact a7 k' hk'
theorem AX_day {v : Int32} (hA : AX W j G) : AX (upd W 0 v) j (si G (j, 3) 1 v) := by
  obtain ⟨a1, a2, a3, a4, a5, a6, a7⟩ := hA
  refine ⟨fun b hb => ?_, fun k' hk' b hb p hp => ?_, ?_, ?_, ?_, ?_, fun k' hk' => ?_⟩
  · rw [upd_ne (by omega)]; exact a1 b hb
  · rw [hN_eq (upd_ne (by omega))] at hp
    unfold fW
    rw [upd_ne (by omega)]
    exact a2 k' hk' b hb p hp
  · rw [upd_ne (by decide), gi_si, if_neg (fun z => by cases z.2)]; exact a3
  · rw [gi_si, if_pos ⟨rfl, rfl⟩]; exact upd_eq.symm
  · rw [upd_ne (by decide), gi_si, if_neg (fun z => by cases z.2)]; exact a5
  · rw [upd_ne (by decide), gi_si, if_neg (fun z => by cases z.1)]; exact a6
  · rw [upd_ne (by omega), gi_si, if_neg (fun z => by cases z.1)]; exact a7 k' hk'
theorem AX_asc {v u : Int32} (hA : AX W j G) (hu : u = 1 - v) : AX (upd W 2 v) j (si G (j, 3) 2 u) := by
  subst hu
  obtain ⟨a1, a2, a3, a4, a5, a6, a7⟩ := hA
  refine ⟨fun b hb => ?_, fun k' hk' b hb p hp => ?_, ?_, ?_, ?_, ?_, fun k' hk' => ?_⟩
  · rw [upd_ne (by omega)]; exact a1 b hb
  · rw [hN_eq (upd_ne (by omega))] at hp
    unfold fW
    rw [upd_ne (by omega)]
    exact a2 k' hk' b hb p hp
  · rw [upd_ne (by decide), gi_si, if_neg (fun z => by cases z.2)]; exact a3
  · rw [upd_ne (by decide), gi_si, if_neg (fun z => by cases z.2)]; exact a4
  · rw [gi_si, if_pos ⟨rfl, rfl⟩, upd_eq]
  · rw [upd_ne (by decide), gi_si, if_neg (fun z => by cases z.1)]; exact a6
  · rw [upd_ne (by omega), gi_si, if_neg (fun z => by cases z.1)]; exact a7 k' hk'
theorem AX_lim {v : Int32} (hA : AX W j G) : AX (upd W 3 v) j (si G (j, 1) 3 v) := by
  obtain ⟨a1, a2, a3, a4, a5, a6, a7⟩ := hA
  refine ⟨fun b hb => ?_, fun k' hk' b hb p hp => ?_, ?_, ?_, ?_, ?_, fun k' hk' => ?_⟩
  · rw [upd_ne (by omega)]; exact a1 b hb
  · rw [hN_eq (upd_ne (by omega))] at hp
    unfold fW
    rw [upd_ne (by omega)]
    exact a2 k' hk' b hb p hp
  · rw [upd_ne (by decide), gi_si, if_neg (fun z => by cases z.1)]; exact a3
  · rw [upd_ne (by decide), gi_si, if_neg (fun z => by cases z.1)]; exact a4
  · rw [upd_ne (by decide), gi_si, if_neg (fun z => by cases z.1)]; exact a5
  · rw [gi_si, if_pos ⟨rfl, rfl⟩]; exact upd_eq.symm
  · rw [upd_ne (by omega), gi_si, if_neg (fun z => by cases z.1)]; exact a7 k' hk'
theorem HH_put (hH : HH W) {b : Nat} {n w d t : Int32} (hb : b < 7) (hh : hN W b < 5) : HH (opPut W b n w d t) := by
  intro b' hb'
  by_cases e : b' = b
  · subst e
    have hN' : hN (opPut W b' n w d t) b' = hN W b' + 1 := hN_of put_h (by omega)
    exact ⟨by omega, by rw [hN', put_h]⟩
  · have h9 : opPut W b n w d t (9 + b') = W (9 + b') := put_o (by omega) (fun k hk => by unfold qN; omega)
    rw [hN_eq h9, h9]; exact hH b' hb'
theorem HH_take (hH : HH W) {b : Nat} (hb : b < 7) : HH (opTake W b) := by
  intro b' hb'
  by_cases e : b' = b
  · subst e
    have h5 := (hH b' hb).1
    have hN' : hN (opTake W b') b' = hN W b' - 1 := hN_of (take_h hb) (by omega)
    exact ⟨by omega, by rw [hN', take_h hb]⟩
  · have h9 : opTake W b (9 + b') = W (9 + b') := take_o (by omega) (fun k hk => by unfold qN; omega)
    rw [hN_eq h9, h9]; exact hH b' hb'
theorem HH_upd (hH : HH W) {i : Nat} {v : Int32} (hi : i < 9) : HH (upd W i v) := by
  intro b hb
  have h9 : upd W i v (9 + b) = W (9 + b) := upd_ne (by omega)
  rw [hN_eq h9, h9]; exact hH b hb
theorem c_addPillow (hH : HH W) (hA : AX W j G) {b : Nat} (hb : b < 7) (hh : hN W b < 5) (w d : Int32) : ∃ G', D_State_addPillow kk j (nI b) w d G = okI (W 4) G' ∧ AX (opLoad W b w d) j G' ∧ FrS j G G' := by
  obtain ⟨G1, h1, h2, h3⟩ := c_put (kk := kk) hH hA hb hh (gi G (j, 4) 0) w d (gi G (j, 3) 1)
  have e0 : gi G (j, 4) 0 = W 4 := hA.2.2.2.2.2.2 0 (by decide)
  have e1 : gi G (j, 3) 1 = W 0 := hA.2.2.2.1
  rw [e0, e1] at h2
  have e4 : opPut W b (W 4) w d (W 0) 4 = W 4 := put_o (by omega) (fun k hk => by unfold qN; omega)
  have e5 : gi G1 (j, 4) 0 = W 4 := (h2.2.2.2.2.2.2 0 (by decide)).trans e4
  refine ⟨si G1 (j, 4) 0 (gi G1 (j, 4) 0 + 1), (rV h1).trans (by rw [e0]), ?_, h3.tr (FrS.si (by decide) (by decide))⟩
  have := AX_tally (k := 0) (v := W 4 + 1) h2 (by decide)
  rw [e5]
  exact this
theorem c_deliverTop (hH : HH W) (hA : AX W j G) {b : Nat} (hb : b < 7) (hh : 0 < hN W b) : ∃ G', D_State_deliverTop kk j (nI b) G = okI (fW W b (hN W b - 1) 0) G' ∧ AX (opUnload W b) j G' ∧ FrS j G G' := by
  have h5 := (hH b hb).1
  have hA1 : AX (upd W 5 (W 5 + 1)) j (si G (j, 4) 1 (gi G (j, 4) 1 + 1)) := by
    rw [hA.2.2.2.2.2.2 1 (by decide)]
    exact AX_tally (k := 1) hA (by decide)
  have hA2 : AX (upd (upd W 5 (W 5 + 1)) 6 (W 6 + fW W b (hN W b - 1) 1)) j (si (si G (j, 4) 1 (gi G (j, 4) 1 + 1)) (j, 4) 2 (gi (si G (j, 4) 1 (gi G (j, 4) 1 + 1)) (j, 4) 2 + fW W b (hN W b - 1) 1)) := by
    rw [hA1.2.2.2.2.2.2 2 (by decide)]
    exact AX_tally (k := 2) hA1 (by decide)
  have hHu : HH (upd (upd W 5 (W 5 + 1)) 6 (W 6 + fW W b (hN W b - 1) 1)) := HH_upd (HH_upd hH (by decide)) (by decide)
  have hNu : hN (upd (upd W 5 (W 5 + 1)) 6 (W 6 + fW W b (hN W b - 1) 1)) b = hN W b := hN_eq ((upd_ne (by omega)).trans (upd_ne (by omega)))
  obtain ⟨G', g1, g2, g3⟩ := c_take (kk := kk) hHu hA2 hb (by rw [hNu]; exact hh)
  refine ⟨G', ?_, g2, (((FrS.si (by decide) (by decide)).tr (FrS.si (by decide) (by decide))).tr g3)⟩
  obtain ⟨e0, -, -, -⟩ := c_at (kk := kk) hA hb (p := hN W b - 1) (by omega) h5
  refine (rI (c_topSlot hH hA hb)).trans ?_
  rw [if_neg (by omega)]
  refine (rI e0).trans ?_
  have hf : fW (upd W 5 (W 5 + 1)) b (hN W b - 1) 1 = fW W b (hN W b - 1) 1 := upd_ne (by omega)
  obtain ⟨-, e1, -, -⟩ := c_at (kk := kk) hA1 hb (p := hN W b - 1) (by rw [hN_eq (upd_ne (by omega))]; omega) (by rw [hN_eq (upd_ne (by omega))]; omega)
  rw [hf] at e1
  refine (rI e1).trans ?_
  exact rV g1
theorem c_moveTop (hH : HH W) (hA : AX W j G) {b c : Nat} (hb : b < 7) (hc : c < 7) (hbc : b ≠ c) (hh : 0 < hN W b) (hh2 : hN W c < 5) : ∃ G', D_State_moveTop kk j (nI b) (nI c) G = okI (fW W b (hN W b - 1) 0) G' ∧ AX (opShift W b c) j G' ∧ FrS j G G' := by
  have h5 := (hH b hb).1
  obtain ⟨e0, e1, e2, e3⟩ := c_at (kk := kk) hA hb (p := hN W b - 1) (by omega) h5
  obtain ⟨G1, g1, g2, g3⟩ := c_put (kk := kk) hH hA hc hh2 (fW W b (hN W b - 1) 0) (fW W b (hN W b - 1) 1) (fW W b (hN W b - 1) 2) (fW W b (hN W b - 1) 3)
  have hNu : hN (opPut W c (fW W b (hN W b - 1) 0) (fW W b (hN W b - 1) 1) (fW W b (hN W b - 1) 2) (fW W b (hN W b - 1) 3)) b = hN W b := hN_eq (put_o (by omega) (fun k hk => by unfold qN; omega))
  obtain ⟨G', t1, t2, t3⟩ := c_take (kk := kk) (HH_put hH hc hh2) g2 hb (by rw [hNu]; exact hh)
  refine ⟨G', ?_, t2, g3.tr t3⟩
  refine (rI (c_topSlot hH hA hb)).trans ?_
  rw [if_neg (by omega)]
  refine (rI e0).trans ?_
  refine (rI e1).trans ?_
  refine (rI e2).trans ?_
  refine (rI e3).trans ?_
  refine (rV g1).trans ?_
  exact rV t1
theorem c_portIn (hA : AX W j G) {p e n : Nat} (hp : p < 5) (he : e < 2) (h1 : W 1 = nI p) (h2 : W 2 = nI e) (hn : n < 100) : D_Voyage_portIn kk j (nI n) G = okI (nI (pN p e n)) G := by
  unfold D_Voyage_portIn pN
  rw [hA.2.2.2.2.1, hA.2.2.1, h1, h2]
  rcases (show e = 0 ∨ e = 1 by omega) with rfl | rfl
  · rw [if_neg (by decide), if_neg (by decide)]
    exact (rI c_fmod).trans (by rw [fm_plus p hp n hn])
  · rw [if_pos (by decide), if_pos rfl]
    exact (rI c_fmod).trans (by rw [fm_minus p hp n hn])
/-- what a command answers -/
def rC (W : Nat → Int32) (c : Nat) (a1 a2 : Int32) : Int32 := match c with
  | 0 => W 4 | 1 => fW W (bN a1) (hN W (bN a1) - 1) 0 | 2 => fW W (bN a1) (hN W (bN a1) - 1) 0 | 3 => pB W a1 | 4 => W 2 | 5 => W 3 | _ => if byd W a1 = true then 1 else 0
theorem c_sail (hA : AX W j G) (hV : VW W) {a : Int32} (ha : fSail a = 0) : ∃ G', (D_Voyage_advance kk j a G).bind (fun r => oV r (fun G13 => okI (gi G13 (j, 3) 0) G13) exc) = okI (pB W a) G' ∧ AX (opSail W a) j G' ∧ FrS j G G' := by
  obtain ⟨p, e, hp, he, h1, h2⟩ := hV
  have ha' : ∃ n, n < 100 ∧ a = nI n := by
    unfold fSail at ha
    by_cases q : a < 1
    · rw [if_pos q] at ha; cases ha
    · rw [if_neg q] at ha
      by_cases q2 : a ≤ 20
      · rcases ixc a (n := 21) (by decide) with z | z | ⟨n, hn, rfl⟩
        · exact absurd (Int32.lt_of_lt_of_le z (by decide : (0 : Int32) ≤ 1)) q
        · exact absurd (Int32.le_trans z.2 q2) (by decide)
        · exact ⟨n, by omega, rfl⟩
      · rw [if_neg q2] at ha; cases ha
  obtain ⟨n, hn, rfl⟩ := ha'
  have hA1 := AX_port (v := nI (pN p e n)) hA
  have hA2 := AX_day (v := W 0 + nI n) hA1
  refine ⟨si (si G (j, 3) 0 (nI (pN p e n))) (j, 3) 1 (W 0 + nI n), ?_, ?_, (FrS.si (by decide) (by decide)).tr (FrS.si (by decide) (by decide))⟩
  · refine (rV (G := si (si G (j, 3) 0 (nI (pN p e n))) (j, 3) 1 (W 0 + nI n)) ?_).trans ?_
    · refine (rI (c_portIn hA hp he h1 h2 hn)).trans ?_
      rw [hA1.2.2.2.1, show upd W 1 (nI (pN p e n)) 0 = W 0 from upd_ne (by decide)]
    · rw [hA2.2.2.1, pB_eq hp he h1 h2 hn]
      rw [show upd (upd W 1 (nI (pN p e n))) 0 (W 0 + nI n) 1 = nI (pN p e n) from (upd_ne (by decide)).trans upd_eq]
  · unfold opSail
    rw [pB_eq hp he h1 h2 hn]
    exact hA2
theorem c_turn (hA : AX W j G) (hV : VW W) : ∃ G', (D_Voyage_reverse kk j G).bind (fun r => oV r (fun G16 => if (gi G16 (j, 3) 2) = 0 then okI (0 : Int32) G16 else okI (1 : Int32) G16) exc) = okI (W 2) G' ∧ AX (opTurn W) j G' ∧ FrS j G G' := by
  obtain ⟨p, e, hp, he, h1, h2⟩ := hV
  have e5 := hA.2.2.2.2.1
  rcases (show e = 0 ∨ e = 1 by omega) with rfl | rfl
  · refine ⟨si G (j, 3) 2 0, (rV (G := si G (j, 3) 2 0) ?_).trans ?_, AX_asc hA (by rw [h2]; decide), FrS.si (by decide) (by decide)⟩
    · unfold D_Voyage_reverse
      rw [e5, h2]; exact iF (by decide)
    · rw [h2]; exact iT (by rw [gi_si, if_pos ⟨rfl, rfl⟩])
  · refine ⟨si G (j, 3) 2 1, (rV (G := si G (j, 3) 2 1) ?_).trans ?_, AX_asc hA (by rw [h2]; decide), FrS.si (by decide) (by decide)⟩
    · unfold D_Voyage_reverse
      rw [e5, h2]; exact iT (by decide)
    · rw [h2]; exact iF (by rw [gi_si, if_pos ⟨rfl, rfl⟩]; decide)
theorem c_drill (hH : HH W) (hA : AX W j G) (h0 : 0 ≤ W 3) (hk : 40 ≤ kk) (a : Int32) : ∃ G', D_State_practise kk j a G = okI (if byd W a = true then 1 else 0) G' ∧ AX (opDrill W a) j G' ∧ FrS j G G' := by
  obtain ⟨k, rfl⟩ : ∃ k, kk = k + 1 := ⟨kk - 1, by omega⟩
  have hA1 : AX (upd W 7 (W 7 + 1)) j (si G (j, 4) 3 (gi G (j, 4) 3 + 1)) := by
    rw [hA.2.2.2.2.2.2 3 (by decide)]
    exact AX_tally (k := 3) hA (by decide)
  by_cases h : byd W a = true
  · have hA2 : AX (upd (upd W 7 (W 7 + 1)) 8 (W 8 + 1)) j (si (si G (j, 4) 3 (gi G (j, 4) 3 + 1)) (j, 4) 4 (gi (si G (j, 4) 3 (gi G (j, 4) 3 + 1)) (j, 4) 4 + 1)) := by
      rw [hA1.2.2.2.2.2.2 4 (by decide)]
      exact AX_tally (k := 4) hA1 (by decide)
    refine ⟨_, ?_, by unfold opDrill; rw [if_pos h]; exact hA2, (FrS.si (by decide) (by decide)).tr (FrS.si (by decide) (by decide))⟩
    refine (rI (c_momentOfPillows hH hA hk)).trans ?_
    refine (rI (c_within hA h0 a)).trans ?_
    rw [if_pos h, if_pos h]
    rfl
  · refine ⟨_, ?_, by unfold opDrill; rw [if_neg h]; exact ax_sub hA1 (fun i => by
      by_cases e : i = 8
      · subst e; rw [upd_eq, upd_ne (by decide), Int32.add_zero]
      · rw [upd_ne e]), FrS.si (by decide) (by decide)⟩
    refine (rI (c_momentOfPillows hH hA hk)).trans ?_
    refine (rI (c_within hA h0 a)).trans ?_
    rw [if_neg h, if_neg h]
    rfl
/-- what no fault says -/
theorem fLoad_ok {a w d : Int32} (h : fLoad W a w d = 0) : ∃ b, b < 7 ∧ a = nI b ∧ bN a = b ∧ hN W b ≠ 5 ∧ ¬ (w < 1 ∨ 20 < w) ∧ ¬ d < 0 ∧ ¬ nI 5 ≤ d ∧ ¬ byd W ((a - 3) * w) = true := by
  unfold fLoad at h
  cases hb : bad a with
  | true => rw [hb, if_pos rfl] at h; cases h
  | false =>
    obtain ⟨b, hb7, rfl, hbN⟩ := bad_f hb
    rw [hb, if_neg (by decide)] at h
    by_cases q : w < 1 ∨ 20 < w ∨ d < 0 ∨ nI 5 ≤ d
    · rw [if_pos q] at h; cases h
    · rw [if_neg q, hbN] at h
      by_cases q2 : hN W b = 5
      · rw [if_pos q2] at h; cases h
      · rw [if_neg q2] at h
        by_cases q3 : byd W ((nI b - 3) * w) = true
        · rw [if_pos q3] at h; cases h
        · exact ⟨b, hb7, rfl, hbN, q2, fun z => q (z.elim Or.inl (fun y => Or.inr (Or.inl y))), fun z => q (Or.inr (Or.inr (Or.inl z))), fun z => q (Or.inr (Or.inr (Or.inr z))), q3⟩
theorem fUnload_ok {a : Int32} (h : fUnload W a = 0) : ∃ b, b < 7 ∧ a = nI b ∧ bN a = b ∧ hN W b ≠ 0 ∧ ¬ byd W (-((a - 3) * fW W b (hN W b - 1) 1)) = true := by
  unfold fUnload at h
  cases hb : bad a with
  | true => rw [hb, if_pos rfl] at h; cases h
  | false =>
    obtain ⟨b, hb7, rfl, hbN⟩ := bad_f hb
    rw [hb, if_neg (by decide), hbN] at h
    by_cases q2 : hN W b = 0
    · rw [if_pos q2] at h; cases h
    · rw [if_neg q2] at h
      by_cases q1 : fW W b (hN W b - 1) 2 = W 1
      · rw [if_pos q1] at h
        by_cases q3 : byd W (-((nI b - 3) * fW W b (hN W b - 1) 1)) = true
        · rw [if_pos q3] at h; cases h
        · exact ⟨b, hb7, rfl, hbN, q2, q3⟩
      · rw [if_neg q1] at h; cases h
theorem fShift_ok {a c : Int32} (h : fShift W a c = 0) : ∃ b d, b < 7 ∧ d < 7 ∧ a = nI b ∧ c = nI d ∧ bN a = b ∧ bN c = d ∧ b ≠ d ∧ hN W b ≠ 0 ∧ hN W d ≠ 5 ∧ ¬ byd W ((c - 3) * fW W b (hN W b - 1) 1 - (a - 3) * fW W b (hN W b - 1) 1) = true := by
  unfold fShift at h
  cases hb : bad a with
  | true => rw [hb, if_pos rfl] at h; cases h
  | false =>
    obtain ⟨b, hb7, rfl, hbN⟩ := bad_f hb
    rw [hb, if_neg (by decide), hbN] at h
    cases hc : bad c with
    | true => rw [hc, if_pos rfl] at h; cases h
    | false =>
      obtain ⟨d, hd7, rfl, hdN⟩ := bad_f hc
      rw [hc, if_neg (by decide), hdN] at h
      by_cases q0 : nI b = nI d
      · rw [if_pos q0] at h; cases h
      · rw [if_neg q0] at h
        by_cases q2 : hN W b = 0
        · rw [if_pos q2] at h; cases h
        · rw [if_neg q2] at h
          by_cases q1 : hN W d = 5
          · rw [if_pos q1] at h; cases h
          · rw [if_neg q1] at h
            by_cases q3 : byd W ((nI d - 3) * fW W b (hN W b - 1) 1 - (nI b - 3) * fW W b (hN W b - 1) 1) = true
            · rw [if_pos q3] at h; cases h
            · exact ⟨b, d, hb7, hd7, rfl, rfl, hbN, hdN, fun z => q0 (by rw [z]), q2, q1, q3⟩
theorem c_perform (hH : HH W) (hA : AX W j G) (hV : VW W) (h0 : 0 ≤ W 3) (hk : 40 ≤ kk) {c : Nat} (hc : c < 7) {a1 a2 a3 : Int32} (hf : fC W c a1 a2 a3 = 0) : ∃ G', D_State_perform kk j (nI c) a1 a2 a3 G = okI (rC W c a1 a2) G' ∧ AX (opC W c a1 a2 a3) j G' ∧ FrS j G G' := by
  match c, hc, hf with
  | 0, _, hf =>
    obtain ⟨b, hb, rfl, hbN, h5, -⟩ := fLoad_ok hf
    obtain ⟨G', g1, g2, g3⟩ := c_addPillow (kk := kk) hH hA hb (by have := (hH b hb).1; omega) a2 a3
    exact ⟨G', rI g1, by show AX (opLoad W (bN (nI b)) a2 a3) j G'; rw [hbN]; exact g2, g3⟩
  | 1, _, hf =>
    obtain ⟨b, hb, rfl, hbN, h5, -⟩ := fUnload_ok hf
    obtain ⟨G', g1, g2, g3⟩ := c_deliverTop (kk := kk) hH hA hb (by omega)
    refine ⟨G', (iF (by decide)).trans ((iT rfl).trans (rI (g1.trans ?_))), by show AX (opUnload W (bN (nI b))) j G'; rw [hbN]; exact g2, g3⟩
    show okI _ _ = okI (fW W (bN (nI b)) (hN W (bN (nI b)) - 1) 0) G'
    rw [hbN]
  | 2, _, hf =>
    obtain ⟨b, d, hb, hd, rfl, rfl, hbN, hdN, hne, h5, h6, -⟩ := fShift_ok hf
    obtain ⟨G', g1, g2, g3⟩ := c_moveTop (kk := kk) hH hA hb hd hne (by omega) (by have := (hH d hd).1; omega)
    refine ⟨G', (iF (by decide)).trans ((iF (by decide)).trans ((iT rfl).trans (rI (g1.trans ?_)))), by show AX (opShift W (bN (nI b)) (bN (nI d))) j G'; rw [hbN, hdN]; exact g2, g3⟩
    show okI _ _ = okI (fW W (bN (nI b)) (hN W (bN (nI b)) - 1) 0) G'
    rw [hbN]
  | 3, _, hf =>
    obtain ⟨G', g1, g2, g3⟩ := c_sail (kk := kk) hA hV (a := a1) hf
    exact ⟨G', (iF (by decide)).trans ((iF (by decide)).trans ((iF (by decide)).trans ((iT rfl).trans g1))), g2, g3⟩
  | 4, _, hf =>
    obtain ⟨G', g1, g2, g3⟩ := c_turn (kk := kk) hA hV
    exact ⟨G', (iF (by decide)).trans ((iF (by decide)).trans ((iF (by decide)).trans ((iF (by decide)).trans ((iT rfl).trans g1)))), g2, g3⟩
  | 5, _, hf =>
    exact ⟨si G (j, 1) 3 a1, (iF (by decide)).trans ((iF (by decide)).trans ((iF (by decide)).trans ((iF (by decide)).trans ((iF (by decide)).trans ((iT rfl).trans (rI (by unfold D_State_replaceLimit; rw [hA.2.2.2.2.2.1]; rfl))))))), AX_lim hA, FrS.si (by decide) (by decide)⟩
  | 6, _, hf =>
    obtain ⟨G', g1, g2, g3⟩ := c_drill (kk := kk) hH hA h0 hk a1
    refine ⟨G', (iF (by decide)).trans ((iF (by decide)).trans ((iF (by decide)).trans ((iF (by decide)).trans ((iF (by decide)).trans ((iF (by decide)).trans ((iT rfl).trans ((rI g1).trans ?_))))))), g2, g3⟩
    show _ = okI (if byd W a1 = true then 1 else 0) G'
    by_cases h : byd W a1 = true
    · rw [if_pos h]; exact iF (by decide)
    · rw [if_neg h]; exact iT rfl
  | c + 7, h, _ => omega
end Pf
/-! THE REFERENCE CARRIES OUT A COMMAND -/
def AM (W : Nat → Int32) (G : GS) : Prop := ∀ k, k < 156 → ga G (0, 51) k = W k
/-- only the row has changed -/
def FrM (G G' : GS) : Prop := (∀ r f, gi G' r f = gi G r f) ∧ (∀ r : Rf, r ≠ (0, 51) → ∀ i, ga G' r i = ga G r i) ∧ G'.2.2 = G.2.2
theorem FrM.rf {G : GS} : FrM G G := ⟨fun _ _ => rfl, fun _ _ _ => rfl, rfl⟩
theorem FrM.tr {G G1 G2 : GS} (h : FrM G G1) (g : FrM G1 G2) : FrM G G2 := ⟨fun r f => (g.1 r f).trans (h.1 r f), fun r hr i => (g.2.1 r hr i).trans (h.2.1 r hr i), g.2.2.trans h.2.2⟩
theorem FrM.sa {G : GS} {i : Nat} {v : Int32} : FrM G (sa G (0, 51) i v) := ⟨fun _ _ => rfl, fun r hr i' => by rw [ga_sa, if_neg (fun z => hr z.1)], rfl⟩
theorem AM_sa {W : Nat → Int32} {G : GS} {i : Nat} {v : Int32} (h : AM W G) : AM (upd W i v) (sa G (0, 51) i v) := by
  intro k hk
  rw [ga_sa]
  by_cases e : k = i
  · subst e; rw [if_pos ⟨rfl, rfl⟩]; exact upd_eq.symm
  · rw [if_neg (fun z => e z.2), upd_ne e]; exact h k hk
theorem AM_c {W W' : Nat → Int32} {G : GS} (h : AM W G) (e : ∀ k, k < 156 → W k = W' k) : AM W' G := fun k hk => (h k hk).trans (e k hk)
section Mp
variable {kk : Nat} {G : GS} {W : Nat → Int32}
theorem m_puts {b p k : Nat} {v : Int32} (hb : b < 7) (hp : p < 5) (hk : k < 4) : D_Mo_puts kk (nI b) (nI p) (nI k) v G = okV (sa G (0, 51) (qN b p + k) v) := by
  unfold D_Mo_puts
  rw [ix_at]
  refine (bT (in_of (by omega) (by decide))).trans ?_
  rw [nI_clamp (by omega)]; rfl
theorem m_lays (hH : HH W) (hM : AM W G) {b : Nat} (hb : b < 7) (hh : hN W b < 5) (n w d t : Int32) : ∃ G', D_Mo_lays kk (nI b) n w d t G = okV G' ∧ AM (opPut W b n w d t) G' ∧ FrM G G' := by
  have e9 := m_hgt hH hM hb
  have hM1 := AM_sa (i := qN b (hN W b) + 0) (v := n) hM
  have hM2 := AM_sa (i := qN b (hN W b) + 1) (v := w) hM1
  have hM3 := AM_sa (i := qN b (hN W b) + 2) (v := d) hM2
  have hM4 := AM_sa (i := qN b (hN W b) + 3) (v := t) hM3
  have e10 : ga (sa (sa (sa (sa G (0, 51) (qN b (hN W b) + 0) n) (0, 51) (qN b (hN W b) + 1) w) (0, 51) (qN b (hN W b) + 2) d) (0, 51) (qN b (hN W b) + 3) t) (0, 51) (9 + b) = nI (hN W b) := by
    rw [hM4 _ (by omega), upd_ne (by unfold qN; omega), upd_ne (by unfold qN; omega), upd_ne (by unfold qN; omega), upd_ne (by unfold qN; omega), (hH b hb).2]
  refine ⟨sa (sa (sa (sa (sa G (0, 51) (qN b (hN W b) + 0) n) (0, 51) (qN b (hN W b) + 1) w) (0, 51) (qN b (hN W b) + 2) d) (0, 51) (qN b (hN W b) + 3) t) (0, 51) (9 + b) (nI (hN W b + 1)), ?_, AM_sa hM4, (((FrM.sa.tr FrM.sa).tr FrM.sa).tr FrM.sa).tr FrM.sa⟩
  unfold D_Mo_lays
  refine (bT (m_hin hb)).trans ?_
  rw [e9]
  refine (rV (m_puts (k := 0) hb hh (by decide))).trans ?_
  refine (rV (m_puts (k := 1) hb hh (by decide))).trans ?_
  refine (rV (m_puts (k := 2) hb hh (by decide))).trans ?_
  refine (rV (m_puts (k := 3) hb hh (by decide))).trans ?_
  refine (bT (m_hin hb)).trans ?_
  refine (bT (m_hin hb)).trans ?_
  rw [ix_h, nI_clamp (by omega), e10]
  exact congrArg (fun z => okV (sa _ (0, 51) (9 + b) z)) (nI_1 _)
theorem m_takes (hH : HH W) (hM : AM W G) (hk : 40 ≤ kk) {b : Nat} (hb : b < 7) (hh : 0 < hN W b) : ∃ G', D_Mo_takes kk (nI b) G = okV G' ∧ AM (opTake W b) G' ∧ FrM G G' := by
  obtain ⟨k, rfl⟩ : ∃ k, kk = k + 5 := ⟨kk - 5, by omega⟩
  have h5 := (hH b hb).1
  have e9 := m_hgt hH hM hb
  have hM0 := AM_sa (i := 9 + b) (v := nI (hN W b - 1)) hM
  have hM1 := AM_sa (i := qN b (hN W b - 1) + 0) (v := 0) hM0
  have hM2 := AM_sa (i := qN b (hN W b - 1) + 1) (v := 0) hM1
  have hM3 := AM_sa (i := qN b (hN W b - 1) + 2) (v := 0) hM2
  have hM4 := AM_sa (i := qN b (hN W b - 1) + 3) (v := 0) hM3
  have c0 : ga (sa G (0, 51) (9 + b) (nI (hN W b - 1))) (0, 51) (9 + b) = nI (hN W b - 1) := by rw [hM0 _ (by omega), upd_eq]
  have c1 : ga (sa (sa G (0, 51) (9 + b) (nI (hN W b - 1))) (0, 51) (qN b (hN W b - 1) + 0) 0) (0, 51) (9 + b) = nI (hN W b - 1) := by rw [hM1 _ (by omega), upd_ne (by unfold qN; omega), upd_eq]
  have c2 : ga (sa (sa (sa G (0, 51) (9 + b) (nI (hN W b - 1))) (0, 51) (qN b (hN W b - 1) + 0) 0) (0, 51) (qN b (hN W b - 1) + 1) 0) (0, 51) (9 + b) = nI (hN W b - 1) := by rw [hM2 _ (by omega), upd_ne (by unfold qN; omega), upd_ne (by unfold qN; omega), upd_eq]
  have c3 : ga (sa (sa (sa (sa G (0, 51) (9 + b) (nI (hN W b - 1))) (0, 51) (qN b (hN W b - 1) + 0) 0) (0, 51) (qN b (hN W b - 1) + 1) 0) (0, 51) (qN b (hN W b - 1) + 2) 0) (0, 51) (9 + b) = nI (hN W b - 1) := by rw [hM3 _ (by omega), upd_ne (by unfold qN; omega), upd_ne (by unfold qN; omega), upd_ne (by unfold qN; omega), upd_eq]
  have st : ∀ (F i : Nat) (G : GS), i < 4 → ga G (0, 51) (9 + b) = nI (hN W b - 1) → (L_Mo_takes (k + 5) (F + 1)) (nI b) (nI i) G = (L_Mo_takes (k + 5) F) (nI b) (nI (i + 1)) (sa G (0, 51) (qN b (hN W b - 1) + i) 0) := by
    intro F i G hi hg
    refine (iF (nI_ge (b := 4) hi (by decide))).trans ?_
    refine (bT (m_hin hb)).trans ?_
    rw [ix_h, nI_clamp (by omega), hg, nI_1]
    exact rV (m_puts (p := hN W b - 1) hb (by omega) hi)
  refine ⟨_, ?_, hM4, ((((FrM.sa.tr FrM.sa).tr FrM.sa).tr FrM.sa).tr FrM.sa)⟩
  unfold D_Mo_takes
  refine (bT (m_hin hb)).trans ?_
  refine (bT (m_hin hb)).trans ?_
  rw [e9, ix_h, nI_clamp (by omega), show nI (hN W b) - (1 : Int32) = nI (hN W b - 1) from pk_sub (b := 1) (by omega)]
  refine (st (k + 4) 0 _ (by decide) c0).trans ?_
  refine (st (k + 3) 1 _ (by decide) c1).trans ?_
  refine (st (k + 2) 2 _ (by decide) c2).trans ?_
  refine (st (k + 1) 3 _ (by decide) c3).trans ?_
  rfl
theorem m_loads (hH : HH W) (hM : AM W G) {b : Nat} (hb : b < 7) (hh : hN W b < 5) (w d : Int32) : ∃ G', D_Mo_loads kk (nI b) w d G = okI (W 4) G' ∧ AM (opLoad W b w d) G' ∧ FrM G G' := by
  obtain ⟨G1, g1, g2, g3⟩ := m_lays (kk := kk) hH hM hb hh (W 4) w d (W 0)
  have e4 : opPut W b (W 4) w d (W 0) 4 = W 4 := put_o (by omega) (fun k hk => by unfold qN; omega)
  have f4 : ga G1 (0, 51) 4 = W 4 := (g2 4 (by decide)).trans e4
  refine ⟨sa G1 (0, 51) 4 (W 4 + 1), ?_, AM_sa g2, g3.tr FrM.sa⟩
  unfold D_Mo_loads
  rw [hM 4 (by decide), hM 0 (by decide)]
  refine (rV g1).trans ?_
  rw [f4, ga_sa, if_pos ⟨rfl, rfl⟩, Int32.add_sub_cancel]
theorem m_unloads (hH : HH W) (hM : AM W G) (hk : 40 ≤ kk) {b : Nat} (hb : b < 7) (hh : 0 < hN W b) : ∃ G', D_Mo_unloads kk (nI b) G = okI (fW W b (hN W b - 1) 0) G' ∧ AM (opUnload W b) G' ∧ FrM G G' := by
  have hM1 := AM_sa (i := 5) (v := W 5 + 1) hM
  have hM2 := AM_sa (i := 6) (v := W 6 + fW W b (hN W b - 1) 1) hM1
  have hH1 : HH (upd W 5 (W 5 + 1)) := HH_upd hH (by decide)
  have hN1 : hN (upd W 5 (W 5 + 1)) b = hN W b := hN_eq (upd_ne (by omega))
  have hH2 : HH (upd (upd W 5 (W 5 + 1)) 6 (W 6 + fW W b (hN W b - 1) 1)) := HH_upd hH1 (by decide)
  have hN2 : hN (upd (upd W 5 (W 5 + 1)) 6 (W 6 + fW W b (hN W b - 1) 1)) b = hN W b := (hN_eq (upd_ne (by omega))).trans hN1
  obtain ⟨G', g1, g2, g3⟩ := m_takes (kk := kk) hH2 hM2 hk hb (by rw [hN2]; exact hh)
  refine ⟨G', ?_, g2, (FrM.sa.tr FrM.sa).tr g3⟩
  refine (rI (m_top (k := 0) hH hM hb (by decide) hh)).trans ?_
  rw [hM 5 (by decide)]
  have t1 := m_top (kk := kk) (k := 1) hH1 hM1 hb (by decide) (by rw [hN1]; exact hh)
  rw [hN1, show fW (upd W 5 (W 5 + 1)) b (hN W b - 1) 1 = fW W b (hN W b - 1) 1 from upd_ne (by omega)] at t1
  refine (rI t1).trans ?_
  rw [hM1 6 (by decide), upd_ne (by decide)]
  exact rV g1
theorem m_shifts (hH : HH W) (hM : AM W G) (hk : 40 ≤ kk) {b c : Nat} (hb : b < 7) (hc : c < 7) (hbc : b ≠ c) (hh : 0 < hN W b) (hh2 : hN W c < 5) : ∃ G', D_Mo_shifts kk (nI b) (nI c) G = okI (fW W b (hN W b - 1) 0) G' ∧ AM (opShift W b c) G' ∧ FrM G G' := by
  obtain ⟨G1, g1, g2, g3⟩ := m_lays (kk := kk) hH hM hc hh2 (fW W b (hN W b - 1) 0) (fW W b (hN W b - 1) 1) (fW W b (hN W b - 1) 2) (fW W b (hN W b - 1) 3)
  have hNu : hN (opPut W c (fW W b (hN W b - 1) 0) (fW W b (hN W b - 1) 1) (fW W b (hN W b - 1) 2) (fW W b (hN W b - 1) 3)) b = hN W b := hN_eq (put_o (by omega) (fun k hk => by unfold qN; omega))
  obtain ⟨G', t1, t2, t3⟩ := m_takes (kk := kk) (HH_put hH hc hh2) g2 hk hb (by rw [hNu]; exact hh)
  refine ⟨G', ?_, t2, g3.tr t3⟩
  refine (rI (m_top (k := 0) hH hM hb (by decide) hh)).trans ?_
  refine (rI (m_top (k := 1) hH hM hb (by decide) hh)).trans ?_
  refine (rI (m_top (k := 2) hH hM hb (by decide) hh)).trans ?_
  refine (rI (m_top (k := 3) hH hM hb (by decide) hh)).trans ?_
  refine (rV g1).trans ?_
  exact rV t1
theorem m_portBehind (hM : AM W G) (a : Int32) : D_Mo_portBehind kk a G = okI (pB W a) G := by
  unfold D_Mo_portBehind pB
  rw [hM 2 (by decide), hM 1 (by decide)]
  by_cases h : W 2 = 1
  · rw [if_pos h, if_pos h]
  · rw [if_neg h, if_neg h]
theorem m_sails (hM : AM W G) (a : Int32) : ∃ G', D_Mo_sails kk a G = okI (pB W a) G' ∧ AM (opSail W a) G' ∧ FrM G G' := by
  have hM1 := AM_sa (i := 1) (v := pB W a) hM
  refine ⟨sa (sa G (0, 51) 1 (pB W a)) (0, 51) 0 (W 0 + a), ?_, AM_sa hM1, FrM.sa.tr FrM.sa⟩
  refine (rI (m_portBehind hM a)).trans ?_
  rw [hM1 0 (by decide), show upd W 1 (pB W a) 0 = W 0 from upd_ne (by decide), ga_sa, if_neg (fun z => by cases z.2), ga_sa, if_pos ⟨rfl, rfl⟩]
theorem m_turns (hM : AM W G) : ∃ G', D_Mo_turns kk G = okI (1 - W 2) G' ∧ AM (opTurn W) G' ∧ FrM G G' := by
  refine ⟨sa G (0, 51) 2 (1 - W 2), ?_, AM_sa hM, FrM.sa⟩
  unfold D_Mo_turns
  rw [hM 2 (by decide), ga_sa, if_pos ⟨rfl, rfl⟩]
theorem m_setsLimit (hM : AM W G) (a : Int32) : ∃ G', D_Mo_setsLimit kk a G = okI (W 3) G' ∧ AM (opLimit W a) G' ∧ FrM G G' := by
  refine ⟨sa G (0, 51) 3 a, ?_, AM_sa hM, FrM.sa⟩
  unfold D_Mo_setsLimit
  rw [hM 3 (by decide)]
theorem mom_upd {i : Nat} {v : Int32} (hi : i < 9) : mom (upd W i v) = mom W := by
  unfold mom
  refine sm_congr (fun b _ => ?_)
  unfold wB
  rw [hN_eq (W := W) (upd_ne (by omega))]
  exact congrArg (fun z => (nI b - 3) * z) (sm_congr (fun p _ => upd_ne (by omega)))
theorem byd_upd {i : Nat} {v x : Int32} (hi : i < 9) (h3 : i ≠ 3) : byd (upd W i v) x = byd W x := by
  unfold byd
  rw [mom_upd hi, upd_ne (fun z => h3 z.symm)]
theorem m_drills (hH : HH W) (hM : AM W G) (hk : 40 ≤ kk) (a : Int32) : ∃ G', D_Mo_drills kk a G = okI (if byd W a = true then 1 else 0) G' ∧ AM (opDrill W a) G' ∧ FrM G G' := by
  have hM1 := AM_sa (i := 7) (v := W 7 + 1) hM
  have hb := m_isBeyond (kk := kk) (HH_upd (i := 7) (v := W 7 + 1) hH (by decide)) hM1 hk a
  rw [byd_upd (by decide) (by decide)] at hb
  refine ⟨sa (sa G (0, 51) 7 (W 7 + 1)) (0, 51) 8 (W 8 + (if byd W a = true then 1 else 0)), ?_, AM_sa hM1, FrM.sa.tr FrM.sa⟩
  unfold D_Mo_drills
  rw [hM 7 (by decide)]
  refine (rI hb).trans ?_
  rw [hM1 8 (by decide), show upd W 7 (W 7 + 1) 8 = W 8 from upd_ne (by decide)]
  by_cases h : byd W a = true
  · rw [if_pos h]; exact iF (by decide)
  · rw [if_neg h]; exact iT rfl
end Mp
/-! WELL-FORMED ROWS -/
/-- a pillow's data -/
def PD (N : Nat) (n w d t : Int32) : Prop := (∃ q, q < N ∧ n = nI q) ∧ (∃ q, 1 ≤ q ∧ q ≤ 20 ∧ w = nI q) ∧ (∃ q, q < 5 ∧ d = nI q) ∧ ∃ q, q ≤ 20 * N ∧ t = nI q
def WF (N : Nat) (W : Nat → Int32) : Prop :=
  HH W ∧ VW W ∧ (∃ l, 10 ≤ l ∧ l ≤ 99 ∧ W 3 = nI l) ∧ byd W 0 = false ∧ (∀ b p, b < 7 → p < hN W b → PD N (fW W b p 0) (fW W b p 1) (fW W b p 2) (fW W b p 3)) ∧
  (∃ t, t ≤ 20 * N ∧ W 0 = nI t) ∧ (∃ n, n ≤ N ∧ W 4 = nI n) ∧ ∃ n c, c ≤ n ∧ n ≤ N ∧ W 7 = nI n ∧ W 8 = nI c
theorem PD.mono {N M : Nat} {n w d t : Int32} (h : PD N n w d t) (hNM : N ≤ M) : PD M n w d t := by
  obtain ⟨⟨q, h1, h2⟩, h3, h4, q', h5, h6⟩ := h
  exact ⟨⟨q, by omega, h2⟩, h3, h4, q', by omega, h6⟩
theorem WF.mono {N M : Nat} {W : Nat → Int32} (h : WF N W) (hNM : N ≤ M) : WF M W := by
  obtain ⟨h1, h2, h3, h4, h5, ⟨t, h6, h7⟩, ⟨n, h8, h9⟩, n', c, g1, g2, g3, g4⟩ := h
  exact ⟨h1, h2, h3, h4, fun b p hb hp => (h5 b p hb hp).mono hNM, ⟨t, by omega, h7⟩, ⟨n, by omega, h9⟩, n', c, g1, by omega, g3, g4⟩
theorem WF.lim0 {N : Nat} {W : Nat → Int32} (h : WF N W) : 0 ≤ W 3 := by
  obtain ⟨l, h1, h2, h3⟩ := h.2.2.1
  rw [h3]
  exact nI_pos' (by omega)
theorem sm_at {f g : Nat → Int32} {δ : Int32} {b : Nat} : ∀ {n : Nat}, b < n → (∀ i, i < n → i ≠ b → g i = f i) → g b = f b + δ → sm g n = sm f n + δ
  | 0, h, _, _ => by omega
  | n + 1, h, h1, h2 => by
    rw [sm, sm]
    by_cases e : b = n
    · subst e
      rw [h2, sm_congr (fun i hi => h1 i (by omega) (by omega)), Int32.add_assoc]
    · rw [sm_at (n := n) (by omega) (fun i hi => h1 i (by omega)) h2, h1 n (by omega) (by omega), Int32.add_assoc, Int32.add_assoc, Int32.add_comm δ]
section Wf
variable {W : Nat → Int32}
theorem fW_put {b b' p k : Nat} {n w d t : Int32} (hb : b < 7) (hb' : b' < 7) (hh : hN W b < 5) (hp : p < 5) (hk : k < 4) : fW (opPut W b n w d t) b' p k = if b' = b ∧ p = hN W b then (match k with | 0 => n | 1 => w | 2 => d | _ => t) else fW W b' p k := by
  by_cases e : b' = b ∧ p = hN W b
  · rw [if_pos e]
    obtain ⟨rfl, rfl⟩ := e
    exact put_q hb hk
  · rw [if_neg e]
    exact put_o (by omega) (fun k' hk' => by unfold qN; omega)
theorem hN_put {b b' : Nat} {n w d t : Int32} (hb' : b' < 7) (hh : hN W b < 5) : hN (opPut W b n w d t) b' = if b' = b then hN W b + 1 else hN W b' := by
  by_cases e : b' = b
  · subst e; rw [if_pos rfl]; exact hN_of put_h (by omega)
  · rw [if_neg e]; exact hN_eq (put_o (by omega) (fun k hk => by unfold qN; omega))
theorem wB_put {b b' : Nat} {n w d t : Int32} (hH : HH W) (hb : b < 7) (hb' : b' < 7) (hh : hN W b < 5) : wB (opPut W b n w d t) b' = if b' = b then wB W b + w else wB W b' := by
  unfold wB
  rw [hN_put hb' hh]
  have h5 := (hH b' hb').1
  by_cases e : b' = b
  · subst e
    rw [if_pos rfl, if_pos rfl, sm]
    rw [sm_congr (g := fun p => fW W b' p 1) (fun p hp => by rw [fW_put hb hb' hh (by omega) (by decide), if_neg (fun z => by omega)])]
    rw [fW_put hb hb' hh (by omega) (by decide), if_pos ⟨rfl, rfl⟩]
    rfl
  · rw [if_neg e, if_neg e]
    exact sm_congr (fun p hp => by rw [fW_put hb hb' hh (by omega) (by decide), if_neg (fun z => e z.1)])
theorem mom_put {b : Nat} {n w d t : Int32} (hH : HH W) (hb : b < 7) (hh : hN W b < 5) : mom (opPut W b n w d t) = mom W + (nI b - 3) * w := by
  unfold mom
  refine sm_at hb (fun i hi hne => ?_) ?_
  · show (nI i - 3) * wB (opPut W b n w d t) i = (nI i - 3) * wB W i
    rw [wB_put hH hb hi hh, if_neg hne]
  · show (nI b - 3) * wB (opPut W b n w d t) b = (nI b - 3) * wB W b + (nI b - 3) * w
    rw [wB_put hH hb hb hh, if_pos rfl, Int32.mul_add]
theorem fW_take {b b' p k : Nat} (hb : b < 7) (hb' : b' < 7) (h5 : hN W b ≤ 5) (h0 : 0 < hN W b) (hp : p < 5) (hk : k < 4) (hne : ¬ (b' = b ∧ p = hN W b - 1)) : fW (opTake W b) b' p k = fW W b' p k :=
  take_o (by omega) (fun k' hk' => by unfold qN; omega)
theorem hN_take {b b' : Nat} (hb : b < 7) (hb' : b' < 7) (h5 : hN W b ≤ 5) : hN (opTake W b) b' = if b' = b then hN W b - 1 else hN W b' := by
  by_cases e : b' = b
  · subst e; rw [if_pos rfl]; exact hN_of (take_h hb) (by omega)
  · rw [if_neg e]; exact hN_eq (take_o (by omega) (fun k hk => by unfold qN; omega))
theorem wB_take {b b' : Nat} (hH : HH W) (hb : b < 7) (hb' : b' < 7) (h0 : 0 < hN W b) : wB (opTake W b) b' = if b' = b then wB W b - fW W b (hN W b - 1) 1 else wB W b' := by
  have h5 := (hH b hb).1
  have h6 := (hH b' hb').1
  unfold wB
  rw [hN_take hb hb' h5]
  by_cases e : b' = b
  · subst e
    rw [if_pos rfl, if_pos rfl]
    rw [sm_congr (g := fun p => fW W b' p 1) (fun p hp => fW_take hb hb' h5 h0 (by omega) (by decide) (fun z => by omega))]
    obtain ⟨m, hm⟩ : ∃ m, hN W b' = m + 1 := ⟨hN W b' - 1, by omega⟩
    rw [hm, Nat.add_sub_cancel, sm, Int32.add_sub_cancel]
  · rw [if_neg e, if_neg e]
    exact sm_congr (fun p hp => fW_take hb hb' h5 h0 (by omega) (by decide) (fun z => e z.1))
theorem mom_take {b : Nat} (hH : HH W) (hb : b < 7) (h0 : 0 < hN W b) : mom (opTake W b) = mom W + -((nI b - 3) * fW W b (hN W b - 1) 1) := by
  unfold mom
  refine sm_at hb (fun i hi hne => ?_) ?_
  · show (nI i - 3) * wB (opTake W b) i = (nI i - 3) * wB W i
    rw [wB_take hH hb hi h0, if_neg hne]
  · show (nI b - 3) * wB (opTake W b) b = (nI b - 3) * wB W b + -((nI b - 3) * fW W b (hN W b - 1) 1)
    rw [wB_take hH hb hb h0, if_pos rfl, Int32.mul_sub, Int32.sub_eq_add_neg]
theorem byd_0 {W' : Nat → Int32} {x : Int32} (h1 : mom W' = mom W + x) (h2 : W' 3 = W 3) : byd W' 0 = byd W x := by
  unfold byd
  rw [h1, h2, Int32.add_zero]
theorem WF_put {N b : Nat} {n w d t : Int32} (h : WF N W) (hb : b < 7) (hh : hN W b < 5) (hy : byd W ((nI b - 3) * w) = false) (hp : PD N n w d t) : WF N (opPut W b n w d t) := by
  obtain ⟨h1, ⟨p, e, v1, v2, v3, v4⟩, ⟨l, l1, l2, l3⟩, h4, h5, ⟨t', t1, t2⟩, ⟨n', n1, n2⟩, m, c, m1, m2, m3, m4⟩ := h
  have o : ∀ i, i < 9 → opPut W b n w d t i = W i := fun i hi => put_o (by omega) (fun k hk => by unfold qN; omega)
  refine ⟨HH_put h1 hb hh, ⟨p, e, v1, v2, (o 1 (by decide)).trans v3, (o 2 (by decide)).trans v4⟩, ⟨l, l1, l2, (o 3 (by decide)).trans l3⟩, (byd_0 (mom_put h1 hb hh) (o 3 (by decide))).trans hy, fun b' p' hb' hp' => ?_, ⟨t', t1, (o 0 (by decide)).trans t2⟩, ⟨n', n1, (o 4 (by decide)).trans n2⟩, m, c, m1, m2, (o 7 (by decide)).trans m3, (o 8 (by decide)).trans m4⟩
  rw [hN_put hb' hh] at hp'
  have h6 := (h1 b' hb').1
  have hp5 : p' < 5 := by
    by_cases e : b' = b
    · subst e; rw [if_pos rfl] at hp'; omega
    · rw [if_neg e] at hp'; omega
  rw [fW_put hb hb' hh hp5 (by decide), fW_put hb hb' hh hp5 (by decide), fW_put hb hb' hh hp5 (by decide), fW_put hb hb' hh hp5 (by decide)]
  by_cases e : b' = b ∧ p' = hN W b
  · rw [if_pos e, if_pos e, if_pos e, if_pos e]; exact hp
  · rw [if_neg e, if_neg e, if_neg e, if_neg e]
    refine h5 b' p' hb' ?_
    by_cases e2 : b' = b
    · subst e2; rw [if_pos rfl] at hp'; omega
    · rw [if_neg e2] at hp'; exact hp'
theorem WF_take {N b : Nat} (h : WF N W) (hb : b < 7) (h0 : 0 < hN W b) (hy : byd W (-((nI b - 3) * fW W b (hN W b - 1) 1)) = false) : WF N (opTake W b) := by
  obtain ⟨h1, ⟨p, e, v1, v2, v3, v4⟩, ⟨l, l1, l2, l3⟩, h4, h5, ⟨t', t1, t2⟩, ⟨n', n1, n2⟩, m, c, m1, m2, m3, m4⟩ := h
  have o : ∀ i, i < 9 → opTake W b i = W i := fun i hi => take_o (by omega) (fun k hk => by unfold qN; omega)
  have hh := (h1 b hb).1
  refine ⟨HH_take h1 hb, ⟨p, e, v1, v2, (o 1 (by decide)).trans v3, (o 2 (by decide)).trans v4⟩, ⟨l, l1, l2, (o 3 (by decide)).trans l3⟩, (byd_0 (mom_take h1 hb h0) (o 3 (by decide))).trans hy, fun b' p' hb' hp' => ?_, ⟨t', t1, (o 0 (by decide)).trans t2⟩, ⟨n', n1, (o 4 (by decide)).trans n2⟩, m, c, m1, m2, (o 7 (by decide)).trans m3, (o 8 (by decide)).trans m4⟩
  rw [hN_take hb hb' hh] at hp'
  have h6 := (h1 b' hb').1
  have hp5 : p' < 5 ∧ p' < hN W b' ∧ ¬ (b' = b ∧ p' = hN W b - 1) := by
    by_cases e : b' = b
    · subst e; rw [if_pos rfl] at hp'; omega
    · rw [if_neg e] at hp'; exact ⟨by omega, hp', fun z => e z.1⟩
  rw [fW_take hb hb' hh h0 hp5.1 (by decide) hp5.2.2, fW_take hb hb' hh h0 hp5.1 (by decide) hp5.2.2, fW_take hb hb' hh h0 hp5.1 (by decide) hp5.2.2, fW_take hb hb' hh h0 hp5.1 (by decide) hp5.2.2]
  exact h5 b' p' hb' hp5.2.1
/-- writes to the row's first nine places -/
theorem WF_upd {N i : Nat} {v : Int32} (h : WF N W) (hi : i < 9) (h1 : i = 1 → ∃ p, p < 5 ∧ v = nI p) (h2 : i = 2 → ∃ e, e < 2 ∧ v = nI e) (h3 : i ≠ 3) (h0 : i = 0 → ∃ t, t ≤ 20 * N ∧ v = nI t) (h4 : i = 4 → ∃ n, n ≤ N ∧ v = nI n) (h7 : i ≠ 7) (h8 : i ≠ 8) : WF N (upd W i v) := by
  obtain ⟨g1, ⟨p, e, v1, v2, v3, v4⟩, ⟨l, l1, l2, l3⟩, g4, g5, ⟨t', t1, t2⟩, ⟨n', n1, n2⟩, m, c, m1, m2, m3, m4⟩ := h
  refine ⟨HH_upd g1 hi, ?_, ⟨l, l1, l2, (upd_ne (fun z => h3 z.symm)).trans l3⟩, (byd_upd hi h3).trans g4, fun b' p' hb' hp' => ?_, ?_, ?_, m, c, m1, m2, (upd_ne (fun z => h7 z.symm)).trans m3, (upd_ne (fun z => h8 z.symm)).trans m4⟩
  · by_cases e1 : i = 1
    · subst e1
      obtain ⟨q, q1, q2⟩ := h1 rfl
      exact ⟨q, e, q1, v2, upd_eq.trans q2, (upd_ne (by decide)).trans v4⟩
    · by_cases e2 : i = 2
      · subst e2
        obtain ⟨q, q1, q2⟩ := h2 rfl
        exact ⟨p, q, v1, q1, (upd_ne (by decide)).trans v3, upd_eq.trans q2⟩
      · exact ⟨p, e, v1, v2, (upd_ne (fun z => e1 z.symm)).trans v3, (upd_ne (fun z => e2 z.symm)).trans v4⟩
  · rw [hN_eq (W := W) (upd_ne (by omega))] at hp'
    have := g5 b' p' hb' hp'
    have o : ∀ k, fW (upd W i v) b' p' k = fW W b' p' k := fun k => upd_ne (by omega)
    rw [o, o, o, o]; exact this
  · by_cases e0 : i = 0
    · subst e0
      obtain ⟨q, q1, q2⟩ := h0 rfl
      exact ⟨q, q1, upd_eq.trans q2⟩
    · exact ⟨t', t1, (upd_ne (fun z => e0 z.symm)).trans t2⟩
  · by_cases e4 : i = 4
    · subst e4
      obtain ⟨q, q1, q2⟩ := h4 rfl
      exact ⟨q, q1, upd_eq.trans q2⟩
    · exact ⟨n', n1, (upd_ne (fun z => e4 z.symm)).trans n2⟩
theorem btrue {b : Bool} (h : ¬ b = true) : b = false := by simpa using h
theorem WF_op {N c : Nat} {a1 a2 a3 : Int32} (h : WF N W) (hc : c < 7) (hf : fC W c a1 a2 a3 = 0) : WF (N + 1) (opC W c a1 a2 a3) := by
  have h' := h.mono (Nat.le_succ N)
  obtain ⟨h1, ⟨p, e, v1, v2, v3, v4⟩, ⟨l, l1, l2, l3⟩, h4, h5, ⟨t', t1, t2⟩, ⟨n', n1, n2⟩, m, cc, m1, m2, m3, m4⟩ := id h
  match c, hc, hf with
  | 0, _, hf =>
    obtain ⟨b, hb, rfl, hbN, g5, g6, g7, g8, g9⟩ := fLoad_ok hf
    have hh : hN W b < 5 := by have := (h1 b hb).1; omega
    show WF (N + 1) (opLoad W (bN (nI b)) a2 a3)
    rw [hbN]
    unfold opLoad
    refine WF_upd (WF_put h' hb hh (btrue g9) ⟨⟨n', by omega, n2⟩, ?_, ?_, ⟨t', by omega, t2⟩⟩) (by decide) (fun z => by cases z) (fun z => by cases z) (by decide) (fun z => by cases z) (fun _ => ⟨n' + 1, by omega, by rw [n2]; exact nI_1 _⟩) (by decide) (by decide)
    · rcases ixc a2 (n := 21) (by decide) with z | z | ⟨q, q1, rfl⟩
      · exact absurd (Or.inl (Int32.lt_of_lt_of_le z (by decide : (0 : Int32) ≤ 1))) g6
      · exact absurd (Or.inr (Int32.lt_of_lt_of_le (by decide : (20 : Int32) < nI 21) z.2)) g6
      · refine ⟨q, ?_, by omega, rfl⟩
        rcases Nat.eq_zero_or_pos q with rfl | z
        · exact absurd (Or.inl (by decide)) g6
        · exact z
    · rcases ixc a3 (n := 5) (by decide) with z | z | ⟨q, q1, rfl⟩
      · exact absurd z g7
      · exact absurd z.2 g8
      · exact ⟨q, q1, rfl⟩
  | 1, _, hf =>
    obtain ⟨b, hb, rfl, hbN, g5, g9⟩ := fUnload_ok hf
    have hh : 0 < hN W b := by omega
    show WF (N + 1) (opUnload W (bN (nI b)))
    rw [hbN]
    unfold opUnload
    have hw : WF (N + 1) (upd (upd W 5 (W 5 + 1)) 6 (W 6 + fW W b (hN W b - 1) 1)) := WF_upd (WF_upd h' (by decide) (fun z => by cases z) (fun z => by cases z) (by decide) (fun z => by cases z) (fun z => by cases z) (by decide) (by decide)) (by decide) (fun z => by cases z) (fun z => by cases z) (by decide) (fun z => by cases z) (fun z => by cases z) (by decide) (by decide)
    have hN2 : hN (upd (upd W 5 (W 5 + 1)) 6 (W 6 + fW W b (hN W b - 1) 1)) b = hN W b := hN_eq ((upd_ne (by omega)).trans (upd_ne (by omega)))
    refine WF_take hw hb (by rw [hN2]; exact hh) ?_
    rw [hN2, byd_upd (by decide) (by decide), byd_upd (by decide) (by decide), show fW (upd (upd W 5 (W 5 + 1)) 6 (W 6 + fW W b (hN W b - 1) 1)) b (hN W b - 1) 1 = fW W b (hN W b - 1) 1 from (upd_ne (by omega)).trans (upd_ne (by omega))]
    exact btrue g9
  | 2, _, hf =>
    obtain ⟨b, d, hb, hd, rfl, rfl, hbN, hdN, hne, g5, g6, g9⟩ := fShift_ok hf
    have hh : hN W d < 5 := by have := (h1 d hd).1; omega
    have h0 : 0 < hN W b := by omega
    have h55 := (h1 b hb).1
    show WF (N + 1) (opShift W (bN (nI b)) (bN (nI d)))
    rw [hbN, hdN]
    have hH1 := HH_put (n := fW W b (hN W b - 1) 0) (w := fW W b (hN W b - 1) 1) (d := fW W b (hN W b - 1) 2) (t := fW W b (hN W b - 1) 3) h1 hd hh
    have o : ∀ i, i < 9 → opShift W b d i = W i := fun i hi => (take_o (by omega) (fun k hk => by unfold qN; omega)).trans (put_o (by omega) (fun k hk => by unfold qN; omega))
    have hNb : hN (opPut W d (fW W b (hN W b - 1) 0) (fW W b (hN W b - 1) 1) (fW W b (hN W b - 1) 2) (fW W b (hN W b - 1) 3)) b = hN W b := by rw [hN_put hb hh, if_neg hne]
    have hfb : ∀ k, k < 4 → fW (opPut W d (fW W b (hN W b - 1) 0) (fW W b (hN W b - 1) 1) (fW W b (hN W b - 1) 2) (fW W b (hN W b - 1) 3)) b (hN W b - 1) k = fW W b (hN W b - 1) k := fun k hk => by rw [fW_put hd hb hh (by omega) hk, if_neg (fun z => hne z.1)]
    have hmom : mom (opShift W b d) = mom W + ((nI d - 3) * fW W b (hN W b - 1) 1 - (nI b - 3) * fW W b (hN W b - 1) 1) := by
      unfold opShift
      rw [mom_take hH1 hb (by rw [hNb]; exact h0), mom_put h1 hd hh, hNb, hfb 1 (by decide), Int32.add_assoc, ← Int32.sub_eq_add_neg]
    refine ⟨HH_take hH1 hb, ⟨p, e, v1, v2, (o 1 (by decide)).trans v3, (o 2 (by decide)).trans v4⟩, ⟨l, l1, l2, (o 3 (by decide)).trans l3⟩, (byd_0 hmom (o 3 (by decide))).trans (btrue g9), fun b' p' hb' hp' => ?_, ⟨t', by omega, (o 0 (by decide)).trans t2⟩, ⟨n', by omega, (o 4 (by decide)).trans n2⟩, m, cc, m1, by omega, (o 7 (by decide)).trans m3, (o 8 (by decide)).trans m4⟩
    unfold opShift at hp' ⊢
    have h66 := (h1 b' hb').1
    rw [hN_take hb hb' (by rw [hNb]; exact h55), hNb, hN_put hb' hh] at hp'
    have hcase : p' < 5 ∧ (b' = d ∧ p' = hN W d ∨ p' < hN W b') ∧ ¬ (b' = b ∧ p' = hN W b - 1) := by
      by_cases e1 : b' = b
      · subst e1
        rw [if_pos rfl] at hp'
        exact ⟨by omega, Or.inr (by omega), by omega⟩
      · rw [if_neg e1] at hp'
        by_cases e2 : b' = d
        · subst e2
          rw [if_pos rfl] at hp'
          refine ⟨by omega, ?_, fun z => e1 z.1⟩
          rcases Nat.lt_or_ge p' (hN W b') with z | z
          · exact Or.inr z
          · exact Or.inl ⟨rfl, by omega⟩
        · rw [if_neg e2] at hp'
          exact ⟨by omega, Or.inr hp', fun z => e1 z.1⟩
    have rd : ∀ k, k < 4 → fW (opTake (opPut W d (fW W b (hN W b - 1) 0) (fW W b (hN W b - 1) 1) (fW W b (hN W b - 1) 2) (fW W b (hN W b - 1) 3)) b) b' p' k = fW (opPut W d (fW W b (hN W b - 1) 0) (fW W b (hN W b - 1) 1) (fW W b (hN W b - 1) 2) (fW W b (hN W b - 1) 3)) b' p' k := fun k hk => fW_take hb hb' (by rw [hNb]; exact h55) (by rw [hNb]; exact h0) hcase.1 hk (by rw [hNb]; exact hcase.2.2)
    rw [rd 0 (by decide), rd 1 (by decide), rd 2 (by decide), rd 3 (by decide), fW_put hd hb' hh hcase.1 (by decide), fW_put hd hb' hh hcase.1 (by decide), fW_put hd hb' hh hcase.1 (by decide), fW_put hd hb' hh hcase.1 (by decide)]
    by_cases e : b' = d ∧ p' = hN W d
    · rw [if_pos e, if_pos e, if_pos e, if_pos e]
      exact (h5 b (hN W b - 1) hb (by omega)).mono (Nat.le_succ N)
    · rw [if_neg e, if_neg e, if_neg e, if_neg e]
      exact (h5 b' p' hb' (hcase.2.1.resolve_left e)).mono (Nat.le_succ N)
  | 3, _, hf =>
    have ha' : ∃ n, n ≤ 20 ∧ a1 = nI n := by
      have hf : fSail a1 = 0 := hf
      unfold fSail at hf
      by_cases q : a1 < 1
      · rw [if_pos q] at hf; cases hf
      · rw [if_neg q] at hf
        by_cases q2 : a1 ≤ 20
        · rcases ixc a1 (n := 21) (by decide) with z | z | ⟨n, hn, rfl⟩
          · exact absurd (Int32.lt_of_lt_of_le z (by decide : (0 : Int32) ≤ 1)) q
          · exact absurd (Int32.le_trans z.2 q2) (by decide)
          · exact ⟨n, by omega, rfl⟩
        · rw [if_neg q2] at hf; cases hf
    obtain ⟨n, hn, rfl⟩ := ha'
    show WF (N + 1) (opSail W (nI n))
    unfold opSail
    rw [pB_eq v1 v2 v3 v4 (by omega)]
    refine WF_upd (WF_upd h' (by decide) (fun _ => ⟨_, pN_lt, rfl⟩) (fun z => by cases z) (by decide) (fun z => by cases z) (fun z => by cases z) (by decide) (by decide)) (by decide) (fun z => by cases z) (fun z => by cases z) (by decide) (fun _ => ⟨t' + n, by omega, by rw [t2]; exact nI_add _ _⟩) (fun z => by cases z) (by decide) (by decide)
  | 4, _, _ =>
    show WF (N + 1) (upd W 2 (1 - W 2))
    refine WF_upd h' (by decide) (fun z => by cases z) (fun _ => ⟨1 - e, by omega, by rw [v4]; exact pk_sub (a := 1) (by omega)⟩) (by decide) (fun z => by cases z) (fun z => by cases z) (by decide) (by decide)
  | 5, _, hf =>
    have hf : fLimit W a1 = 0 := hf
    unfold fLimit at hf
    by_cases q : a1 < 10
    · rw [if_pos q] at hf; cases hf
    · rw [if_neg q] at hf
      by_cases q2 : a1 ≤ 99
      · rw [if_pos q2] at hf
        by_cases q3 : a1 < mom W ∨ a1 < -(mom W)
        · rw [if_pos q3] at hf; cases hf
        · obtain ⟨g1, g2, g3, g4, g5, g6, g7, g8⟩ := h'
          show WF (N + 1) (upd W 3 a1)
          refine ⟨HH_upd g1 (by decide), ⟨p, e, v1, v2, (upd_ne (by decide)).trans v3, (upd_ne (by decide)).trans v4⟩, ?_, ?_, fun b' p' hb' hp' => ?_, ⟨t', by omega, (upd_ne (by decide)).trans t2⟩, ⟨n', by omega, (upd_ne (by decide)).trans n2⟩, m, cc, m1, by omega, (upd_ne (by decide)).trans m3, (upd_ne (by decide)).trans m4⟩
          · rcases ixc a1 (n := 100) (by decide) with z | z | ⟨n, hn, rfl⟩
            · exact absurd (Int32.lt_of_lt_of_le z (by decide : (0 : Int32) ≤ 10)) q
            · exact absurd (Int32.le_trans z.2 q2) (by decide)
            · refine ⟨n, ?_, by omega, upd_eq⟩
              rcases Nat.lt_or_ge n 10 with z | z
              · exact absurd (nI_lt (b := 10) z (by decide)) q
              · exact z
          · unfold byd
            rw [mom_upd (by decide), upd_eq, Int32.add_zero, decide_eq_false (fun z => q3 (Or.inl z)), decide_eq_false (fun z => q3 (Or.inr z))]; rfl
          · rw [hN_eq (W := W) (upd_ne (by omega))] at hp'
            have := g5 b' p' hb' hp'
            have o : ∀ k, fW (upd W 3 a1) b' p' k = fW W b' p' k := fun k => upd_ne (by omega)
            rw [o, o, o, o]; exact this
      · rw [if_neg q2] at hf; cases hf
  | 6, _, _ =>
    obtain ⟨g1, g2, g3, g4, g5, g6, g7, g8⟩ := h'
    show WF (N + 1) (upd (upd W 7 (W 7 + 1)) 8 (W 8 + (if byd W a1 = true then 1 else 0)))
    have o : ∀ i, i ≠ 7 → i ≠ 8 → upd (upd W 7 (W 7 + 1)) 8 (W 8 + (if byd W a1 = true then 1 else 0)) i = W i := fun i h7 h8 => (upd_ne h8).trans (upd_ne h7)
    refine ⟨HH_upd (HH_upd g1 (by decide)) (by decide), ⟨p, e, v1, v2, (o 1 (by decide) (by decide)).trans v3, (o 2 (by decide) (by decide)).trans v4⟩, ⟨l, l1, l2, (o 3 (by decide) (by decide)).trans l3⟩, ?_, fun b' p' hb' hp' => ?_, ⟨t', by omega, (o 0 (by decide) (by decide)).trans t2⟩, ⟨n', by omega, (o 4 (by decide) (by decide)).trans n2⟩, m + 1, (if byd W a1 = true then cc + 1 else cc), ?_, by omega, ?_, ?_⟩
    · rw [byd_upd (by decide) (by decide), byd_upd (by decide) (by decide)]; exact g4
    · rw [hN_eq (W := W) (o _ (by omega) (by omega))] at hp'
      have := g5 b' p' hb' hp'
      have o2 : ∀ k, fW (upd (upd W 7 (W 7 + 1)) 8 (W 8 + (if byd W a1 = true then 1 else 0))) b' p' k = fW W b' p' k := fun k => o _ (by omega) (by omega)
      rw [o2, o2, o2, o2]; exact this
    · split <;> omega
    · rw [upd_ne (by decide), upd_eq, m3]; exact nI_1 _
    · rw [upd_eq, m4]
      by_cases q : byd W a1 = true
      · rw [if_pos q, if_pos q]; exact nI_1 _
      · rw [if_neg q, if_neg q, Int32.add_zero]
  | c + 7, h, _ => omega
end Wf
