/-! THE WORLD: the objects of the abstract machine as cells of the heap, and what is known of the tables. -/
/-- private methods of a class above StringBuilder: their selection follows from the tables (sel_priv) -/
def lw_x : List Cond := [.selects RJ4 yJ5_ensureCapacityInternal_d00df yJ5_ensureCapacityInternal_d00df, .selects RJ4 yJ5_newCapacity_0f7a4 yJ5_newCapacity_0f7a4]
def lw_all : List Cond := (lw_tbl ++ lw_x).filter goodWord
def nw_is (w : Cond) : Bool := match w with
  | .fieldLinkNest .. => true
  | .methodLinkNest .. => true
  | .castable .. => true
  | .declares .. => true
  | .arrayOver (.object _) => true
  | _ => false
/-- words that aren't kept by being warmed in the common way -/
def nw_all : List Cond := lw_tbl.filter nw_is
abbrev cls_ : List vw_C := [(RX6, TX6, 9), (RX3, TX3, 4), (RX0, TX0, 5), (RX5, TX5, 3), (RX4, TX4, 5), (RX1, TX1, 3), (RX2, TX2, 6), (RX7, TX7, 18), (RJ4, TJ4, 4)]
abbrev tys_ (cs : Nat → ClassId) : List (ClassId × FieldType) := [(cs 0, .int), (cs 1, .char), (cs 2, .object "PillowBarge$State"), (cs 3, .long), (cs 4, .double), (cs 5, .byte)]
def Ab (b : Nat) : Nat → Prop := fun q => b ≤ q
def exN (e : Nat) : String := match e with
  | 1 => "java/lang/IndexOutOfBoundsException" | 2 => "java/lang/IllegalArgumentException" | 3 => "java/util/NoSuchElementException"
  | 4 => "java/lang/IllegalStateException" | 5 => "java/lang/UnsupportedOperationException" | _ => "java/lang/ArithmeticException"
def jsT : List String := ["load ", "unload ", "shift ", "sail", "turn", "limit ", "drill "]
def jsI : List Nat := [58, 60, 62, 64, 66, 68, 70]
/-- what the JDK's own members need: the string constants, the digits, some statics -/
def KJ (b : Nat) (ad : Rf → Nat) (adV : Nat → Nat) (U : State) (H : Heap) : Prop :=
  vk_S 7 (jS.map List.length) jS (fun k => ad (k, 200)) adV (Ab b) U H ∧ (∀ k, k < 7 → vk_R "PillowBarge$Script" (jsI.getD k 0) (jsT.getD k "") (ad (k, 200)) U) ∧
  va_Z "java/lang/String" "COMPACT_STRINGS" "Z" (.int 1) (Ab b) U H ∧
  (∃ t, va_Z "java/lang/Integer" "DigitOnes" "[B" (.ref t) (Ab b) U H ∧ va_T .byte t 100 (fun j => .int (Int32.ofNat (48 + j % 10))) (Ab b) U H) ∧
  (∃ t, va_Z "java/lang/Integer" "DigitTens" "[B" (.ref t) (Ab b) U H ∧ va_T .byte t 100 (fun j => .int (Int32.ofNat (48 + j / 10))) (Ab b) U H) ∧
  va_Zq "jdk/internal/util/Preconditions" "SIOOBE_FORMATTER" "Ljava/util/function/BiFunction;" (Ab b) U H
def KS (D : va_G) (cs : Nat → ClassId) (b : Nat) (ad : Rf → Nat) (adV : Nat → Nat) (sc : Nat × (Nat → Int32)) (U : State) (H : Heap) : Prop :=
  va_K D cls_ (tys_ cs) U ∧ vx_Zq Bundle.tN "UNASSIGNED_STACK" Bundle.steD (Ab b) U H ∧ vx_Zq Bundle.tN "SUPPRESSED_SENTINEL" Bundle.listD (Ab b) U H ∧
  (∀ w ∈ nw_all, va_Nw w U) ∧ (∀ e f, e < 7 → f < 7 → exN e ≠ exN f → va_Nc (exN e) (exN f) U) ∧ KJ b ad adV U H ∧ va_X (ad (0, 250)) sc.1 sc.2 U H ∧ ad (0, 250) < H.size ∧ ad (0, 250) < b
theorem nw_warm {s U : State} (hW : s.WarmedH U.vm) : ∀ w ∈ nw_all, va_Nw w s → va_Nw w U := by
  intro w hw h
  have h1 : nw_is w = true := (List.mem_filter.mp hw).2
  cases w <;> first | (exact va_Nw.warmF hW h) | (exact va_Nw.warmM hW h) | (exact va_Nw.warmC hW h) | (exact va_Nw.warmD hW h) | (rename_i t; cases t <;> first | (exact va_AO.moved hW.alike h) | (simp [nw_is] at h1; done)) | (simp [nw_is] at h1; done)
theorem KJ_move {b : Nat} {ad : Rf → Nat} {adV : Nat → Nat} {s U : State} {H H1 : Heap} (hW : s.WarmedH U.vm) (hq : ∀ a : Nat, a < H.size → ¬ Ab b a → H1[a]? = H[a]?) (h : KJ b ad adV s H) : KJ b ad adV U H1 := by
  obtain ⟨h1, h2, h3, ⟨t, h4, h5⟩, ⟨u, h6, h7⟩, h8⟩ := h
  exact ⟨vk_S.moved hW.alike (h1.kept hq), fun k hk => vk_R.warm hW (h2 k hk), va_Z.moved hW.alike (h3.kept hq), ⟨t, va_Z.moved hW.alike (h4.kept hq), va_T.moved hW.alike (h5.kept hq)⟩, ⟨u, va_Z.moved hW.alike (h6.kept hq), va_T.moved hW.alike (h7.kept hq)⟩, va_Zq.moved hW.alike (h8.kept hq)⟩
theorem KS_move {D : va_G} {cs : Nat → ClassId} {b : Nat} {ad : Rf → Nat} {adV : Nat → Nat} {sc : Nat × (Nat → Int32)} {s U : State} {H H1 : Heap} (hW : s.WarmedH U.vm) (hz : H.size ≤ H1.size) (hq : ∀ a : Nat, a < H.size → ¬ Ab b a → H1[a]? = H[a]?) (h : KS D cs b ad adV sc s H) : KS D cs b ad adV sc U H1 := by
  obtain ⟨h1, h2, h3, h4, h5, h6, h7, h8, h9⟩ := h
  exact ⟨va_K.moved hW.alike h1, vx_Zq.moved hW.alike (h2.kept hq), vx_Zq.moved hW.alike (h3.kept hq), fun w hw => nw_warm hW w hw (h4 w hw), fun e f a1 a2 a3 => va_Nc.moved hW.alike (h5 e f a1 a2 a3), KJ_move hW hq h6, va_X.moved hW.alike (h7.kept (hq _ h8 (Nat.not_le.mpr h9))), Nat.lt_of_lt_of_le h8 hz, h9⟩
def rv (ad : Rf → Nat) (v : AV) : Value := match v with
  | .inl v => v
  | .inr r => .ref (ad r)
def fv (ad : Rf → Nat) (G : GS) (r : Rf) (f : Nat) : Value := match gr r f with
  | some q => .ref (ad q)
  | none => .int (gi G r f)
def entA (ad : Rf → Nat) (G : GS) (r : Rf) (t : Nat) : (Nat → Int32) ⊕ (Nat → Int64) ⊕ (Nat → UInt32) ⊕ (Nat → UInt64) ⊕ (Nat → Option Nat) := match t with
  | 0 => .inl (ga G r)
  | 1 => .inl (ga G r)
  | 2 => .inr (.inr (.inr (.inr (fun i => some (ad (i + 2, 1))))))
  | 3 => .inr (.inl (fun i => if i = 0 then go_ G else 0))
  | _ => .inr (.inr (.inr (.inl (fun i => if i = 0 then gd_ G else 0))))
def ent (cs : Nat → ClassId) (ad : Rf → Nat) (G : GS) (r : Rf) : va_E := match kd r.2 with
  | some (.inl (c, n)) => .inr (c, (List.range n).map (fv ad G r))
  | some (.inr (t, n)) => .inl (cs t, n, entA ad G r t)
  | none => .inr (99, [])
def cells_ (cs : Nat → ClassId) (ad : Rf → Nat) (L : List Rf) (G : GS) : va_W := L.map (fun r => (ad r, ent cs ad G r))
theorem cells_get {cs : Nat → ClassId} {ad : Rf → Nat} {L : List Rf} {r : Rf} (hn : L.Nodup) (hr : r ∈ L) (G : GS) (w : va_W) : ∃ k, (cells_ cs ad L G ++ w)[k]? = some (ad r, ent cs ad G r) ∧ ∀ (G' : GS) (x : va_E), x = ent cs ad G' r → (∀ q ∈ L, q ≠ r → ent cs ad G' q = ent cs ad G q) → (cells_ cs ad L G ++ w).set k (ad r, x) = cells_ cs ad L G' ++ w := by
  unfold cells_
  induction L with
  | nil => cases hr
  | cons a L ih =>
    rw [List.nodup_cons] at hn
    by_cases h : a = r
    · subst h
      refine ⟨0, rfl, fun G' x hx hG => ?_⟩
      subst hx
      have e : L.map (fun r => (ad r, ent cs ad G r)) = L.map (fun r => (ad r, ent cs ad G' r)) := by
        refine List.map_congr_left fun q hq => ?_
        rw [hG q (List.mem_cons_of_mem _ hq) (fun e => hn.1 (e ▸ hq))]
      rw [List.map_cons, List.map_cons, ← e]
      rfl
    · rcases List.mem_cons.mp hr with h1 | h1
      · exact absurd h1.symm h
      · obtain ⟨k, h2, h3⟩ := ih hn.2 h1
        refine ⟨k + 1, h2, fun G' x hx hG => ?_⟩
        have h4 := h3 G' x hx (fun q hq => hG q (List.mem_cons_of_mem _ hq))
        rw [List.map_cons, List.map_cons, List.cons_append, List.cons_append, List.set_cons_succ, h4, hG a List.mem_cons_self h]
def PW (D : va_G) (cs : Nat → ClassId) (b : Nat) (ad : Rf → Nat) (L : List Rf) (XT : Nat × (Nat → Int32) → va_W → Prop) (G : GS) (H : Heap) : Prop :=
  ∃ w, XT G.2.2.1 w ∧ va_P D cls_ (cells_ cs ad L G ++ w) H ∧ va_D (Ab b) (cells_ cs ad L G ++ w)
/-- a value of the machine is valid: a reference to an object of the world is in L -/
def vA (L : List Rf) (v : AV) : Prop := match v with
  | .inl _ => True
  | .inr r => (kd r.2).isSome = true → r ∈ L
def vAs (L : List Rf) (l : List AV) : Prop := ∀ v ∈ l, vA L v
def vLs (L : List Rf) (l : Ls) : Prop := ∀ v, some v ∈ l → vA L v
/-- L is closed under its fields -/
def Lok (L : List Rf) : Prop := L.Nodup ∧ (∀ r ∈ L, ∀ f q, gr r f = some q → vA L (.inr q)) ∧ ((0, 11) ∈ L → ∀ i, i < 9 → (i + 2, 1) ∈ L) ∧ (∀ q ∈ L, q.2 = 11 ∨ q.2 = 18 ∨ q.2 = 19 → q.1 = 0)
def toL (ad : Rf → Nat) : Nat → Ls → List (Nat × Value)
  | _, [] => []
  | i, none :: t => toL ad (i + 1) t
  | i, some v :: t => (i, rv ad v) :: toL ad (i + 1) t
theorem toL_mem {ad : Rf → Nat} : ∀ (ls : Ls) (i : Nat) (q : Nat × Value), q ∈ toL ad i ls ↔ ∃ (j : Nat) (v : AV), ls[j]? = some (some v) ∧ q = (i + j, rv ad v)
  | [], i, q => by simp [toL]
  | none :: t, i, q => by
    rw [toL, toL_mem t (i + 1) q]
    constructor
    · rintro ⟨j, v, h, e⟩
      exact ⟨j + 1, v, h, by rw [e]; congr 1; omega⟩
    · rintro ⟨j, v, h, e⟩
      cases j with
      | zero => simp at h
      | succ j => exact ⟨j, v, h, by rw [e]; congr 1; omega⟩
  | some w :: t, i, q => by
    rw [toL, List.mem_cons, toL_mem t (i + 1) q]
    constructor
    · rintro (h | ⟨j, v, h, e⟩)
      · exact ⟨0, w, rfl, h⟩
      · exact ⟨j + 1, v, h, by rw [e]; congr 1; omega⟩
    · rintro ⟨j, v, h, e⟩
      cases j with
      | zero =>
        simp at h
        subst h
        exact Or.inl e
      | succ j => exact Or.inr ⟨j, v, h, by rw [e]; congr 1; omega⟩
def LV (ad : Rf → Nat) (sl : Array Slot) (nL : Nat) (ls : Ls) : Prop := ls.length = nL ∧ lv_has sl nL (toL ad 0 ls)
theorem LV_at {ad : Rf → Nat} {sl : Array Slot} {nL : Nat} {ls : Ls} (h : LV ad sl nL ls) {i : Nat} {v : AV} (hi : ls[i]? = some (some v)) : sl[i]? = some (.val (rv ad v)) :=
  h.2.2.2 (i, rv ad v) ((toL_mem ls 0 _).mpr ⟨i, v, hi, by simp⟩)
theorem LV_weak {ad : Rf → Nat} {sl : Array Slot} {nL : Nat} {ls ls' : Ls} (h : LV ad sl nL ls) (hl : ls'.length = nL) (hs : ∀ (i : Nat) (v : AV), ls'[i]? = some (some v) → ls[i]? = some (some v)) : LV ad sl nL ls' := by
  refine ⟨hl, h.2.1, h.2.2.1, fun q hq => ?_⟩
  obtain ⟨j, v, h1, h2⟩ := (toL_mem ls' 0 q).mp hq
  subst h2
  rw [show 0 + j = j by omega]
  exact LV_at h (hs j v h1)
theorem kill_len : ∀ (ks : List Nat) (ls : Ls), (ai_kill ks ls).length = ls.length
  | [], _ => rfl
  | k :: ks, ls => by rw [ai_kill, kill_len ks, List.length_set]
theorem kill_at : ∀ (ks : List Nat) (ls : Ls) (i : Nat) (v : AV), (ai_kill ks ls)[i]? = some (some v) → ls[i]? = some (some v)
  | [], _, _, _, h => h
  | k :: ks, ls, i, v, h => by
    have h1 := kill_at ks (ls.set k none) i v h
    rw [List.getElem?_set] at h1
    by_cases e : k = i
    · subst e
      rw [if_pos rfl] at h1
      by_cases e2 : k < ls.length
      · rw [if_pos e2] at h1; cases h1
      · rw [if_neg e2] at h1; cases h1
    · rw [if_neg e] at h1; exact h1
theorem LV_kill {ad : Rf → Nat} {sl : Array Slot} {nL : Nat} {ls : Ls} (ks : List Nat) (h : LV ad sl nL ls) : LV ad sl nL (ai_kill ks ls) := LV_weak h (by rw [kill_len]; exact h.1) (kill_at ks ls)
theorem vLs_kill {L : List Rf} {ls : Ls} (ks : List Nat) (h : vLs L ls) : vLs L (ai_kill ks ls) := by
  intro v hv
  obtain ⟨i, hi⟩ := List.getElem?_of_mem hv
  exact h v (List.mem_of_getElem? (kill_at ks ls i v hi))
theorem vLs_set {L : List Rf} {ls : Ls} {i : Nat} {o : Option AV} (h : vLs L ls) (ho : ∀ v, o = some v → vA L v) : vLs L (ls.set i o) := by
  intro v hv
  rcases List.mem_or_eq_of_mem_set hv with h1 | h1
  · exact h v h1
  · exact ho v h1.symm
/-- behind a store of one word -/
theorem LV_set {ad : Rf → Nat} {sl : Array Slot} {nL : Nat} {ls : Ls} {i : Nat} {v : AV} (hlen : ls.length = nL) (hb : ai_below i ls = true)
    (h : lv_has sl nL ((i, rv ad v) :: (toL ad 0 ls).filter (fun q => !(q.1 == i) && !(q.1 + 1 == i && q.2.category == 2)))) : LV ad sl nL (ls.set i (some v)) := by
  refine ⟨by rw [List.length_set]; exact hlen, h.1, h.2.1, fun q hq => ?_⟩
  obtain ⟨j, w, h1, h2⟩ := (toL_mem _ 0 q).mp hq
  subst h2
  rw [show 0 + j = j by omega]
  by_cases e : i = j
  · subst e
    rw [List.getElem?_set, if_pos rfl] at h1
    by_cases e2 : i < ls.length
    · rw [if_pos e2] at h1
      cases h1
      exact h.2.2 (i, rv ad v) List.mem_cons_self
    · rw [if_neg e2] at h1; cases h1
  · rw [List.getElem?_set_ne e] at h1
    refine h.2.2 (j, rv ad w) (List.mem_cons_of_mem _ (List.mem_filter.mpr ⟨(toL_mem ls 0 _).mpr ⟨j, w, h1, by simp⟩, ?_⟩))
    have e3 : (j == i) = false := by simpa using (fun q => e q.symm)
    have e4 : (j + 1 == i && (rv ad w).category == 2) = false := by
      by_cases q : j + 1 = i
      · subst q
        rw [ai_below, h1] at hb
        cases w with
        | inl x =>
          have : x.category = 1 := Nat.eq_of_beq_eq_true hb
          simp [rv, this]
        | inr r => simp [rv, Value.category]
      · have : (j + 1 == i) = false := by simpa using q
        rw [this]; rfl
    simp only [e3, e4]
    rfl
theorem LV_set2 {ad : Rf → Nat} {sl : Array Slot} {nL : Nat} {ls : Ls} {i : Nat} {v : AV} (hlen : ls.length = nL) (hb : ai_below i ls = true)
    (h : lv_has sl nL ((i, rv ad v) :: (toL ad 0 ls).filter (fun q => !(q.1 == i) && (!(q.1 == i + 1) && !(q.1 + 1 == i && q.2.category == 2))))) : LV ad sl nL ((ls.set i (some v)).set (i + 1) none) := by
  refine ⟨by rw [List.length_set, List.length_set]; exact hlen, h.1, h.2.1, fun q hq => ?_⟩
  obtain ⟨j, w, h1, h2⟩ := (toL_mem _ 0 q).mp hq
  subst h2
  rw [show 0 + j = j by omega]
  by_cases e9 : i + 1 = j
  · subst e9
    rw [List.getElem?_set, if_pos rfl] at h1
    by_cases e2 : i + 1 < (ls.set i (some v)).length
    · rw [if_pos e2] at h1; cases h1
    · rw [if_neg e2] at h1; cases h1
  · rw [List.getElem?_set_ne e9] at h1
    by_cases e : i = j
    · subst e
      rw [List.getElem?_set, if_pos rfl] at h1
      by_cases e2 : i < ls.length
      · rw [if_pos e2] at h1
        cases h1
        exact h.2.2 (i, rv ad v) List.mem_cons_self
      · rw [if_neg e2] at h1; cases h1
    · rw [List.getElem?_set_ne e] at h1
      refine h.2.2 (j, rv ad w) (List.mem_cons_of_mem _ (List.mem_filter.mpr ⟨(toL_mem ls 0 _).mpr ⟨j, w, h1, by simp⟩, ?_⟩))
      have e3 : (j == i) = false := by simpa using (fun q => e q.symm)
      have e5 : (j == i + 1) = false := by simpa using (fun q => e9 q.symm)
      have e4 : (j + 1 == i && (rv ad w).category == 2) = false := by
        by_cases q : j + 1 = i
        · subst q
          rw [ai_below, h1] at hb
          cases w with
          | inl x =>
            have : x.category = 1 := Nat.eq_of_beq_eq_true hb
            simp [rv, this]
          | inr r => simp [rv, Value.category]
        · have : (j + 1 == i) = false := by simpa using q
          rw [this]; rfl
      simp only [e3, e4, e5]
      rfl
