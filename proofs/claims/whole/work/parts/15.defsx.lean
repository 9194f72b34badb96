/-! Every method as a function (printed by gen/emit.py from the class files). -/
def D_abs (x : Int32) (G : GS) : Res := okI (if x < 0 then -x else x) G
def D_max (x y : Int32) (G : GS) : Res := okI (if x < y then y else x) G
def D_min (x y : Int32) (G : GS) : Res := okI (if y < x then y else x) G
def D_fmod (x y : Int32) (G : GS) : Res := if y = 0 then none else okI (if x ^^^ y < 0 ∧ ¬ x - x / y * y = 0 then x - x / y * y + y else x - x / y * y) G
/-- whole int arrays alone: from their beginning -/
def D_acopy (a : Rf) (p : Int32) (b : Rf) (q n : Int32) (G : GS) : Res := match kd a.2, kd b.2 with
  | some (.inr (0, m1)), some (.inr (0, m2)) => if p = 0 ∧ q = 0 ∧ ¬ n < 0 ∧ n.toNatClampNeg ≤ m1 ∧ n.toNatClampNeg ≤ m2 then okV (G.1, (fun r i => if r = b then (if i < n.toNatClampNeg then ga G a i else ga G b i) else G.2.1 r i), G.2.2) else none
  | _, _ => none
def D_slen (k : Nat) (G : GS) : Res := if k < 7 then okI (Int32.ofNat (jS.getD k []).length) G else none
def D_sat (k : Nat) (i : Int32) (G : GS) : Res := if k < 7 then (bif inb i (jS.getD k []).length then okI ((jS.getD k []).getD i.toNatClampNeg 0) G else none) else none
/-- the text: at most 48 letters -/
def D_bapc (c : Int32) (G : GS) : Res := if ¬ c < 0 ∧ c < 128 ∧ gn G < 48 then okR (0, 16) (st_ G (gn G + 1) (fun i => if i = gn G then c else gt G i)) else none
def D_bapi (v : Int32) (G : GS) : Res := if -1000 < v ∧ v < 1000 ∧ gn G < 44 then okR (0, 16) (st_ G (gn G + (dg_ v).length) (fun i => if i < gn G then gt G i else (dg_ v).getD (i - gn G) 0)) else none
def D_blen (G : GS) : Res := okI (Int32.ofNat (gn G)) G
def D_bset (n : Int32) (G : GS) : Res := if n = 0 then okV (st_ G 0 (gt G)) else none
def D_bat (i : Int32) (G : GS) : Res := bif inb i (gn G) then okI (gt G i.toNatClampNeg) G else none
def D_Cargo_copyFrom (kk : Nat) (j : Nat) (a0 : Nat) (G : GS) : Res :=
  (D_acopy (a0, 5) (0 : Int32) (j, 5) (0 : Int32) (7 : Int32) G).bind (fun r => oV r (fun G1 =>
  (D_acopy (a0, 6) (0 : Int32) (j, 6) (0 : Int32) (35 : Int32) G1).bind (fun r => oV r (fun G4 =>
  (D_acopy (a0, 7) (0 : Int32) (j, 7) (0 : Int32) (35 : Int32) G4).bind (fun r => oV r (fun G7 =>
  (D_acopy (a0, 8) (0 : Int32) (j, 8) (0 : Int32) (35 : Int32) G7).bind (fun r => oV r (fun G10 =>
  (D_acopy (a0, 9) (0 : Int32) (j, 9) (0 : Int32) (35 : Int32) G10).bind (fun r => oV r (fun G13 =>
  okV G13) exc)) exc)) exc)) exc)) exc)
def D_PB_isBay (kk : Nat) (a0 : Int32) (G : GS) : Res :=
  if a0 < 0 then
    okI (0 : Int32) G
  else
    if (7 : Int32) ≤ a0 then
      okI (0 : Int32) G
    else
      okI (1 : Int32) G
def D_Cargo_heightOf (kk : Nat) (j : Nat) (a0 : Int32) (G : GS) : Res :=
  (D_PB_isBay kk a0 G).bind (fun r => oI r (fun v4 G1 =>
  if v4 = 0 then
    okI (0 : Int32) G1
  else
    bif inb a0 7 then
    okI (ga G1 (j, 5) a0.toNatClampNeg) G1
    else none) exc)
def D_Cargo_isTaken (kk : Nat) (j : Nat) (a0 : Int32) (G : GS) : Res :=
  if a0 < 0 then
    okI (0 : Int32) G
  else
    if (35 : Int32) ≤ a0 then
      okI (0 : Int32) G
    else
      bif inb (a0 / (5 : Int32)) 7 then
      if (ga G (j, 5) (a0 / (5 : Int32)).toNatClampNeg) ≤ (a0 - a0 / (5 : Int32) * (5 : Int32)) then
        okI (0 : Int32) G
      else
        okI (1 : Int32) G
      else none
def D_Cargo_slotAt (kk : Nat) (j : Nat) (a0 : Int32) (a1 : Int32) (G : GS) : Res :=
  (D_PB_isBay kk a0 G).bind (fun r => oI r (fun v4 G1 =>
  if v4 = 0 then
    okI (-1 : Int32) G1
  else
    if a1 < 0 then
      okI (-1 : Int32) G1
    else
      if a1 < (5 : Int32) then
        (D_Cargo_isTaken kk j ((a0 * (5 : Int32)) + a1) G1).bind (fun r => oI r (fun v8 G5 =>
        if v8 = 0 then
          okI (-1 : Int32) G5
        else
          okI ((a0 * (5 : Int32)) + a1) G5) exc)
      else
        okI (-1 : Int32) G1) exc)
def D_Cargo_topSlot (kk : Nat) (j : Nat) (a0 : Int32) (G : GS) : Res :=
  (D_Cargo_heightOf kk j a0 G).bind (fun r => oI r (fun v4 G1 =>
  (D_Cargo_slotAt kk j a0 (v4 - (1 : Int32)) G1).bind (fun r => oI r (fun v8 G5 =>
  okI v8 G5) exc)) exc)
def L_Cargo_slotOf (kk : Nat) : Nat → Nat → Int32 → Int32 → GS → Res
  | 0 => fun _ _ _ _ => none
  | k + 1 => fun x0 x1 x2 G =>
    if (35 : Int32) ≤ x2 then
      okI (-1 : Int32) G
    else
      (D_Cargo_isTaken kk x0 x2 G).bind (fun r => oI r (fun v4 G1 =>
      if v4 = 0 then
        (L_Cargo_slotOf kk k) x0 x1 (x2 + (1 : Int32)) G1
      else
        bif inb x2 35 then
        if (ga G1 (x0, 6) x2.toNatClampNeg) = x1 then
          okI x2 G1
        else
          (L_Cargo_slotOf kk k) x0 x1 (x2 + (1 : Int32)) G1
        else none) exc)
def D_Cargo_slotOf (kk : Nat) (j : Nat) (a0 : Int32) (G : GS) : Res :=
  (L_Cargo_slotOf kk kk) j a0 (0 : Int32) G
def D_PB_isSlot (kk : Nat) (a0 : Int32) (G : GS) : Res :=
  if a0 < 0 then
    okI (0 : Int32) G
  else
    if (35 : Int32) ≤ a0 then
      okI (0 : Int32) G
    else
      okI (1 : Int32) G
def D_Cargo_numberIn (kk : Nat) (j : Nat) (a0 : Int32) (G : GS) : Res :=
  (D_PB_isSlot kk a0 G).bind (fun r => oI r (fun v4 G1 =>
  if v4 = 0 then
    okI (0 : Int32) G1
  else
    bif inb a0 35 then
    okI (ga G1 (j, 6) a0.toNatClampNeg) G1
    else none) exc)
def D_Cargo_weightIn (kk : Nat) (j : Nat) (a0 : Int32) (G : GS) : Res :=
  (D_PB_isSlot kk a0 G).bind (fun r => oI r (fun v4 G1 =>
  if v4 = 0 then
    okI (0 : Int32) G1
  else
    bif inb a0 35 then
    okI (ga G1 (j, 7) a0.toNatClampNeg) G1
    else none) exc)
def D_Cargo_destinationIn (kk : Nat) (j : Nat) (a0 : Int32) (G : GS) : Res :=
  (D_PB_isSlot kk a0 G).bind (fun r => oI r (fun v4 G1 =>
  if v4 = 0 then
    okI (0 : Int32) G1
  else
    bif inb a0 35 then
    okI (ga G1 (j, 8) a0.toNatClampNeg) G1
    else none) exc)
def D_Cargo_dayIn (kk : Nat) (j : Nat) (a0 : Int32) (G : GS) : Res :=
  (D_PB_isSlot kk a0 G).bind (fun r => oI r (fun v4 G1 =>
  if v4 = 0 then
    okI (0 : Int32) G1
  else
    bif inb a0 35 then
    okI (ga G1 (j, 9) a0.toNatClampNeg) G1
    else none) exc)
def L_Cargo_countPillows (kk : Nat) : Nat → Nat → Int32 → Int32 → GS → Res
  | 0 => fun _ _ _ _ => none
  | k + 1 => fun x0 x1 x2 G =>
    if (7 : Int32) ≤ x2 then
      okI x1 G
    else
      bif inb x2 7 then
      (L_Cargo_countPillows kk k) x0 (x1 + (ga G (x0, 5) x2.toNatClampNeg)) (x2 + (1 : Int32)) G
      else none
def D_Cargo_countPillows (kk : Nat) (j : Nat) (G : GS) : Res :=
  (L_Cargo_countPillows kk kk) j (0 : Int32) (0 : Int32) G
def L_Cargo_weightOfAll (kk : Nat) : Nat → Nat → Int32 → Int32 → GS → Res
  | 0 => fun _ _ _ _ => none
  | k + 1 => fun x0 x1 x2 G =>
    if (35 : Int32) ≤ x2 then
      okI x1 G
    else
      (D_Cargo_isTaken kk x0 x2 G).bind (fun r => oI r (fun v4 G1 =>
      if v4 = 0 then
        (L_Cargo_weightOfAll kk k) x0 x1 (x2 + (1 : Int32)) G1
      else
        bif inb x2 35 then
        (L_Cargo_weightOfAll kk k) x0 (x1 + (ga G1 (x0, 7) x2.toNatClampNeg)) (x2 + (1 : Int32)) G1
        else none) exc)
def D_Cargo_weightOfAll (kk : Nat) (j : Nat) (G : GS) : Res :=
  (L_Cargo_weightOfAll kk kk) j (0 : Int32) (0 : Int32) G
def L_Cargo_weightForPort (kk : Nat) : Nat → Nat → Int32 → Int32 → Int32 → GS → Res
  | 0 => fun _ _ _ _ _ => none
  | k + 1 => fun x0 x1 x2 x3 G =>
    if (35 : Int32) ≤ x3 then
      okI x2 G
    else
      (D_Cargo_isTaken kk x0 x3 G).bind (fun r => oI r (fun v4 G1 =>
      if v4 = 0 then
        (L_Cargo_weightForPort kk k) x0 x1 x2 (x3 + (1 : Int32)) G1
      else
        bif inb x3 35 then
        if (ga G1 (x0, 8) x3.toNatClampNeg) = x1 then
          bif inb x3 35 then
          (L_Cargo_weightForPort kk k) x0 x1 (x2 + (ga G1 (x0, 7) x3.toNatClampNeg)) (x3 + (1 : Int32)) G1
          else none
        else
          (L_Cargo_weightForPort kk k) x0 x1 x2 (x3 + (1 : Int32)) G1
        else none) exc)
def D_Cargo_weightForPort (kk : Nat) (j : Nat) (a0 : Int32) (G : GS) : Res :=
  (L_Cargo_weightForPort kk kk) j a0 (0 : Int32) (0 : Int32) G
def L_Cargo_weightOfBay (kk : Nat) : Nat → Nat → Int32 → Int32 → Int32 → GS → Res
  | 0 => fun _ _ _ _ _ => none
  | k + 1 => fun x0 x1 x2 x3 G =>
    if (5 : Int32) ≤ x3 then
      okI x2 G
    else
      (D_Cargo_slotAt kk x0 x1 x3 G).bind (fun r => oI r (fun v4 G1 =>
      (D_PB_isSlot kk v4 G1).bind (fun r => oI r (fun v8 G5 =>
      if v8 = 0 then
        (L_Cargo_weightOfBay kk k) x0 x1 x2 (x3 + (1 : Int32)) G5
      else
        bif inb v4 35 then
        (L_Cargo_weightOfBay kk k) x0 x1 (x2 + (ga G5 (x0, 7) v4.toNatClampNeg)) (x3 + (1 : Int32)) G5
        else none) exc)) exc)
def D_Cargo_weightOfBay (kk : Nat) (j : Nat) (a0 : Int32) (G : GS) : Res :=
  (L_Cargo_weightOfBay kk kk) j a0 (0 : Int32) (0 : Int32) G
def D_PB_leverArm (kk : Nat) (a0 : Int32) (G : GS) : Res :=
  okI (a0 - (3 : Int32)) G
def L_Cargo_momentOfPillows (kk : Nat) : Nat → Nat → Int32 → Int32 → GS → Res
  | 0 => fun _ _ _ _ => none
  | k + 1 => fun x0 x1 x2 G =>
    if (35 : Int32) ≤ x2 then
      okI x1 G
    else
      (D_Cargo_isTaken kk x0 x2 G).bind (fun r => oI r (fun v4 G1 =>
      if v4 = 0 then
        (L_Cargo_momentOfPillows kk k) x0 x1 (x2 + (1 : Int32)) G1
      else
        bif inb x2 35 then
        (D_PB_leverArm kk (x2 / (5 : Int32)) G1).bind (fun r => oI r (fun v8 G5 =>
        (L_Cargo_momentOfPillows kk k) x0 (x1 + ((ga G1 (x0, 7) x2.toNatClampNeg) * v8)) (x2 + (1 : Int32)) G5) exc)
        else none) exc)
def D_Cargo_momentOfPillows (kk : Nat) (j : Nat) (G : GS) : Res :=
  (L_Cargo_momentOfPillows kk kk) j (0 : Int32) (0 : Int32) G
def L_Cargo_momentOfBays (kk : Nat) : Nat → Nat → Int32 → Int32 → GS → Res
  | 0 => fun _ _ _ _ => none
  | k + 1 => fun x0 x1 x2 G =>
    if (7 : Int32) ≤ x2 then
      okI x1 G
    else
      (D_Cargo_weightOfBay kk x0 x2 G).bind (fun r => oI r (fun v4 G1 =>
      (D_PB_leverArm kk x2 G1).bind (fun r => oI r (fun v8 G5 =>
      (L_Cargo_momentOfBays kk k) x0 (x1 + (v4 * v8)) (x2 + (1 : Int32)) G5) exc)) exc)
def D_Cargo_momentOfBays (kk : Nat) (j : Nat) (G : GS) : Res :=
  (L_Cargo_momentOfBays kk kk) j (0 : Int32) (0 : Int32) G
def D_Cargo_put (kk : Nat) (j : Nat) (a0 : Int32) (a1 : Int32) (a2 : Int32) (a3 : Int32) (a4 : Int32) (G : GS) : Res :=
  (D_Cargo_heightOf kk j a0 G).bind (fun r => oI r (fun v4 G1 =>
  (D_PB_isBay kk a0 G1).bind (fun r => oI r (fun v8 G5 =>
  if v8 = 0 then
    okV G5
  else
    if (5 : Int32) ≤ v4 then
      okV G5
    else
      (D_PB_isSlot kk ((a0 * (5 : Int32)) + v4) G5).bind (fun r => oI r (fun v12 G9 =>
      if v12 = 0 then
        okV G9
      else
        bif inb ((a0 * (5 : Int32)) + v4) 35 then
        bif inb ((a0 * (5 : Int32)) + v4) 35 then
        bif inb ((a0 * (5 : Int32)) + v4) 35 then
        bif inb ((a0 * (5 : Int32)) + v4) 35 then
        bif inb a0 7 then
        okV (sa (sa (sa (sa (sa G9 (j, 6) ((a0 * (5 : Int32)) + v4).toNatClampNeg a1) (j, 7) ((a0 * (5 : Int32)) + v4).toNatClampNeg a2) (j, 8) ((a0 * (5 : Int32)) + v4).toNatClampNeg a3) (j, 9) ((a0 * (5 : Int32)) + v4).toNatClampNeg a4) (j, 5) a0.toNatClampNeg (v4 + (1 : Int32)))
        else none
        else none
        else none
        else none
        else none) exc)) exc)) exc)
def D_Cargo_removeTop (kk : Nat) (j : Nat) (a0 : Int32) (G : GS) : Res :=
  (D_PB_isBay kk a0 G).bind (fun r => oI r (fun v4 G1 =>
  if v4 = 0 then
    okV G1
  else
    bif inb a0 7 then
    if (ga G1 (j, 5) a0.toNatClampNeg) ≤ 0 then
      okV G1
    else
      bif inb a0 7 then
      bif inb a0 7 then
      okV (sa G1 (j, 5) a0.toNatClampNeg ((ga G1 (j, 5) a0.toNatClampNeg) - (1 : Int32)))
      else none
      else none
    else none) exc)
def D_History_placeAt (kk : Nat) (a0 : Int32) (G : GS) : Res :=
  if a0 < 0 then
    okN G
  else
    if (9 : Int32) ≤ a0 then
      okN G
    else
      bif inb a0 9 then
      okR ((a0.toNatClampNeg + 2), 1) G
      else none
def D_Voyage_copyFrom (kk : Nat) (j : Nat) (a0 : Nat) (G : GS) : Res :=
  if (gi (si (si G (j, 3) 0 (gi G (a0, 3) 0)) (j, 3) 1 (gi (si G (j, 3) 0 (gi G (a0, 3) 0)) (a0, 3) 1)) (a0, 3) 2) = 0 ∨ (gi (si (si G (j, 3) 0 (gi G (a0, 3) 0)) (j, 3) 1 (gi (si G (j, 3) 0 (gi G (a0, 3) 0)) (a0, 3) 1)) (a0, 3) 2) = 1 then
  okV (si (si (si G (j, 3) 0 (gi G (a0, 3) 0)) (j, 3) 1 (gi (si G (j, 3) 0 (gi G (a0, 3) 0)) (a0, 3) 1)) (j, 3) 2 (gi (si (si G (j, 3) 0 (gi G (a0, 3) 0)) (j, 3) 1 (gi (si G (j, 3) 0 (gi G (a0, 3) 0)) (a0, 3) 1)) (a0, 3) 2))
  else none
def D_Tally_copyFrom (kk : Nat) (j : Nat) (a0 : Nat) (G : GS) : Res :=
  okV (si (si (si (si (si G (j, 4) 0 (gi G (a0, 4) 0)) (j, 4) 1 (gi (si G (j, 4) 0 (gi G (a0, 4) 0)) (a0, 4) 1)) (j, 4) 2 (gi (si (si G (j, 4) 0 (gi G (a0, 4) 0)) (j, 4) 1 (gi (si G (j, 4) 0 (gi G (a0, 4) 0)) (a0, 4) 1)) (a0, 4) 2)) (j, 4) 3 (gi (si (si (si G (j, 4) 0 (gi G (a0, 4) 0)) (j, 4) 1 (gi (si G (j, 4) 0 (gi G (a0, 4) 0)) (a0, 4) 1)) (j, 4) 2 (gi (si (si G (j, 4) 0 (gi G (a0, 4) 0)) (j, 4) 1 (gi (si G (j, 4) 0 (gi G (a0, 4) 0)) (a0, 4) 1)) (a0, 4) 2)) (a0, 4) 3)) (j, 4) 4 (gi (si (si (si (si G (j, 4) 0 (gi G (a0, 4) 0)) (j, 4) 1 (gi (si G (j, 4) 0 (gi G (a0, 4) 0)) (a0, 4) 1)) (j, 4) 2 (gi (si (si G (j, 4) 0 (gi G (a0, 4) 0)) (j, 4) 1 (gi (si G (j, 4) 0 (gi G (a0, 4) 0)) (a0, 4) 1)) (a0, 4) 2)) (j, 4) 3 (gi (si (si (si G (j, 4) 0 (gi G (a0, 4) 0)) (j, 4) 1 (gi (si G (j, 4) 0 (gi G (a0, 4) 0)) (a0, 4) 1)) (j, 4) 2 (gi (si (si G (j, 4) 0 (gi G (a0, 4) 0)) (j, 4) 1 (gi (si G (j, 4) 0 (gi G (a0, 4) 0)) (a0, 4) 1)) (a0, 4) 2)) (a0, 4) 3)) (a0, 4) 4))
def D_State_copyFrom (kk : Nat) (j : Nat) (a0 : Nat) (G : GS) : Res :=
  (D_Cargo_copyFrom kk j a0 G).bind (fun r => oV r (fun G1 =>
  (D_Voyage_copyFrom kk j a0 G1).bind (fun r => oV r (fun G4 =>
  (D_Tally_copyFrom kk j a0 G4).bind (fun r => oV r (fun G7 =>
  okV (si G7 (j, 1) 3 (gi G7 (a0, 1) 3))) exc)) exc)) exc)
def D_History_draft (kk : Nat) (a0 : Nat) (G : GS) : Res :=
  (D_History_placeAt kk (gi G (0, 10) 1) G).bind (fun r => oQ 1 r (fun G1 =>
    okV G1) (fun q4 G1 =>
    (D_State_copyFrom kk q4 a0 G1).bind (fun r => oV r (fun G5 =>
    okV G5) exc)) exc)
def D_History_keepDraft (kk : Nat) (G : GS) : Res :=
  (D_fmod ((gi G (0, 10) 1) + (1 : Int32)) (9 : Int32) G).bind (fun r => oI r (fun v4 G1 =>
  (D_min ((gi (si G1 (0, 10) 1 v4) (0, 10) 2) + (1 : Int32)) (8 : Int32) (si G1 (0, 10) 1 v4)).bind (fun r => oI r (fun v8 G5 =>
  okV (si G5 (0, 10) 2 v8)) exc)) exc)
def D_History_takeDraftBack (kk : Nat) (a0 : Nat) (G : GS) : Res :=
  (D_History_placeAt kk (gi G (0, 10) 1) G).bind (fun r => oQ 1 r (fun G1 =>
    okV G1) (fun q4 G1 =>
    (D_State_copyFrom kk a0 q4 G1).bind (fun r => oV r (fun G5 =>
    okV G5) exc)) exc)
def D_History_takeLatestBack (kk : Nat) (a0 : Nat) (G : GS) : Res :=
  (D_fmod ((gi G (0, 10) 1) - (1 : Int32)) (9 : Int32) G).bind (fun r => oI r (fun v4 G1 =>
  (D_History_takeDraftBack kk a0 (si (si G1 (0, 10) 1 v4) (0, 10) 2 ((gi (si G1 (0, 10) 1 v4) (0, 10) 2) - (1 : Int32)))).bind (fun r => oV r (fun G5 =>
  okV G5) exc)) exc)
def D_History_forget (kk : Nat) (G : GS) : Res :=
  okV (si G (0, 10) 2 (0 : Int32))
def D_Script_isFull (kk : Nat) (G : GS) : Res :=
  if (gi G (0, 12) 3) < (60 : Int32) then
    okI (0 : Int32) G
  else
    okI (1 : Int32) G
def D_Script_append (kk : Nat) (a0 : Int32) (G : GS) : Res :=
  if (gi G (0, 12) 3) < 0 then
    okV G
  else
    if (60 : Int32) ≤ (gi G (0, 12) 3) then
      okV G
    else
      bif inb (gi G (0, 12) 3) 60 then
      okV (si (sa G (0, 13) (gi G (0, 12) 3).toNatClampNeg (vp_nar .char a0)) (0, 12) 3 ((gi (sa G (0, 13) (gi G (0, 12) 3).toNatClampNeg (vp_nar .char a0)) (0, 12) 3) + (1 : Int32)))
      else none
def D_Script_empty (kk : Nat) (G : GS) : Res :=
  okV (si G (0, 12) 3 (0 : Int32))
def D_Script_commandAt (kk : Nat) (a0 : Int32) (G : GS) : Res :=
  if a0 < 0 then
    okI (7 : Int32) G
  else
    if (15 : Int32) ≤ a0 then
      okI (7 : Int32) G
    else
      bif inb a0 15 then
      okI (ga G (0, 14) a0.toNatClampNeg) G
      else none
def D_Script_argumentAt (kk : Nat) (a0 : Int32) (a1 : Int32) (G : GS) : Res :=
  if ((a0 * (3 : Int32)) + a1) < 0 then
    okI (0 : Int32) G
  else
    if (45 : Int32) ≤ ((a0 * (3 : Int32)) + a1) then
      okI (0 : Int32) G
    else
      bif inb ((a0 * (3 : Int32)) + a1) 45 then
      okI (ga G (0, 15) ((a0 * (3 : Int32)) + a1).toNatClampNeg) G
      else none
def D_Script_keywordOf (kk : Nat) (a0 : Int32) (G : GS) : Res :=
  if a0 = (0 : Int32) then
    okR (0, 200) G
  else if a0 = (1 : Int32) then
    okR (1, 200) G
  else if a0 = (2 : Int32) then
    okR (2, 200) G
  else if a0 = (3 : Int32) then
    okR (3, 200) G
  else if a0 = (4 : Int32) then
    okR (4, 200) G
  else if a0 = (5 : Int32) then
    okR (5, 200) G
  else 
    okR (6, 200) G
def D_Script_isNext (kk : Nat) (a0 : Int32) (a1 : Int32) (G : GS) : Res :=
  if ((gi G (0, 12) 5) + a0) < 0 then
    okI (0 : Int32) G
  else
    if (gi G (0, 12) 3) ≤ ((gi G (0, 12) 5) + a0) then
      okI (0 : Int32) G
    else
      if (60 : Int32) ≤ ((gi G (0, 12) 5) + a0) then
        okI (0 : Int32) G
      else
        bif inb ((gi G (0, 12) 5) + a0) 60 then
        if (ga G (0, 13) ((gi G (0, 12) 5) + a0).toNatClampNeg) = a1 then
          okI (1 : Int32) G
        else
          okI (0 : Int32) G
        else none
def L_Script_countMatching (kk : Nat) : Nat → Nat → Int32 → GS → Res
  | 0 => fun _ _ _ => none
  | k + 1 => fun x1 x2 G =>
    (D_slen x1 G).bind (fun r => oI r (fun v4 G1 =>
    if v4 ≤ x2 then
      okI x2 G1
    else
      (D_sat x1 x2 G1).bind (fun r => oI r (fun v8 G5 =>
      (D_Script_isNext kk x2 v8 G5).bind (fun r => oI r (fun v12 G9 =>
      if v12 = 0 then
        okI x2 G9
      else
        (L_Script_countMatching kk k) x1 (x2 + (1 : Int32)) G9) exc)) exc)) exc)
def D_Script_countMatching (kk : Nat) (a0 : Nat) (G : GS) : Res :=
  (L_Script_countMatching kk kk) a0 (0 : Int32) G
def L_Script_readKeyword (kk : Nat) : Nat → Int32 → Int32 → GS → Res
  | 0 => fun _ _ _ => none
  | k + 1 => fun x1 x2 G =>
    if (7 : Int32) ≤ x2 then
      okI (7 : Int32) (si G (0, 12) 5 ((gi G (0, 12) 5) + x1))
    else
      (D_Script_keywordOf kk x2 G).bind (fun r => oR 200 r (fun q4 G1 =>
        (D_Script_countMatching kk q4 G1).bind (fun r => oI r (fun v8 G5 =>
        (D_slen q4 G5).bind (fun r => oI r (fun v12 G9 =>
        if v8 = v12 then
          okI x2 (si G9 (0, 12) 5 ((gi G9 (0, 12) 5) + v8))
        else
          (D_max x1 v8 G9).bind (fun r => oI r (fun v16 G13 =>
          (L_Script_readKeyword kk k) v16 (x2 + (1 : Int32)) G13) exc)) exc)) exc)) exc)
def D_Script_readKeyword (kk : Nat) (G : GS) : Res :=
  (L_Script_readKeyword kk kk) (0 : Int32) (0 : Int32) G
def D_Script_takeDigit (kk : Nat) (G : GS) : Res :=
  if (gi G (0, 12) 5) < 0 then
    okI (-1 : Int32) G
  else
    if (gi G (0, 12) 3) ≤ (gi G (0, 12) 5) then
      okI (-1 : Int32) G
    else
      if (gi G (0, 12) 5) < (60 : Int32) then
        bif inb (gi G (0, 12) 5) 60 then
        if (ga G (0, 13) (gi G (0, 12) 5).toNatClampNeg) < (48 : Int32) then
          okI (-1 : Int32) G
        else
          if (ga G (0, 13) (gi G (0, 12) 5).toNatClampNeg) ≤ (57 : Int32) then
            okI ((ga G (0, 13) (gi G (0, 12) 5).toNatClampNeg) - (48 : Int32)) (si G (0, 12) 5 ((gi G (0, 12) 5) + (1 : Int32)))
          else
            okI (-1 : Int32) G
        else none
      else
        okI (-1 : Int32) G
def D_Script_setArgument (kk : Nat) (a0 : Int32) (a1 : Int32) (G : GS) : Res :=
  if (((gi G (0, 12) 4) * (3 : Int32)) + a0) < 0 then
    okV G
  else
    if (45 : Int32) ≤ (((gi G (0, 12) 4) * (3 : Int32)) + a0) then
      okV G
    else
      bif inb (((gi G (0, 12) 4) * (3 : Int32)) + a0) 45 then
      okV (sa G (0, 15) (((gi G (0, 12) 4) * (3 : Int32)) + a0).toNatClampNeg a1)
      else none
def D_Script_readDigit (kk : Nat) (a0 : Int32) (G : GS) : Res :=
  (D_Script_takeDigit kk G).bind (fun r => oI r (fun v4 G1 =>
  (D_Script_setArgument kk a0 v4 G1).bind (fun r => oV r (fun G5 =>
  if v4 = (-1 : Int32) then
    okI (0 : Int32) G5
  else
    okI (1 : Int32) G5) exc)) exc)
def D_Script_accept (kk : Nat) (a0 : Int32) (G : GS) : Res :=
  (D_Script_isNext kk (0 : Int32) a0 G).bind (fun r => oI r (fun v4 G1 =>
  if v4 = 0 then
    if v4 = 0 ∨ v4 = 1 then okI v4 G1 else none
  else
    if v4 = 0 ∨ v4 = 1 then okI v4 (si G1 (0, 12) 5 ((gi G1 (0, 12) 5) + (1 : Int32))) else none) exc)
def D_Script_readNumber (kk : Nat) (a0 : Int32) (G : GS) : Res :=
  (D_Script_takeDigit kk G).bind (fun r => oI r (fun v4 G1 =>
  if v4 = (-1 : Int32) then
    okI (0 : Int32) G1
  else
    (D_Script_takeDigit kk G1).bind (fun r => oI r (fun v8 G5 =>
    if v8 = (-1 : Int32) then
      (D_Script_setArgument kk a0 v4 G5).bind (fun r => oV r (fun G12 =>
      okI (1 : Int32) G12) exc)
    else
      (D_Script_setArgument kk a0 ((v4 * (10 : Int32)) + v8) G5).bind (fun r => oV r (fun G9 =>
      okI (1 : Int32) G9) exc)) exc)) exc)
def D_Script_readSignedNumber (kk : Nat) (a0 : Int32) (G : GS) : Res :=
  (D_Script_accept kk (45 : Int32) G).bind (fun r => oI r (fun v4 G1 =>
  (D_Script_readNumber kk a0 G1).bind (fun r => oI r (fun v8 G5 =>
  if v8 = 0 then
    if v8 = 0 ∨ v8 = 1 then okI v8 G5 else none
  else
    if v4 = 0 then
      if v8 = 0 ∨ v8 = 1 then okI v8 G5 else none
    else
      (D_Script_argumentAt kk (gi G5 (0, 12) 4) a0 G5).bind (fun r => oI r (fun v12 G9 =>
      (D_Script_setArgument kk a0 (-v12) G9).bind (fun r => oV r (fun G13 =>
      if v8 = 0 ∨ v8 = 1 then okI v8 G13 else none) exc)) exc)) exc)) exc)
def L_Script_readCommand (kk : Nat) : Nat → Int32 → GS → Res
  | 0 => fun _ _ => none
  | k + 1 => fun x1 G =>
    if x1 = (0 : Int32) then
      (D_Script_readDigit kk (0 : Int32) G).bind (fun r => oI r (fun v8 G5 =>
      if v8 = 0 then
        okI (0 : Int32) G5
      else
        (D_Script_accept kk (32 : Int32) G5).bind (fun r => oI r (fun v12 G9 =>
        if v12 = 0 then
          okI (0 : Int32) G9
        else
          (D_Script_readNumber kk (1 : Int32) G9).bind (fun r => oI r (fun v16 G13 =>
          if v16 = 0 then
            okI (0 : Int32) G13
          else
            (D_Script_accept kk (32 : Int32) G13).bind (fun r => oI r (fun v20 G17 =>
            if v20 = 0 then
              okI (0 : Int32) G17
            else
              (D_Script_readDigit kk (2 : Int32) G17).bind (fun r => oI r (fun v24 G21 =>
              if v24 = 0 then
                okI (0 : Int32) G21
              else
                okI (1 : Int32) G21) exc)) exc)) exc)) exc)) exc)
    else if x1 = (1 : Int32) then
      (D_Script_readDigit kk (0 : Int32) G).bind (fun r => oI r (fun v28 G25 =>
      if v28 = 0 ∨ v28 = 1 then okI v28 G25 else none) exc)
    else if x1 = (2 : Int32) then
      (D_Script_readDigit kk (0 : Int32) G).bind (fun r => oI r (fun v32 G29 =>
      if v32 = 0 then
        okI (0 : Int32) G29
      else
        (D_Script_accept kk (32 : Int32) G29).bind (fun r => oI r (fun v36 G33 =>
        if v36 = 0 then
          okI (0 : Int32) G33
        else
          (D_Script_readDigit kk (1 : Int32) G33).bind (fun r => oI r (fun v40 G37 =>
          if v40 = 0 then
            okI (0 : Int32) G37
          else
            okI (1 : Int32) G37) exc)) exc)) exc)
    else if x1 = (3 : Int32) then
      (D_Script_setArgument kk (0 : Int32) (1 : Int32) G).bind (fun r => oV r (fun G41 =>
      (D_Script_accept kk (32 : Int32) G41).bind (fun r => oI r (fun v47 G44 =>
      if v47 = 0 then
        okI (1 : Int32) G44
      else
        (D_Script_readNumber kk (0 : Int32) G44).bind (fun r => oI r (fun v51 G48 =>
        if v51 = 0 then
          okI (0 : Int32) G48
        else
          okI (1 : Int32) G48) exc)) exc)) exc)
    else if x1 = (4 : Int32) then
      okI (1 : Int32) G
    else if x1 = (5 : Int32) then
      (D_Script_readNumber kk (0 : Int32) G).bind (fun r => oI r (fun v55 G52 =>
      if v55 = 0 ∨ v55 = 1 then okI v55 G52 else none) exc)
    else if x1 = (6 : Int32) then
      (D_Script_readSignedNumber kk (0 : Int32) G).bind (fun r => oI r (fun v59 G56 =>
      if v59 = 0 ∨ v59 = 1 then okI v59 G56 else none) exc)
    else 
      okI (0 : Int32) G
def D_Script_readCommand (kk : Nat) (G : GS) : Res :=
  (D_Script_readKeyword kk G).bind (fun r => oI r (fun v4 G1 =>
  if (gi G1 (0, 12) 4) < 0 then
    (L_Script_readCommand kk kk) v4 G1
  else
    if (15 : Int32) ≤ (gi G1 (0, 12) 4) then
      (L_Script_readCommand kk kk) v4 G1
    else
      bif inb (gi G1 (0, 12) 4) 15 then
      (L_Script_readCommand kk kk) v4 (sa G1 (0, 14) (gi G1 (0, 12) 4).toNatClampNeg v4)
      else none) exc)
def L_Script_parse (kk : Nat) : Nat → GS → Res
  | 0 => fun _ => none
  | k + 1 => fun G =>
    if (15 : Int32) ≤ (gi G (0, 12) 4) then
      okI (0 : Int32) G
    else
      (D_Script_readCommand kk G).bind (fun r => oI r (fun v4 G1 =>
      if v4 = 0 then
        okI (0 : Int32) G1
      else
        (D_Script_accept kk (59 : Int32) (si G1 (0, 12) 4 ((gi G1 (0, 12) 4) + (1 : Int32)))).bind (fun r => oI r (fun v8 G5 =>
        if v8 = 0 then
          if (gi G5 (0, 12) 5) = (gi G5 (0, 12) 3) then
            okI (1 : Int32) G5
          else
            okI (0 : Int32) G5
        else
          (L_Script_parse kk k) G5) exc)) exc)
def D_Script_parse (kk : Nat) (G : GS) : Res :=
  (L_Script_parse kk kk) (si (si G (0, 12) 5 (0 : Int32)) (0, 12) 4 (0 : Int32))
def D_State_isWithinLimit (kk : Nat) (j : Nat) (a0 : Int32) (G : GS) : Res :=
  (D_abs a0 G).bind (fun r => oI r (fun v4 G1 =>
  if (gi G1 (j, 1) 3) < v4 then
    okI (0 : Int32) G1
  else
    okI (1 : Int32) G1) exc)
def D_Voyage_countLegsTo (kk : Nat) (j : Nat) (a0 : Int32) (G : GS) : Res :=
  if (gi G (j, 3) 2) = 0 then
    (D_fmod ((gi G (j, 3) 0) - a0) (5 : Int32) G).bind (fun r => oI r (fun v4 G1 =>
    okI v4 G1) exc)
  else
    (D_fmod (a0 - (gi G (j, 3) 0)) (5 : Int32) G).bind (fun r => oI r (fun v8 G5 =>
    okI v8 G5) exc)
def D_State_legsIn (kk : Nat) (j : Nat) (a0 : Int32) (G : GS) : Res :=
  (D_Cargo_destinationIn kk j a0 G).bind (fun r => oI r (fun v4 G1 =>
  (D_Voyage_countLegsTo kk j v4 G1).bind (fun r => oI r (fun v8 G5 =>
  okI v8 G5) exc)) exc)
def D_State_ageIn (kk : Nat) (j : Nat) (a0 : Int32) (G : GS) : Res :=
  (D_Cargo_dayIn kk j a0 G).bind (fun r => oI r (fun v4 G1 =>
  okI ((gi G (j, 3) 1) - v4) G1) exc)
def D_PB_isWeight (kk : Nat) (a0 : Int32) (G : GS) : Res :=
  if a0 < (1 : Int32) then
    okI (0 : Int32) G
  else
    if (20 : Int32) < a0 then
      okI (0 : Int32) G
    else
      okI (1 : Int32) G
def D_PB_isPort (kk : Nat) (a0 : Int32) (G : GS) : Res :=
  if a0 < 0 then
    okI (0 : Int32) G
  else
    if (5 : Int32) ≤ a0 then
      okI (0 : Int32) G
    else
      okI (1 : Int32) G
def D_State_faultOfMoment (kk : Nat) (j : Nat) (a0 : Int32) (G : GS) : Res :=
  (D_Cargo_momentOfPillows kk j G).bind (fun r => oI r (fun v4 G1 =>
  (D_State_isWithinLimit kk j (v4 + a0) G1).bind (fun r => oI r (fun v8 G5 =>
  if v8 = 0 then
    okI (5 : Int32) G5
  else
    okI (0 : Int32) G5) exc)) exc)
def D_State_faultOfLoad (kk : Nat) (j : Nat) (a0 : Int32) (a1 : Int32) (a2 : Int32) (G : GS) : Res :=
  (D_PB_isBay kk a0 G).bind (fun r => oI r (fun v4 G1 =>
  if v4 = 0 then
    okI (1 : Int32) G1
  else
    (D_PB_isWeight kk a1 G1).bind (fun r => oI r (fun v8 G5 =>
    if v8 = 0 then
      okI (2 : Int32) G5
    else
      (D_PB_isPort kk a2 G5).bind (fun r => oI r (fun v12 G9 =>
      if v12 = 0 then
        okI (2 : Int32) G9
      else
        (D_Cargo_heightOf kk j a0 G9).bind (fun r => oI r (fun v16 G13 =>
        if v16 < (5 : Int32) then
          (D_PB_leverArm kk a0 G13).bind (fun r => oI r (fun v20 G17 =>
          (D_State_faultOfMoment kk j (a1 * v20) G17).bind (fun r => oI r (fun v24 G21 =>
          okI v24 G21) exc)) exc)
        else
          okI (4 : Int32) G13) exc)) exc)) exc)) exc)
def D_State_faultOfUnload (kk : Nat) (j : Nat) (a0 : Int32) (G : GS) : Res :=
  (D_PB_isBay kk a0 G).bind (fun r => oI r (fun v4 G1 =>
  if v4 = 0 then
    okI (1 : Int32) G1
  else
    (D_Cargo_topSlot kk j a0 G1).bind (fun r => oI r (fun v8 G5 =>
    (D_PB_isSlot kk v8 G5).bind (fun r => oI r (fun v12 G9 =>
    if v12 = 0 then
      okI (3 : Int32) G9
    else
      (D_Cargo_destinationIn kk j v8 G9).bind (fun r => oI r (fun v16 G13 =>
      if v16 = (gi G13 (j, 3) 0) then
        (D_Cargo_weightIn kk j v8 G13).bind (fun r => oI r (fun v20 G17 =>
        (D_PB_leverArm kk a0 G17).bind (fun r => oI r (fun v24 G21 =>
        (D_State_faultOfMoment kk j ((-v20) * v24) G21).bind (fun r => oI r (fun v28 G25 =>
        okI v28 G25) exc)) exc)) exc)
      else
        okI (4 : Int32) G13) exc)) exc)) exc)) exc)
def D_State_faultOfShift (kk : Nat) (j : Nat) (a0 : Int32) (a1 : Int32) (G : GS) : Res :=
  (D_PB_isBay kk a0 G).bind (fun r => oI r (fun v4 G1 =>
  if v4 = 0 then
    okI (1 : Int32) G1
  else
    (D_PB_isBay kk a1 G1).bind (fun r => oI r (fun v8 G5 =>
    if v8 = 0 then
      okI (1 : Int32) G5
    else
      if a0 = a1 then
        okI (2 : Int32) G5
      else
        (D_Cargo_topSlot kk j a0 G5).bind (fun r => oI r (fun v12 G9 =>
        (D_PB_isSlot kk v12 G9).bind (fun r => oI r (fun v16 G13 =>
        if v16 = 0 then
          okI (3 : Int32) G13
        else
          (D_Cargo_heightOf kk j a1 G13).bind (fun r => oI r (fun v20 G17 =>
          if v20 < (5 : Int32) then
            (D_Cargo_weightIn kk j v12 G17).bind (fun r => oI r (fun v24 G21 =>
            (D_PB_leverArm kk a1 G21).bind (fun r => oI r (fun v28 G25 =>
            (D_PB_leverArm kk a0 G25).bind (fun r => oI r (fun v32 G29 =>
            (D_State_faultOfMoment kk j (v24 * (v28 - v32)) G29).bind (fun r => oI r (fun v36 G33 =>
            okI v36 G33) exc)) exc)) exc)) exc)
          else
            okI (4 : Int32) G17) exc)) exc)) exc)) exc)) exc)
def D_State_faultOfLimit (kk : Nat) (j : Nat) (a0 : Int32) (G : GS) : Res :=
  if a0 < (10 : Int32) then
    okI (2 : Int32) G
  else
    if a0 ≤ (99 : Int32) then
      (D_Cargo_momentOfPillows kk j G).bind (fun r => oI r (fun v4 G1 =>
      (D_abs v4 G1).bind (fun r => oI r (fun v8 G5 =>
      if v8 ≤ a0 then
        okI (0 : Int32) G5
      else
        okI (5 : Int32) G5) exc)) exc)
    else
      okI (2 : Int32) G
def D_State_faultOf (kk : Nat) (j : Nat) (a0 : Int32) (a1 : Int32) (a2 : Int32) (a3 : Int32) (G : GS) : Res :=
  if a0 = (0 : Int32) then
    (D_State_faultOfLoad kk j a1 a2 a3 G).bind (fun r => oI r (fun v4 G1 =>
    okI v4 G1) exc)
  else if a0 = (1 : Int32) then
    (D_State_faultOfUnload kk j a1 G).bind (fun r => oI r (fun v8 G5 =>
    okI v8 G5) exc)
  else if a0 = (2 : Int32) then
    (D_State_faultOfShift kk j a1 a2 G).bind (fun r => oI r (fun v12 G9 =>
    okI v12 G9) exc)
  else if a0 = (3 : Int32) then
    if a1 < (1 : Int32) then
      okI (2 : Int32) G
    else
      if a1 ≤ (20 : Int32) then
        okI (0 : Int32) G
      else
        okI (2 : Int32) G
  else if a0 = (4 : Int32) then
    okI (0 : Int32) G
  else if a0 = (5 : Int32) then
    (D_State_faultOfLimit kk j a1 G).bind (fun r => oI r (fun v16 G13 =>
    okI v16 G13) exc)
  else if a0 = (6 : Int32) then
    if a1 < (-99 : Int32) then
      okI (2 : Int32) G
    else
      if a1 ≤ (99 : Int32) then
        okI (0 : Int32) G
      else
        okI (2 : Int32) G
  else 
    okI (0 : Int32) G
def D_State_addPillow (kk : Nat) (j : Nat) (a0 : Int32) (a1 : Int32) (a2 : Int32) (G : GS) : Res :=
  (D_Cargo_put kk j a0 (gi G (j, 4) 0) a1 a2 (gi G (j, 3) 1) G).bind (fun r => oV r (fun G1 =>
  okI (gi G (j, 4) 0) (si G1 (j, 4) 0 ((gi G1 (j, 4) 0) + (1 : Int32)))) exc)
def D_State_deliverTop (kk : Nat) (j : Nat) (a0 : Int32) (G : GS) : Res :=
  (D_Cargo_topSlot kk j a0 G).bind (fun r => oI r (fun v4 G1 =>
  (D_Cargo_numberIn kk j v4 G1).bind (fun r => oI r (fun v8 G5 =>
  (D_Cargo_weightIn kk j v4 (si G5 (j, 4) 1 ((gi G5 (j, 4) 1) + (1 : Int32)))).bind (fun r => oI r (fun v12 G9 =>
  (D_Cargo_removeTop kk j a0 (si G9 (j, 4) 2 ((gi (si G5 (j, 4) 1 ((gi G5 (j, 4) 1) + (1 : Int32))) (j, 4) 2) + v12))).bind (fun r => oV r (fun G13 =>
  okI v8 G13) exc)) exc)) exc)) exc)
def D_State_moveTop (kk : Nat) (j : Nat) (a0 : Int32) (a1 : Int32) (G : GS) : Res :=
  (D_Cargo_topSlot kk j a0 G).bind (fun r => oI r (fun v4 G1 =>
  (D_Cargo_numberIn kk j v4 G1).bind (fun r => oI r (fun v8 G5 =>
  (D_Cargo_weightIn kk j v4 G5).bind (fun r => oI r (fun v12 G9 =>
  (D_Cargo_destinationIn kk j v4 G9).bind (fun r => oI r (fun v16 G13 =>
  (D_Cargo_dayIn kk j v4 G13).bind (fun r => oI r (fun v20 G17 =>
  (D_Cargo_put kk j a1 v8 v12 v16 v20 G17).bind (fun r => oV r (fun G21 =>
  (D_Cargo_removeTop kk j a0 G21).bind (fun r => oV r (fun G24 =>
  okI v8 G24) exc)) exc)) exc)) exc)) exc)) exc)) exc)
def D_Voyage_portIn (kk : Nat) (j : Nat) (a0 : Int32) (G : GS) : Res :=
  if (gi G (j, 3) 2) = 0 then
    (D_fmod ((gi G (j, 3) 0) - a0) (5 : Int32) G).bind (fun r => oI r (fun v4 G1 =>
    okI v4 G1) exc)
  else
    (D_fmod ((gi G (j, 3) 0) + a0) (5 : Int32) G).bind (fun r => oI r (fun v8 G5 =>
    okI v8 G5) exc)
def D_Voyage_advance (kk : Nat) (j : Nat) (a0 : Int32) (G : GS) : Res :=
  (D_Voyage_portIn kk j a0 G).bind (fun r => oI r (fun v4 G1 =>
  okV (si (si G1 (j, 3) 0 v4) (j, 3) 1 ((gi (si G1 (j, 3) 0 v4) (j, 3) 1) + a0))) exc)
def D_Voyage_reverse (kk : Nat) (j : Nat) (G : GS) : Res :=
  if (gi G (j, 3) 2) = 0 then
    okV (si G (j, 3) 2 (1 : Int32))
  else
    okV (si G (j, 3) 2 (0 : Int32))
def D_State_replaceLimit (kk : Nat) (j : Nat) (a0 : Int32) (G : GS) : Res :=
  okI (gi G (j, 1) 3) (si G (j, 1) 3 a0)
def L_State_practise (kk : Nat) : Nat → Nat → Int32 → GS → Res
  | 0 => fun _ _ _ => none
  | k + 1 => fun x0 y0 G =>
    if y0 = 0 then
      if y0 = 0 ∨ y0 = 1 then okI y0 (si G (x0, 4) 3 ((gi G (x0, 4) 3) + (1 : Int32))) else none
    else
      if y0 = 0 ∨ y0 = 1 then okI y0 (si (si G (x0, 4) 3 ((gi G (x0, 4) 3) + (1 : Int32))) (x0, 4) 4 ((gi (si G (x0, 4) 3 ((gi G (x0, 4) 3) + (1 : Int32))) (x0, 4) 4) + (1 : Int32))) else none
def D_State_practise (kk : Nat) (j : Nat) (a0 : Int32) (G : GS) : Res :=
  (D_Cargo_momentOfPillows kk j G).bind (fun r => oI r (fun v4 G1 =>
  (D_State_isWithinLimit kk j (v4 + a0) G1).bind (fun r => oI r (fun v8 G5 =>
  if v8 = 0 then
    (L_State_practise kk kk) j (1 : Int32) G5
  else
    (L_State_practise kk kk) j (0 : Int32) G5) exc)) exc)
def D_State_perform (kk : Nat) (j : Nat) (a0 : Int32) (a1 : Int32) (a2 : Int32) (a3 : Int32) (G : GS) : Res :=
  if a0 = (0 : Int32) then
    (D_State_addPillow kk j a1 a2 a3 G).bind (fun r => oI r (fun v4 G1 =>
    okI v4 G1) exc)
  else if a0 = (1 : Int32) then
    (D_State_deliverTop kk j a1 G).bind (fun r => oI r (fun v8 G5 =>
    okI v8 G5) exc)
  else if a0 = (2 : Int32) then
    (D_State_moveTop kk j a1 a2 G).bind (fun r => oI r (fun v12 G9 =>
    okI v12 G9) exc)
  else if a0 = (3 : Int32) then
    (D_Voyage_advance kk j a1 G).bind (fun r => oV r (fun G13 =>
    okI (gi G13 (j, 3) 0) G13) exc)
  else if a0 = (4 : Int32) then
    (D_Voyage_reverse kk j G).bind (fun r => oV r (fun G16 =>
    if (gi G16 (j, 3) 2) = 0 then
      okI (0 : Int32) G16
    else
      okI (1 : Int32) G16) exc)
  else if a0 = (5 : Int32) then
    (D_State_replaceLimit kk j a1 G).bind (fun r => oI r (fun v22 G19 =>
    okI v22 G19) exc)
  else if a0 = (6 : Int32) then
    (D_State_practise kk j a1 G).bind (fun r => oI r (fun v26 G23 =>
    if v26 = 0 then
      okI (0 : Int32) G23
    else
      okI (1 : Int32) G23) exc)
  else 
    okI (0 : Int32) G
def D_PB_throwFault (kk : Nat) (a0 : Int32) (G : GS) : Res :=
  if a0 = (1 : Int32) then
    exc 1 G
  else if a0 = (2 : Int32) then
    exc 2 G
  else if a0 = (3 : Int32) then
    exc 3 G
  else if a0 = (4 : Int32) then
    exc 4 G
  else if a0 = (5 : Int32) then
    exc 5 G
  else 
    okV G
def D_PB_change (kk : Nat) (a0 : Int32) (a1 : Int32) (a2 : Int32) (a3 : Int32) (G : GS) : Res :=
  (D_State_faultOf kk 0 a0 a1 a2 a3 G).bind (fun r => oI r (fun v4 G1 =>
  (D_PB_throwFault kk v4 G1).bind (fun r => oV r (fun G5 =>
  (D_History_draft kk 0 G5).bind (fun r => oV r (fun G8 =>
  (D_History_keepDraft kk G8).bind (fun r => oV r (fun G11 =>
  (D_State_perform kk 0 a0 a1 a2 a3 G11).bind (fun r => oI r (fun v17 G14 =>
  okI v17 G14) exc)) exc)) exc)) exc)) exc)
def D_PB_load (kk : Nat) (a0 : Int32) (a1 : Int32) (a2 : Int32) (G : GS) : Res :=
  (D_PB_change kk (0 : Int32) a0 a1 a2 G).bind (fun r => oI r (fun v4 G1 =>
  okI v4 G1) exc)
def D_PB_unload (kk : Nat) (a0 : Int32) (G : GS) : Res :=
  (D_PB_change kk (1 : Int32) a0 (0 : Int32) (0 : Int32) G).bind (fun r => oI r (fun v4 G1 =>
  okI v4 G1) exc)
def D_PB_shift (kk : Nat) (a0 : Int32) (a1 : Int32) (G : GS) : Res :=
  (D_PB_change kk (2 : Int32) a0 a1 (0 : Int32) G).bind (fun r => oI r (fun v4 G1 =>
  okI v4 G1) exc)
def D_PB_sail (kk : Nat) (a0 : Int32) (G : GS) : Res :=
  (D_PB_change kk (3 : Int32) a0 (0 : Int32) (0 : Int32) G).bind (fun r => oI r (fun v4 G1 =>
  okI v4 G1) exc)
def D_PB_turn (kk : Nat) (G : GS) : Res :=
  (D_PB_change kk (4 : Int32) (0 : Int32) (0 : Int32) (0 : Int32) G).bind (fun r => oI r (fun v4 G1 =>
  if v4 = (1 : Int32) then
    okI (1 : Int32) G1
  else
    okI (0 : Int32) G1) exc)
def D_PB_setLimit (kk : Nat) (a0 : Int32) (G : GS) : Res :=
  (D_PB_change kk (5 : Int32) a0 (0 : Int32) (0 : Int32) G).bind (fun r => oI r (fun v4 G1 =>
  okI v4 G1) exc)
def D_PB_drill (kk : Nat) (a0 : Int32) (G : GS) : Res :=
  (D_PB_change kk (6 : Int32) a0 (0 : Int32) (0 : Int32) G).bind (fun r => oI r (fun v4 G1 =>
  if v4 = (1 : Int32) then
    okI (1 : Int32) G1
  else
    okI (0 : Int32) G1) exc)
def D_PB_pillowCount (kk : Nat) (G : GS) : Res :=
  (D_Cargo_countPillows kk 0 G).bind (fun r => oI r (fun v4 G1 =>
  okI v4 G1) exc)
def D_PB_requireBay (kk : Nat) (a0 : Int32) (G : GS) : Res :=
  (D_PB_isBay kk a0 G).bind (fun r => oI r (fun v4 G1 =>
  if v4 = 0 then
    exc 1 G1
  else
    okV G1) exc)
def D_PB_stackHeight (kk : Nat) (a0 : Int32) (G : GS) : Res :=
  (D_PB_requireBay kk a0 G).bind (fun r => oV r (fun G1 =>
  (D_Cargo_heightOf kk 0 a0 G1).bind (fun r => oI r (fun v7 G4 =>
  okI v7 G4) exc)) exc)
def D_PB_requireSlot (kk : Nat) (a0 : Int32) (G : GS) : Res :=
  (D_PB_isSlot kk a0 G).bind (fun r => oI r (fun v4 G1 =>
  if v4 = 0 then
    exc 3 G1
  else
    okV G1) exc)
def D_PB_pillowAt (kk : Nat) (a0 : Int32) (a1 : Int32) (G : GS) : Res :=
  (D_PB_requireBay kk a0 G).bind (fun r => oV r (fun G1 =>
  (D_Cargo_slotAt kk 0 a0 a1 G1).bind (fun r => oI r (fun v7 G4 =>
  (D_PB_requireSlot kk v7 G4).bind (fun r => oV r (fun G8 =>
  (D_Cargo_numberIn kk 0 v7 G8).bind (fun r => oI r (fun v14 G11 =>
  okI v14 G11) exc)) exc)) exc)) exc)
def D_PB_requirePillow (kk : Nat) (a0 : Int32) (G : GS) : Res :=
  (D_Cargo_slotOf kk 0 a0 G).bind (fun r => oI r (fun v4 G1 =>
  (D_PB_requireSlot kk v4 G1).bind (fun r => oV r (fun G5 =>
  okI v4 G5) exc)) exc)
def D_PB_weightOf (kk : Nat) (a0 : Int32) (G : GS) : Res :=
  (D_PB_requirePillow kk a0 G).bind (fun r => oI r (fun v4 G1 =>
  (D_Cargo_weightIn kk 0 v4 G1).bind (fun r => oI r (fun v8 G5 =>
  okI v8 G5) exc)) exc)
def D_PB_destinationOf (kk : Nat) (a0 : Int32) (G : GS) : Res :=
  (D_PB_requirePillow kk a0 G).bind (fun r => oI r (fun v4 G1 =>
  (D_Cargo_destinationIn kk 0 v4 G1).bind (fun r => oI r (fun v8 G5 =>
  okI v8 G5) exc)) exc)
def D_PB_bayOf (kk : Nat) (a0 : Int32) (G : GS) : Res :=
  (D_PB_requirePillow kk a0 G).bind (fun r => oI r (fun v4 G1 =>
  okI (v4 / (5 : Int32)) G1) exc)
def D_PB_positionOf (kk : Nat) (a0 : Int32) (G : GS) : Res :=
  (D_PB_requirePillow kk a0 G).bind (fun r => oI r (fun v4 G1 =>
  okI (v4 - v4 / (5 : Int32) * (5 : Int32)) G1) exc)
def D_PB_ageOf (kk : Nat) (a0 : Int32) (G : GS) : Res :=
  (D_PB_requirePillow kk a0 G).bind (fun r => oI r (fun v4 G1 =>
  (D_State_ageIn kk 0 v4 G1).bind (fun r => oI r (fun v8 G5 =>
  okI v8 G5) exc)) exc)
def D_PB_isOlder (kk : Nat) (a0 : Int32) (a1 : Int32) (G : GS) : Res :=
  (D_State_ageIn kk 0 a0 G).bind (fun r => oI r (fun v4 G1 =>
  (D_State_ageIn kk 0 a1 G1).bind (fun r => oI r (fun v8 G5 =>
  if v4 = v8 then
    (D_Cargo_numberIn kk 0 a0 G5).bind (fun r => oI r (fun v12 G9 =>
    (D_Cargo_numberIn kk 0 a1 G9).bind (fun r => oI r (fun v16 G13 =>
    if v16 ≤ v12 then
      okI (0 : Int32) G13
    else
      okI (1 : Int32) G13) exc)) exc)
  else
    if v4 ≤ v8 then
      okI (0 : Int32) G5
    else
      okI (1 : Int32) G5) exc)) exc)
def L_PB_oldestSlotIn (kk : Nat) : Nat → Int32 → Int32 → Int32 → GS → Res
  | 0 => fun _ _ _ _ => none
  | k + 1 => fun x1 x2 x3 G =>
    if (5 : Int32) ≤ x3 then
      okI x2 G
    else
      (D_Cargo_slotAt kk 0 x1 x3 G).bind (fun r => oI r (fun v4 G1 =>
      (D_PB_isSlot kk v4 G1).bind (fun r => oI r (fun v8 G5 =>
      if v8 = 0 then
        (L_PB_oldestSlotIn kk k) x1 x2 (x3 + (1 : Int32)) G5
      else
        if x2 = (-1 : Int32) then
          (L_PB_oldestSlotIn kk k) x1 v4 (x3 + (1 : Int32)) G5
        else
          (D_PB_isOlder kk v4 x2 G5).bind (fun r => oI r (fun v12 G9 =>
          if v12 = 0 then
            (L_PB_oldestSlotIn kk k) x1 x2 (x3 + (1 : Int32)) G9
          else
            (L_PB_oldestSlotIn kk k) x1 v4 (x3 + (1 : Int32)) G9) exc)) exc)) exc)
def D_PB_oldestSlotIn (kk : Nat) (a0 : Int32) (G : GS) : Res :=
  (L_PB_oldestSlotIn kk kk) a0 (-1 : Int32) (0 : Int32) G
def D_PB_oldestIn (kk : Nat) (a0 : Int32) (G : GS) : Res :=
  (D_PB_requireBay kk a0 G).bind (fun r => oV r (fun G1 =>
  (D_PB_oldestSlotIn kk a0 G1).bind (fun r => oI r (fun v7 G4 =>
  (D_PB_requireSlot kk v7 G4).bind (fun r => oV r (fun G8 =>
  (D_Cargo_numberIn kk 0 v7 G8).bind (fun r => oI r (fun v14 G11 =>
  okI v14 G11) exc)) exc)) exc)) exc)
def D_PB_moment (kk : Nat) (G : GS) : Res :=
  (D_Cargo_momentOfPillows kk 0 G).bind (fun r => oI r (fun v4 G1 =>
  okI v4 G1) exc)
def D_PB_momentByBays (kk : Nat) (G : GS) : Res :=
  (D_Cargo_momentOfBays kk 0 G).bind (fun r => oI r (fun v4 G1 =>
  okI v4 G1) exc)
def D_PB_totalWeight (kk : Nat) (G : GS) : Res :=
  (D_Cargo_weightOfAll kk 0 G).bind (fun r => oI r (fun v4 G1 =>
  okI v4 G1) exc)
def D_PB_requirePort (kk : Nat) (a0 : Int32) (G : GS) : Res :=
  (D_PB_isPort kk a0 G).bind (fun r => oI r (fun v4 G1 =>
  if v4 = 0 then
    exc 1 G1
  else
    okV G1) exc)
def D_PB_weightFor (kk : Nat) (a0 : Int32) (G : GS) : Res :=
  (D_PB_requirePort kk a0 G).bind (fun r => oV r (fun G1 =>
  (D_Cargo_weightForPort kk 0 a0 G1).bind (fun r => oI r (fun v7 G4 =>
  okI v7 G4) exc)) exc)
def D_PB_limit (kk : Nat) (G : GS) : Res :=
  okI (gi G (0, 1) 3) G
def D_PB_listAngle (kk : Nat) (G : GS) : Res :=
  (D_Cargo_momentOfPillows kk 0 G).bind (fun r => oI r (fun v4 G1 =>
  (D_Cargo_weightOfAll kk 0 G1).bind (fun r => oI r (fun v8 G5 =>
  if (FP.fmul (1110704128 : UInt32) (FP.i2f v4)) &&& 0x7fffffff ≤ 0x7f800000 then
  if (FP.fdiv (FP.fmul (1110704128 : UInt32) (FP.i2f v4)) (FP.i2f (v8 + (40 : Int32)))) &&& 0x7fffffff ≤ 0x7f800000 then
  okF (FP.fdiv (FP.fmul (1110704128 : UInt32) (FP.i2f v4)) (FP.i2f (v8 + (40 : Int32)))) G5
  else none
  else none) exc)) exc)
def D_PB_greatestPush (kk : Nat) (G : GS) : Res :=
  (D_Cargo_momentOfPillows kk 0 G).bind (fun r => oI r (fun v4 G1 =>
  okI ((gi G (0, 1) 3) - v4) G1) exc)
def D_PB_isMoreLevel (kk : Nat) (a0 : Int32) (a1 : Int32) (a2 : Int32) (G : GS) : Res :=
  (D_Cargo_momentOfPillows kk 0 G).bind (fun r => oI r (fun v4 G1 =>
  (D_PB_leverArm kk a0 G1).bind (fun r => oI r (fun v8 G5 =>
  (D_abs (v4 + (a2 * v8)) G5).bind (fun r => oI r (fun v12 G9 =>
  (D_PB_leverArm kk a1 G9).bind (fun r => oI r (fun v16 G13 =>
  (D_abs (v4 + (a2 * v16)) G13).bind (fun r => oI r (fun v20 G17 =>
  if v12 = v20 then
    (D_Cargo_heightOf kk 0 a0 G17).bind (fun r => oI r (fun v24 G21 =>
    (D_Cargo_heightOf kk 0 a1 G21).bind (fun r => oI r (fun v28 G25 =>
    if v28 ≤ v24 then
      okI (0 : Int32) G25
    else
      okI (1 : Int32) G25) exc)) exc)
  else
    if v20 ≤ v12 then
      okI (0 : Int32) G17
    else
      okI (1 : Int32) G17) exc)) exc)) exc)) exc)) exc)
def L_PB_mostLevelBay (kk : Nat) : Nat → (Int32 → Int32 → Int32 → GS → Res) × (Int32 → Int32 → Int32 → Int32 → GS → Res)
  | 0 => (fun _ _ _ _ => none, fun _ _ _ _ _ => none)
  | k + 1 => (fun x1 x2 x3 G =>
    if (7 : Int32) ≤ x3 then
      okI x2 G
    else
      (D_State_faultOfLoad kk 0 x3 x1 (0 : Int32) G).bind (fun r => oI r (fun v4 G1 =>
      if v4 = 0 then
        (L_PB_mostLevelBay kk k).2 x1 x2 x3 (1 : Int32) G1
      else
        (L_PB_mostLevelBay kk k).2 x1 x2 x3 (0 : Int32) G1) exc),
    fun x1 x2 x3 y0 G =>
    if y0 = 0 then
      (L_PB_mostLevelBay kk k).1 x1 x2 (x3 + (1 : Int32)) G
    else
      if x2 = (-1 : Int32) then
        (L_PB_mostLevelBay kk k).1 x1 x3 (x3 + (1 : Int32)) G
      else
        (D_PB_isMoreLevel kk x3 x2 x1 G).bind (fun r => oI r (fun v8 G5 =>
        if v8 = 0 then
          (L_PB_mostLevelBay kk k).1 x1 x2 (x3 + (1 : Int32)) G5
        else
          (L_PB_mostLevelBay kk k).1 x1 x3 (x3 + (1 : Int32)) G5) exc))
def D_PB_mostLevelBay (kk : Nat) (a0 : Int32) (G : GS) : Res :=
  (L_PB_mostLevelBay kk kk).1 a0 (-1 : Int32) (0 : Int32) G
def D_PB_levelingBay (kk : Nat) (a0 : Int32) (G : GS) : Res :=
  (D_PB_isWeight kk a0 G).bind (fun r => oI r (fun v4 G1 =>
  if v4 = 0 then
    exc 2 G1
  else
    (D_PB_mostLevelBay kk a0 G1).bind (fun r => oI r (fun v8 G5 =>
    if v8 = (-1 : Int32) then
      exc 3 G5
    else
      okI v8 G5) exc)) exc)
def D_PB_port (kk : Nat) (G : GS) : Res :=
  okI (gi G (0, 3) 0) G
def D_PB_day (kk : Nat) (G : GS) : Res :=
  okI (gi G (0, 3) 1) G
def D_PB_isAscending (kk : Nat) (G : GS) : Res :=
  if (gi G (0, 3) 2) = 0 ∨ (gi G (0, 3) 2) = 1 then okI (gi G (0, 3) 2) G else none
def D_PB_legsTo (kk : Nat) (a0 : Int32) (G : GS) : Res :=
  (D_PB_requirePort kk a0 G).bind (fun r => oV r (fun G1 =>
  (D_Voyage_countLegsTo kk 0 a0 G1).bind (fun r => oI r (fun v7 G4 =>
  okI v7 G4) exc)) exc)
def D_PB_portAfter (kk : Nat) (a0 : Int32) (G : GS) : Res :=
  if a0 < 0 then
    exc 2 G
  else
    if a0 ≤ (99 : Int32) then
      (D_Voyage_portIn kk 0 a0 G).bind (fun r => oI r (fun v4 G1 =>
      okI v4 G1) exc)
    else
      exc 2 G
def L_PB_heaviestPort (kk : Nat) : Nat → Int32 → Int32 → GS → Res
  | 0 => fun _ _ _ => none
  | k + 1 => fun x1 x2 G =>
    if (5 : Int32) ≤ x2 then
      okI x1 G
    else
      (D_Voyage_portIn kk 0 x2 G).bind (fun r => oI r (fun v8 G5 =>
      (D_Cargo_weightForPort kk 0 v8 G5).bind (fun r => oI r (fun v12 G9 =>
      (D_Cargo_weightForPort kk 0 x1 G9).bind (fun r => oI r (fun v16 G13 =>
      if v12 ≤ v16 then
        (L_PB_heaviestPort kk k) x1 (x2 + (1 : Int32)) G13
      else
        (L_PB_heaviestPort kk k) v8 (x2 + (1 : Int32)) G13) exc)) exc)) exc)
def D_PB_heaviestPort (kk : Nat) (G : GS) : Res :=
  (D_Cargo_countPillows kk 0 G).bind (fun r => oI r (fun v4 G1 =>
  if v4 = 0 then
    exc 3 G1
  else
    (L_PB_heaviestPort kk (Nat.min kk 8)) (gi G1 (0, 3) 0) (1 : Int32) G1) exc)
def L_PB_countInTheWayOf (kk : Nat) : Nat → Int32 → Int32 → Int32 → Int32 → GS → Res
  | 0 => fun _ _ _ _ _ => none
  | k + 1 => fun x1 x2 x3 x4 G =>
    if (5 : Int32) ≤ x4 then
      okI x3 G
    else
      (D_Cargo_slotAt kk 0 x2 x4 G).bind (fun r => oI r (fun v4 G1 =>
      (D_PB_isSlot kk v4 G1).bind (fun r => oI r (fun v8 G5 =>
      if v8 = 0 then
        (L_PB_countInTheWayOf kk k) x1 x2 x3 (x4 + (1 : Int32)) G5
      else
        (D_State_legsIn kk 0 v4 G5).bind (fun r => oI r (fun v12 G9 =>
        (D_State_legsIn kk 0 x1 G9).bind (fun r => oI r (fun v16 G13 =>
        if v12 ≤ v16 then
          (L_PB_countInTheWayOf kk k) x1 x2 x3 (x4 + (1 : Int32)) G13
        else
          (L_PB_countInTheWayOf kk k) x1 x2 (x3 + (1 : Int32)) (x4 + (1 : Int32)) G13) exc)) exc)) exc)) exc)
def D_PB_countInTheWayOf (kk : Nat) (a0 : Int32) (G : GS) : Res :=
  (L_PB_countInTheWayOf kk kk) a0 (a0 / (5 : Int32)) (0 : Int32) ((a0 - a0 / (5 : Int32) * (5 : Int32)) + (1 : Int32)) G
def D_PB_pillowsInTheWay (kk : Nat) (a0 : Int32) (G : GS) : Res :=
  (D_PB_requirePillow kk a0 G).bind (fun r => oI r (fun v4 G1 =>
  (D_PB_countInTheWayOf kk v4 G1).bind (fun r => oI r (fun v8 G5 =>
  okI v8 G5) exc)) exc)
def L_PB_countPairs (kk : Nat) : Nat → Int32 → Int32 → GS → Res
  | 0 => fun _ _ _ => none
  | k + 1 => fun x1 x2 G =>
    if (35 : Int32) ≤ x2 then
      okI x1 G
    else
      (D_Cargo_isTaken kk 0 x2 G).bind (fun r => oI r (fun v4 G1 =>
      if v4 = 0 then
        (L_PB_countPairs kk k) x1 (x2 + (1 : Int32)) G1
      else
        (D_PB_countInTheWayOf kk x2 G1).bind (fun r => oI r (fun v8 G5 =>
        (L_PB_countPairs kk k) (x1 + v8) (x2 + (1 : Int32)) G5) exc)) exc)
def D_PB_countPairs (kk : Nat) (G : GS) : Res :=
  (L_PB_countPairs kk kk) (0 : Int32) (0 : Int32) G
def D_PB_pairsInTheWay (kk : Nat) (G : GS) : Res :=
  (D_PB_countPairs kk G).bind (fun r => oI r (fun v4 G1 =>
  okI v4 G1) exc)
def L_PB_seePillow (kk : Nat) : Nat → Int32 → Int32 → Int32 → GS → Res
  | 0 => fun _ _ _ _ => none
  | k + 1 => fun x1 x2 x3 G =>
    if (5 : Int32) ≤ x3 then
      (D_PB_isPort kk x1 G).bind (fun r => oI r (fun v4 G1 =>
      if v4 = 0 then
        okI x2 G1
      else
        bif inb x1 5 then
        bif inb x1 5 then
        okI x2 (sa G1 (0, 17) x1.toNatClampNeg ((ga G1 (0, 17) x1.toNatClampNeg) + (1 : Int32)))
        else none
        else none) exc)
    else
      if x3 ≤ x1 then
        (L_PB_seePillow kk k) x1 x2 (x3 + (1 : Int32)) G
      else
        bif inb x3 5 then
        (L_PB_seePillow kk k) x1 (x2 + (ga G (0, 17) x3.toNatClampNeg)) (x3 + (1 : Int32)) G
        else none
def D_PB_seePillow (kk : Nat) (a0 : Int32) (G : GS) : Res :=
  (L_PB_seePillow kk kk) a0 (0 : Int32) (0 : Int32) G
def L_PB_countPairsInStack (kk : Nat) : Nat → (Int32 → Int32 → GS → Res) × (Int32 → Int32 → Int32 → GS → Res)
  | 0 => (fun _ _ _ => none, fun _ _ _ _ => none)
  | k + 1 => (fun x1 x2 G =>
    if (5 : Int32) ≤ x2 then
      (L_PB_countPairsInStack kk k).2 x1 (0 : Int32) (4 : Int32) G
    else
      bif inb x2 5 then
      (L_PB_countPairsInStack kk k).1 x1 (x2 + (1 : Int32)) (sa G (0, 17) x2.toNatClampNeg (0 : Int32))
      else none,
    fun x1 x2 x3 G =>
    if x3 < 0 then
      okI x2 G
    else
      (D_Cargo_slotAt kk 0 x1 x3 G).bind (fun r => oI r (fun v4 G1 =>
      (D_PB_isSlot kk v4 G1).bind (fun r => oI r (fun v8 G5 =>
      if v8 = 0 then
        (L_PB_countPairsInStack kk k).2 x1 x2 (x3 + (-1 : Int32)) G5
      else
        (D_State_legsIn kk 0 v4 G5).bind (fun r => oI r (fun v12 G9 =>
        (D_PB_seePillow kk v12 G9).bind (fun r => oI r (fun v16 G13 =>
        (L_PB_countPairsInStack kk k).2 x1 (x2 + v16) (x3 + (-1 : Int32)) G13) exc)) exc)) exc)) exc))
def D_PB_countPairsInStack (kk : Nat) (a0 : Int32) (G : GS) : Res :=
  (L_PB_countPairsInStack kk kk).1 a0 (0 : Int32) G
def L_PB_countPairsByStacks (kk : Nat) : Nat → Int32 → Int32 → GS → Res
  | 0 => fun _ _ _ => none
  | k + 1 => fun x1 x2 G =>
    if (7 : Int32) ≤ x2 then
      okI x1 G
    else
      (D_PB_countPairsInStack kk x2 G).bind (fun r => oI r (fun v4 G1 =>
      (L_PB_countPairsByStacks kk k) (x1 + v4) (x2 + (1 : Int32)) G1) exc)
def D_PB_countPairsByStacks (kk : Nat) (G : GS) : Res :=
  (L_PB_countPairsByStacks kk kk) (0 : Int32) (0 : Int32) G
def D_PB_pairsInTheWayByStacks (kk : Nat) (G : GS) : Res :=
  (D_PB_countPairsByStacks kk G).bind (fun r => oI r (fun v4 G1 =>
  okI v4 G1) exc)
def L_PB_unloadableCount (kk : Nat) : Nat → Int32 → Int32 → GS → Res
  | 0 => fun _ _ _ => none
  | k + 1 => fun x1 x2 G =>
    if (7 : Int32) ≤ x2 then
      okI x1 G
    else
      (D_State_faultOfUnload kk 0 x2 G).bind (fun r => oI r (fun v4 G1 =>
      if v4 = 0 then
        (L_PB_unloadableCount kk k) (x1 + (1 : Int32)) (x2 + (1 : Int32)) G1
      else
        (L_PB_unloadableCount kk k) x1 (x2 + (1 : Int32)) G1) exc)
def D_PB_unloadableCount (kk : Nat) (G : GS) : Res :=
  (L_PB_unloadableCount kk kk) (0 : Int32) (0 : Int32) G
def L_PB_possibleShifts (kk : Nat) : Nat → (Int32 → Int32 → GS → Res) × (Int32 → Int32 → Int32 → GS → Res)
  | 0 => (fun _ _ _ => none, fun _ _ _ _ => none)
  | k + 1 => (fun x1 x2 G =>
    if (7 : Int32) ≤ x2 then
      okI x1 G
    else
      (L_PB_possibleShifts kk k).2 x1 x2 (0 : Int32) G,
    fun x1 x2 x3 G =>
    if (7 : Int32) ≤ x3 then
      (L_PB_possibleShifts kk k).1 x1 (x2 + (1 : Int32)) G
    else
      (D_State_faultOfShift kk 0 x2 x3 G).bind (fun r => oI r (fun v4 G1 =>
      if v4 = 0 then
        (L_PB_possibleShifts kk k).2 (x1 + (1 : Int32)) x2 (x3 + (1 : Int32)) G1
      else
        (L_PB_possibleShifts kk k).2 x1 x2 (x3 + (1 : Int32)) G1) exc))
def D_PB_possibleShifts (kk : Nat) (G : GS) : Res :=
  (L_PB_possibleShifts kk kk).1 (0 : Int32) (0 : Int32) G
def D_PB_hasEarlierTurn (kk : Nat) (a0 : Int32) (a1 : Int32) (G : GS) : Res :=
  (D_State_legsIn kk 0 a0 G).bind (fun r => oI r (fun v4 G1 =>
  (D_State_legsIn kk 0 a1 G1).bind (fun r => oI r (fun v8 G5 =>
  if v4 = v8 then
    (D_PB_isOlder kk a0 a1 G5).bind (fun r => oI r (fun v12 G9 =>
    if v12 = 0 ∨ v12 = 1 then okI v12 G9 else none) exc)
  else
    if v8 ≤ v4 then
      okI (0 : Int32) G5
    else
      okI (1 : Int32) G5) exc)) exc)
def L_PB_countEarlierTurns (kk : Nat) : Nat → Int32 → Int32 → Int32 → GS → Res
  | 0 => fun _ _ _ _ => none
  | k + 1 => fun x1 x2 x3 G =>
    if (35 : Int32) ≤ x3 then
      okI x2 G
    else
      (D_Cargo_isTaken kk 0 x3 G).bind (fun r => oI r (fun v4 G1 =>
      if v4 = 0 then
        (L_PB_countEarlierTurns kk k) x1 x2 (x3 + (1 : Int32)) G1
      else
        (D_PB_hasEarlierTurn kk x3 x1 G1).bind (fun r => oI r (fun v8 G5 =>
        if v8 = 0 then
          (L_PB_countEarlierTurns kk k) x1 x2 (x3 + (1 : Int32)) G5
        else
          (L_PB_countEarlierTurns kk k) x1 (x2 + (1 : Int32)) (x3 + (1 : Int32)) G5) exc)) exc)
def D_PB_countEarlierTurns (kk : Nat) (a0 : Int32) (G : GS) : Res :=
  (L_PB_countEarlierTurns kk kk) a0 (0 : Int32) (0 : Int32) G
def L_PB_pillowByTurn (kk : Nat) : Nat → Int32 → Int32 → GS → Res
  | 0 => fun _ _ _ => none
  | k + 1 => fun x1 x2 G =>
    if (35 : Int32) ≤ x2 then
      exc 3 G
    else
      (D_Cargo_isTaken kk 0 x2 G).bind (fun r => oI r (fun v4 G1 =>
      if v4 = 0 then
        (L_PB_pillowByTurn kk k) x1 (x2 + (1 : Int32)) G1
      else
        (D_PB_countEarlierTurns kk x2 G1).bind (fun r => oI r (fun v8 G5 =>
        if v8 = x1 then
          (D_Cargo_numberIn kk 0 x2 G5).bind (fun r => oI r (fun v12 G9 =>
          okI v12 G9) exc)
        else
          (L_PB_pillowByTurn kk k) x1 (x2 + (1 : Int32)) G5) exc)) exc)
def D_PB_pillowByTurn (kk : Nat) (a0 : Int32) (G : GS) : Res :=
  (L_PB_pillowByTurn kk (Nat.min kk 40)) a0 (0 : Int32) G
def L_PB_countHeavierBays (kk : Nat) : Nat → Int32 → Int32 → Int32 → Int32 → GS → Res
  | 0 => fun _ _ _ _ _ => none
  | k + 1 => fun x1 x2 x3 x4 G =>
    if (7 : Int32) ≤ x4 then
      okI x3 G
    else
      (D_Cargo_weightOfBay kk 0 x4 G).bind (fun r => oI r (fun v8 G5 =>
      if x2 < v8 then
        (L_PB_countHeavierBays kk k) x1 x2 (x3 + (1 : Int32)) (x4 + (1 : Int32)) G5
      else
        if v8 = x2 then
          if x1 ≤ x4 then
            (L_PB_countHeavierBays kk k) x1 x2 x3 (x4 + (1 : Int32)) G5
          else
            (L_PB_countHeavierBays kk k) x1 x2 (x3 + (1 : Int32)) (x4 + (1 : Int32)) G5
        else
          (L_PB_countHeavierBays kk k) x1 x2 x3 (x4 + (1 : Int32)) G5) exc)
def D_PB_countHeavierBays (kk : Nat) (a0 : Int32) (G : GS) : Res :=
  (D_Cargo_weightOfBay kk 0 a0 G).bind (fun r => oI r (fun v4 G1 =>
  (L_PB_countHeavierBays kk kk) a0 v4 (0 : Int32) (0 : Int32) G1) exc)
def L_PB_bayByWeight (kk : Nat) : Nat → Int32 → Int32 → GS → Res
  | 0 => fun _ _ _ => none
  | k + 1 => fun x1 x2 G =>
    if (7 : Int32) ≤ x2 then
      exc 3 G
    else
      (D_PB_countHeavierBays kk x2 G).bind (fun r => oI r (fun v4 G1 =>
      if v4 = x1 then
        okI x2 G1
      else
        (L_PB_bayByWeight kk k) x1 (x2 + (1 : Int32)) G1) exc)
def D_PB_bayByWeight (kk : Nat) (a0 : Int32) (G : GS) : Res :=
  (L_PB_bayByWeight kk (Nat.min kk 10)) a0 (0 : Int32) G
def D_PB_loadedTotal (kk : Nat) (G : GS) : Res :=
  okI (gi G (0, 4) 0) G
def D_PB_deliveredTotal (kk : Nat) (G : GS) : Res :=
  okI (gi G (0, 4) 1) G
def D_PB_deliveredWeight (kk : Nat) (G : GS) : Res :=
  okI (gi G (0, 4) 2) G
def D_PB_drillTotal (kk : Nat) (G : GS) : Res :=
  okI (gi G (0, 4) 3) G
def D_PB_capsizedTotal (kk : Nat) (G : GS) : Res :=
  okI (gi G (0, 4) 4) G
def L_PB_sumOfAges (kk : Nat) : Nat → Int32 → Int32 → GS → Res
  | 0 => fun _ _ _ => none
  | k + 1 => fun x1 x2 G =>
    if (35 : Int32) ≤ x2 then
      okI x1 G
    else
      (D_Cargo_isTaken kk 0 x2 G).bind (fun r => oI r (fun v4 G1 =>
      if v4 = 0 then
        (L_PB_sumOfAges kk k) x1 (x2 + (1 : Int32)) G1
      else
        (D_State_ageIn kk 0 x2 G1).bind (fun r => oI r (fun v8 G5 =>
        (L_PB_sumOfAges kk k) (x1 + v8) (x2 + (1 : Int32)) G5) exc)) exc)
def D_PB_sumOfAges (kk : Nat) (G : GS) : Res :=
  (L_PB_sumOfAges kk kk) (0 : Int32) (0 : Int32) G
def D_PB_meanAge (kk : Nat) (G : GS) : Res :=
  (D_Cargo_countPillows kk 0 G).bind (fun r => oI r (fun v4 G1 =>
  if v4 = 0 then
    exc 6 G1
  else
    (D_PB_sumOfAges kk G1).bind (fun r => oI r (fun v8 G5 =>
    if (FP.ddiv (FP.i2d v8) (FP.i2d v4)) &&& 0x7fffffffffffffff ≤ 0x7ff0000000000000 then
    okD (FP.ddiv (FP.i2d v8) (FP.i2d v4)) G5
    else none) exc)) exc)
def D_PB_capsizedShare (kk : Nat) (G : GS) : Res :=
  if (gi G (0, 4) 3) = 0 then
    exc 6 G
  else
    if (FP.fdiv (FP.i2f (gi G (0, 4) 4)) (FP.i2f (gi G (0, 4) 3))) &&& 0x7fffffff ≤ 0x7f800000 then
    okF (FP.fdiv (FP.i2f (gi G (0, 4) 4)) (FP.i2f (gi G (0, 4) 3))) G
    else none
def D_PB_isConsistent (kk : Nat) (G : GS) : Res :=
  (D_Cargo_momentOfPillows kk 0 G).bind (fun r => oI r (fun v4 G1 =>
  (D_Cargo_momentOfBays kk 0 G1).bind (fun r => oI r (fun v8 G5 =>
  if v4 = v8 then
    (D_PB_countPairs kk G5).bind (fun r => oI r (fun v12 G9 =>
    (D_PB_countPairsByStacks kk G9).bind (fun r => oI r (fun v16 G13 =>
    if v12 = v16 then
      (D_State_isWithinLimit kk 0 v4 G13).bind (fun r => oI r (fun v20 G17 =>
      if v20 = 0 then
        okI (0 : Int32) G17
      else
        (D_Cargo_countPillows kk 0 G17).bind (fun r => oI r (fun v24 G21 =>
        if (gi G17 (0, 4) 0) = ((gi G17 (0, 4) 1) + v24) then
          okI (1 : Int32) G21
        else
          okI (0 : Int32) G21) exc)) exc)
    else
      okI (0 : Int32) G13) exc)) exc)
  else
    okI (0 : Int32) G5) exc)) exc)
def D_PB_separate (kk : Nat) (G : GS) : Res :=
  (D_blen G).bind (fun r => oI r (fun v4 G1 =>
  if v4 ≤ 0 then
    okV G1
  else
    (D_bapc (32 : Int32) G1).bind (fun r => oR 16 r (fun q8 G5 =>
      okV G5) exc)) exc)
def D_PB_renderPillow (kk : Nat) (a0 : Int32) (G : GS) : Res :=
  (D_Cargo_numberIn kk 0 a0 G).bind (fun r => oI r (fun v4 G1 =>
  (D_bapi v4 G1).bind (fun r => oR 16 r (fun q8 G5 =>
    (D_bapc (119 : Int32) G5).bind (fun r => oR 16 r (fun q12 G9 =>
      (D_Cargo_weightIn kk 0 a0 G9).bind (fun r => oI r (fun v16 G13 =>
      (D_bapi v16 G13).bind (fun r => oR 16 r (fun q20 G17 =>
        (D_bapc (112 : Int32) G17).bind (fun r => oR 16 r (fun q24 G21 =>
          (D_Cargo_destinationIn kk 0 a0 G21).bind (fun r => oI r (fun v28 G25 =>
          (D_bapi v28 G25).bind (fun r => oR 16 r (fun q32 G29 =>
            okV G29) exc)) exc)) exc)) exc)) exc)) exc)) exc)) exc)
def L_PB_renderStack (kk : Nat) : Nat → Int32 → Int32 → GS → Res
  | 0 => fun _ _ _ => none
  | k + 1 => fun x1 x2 G =>
    if (5 : Int32) ≤ x2 then
      (D_blen G).bind (fun r => oI r (fun v10 G7 =>
      okI v10 G7) exc)
    else
      (D_Cargo_slotAt kk 0 x1 x2 G).bind (fun r => oI r (fun v14 G11 =>
      (D_PB_isSlot kk v14 G11).bind (fun r => oI r (fun v18 G15 =>
      if v18 = 0 then
        (L_PB_renderStack kk k) x1 (x2 + (1 : Int32)) G15
      else
        (D_PB_separate kk G15).bind (fun r => oV r (fun G19 =>
        (D_PB_renderPillow kk v14 G19).bind (fun r => oV r (fun G22 =>
        (L_PB_renderStack kk k) x1 (x2 + (1 : Int32)) G22) exc)) exc)) exc)) exc)
def D_PB_renderStack (kk : Nat) (a0 : Int32) (G : GS) : Res :=
  (D_PB_requireBay kk a0 G).bind (fun r => oV r (fun G1 =>
  (D_bset (0 : Int32) G1).bind (fun r => oV r (fun G4 =>
  (L_PB_renderStack kk (Nat.min kk 14)) a0 (0 : Int32) G4) exc)) exc)
def L_PB_renderBarge (kk : Nat) : Nat → Int32 → GS → Res
  | 0 => fun _ _ => none
  | k + 1 => fun x1 G =>
    if (7 : Int32) ≤ x1 then
      (D_bapc (61 : Int32) G).bind (fun r => oR 16 r (fun q7 G4 =>
        (D_Cargo_momentOfPillows kk 0 G4).bind (fun r => oI r (fun v11 G8 =>
        (D_bapi v11 G8).bind (fun r => oR 16 r (fun q15 G12 =>
          (D_blen G12).bind (fun r => oI r (fun v19 G16 =>
          okI v19 G16) exc)) exc)) exc)) exc)
    else
      (D_PB_separate kk G).bind (fun r => oV r (fun G20 =>
      (D_Cargo_weightOfBay kk 0 x1 G20).bind (fun r => oI r (fun v26 G23 =>
      (D_bapi v26 G23).bind (fun r => oR 16 r (fun q30 G27 =>
        (L_PB_renderBarge kk k) (x1 + (1 : Int32)) G27) exc)) exc)) exc)
def D_PB_renderBarge (kk : Nat) (G : GS) : Res :=
  (D_bset (0 : Int32) G).bind (fun r => oV r (fun G1 =>
  (L_PB_renderBarge kk (Nat.min kk 10)) (0 : Int32) G1) exc)
def D_PB_outputAt (kk : Nat) (a0 : Int32) (G : GS) : Res :=
  if a0 < 0 then
    exc 1 G
  else
    (D_blen G).bind (fun r => oI r (fun v4 G1 =>
    if a0 < v4 then
      (D_bat a0 G1).bind (fun r => oI r (fun v8 G5 =>
      if 0 ≤ v8 ∧ v8 ≤ 65535 then okI v8 G5 else none) exc)
    else
      exc 1 G1) exc)
def D_PB_type (kk : Nat) (a0 : Int32) (G : GS) : Res :=
  if a0 < (32 : Int32) then
    exc 2 G
  else
    if a0 ≤ (126 : Int32) then
      (D_Script_isFull kk G).bind (fun r => oI r (fun v4 G1 =>
      if v4 = 0 then
        (D_Script_append kk a0 G1).bind (fun r => oV r (fun G5 =>
        okI (gi G5 (0, 12) 3) G5) exc)
      else
        exc 4 G1) exc)
    else
      exc 2 G
def L_PB_performCommands (kk : Nat) : Nat → Int32 → GS → Res
  | 0 => fun _ _ => none
  | k + 1 => fun x1 G =>
    if (gi G (0, 12) 4) ≤ x1 then
      okI (-1 : Int32) G
    else
      (D_Script_commandAt kk x1 G).bind (fun r => oI r (fun v4 G1 =>
      (D_Script_argumentAt kk x1 (0 : Int32) G1).bind (fun r => oI r (fun v8 G5 =>
      (D_Script_argumentAt kk x1 (1 : Int32) G5).bind (fun r => oI r (fun v12 G9 =>
      (D_Script_argumentAt kk x1 (2 : Int32) G9).bind (fun r => oI r (fun v16 G13 =>
      (D_State_faultOf kk 0 v4 v8 v12 v16 G13).bind (fun r => oI r (fun v20 G17 =>
      if v20 = 0 then
        (D_State_perform kk 0 v4 v8 v12 v16 G17).bind (fun r => oI r (fun v24 G21 =>
        (L_PB_performCommands kk k) (x1 + (1 : Int32)) G21) exc)
      else
        okI x1 G17) exc)) exc)) exc)) exc)) exc)
def D_PB_performCommands (kk : Nat) (G : GS) : Res :=
  (L_PB_performCommands kk kk) (0 : Int32) G
def D_PB_runScript (kk : Nat) (G : GS) : Res :=
  (D_Script_parse kk G).bind (fun r => oI r (fun v4 G1 =>
  (D_Script_empty kk G1).bind (fun r => oV r (fun G5 =>
  if v4 = 0 then
    exc 2 (si G5 (0, 0) 5 (gi G5 (0, 12) 5))
  else
    (D_History_draft kk 0 G5).bind (fun r => oV r (fun G8 =>
    (D_PB_performCommands kk G8).bind (fun r => oI r (fun v14 G11 =>
    if v14 = (-1 : Int32) then
      (D_History_keepDraft kk G11).bind (fun r => oV r (fun G15 =>
      okI (gi G15 (0, 12) 4) G15) exc)
    else
      (D_History_takeDraftBack kk 0 G11).bind (fun r => oV r (fun G18 =>
      exc 4 (si G18 (0, 0) 6 v14)) exc)) exc)) exc)) exc)) exc)
def D_PB_errorPosition (kk : Nat) (G : GS) : Res :=
  if (gi G (0, 0) 5) = (-1 : Int32) then
    exc 3 G
  else
    okI (gi G (0, 0) 5) G
def D_PB_failedCommand (kk : Nat) (G : GS) : Res :=
  if (gi G (0, 0) 6) = (-1 : Int32) then
    exc 3 G
  else
    okI (gi G (0, 0) 6) G
def D_PB_undo (kk : Nat) (G : GS) : Res :=
  if (gi G (0, 10) 2) = 0 then
    exc 3 G
  else
    (D_History_takeLatestBack kk 0 G).bind (fun r => oV r (fun G1 =>
    okI (gi G1 (0, 10) 2) G1) exc)
def D_PB_save (kk : Nat) (G : GS) : Res :=
  (D_State_copyFrom kk 1 0 G).bind (fun r => oV r (fun G1 =>
  (D_Cargo_countPillows kk 0 (si G1 (0, 0) 3 (1 : Int32))).bind (fun r => oI r (fun v7 G4 =>
  okI v7 G4) exc)) exc)
def D_PB_restore (kk : Nat) (G : GS) : Res :=
  if (gi G (0, 0) 3) = 0 then
    exc 4 G
  else
    (D_State_copyFrom kk 0 1 G).bind (fun r => oV r (fun G1 =>
    (D_History_forget kk G1).bind (fun r => oV r (fun G4 =>
    (D_Cargo_countPillows kk 0 G4).bind (fun r => oI r (fun v10 G7 =>
    okI v10 G7) exc)) exc)) exc)
