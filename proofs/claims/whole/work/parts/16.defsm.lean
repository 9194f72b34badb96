/-! Every method as a function (printed by gen/emit.py from the class files). -/
def D_Mo_thrown (kk : Nat) (G : GS) : Res :=
  okI (gi G (0, 50) 0) G
def D_Mo_fails (kk : Nat) (a0 : Int32) (G : GS) : Res :=
  okI (0 : Int32) (si G (0, 50) 0 a0)
def D_Mo_isBetween (kk : Nat) (a0 : Int32) (a1 : Int32) (a2 : Int32) (G : GS) : Res :=
  if a0 < a1 then
    okI (0 : Int32) G
  else
    if a2 < a0 then
      okI (0 : Int32) G
    else
      okI (1 : Int32) G
def L_Mo_copies (kk : Nat) : Nat → Int32 → GS → Res
  | 0 => fun _ _ => none
  | k + 1 => fun x1 G =>
    if (156 : Int32) ≤ x1 then
      okV G
    else
      bif inb x1 156 then
      bif inb x1 156 then
      (L_Mo_copies kk k) (x1 + (1 : Int32)) (sa G (0, 54) x1.toNatClampNeg (ga G (0, 51) x1.toNatClampNeg))
      else none
      else none
def D_Mo_copies (kk : Nat) (G : GS) : Res :=
  (L_Mo_copies kk kk) (0 : Int32) G
def L_Mo_goesBack (kk : Nat) : Nat → Int32 → GS → Res
  | 0 => fun _ _ => none
  | k + 1 => fun x1 G =>
    if (156 : Int32) ≤ x1 then
      okV G
    else
      bif inb x1 156 then
      bif inb x1 156 then
      (L_Mo_goesBack kk k) (x1 + (1 : Int32)) (sa G (0, 51) x1.toNatClampNeg (ga G (0, 54) x1.toNatClampNeg))
      else none
      else none
def D_Mo_goesBack (kk : Nat) (G : GS) : Res :=
  (L_Mo_goesBack kk kk) (0 : Int32) G
def L_Mo_keeps (kk : Nat) : Nat → Int32 → Int32 → GS → Res
  | 0 => fun _ _ _ => none
  | k + 1 => fun x1 x2 G =>
    if (156 : Int32) ≤ x2 then
      okV (si G (0, 50) 5 ((gi G (0, 50) 5) + (1 : Int32)))
    else
      bif inb x2 156 then
      bif inb (((156 : Int32) * x1) + x2) 1248 then
      (L_Mo_keeps kk k) x1 (x2 + (1 : Int32)) (sa G (0, 52) (((156 : Int32) * x1) + x2).toNatClampNeg (ga G (0, 54) x2.toNatClampNeg))
      else none
      else none
def D_Mo_keeps (kk : Nat) (G : GS) : Res :=
  if (gi G (0, 50) 5) = (8 : Int32) then
    (L_Mo_keeps kk kk) (((gi (si (si G (0, 50) 6 (((gi G (0, 50) 6) + (1 : Int32)) - ((gi G (0, 50) 6) + (1 : Int32)) / (8 : Int32) * (8 : Int32))) (0, 50) 5 ((gi (si G (0, 50) 6 (((gi G (0, 50) 6) + (1 : Int32)) - ((gi G (0, 50) 6) + (1 : Int32)) / (8 : Int32) * (8 : Int32))) (0, 50) 5) - (1 : Int32))) (0, 50) 6) + (gi (si (si G (0, 50) 6 (((gi G (0, 50) 6) + (1 : Int32)) - ((gi G (0, 50) 6) + (1 : Int32)) / (8 : Int32) * (8 : Int32))) (0, 50) 5 ((gi (si G (0, 50) 6 (((gi G (0, 50) 6) + (1 : Int32)) - ((gi G (0, 50) 6) + (1 : Int32)) / (8 : Int32) * (8 : Int32))) (0, 50) 5) - (1 : Int32))) (0, 50) 5)) - ((gi (si (si G (0, 50) 6 (((gi G (0, 50) 6) + (1 : Int32)) - ((gi G (0, 50) 6) + (1 : Int32)) / (8 : Int32) * (8 : Int32))) (0, 50) 5 ((gi (si G (0, 50) 6 (((gi G (0, 50) 6) + (1 : Int32)) - ((gi G (0, 50) 6) + (1 : Int32)) / (8 : Int32) * (8 : Int32))) (0, 50) 5) - (1 : Int32))) (0, 50) 6) + (gi (si (si G (0, 50) 6 (((gi G (0, 50) 6) + (1 : Int32)) - ((gi G (0, 50) 6) + (1 : Int32)) / (8 : Int32) * (8 : Int32))) (0, 50) 5 ((gi (si G (0, 50) 6 (((gi G (0, 50) 6) + (1 : Int32)) - ((gi G (0, 50) 6) + (1 : Int32)) / (8 : Int32) * (8 : Int32))) (0, 50) 5) - (1 : Int32))) (0, 50) 5)) / (8 : Int32) * (8 : Int32)) (0 : Int32) (si (si G (0, 50) 6 (((gi G (0, 50) 6) + (1 : Int32)) - ((gi G (0, 50) 6) + (1 : Int32)) / (8 : Int32) * (8 : Int32))) (0, 50) 5 ((gi (si G (0, 50) 6 (((gi G (0, 50) 6) + (1 : Int32)) - ((gi G (0, 50) 6) + (1 : Int32)) / (8 : Int32) * (8 : Int32))) (0, 50) 5) - (1 : Int32)))
  else
    (L_Mo_keeps kk kk) (((gi G (0, 50) 6) + (gi G (0, 50) 5)) - ((gi G (0, 50) 6) + (gi G (0, 50) 5)) / (8 : Int32) * (8 : Int32)) (0 : Int32) G
def D_Mo_remembers (kk : Nat) (G : GS) : Res :=
  (D_Mo_copies kk G).bind (fun r => oV r (fun G1 =>
  (D_Mo_keeps kk G1).bind (fun r => oV r (fun G4 =>
  okV G4) exc)) exc)
def D_Mo_isBay (kk : Nat) (a0 : Int32) (G : GS) : Res :=
  (D_Mo_isBetween kk a0 (0 : Int32) (6 : Int32) G).bind (fun r => oI r (fun v4 G1 =>
  if v4 = 0 ∨ v4 = 1 then okI v4 G1 else none) exc)
def D_Mo_at (kk : Nat) (a0 : Int32) (a1 : Int32) (a2 : Int32) (G : GS) : Res :=
  bif inb ((((16 : Int32) + ((20 : Int32) * a0)) + ((4 : Int32) * a1)) + a2) 156 then
  okI (ga G (0, 51) ((((16 : Int32) + ((20 : Int32) * a0)) + ((4 : Int32) * a1)) + a2).toNatClampNeg) G
  else none
def D_Mo_puts (kk : Nat) (a0 : Int32) (a1 : Int32) (a2 : Int32) (a3 : Int32) (G : GS) : Res :=
  bif inb ((((16 : Int32) + ((20 : Int32) * a0)) + ((4 : Int32) * a1)) + a2) 156 then
  okV (sa G (0, 51) ((((16 : Int32) + ((20 : Int32) * a0)) + ((4 : Int32) * a1)) + a2).toNatClampNeg a3)
  else none
def D_Mo_top (kk : Nat) (a0 : Int32) (a1 : Int32) (G : GS) : Res :=
  bif inb ((9 : Int32) + a0) 156 then
  (D_Mo_at kk a0 ((ga G (0, 51) ((9 : Int32) + a0).toNatClampNeg) - (1 : Int32)) a1 G).bind (fun r => oI r (fun v4 G1 =>
  okI v4 G1) exc)
  else none
def L_Mo_weightOfBay (kk : Nat) : Nat → Int32 → Int32 → Int32 → GS → Res
  | 0 => fun _ _ _ _ => none
  | k + 1 => fun x1 x2 x3 G =>
    bif inb ((9 : Int32) + x1) 156 then
    if (ga G (0, 51) ((9 : Int32) + x1).toNatClampNeg) ≤ x3 then
      okI x2 G
    else
      (D_Mo_at kk x1 x3 (1 : Int32) G).bind (fun r => oI r (fun v4 G1 =>
      (L_Mo_weightOfBay kk k) x1 (x2 + v4) (x3 + (1 : Int32)) G1) exc)
    else none
def D_Mo_weightOfBay (kk : Nat) (a0 : Int32) (G : GS) : Res :=
  (L_Mo_weightOfBay kk kk) a0 (0 : Int32) (0 : Int32) G
def L_Mo_momentNow (kk : Nat) : Nat → Int32 → Int32 → GS → Res
  | 0 => fun _ _ _ => none
  | k + 1 => fun x1 x2 G =>
    if (7 : Int32) ≤ x2 then
      okI x1 G
    else
      (D_Mo_weightOfBay kk x2 G).bind (fun r => oI r (fun v4 G1 =>
      (L_Mo_momentNow kk k) (x1 + ((x2 - (3 : Int32)) * v4)) (x2 + (1 : Int32)) G1) exc)
def D_Mo_momentNow (kk : Nat) (G : GS) : Res :=
  (L_Mo_momentNow kk kk) (0 : Int32) (0 : Int32) G
def L_Mo_weightAll (kk : Nat) : Nat → Int32 → Int32 → GS → Res
  | 0 => fun _ _ _ => none
  | k + 1 => fun x1 x2 G =>
    if (7 : Int32) ≤ x2 then
      okI x1 G
    else
      (D_Mo_weightOfBay kk x2 G).bind (fun r => oI r (fun v4 G1 =>
      (L_Mo_weightAll kk k) (x1 + v4) (x2 + (1 : Int32)) G1) exc)
def D_Mo_weightAll (kk : Nat) (G : GS) : Res :=
  (L_Mo_weightAll kk kk) (0 : Int32) (0 : Int32) G
def L_Mo_countAll (kk : Nat) : Nat → Int32 → Int32 → GS → Res
  | 0 => fun _ _ _ => none
  | k + 1 => fun x1 x2 G =>
    if (7 : Int32) ≤ x2 then
      okI x1 G
    else
      bif inb ((9 : Int32) + x2) 156 then
      (L_Mo_countAll kk k) (x1 + (ga G (0, 51) ((9 : Int32) + x2).toNatClampNeg)) (x2 + (1 : Int32)) G
      else none
def D_Mo_countAll (kk : Nat) (G : GS) : Res :=
  (L_Mo_countAll kk kk) (0 : Int32) (0 : Int32) G
def D_Mo_isBeyond (kk : Nat) (a0 : Int32) (G : GS) : Res :=
  (D_Mo_momentNow kk G).bind (fun r => oI r (fun v4 G1 =>
  if (ga G1 (0, 51) 3) < (v4 + a0) then
    okI (1 : Int32) G1
  else
    if (-(v4 + a0)) ≤ (ga G1 (0, 51) 3) then
      okI (0 : Int32) G1
    else
      okI (1 : Int32) G1) exc)
def D_Mo_lever (kk : Nat) (a0 : Int32) (a1 : Int32) (G : GS) : Res :=
  okI ((a0 - (3 : Int32)) * a1) G
def D_Mo_lays (kk : Nat) (a0 : Int32) (a1 : Int32) (a2 : Int32) (a3 : Int32) (a4 : Int32) (G : GS) : Res :=
  bif inb ((9 : Int32) + a0) 156 then
  (D_Mo_puts kk a0 (ga G (0, 51) ((9 : Int32) + a0).toNatClampNeg) (0 : Int32) a1 G).bind (fun r => oV r (fun G1 =>
  (D_Mo_puts kk a0 (ga G (0, 51) ((9 : Int32) + a0).toNatClampNeg) (1 : Int32) a2 G1).bind (fun r => oV r (fun G4 =>
  (D_Mo_puts kk a0 (ga G (0, 51) ((9 : Int32) + a0).toNatClampNeg) (2 : Int32) a3 G4).bind (fun r => oV r (fun G7 =>
  (D_Mo_puts kk a0 (ga G (0, 51) ((9 : Int32) + a0).toNatClampNeg) (3 : Int32) a4 G7).bind (fun r => oV r (fun G10 =>
  bif inb ((9 : Int32) + a0) 156 then
  bif inb ((9 : Int32) + a0) 156 then
  okV (sa G10 (0, 51) ((9 : Int32) + a0).toNatClampNeg ((ga G10 (0, 51) ((9 : Int32) + a0).toNatClampNeg) + (1 : Int32)))
  else none
  else none) exc)) exc)) exc)) exc)
  else none
def L_Mo_takes (kk : Nat) : Nat → Int32 → Int32 → GS → Res
  | 0 => fun _ _ _ => none
  | k + 1 => fun x1 x2 G =>
    if (4 : Int32) ≤ x2 then
      okV G
    else
      bif inb ((9 : Int32) + x1) 156 then
      (D_Mo_puts kk x1 (ga G (0, 51) ((9 : Int32) + x1).toNatClampNeg) x2 (0 : Int32) G).bind (fun r => oV r (fun G1 =>
      (L_Mo_takes kk k) x1 (x2 + (1 : Int32)) G1) exc)
      else none
def D_Mo_takes (kk : Nat) (a0 : Int32) (G : GS) : Res :=
  bif inb ((9 : Int32) + a0) 156 then
  bif inb ((9 : Int32) + a0) 156 then
  (L_Mo_takes kk kk) a0 (0 : Int32) (sa G (0, 51) ((9 : Int32) + a0).toNatClampNeg ((ga G (0, 51) ((9 : Int32) + a0).toNatClampNeg) - (1 : Int32)))
  else none
  else none
def D_Mo_notLoad (kk : Nat) (a0 : Int32) (a1 : Int32) (a2 : Int32) (G : GS) : Res :=
  (D_Mo_isBay kk a0 G).bind (fun r => oI r (fun v4 G1 =>
  if v4 = 0 then
    okI (1 : Int32) G1
  else
    (D_Mo_isBetween kk a1 (1 : Int32) (20 : Int32) G1).bind (fun r => oI r (fun v8 G5 =>
    if v8 = 0 then
      okI (2 : Int32) G5
    else
      (D_Mo_isBetween kk a2 (0 : Int32) (4 : Int32) G5).bind (fun r => oI r (fun v12 G9 =>
      if v12 = 0 then
        okI (2 : Int32) G9
      else
        bif inb ((9 : Int32) + a0) 156 then
        if (ga G9 (0, 51) ((9 : Int32) + a0).toNatClampNeg) = (5 : Int32) then
          okI (3 : Int32) G9
        else
          (D_Mo_lever kk a0 a1 G9).bind (fun r => oI r (fun v16 G13 =>
          (D_Mo_isBeyond kk v16 G13).bind (fun r => oI r (fun v20 G17 =>
          if v20 = 0 then
            okI (0 : Int32) G17
          else
            okI (4 : Int32) G17) exc)) exc)
        else none) exc)) exc)) exc)
def D_Mo_loads (kk : Nat) (a0 : Int32) (a1 : Int32) (a2 : Int32) (G : GS) : Res :=
  (D_Mo_lays kk a0 (ga G (0, 51) 4) a1 a2 (ga G (0, 51) 0) G).bind (fun r => oV r (fun G1 =>
  okI ((ga (sa G1 (0, 51) 4 ((ga G1 (0, 51) 4) + (1 : Int32))) (0, 51) 4) - (1 : Int32)) (sa G1 (0, 51) 4 ((ga G1 (0, 51) 4) + (1 : Int32)))) exc)
def D_Mo_load (kk : Nat) (a0 : Int32) (a1 : Int32) (a2 : Int32) (G : GS) : Res :=
  (D_Mo_notLoad kk a0 a1 a2 (si G (0, 50) 0 (0 : Int32))).bind (fun r => oI r (fun v4 G1 =>
  if v4 = 0 then
    (D_Mo_remembers kk G1).bind (fun r => oV r (fun G5 =>
    (D_Mo_loads kk a0 a1 a2 G5).bind (fun r => oI r (fun v11 G8 =>
    okI v11 G8) exc)) exc)
  else
    (D_Mo_fails kk v4 G1).bind (fun r => oI r (fun v15 G12 =>
    okI v15 G12) exc)) exc)
def D_Mo_notUnload (kk : Nat) (a0 : Int32) (G : GS) : Res :=
  (D_Mo_isBay kk a0 G).bind (fun r => oI r (fun v4 G1 =>
  if v4 = 0 then
    okI (1 : Int32) G1
  else
    bif inb ((9 : Int32) + a0) 156 then
    if (ga G1 (0, 51) ((9 : Int32) + a0).toNatClampNeg) = 0 then
      okI (2 : Int32) G1
    else
      (D_Mo_top kk a0 (2 : Int32) G1).bind (fun r => oI r (fun v8 G5 =>
      if v8 = (ga G5 (0, 51) 1) then
        (D_Mo_top kk a0 (1 : Int32) G5).bind (fun r => oI r (fun v12 G9 =>
        (D_Mo_lever kk a0 v12 G9).bind (fun r => oI r (fun v16 G13 =>
        (D_Mo_isBeyond kk (-v16) G13).bind (fun r => oI r (fun v20 G17 =>
        if v20 = 0 then
          okI (0 : Int32) G17
        else
          okI (4 : Int32) G17) exc)) exc)) exc)
      else
        okI (3 : Int32) G5) exc)
    else none) exc)
def D_Mo_unloads (kk : Nat) (a0 : Int32) (G : GS) : Res :=
  (D_Mo_top kk a0 (0 : Int32) G).bind (fun r => oI r (fun v4 G1 =>
  (D_Mo_top kk a0 (1 : Int32) (sa G1 (0, 51) 5 ((ga G1 (0, 51) 5) + (1 : Int32)))).bind (fun r => oI r (fun v8 G5 =>
  (D_Mo_takes kk a0 (sa G5 (0, 51) 6 ((ga (sa G1 (0, 51) 5 ((ga G1 (0, 51) 5) + (1 : Int32))) (0, 51) 6) + v8))).bind (fun r => oV r (fun G9 =>
  okI v4 G9) exc)) exc)) exc)
def D_Mo_unload (kk : Nat) (a0 : Int32) (G : GS) : Res :=
  (D_Mo_notUnload kk a0 (si G (0, 50) 0 (0 : Int32))).bind (fun r => oI r (fun v4 G1 =>
  if v4 = 0 then
    (D_Mo_remembers kk G1).bind (fun r => oV r (fun G5 =>
    (D_Mo_unloads kk a0 G5).bind (fun r => oI r (fun v11 G8 =>
    okI v11 G8) exc)) exc)
  else
    (D_Mo_fails kk v4 G1).bind (fun r => oI r (fun v15 G12 =>
    okI v15 G12) exc)) exc)
def D_Mo_notShift (kk : Nat) (a0 : Int32) (a1 : Int32) (G : GS) : Res :=
  (D_Mo_isBay kk a0 G).bind (fun r => oI r (fun v4 G1 =>
  if v4 = 0 then
    okI (1 : Int32) G1
  else
    (D_Mo_isBay kk a1 G1).bind (fun r => oI r (fun v8 G5 =>
    if v8 = 0 then
      okI (1 : Int32) G5
    else
      if a0 = a1 then
        okI (2 : Int32) G5
      else
        bif inb ((9 : Int32) + a0) 156 then
        if (ga G5 (0, 51) ((9 : Int32) + a0).toNatClampNeg) = 0 then
          okI (3 : Int32) G5
        else
          bif inb ((9 : Int32) + a1) 156 then
          if (ga G5 (0, 51) ((9 : Int32) + a1).toNatClampNeg) = (5 : Int32) then
            okI (4 : Int32) G5
          else
            (D_Mo_top kk a0 (1 : Int32) G5).bind (fun r => oI r (fun v12 G9 =>
            (D_Mo_lever kk a1 v12 G9).bind (fun r => oI r (fun v16 G13 =>
            (D_Mo_lever kk a0 v12 G13).bind (fun r => oI r (fun v20 G17 =>
            (D_Mo_isBeyond kk (v16 - v20) G17).bind (fun r => oI r (fun v24 G21 =>
            if v24 = 0 then
              okI (0 : Int32) G21
            else
              okI (5 : Int32) G21) exc)) exc)) exc)) exc)
          else none
        else none) exc)) exc)
def D_Mo_shifts (kk : Nat) (a0 : Int32) (a1 : Int32) (G : GS) : Res :=
  (D_Mo_top kk a0 (0 : Int32) G).bind (fun r => oI r (fun v4 G1 =>
  (D_Mo_top kk a0 (1 : Int32) G1).bind (fun r => oI r (fun v8 G5 =>
  (D_Mo_top kk a0 (2 : Int32) G5).bind (fun r => oI r (fun v12 G9 =>
  (D_Mo_top kk a0 (3 : Int32) G9).bind (fun r => oI r (fun v16 G13 =>
  (D_Mo_lays kk a1 v4 v8 v12 v16 G13).bind (fun r => oV r (fun G17 =>
  (D_Mo_takes kk a0 G17).bind (fun r => oV r (fun G20 =>
  okI v4 G20) exc)) exc)) exc)) exc)) exc)) exc)
def D_Mo_shift (kk : Nat) (a0 : Int32) (a1 : Int32) (G : GS) : Res :=
  (D_Mo_notShift kk a0 a1 (si G (0, 50) 0 (0 : Int32))).bind (fun r => oI r (fun v4 G1 =>
  if v4 = 0 then
    (D_Mo_remembers kk G1).bind (fun r => oV r (fun G5 =>
    (D_Mo_shifts kk a0 a1 G5).bind (fun r => oI r (fun v11 G8 =>
    okI v11 G8) exc)) exc)
  else
    (D_Mo_fails kk v4 G1).bind (fun r => oI r (fun v15 G12 =>
    okI v15 G12) exc)) exc)
def D_Mo_portBehind (kk : Nat) (a0 : Int32) (G : GS) : Res :=
  if (ga G (0, 51) 2) = (1 : Int32) then
    okI (((ga G (0, 51) 1) + ((4 : Int32) * a0)) - ((ga G (0, 51) 1) + ((4 : Int32) * a0)) / (5 : Int32) * (5 : Int32)) G
  else
    okI (((ga G (0, 51) 1) + ((1 : Int32) * a0)) - ((ga G (0, 51) 1) + ((1 : Int32) * a0)) / (5 : Int32) * (5 : Int32)) G
def D_Mo_notSail (kk : Nat) (a0 : Int32) (G : GS) : Res :=
  (D_Mo_isBetween kk a0 (1 : Int32) (20 : Int32) G).bind (fun r => oI r (fun v4 G1 =>
  if v4 = 0 then
    okI (1 : Int32) G1
  else
    okI (0 : Int32) G1) exc)
def D_Mo_sails (kk : Nat) (a0 : Int32) (G : GS) : Res :=
  (D_Mo_portBehind kk a0 G).bind (fun r => oI r (fun v4 G1 =>
  okI (ga (sa (sa G1 (0, 51) 1 v4) (0, 51) 0 ((ga (sa G1 (0, 51) 1 v4) (0, 51) 0) + a0)) (0, 51) 1) (sa (sa G1 (0, 51) 1 v4) (0, 51) 0 ((ga (sa G1 (0, 51) 1 v4) (0, 51) 0) + a0))) exc)
def D_Mo_sail (kk : Nat) (a0 : Int32) (G : GS) : Res :=
  (D_Mo_notSail kk a0 (si G (0, 50) 0 (0 : Int32))).bind (fun r => oI r (fun v4 G1 =>
  if v4 = 0 then
    (D_Mo_remembers kk G1).bind (fun r => oV r (fun G5 =>
    (D_Mo_sails kk a0 G5).bind (fun r => oI r (fun v11 G8 =>
    okI v11 G8) exc)) exc)
  else
    (D_Mo_fails kk (1 : Int32) G1).bind (fun r => oI r (fun v15 G12 =>
    okI v15 G12) exc)) exc)
def D_Mo_turns (kk : Nat) (G : GS) : Res :=
  okI (ga (sa G (0, 51) 2 ((1 : Int32) - (ga G (0, 51) 2))) (0, 51) 2) (sa G (0, 51) 2 ((1 : Int32) - (ga G (0, 51) 2)))
def D_Mo_turn (kk : Nat) (G : GS) : Res :=
  (D_Mo_remembers kk (si G (0, 50) 0 (0 : Int32))).bind (fun r => oV r (fun G1 =>
  (D_Mo_turns kk G1).bind (fun r => oI r (fun v7 G4 =>
  if v7 = 0 then
    okI (1 : Int32) G4
  else
    okI (0 : Int32) G4) exc)) exc)
def D_Mo_notLimit (kk : Nat) (a0 : Int32) (G : GS) : Res :=
  (D_Mo_isBetween kk a0 (10 : Int32) (99 : Int32) G).bind (fun r => oI r (fun v4 G1 =>
  if v4 = 0 then
    okI (1 : Int32) G1
  else
    (D_Mo_momentNow kk G1).bind (fun r => oI r (fun v8 G5 =>
    if a0 < v8 then
      okI (2 : Int32) G5
    else
      if (-v8) ≤ a0 then
        okI (0 : Int32) G5
      else
        okI (2 : Int32) G5) exc)) exc)
def D_Mo_setsLimit (kk : Nat) (a0 : Int32) (G : GS) : Res :=
  okI (ga G (0, 51) 3) (sa G (0, 51) 3 a0)
def D_Mo_setLimit (kk : Nat) (a0 : Int32) (G : GS) : Res :=
  (D_Mo_notLimit kk a0 (si G (0, 50) 0 (0 : Int32))).bind (fun r => oI r (fun v4 G1 =>
  if v4 = 0 then
    (D_Mo_remembers kk G1).bind (fun r => oV r (fun G5 =>
    (D_Mo_setsLimit kk a0 G5).bind (fun r => oI r (fun v11 G8 =>
    okI v11 G8) exc)) exc)
  else
    (D_Mo_fails kk v4 G1).bind (fun r => oI r (fun v15 G12 =>
    okI v15 G12) exc)) exc)
def D_Mo_notDrill (kk : Nat) (a0 : Int32) (G : GS) : Res :=
  (D_Mo_isBetween kk a0 (-99 : Int32) (99 : Int32) G).bind (fun r => oI r (fun v4 G1 =>
  if v4 = 0 then
    okI (1 : Int32) G1
  else
    okI (0 : Int32) G1) exc)
def D_Mo_drills (kk : Nat) (a0 : Int32) (G : GS) : Res :=
  (D_Mo_isBeyond kk a0 (sa G (0, 51) 7 ((ga G (0, 51) 7) + (1 : Int32)))).bind (fun r => oI r (fun v4 G1 =>
  if v4 = 0 then
    okI (0 : Int32) (sa G1 (0, 51) 8 ((ga G1 (0, 51) 8) + (0 : Int32)))
  else
    okI (1 : Int32) (sa G1 (0, 51) 8 ((ga G1 (0, 51) 8) + (1 : Int32)))) exc)
def D_Mo_drill (kk : Nat) (a0 : Int32) (G : GS) : Res :=
  (D_Mo_notDrill kk a0 (si G (0, 50) 0 (0 : Int32))).bind (fun r => oI r (fun v4 G1 =>
  if v4 = 0 then
    (D_Mo_remembers kk G1).bind (fun r => oV r (fun G5 =>
    (D_Mo_drills kk a0 G5).bind (fun r => oI r (fun v11 G8 =>
    if v11 = (1 : Int32) then
      okI (1 : Int32) G8
    else
      okI (0 : Int32) G8) exc)) exc)
  else
    (D_Mo_fails kk (1 : Int32) G1).bind (fun r => oI r (fun v15 G12 =>
    if v15 ≤ 0 then
      okI (0 : Int32) G12
    else
      okI (1 : Int32) G12) exc)) exc)
def D_Mo_pillowCount (kk : Nat) (G : GS) : Res :=
  (D_Mo_countAll kk (si G (0, 50) 0 (0 : Int32))).bind (fun r => oI r (fun v4 G1 =>
  okI v4 G1) exc)
def D_Mo_stackHeight (kk : Nat) (a0 : Int32) (G : GS) : Res :=
  (D_Mo_isBay kk a0 (si G (0, 50) 0 (0 : Int32))).bind (fun r => oI r (fun v4 G1 =>
  if v4 = 0 then
    (D_Mo_fails kk (1 : Int32) G1).bind (fun r => oI r (fun v8 G5 =>
    okI v8 G5) exc)
  else
    bif inb ((9 : Int32) + a0) 156 then
    okI (ga G1 (0, 51) ((9 : Int32) + a0).toNatClampNeg) G1
    else none) exc)
def D_Mo_pillowAt (kk : Nat) (a0 : Int32) (a1 : Int32) (G : GS) : Res :=
  (D_Mo_isBay kk a0 (si G (0, 50) 0 (0 : Int32))).bind (fun r => oI r (fun v4 G1 =>
  if v4 = 0 then
    (D_Mo_fails kk (1 : Int32) G1).bind (fun r => oI r (fun v20 G17 =>
    okI v20 G17) exc)
  else
    bif inb ((9 : Int32) + a0) 156 then
    (D_Mo_isBetween kk a1 (0 : Int32) ((ga G1 (0, 51) ((9 : Int32) + a0).toNatClampNeg) - (1 : Int32)) G1).bind (fun r => oI r (fun v8 G5 =>
    if v8 = 0 then
      (D_Mo_fails kk (2 : Int32) G5).bind (fun r => oI r (fun v12 G9 =>
      okI v12 G9) exc)
    else
      (D_Mo_at kk a0 a1 (0 : Int32) G5).bind (fun r => oI r (fun v16 G13 =>
      okI v16 G13) exc)) exc)
    else none) exc)
def L_Mo_placeOf (kk : Nat) : Nat → (Int32 → Int32 → GS → Res) × (Int32 → Int32 → Int32 → GS → Res)
  | 0 => (fun _ _ _ => none, fun _ _ _ _ => none)
  | k + 1 => (fun x1 x2 G =>
    if (7 : Int32) ≤ x2 then
      okI (-1 : Int32) G
    else
      (L_Mo_placeOf kk k).2 x1 x2 (0 : Int32) G,
    fun x1 x2 x3 G =>
    bif inb ((9 : Int32) + x2) 156 then
    if (ga G (0, 51) ((9 : Int32) + x2).toNatClampNeg) ≤ x3 then
      (L_Mo_placeOf kk k).1 x1 (x2 + (1 : Int32)) G
    else
      (D_Mo_at kk x2 x3 (0 : Int32) G).bind (fun r => oI r (fun v4 G1 =>
      if v4 = x1 then
        okI (((5 : Int32) * x2) + x3) G1
      else
        (L_Mo_placeOf kk k).2 x1 x2 (x3 + (1 : Int32)) G1) exc)
    else none)
def D_Mo_placeOf (kk : Nat) (a0 : Int32) (G : GS) : Res :=
  (L_Mo_placeOf kk kk).1 a0 (0 : Int32) G
def D_Mo_asks (kk : Nat) (a0 : Int32) (a1 : Int32) (G : GS) : Res :=
  (D_Mo_placeOf kk a0 (si G (0, 50) 0 (0 : Int32))).bind (fun r => oI r (fun v4 G1 =>
  if 0 ≤ v4 then
    (D_Mo_at kk (v4 / (5 : Int32)) (v4 - v4 / (5 : Int32) * (5 : Int32)) a1 G1).bind (fun r => oI r (fun v8 G5 =>
    okI v8 G5) exc)
  else
    (D_Mo_fails kk (1 : Int32) G1).bind (fun r => oI r (fun v12 G9 =>
    okI v12 G9) exc)) exc)
def D_Mo_weightOf (kk : Nat) (a0 : Int32) (G : GS) : Res :=
  (D_Mo_asks kk a0 (1 : Int32) G).bind (fun r => oI r (fun v4 G1 =>
  okI v4 G1) exc)
def D_Mo_destinationOf (kk : Nat) (a0 : Int32) (G : GS) : Res :=
  (D_Mo_asks kk a0 (2 : Int32) G).bind (fun r => oI r (fun v4 G1 =>
  okI v4 G1) exc)
def D_Mo_bayOf (kk : Nat) (a0 : Int32) (G : GS) : Res :=
  (D_Mo_placeOf kk a0 (si G (0, 50) 0 (0 : Int32))).bind (fun r => oI r (fun v4 G1 =>
  if 0 ≤ v4 then
    okI (v4 / (5 : Int32)) G1
  else
    (D_Mo_fails kk (1 : Int32) G1).bind (fun r => oI r (fun v8 G5 =>
    okI v8 G5) exc)) exc)
def D_Mo_positionOf (kk : Nat) (a0 : Int32) (G : GS) : Res :=
  (D_Mo_placeOf kk a0 (si G (0, 50) 0 (0 : Int32))).bind (fun r => oI r (fun v4 G1 =>
  if 0 ≤ v4 then
    okI (v4 - v4 / (5 : Int32) * (5 : Int32)) G1
  else
    (D_Mo_fails kk (1 : Int32) G1).bind (fun r => oI r (fun v8 G5 =>
    okI v8 G5) exc)) exc)
def D_Mo_ageOf (kk : Nat) (a0 : Int32) (G : GS) : Res :=
  (D_Mo_asks kk a0 (3 : Int32) G).bind (fun r => oI r (fun v4 G1 =>
  if (gi G1 (0, 50) 0) = 0 then
    okI ((ga G1 (0, 51) 0) - v4) G1
  else
    okI (0 : Int32) G1) exc)
def D_Mo_moment (kk : Nat) (G : GS) : Res :=
  (D_Mo_momentNow kk (si G (0, 50) 0 (0 : Int32))).bind (fun r => oI r (fun v4 G1 =>
  okI v4 G1) exc)
def D_Mo_momentByBays (kk : Nat) (G : GS) : Res :=
  (D_Mo_moment kk G).bind (fun r => oI r (fun v4 G1 =>
  okI v4 G1) exc)
def D_Mo_totalWeight (kk : Nat) (G : GS) : Res :=
  (D_Mo_weightAll kk (si G (0, 50) 0 (0 : Int32))).bind (fun r => oI r (fun v4 G1 =>
  okI v4 G1) exc)
def L_Mo_weightFor (kk : Nat) : Nat → (Int32 → Int32 → Int32 → GS → Res) × (Int32 → Int32 → Int32 → Int32 → GS → Res)
  | 0 => (fun _ _ _ _ => none, fun _ _ _ _ _ => none)
  | k + 1 => (fun x1 x2 x3 G =>
    if (7 : Int32) ≤ x3 then
      okI x2 G
    else
      (L_Mo_weightFor kk k).2 x1 x2 x3 (0 : Int32) G,
    fun x1 x2 x3 x4 G =>
    bif inb ((9 : Int32) + x3) 156 then
    if (ga G (0, 51) ((9 : Int32) + x3).toNatClampNeg) ≤ x4 then
      (L_Mo_weightFor kk k).1 x1 x2 (x3 + (1 : Int32)) G
    else
      (D_Mo_at kk x3 x4 (2 : Int32) G).bind (fun r => oI r (fun v12 G9 =>
      if v12 = x1 then
        (D_Mo_at kk x3 x4 (1 : Int32) G9).bind (fun r => oI r (fun v16 G13 =>
        (L_Mo_weightFor kk k).2 x1 (x2 + v16) x3 (x4 + (1 : Int32)) G13) exc)
      else
        (L_Mo_weightFor kk k).2 x1 (x2 + (0 : Int32)) x3 (x4 + (1 : Int32)) G9) exc)
    else none)
def D_Mo_weightFor (kk : Nat) (a0 : Int32) (G : GS) : Res :=
  (D_Mo_isBetween kk a0 (0 : Int32) (4 : Int32) (si G (0, 50) 0 (0 : Int32))).bind (fun r => oI r (fun v4 G1 =>
  if v4 = 0 then
    (D_Mo_fails kk (1 : Int32) G1).bind (fun r => oI r (fun v8 G5 =>
    okI v8 G5) exc)
  else
    (L_Mo_weightFor kk kk).1 a0 (0 : Int32) (0 : Int32) G1) exc)
def D_Mo_limit (kk : Nat) (G : GS) : Res :=
  okI (ga (si G (0, 50) 0 (0 : Int32)) (0, 51) 3) (si G (0, 50) 0 (0 : Int32))
def D_Mo_listAngle (kk : Nat) (G : GS) : Res :=
  (D_Mo_momentNow kk (si G (0, 50) 0 (0 : Int32))).bind (fun r => oI r (fun v4 G1 =>
  if (FP.fmul (1110704128 : UInt32) (FP.i2f v4)) &&& 0x7fffffff ≤ 0x7f800000 then
  (D_Mo_weightAll kk G1).bind (fun r => oI r (fun v8 G5 =>
  if (FP.fdiv (FP.fmul (1110704128 : UInt32) (FP.i2f v4)) (FP.i2f (v8 + (40 : Int32)))) &&& 0x7fffffff ≤ 0x7f800000 then
  okF (FP.fdiv (FP.fmul (1110704128 : UInt32) (FP.i2f v4)) (FP.i2f (v8 + (40 : Int32)))) G5
  else none) exc)
  else none) exc)
def D_Mo_greatestPush (kk : Nat) (G : GS) : Res :=
  (D_Mo_momentNow kk (si G (0, 50) 0 (0 : Int32))).bind (fun r => oI r (fun v4 G1 =>
  okI ((ga (si G (0, 50) 0 (0 : Int32)) (0, 51) 3) - v4) G1) exc)
def D_Mo_magnitude (kk : Nat) (a0 : Int32) (G : GS) : Res :=
  if 0 ≤ a0 then
    okI a0 G
  else
    okI (-a0) G
def D_Mo_isBetter (kk : Nat) (a0 : Int32) (a1 : Int32) (a2 : Int32) (G : GS) : Res :=
  (D_Mo_momentNow kk G).bind (fun r => oI r (fun v4 G1 =>
  (D_Mo_lever kk a1 a2 G1).bind (fun r => oI r (fun v8 G5 =>
  (D_Mo_magnitude kk (v4 + v8) G5).bind (fun r => oI r (fun v12 G9 =>
  (D_Mo_momentNow kk G9).bind (fun r => oI r (fun v16 G13 =>
  (D_Mo_lever kk a0 a2 G13).bind (fun r => oI r (fun v20 G17 =>
  (D_Mo_magnitude kk (v16 + v20) G17).bind (fun r => oI r (fun v24 G21 =>
  if (v12 - v24) = 0 then
    bif inb ((9 : Int32) + a0) 156 then
    bif inb ((9 : Int32) + a1) 156 then
    if (ga G21 (0, 51) ((9 : Int32) + a1).toNatClampNeg) ≤ (ga G21 (0, 51) ((9 : Int32) + a0).toNatClampNeg) then
      okI (0 : Int32) G21
    else
      okI (1 : Int32) G21
    else none
    else none
  else
    if (v12 - v24) ≤ 0 then
      okI (0 : Int32) G21
    else
      okI (1 : Int32) G21) exc)) exc)) exc)) exc)) exc)) exc)
def L_Mo_levelingBay (kk : Nat) : Nat → Int32 → Int32 → Int32 → GS → Res
  | 0 => fun _ _ _ _ => none
  | k + 1 => fun x1 x2 x3 G =>
    if (7 : Int32) ≤ x3 then
      if 0 ≤ x2 then
        okI x2 G
      else
        (D_Mo_fails kk (2 : Int32) G).bind (fun r => oI r (fun v12 G9 =>
        okI v12 G9) exc)
    else
      bif inb ((9 : Int32) + x3) 156 then
      if (ga G (0, 51) ((9 : Int32) + x3).toNatClampNeg) = (5 : Int32) then
        (L_Mo_levelingBay kk k) x1 x2 (x3 + (1 : Int32)) G
      else
        (D_Mo_lever kk x3 x1 G).bind (fun r => oI r (fun v16 G13 =>
        (D_Mo_isBeyond kk v16 G13).bind (fun r => oI r (fun v20 G17 =>
        if v20 = 0 then
          if x2 < 0 then
            (L_Mo_levelingBay kk k) x1 x3 (x3 + (1 : Int32)) G17
          else
            (D_Mo_isBetter kk x3 x2 x1 G17).bind (fun r => oI r (fun v24 G21 =>
            if v24 = 0 then
              (L_Mo_levelingBay kk k) x1 x2 (x3 + (1 : Int32)) G21
            else
              (L_Mo_levelingBay kk k) x1 x3 (x3 + (1 : Int32)) G21) exc)
        else
          (L_Mo_levelingBay kk k) x1 x2 (x3 + (1 : Int32)) G17) exc)) exc)
      else none
def D_Mo_levelingBay (kk : Nat) (a0 : Int32) (G : GS) : Res :=
  (D_Mo_isBetween kk a0 (1 : Int32) (20 : Int32) (si G (0, 50) 0 (0 : Int32))).bind (fun r => oI r (fun v4 G1 =>
  if v4 = 0 then
    (D_Mo_fails kk (1 : Int32) G1).bind (fun r => oI r (fun v8 G5 =>
    okI v8 G5) exc)
  else
    (L_Mo_levelingBay kk kk) a0 (-1 : Int32) (0 : Int32) G1) exc)
def D_Mo_port (kk : Nat) (G : GS) : Res :=
  okI (ga (si G (0, 50) 0 (0 : Int32)) (0, 51) 1) (si G (0, 50) 0 (0 : Int32))
def D_Mo_day (kk : Nat) (G : GS) : Res :=
  okI (ga (si G (0, 50) 0 (0 : Int32)) (0, 51) 0) (si G (0, 50) 0 (0 : Int32))
def D_Mo_isAscending (kk : Nat) (G : GS) : Res :=
  if (ga (si G (0, 50) 0 (0 : Int32)) (0, 51) 2) = 0 then
    okI (1 : Int32) (si G (0, 50) 0 (0 : Int32))
  else
    okI (0 : Int32) (si G (0, 50) 0 (0 : Int32))
def L_Mo_legs (kk : Nat) : Nat → Int32 → Int32 → GS → Res
  | 0 => fun _ _ _ => none
  | k + 1 => fun x1 x2 G =>
    (D_Mo_portBehind kk x2 G).bind (fun r => oI r (fun v4 G1 =>
    if v4 = x1 then
      okI x2 G1
    else
      (L_Mo_legs kk k) x1 (x2 + (1 : Int32)) G1) exc)
def D_Mo_legs (kk : Nat) (a0 : Int32) (G : GS) : Res :=
  (L_Mo_legs kk kk) a0 (0 : Int32) G
def D_Mo_legsTo (kk : Nat) (a0 : Int32) (G : GS) : Res :=
  (D_Mo_isBetween kk a0 (0 : Int32) (4 : Int32) (si G (0, 50) 0 (0 : Int32))).bind (fun r => oI r (fun v4 G1 =>
  if v4 = 0 then
    (D_Mo_fails kk (1 : Int32) G1).bind (fun r => oI r (fun v8 G5 =>
    okI v8 G5) exc)
  else
    (D_Mo_legs kk a0 G1).bind (fun r => oI r (fun v12 G9 =>
    okI v12 G9) exc)) exc)
def D_Mo_portAfter (kk : Nat) (a0 : Int32) (G : GS) : Res :=
  (D_Mo_isBetween kk a0 (0 : Int32) (99 : Int32) (si G (0, 50) 0 (0 : Int32))).bind (fun r => oI r (fun v4 G1 =>
  if v4 = 0 then
    (D_Mo_fails kk (1 : Int32) G1).bind (fun r => oI r (fun v8 G5 =>
    okI v8 G5) exc)
  else
    (D_Mo_portBehind kk a0 G1).bind (fun r => oI r (fun v12 G9 =>
    okI v12 G9) exc)) exc)
def L_Mo_inTheWay (kk : Nat) : Nat → Int32 → Int32 → Int32 → Int32 → GS → Res
  | 0 => fun _ _ _ _ _ => none
  | k + 1 => fun x1 x3 x4 x5 G =>
    bif inb ((9 : Int32) + x1) 156 then
    if (ga G (0, 51) ((9 : Int32) + x1).toNatClampNeg) ≤ x5 then
      okI x4 G
    else
      (D_Mo_at kk x1 x5 (2 : Int32) G).bind (fun r => oI r (fun v12 G9 =>
      (D_Mo_legs kk v12 G9).bind (fun r => oI r (fun v16 G13 =>
      if v16 ≤ x3 then
        (L_Mo_inTheWay kk k) x1 x3 (x4 + (0 : Int32)) (x5 + (1 : Int32)) G13
      else
        (L_Mo_inTheWay kk k) x1 x3 (x4 + (1 : Int32)) (x5 + (1 : Int32)) G13) exc)) exc)
    else none
def D_Mo_inTheWay (kk : Nat) (a0 : Int32) (a1 : Int32) (G : GS) : Res :=
  (D_Mo_at kk a0 a1 (2 : Int32) G).bind (fun r => oI r (fun v4 G1 =>
  (D_Mo_legs kk v4 G1).bind (fun r => oI r (fun v8 G5 =>
  (L_Mo_inTheWay kk kk) a0 v8 (0 : Int32) (a1 + (1 : Int32)) G5) exc)) exc)
def D_Mo_pillowsInTheWay (kk : Nat) (a0 : Int32) (G : GS) : Res :=
  (D_Mo_placeOf kk a0 (si G (0, 50) 0 (0 : Int32))).bind (fun r => oI r (fun v4 G1 =>
  if 0 ≤ v4 then
    (D_Mo_inTheWay kk (v4 / (5 : Int32)) (v4 - v4 / (5 : Int32) * (5 : Int32)) G1).bind (fun r => oI r (fun v8 G5 =>
    okI v8 G5) exc)
  else
    (D_Mo_fails kk (1 : Int32) G1).bind (fun r => oI r (fun v12 G9 =>
    okI v12 G9) exc)) exc)
def L_Mo_pairsInTheWay (kk : Nat) : Nat → (Int32 → Int32 → GS → Res) × (Int32 → Int32 → Int32 → GS → Res)
  | 0 => (fun _ _ _ => none, fun _ _ _ _ => none)
  | k + 1 => (fun x1 x2 G =>
    if (7 : Int32) ≤ x2 then
      okI x1 G
    else
      (L_Mo_pairsInTheWay kk k).2 x1 x2 (0 : Int32) G,
    fun x1 x2 x3 G =>
    bif inb ((9 : Int32) + x2) 156 then
    if (ga G (0, 51) ((9 : Int32) + x2).toNatClampNeg) ≤ x3 then
      (L_Mo_pairsInTheWay kk k).1 x1 (x2 + (1 : Int32)) G
    else
      (D_Mo_inTheWay kk x2 x3 G).bind (fun r => oI r (fun v4 G1 =>
      (L_Mo_pairsInTheWay kk k).2 (x1 + v4) x2 (x3 + (1 : Int32)) G1) exc)
    else none)
def D_Mo_pairsInTheWay (kk : Nat) (G : GS) : Res :=
  (L_Mo_pairsInTheWay kk kk).1 (0 : Int32) (0 : Int32) (si G (0, 50) 0 (0 : Int32))
def D_Mo_pairsInTheWayByStacks (kk : Nat) (G : GS) : Res :=
  (D_Mo_pairsInTheWay kk G).bind (fun r => oI r (fun v4 G1 =>
  okI v4 G1) exc)
def D_Mo_isAhead (kk : Nat) (a0 : Int32) (a1 : Int32) (G : GS) : Res :=
  (D_Mo_at kk (a1 / (5 : Int32)) (a1 - a1 / (5 : Int32) * (5 : Int32)) (2 : Int32) G).bind (fun r => oI r (fun v4 G1 =>
  (D_Mo_legs kk v4 G1).bind (fun r => oI r (fun v8 G5 =>
  (D_Mo_at kk (a0 / (5 : Int32)) (a0 - a0 / (5 : Int32) * (5 : Int32)) (2 : Int32) G5).bind (fun r => oI r (fun v12 G9 =>
  (D_Mo_legs kk v12 G9).bind (fun r => oI r (fun v16 G13 =>
  (D_Mo_at kk (a1 / (5 : Int32)) (a1 - a1 / (5 : Int32) * (5 : Int32)) (3 : Int32) G13).bind (fun r => oI r (fun v20 G17 =>
  (D_Mo_at kk (a0 / (5 : Int32)) (a0 - a0 / (5 : Int32) * (5 : Int32)) (3 : Int32) G17).bind (fun r => oI r (fun v24 G21 =>
  if (v8 - v16) = 0 then
    if (v20 - v24) = 0 then
      (D_Mo_at kk (a0 / (5 : Int32)) (a0 - a0 / (5 : Int32) * (5 : Int32)) (0 : Int32) G21).bind (fun r => oI r (fun v28 G25 =>
      (D_Mo_at kk (a1 / (5 : Int32)) (a1 - a1 / (5 : Int32) * (5 : Int32)) (0 : Int32) G25).bind (fun r => oI r (fun v32 G29 =>
      if v32 ≤ v28 then
        okI (0 : Int32) G29
      else
        okI (1 : Int32) G29) exc)) exc)
    else
      if (v20 - v24) ≤ 0 then
        okI (0 : Int32) G21
      else
        okI (1 : Int32) G21
  else
    if (v8 - v16) ≤ 0 then
      okI (0 : Int32) G21
    else
      okI (1 : Int32) G21) exc)) exc)) exc)) exc)) exc)) exc)
def D_Mo_isTaken (kk : Nat) (a0 : Int32) (G : GS) : Res :=
  bif inb ((9 : Int32) + (a0 / (5 : Int32))) 156 then
  if (ga G (0, 51) ((9 : Int32) + (a0 / (5 : Int32))).toNatClampNeg) ≤ (a0 - a0 / (5 : Int32) * (5 : Int32)) then
    okI (0 : Int32) G
  else
    okI (1 : Int32) G
  else none
def L_Mo_unloadableCount (kk : Nat) : Nat → Int32 → Int32 → GS → Res
  | 0 => fun _ _ _ => none
  | k + 1 => fun x1 x2 G =>
    if (7 : Int32) ≤ x2 then
      okI x1 G
    else
      (D_Mo_notUnload kk x2 G).bind (fun r => oI r (fun v4 G1 =>
      if v4 = 0 then
        (L_Mo_unloadableCount kk k) (x1 + (1 : Int32)) (x2 + (1 : Int32)) G1
      else
        (L_Mo_unloadableCount kk k) (x1 + (0 : Int32)) (x2 + (1 : Int32)) G1) exc)
def D_Mo_unloadableCount (kk : Nat) (G : GS) : Res :=
  (L_Mo_unloadableCount kk kk) (0 : Int32) (0 : Int32) (si G (0, 50) 0 (0 : Int32))
def L_Mo_oldestIn (kk : Nat) : Nat → Int32 → Int32 → Int32 → GS → Res
  | 0 => fun _ _ _ _ => none
  | k + 1 => fun x1 x2 x3 G =>
    bif inb ((9 : Int32) + x1) 156 then
    if (ga G (0, 51) ((9 : Int32) + x1).toNatClampNeg) ≤ x3 then
      (D_Mo_at kk x1 x2 (0 : Int32) G).bind (fun r => oI r (fun v16 G13 =>
      okI v16 G13) exc)
    else
      (D_Mo_at kk x1 x2 (3 : Int32) G).bind (fun r => oI r (fun v20 G17 =>
      (D_Mo_at kk x1 x3 (3 : Int32) G17).bind (fun r => oI r (fun v24 G21 =>
      if 0 < (v20 - v24) then
        (L_Mo_oldestIn kk k) x1 x3 (x3 + (1 : Int32)) G21
      else
        if (v20 - v24) = 0 then
          (D_Mo_at kk x1 x3 (0 : Int32) G21).bind (fun r => oI r (fun v28 G25 =>
          (D_Mo_at kk x1 x2 (0 : Int32) G25).bind (fun r => oI r (fun v32 G29 =>
          if v32 ≤ v28 then
            (L_Mo_oldestIn kk k) x1 x2 (x3 + (1 : Int32)) G29
          else
            (L_Mo_oldestIn kk k) x1 x3 (x3 + (1 : Int32)) G29) exc)) exc)
        else
          (L_Mo_oldestIn kk k) x1 x2 (x3 + (1 : Int32)) G21) exc)) exc)
    else none
def D_Mo_oldestIn (kk : Nat) (a0 : Int32) (G : GS) : Res :=
  (D_Mo_isBay kk a0 (si G (0, 50) 0 (0 : Int32))).bind (fun r => oI r (fun v4 G1 =>
  if v4 = 0 then
    (D_Mo_fails kk (1 : Int32) G1).bind (fun r => oI r (fun v12 G9 =>
    okI v12 G9) exc)
  else
    bif inb ((9 : Int32) + a0) 156 then
    if (ga G1 (0, 51) ((9 : Int32) + a0).toNatClampNeg) = 0 then
      (D_Mo_fails kk (2 : Int32) G1).bind (fun r => oI r (fun v8 G5 =>
      okI v8 G5) exc)
    else
      (L_Mo_oldestIn kk kk) a0 (0 : Int32) (1 : Int32) G1
    else none) exc)
def L_Mo_heaviestPort (kk : Nat) : Nat → Int32 → Int32 → GS → Res
  | 0 => fun _ _ _ => none
  | k + 1 => fun x1 x2 G =>
    if (5 : Int32) ≤ x2 then
      okI x1 (si G (0, 50) 0 (0 : Int32))
    else
      (D_Mo_portBehind kk x2 G).bind (fun r => oI r (fun v12 G9 =>
      (D_Mo_weightFor kk v12 G9).bind (fun r => oI r (fun v16 G13 =>
      (D_Mo_weightFor kk x1 G13).bind (fun r => oI r (fun v20 G17 =>
      if v16 ≤ v20 then
        (L_Mo_heaviestPort kk k) x1 (x2 + (1 : Int32)) G17
      else
        (L_Mo_heaviestPort kk k) v12 (x2 + (1 : Int32)) G17) exc)) exc)) exc)
def D_Mo_heaviestPort (kk : Nat) (G : GS) : Res :=
  (D_Mo_countAll kk G).bind (fun r => oI r (fun v4 G1 =>
  if v4 = 0 then
    (D_Mo_fails kk (1 : Int32) G1).bind (fun r => oI r (fun v8 G5 =>
    okI v8 G5) exc)
  else
    (L_Mo_heaviestPort kk kk) (ga G1 (0, 51) 1) (1 : Int32) G1) exc)
def L_Mo_possibleShifts (kk : Nat) : Nat → (Int32 → Int32 → GS → Res) × (Int32 → Int32 → Int32 → GS → Res)
  | 0 => (fun _ _ _ => none, fun _ _ _ _ => none)
  | k + 1 => (fun x1 x2 G =>
    if (7 : Int32) ≤ x2 then
      okI x1 G
    else
      (L_Mo_possibleShifts kk k).2 x1 x2 (0 : Int32) G,
    fun x1 x2 x3 G =>
    if (7 : Int32) ≤ x3 then
      (L_Mo_possibleShifts kk k).1 x1 (x2 + (1 : Int32)) G
    else
      (D_Mo_notShift kk x2 x3 G).bind (fun r => oI r (fun v4 G1 =>
      if v4 = 0 then
        (L_Mo_possibleShifts kk k).2 (x1 + (1 : Int32)) x2 (x3 + (1 : Int32)) G1
      else
        (L_Mo_possibleShifts kk k).2 (x1 + (0 : Int32)) x2 (x3 + (1 : Int32)) G1) exc))
def D_Mo_possibleShifts (kk : Nat) (G : GS) : Res :=
  (L_Mo_possibleShifts kk kk).1 (0 : Int32) (0 : Int32) (si G (0, 50) 0 (0 : Int32))
def L_Mo_pillowByTurn (kk : Nat) : Nat → (Int32 → Int32 → GS → Res) × (Int32 → Int32 → Int32 → Int32 → GS → Res)
  | 0 => (fun _ _ _ => none, fun _ _ _ _ _ => none)
  | k + 1 => (fun x1 x2 G =>
    if (35 : Int32) ≤ x2 then
      (D_Mo_fails kk (1 : Int32) G).bind (fun r => oI r (fun v4 G1 =>
      okI v4 G1) exc)
    else
      (D_Mo_isTaken kk x2 G).bind (fun r => oI r (fun v8 G5 =>
      if v8 = 0 then
        (L_Mo_pillowByTurn kk k).1 x1 (x2 + (1 : Int32)) G5
      else
        (L_Mo_pillowByTurn kk k).2 x1 x2 (0 : Int32) (0 : Int32) G5) exc),
    fun x1 x2 x3 x4 G =>
    if (35 : Int32) ≤ x4 then
      if x3 = x1 then
        (D_Mo_at kk (x2 / (5 : Int32)) (x2 - x2 / (5 : Int32) * (5 : Int32)) (0 : Int32) G).bind (fun r => oI r (fun v12 G9 =>
        okI v12 G9) exc)
      else
        (L_Mo_pillowByTurn kk k).1 x1 (x2 + (1 : Int32)) G
    else
      (D_Mo_isTaken kk x4 G).bind (fun r => oI r (fun v16 G13 =>
      if v16 = 0 then
        (L_Mo_pillowByTurn kk k).2 x1 x2 (x3 + (0 : Int32)) (x4 + (1 : Int32)) G13
      else
        (D_Mo_isAhead kk x4 x2 G13).bind (fun r => oI r (fun v20 G17 =>
        if v20 = 0 then
          (L_Mo_pillowByTurn kk k).2 x1 x2 (x3 + (0 : Int32)) (x4 + (1 : Int32)) G17
        else
          (L_Mo_pillowByTurn kk k).2 x1 x2 (x3 + (1 : Int32)) (x4 + (1 : Int32)) G17) exc)) exc))
def D_Mo_pillowByTurn (kk : Nat) (a0 : Int32) (G : GS) : Res :=
  (L_Mo_pillowByTurn kk kk).1 a0 (0 : Int32) (si G (0, 50) 0 (0 : Int32))
def L_Mo_bayByWeight (kk : Nat) : Nat → (Int32 → Int32 → GS → Res) × (Int32 → Int32 → Int32 → Int32 → GS → Res)
  | 0 => (fun _ _ _ => none, fun _ _ _ _ _ => none)
  | k + 1 => (fun x1 x2 G =>
    if (7 : Int32) ≤ x2 then
      (D_Mo_fails kk (1 : Int32) G).bind (fun r => oI r (fun v4 G1 =>
      okI v4 G1) exc)
    else
      (L_Mo_bayByWeight kk k).2 x1 x2 (0 : Int32) (0 : Int32) G,
    fun x1 x2 x3 x4 G =>
    if (7 : Int32) ≤ x4 then
      if x3 = x1 then
        okI x2 G
      else
        (L_Mo_bayByWeight kk k).1 x1 (x2 + (1 : Int32)) G
    else
      (D_Mo_weightOfBay kk x4 G).bind (fun r => oI r (fun v8 G5 =>
      (D_Mo_weightOfBay kk x2 G5).bind (fun r => oI r (fun v12 G9 =>
      if 0 < (v8 - v12) then
        (L_Mo_bayByWeight kk k).2 x1 x2 (x3 + (1 : Int32)) (x4 + (1 : Int32)) G9
      else
        if (v8 - v12) = 0 then
          if x2 ≤ x4 then
            (L_Mo_bayByWeight kk k).2 x1 x2 (x3 + (0 : Int32)) (x4 + (1 : Int32)) G9
          else
            (L_Mo_bayByWeight kk k).2 x1 x2 (x3 + (1 : Int32)) (x4 + (1 : Int32)) G9
        else
          (L_Mo_bayByWeight kk k).2 x1 x2 (x3 + (0 : Int32)) (x4 + (1 : Int32)) G9) exc)) exc))
def D_Mo_bayByWeight (kk : Nat) (a0 : Int32) (G : GS) : Res :=
  (L_Mo_bayByWeight kk kk).1 a0 (0 : Int32) (si G (0, 50) 0 (0 : Int32))
def D_Mo_loadedTotal (kk : Nat) (G : GS) : Res :=
  okI (ga (si G (0, 50) 0 (0 : Int32)) (0, 51) 4) (si G (0, 50) 0 (0 : Int32))
def D_Mo_deliveredTotal (kk : Nat) (G : GS) : Res :=
  okI (ga (si G (0, 50) 0 (0 : Int32)) (0, 51) 5) (si G (0, 50) 0 (0 : Int32))
def D_Mo_deliveredWeight (kk : Nat) (G : GS) : Res :=
  okI (ga (si G (0, 50) 0 (0 : Int32)) (0, 51) 6) (si G (0, 50) 0 (0 : Int32))
def D_Mo_drillTotal (kk : Nat) (G : GS) : Res :=
  okI (ga (si G (0, 50) 0 (0 : Int32)) (0, 51) 7) (si G (0, 50) 0 (0 : Int32))
def D_Mo_capsizedTotal (kk : Nat) (G : GS) : Res :=
  okI (ga (si G (0, 50) 0 (0 : Int32)) (0, 51) 8) (si G (0, 50) 0 (0 : Int32))
def L_Mo_meanAge (kk : Nat) : Nat → Int32 → Int32 → GS → Res
  | 0 => fun _ _ _ => none
  | k + 1 => fun x1 x2 G =>
    if (35 : Int32) ≤ x2 then
      (D_Mo_countAll kk G).bind (fun r => oI r (fun v12 G9 =>
      if (FP.ddiv (FP.i2d x1) (FP.i2d v12)) &&& 0x7fffffffffffffff ≤ 0x7ff0000000000000 then
      okD (FP.ddiv (FP.i2d x1) (FP.i2d v12)) G9
      else none) exc)
    else
      (D_Mo_isTaken kk x2 G).bind (fun r => oI r (fun v16 G13 =>
      if v16 = 0 then
        (L_Mo_meanAge kk k) x1 (x2 + (1 : Int32)) G13
      else
        (D_Mo_at kk (x2 / (5 : Int32)) (x2 - x2 / (5 : Int32) * (5 : Int32)) (3 : Int32) G13).bind (fun r => oI r (fun v20 G17 =>
        (L_Mo_meanAge kk k) (x1 + ((ga G13 (0, 51) 0) - v20)) (x2 + (1 : Int32)) G17) exc)) exc)
def D_Mo_meanAge (kk : Nat) (G : GS) : Res :=
  (D_Mo_countAll kk (si G (0, 50) 0 (0 : Int32))).bind (fun r => oI r (fun v4 G1 =>
  if v4 = 0 then
    (D_Mo_fails kk (1 : Int32) G1).bind (fun r => oI r (fun v8 G5 =>
    okD (FP.i2d v8) G5) exc)
  else
    (L_Mo_meanAge kk kk) (0 : Int32) (0 : Int32) G1) exc)
def D_Mo_capsizedShare (kk : Nat) (G : GS) : Res :=
  if (ga (si G (0, 50) 0 (0 : Int32)) (0, 51) 7) = 0 then
    (D_Mo_fails kk (1 : Int32) (si G (0, 50) 0 (0 : Int32))).bind (fun r => oI r (fun v4 G1 =>
    okF (FP.i2f v4) G1) exc)
  else
    if (FP.fdiv (FP.i2f (ga (si G (0, 50) 0 (0 : Int32)) (0, 51) 8)) (FP.i2f (ga (si G (0, 50) 0 (0 : Int32)) (0, 51) 7))) &&& 0x7fffffff ≤ 0x7f800000 then
    okF (FP.fdiv (FP.i2f (ga (si G (0, 50) 0 (0 : Int32)) (0, 51) 8)) (FP.i2f (ga (si G (0, 50) 0 (0 : Int32)) (0, 51) 7))) (si G (0, 50) 0 (0 : Int32))
    else none
def D_Mo_isConsistent (kk : Nat) (G : GS) : Res :=
  (D_Mo_isBeyond kk (0 : Int32) (si G (0, 50) 0 (0 : Int32))).bind (fun r => oI r (fun v4 G1 =>
  if v4 = 0 then
    (D_Mo_countAll kk G1).bind (fun r => oI r (fun v8 G5 =>
    if (ga G1 (0, 51) 4) = ((ga G1 (0, 51) 5) + v8) then
      okI (1 : Int32) G5
    else
      okI (0 : Int32) G5) exc)
  else
    okI (0 : Int32) G1) exc)
def D_Mo_writes (kk : Nat) (a0 : Int32) (G : GS) : Res :=
  bif inb (gi G (0, 50) 9) 100 then
  okV (si (sa G (0, 55) (gi G (0, 50) 9).toNatClampNeg (vp_nar .char ((a0.toUInt32 % 65536).toInt32))) (0, 50) 9 ((gi (sa G (0, 55) (gi G (0, 50) 9).toNatClampNeg (vp_nar .char ((a0.toUInt32 % 65536).toInt32))) (0, 50) 9) + (1 : Int32)))
  else none
def L_Mo_writesNumber (kk : Nat) : Nat → (Int32 → Int32 → GS → Res) × (Int32 → Int32 → GS → Res)
  | 0 => (fun _ _ _ => none, fun _ _ _ => none)
  | k + 1 => (fun x2 x3 G =>
    if x3 = 0 then none else
    if (x2 / x3) ≤ (9 : Int32) then
      (L_Mo_writesNumber kk k).2 x2 x3 G
    else
      (L_Mo_writesNumber kk k).1 x2 (x3 * (10 : Int32)) G,
    fun x2 x4 G =>
    if x4 ≤ 0 then
      okV G
    else
      if x4 = 0 then none else
      (D_Mo_writes kk ((48 : Int32) + ((x2 / x4) - (x2 / x4) / (10 : Int32) * (10 : Int32))) G).bind (fun r => oV r (fun G12 =>
      (L_Mo_writesNumber kk k).2 x2 (x4 / (10 : Int32)) G12) exc))
def D_Mo_writesNumber (kk : Nat) (a0 : Int32) (G : GS) : Res :=
  if 0 ≤ a0 then
    (D_Mo_magnitude kk a0 G).bind (fun r => oI r (fun v4 G1 =>
    (L_Mo_writesNumber kk kk).1 v4 (1 : Int32) G1) exc)
  else
    (D_Mo_writes kk (45 : Int32) G).bind (fun r => oV r (fun G5 =>
    (D_Mo_magnitude kk a0 G5).bind (fun r => oI r (fun v11 G8 =>
    (L_Mo_writesNumber kk kk).1 v11 (1 : Int32) G8) exc)) exc)
def L_Mo_renderStack (kk : Nat) : Nat → (Int32 → Int32 → GS → Res) × (Int32 → Int32 → GS → Res)
  | 0 => (fun _ _ _ => none, fun _ _ _ => none)
  | k + 1 => (fun x1 x2 G =>
    bif inb ((9 : Int32) + x1) 156 then
    if (ga G (0, 51) ((9 : Int32) + x1).toNatClampNeg) ≤ x2 then
      okI (gi G (0, 50) 9) G
    else
      if x2 ≤ 0 then
        (L_Mo_renderStack kk k).2 x1 x2 G
      else
        (D_Mo_writes kk (32 : Int32) G).bind (fun r => oV r (fun G9 =>
        (L_Mo_renderStack kk k).2 x1 x2 G9) exc)
    else none,
    fun x1 x2 G =>
    (D_Mo_at kk x1 x2 (0 : Int32) G).bind (fun r => oI r (fun v15 G12 =>
    (D_Mo_writesNumber kk v15 G12).bind (fun r => oV r (fun G16 =>
    (D_Mo_writes kk (119 : Int32) G16).bind (fun r => oV r (fun G19 =>
    (D_Mo_at kk x1 x2 (1 : Int32) G19).bind (fun r => oI r (fun v25 G22 =>
    (D_Mo_writesNumber kk v25 G22).bind (fun r => oV r (fun G26 =>
    (D_Mo_writes kk (112 : Int32) G26).bind (fun r => oV r (fun G29 =>
    (D_Mo_at kk x1 x2 (2 : Int32) G29).bind (fun r => oI r (fun v35 G32 =>
    (D_Mo_writesNumber kk v35 G32).bind (fun r => oV r (fun G36 =>
    (L_Mo_renderStack kk k).1 x1 (x2 + (1 : Int32)) G36) exc)) exc)) exc)) exc)) exc)) exc)) exc)) exc))
def D_Mo_renderStack (kk : Nat) (a0 : Int32) (G : GS) : Res :=
  (D_Mo_isBay kk a0 (si G (0, 50) 0 (0 : Int32))).bind (fun r => oI r (fun v4 G1 =>
  if v4 = 0 then
    (D_Mo_fails kk (1 : Int32) G1).bind (fun r => oI r (fun v8 G5 =>
    okI v8 G5) exc)
  else
    (L_Mo_renderStack kk kk).1 a0 (0 : Int32) (si G1 (0, 50) 9 (0 : Int32))) exc)
def L_Mo_renderBarge (kk : Nat) : Nat → Int32 → GS → Res
  | 0 => fun _ _ => none
  | k + 1 => fun x1 G =>
    if (7 : Int32) ≤ x1 then
      (D_Mo_writes kk (61 : Int32) G).bind (fun r => oV r (fun G1 =>
      (D_Mo_momentNow kk G1).bind (fun r => oI r (fun v7 G4 =>
      (D_Mo_writesNumber kk v7 G4).bind (fun r => oV r (fun G8 =>
      okI (gi G8 (0, 50) 9) G8) exc)) exc)) exc)
    else
      if x1 ≤ 0 then
        (D_Mo_weightOfBay kk x1 G).bind (fun r => oI r (fun v14 G11 =>
        (D_Mo_writesNumber kk v14 G11).bind (fun r => oV r (fun G15 =>
        (L_Mo_renderBarge kk k) (x1 + (1 : Int32)) G15) exc)) exc)
      else
        (D_Mo_writes kk (32 : Int32) G).bind (fun r => oV r (fun G18 =>
        (D_Mo_weightOfBay kk x1 G18).bind (fun r => oI r (fun v24 G21 =>
        (D_Mo_writesNumber kk v24 G21).bind (fun r => oV r (fun G25 =>
        (L_Mo_renderBarge kk k) (x1 + (1 : Int32)) G25) exc)) exc)) exc)
def D_Mo_renderBarge (kk : Nat) (G : GS) : Res :=
  (L_Mo_renderBarge kk kk) (0 : Int32) (si (si G (0, 50) 0 (0 : Int32)) (0, 50) 9 (0 : Int32))
def D_Mo_outputAt (kk : Nat) (a0 : Int32) (G : GS) : Res :=
  (D_Mo_isBetween kk a0 (0 : Int32) ((gi (si G (0, 50) 0 (0 : Int32)) (0, 50) 9) - (1 : Int32)) (si G (0, 50) 0 (0 : Int32))).bind (fun r => oI r (fun v4 G1 =>
  if v4 = 0 then
    (D_Mo_fails kk (1 : Int32) G1).bind (fun r => oI r (fun v8 G5 =>
    if 0 ≤ (v8.toUInt32 % 65536).toInt32 ∧ (v8.toUInt32 % 65536).toInt32 ≤ 65535 then okI ((v8.toUInt32 % 65536).toInt32) G5 else none) exc)
  else
    bif inb a0 100 then
    if 0 ≤ (ga G1 (0, 55) a0.toNatClampNeg) ∧ (ga G1 (0, 55) a0.toNatClampNeg) ≤ 65535 then okI (ga G1 (0, 55) a0.toNatClampNeg) G1 else none
    else none) exc)
def D_Mo_type (kk : Nat) (a0 : Int32) (G : GS) : Res :=
  (D_Mo_isBetween kk a0 (32 : Int32) (126 : Int32) (si G (0, 50) 0 (0 : Int32))).bind (fun r => oI r (fun v4 G1 =>
  if v4 = 0 then
    (D_Mo_fails kk (1 : Int32) G1).bind (fun r => oI r (fun v12 G9 =>
    okI v12 G9) exc)
  else
    if (gi G1 (0, 50) 11) = (60 : Int32) then
      (D_Mo_fails kk (2 : Int32) G1).bind (fun r => oI r (fun v8 G5 =>
      okI v8 G5) exc)
    else
      bif inb (gi G1 (0, 50) 11) 60 then
      okI (gi (si (sa G1 (0, 56) (gi G1 (0, 50) 11).toNatClampNeg (vp_nar .char a0)) (0, 50) 11 ((gi (sa G1 (0, 56) (gi G1 (0, 50) 11).toNatClampNeg (vp_nar .char a0)) (0, 50) 11) + (1 : Int32))) (0, 50) 11) (si (sa G1 (0, 56) (gi G1 (0, 50) 11).toNatClampNeg (vp_nar .char a0)) (0, 50) 11 ((gi (sa G1 (0, 56) (gi G1 (0, 50) 11).toNatClampNeg (vp_nar .char a0)) (0, 50) 11) + (1 : Int32)))
      else none) exc)
def D_Mo_nextChar (kk : Nat) (G : GS) : Res :=
  if (gi G (0, 50) 11) ≤ (gi G (0, 50) 12) then
    okI (-1 : Int32) G
  else
    bif inb (gi G (0, 50) 12) 60 then
    okI (ga G (0, 56) (gi G (0, 50) 12).toNatClampNeg) G
    else none
def D_Mo_reads (kk : Nat) (a0 : Int32) (G : GS) : Res :=
  (D_Mo_nextChar kk G).bind (fun r => oI r (fun v4 G1 =>
  if v4 = a0 then
    okI (1 : Int32) (si G1 (0, 50) 12 ((gi G1 (0, 50) 12) + (1 : Int32)))
  else
    okI (0 : Int32) G1) exc)
def D_Mo_readsDigit (kk : Nat) (a0 : Int32) (G : GS) : Res :=
  (D_Mo_nextChar kk G).bind (fun r => oI r (fun v4 G1 =>
  (D_Mo_isBetween kk v4 (48 : Int32) (57 : Int32) G1).bind (fun r => oI r (fun v8 G5 =>
  if v8 = 0 then
    okI (0 : Int32) G5
  else
    (D_Mo_nextChar kk G5).bind (fun r => oI r (fun v12 G9 =>
    bif inb a0 3 then
    okI (1 : Int32) (si (sa G9 (0, 57) a0.toNatClampNeg (v12 - (48 : Int32))) (0, 50) 12 ((gi (sa G9 (0, 57) a0.toNatClampNeg (v12 - (48 : Int32))) (0, 50) 12) + (1 : Int32)))
    else none) exc)) exc)) exc)
def D_Mo_readsNumber (kk : Nat) (a0 : Int32) (G : GS) : Res :=
  (D_Mo_readsDigit kk a0 G).bind (fun r => oI r (fun v4 G1 =>
  if v4 = 0 then
    okI (0 : Int32) G1
  else
    (D_Mo_nextChar kk G1).bind (fun r => oI r (fun v8 G5 =>
    (D_Mo_isBetween kk v8 (48 : Int32) (57 : Int32) G5).bind (fun r => oI r (fun v12 G9 =>
    if v12 = 0 then
      okI (1 : Int32) G9
    else
      bif inb a0 3 then
      (D_Mo_nextChar kk G9).bind (fun r => oI r (fun v16 G13 =>
      bif inb a0 3 then
      okI (1 : Int32) (si (sa G13 (0, 57) a0.toNatClampNeg ((((10 : Int32) * (ga G9 (0, 57) a0.toNatClampNeg)) + v16) - (48 : Int32))) (0, 50) 12 ((gi (sa G13 (0, 57) a0.toNatClampNeg ((((10 : Int32) * (ga G9 (0, 57) a0.toNatClampNeg)) + v16) - (48 : Int32))) (0, 50) 12) + (1 : Int32)))
      else none) exc)
      else none) exc)) exc)) exc)
def D_Mo_readsL (kk : Nat) (G : GS) : Res :=
  (D_Mo_reads kk (111 : Int32) G).bind (fun r => oI r (fun v4 G1 =>
  if v4 = 0 then
    (D_Mo_reads kk (105 : Int32) (si G1 (0, 50) 16 (109 : Int32))).bind (fun r => oI r (fun v8 G5 =>
    if v8 = 0 then
      okI (0 : Int32) G5
    else
      (D_Mo_reads kk (109 : Int32) G5).bind (fun r => oI r (fun v12 G9 =>
      if v12 = 0 then
        okI (0 : Int32) G9
      else
        (D_Mo_reads kk (105 : Int32) G9).bind (fun r => oI r (fun v16 G13 =>
        if v16 = 0 then
          okI (0 : Int32) G13
        else
          (D_Mo_reads kk (116 : Int32) G13).bind (fun r => oI r (fun v20 G17 =>
          if v20 = 0 then
            okI (0 : Int32) G17
          else
            (D_Mo_reads kk (32 : Int32) G17).bind (fun r => oI r (fun v24 G21 =>
            if v24 = 0 then
              okI (0 : Int32) G21
            else
              (D_Mo_readsNumber kk (0 : Int32) G21).bind (fun r => oI r (fun v28 G25 =>
              if v28 = 0 then
                okI (0 : Int32) G25
              else
                okI (1 : Int32) G25) exc)) exc)) exc)) exc)) exc)) exc)
  else
    (D_Mo_reads kk (97 : Int32) G1).bind (fun r => oI r (fun v32 G29 =>
    if v32 = 0 then
      okI (0 : Int32) G29
    else
      (D_Mo_reads kk (100 : Int32) G29).bind (fun r => oI r (fun v36 G33 =>
      if v36 = 0 then
        okI (0 : Int32) G33
      else
        (D_Mo_reads kk (32 : Int32) G33).bind (fun r => oI r (fun v40 G37 =>
        if v40 = 0 then
          okI (0 : Int32) G37
        else
          (D_Mo_readsDigit kk (0 : Int32) G37).bind (fun r => oI r (fun v44 G41 =>
          if v44 = 0 then
            okI (0 : Int32) G41
          else
            (D_Mo_reads kk (32 : Int32) G41).bind (fun r => oI r (fun v48 G45 =>
            if v48 = 0 then
              okI (0 : Int32) G45
            else
              (D_Mo_readsNumber kk (1 : Int32) G45).bind (fun r => oI r (fun v52 G49 =>
              if v52 = 0 then
                okI (0 : Int32) G49
              else
                (D_Mo_reads kk (32 : Int32) G49).bind (fun r => oI r (fun v56 G53 =>
                if v56 = 0 then
                  okI (0 : Int32) G53
                else
                  (D_Mo_readsDigit kk (2 : Int32) G53).bind (fun r => oI r (fun v60 G57 =>
                  if v60 = 0 then
                    okI (0 : Int32) G57
                  else
                    okI (1 : Int32) G57) exc)) exc)) exc)) exc)) exc)) exc)) exc)) exc)) exc)
def D_Mo_readsS (kk : Nat) (G : GS) : Res :=
  (D_Mo_reads kk (104 : Int32) G).bind (fun r => oI r (fun v4 G1 =>
  if v4 = 0 then
    (D_Mo_reads kk (97 : Int32) (si G1 (0, 50) 16 (97 : Int32))).bind (fun r => oI r (fun v8 G5 =>
    if v8 = 0 then
      okI (0 : Int32) G5
    else
      (D_Mo_reads kk (105 : Int32) G5).bind (fun r => oI r (fun v12 G9 =>
      if v12 = 0 then
        okI (0 : Int32) G9
      else
        (D_Mo_reads kk (108 : Int32) G9).bind (fun r => oI r (fun v16 G13 =>
        if v16 = 0 then
          okI (0 : Int32) G13
        else
          (D_Mo_reads kk (32 : Int32) (sa G13 (0, 57) 0 (1 : Int32))).bind (fun r => oI r (fun v20 G17 =>
          if v20 = 0 then
            okI (1 : Int32) G17
          else
            (D_Mo_readsNumber kk (0 : Int32) G17).bind (fun r => oI r (fun v24 G21 =>
            if v24 = 0 then
              okI (0 : Int32) G21
            else
              okI (1 : Int32) G21) exc)) exc)) exc)) exc)) exc)
  else
    (D_Mo_reads kk (105 : Int32) G1).bind (fun r => oI r (fun v28 G25 =>
    if v28 = 0 then
      okI (0 : Int32) G25
    else
      (D_Mo_reads kk (102 : Int32) G25).bind (fun r => oI r (fun v32 G29 =>
      if v32 = 0 then
        okI (0 : Int32) G29
      else
        (D_Mo_reads kk (116 : Int32) G29).bind (fun r => oI r (fun v36 G33 =>
        if v36 = 0 then
          okI (0 : Int32) G33
        else
          (D_Mo_reads kk (32 : Int32) G33).bind (fun r => oI r (fun v40 G37 =>
          if v40 = 0 then
            okI (0 : Int32) G37
          else
            (D_Mo_readsDigit kk (0 : Int32) G37).bind (fun r => oI r (fun v44 G41 =>
            if v44 = 0 then
              okI (0 : Int32) G41
            else
              (D_Mo_reads kk (32 : Int32) G41).bind (fun r => oI r (fun v48 G45 =>
              if v48 = 0 then
                okI (0 : Int32) G45
              else
                (D_Mo_readsDigit kk (1 : Int32) G45).bind (fun r => oI r (fun v52 G49 =>
                if v52 = 0 then
                  okI (0 : Int32) G49
                else
                  okI (1 : Int32) G49) exc)) exc)) exc)) exc)) exc)) exc)) exc)) exc)
def D_Mo_readsDrill (kk : Nat) (G : GS) : Res :=
  (D_Mo_reads kk (114 : Int32) G).bind (fun r => oI r (fun v4 G1 =>
  if v4 = 0 then
    okI (0 : Int32) G1
  else
    (D_Mo_reads kk (105 : Int32) G1).bind (fun r => oI r (fun v8 G5 =>
    if v8 = 0 then
      okI (0 : Int32) G5
    else
      (D_Mo_reads kk (108 : Int32) G5).bind (fun r => oI r (fun v12 G9 =>
      if v12 = 0 then
        okI (0 : Int32) G9
      else
        (D_Mo_reads kk (108 : Int32) G9).bind (fun r => oI r (fun v16 G13 =>
        if v16 = 0 then
          okI (0 : Int32) G13
        else
          (D_Mo_reads kk (32 : Int32) G13).bind (fun r => oI r (fun v20 G17 =>
          if v20 = 0 then
            okI (0 : Int32) G17
          else
            (D_Mo_reads kk (45 : Int32) G17).bind (fun r => oI r (fun v24 G21 =>
            (D_Mo_readsNumber kk (0 : Int32) G21).bind (fun r => oI r (fun v28 G25 =>
            if v28 = 0 then
              okI (0 : Int32) G25
            else
              if v24 = 0 then
                okI (1 : Int32) G25
              else
                okI (1 : Int32) (sa G25 (0, 57) 0 (-(ga G25 (0, 57) 0)))) exc)) exc)) exc)) exc)) exc)) exc)) exc)
def D_Mo_readsCommand (kk : Nat) (G : GS) : Res :=
  (D_Mo_nextChar kk G).bind (fun r => oI r (fun v4 G1 =>
  (D_Mo_reads kk (108 : Int32) (si G1 (0, 50) 16 v4)).bind (fun r => oI r (fun v8 G5 =>
  if v8 = 0 then
    (D_Mo_reads kk (117 : Int32) G5).bind (fun r => oI r (fun v12 G9 =>
    if v12 = 0 then
      (D_Mo_reads kk (115 : Int32) G9).bind (fun r => oI r (fun v16 G13 =>
      if v16 = 0 then
        (D_Mo_reads kk (100 : Int32) G13).bind (fun r => oI r (fun v20 G17 =>
        if v20 = 0 then
          (D_Mo_reads kk (116 : Int32) G17).bind (fun r => oI r (fun v24 G21 =>
          if v24 = 0 then
            okI (0 : Int32) G21
          else
            (D_Mo_reads kk (117 : Int32) G21).bind (fun r => oI r (fun v28 G25 =>
            if v28 = 0 then
              okI (0 : Int32) G25
            else
              (D_Mo_reads kk (114 : Int32) G25).bind (fun r => oI r (fun v32 G29 =>
              if v32 = 0 then
                okI (0 : Int32) G29
              else
                (D_Mo_reads kk (110 : Int32) G29).bind (fun r => oI r (fun v36 G33 =>
                if v36 = 0 then
                  okI (0 : Int32) G33
                else
                  okI (1 : Int32) G33) exc)) exc)) exc)) exc)
        else
          (D_Mo_readsDrill kk G17).bind (fun r => oI r (fun v40 G37 =>
          if v40 = 0 ∨ v40 = 1 then okI v40 G37 else none) exc)) exc)
      else
        (D_Mo_readsS kk G13).bind (fun r => oI r (fun v44 G41 =>
        if v44 = 0 ∨ v44 = 1 then okI v44 G41 else none) exc)) exc)
    else
      (D_Mo_reads kk (110 : Int32) G9).bind (fun r => oI r (fun v48 G45 =>
      if v48 = 0 then
        okI (0 : Int32) G45
      else
        (D_Mo_reads kk (108 : Int32) G45).bind (fun r => oI r (fun v52 G49 =>
        if v52 = 0 then
          okI (0 : Int32) G49
        else
          (D_Mo_reads kk (111 : Int32) G49).bind (fun r => oI r (fun v56 G53 =>
          if v56 = 0 then
            okI (0 : Int32) G53
          else
            (D_Mo_reads kk (97 : Int32) G53).bind (fun r => oI r (fun v60 G57 =>
            if v60 = 0 then
              okI (0 : Int32) G57
            else
              (D_Mo_reads kk (100 : Int32) G57).bind (fun r => oI r (fun v64 G61 =>
              if v64 = 0 then
                okI (0 : Int32) G61
              else
                (D_Mo_reads kk (32 : Int32) G61).bind (fun r => oI r (fun v68 G65 =>
                if v68 = 0 then
                  okI (0 : Int32) G65
                else
                  (D_Mo_readsDigit kk (0 : Int32) G65).bind (fun r => oI r (fun v72 G69 =>
                  if v72 = 0 then
                    okI (0 : Int32) G69
                  else
                    okI (1 : Int32) G69) exc)) exc)) exc)) exc)) exc)) exc)) exc)) exc)
  else
    (D_Mo_readsL kk G5).bind (fun r => oI r (fun v76 G73 =>
    if v76 = 0 ∨ v76 = 1 then okI v76 G73 else none) exc)) exc)) exc)
def L_Mo_readsAll (kk : Nat) : Nat → Int32 → GS → Res
  | 0 => fun _ _ => none
  | k + 1 => fun x1 G =>
    if x1 = 0 then
      if (gi G (0, 50) 12) = (gi G (0, 50) 11) then
        okI (1 : Int32) G
      else
        okI (0 : Int32) G
    else
      (D_Mo_readsCommand kk G).bind (fun r => oI r (fun v4 G1 =>
      if v4 = 0 then
        okI (0 : Int32) G1
      else
        (D_Mo_reads kk (59 : Int32) G1).bind (fun r => oI r (fun v8 G5 =>
        (L_Mo_readsAll kk k) v8 G5) exc)) exc)
def D_Mo_readsAll (kk : Nat) (G : GS) : Res :=
  (L_Mo_readsAll kk kk) (1 : Int32) (si G (0, 50) 12 (0 : Int32))
def D_Mo_notNow (kk : Nat) (G : GS) : Res :=
  if (gi G (0, 50) 16) = (97 : Int32) then
    (D_Mo_notSail kk (ga G (0, 57) 0) G).bind (fun r => oI r (fun v4 G1 =>
    okI v4 G1) exc)
  else if (gi G (0, 50) 16) = (100 : Int32) then
    (D_Mo_notDrill kk (ga G (0, 57) 0) G).bind (fun r => oI r (fun v8 G5 =>
    okI v8 G5) exc)
  else if (gi G (0, 50) 16) = (108 : Int32) then
    (D_Mo_notLoad kk (ga G (0, 57) 0) (ga G (0, 57) 1) (ga G (0, 57) 2) G).bind (fun r => oI r (fun v12 G9 =>
    okI v12 G9) exc)
  else if (gi G (0, 50) 16) = (109 : Int32) then
    (D_Mo_notLimit kk (ga G (0, 57) 0) G).bind (fun r => oI r (fun v16 G13 =>
    okI v16 G13) exc)
  else if (gi G (0, 50) 16) = (115 : Int32) then
    (D_Mo_notShift kk (ga G (0, 57) 0) (ga G (0, 57) 1) G).bind (fun r => oI r (fun v20 G17 =>
    okI v20 G17) exc)
  else if (gi G (0, 50) 16) = (117 : Int32) then
    (D_Mo_notUnload kk (ga G (0, 57) 0) G).bind (fun r => oI r (fun v24 G21 =>
    okI v24 G21) exc)
  else 
    okI (0 : Int32) G
def D_Mo_doesNow (kk : Nat) (G : GS) : Res :=
  if (gi G (0, 50) 16) = (97 : Int32) then
    (D_Mo_sails kk (ga G (0, 57) 0) G).bind (fun r => oI r (fun v4 G1 =>
    okI v4 G1) exc)
  else if (gi G (0, 50) 16) = (100 : Int32) then
    (D_Mo_drills kk (ga G (0, 57) 0) G).bind (fun r => oI r (fun v8 G5 =>
    okI v8 G5) exc)
  else if (gi G (0, 50) 16) = (108 : Int32) then
    (D_Mo_loads kk (ga G (0, 57) 0) (ga G (0, 57) 1) (ga G (0, 57) 2) G).bind (fun r => oI r (fun v12 G9 =>
    okI v12 G9) exc)
  else if (gi G (0, 50) 16) = (109 : Int32) then
    (D_Mo_setsLimit kk (ga G (0, 57) 0) G).bind (fun r => oI r (fun v16 G13 =>
    okI v16 G13) exc)
  else if (gi G (0, 50) 16) = (115 : Int32) then
    (D_Mo_shifts kk (ga G (0, 57) 0) (ga G (0, 57) 1) G).bind (fun r => oI r (fun v20 G17 =>
    okI v20 G17) exc)
  else if (gi G (0, 50) 16) = (117 : Int32) then
    (D_Mo_unloads kk (ga G (0, 57) 0) G).bind (fun r => oI r (fun v24 G21 =>
    okI v24 G21) exc)
  else 
    (D_Mo_turns kk G).bind (fun r => oI r (fun v28 G25 =>
    okI v28 G25) exc)
def L_Mo_doesAll (kk : Nat) : Nat → Int32 → GS → Res
  | 0 => fun _ _ => none
  | k + 1 => fun x1 G =>
    if x1 = 0 then
      okI (1 : Int32) G
    else
      (D_Mo_readsCommand kk G).bind (fun r => oI r (fun v4 G1 =>
      (D_Mo_notNow kk G1).bind (fun r => oI r (fun v8 G5 =>
      if v8 = 0 then
        (D_Mo_doesNow kk G5).bind (fun r => oI r (fun v12 G9 =>
        (D_Mo_reads kk (59 : Int32) (si G9 (0, 50) 17 ((gi G9 (0, 50) 17) + (1 : Int32)))).bind (fun r => oI r (fun v16 G13 =>
        (L_Mo_doesAll kk k) v16 G13) exc)) exc)
      else
        okI (0 : Int32) G5) exc)) exc)
def D_Mo_doesAll (kk : Nat) (G : GS) : Res :=
  (L_Mo_doesAll kk kk) (1 : Int32) (si (si G (0, 50) 17 (0 : Int32)) (0, 50) 12 (0 : Int32))
def D_Mo_runScript (kk : Nat) (G : GS) : Res :=
  (D_Mo_readsAll kk (si G (0, 50) 0 (0 : Int32))).bind (fun r => oI r (fun v4 G1 =>
  if v4 = 0 then
    (D_Mo_fails kk (1 : Int32) (si (si G1 (0, 50) 13 (gi G1 (0, 50) 12)) (0, 50) 11 (0 : Int32))).bind (fun r => oI r (fun v25 G22 =>
    okI v25 G22) exc)
  else
    (D_Mo_copies kk G1).bind (fun r => oV r (fun G5 =>
    (D_Mo_doesAll kk G5).bind (fun r => oI r (fun v11 G8 =>
    if v11 = 0 then
      (D_Mo_goesBack kk (si G8 (0, 50) 11 (0 : Int32))).bind (fun r => oV r (fun G12 =>
      (D_Mo_fails kk (2 : Int32) (si G12 (0, 50) 14 (gi G12 (0, 50) 17))).bind (fun r => oI r (fun v18 G15 =>
      okI v18 G15) exc)) exc)
    else
      (D_Mo_keeps kk (si G8 (0, 50) 11 (0 : Int32))).bind (fun r => oV r (fun G19 =>
      okI (gi G19 (0, 50) 17) G19) exc)) exc)) exc)) exc)
def D_Mo_errorPosition (kk : Nat) (G : GS) : Res :=
  if 0 ≤ (gi (si G (0, 50) 0 (0 : Int32)) (0, 50) 13) then
    okI (gi (si G (0, 50) 0 (0 : Int32)) (0, 50) 13) (si G (0, 50) 0 (0 : Int32))
  else
    (D_Mo_fails kk (1 : Int32) (si G (0, 50) 0 (0 : Int32))).bind (fun r => oI r (fun v4 G1 =>
    okI v4 G1) exc)
def D_Mo_failedCommand (kk : Nat) (G : GS) : Res :=
  if 0 ≤ (gi (si G (0, 50) 0 (0 : Int32)) (0, 50) 14) then
    okI (gi (si G (0, 50) 0 (0 : Int32)) (0, 50) 14) (si G (0, 50) 0 (0 : Int32))
  else
    (D_Mo_fails kk (1 : Int32) (si G (0, 50) 0 (0 : Int32))).bind (fun r => oI r (fun v4 G1 =>
    okI v4 G1) exc)
def L_Mo_undo (kk : Nat) : Nat → Int32 → Int32 → GS → Res
  | 0 => fun _ _ _ => none
  | k + 1 => fun x1 x2 G =>
    if (156 : Int32) ≤ x2 then
      okI (gi G (0, 50) 5) G
    else
      bif inb (((156 : Int32) * x1) + x2) 1248 then
      bif inb x2 156 then
      (L_Mo_undo kk k) x1 (x2 + (1 : Int32)) (sa G (0, 51) x2.toNatClampNeg (ga G (0, 52) (((156 : Int32) * x1) + x2).toNatClampNeg))
      else none
      else none
def D_Mo_undo (kk : Nat) (G : GS) : Res :=
  if (gi (si G (0, 50) 0 (0 : Int32)) (0, 50) 5) = 0 then
    (D_Mo_fails kk (1 : Int32) (si G (0, 50) 0 (0 : Int32))).bind (fun r => oI r (fun v4 G1 =>
    okI v4 G1) exc)
  else
    (L_Mo_undo kk kk) (((gi (si (si G (0, 50) 0 (0 : Int32)) (0, 50) 5 ((gi (si G (0, 50) 0 (0 : Int32)) (0, 50) 5) - (1 : Int32))) (0, 50) 6) + (gi (si (si G (0, 50) 0 (0 : Int32)) (0, 50) 5 ((gi (si G (0, 50) 0 (0 : Int32)) (0, 50) 5) - (1 : Int32))) (0, 50) 5)) - ((gi (si (si G (0, 50) 0 (0 : Int32)) (0, 50) 5 ((gi (si G (0, 50) 0 (0 : Int32)) (0, 50) 5) - (1 : Int32))) (0, 50) 6) + (gi (si (si G (0, 50) 0 (0 : Int32)) (0, 50) 5 ((gi (si G (0, 50) 0 (0 : Int32)) (0, 50) 5) - (1 : Int32))) (0, 50) 5)) / (8 : Int32) * (8 : Int32)) (0 : Int32) (si (si G (0, 50) 0 (0 : Int32)) (0, 50) 5 ((gi (si G (0, 50) 0 (0 : Int32)) (0, 50) 5) - (1 : Int32)))
def L_Mo_save (kk : Nat) : Nat → Int32 → GS → Res
  | 0 => fun _ _ => none
  | k + 1 => fun x1 G =>
    if (156 : Int32) ≤ x1 then
      (D_Mo_countAll kk (si G (0, 50) 7 (1 : Int32))).bind (fun r => oI r (fun v4 G1 =>
      okI v4 G1) exc)
    else
      bif inb x1 156 then
      bif inb x1 156 then
      (L_Mo_save kk k) (x1 + (1 : Int32)) (sa G (0, 53) x1.toNatClampNeg (ga G (0, 51) x1.toNatClampNeg))
      else none
      else none
def D_Mo_save (kk : Nat) (G : GS) : Res :=
  (L_Mo_save kk kk) (0 : Int32) (si G (0, 50) 0 (0 : Int32))
def L_Mo_restore (kk : Nat) : Nat → Int32 → GS → Res
  | 0 => fun _ _ => none
  | k + 1 => fun x1 G =>
    if (156 : Int32) ≤ x1 then
      (D_Mo_countAll kk (si (si G (0, 50) 5 (0 : Int32)) (0, 50) 6 (0 : Int32))).bind (fun r => oI r (fun v8 G5 =>
      okI v8 G5) exc)
    else
      bif inb x1 156 then
      bif inb x1 156 then
      (L_Mo_restore kk k) (x1 + (1 : Int32)) (sa G (0, 51) x1.toNatClampNeg (ga G (0, 53) x1.toNatClampNeg))
      else none
      else none
def D_Mo_restore (kk : Nat) (G : GS) : Res :=
  if (gi (si G (0, 50) 0 (0 : Int32)) (0, 50) 7) = 0 then
    (D_Mo_fails kk (1 : Int32) (si G (0, 50) 0 (0 : Int32))).bind (fun r => oI r (fun v4 G1 =>
    okI v4 G1) exc)
  else
    (L_Mo_restore kk kk) (0 : Int32) (si G (0, 50) 0 (0 : Int32))
