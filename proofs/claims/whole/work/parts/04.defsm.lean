/-! Every method as a function (printed by gen/emit.py from the class files). -/
def D_Mo_thrown (G : GS) : Res :=
  okI (gi G (0, 50) 0) G
def D_Mo_fails (a0 : Int32) (G : GS) : Res :=
  okI (0 : Int32) (si G (0, 50) 0 a0)
def D_Mo_isBetween (a0 : Int32) (a1 : Int32) (a2 : Int32) (G : GS) : Res :=
  if a0 < a1 then
    okI (0 : Int32) G
  else
    if a2 < a0 then
      okI (0 : Int32) G
    else
      okI (1 : Int32) G
def L_Mo_copies : Nat → Int32 → GS → Res
  | 0 => fun _ _ => none
  | k + 1 => fun x1 G =>
    if (156 : Int32) ≤ x1 then
      okV G
    else
      bif inb x1 156 then
      bif inb x1 156 then
      (L_Mo_copies k) (x1 + (1 : Int32)) (sa G (0, 54) x1.toNatClampNeg (ga G (0, 51) x1.toNatClampNeg))
      else none
      else none
def D_Mo_copies (G : GS) : Res :=
  (L_Mo_copies 2000) (0 : Int32) G
def L_Mo_goesBack : Nat → Int32 → GS → Res
  | 0 => fun _ _ => none
  | k + 1 => fun x1 G =>
    if (156 : Int32) ≤ x1 then
      okV G
    else
      bif inb x1 156 then
      bif inb x1 156 then
      (L_Mo_goesBack k) (x1 + (1 : Int32)) (sa G (0, 51) x1.toNatClampNeg (ga G (0, 54) x1.toNatClampNeg))
      else none
      else none
def D_Mo_goesBack (G : GS) : Res :=
  (L_Mo_goesBack 2000) (0 : Int32) G
def L_Mo_keeps : Nat → Int32 → Int32 → GS → Res
  | 0 => fun _ _ _ => none
  | k + 1 => fun x1 x2 G =>
    if (156 : Int32) ≤ x2 then
      okV (si G (0, 50) 5 ((gi G (0, 50) 5) + (1 : Int32)))
    else
      bif inb x2 156 then
      bif inb (((156 : Int32) * x1) + x2) 1248 then
      (L_Mo_keeps k) x1 (x2 + (1 : Int32)) (sa G (0, 52) (((156 : Int32) * x1) + x2).toNatClampNeg (ga G (0, 54) x2.toNatClampNeg))
      else none
      else none
def D_Mo_keeps (G : GS) : Res :=
  if (gi G (0, 50) 5) = (8 : Int32) then
    (L_Mo_keeps 2000) (((gi (si (si G (0, 50) 6 (((gi G (0, 50) 6) + (1 : Int32)) - ((gi G (0, 50) 6) + (1 : Int32)) / (8 : Int32) * (8 : Int32))) (0, 50) 5 ((gi (si G (0, 50) 6 (((gi G (0, 50) 6) + (1 : Int32)) - ((gi G (0, 50) 6) + (1 : Int32)) / (8 : Int32) * (8 : Int32))) (0, 50) 5) - (1 : Int32))) (0, 50) 6) + (gi (si (si G (0, 50) 6 (((gi G (0, 50) 6) + (1 : Int32)) - ((gi G (0, 50) 6) + (1 : Int32)) / (8 : Int32) * (8 : Int32))) (0, 50) 5 ((gi (si G (0, 50) 6 (((gi G (0, 50) 6) + (1 : Int32)) - ((gi G (0, 50) 6) + (1 : Int32)) / (8 : Int32) * (8 : Int32))) (0, 50) 5) - (1 : Int32))) (0, 50) 5)) - ((gi (si (si G (0, 50) 6 (((gi G (0, 50) 6) + (1 : Int32)) - ((gi G (0, 50) 6) + (1 : Int32)) / (8 : Int32) * (8 : Int32))) (0, 50) 5 ((gi (si G (0, 50) 6 (((gi G (0, 50) 6) + (1 : Int32)) - ((gi G (0, 50) 6) + (1 : Int32)) / (8 : Int32) * (8 : Int32))) (0, 50) 5) - (1 : Int32))) (0, 50) 6) + (gi (si (si G (0, 50) 6 (((gi G (0, 50) 6) + (1 : Int32)) - ((gi G (0, 50) 6) + (1 : Int32)) / (8 : Int32) * (8 : Int32))) (0, 50) 5 ((gi (si G (0, 50) 6 (((gi G (0, 50) 6) + (1 : Int32)) - ((gi G (0, 50) 6) + (1 : Int32)) / (8 : Int32) * (8 : Int32))) (0, 50) 5) - (1 : Int32))) (0, 50) 5)) / (8 : Int32) * (8 : Int32)) (0 : Int32) (si (si G (0, 50) 6 (((gi G (0, 50) 6) + (1 : Int32)) - ((gi G (0, 50) 6) + (1 : Int32)) / (8 : Int32) * (8 : Int32))) (0, 50) 5 ((gi (si G (0, 50) 6 (((gi G (0, 50) 6) + (1 : Int32)) - ((gi G (0, 50) 6) + (1 : Int32)) / (8 : Int32) * (8 : Int32))) (0, 50) 5) - (1 : Int32)))
  else
    (L_Mo_keeps 2000) (((gi G (0, 50) 6) + (gi G (0, 50) 5)) - ((gi G (0, 50) 6) + (gi G (0, 50) 5)) / (8 : Int32) * (8 : Int32)) (0 : Int32) G
def D_Mo_remembers (G : GS) : Res :=
  (D_Mo_copies G).bind (fun r => oV r (fun G1 =>
  (D_Mo_keeps G1).bind (fun r => oV r (fun G4 =>
  okV G4) exc)) exc)
def D_Mo_isBay (a0 : Int32) (G : GS) : Res :=
  (D_Mo_isBetween a0 (0 : Int32) (6 : Int32) G).bind (fun r => oI r (fun v4 G1 =>
  okI v4 G1) exc)
def D_Mo_at (a0 : Int32) (a1 : Int32) (a2 : Int32) (G : GS) : Res :=
  bif inb ((((16 : Int32) + ((20 : Int32) * a0)) + ((4 : Int32) * a1)) + a2) 156 then
  okI (ga G (0, 51) ((((16 : Int32) + ((20 : Int32) * a0)) + ((4 : Int32) * a1)) + a2).toNatClampNeg) G
  else none
def D_Mo_puts (a0 : Int32) (a1 : Int32) (a2 : Int32) (a3 : Int32) (G : GS) : Res :=
  bif inb ((((16 : Int32) + ((20 : Int32) * a0)) + ((4 : Int32) * a1)) + a2) 156 then
  okV (sa G (0, 51) ((((16 : Int32) + ((20 : Int32) * a0)) + ((4 : Int32) * a1)) + a2).toNatClampNeg a3)
  else none
def D_Mo_top (a0 : Int32) (a1 : Int32) (G : GS) : Res :=
  bif inb ((9 : Int32) + a0) 156 then
  (D_Mo_at a0 ((ga G (0, 51) ((9 : Int32) + a0).toNatClampNeg) - (1 : Int32)) a1 G).bind (fun r => oI r (fun v4 G1 =>
  okI v4 G1) exc)
  else none
def L_Mo_weightOfBay : Nat → Int32 → Int32 → Int32 → GS → Res
  | 0 => fun _ _ _ _ => none
  | k + 1 => fun x1 x2 x3 G =>
    bif inb ((9 : Int32) + x1) 156 then
    if (ga G (0, 51) ((9 : Int32) + x1).toNatClampNeg) ≤ x3 then
      okI x2 G
    else
      (D_Mo_at x1 x3 (1 : Int32) G).bind (fun r => oI r (fun v4 G1 =>
      (L_Mo_weightOfBay k) x1 (x2 + v4) (x3 + (1 : Int32)) G1) exc)
    else none
def D_Mo_weightOfBay (a0 : Int32) (G : GS) : Res :=
  (L_Mo_weightOfBay 2000) a0 (0 : Int32) (0 : Int32) G
def L_Mo_momentNow : Nat → Int32 → Int32 → GS → Res
  | 0 => fun _ _ _ => none
  | k + 1 => fun x1 x2 G =>
    if (7 : Int32) ≤ x2 then
      okI x1 G
    else
      (D_Mo_weightOfBay x2 G).bind (fun r => oI r (fun v4 G1 =>
      (L_Mo_momentNow k) (x1 + ((x2 - (3 : Int32)) * v4)) (x2 + (1 : Int32)) G1) exc)
def D_Mo_momentNow (G : GS) : Res :=
  (L_Mo_momentNow 2000) (0 : Int32) (0 : Int32) G
def L_Mo_weightAll : Nat → Int32 → Int32 → GS → Res
  | 0 => fun _ _ _ => none
  | k + 1 => fun x1 x2 G =>
    if (7 : Int32) ≤ x2 then
      okI x1 G
    else
      (D_Mo_weightOfBay x2 G).bind (fun r => oI r (fun v4 G1 =>
      (L_Mo_weightAll k) (x1 + v4) (x2 + (1 : Int32)) G1) exc)
def D_Mo_weightAll (G : GS) : Res :=
  (L_Mo_weightAll 2000) (0 : Int32) (0 : Int32) G
def L_Mo_countAll : Nat → Int32 → Int32 → GS → Res
  | 0 => fun _ _ _ => none
  | k + 1 => fun x1 x2 G =>
    if (7 : Int32) ≤ x2 then
      okI x1 G
    else
      bif inb ((9 : Int32) + x2) 156 then
      (L_Mo_countAll k) (x1 + (ga G (0, 51) ((9 : Int32) + x2).toNatClampNeg)) (x2 + (1 : Int32)) G
      else none
def D_Mo_countAll (G : GS) : Res :=
  (L_Mo_countAll 2000) (0 : Int32) (0 : Int32) G
def D_Mo_isBeyond (a0 : Int32) (G : GS) : Res :=
  (D_Mo_momentNow G).bind (fun r => oI r (fun v4 G1 =>
  if (ga G1 (0, 51) 3) < (v4 + a0) then
    okI (1 : Int32) G1
  else
    if (-(v4 + a0)) ≤ (ga G1 (0, 51) 3) then
      okI (0 : Int32) G1
    else
      okI (1 : Int32) G1) exc)
def D_Mo_lever (a0 : Int32) (a1 : Int32) (G : GS) : Res :=
  okI ((a0 - (3 : Int32)) * a1) G
def D_Mo_lays (a0 : Int32) (a1 : Int32) (a2 : Int32) (a3 : Int32) (a4 : Int32) (G : GS) : Res :=
  bif inb ((9 : Int32) + a0) 156 then
  (D_Mo_puts a0 (ga G (0, 51) ((9 : Int32) + a0).toNatClampNeg) (0 : Int32) a1 G).bind (fun r => oV r (fun G1 =>
  (D_Mo_puts a0 (ga G (0, 51) ((9 : Int32) + a0).toNatClampNeg) (1 : Int32) a2 G1).bind (fun r => oV r (fun G4 =>
  (D_Mo_puts a0 (ga G (0, 51) ((9 : Int32) + a0).toNatClampNeg) (2 : Int32) a3 G4).bind (fun r => oV r (fun G7 =>
  (D_Mo_puts a0 (ga G (0, 51) ((9 : Int32) + a0).toNatClampNeg) (3 : Int32) a4 G7).bind (fun r => oV r (fun G10 =>
  bif inb ((9 : Int32) + a0) 156 then
  bif inb ((9 : Int32) + a0) 156 then
  okV (sa G10 (0, 51) ((9 : Int32) + a0).toNatClampNeg ((ga G10 (0, 51) ((9 : Int32) + a0).toNatClampNeg) + (1 : Int32)))
  else none
  else none) exc)) exc)) exc)) exc)
  else none
def L_Mo_takes : Nat → Int32 → Int32 → GS → Res
  | 0 => fun _ _ _ => none
  | k + 1 => fun x1 x2 G =>
    if (4 : Int32) ≤ x2 then
      okV G
    else
      bif inb ((9 : Int32) + x1) 156 then
      (D_Mo_puts x1 (ga G (0, 51) ((9 : Int32) + x1).toNatClampNeg) x2 (0 : Int32) G).bind (fun r => oV r (fun G1 =>
      (L_Mo_takes k) x1 (x2 + (1 : Int32)) G1) exc)
      else none
def D_Mo_takes (a0 : Int32) (G : GS) : Res :=
  bif inb ((9 : Int32) + a0) 156 then
  bif inb ((9 : Int32) + a0) 156 then
  (L_Mo_takes 2000) a0 (0 : Int32) (sa G (0, 51) ((9 : Int32) + a0).toNatClampNeg ((ga G (0, 51) ((9 : Int32) + a0).toNatClampNeg) - (1 : Int32)))
  else none
  else none
def D_Mo_notLoad (a0 : Int32) (a1 : Int32) (a2 : Int32) (G : GS) : Res :=
  (D_Mo_isBay a0 G).bind (fun r => oI r (fun v4 G1 =>
  if v4 = 0 then
    okI (1 : Int32) G1
  else
    (D_Mo_isBetween a1 (1 : Int32) (20 : Int32) G1).bind (fun r => oI r (fun v8 G5 =>
    if v8 = 0 then
      okI (2 : Int32) G5
    else
      (D_Mo_isBetween a2 (0 : Int32) (4 : Int32) G5).bind (fun r => oI r (fun v12 G9 =>
      if v12 = 0 then
        okI (2 : Int32) G9
      else
        bif inb ((9 : Int32) + a0) 156 then
        if (ga G9 (0, 51) ((9 : Int32) + a0).toNatClampNeg) = (5 : Int32) then
          okI (3 : Int32) G9
        else
          (D_Mo_lever a0 a1 G9).bind (fun r => oI r (fun v16 G13 =>
          (D_Mo_isBeyond v16 G13).bind (fun r => oI r (fun v20 G17 =>
          if v20 = 0 then
            okI (0 : Int32) G17
          else
            okI (4 : Int32) G17) exc)) exc)
        else none) exc)) exc)) exc)
def D_Mo_loads (a0 : Int32) (a1 : Int32) (a2 : Int32) (G : GS) : Res :=
  (D_Mo_lays a0 (ga G (0, 51) 4) a1 a2 (ga G (0, 51) 0) G).bind (fun r => oV r (fun G1 =>
  okI ((ga (sa G1 (0, 51) 4 ((ga G1 (0, 51) 4) + (1 : Int32))) (0, 51) 4) - (1 : Int32)) (sa G1 (0, 51) 4 ((ga G1 (0, 51) 4) + (1 : Int32)))) exc)
def D_Mo_load (a0 : Int32) (a1 : Int32) (a2 : Int32) (G : GS) : Res :=
  (D_Mo_notLoad a0 a1 a2 (si G (0, 50) 0 (0 : Int32))).bind (fun r => oI r (fun v4 G1 =>
  if v4 = 0 then
    (D_Mo_remembers G1).bind (fun r => oV r (fun G5 =>
    (D_Mo_loads a0 a1 a2 G5).bind (fun r => oI r (fun v11 G8 =>
    okI v11 G8) exc)) exc)
  else
    (D_Mo_fails v4 G1).bind (fun r => oI r (fun v15 G12 =>
    okI v15 G12) exc)) exc)
def D_Mo_notUnload (a0 : Int32) (G : GS) : Res :=
  (D_Mo_isBay a0 G).bind (fun r => oI r (fun v4 G1 =>
  if v4 = 0 then
    okI (1 : Int32) G1
  else
    bif inb ((9 : Int32) + a0) 156 then
    if (ga G1 (0, 51) ((9 : Int32) + a0).toNatClampNeg) = 0 then
      okI (2 : Int32) G1
    else
      (D_Mo_top a0 (2 : Int32) G1).bind (fun r => oI r (fun v8 G5 =>
      if v8 = (ga G5 (0, 51) 1) then
        (D_Mo_top a0 (1 : Int32) G5).bind (fun r => oI r (fun v12 G9 =>
        (D_Mo_lever a0 v12 G9).bind (fun r => oI r (fun v16 G13 =>
        (D_Mo_isBeyond (-v16) G13).bind (fun r => oI r (fun v20 G17 =>
        if v20 = 0 then
          okI (0 : Int32) G17
        else
          okI (4 : Int32) G17) exc)) exc)) exc)
      else
        okI (3 : Int32) G5) exc)
    else none) exc)
def D_Mo_unloads (a0 : Int32) (G : GS) : Res :=
  (D_Mo_top a0 (0 : Int32) G).bind (fun r => oI r (fun v4 G1 =>
  (D_Mo_top a0 (1 : Int32) (sa G1 (0, 51) 5 ((ga G1 (0, 51) 5) + (1 : Int32)))).bind (fun r => oI r (fun v8 G5 =>
  (D_Mo_takes a0 (sa G5 (0, 51) 6 ((ga (sa G1 (0, 51) 5 ((ga G1 (0, 51) 5) + (1 : Int32))) (0, 51) 6) + v8))).bind (fun r => oV r (fun G9 =>
  okI v4 G9) exc)) exc)) exc)
def D_Mo_unload (a0 : Int32) (G : GS) : Res :=
  (D_Mo_notUnload a0 (si G (0, 50) 0 (0 : Int32))).bind (fun r => oI r (fun v4 G1 =>
  if v4 = 0 then
    (D_Mo_remembers G1).bind (fun r => oV r (fun G5 =>
    (D_Mo_unloads a0 G5).bind (fun r => oI r (fun v11 G8 =>
    okI v11 G8) exc)) exc)
  else
    (D_Mo_fails v4 G1).bind (fun r => oI r (fun v15 G12 =>
    okI v15 G12) exc)) exc)
def D_Mo_notShift (a0 : Int32) (a1 : Int32) (G : GS) : Res :=
  (D_Mo_isBay a0 G).bind (fun r => oI r (fun v4 G1 =>
  if v4 = 0 then
    okI (1 : Int32) G1
  else
    (D_Mo_isBay a1 G1).bind (fun r => oI r (fun v8 G5 =>
    if v8 = 0 then
      okI (1 : Int32) G5
    else
      if a0 = a1 then
        okI (2 : Int32) G5
      else
        bif inb ((9 : Int32) + a0) 156 then
        if (ga G5 (0, 51) ((9 : Int32) + a0).toNatClampNeg) = 0 then
          okI (3 : Int32) G5
        else
          bif inb ((9 : Int32) + a1) 156 then
          if (ga G5 (0, 51) ((9 : Int32) + a1).toNatClampNeg) = (5 : Int32) then
            okI (4 : Int32) G5
          else
            (D_Mo_top a0 (1 : Int32) G5).bind (fun r => oI r (fun v12 G9 =>
            (D_Mo_lever a1 v12 G9).bind (fun r => oI r (fun v16 G13 =>
            (D_Mo_lever a0 v12 G13).bind (fun r => oI r (fun v20 G17 =>
            (D_Mo_isBeyond (v16 - v20) G17).bind (fun r => oI r (fun v24 G21 =>
            if v24 = 0 then
              okI (0 : Int32) G21
            else
              okI (5 : Int32) G21) exc)) exc)) exc)) exc)
          else none
        else none) exc)) exc)
def D_Mo_shifts (a0 : Int32) (a1 : Int32) (G : GS) : Res :=
  (D_Mo_top a0 (0 : Int32) G).bind (fun r => oI r (fun v4 G1 =>
  (D_Mo_top a0 (1 : Int32) G1).bind (fun r => oI r (fun v8 G5 =>
  (D_Mo_top a0 (2 : Int32) G5).bind (fun r => oI r (fun v12 G9 =>
  (D_Mo_top a0 (3 : Int32) G9).bind (fun r => oI r (fun v16 G13 =>
  (D_Mo_lays a1 v4 v8 v12 v16 G13).bind (fun r => oV r (fun G17 =>
  (D_Mo_takes a0 G17).bind (fun r => oV r (fun G20 =>
  okI v4 G20) exc)) exc)) exc)) exc)) exc)) exc)
def D_Mo_shift (a0 : Int32) (a1 : Int32) (G : GS) : Res :=
  (D_Mo_notShift a0 a1 (si G (0, 50) 0 (0 : Int32))).bind (fun r => oI r (fun v4 G1 =>
  if v4 = 0 then
    (D_Mo_remembers G1).bind (fun r => oV r (fun G5 =>
    (D_Mo_shifts a0 a1 G5).bind (fun r => oI r (fun v11 G8 =>
    okI v11 G8) exc)) exc)
  else
    (D_Mo_fails v4 G1).bind (fun r => oI r (fun v15 G12 =>
    okI v15 G12) exc)) exc)
def D_Mo_portBehind (a0 : Int32) (G : GS) : Res :=
  if (ga G (0, 51) 2) = (1 : Int32) then
    okI (((ga G (0, 51) 1) + ((4 : Int32) * a0)) - ((ga G (0, 51) 1) + ((4 : Int32) * a0)) / (5 : Int32) * (5 : Int32)) G
  else
    okI (((ga G (0, 51) 1) + ((1 : Int32) * a0)) - ((ga G (0, 51) 1) + ((1 : Int32) * a0)) / (5 : Int32) * (5 : Int32)) G
def D_Mo_notSail (a0 : Int32) (G : GS) : Res :=
  (D_Mo_isBetween a0 (1 : Int32) (20 : Int32) G).bind (fun r => oI r (fun v4 G1 =>
  if v4 = 0 then
    okI (1 : Int32) G1
  else
    okI (0 : Int32) G1) exc)
def D_Mo_sails (a0 : Int32) (G : GS) : Res :=
  (D_Mo_portBehind a0 G).bind (fun r => oI r (fun v4 G1 =>
  okI (ga (sa (sa G1 (0, 51) 1 v4) (0, 51) 0 ((ga (sa G1 (0, 51) 1 v4) (0, 51) 0) + a0)) (0, 51) 1) (sa (sa G1 (0, 51) 1 v4) (0, 51) 0 ((ga (sa G1 (0, 51) 1 v4) (0, 51) 0) + a0))) exc)
def D_Mo_sail (a0 : Int32) (G : GS) : Res :=
  (D_Mo_notSail a0 (si G (0, 50) 0 (0 : Int32))).bind (fun r => oI r (fun v4 G1 =>
  if v4 = 0 then
    (D_Mo_remembers G1).bind (fun r => oV r (fun G5 =>
    (D_Mo_sails a0 G5).bind (fun r => oI r (fun v11 G8 =>
    okI v11 G8) exc)) exc)
  else
    (D_Mo_fails (1 : Int32) G1).bind (fun r => oI r (fun v15 G12 =>
    okI v15 G12) exc)) exc)
def D_Mo_turns (G : GS) : Res :=
  okI (ga (sa G (0, 51) 2 ((1 : Int32) - (ga G (0, 51) 2))) (0, 51) 2) (sa G (0, 51) 2 ((1 : Int32) - (ga G (0, 51) 2)))
def D_Mo_turn (G : GS) : Res :=
  (D_Mo_remembers (si G (0, 50) 0 (0 : Int32))).bind (fun r => oV r (fun G1 =>
  (D_Mo_turns G1).bind (fun r => oI r (fun v7 G4 =>
  if v7 = 0 then
    okI (1 : Int32) G4
  else
    okI (0 : Int32) G4) exc)) exc)
def D_Mo_notLimit (a0 : Int32) (G : GS) : Res :=
  (D_Mo_isBetween a0 (10 : Int32) (99 : Int32) G).bind (fun r => oI r (fun v4 G1 =>
  if v4 = 0 then
    okI (1 : Int32) G1
  else
    (D_Mo_momentNow G1).bind (fun r => oI r (fun v8 G5 =>
    if a0 < v8 then
      okI (2 : Int32) G5
    else
      if (-v8) ≤ a0 then
        okI (0 : Int32) G5
      else
        okI (2 : Int32) G5) exc)) exc)
def D_Mo_setsLimit (a0 : Int32) (G : GS) : Res :=
  okI (ga G (0, 51) 3) (sa G (0, 51) 3 a0)
def D_Mo_setLimit (a0 : Int32) (G : GS) : Res :=
  (D_Mo_notLimit a0 (si G (0, 50) 0 (0 : Int32))).bind (fun r => oI r (fun v4 G1 =>
  if v4 = 0 then
    (D_Mo_remembers G1).bind (fun r => oV r (fun G5 =>
    (D_Mo_setsLimit a0 G5).bind (fun r => oI r (fun v11 G8 =>
    okI v11 G8) exc)) exc)
  else
    (D_Mo_fails v4 G1).bind (fun r => oI r (fun v15 G12 =>
    okI v15 G12) exc)) exc)
def D_Mo_notDrill (a0 : Int32) (G : GS) : Res :=
  (D_Mo_isBetween a0 (-99 : Int32) (99 : Int32) G).bind (fun r => oI r (fun v4 G1 =>
  if v4 = 0 then
    okI (1 : Int32) G1
  else
    okI (0 : Int32) G1) exc)
def D_Mo_drills (a0 : Int32) (G : GS) : Res :=
  (D_Mo_isBeyond a0 (sa G (0, 51) 7 ((ga G (0, 51) 7) + (1 : Int32)))).bind (fun r => oI r (fun v4 G1 =>
  if v4 = 0 then
    okI (0 : Int32) (sa G1 (0, 51) 8 ((ga G1 (0, 51) 8) + (0 : Int32)))
  else
    okI (1 : Int32) (sa G1 (0, 51) 8 ((ga G1 (0, 51) 8) + (1 : Int32)))) exc)
def D_Mo_drill (a0 : Int32) (G : GS) : Res :=
  (D_Mo_notDrill a0 (si G (0, 50) 0 (0 : Int32))).bind (fun r => oI r (fun v4 G1 =>
  if v4 = 0 then
    (D_Mo_remembers G1).bind (fun r => oV r (fun G5 =>
    (D_Mo_drills a0 G5).bind (fun r => oI r (fun v11 G8 =>
    if v11 = (1 : Int32) then
      okI (1 : Int32) G8
    else
      okI (0 : Int32) G8) exc)) exc)
  else
    (D_Mo_fails (1 : Int32) G1).bind (fun r => oI r (fun v15 G12 =>
    if v15 ≤ 0 then
      okI (0 : Int32) G12
    else
      okI (1 : Int32) G12) exc)) exc)
def D_Mo_pillowCount (G : GS) : Res :=
  (D_Mo_countAll (si G (0, 50) 0 (0 : Int32))).bind (fun r => oI r (fun v4 G1 =>
  okI v4 G1) exc)
def D_Mo_stackHeight (a0 : Int32) (G : GS) : Res :=
  (D_Mo_isBay a0 (si G (0, 50) 0 (0 : Int32))).bind (fun r => oI r (fun v4 G1 =>
  if v4 = 0 then
    (D_Mo_fails (1 : Int32) G1).bind (fun r => oI r (fun v8 G5 =>
    okI v8 G5) exc)
  else
    bif inb ((9 : Int32) + a0) 156 then
    okI (ga G1 (0, 51) ((9 : Int32) + a0).toNatClampNeg) G1
    else none) exc)
def D_Mo_pillowAt (a0 : Int32) (a1 : Int32) (G : GS) : Res :=
  (D_Mo_isBay a0 (si G (0, 50) 0 (0 : Int32))).bind (fun r => oI r (fun v4 G1 =>
  if v4 = 0 then
    (D_Mo_fails (1 : Int32) G1).bind (fun r => oI r (fun v20 G17 =>
    okI v20 G17) exc)
  else
    bif inb ((9 : Int32) + a0) 156 then
    (D_Mo_isBetween a1 (0 : Int32) ((ga G1 (0, 51) ((9 : Int32) + a0).toNatClampNeg) - (1 : Int32)) G1).bind (fun r => oI r (fun v8 G5 =>
    if v8 = 0 then
      (D_Mo_fails (2 : Int32) G5).bind (fun r => oI r (fun v12 G9 =>
      okI v12 G9) exc)
    else
      (D_Mo_at a0 a1 (0 : Int32) G5).bind (fun r => oI r (fun v16 G13 =>
      okI v16 G13) exc)) exc)
    else none) exc)
def L_Mo_placeOf : Nat → (Int32 → Int32 → GS → Res) × (Int32 → Int32 → Int32 → GS → Res)
  | 0 => (fun _ _ _ => none, fun _ _ _ _ => none)
  | k + 1 => (fun x1 x2 G =>
    if (7 : Int32) ≤ x2 then
      okI (-1 : Int32) G
    else
      (L_Mo_placeOf k).2 x1 x2 (0 : Int32) G,
    fun x1 x2 x3 G =>
    bif inb ((9 : Int32) + x2) 156 then
    if (ga G (0, 51) ((9 : Int32) + x2).toNatClampNeg) ≤ x3 then
      (L_Mo_placeOf k).1 x1 (x2 + (1 : Int32)) G
    else
      (D_Mo_at x2 x3 (0 : Int32) G).bind (fun r => oI r (fun v4 G1 =>
      if v4 = x1 then
        okI (((5 : Int32) * x2) + x3) G1
      else
        (L_Mo_placeOf k).2 x1 x2 (x3 + (1 : Int32)) G1) exc)
    else none)
def D_Mo_placeOf (a0 : Int32) (G : GS) : Res :=
  (L_Mo_placeOf 2000).1 a0 (0 : Int32) G
def D_Mo_asks (a0 : Int32) (a1 : Int32) (G : GS) : Res :=
  (D_Mo_placeOf a0 (si G (0, 50) 0 (0 : Int32))).bind (fun r => oI r (fun v4 G1 =>
  if 0 ≤ v4 then
    (D_Mo_at (v4 / (5 : Int32)) (v4 - v4 / (5 : Int32) * (5 : Int32)) a1 G1).bind (fun r => oI r (fun v8 G5 =>
    okI v8 G5) exc)
  else
    (D_Mo_fails (1 : Int32) G1).bind (fun r => oI r (fun v12 G9 =>
    okI v12 G9) exc)) exc)
def D_Mo_weightOf (a0 : Int32) (G : GS) : Res :=
  (D_Mo_asks a0 (1 : Int32) G).bind (fun r => oI r (fun v4 G1 =>
  okI v4 G1) exc)
def D_Mo_destinationOf (a0 : Int32) (G : GS) : Res :=
  (D_Mo_asks a0 (2 : Int32) G).bind (fun r => oI r (fun v4 G1 =>
  okI v4 G1) exc)
def D_Mo_bayOf (a0 : Int32) (G : GS) : Res :=
  (D_Mo_placeOf a0 (si G (0, 50) 0 (0 : Int32))).bind (fun r => oI r (fun v4 G1 =>
  if 0 ≤ v4 then
    okI (v4 / (5 : Int32)) G1
  else
    (D_Mo_fails (1 : Int32) G1).bind (fun r => oI r (fun v8 G5 =>
    okI v8 G5) exc)) exc)
def D_Mo_positionOf (a0 : Int32) (G : GS) : Res :=
  (D_Mo_placeOf a0 (si G (0, 50) 0 (0 : Int32))).bind (fun r => oI r (fun v4 G1 =>
  if 0 ≤ v4 then
    okI (v4 - v4 / (5 : Int32) * (5 : Int32)) G1
  else
    (D_Mo_fails (1 : Int32) G1).bind (fun r => oI r (fun v8 G5 =>
    okI v8 G5) exc)) exc)
def D_Mo_ageOf (a0 : Int32) (G : GS) : Res :=
  (D_Mo_asks a0 (3 : Int32) G).bind (fun r => oI r (fun v4 G1 =>
  if (gi G1 (0, 50) 0) = 0 then
    okI ((ga G1 (0, 51) 0) - v4) G1
  else
    okI (0 : Int32) G1) exc)
def D_Mo_moment (G : GS) : Res :=
  (D_Mo_momentNow (si G (0, 50) 0 (0 : Int32))).bind (fun r => oI r (fun v4 G1 =>
  okI v4 G1) exc)
def D_Mo_momentByBays (G : GS) : Res :=
  (D_Mo_moment G).bind (fun r => oI r (fun v4 G1 =>
  okI v4 G1) exc)
def D_Mo_totalWeight (G : GS) : Res :=
  (D_Mo_weightAll (si G (0, 50) 0 (0 : Int32))).bind (fun r => oI r (fun v4 G1 =>
  okI v4 G1) exc)
def L_Mo_weightFor : Nat → (Int32 → Int32 → Int32 → GS → Res) × (Int32 → Int32 → Int32 → Int32 → GS → Res)
  | 0 => (fun _ _ _ _ => none, fun _ _ _ _ _ => none)
  | k + 1 => (fun x1 x2 x3 G =>
    if (7 : Int32) ≤ x3 then
      okI x2 G
    else
      (L_Mo_weightFor k).2 x1 x2 x3 (0 : Int32) G,
    fun x1 x2 x3 x4 G =>
    bif inb ((9 : Int32) + x3) 156 then
    if (ga G (0, 51) ((9 : Int32) + x3).toNatClampNeg) ≤ x4 then
      (L_Mo_weightFor k).1 x1 x2 (x3 + (1 : Int32)) G
    else
      (D_Mo_at x3 x4 (2 : Int32) G).bind (fun r => oI r (fun v12 G9 =>
      if v12 = x1 then
        (D_Mo_at x3 x4 (1 : Int32) G9).bind (fun r => oI r (fun v16 G13 =>
        (L_Mo_weightFor k).2 x1 (x2 + v16) x3 (x4 + (1 : Int32)) G13) exc)
      else
        (L_Mo_weightFor k).2 x1 (x2 + (0 : Int32)) x3 (x4 + (1 : Int32)) G9) exc)
    else none)
def D_Mo_weightFor (a0 : Int32) (G : GS) : Res :=
  (D_Mo_isBetween a0 (0 : Int32) (4 : Int32) (si G (0, 50) 0 (0 : Int32))).bind (fun r => oI r (fun v4 G1 =>
  if v4 = 0 then
    (D_Mo_fails (1 : Int32) G1).bind (fun r => oI r (fun v8 G5 =>
    okI v8 G5) exc)
  else
    (L_Mo_weightFor 2000).1 a0 (0 : Int32) (0 : Int32) G1) exc)
def D_Mo_limit (G : GS) : Res :=
  okI (ga (si G (0, 50) 0 (0 : Int32)) (0, 51) 3) (si G (0, 50) 0 (0 : Int32))
def D_Mo_listAngle (G : GS) : Res :=
  (D_Mo_momentNow (si G (0, 50) 0 (0 : Int32))).bind (fun r => oI r (fun v4 G1 =>
  if (FP.fmul (1110704128 : UInt32) (FP.i2f v4)) &&& 0x7fffffff ≤ 0x7f800000 then
  (D_Mo_weightAll G1).bind (fun r => oI r (fun v8 G5 =>
  if (FP.fdiv (FP.fmul (1110704128 : UInt32) (FP.i2f v4)) (FP.i2f (v8 + (40 : Int32)))) &&& 0x7fffffff ≤ 0x7f800000 then
  okF (FP.fdiv (FP.fmul (1110704128 : UInt32) (FP.i2f v4)) (FP.i2f (v8 + (40 : Int32)))) G5
  else none) exc)
  else none) exc)
def D_Mo_greatestPush (G : GS) : Res :=
  (D_Mo_momentNow (si G (0, 50) 0 (0 : Int32))).bind (fun r => oI r (fun v4 G1 =>
  okI ((ga (si G (0, 50) 0 (0 : Int32)) (0, 51) 3) - v4) G1) exc)
def D_Mo_magnitude (a0 : Int32) (G : GS) : Res :=
  if 0 ≤ a0 then
    okI a0 G
  else
    okI (-a0) G
def D_Mo_isBetter (a0 : Int32) (a1 : Int32) (a2 : Int32) (G : GS) : Res :=
  (D_Mo_momentNow G).bind (fun r => oI r (fun v4 G1 =>
  (D_Mo_lever a1 a2 G1).bind (fun r => oI r (fun v8 G5 =>
  (D_Mo_magnitude (v4 + v8) G5).bind (fun r => oI r (fun v12 G9 =>
  (D_Mo_momentNow G9).bind (fun r => oI r (fun v16 G13 =>
  (D_Mo_lever a0 a2 G13).bind (fun r => oI r (fun v20 G17 =>
  (D_Mo_magnitude (v16 + v20) G17).bind (fun r => oI r (fun v24 G21 =>
  if (v12 - v24) = 0 then
    bif inb ((9 : Int32) + a0) 156 then
    bif inb ((9 : Int32) + a1) 156 then
    if (ga G21 (0, 51) ((9 : Int32) + a1).toNatClampNeg) ≤ (ga G21 (0, 51) ((9 : Int32) + a0).toNatClampNeg) then
      okI (0 : Int32) G21
    else
      okI (1 : Int32) G21
    else none
    else none
  else
    if (v12 - v24) ≤ 0 then
      okI (0 : Int32) G21
    else
      okI (1 : Int32) G21) exc)) exc)) exc)) exc)) exc)) exc)
def L_Mo_levelingBay : Nat → Int32 → Int32 → Int32 → GS → Res
  | 0 => fun _ _ _ _ => none
  | k + 1 => fun x1 x2 x3 G =>
    if (7 : Int32) ≤ x3 then
      if 0 ≤ x2 then
        okI x2 G
      else
        (D_Mo_fails (2 : Int32) G).bind (fun r => oI r (fun v12 G9 =>
        okI v12 G9) exc)
    else
      bif inb ((9 : Int32) + x3) 156 then
      if (ga G (0, 51) ((9 : Int32) + x3).toNatClampNeg) = (5 : Int32) then
        (L_Mo_levelingBay k) x1 x2 (x3 + (1 : Int32)) G
      else
        (D_Mo_lever x3 x1 G).bind (fun r => oI r (fun v16 G13 =>
        (D_Mo_isBeyond v16 G13).bind (fun r => oI r (fun v20 G17 =>
        if v20 = 0 then
          if x2 < 0 then
            (L_Mo_levelingBay k) x1 x3 (x3 + (1 : Int32)) G17
          else
            (D_Mo_isBetter x3 x2 x1 G17).bind (fun r => oI r (fun v24 G21 =>
            if v24 = 0 then
              (L_Mo_levelingBay k) x1 x2 (x3 + (1 : Int32)) G21
            else
              (L_Mo_levelingBay k) x1 x3 (x3 + (1 : Int32)) G21) exc)
        else
          (L_Mo_levelingBay k) x1 x2 (x3 + (1 : Int32)) G17) exc)) exc)
      else none
def D_Mo_levelingBay (a0 : Int32) (G : GS) : Res :=
  (D_Mo_isBetween a0 (1 : Int32) (20 : Int32) (si G (0, 50) 0 (0 : Int32))).bind (fun r => oI r (fun v4 G1 =>
  if v4 = 0 then
    (D_Mo_fails (1 : Int32) G1).bind (fun r => oI r (fun v8 G5 =>
    okI v8 G5) exc)
  else
    (L_Mo_levelingBay 2000) a0 (-1 : Int32) (0 : Int32) G1) exc)
def D_Mo_port (G : GS) : Res :=
  okI (ga (si G (0, 50) 0 (0 : Int32)) (0, 51) 1) (si G (0, 50) 0 (0 : Int32))
def D_Mo_day (G : GS) : Res :=
  okI (ga (si G (0, 50) 0 (0 : Int32)) (0, 51) 0) (si G (0, 50) 0 (0 : Int32))
def D_Mo_isAscending (G : GS) : Res :=
  if (ga (si G (0, 50) 0 (0 : Int32)) (0, 51) 2) = 0 then
    okI (1 : Int32) (si G (0, 50) 0 (0 : Int32))
  else
    okI (0 : Int32) (si G (0, 50) 0 (0 : Int32))
def L_Mo_legs : Nat → Int32 → Int32 → GS → Res
  | 0 => fun _ _ _ => none
  | k + 1 => fun x1 x2 G =>
    (D_Mo_portBehind x2 G).bind (fun r => oI r (fun v4 G1 =>
    if v4 = x1 then
      okI x2 G1
    else
      (L_Mo_legs k) x1 (x2 + (1 : Int32)) G1) exc)
def D_Mo_legs (a0 : Int32) (G : GS) : Res :=
  (L_Mo_legs 2000) a0 (0 : Int32) G
def D_Mo_legsTo (a0 : Int32) (G : GS) : Res :=
  (D_Mo_isBetween a0 (0 : Int32) (4 : Int32) (si G (0, 50) 0 (0 : Int32))).bind (fun r => oI r (fun v4 G1 =>
  if v4 = 0 then
    (D_Mo_fails (1 : Int32) G1).bind (fun r => oI r (fun v8 G5 =>
    okI v8 G5) exc)
  else
    (D_Mo_legs a0 G1).bind (fun r => oI r (fun v12 G9 =>
    okI v12 G9) exc)) exc)
def D_Mo_portAfter (a0 : Int32) (G : GS) : Res :=
  (D_Mo_isBetween a0 (0 : Int32) (99 : Int32) (si G (0, 50) 0 (0 : Int32))).bind (fun r => oI r (fun v4 G1 =>
  if v4 = 0 then
    (D_Mo_fails (1 : Int32) G1).bind (fun r => oI r (fun v8 G5 =>
    okI v8 G5) exc)
  else
    (D_Mo_portBehind a0 G1).bind (fun r => oI r (fun v12 G9 =>
    okI v12 G9) exc)) exc)
def L_Mo_inTheWay : Nat → Int32 → Int32 → Int32 → Int32 → GS → Res
  | 0 => fun _ _ _ _ _ => none
  | k + 1 => fun x1 x3 x4 x5 G =>
    bif inb ((9 : Int32) + x1) 156 then
    if (ga G (0, 51) ((9 : Int32) + x1).toNatClampNeg) ≤ x5 then
      okI x4 G
    else
      (D_Mo_at x1 x5 (2 : Int32) G).bind (fun r => oI r (fun v12 G9 =>
      (D_Mo_legs v12 G9).bind (fun r => oI r (fun v16 G13 =>
      if v16 ≤ x3 then
        (L_Mo_inTheWay k) x1 x3 (x4 + (0 : Int32)) (x5 + (1 : Int32)) G13
      else
        (L_Mo_inTheWay k) x1 x3 (x4 + (1 : Int32)) (x5 + (1 : Int32)) G13) exc)) exc)
    else none
def D_Mo_inTheWay (a0 : Int32) (a1 : Int32) (G : GS) : Res :=
  (D_Mo_at a0 a1 (2 : Int32) G).bind (fun r => oI r (fun v4 G1 =>
  (D_Mo_legs v4 G1).bind (fun r => oI r (fun v8 G5 =>
  (L_Mo_inTheWay 2000) a0 v8 (0 : Int32) (a1 + (1 : Int32)) G5) exc)) exc)
def D_Mo_pillowsInTheWay (a0 : Int32) (G : GS) : Res :=
  (D_Mo_placeOf a0 (si G (0, 50) 0 (0 : Int32))).bind (fun r => oI r (fun v4 G1 =>
  if 0 ≤ v4 then
    (D_Mo_inTheWay (v4 / (5 : Int32)) (v4 - v4 / (5 : Int32) * (5 : Int32)) G1).bind (fun r => oI r (fun v8 G5 =>
    okI v8 G5) exc)
  else
    (D_Mo_fails (1 : Int32) G1).bind (fun r => oI r (fun v12 G9 =>
    okI v12 G9) exc)) exc)
def L_Mo_pairsInTheWay : Nat → (Int32 → Int32 → GS → Res) × (Int32 → Int32 → Int32 → GS → Res)
  | 0 => (fun _ _ _ => none, fun _ _ _ _ => none)
  | k + 1 => (fun x1 x2 G =>
    if (7 : Int32) ≤ x2 then
      okI x1 G
    else
      (L_Mo_pairsInTheWay k).2 x1 x2 (0 : Int32) G,
    fun x1 x2 x3 G =>
    bif inb ((9 : Int32) + x2) 156 then
    if (ga G (0, 51) ((9 : Int32) + x2).toNatClampNeg) ≤ x3 then
      (L_Mo_pairsInTheWay k).1 x1 (x2 + (1 : Int32)) G
    else
      (D_Mo_inTheWay x2 x3 G).bind (fun r => oI r (fun v4 G1 =>
      (L_Mo_pairsInTheWay k).2 (x1 + v4) x2 (x3 + (1 : Int32)) G1) exc)
    else none)
def D_Mo_pairsInTheWay (G : GS) : Res :=
  (L_Mo_pairsInTheWay 2000).1 (0 : Int32) (0 : Int32) (si G (0, 50) 0 (0 : Int32))
def D_Mo_pairsInTheWayByStacks (G : GS) : Res :=
  (D_Mo_pairsInTheWay G).bind (fun r => oI r (fun v4 G1 =>
  okI v4 G1) exc)
def D_Mo_isAhead (a0 : Int32) (a1 : Int32) (G : GS) : Res :=
  (D_Mo_at (a1 / (5 : Int32)) (a1 - a1 / (5 : Int32) * (5 : Int32)) (2 : Int32) G).bind (fun r => oI r (fun v4 G1 =>
  (D_Mo_legs v4 G1).bind (fun r => oI r (fun v8 G5 =>
  (D_Mo_at (a0 / (5 : Int32)) (a0 - a0 / (5 : Int32) * (5 : Int32)) (2 : Int32) G5).bind (fun r => oI r (fun v12 G9 =>
  (D_Mo_legs v12 G9).bind (fun r => oI r (fun v16 G13 =>
  (D_Mo_at (a1 / (5 : Int32)) (a1 - a1 / (5 : Int32) * (5 : Int32)) (3 : Int32) G13).bind (fun r => oI r (fun v20 G17 =>
  (D_Mo_at (a0 / (5 : Int32)) (a0 - a0 / (5 : Int32) * (5 : Int32)) (3 : Int32) G17).bind (fun r => oI r (fun v24 G21 =>
  if (v8 - v16) = 0 then
    if (v20 - v24) = 0 then
      (D_Mo_at (a0 / (5 : Int32)) (a0 - a0 / (5 : Int32) * (5 : Int32)) (0 : Int32) G21).bind (fun r => oI r (fun v28 G25 =>
      (D_Mo_at (a1 / (5 : Int32)) (a1 - a1 / (5 : Int32) * (5 : Int32)) (0 : Int32) G25).bind (fun r => oI r (fun v32 G29 =>
      if v32 ≤ v28 then
        okI (0 : Int32) G29
      else
        okI (1 : Int32) G29) exc)) exc)
    else
      if (v20 - v24) ≤ 0 then
        okI (0 : Int32) G21
      else
        okI (1 : Int32) G21
  else
    if (v8 - v16) ≤ 0 then
      okI (0 : Int32) G21
    else
      okI (1 : Int32) G21) exc)) exc)) exc)) exc)) exc)) exc)
def D_Mo_isTaken (a0 : Int32) (G : GS) : Res :=
  bif inb ((9 : Int32) + (a0 / (5 : Int32))) 156 then
  if (ga G (0, 51) ((9 : Int32) + (a0 / (5 : Int32))).toNatClampNeg) ≤ (a0 - a0 / (5 : Int32) * (5 : Int32)) then
    okI (0 : Int32) G
  else
    okI (1 : Int32) G
  else none
def L_Mo_unloadableCount : Nat → Int32 → Int32 → GS → Res
  | 0 => fun _ _ _ => none
  | k + 1 => fun x1 x2 G =>
    if (7 : Int32) ≤ x2 then
      okI x1 G
    else
      (D_Mo_notUnload x2 G).bind (fun r => oI r (fun v4 G1 =>
      if v4 = 0 then
        (L_Mo_unloadableCount k) (x1 + (1 : Int32)) (x2 + (1 : Int32)) G1
      else
        (L_Mo_unloadableCount k) (x1 + (0 : Int32)) (x2 + (1 : Int32)) G1) exc)
def D_Mo_unloadableCount (G : GS) : Res :=
  (L_Mo_unloadableCount 2000) (0 : Int32) (0 : Int32) (si G (0, 50) 0 (0 : Int32))
def L_Mo_oldestIn : Nat → Int32 → Int32 → Int32 → GS → Res
  | 0 => fun _ _ _ _ => none
  | k + 1 => fun x1 x2 x3 G =>
    bif inb ((9 : Int32) + x1) 156 then
    if (ga G (0, 51) ((9 : Int32) + x1).toNatClampNeg) ≤ x3 then
      (D_Mo_at x1 x2 (0 : Int32) G).bind (fun r => oI r (fun v16 G13 =>
      okI v16 G13) exc)
    else
      (D_Mo_at x1 x2 (3 : Int32) G).bind (fun r => oI r (fun v20 G17 =>
      (D_Mo_at x1 x3 (3 : Int32) G17).bind (fun r => oI r (fun v24 G21 =>
      if 0 < (v20 - v24) then
        (L_Mo_oldestIn k) x1 x3 (x3 + (1 : Int32)) G21
      else
        if (v20 - v24) = 0 then
          (D_Mo_at x1 x3 (0 : Int32) G21).bind (fun r => oI r (fun v28 G25 =>
          (D_Mo_at x1 x2 (0 : Int32) G25).bind (fun r => oI r (fun v32 G29 =>
          if v32 ≤ v28 then
            (L_Mo_oldestIn k) x1 x2 (x3 + (1 : Int32)) G29
          else
            (L_Mo_oldestIn k) x1 x3 (x3 + (1 : Int32)) G29) exc)) exc)
        else
          (L_Mo_oldestIn k) x1 x2 (x3 + (1 : Int32)) G21) exc)) exc)
    else none
def D_Mo_oldestIn (a0 : Int32) (G : GS) : Res :=
  (D_Mo_isBay a0 (si G (0, 50) 0 (0 : Int32))).bind (fun r => oI r (fun v4 G1 =>
  if v4 = 0 then
    (D_Mo_fails (1 : Int32) G1).bind (fun r => oI r (fun v12 G9 =>
    okI v12 G9) exc)
  else
    bif inb ((9 : Int32) + a0) 156 then
    if (ga G1 (0, 51) ((9 : Int32) + a0).toNatClampNeg) = 0 then
      (D_Mo_fails (2 : Int32) G1).bind (fun r => oI r (fun v8 G5 =>
      okI v8 G5) exc)
    else
      (L_Mo_oldestIn 2000) a0 (0 : Int32) (1 : Int32) G1
    else none) exc)
def L_Mo_heaviestPort : Nat → Int32 → Int32 → GS → Res
  | 0 => fun _ _ _ => none
  | k + 1 => fun x1 x2 G =>
    if (5 : Int32) ≤ x2 then
      okI x1 (si G (0, 50) 0 (0 : Int32))
    else
      (D_Mo_portBehind x2 G).bind (fun r => oI r (fun v12 G9 =>
      (D_Mo_weightFor v12 G9).bind (fun r => oI r (fun v16 G13 =>
      (D_Mo_weightFor x1 G13).bind (fun r => oI r (fun v20 G17 =>
      if v16 ≤ v20 then
        (L_Mo_heaviestPort k) x1 (x2 + (1 : Int32)) G17
      else
        (L_Mo_heaviestPort k) v12 (x2 + (1 : Int32)) G17) exc)) exc)) exc)
def D_Mo_heaviestPort (G : GS) : Res :=
  (D_Mo_countAll G).bind (fun r => oI r (fun v4 G1 =>
  if v4 = 0 then
    (D_Mo_fails (1 : Int32) G1).bind (fun r => oI r (fun v8 G5 =>
    okI v8 G5) exc)
  else
    (L_Mo_heaviestPort 2000) (ga G1 (0, 51) 1) (1 : Int32) G1) exc)
def L_Mo_possibleShifts : Nat → (Int32 → Int32 → GS → Res) × (Int32 → Int32 → Int32 → GS → Res)
  | 0 => (fun _ _ _ => none, fun _ _ _ _ => none)
  | k + 1 => (fun x1 x2 G =>
    if (7 : Int32) ≤ x2 then
      okI x1 G
    else
      (L_Mo_possibleShifts k).2 x1 x2 (0 : Int32) G,
    fun x1 x2 x3 G =>
    if (7 : Int32) ≤ x3 then
      (L_Mo_possibleShifts k).1 x1 (x2 + (1 : Int32)) G
    else
      (D_Mo_notShift x2 x3 G).bind (fun r => oI r (fun v4 G1 =>
      if v4 = 0 then
        (L_Mo_possibleShifts k).2 (x1 + (1 : Int32)) x2 (x3 + (1 : Int32)) G1
      else
        (L_Mo_possibleShifts k).2 (x1 + (0 : Int32)) x2 (x3 + (1 : Int32)) G1) exc))
def D_Mo_possibleShifts (G : GS) : Res :=
  (L_Mo_possibleShifts 2000).1 (0 : Int32) (0 : Int32) (si G (0, 50) 0 (0 : Int32))
def L_Mo_pillowByTurn : Nat → (Int32 → Int32 → GS → Res) × (Int32 → Int32 → Int32 → Int32 → GS → Res)
  | 0 => (fun _ _ _ => none, fun _ _ _ _ _ => none)
  | k + 1 => (fun x1 x2 G =>
    if (35 : Int32) ≤ x2 then
      (D_Mo_fails (1 : Int32) G).bind (fun r => oI r (fun v4 G1 =>
      okI v4 G1) exc)
    else
      (D_Mo_isTaken x2 G).bind (fun r => oI r (fun v8 G5 =>
      if v8 = 0 then
        (L_Mo_pillowByTurn k).1 x1 (x2 + (1 : Int32)) G5
      else
        (L_Mo_pillowByTurn k).2 x1 x2 (0 : Int32) (0 : Int32) G5) exc),
    fun x1 x2 x3 x4 G =>
    if (35 : Int32) ≤ x4 then
      if x3 = x1 then
        (D_Mo_at (x2 / (5 : Int32)) (x2 - x2 / (5 : Int32) * (5 : Int32)) (0 : Int32) G).bind (fun r => oI r (fun v12 G9 =>
        okI v12 G9) exc)
      else
        (L_Mo_pillowByTurn k).1 x1 (x2 + (1 : Int32)) G
    else
      (D_Mo_isTaken x4 G).bind (fun r => oI r (fun v16 G13 =>
      if v16 = 0 then
        (L_Mo_pillowByTurn k).2 x1 x2 (x3 + (0 : Int32)) (x4 + (1 : Int32)) G13
      else
        (D_Mo_isAhead x4 x2 G13).bind (fun r => oI r (fun v20 G17 =>
        if v20 = 0 then
          (L_Mo_pillowByTurn k).2 x1 x2 (x3 + (0 : Int32)) (x4 + (1 : Int32)) G17
        else
          (L_Mo_pillowByTurn k).2 x1 x2 (x3 + (1 : Int32)) (x4 + (1 : Int32)) G17) exc)) exc))
def D_Mo_pillowByTurn (a0 : Int32) (G : GS) : Res :=
  (L_Mo_pillowByTurn 2000).1 a0 (0 : Int32) (si G (0, 50) 0 (0 : Int32))
def L_Mo_bayByWeight : Nat → (Int32 → Int32 → GS → Res) × (Int32 → Int32 → Int32 → Int32 → GS → Res)
  | 0 => (fun _ _ _ => none, fun _ _ _ _ _ => none)
  | k + 1 => (fun x1 x2 G =>
    if (7 : Int32) ≤ x2 then
      (D_Mo_fails (1 : Int32) G).bind (fun r => oI r (fun v4 G1 =>
      okI v4 G1) exc)
    else
      (L_Mo_bayByWeight k).2 x1 x2 (0 : Int32) (0 : Int32) G,
    fun x1 x2 x3 x4 G =>
    if (7 : Int32) ≤ x4 then
      if x3 = x1 then
        okI x2 G
      else
        (L_Mo_bayByWeight k).1 x1 (x2 + (1 : Int32)) G
    else
      (D_Mo_weightOfBay x4 G).bind (fun r => oI r (fun v8 G5 =>
      (D_Mo_weightOfBay x2 G5).bind (fun r => oI r (fun v12 G9 =>
      if 0 < (v8 - v12) then
        (L_Mo_bayByWeight k).2 x1 x2 (x3 + (1 : Int32)) (x4 + (1 : Int32)) G9
      else
        if (v8 - v12) = 0 then
          if x2 ≤ x4 then
            (L_Mo_bayByWeight k).2 x1 x2 (x3 + (0 : Int32)) (x4 + (1 : Int32)) G9
          else
            (L_Mo_bayByWeight k).2 x1 x2 (x3 + (1 : Int32)) (x4 + (1 : Int32)) G9
        else
          (L_Mo_bayByWeight k).2 x1 x2 (x3 + (0 : Int32)) (x4 + (1 : Int32)) G9) exc)) exc))
def D_Mo_bayByWeight (a0 : Int32) (G : GS) : Res :=
  (L_Mo_bayByWeight 2000).1 a0 (0 : Int32) (si G (0, 50) 0 (0 : Int32))
def D_Mo_loadedTotal (G : GS) : Res :=
  okI (ga (si G (0, 50) 0 (0 : Int32)) (0, 51) 4) (si G (0, 50) 0 (0 : Int32))
def D_Mo_deliveredTotal (G : GS) : Res :=
  okI (ga (si G (0, 50) 0 (0 : Int32)) (0, 51) 5) (si G (0, 50) 0 (0 : Int32))
def D_Mo_deliveredWeight (G : GS) : Res :=
  okI (ga (si G (0, 50) 0 (0 : Int32)) (0, 51) 6) (si G (0, 50) 0 (0 : Int32))
def D_Mo_drillTotal (G : GS) : Res :=
  okI (ga (si G (0, 50) 0 (0 : Int32)) (0, 51) 7) (si G (0, 50) 0 (0 : Int32))
def D_Mo_capsizedTotal (G : GS) : Res :=
  okI (ga (si G (0, 50) 0 (0 : Int32)) (0, 51) 8) (si G (0, 50) 0 (0 : Int32))
def L_Mo_meanAge : Nat → Int32 → Int32 → GS → Res
  | 0 => fun _ _ _ => none
  | k + 1 => fun x1 x2 G =>
    if (35 : Int32) ≤ x2 then
      (D_Mo_countAll G).bind (fun r => oI r (fun v12 G9 =>
      if (FP.ddiv (FP.i2d x1) (FP.i2d v12)) &&& 0x7fffffffffffffff ≤ 0x7ff0000000000000 then
      okD (FP.ddiv (FP.i2d x1) (FP.i2d v12)) G9
      else none) exc)
    else
      (D_Mo_isTaken x2 G).bind (fun r => oI r (fun v16 G13 =>
      if v16 = 0 then
        (L_Mo_meanAge k) x1 (x2 + (1 : Int32)) G13
      else
        (D_Mo_at (x2 / (5 : Int32)) (x2 - x2 / (5 : Int32) * (5 : Int32)) (3 : Int32) G13).bind (fun r => oI r (fun v20 G17 =>
        (L_Mo_meanAge k) (x1 + ((ga G13 (0, 51) 0) - v20)) (x2 + (1 : Int32)) G17) exc)) exc)
def D_Mo_meanAge (G : GS) : Res :=
  (D_Mo_countAll (si G (0, 50) 0 (0 : Int32))).bind (fun r => oI r (fun v4 G1 =>
  if v4 = 0 then
    (D_Mo_fails (1 : Int32) G1).bind (fun r => oI r (fun v8 G5 =>
    okD (FP.i2d v8) G5) exc)
  else
    (L_Mo_meanAge 2000) (0 : Int32) (0 : Int32) G1) exc)
def D_Mo_capsizedShare (G : GS) : Res :=
  if (ga (si G (0, 50) 0 (0 : Int32)) (0, 51) 7) = 0 then
    (D_Mo_fails (1 : Int32) (si G (0, 50) 0 (0 : Int32))).bind (fun r => oI r (fun v4 G1 =>
    okF (FP.i2f v4) G1) exc)
  else
    if (FP.fdiv (FP.i2f (ga (si G (0, 50) 0 (0 : Int32)) (0, 51) 8)) (FP.i2f (ga (si G (0, 50) 0 (0 : Int32)) (0, 51) 7))) &&& 0x7fffffff ≤ 0x7f800000 then
    okF (FP.fdiv (FP.i2f (ga (si G (0, 50) 0 (0 : Int32)) (0, 51) 8)) (FP.i2f (ga (si G (0, 50) 0 (0 : Int32)) (0, 51) 7))) (si G (0, 50) 0 (0 : Int32))
    else none
def D_Mo_isConsistent (G : GS) : Res :=
  (D_Mo_isBeyond (0 : Int32) (si G (0, 50) 0 (0 : Int32))).bind (fun r => oI r (fun v4 G1 =>
  if v4 = 0 then
    (D_Mo_countAll G1).bind (fun r => oI r (fun v8 G5 =>
    if (ga G1 (0, 51) 4) = ((ga G1 (0, 51) 5) + v8) then
      okI (1 : Int32) G5
    else
      okI (0 : Int32) G5) exc)
  else
    okI (0 : Int32) G1) exc)
def D_Mo_writes (a0 : Int32) (G : GS) : Res :=
  bif inb (gi G (0, 50) 9) 100 then
  okV (si (sa G (0, 55) (gi G (0, 50) 9).toNatClampNeg (vp_nar .char ((a0.toUInt32 % 65536).toInt32))) (0, 50) 9 ((gi (sa G (0, 55) (gi G (0, 50) 9).toNatClampNeg (vp_nar .char ((a0.toUInt32 % 65536).toInt32))) (0, 50) 9) + (1 : Int32)))
  else none
def L_Mo_writesNumber : Nat → (Int32 → Int32 → GS → Res) × (Int32 → Int32 → GS → Res)
  | 0 => (fun _ _ _ => none, fun _ _ _ => none)
  | k + 1 => (fun x2 x3 G =>
    if x3 = 0 then none else
    if (x2 / x3) ≤ (9 : Int32) then
      (L_Mo_writesNumber k).2 x2 x3 G
    else
      (L_Mo_writesNumber k).1 x2 (x3 * (10 : Int32)) G,
    fun x2 x4 G =>
    if x4 ≤ 0 then
      okV G
    else
      if x4 = 0 then none else
      (D_Mo_writes ((48 : Int32) + ((x2 / x4) - (x2 / x4) / (10 : Int32) * (10 : Int32))) G).bind (fun r => oV r (fun G12 =>
      (L_Mo_writesNumber k).2 x2 (x4 / (10 : Int32)) G12) exc))
def D_Mo_writesNumber (a0 : Int32) (G : GS) : Res :=
  if 0 ≤ a0 then
    (D_Mo_magnitude a0 G).bind (fun r => oI r (fun v4 G1 =>
    (L_Mo_writesNumber 2000).1 v4 (1 : Int32) G1) exc)
  else
    (D_Mo_writes (45 : Int32) G).bind (fun r => oV r (fun G5 =>
    (D_Mo_magnitude a0 G5).bind (fun r => oI r (fun v11 G8 =>
    (L_Mo_writesNumber 2000).1 v11 (1 : Int32) G8) exc)) exc)
def L_Mo_renderStack : Nat → (Int32 → Int32 → GS → Res) × (Int32 → Int32 → GS → Res)
  | 0 => (fun _ _ _ => none, fun _ _ _ => none)
  | k + 1 => (fun x1 x2 G =>
    bif inb ((9 : Int32) + x1) 156 then
    if (ga G (0, 51) ((9 : Int32) + x1).toNatClampNeg) ≤ x2 then
      okI (gi G (0, 50) 9) G
    else
      if x2 ≤ 0 then
        (L_Mo_renderStack k).2 x1 x2 G
      else
        (D_Mo_writes (32 : Int32) G).bind (fun r => oV r (fun G9 =>
        (L_Mo_renderStack k).2 x1 x2 G9) exc)
    else none,
    fun x1 x2 G =>
    (D_Mo_at x1 x2 (0 : Int32) G).bind (fun r => oI r (fun v15 G12 =>
    (D_Mo_writesNumber v15 G12).bind (fun r => oV r (fun G16 =>
    (D_Mo_writes (119 : Int32) G16).bind (fun r => oV r (fun G19 =>
    (D_Mo_at x1 x2 (1 : Int32) G19).bind (fun r => oI r (fun v25 G22 =>
    (D_Mo_writesNumber v25 G22).bind (fun r => oV r (fun G26 =>
    (D_Mo_writes (112 : Int32) G26).bind (fun r => oV r (fun G29 =>
    (D_Mo_at x1 x2 (2 : Int32) G29).bind (fun r => oI r (fun v35 G32 =>
    (D_Mo_writesNumber v35 G32).bind (fun r => oV r (fun G36 =>
    (L_Mo_renderStack k).1 x1 (x2 + (1 : Int32)) G36) exc)) exc)) exc)) exc)) exc)) exc)) exc)) exc))
def D_Mo_renderStack (a0 : Int32) (G : GS) : Res :=
  (D_Mo_isBay a0 (si G (0, 50) 0 (0 : Int32))).bind (fun r => oI r (fun v4 G1 =>
  if v4 = 0 then
    (D_Mo_fails (1 : Int32) G1).bind (fun r => oI r (fun v8 G5 =>
    okI v8 G5) exc)
  else
    (L_Mo_renderStack 2000).1 a0 (0 : Int32) (si G1 (0, 50) 9 (0 : Int32))) exc)
def L_Mo_renderBarge : Nat → Int32 → GS → Res
  | 0 => fun _ _ => none
  | k + 1 => fun x1 G =>
    if (7 : Int32) ≤ x1 then
      (D_Mo_writes (61 : Int32) G).bind (fun r => oV r (fun G1 =>
      (D_Mo_momentNow G1).bind (fun r => oI r (fun v7 G4 =>
      (D_Mo_writesNumber v7 G4).bind (fun r => oV r (fun G8 =>
      okI (gi G8 (0, 50) 9) G8) exc)) exc)) exc)
    else
      if x1 ≤ 0 then
        (D_Mo_weightOfBay x1 G).bind (fun r => oI r (fun v14 G11 =>
        (D_Mo_writesNumber v14 G11).bind (fun r => oV r (fun G15 =>
        (L_Mo_renderBarge k) (x1 + (1 : Int32)) G15) exc)) exc)
      else
        (D_Mo_writes (32 : Int32) G).bind (fun r => oV r (fun G18 =>
        (D_Mo_weightOfBay x1 G18).bind (fun r => oI r (fun v24 G21 =>
        (D_Mo_writesNumber v24 G21).bind (fun r => oV r (fun G25 =>
        (L_Mo_renderBarge k) (x1 + (1 : Int32)) G25) exc)) exc)) exc)
def D_Mo_renderBarge (G : GS) : Res :=
  (L_Mo_renderBarge 2000) (0 : Int32) (si (si G (0, 50) 0 (0 : Int32)) (0, 50) 9 (0 : Int32))
def D_Mo_outputAt (a0 : Int32) (G : GS) : Res :=
  (D_Mo_isBetween a0 (0 : Int32) ((gi (si G (0, 50) 0 (0 : Int32)) (0, 50) 9) - (1 : Int32)) (si G (0, 50) 0 (0 : Int32))).bind (fun r => oI r (fun v4 G1 =>
  if v4 = 0 then
    (D_Mo_fails (1 : Int32) G1).bind (fun r => oI r (fun v8 G5 =>
    okI ((v8.toUInt32 % 65536).toInt32) G5) exc)
  else
    bif inb a0 100 then
    okI (ga G1 (0, 55) a0.toNatClampNeg) G1
    else none) exc)
def D_Mo_type (a0 : Int32) (G : GS) : Res :=
  (D_Mo_isBetween a0 (32 : Int32) (126 : Int32) (si G (0, 50) 0 (0 : Int32))).bind (fun r => oI r (fun v4 G1 =>
  if v4 = 0 then
    (D_Mo_fails (1 : Int32) G1).bind (fun r => oI r (fun v12 G9 =>
    okI v12 G9) exc)
  else
    if (gi G1 (0, 50) 11) = (60 : Int32) then
      (D_Mo_fails (2 : Int32) G1).bind (fun r => oI r (fun v8 G5 =>
      okI v8 G5) exc)
    else
      bif inb (gi G1 (0, 50) 11) 60 then
      okI (gi (si (sa G1 (0, 56) (gi G1 (0, 50) 11).toNatClampNeg (vp_nar .char a0)) (0, 50) 11 ((gi (sa G1 (0, 56) (gi G1 (0, 50) 11).toNatClampNeg (vp_nar .char a0)) (0, 50) 11) + (1 : Int32))) (0, 50) 11) (si (sa G1 (0, 56) (gi G1 (0, 50) 11).toNatClampNeg (vp_nar .char a0)) (0, 50) 11 ((gi (sa G1 (0, 56) (gi G1 (0, 50) 11).toNatClampNeg (vp_nar .char a0)) (0, 50) 11) + (1 : Int32)))
      else none) exc)
def D_Mo_nextChar (G : GS) : Res :=
  if (gi G (0, 50) 11) ≤ (gi G (0, 50) 12) then
    okI (-1 : Int32) G
  else
    bif inb (gi G (0, 50) 12) 60 then
    okI (ga G (0, 56) (gi G (0, 50) 12).toNatClampNeg) G
    else none
def D_Mo_reads (a0 : Int32) (G : GS) : Res :=
  (D_Mo_nextChar G).bind (fun r => oI r (fun v4 G1 =>
  if v4 = a0 then
    okI (1 : Int32) (si G1 (0, 50) 12 ((gi G1 (0, 50) 12) + (1 : Int32)))
  else
    okI (0 : Int32) G1) exc)
def D_Mo_readsDigit (a0 : Int32) (G : GS) : Res :=
  (D_Mo_nextChar G).bind (fun r => oI r (fun v4 G1 =>
  (D_Mo_isBetween v4 (48 : Int32) (57 : Int32) G1).bind (fun r => oI r (fun v8 G5 =>
  if v8 = 0 then
    okI (0 : Int32) G5
  else
    (D_Mo_nextChar G5).bind (fun r => oI r (fun v12 G9 =>
    bif inb a0 3 then
    okI (1 : Int32) (si (sa G9 (0, 57) a0.toNatClampNeg (v12 - (48 : Int32))) (0, 50) 12 ((gi (sa G9 (0, 57) a0.toNatClampNeg (v12 - (48 : Int32))) (0, 50) 12) + (1 : Int32)))
    else none) exc)) exc)) exc)
def D_Mo_readsNumber (a0 : Int32) (G : GS) : Res :=
  (D_Mo_readsDigit a0 G).bind (fun r => oI r (fun v4 G1 =>
  if v4 = 0 then
    okI (0 : Int32) G1
  else
    (D_Mo_nextChar G1).bind (fun r => oI r (fun v8 G5 =>
    (D_Mo_isBetween v8 (48 : Int32) (57 : Int32) G5).bind (fun r => oI r (fun v12 G9 =>
    if v12 = 0 then
      okI (1 : Int32) G9
    else
      bif inb a0 3 then
      (D_Mo_nextChar G9).bind (fun r => oI r (fun v16 G13 =>
      bif inb a0 3 then
      okI (1 : Int32) (si (sa G13 (0, 57) a0.toNatClampNeg ((((10 : Int32) * (ga G9 (0, 57) a0.toNatClampNeg)) + v16) - (48 : Int32))) (0, 50) 12 ((gi (sa G13 (0, 57) a0.toNatClampNeg ((((10 : Int32) * (ga G9 (0, 57) a0.toNatClampNeg)) + v16) - (48 : Int32))) (0, 50) 12) + (1 : Int32)))
      else none) exc)
      else none) exc)) exc)) exc)
def D_Mo_readsL (G : GS) : Res :=
  (D_Mo_reads (111 : Int32) G).bind (fun r => oI r (fun v4 G1 =>
  if v4 = 0 then
    (D_Mo_reads (105 : Int32) (si G1 (0, 50) 16 (109 : Int32))).bind (fun r => oI r (fun v8 G5 =>
    if v8 = 0 then
      okI (0 : Int32) G5
    else
      (D_Mo_reads (109 : Int32) G5).bind (fun r => oI r (fun v12 G9 =>
      if v12 = 0 then
        okI (0 : Int32) G9
      else
        (D_Mo_reads (105 : Int32) G9).bind (fun r => oI r (fun v16 G13 =>
        if v16 = 0 then
          okI (0 : Int32) G13
        else
          (D_Mo_reads (116 : Int32) G13).bind (fun r => oI r (fun v20 G17 =>
          if v20 = 0 then
            okI (0 : Int32) G17
          else
            (D_Mo_reads (32 : Int32) G17).bind (fun r => oI r (fun v24 G21 =>
            if v24 = 0 then
              okI (0 : Int32) G21
            else
              (D_Mo_readsNumber (0 : Int32) G21).bind (fun r => oI r (fun v28 G25 =>
              if v28 = 0 then
                okI (0 : Int32) G25
              else
                okI (1 : Int32) G25) exc)) exc)) exc)) exc)) exc)) exc)
  else
    (D_Mo_reads (97 : Int32) G1).bind (fun r => oI r (fun v32 G29 =>
    if v32 = 0 then
      okI (0 : Int32) G29
    else
      (D_Mo_reads (100 : Int32) G29).bind (fun r => oI r (fun v36 G33 =>
      if v36 = 0 then
        okI (0 : Int32) G33
      else
        (D_Mo_reads (32 : Int32) G33).bind (fun r => oI r (fun v40 G37 =>
        if v40 = 0 then
          okI (0 : Int32) G37
        else
          (D_Mo_readsDigit (0 : Int32) G37).bind (fun r => oI r (fun v44 G41 =>
          if v44 = 0 then
            okI (0 : Int32) G41
          else
            (D_Mo_reads (32 : Int32) G41).bind (fun r => oI r (fun v48 G45 =>
            if v48 = 0 then
              okI (0 : Int32) G45
            else
              (D_Mo_readsNumber (1 : Int32) G45).bind (fun r => oI r (fun v52 G49 =>
              if v52 = 0 then
                okI (0 : Int32) G49
              else
                (D_Mo_reads (32 : Int32) G49).bind (fun r => oI r (fun v56 G53 =>
                if v56 = 0 then
                  okI (0 : Int32) G53
                else
                  (D_Mo_readsDigit (2 : Int32) G53).bind (fun r => oI r (fun v60 G57 =>
                  if v60 = 0 then
                    okI (0 : Int32) G57
                  else
                    okI (1 : Int32) G57) exc)) exc)) exc)) exc)) exc)) exc)) exc)) exc)) exc)
def D_Mo_readsS (G : GS) : Res :=
  (D_Mo_reads (104 : Int32) G).bind (fun r => oI r (fun v4 G1 =>
  if v4 = 0 then
    (D_Mo_reads (97 : Int32) (si G1 (0, 50) 16 (97 : Int32))).bind (fun r => oI r (fun v8 G5 =>
    if v8 = 0 then
      okI (0 : Int32) G5
    else
      (D_Mo_reads (105 : Int32) G5).bind (fun r => oI r (fun v12 G9 =>
      if v12 = 0 then
        okI (0 : Int32) G9
      else
        (D_Mo_reads (108 : Int32) G9).bind (fun r => oI r (fun v16 G13 =>
        if v16 = 0 then
          okI (0 : Int32) G13
        else
          (D_Mo_reads (32 : Int32) (sa G13 (0, 57) 0 (1 : Int32))).bind (fun r => oI r (fun v20 G17 =>
          if v20 = 0 then
            okI (1 : Int32) G17
          else
            (D_Mo_readsNumber (0 : Int32) G17).bind (fun r => oI r (fun v24 G21 =>
            if v24 = 0 then
              okI (0 : Int32) G21
            else
              okI (1 : Int32) G21) exc)) exc)) exc)) exc)) exc)
  else
    (D_Mo_reads (105 : Int32) G1).bind (fun r => oI r (fun v28 G25 =>
    if v28 = 0 then
      okI (0 : Int32) G25
    else
      (D_Mo_reads (102 : Int32) G25).bind (fun r => oI r (fun v32 G29 =>
      if v32 = 0 then
        okI (0 : Int32) G29
      else
        (D_Mo_reads (116 : Int32) G29).bind (fun r => oI r (fun v36 G33 =>
        if v36 = 0 then
          okI (0 : Int32) G33
        else
          (D_Mo_reads (32 : Int32) G33).bind (fun r => oI r (fun v40 G37 =>
          if v40 = 0 then
            okI (0 : Int32) G37
          else
            (D_Mo_readsDigit (0 : Int32) G37).bind (fun r => oI r (fun v44 G41 =>
            if v44 = 0 then
              okI (0 : Int32) G41
            else
              (D_Mo_reads (32 : Int32) G41).bind (fun r => oI r (fun v48 G45 =>
              if v48 = 0 then
                okI (0 : Int32) G45
              else
                (D_Mo_readsDigit (1 : Int32) G45).bind (fun r => oI r (fun v52 G49 =>
                if v52 = 0 then
                  okI (0 : Int32) G49
                else
                  okI (1 : Int32) G49) exc)) exc)) exc)) exc)) exc)) exc)) exc)) exc)
def D_Mo_readsDrill (G : GS) : Res :=
  (D_Mo_reads (114 : Int32) G).bind (fun r => oI r (fun v4 G1 =>
  if v4 = 0 then
    okI (0 : Int32) G1
  else
    (D_Mo_reads (105 : Int32) G1).bind (fun r => oI r (fun v8 G5 =>
    if v8 = 0 then
      okI (0 : Int32) G5
    else
      (D_Mo_reads (108 : Int32) G5).bind (fun r => oI r (fun v12 G9 =>
      if v12 = 0 then
        okI (0 : Int32) G9
      else
        (D_Mo_reads (108 : Int32) G9).bind (fun r => oI r (fun v16 G13 =>
        if v16 = 0 then
          okI (0 : Int32) G13
        else
          (D_Mo_reads (32 : Int32) G13).bind (fun r => oI r (fun v20 G17 =>
          if v20 = 0 then
            okI (0 : Int32) G17
          else
            (D_Mo_reads (45 : Int32) G17).bind (fun r => oI r (fun v24 G21 =>
            (D_Mo_readsNumber (0 : Int32) G21).bind (fun r => oI r (fun v28 G25 =>
            if v28 = 0 then
              okI (0 : Int32) G25
            else
              if v24 = 0 then
                okI (1 : Int32) G25
              else
                okI (1 : Int32) (sa G25 (0, 57) 0 (-(ga G25 (0, 57) 0)))) exc)) exc)) exc)) exc)) exc)) exc)) exc)
def D_Mo_readsCommand (G : GS) : Res :=
  (D_Mo_nextChar G).bind (fun r => oI r (fun v4 G1 =>
  (D_Mo_reads (108 : Int32) (si G1 (0, 50) 16 v4)).bind (fun r => oI r (fun v8 G5 =>
  if v8 = 0 then
    (D_Mo_reads (117 : Int32) G5).bind (fun r => oI r (fun v12 G9 =>
    if v12 = 0 then
      (D_Mo_reads (115 : Int32) G9).bind (fun r => oI r (fun v16 G13 =>
      if v16 = 0 then
        (D_Mo_reads (100 : Int32) G13).bind (fun r => oI r (fun v20 G17 =>
        if v20 = 0 then
          (D_Mo_reads (116 : Int32) G17).bind (fun r => oI r (fun v24 G21 =>
          if v24 = 0 then
            okI (0 : Int32) G21
          else
            (D_Mo_reads (117 : Int32) G21).bind (fun r => oI r (fun v28 G25 =>
            if v28 = 0 then
              okI (0 : Int32) G25
            else
              (D_Mo_reads (114 : Int32) G25).bind (fun r => oI r (fun v32 G29 =>
              if v32 = 0 then
                okI (0 : Int32) G29
              else
                (D_Mo_reads (110 : Int32) G29).bind (fun r => oI r (fun v36 G33 =>
                if v36 = 0 then
                  okI (0 : Int32) G33
                else
                  okI (1 : Int32) G33) exc)) exc)) exc)) exc)
        else
          (D_Mo_readsDrill G17).bind (fun r => oI r (fun v40 G37 =>
          okI v40 G37) exc)) exc)
      else
        (D_Mo_readsS G13).bind (fun r => oI r (fun v44 G41 =>
        okI v44 G41) exc)) exc)
    else
      (D_Mo_reads (110 : Int32) G9).bind (fun r => oI r (fun v48 G45 =>
      if v48 = 0 then
        okI (0 : Int32) G45
      else
        (D_Mo_reads (108 : Int32) G45).bind (fun r => oI r (fun v52 G49 =>
        if v52 = 0 then
          okI (0 : Int32) G49
        else
          (D_Mo_reads (111 : Int32) G49).bind (fun r => oI r (fun v56 G53 =>
          if v56 = 0 then
            okI (0 : Int32) G53
          else
            (D_Mo_reads (97 : Int32) G53).bind (fun r => oI r (fun v60 G57 =>
            if v60 = 0 then
              okI (0 : Int32) G57
            else
              (D_Mo_reads (100 : Int32) G57).bind (fun r => oI r (fun v64 G61 =>
              if v64 = 0 then
                okI (0 : Int32) G61
              else
                (D_Mo_reads (32 : Int32) G61).bind (fun r => oI r (fun v68 G65 =>
                if v68 = 0 then
                  okI (0 : Int32) G65
                else
                  (D_Mo_readsDigit (0 : Int32) G65).bind (fun r => oI r (fun v72 G69 =>
                  if v72 = 0 then
                    okI (0 : Int32) G69
                  else
                    okI (1 : Int32) G69) exc)) exc)) exc)) exc)) exc)) exc)) exc)) exc)
  else
    (D_Mo_readsL G5).bind (fun r => oI r (fun v76 G73 =>
    okI v76 G73) exc)) exc)) exc)
def L_Mo_readsAll : Nat → Int32 → GS → Res
  | 0 => fun _ _ => none
  | k + 1 => fun x1 G =>
    if x1 = 0 then
      if (gi G (0, 50) 12) = (gi G (0, 50) 11) then
        okI (1 : Int32) G
      else
        okI (0 : Int32) G
    else
      (D_Mo_readsCommand G).bind (fun r => oI r (fun v4 G1 =>
      if v4 = 0 then
        okI (0 : Int32) G1
      else
        (D_Mo_reads (59 : Int32) G1).bind (fun r => oI r (fun v8 G5 =>
        (L_Mo_readsAll k) v8 G5) exc)) exc)
def D_Mo_readsAll (G : GS) : Res :=
  (L_Mo_readsAll 2000) (1 : Int32) (si G (0, 50) 12 (0 : Int32))
def D_Mo_notNow (G : GS) : Res :=
  if (gi G (0, 50) 16) = (97 : Int32) then
    (D_Mo_notSail (ga G (0, 57) 0) G).bind (fun r => oI r (fun v4 G1 =>
    okI v4 G1) exc)
  else if (gi G (0, 50) 16) = (100 : Int32) then
    (D_Mo_notDrill (ga G (0, 57) 0) G).bind (fun r => oI r (fun v8 G5 =>
    okI v8 G5) exc)
  else if (gi G (0, 50) 16) = (108 : Int32) then
    (D_Mo_notLoad (ga G (0, 57) 0) (ga G (0, 57) 1) (ga G (0, 57) 2) G).bind (fun r => oI r (fun v12 G9 =>
    okI v12 G9) exc)
  else if (gi G (0, 50) 16) = (109 : Int32) then
    (D_Mo_notLimit (ga G (0, 57) 0) G).bind (fun r => oI r (fun v16 G13 =>
    okI v16 G13) exc)
  else if (gi G (0, 50) 16) = (115 : Int32) then
    (D_Mo_notShift (ga G (0, 57) 0) (ga G (0, 57) 1) G).bind (fun r => oI r (fun v20 G17 =>
    okI v20 G17) exc)
  else if (gi G (0, 50) 16) = (117 : Int32) then
    (D_Mo_notUnload (ga G (0, 57) 0) G).bind (fun r => oI r (fun v24 G21 =>
    okI v24 G21) exc)
  else 
    okI (0 : Int32) G
def D_Mo_doesNow (G : GS) : Res :=
  if (gi G (0, 50) 16) = (97 : Int32) then
    (D_Mo_sails (ga G (0, 57) 0) G).bind (fun r => oI r (fun v4 G1 =>
    okI v4 G1) exc)
  else if (gi G (0, 50) 16) = (100 : Int32) then
    (D_Mo_drills (ga G (0, 57) 0) G).bind (fun r => oI r (fun v8 G5 =>
    okI v8 G5) exc)
  else if (gi G (0, 50) 16) = (108 : Int32) then
    (D_Mo_loads (ga G (0, 57) 0) (ga G (0, 57) 1) (ga G (0, 57) 2) G).bind (fun r => oI r (fun v12 G9 =>
    okI v12 G9) exc)
  else if (gi G (0, 50) 16) = (109 : Int32) then
    (D_Mo_setsLimit (ga G (0, 57) 0) G).bind (fun r => oI r (fun v16 G13 =>
    okI v16 G13) exc)
  else if (gi G (0, 50) 16) = (115 : Int32) then
    (D_Mo_shifts (ga G (0, 57) 0) (ga G (0, 57) 1) G).bind (fun r => oI r (fun v20 G17 =>
    okI v20 G17) exc)
  else if (gi G (0, 50) 16) = (117 : Int32) then
    (D_Mo_unloads (ga G (0, 57) 0) G).bind (fun r => oI r (fun v24 G21 =>
    okI v24 G21) exc)
  else 
    (D_Mo_turns G).bind (fun r => oI r (fun v28 G25 =>
    okI v28 G25) exc)
def L_Mo_doesAll : Nat → Int32 → GS → Res
  | 0 => fun _ _ => none
  | k + 1 => fun x1 G =>
    if x1 = 0 then
      okI (1 : Int32) G
    else
      (D_Mo_readsCommand G).bind (fun r => oI r (fun v4 G1 =>
      (D_Mo_notNow G1).bind (fun r => oI r (fun v8 G5 =>
      if v8 = 0 then
        (D_Mo_doesNow G5).bind (fun r => oI r (fun v12 G9 =>
        (D_Mo_reads (59 : Int32) (si G9 (0, 50) 17 ((gi G9 (0, 50) 17) + (1 : Int32)))).bind (fun r => oI r (fun v16 G13 =>
        (L_Mo_doesAll k) v16 G13) exc)) exc)
      else
        okI (0 : Int32) G5) exc)) exc)
def D_Mo_doesAll (G : GS) : Res :=
  (L_Mo_doesAll 2000) (1 : Int32) (si (si G (0, 50) 17 (0 : Int32)) (0, 50) 12 (0 : Int32))
def D_Mo_runScript (G : GS) : Res :=
  (D_Mo_readsAll (si G (0, 50) 0 (0 : Int32))).bind (fun r => oI r (fun v4 G1 =>
  if v4 = 0 then
    (D_Mo_fails (1 : Int32) (si (si G1 (0, 50) 13 (gi G1 (0, 50) 12)) (0, 50) 11 (0 : Int32))).bind (fun r => oI r (fun v25 G22 =>
    okI v25 G22) exc)
  else
    (D_Mo_copies G1).bind (fun r => oV r (fun G5 =>
    (D_Mo_doesAll G5).bind (fun r => oI r (fun v11 G8 =>
    if v11 = 0 then
      (D_Mo_goesBack (si G8 (0, 50) 11 (0 : Int32))).bind (fun r => oV r (fun G12 =>
      (D_Mo_fails (2 : Int32) (si G12 (0, 50) 14 (gi G12 (0, 50) 17))).bind (fun r => oI r (fun v18 G15 =>
      okI v18 G15) exc)) exc)
    else
      (D_Mo_keeps (si G8 (0, 50) 11 (0 : Int32))).bind (fun r => oV r (fun G19 =>
      okI (gi G19 (0, 50) 17) G19) exc)) exc)) exc)) exc)
def D_Mo_errorPosition (G : GS) : Res :=
  if 0 ≤ (gi (si G (0, 50) 0 (0 : Int32)) (0, 50) 13) then
    okI (gi (si G (0, 50) 0 (0 : Int32)) (0, 50) 13) (si G (0, 50) 0 (0 : Int32))
  else
    (D_Mo_fails (1 : Int32) (si G (0, 50) 0 (0 : Int32))).bind (fun r => oI r (fun v4 G1 =>
    okI v4 G1) exc)
def D_Mo_failedCommand (G : GS) : Res :=
  if 0 ≤ (gi (si G (0, 50) 0 (0 : Int32)) (0, 50) 14) then
    okI (gi (si G (0, 50) 0 (0 : Int32)) (0, 50) 14) (si G (0, 50) 0 (0 : Int32))
  else
    (D_Mo_fails (1 : Int32) (si G (0, 50) 0 (0 : Int32))).bind (fun r => oI r (fun v4 G1 =>
    okI v4 G1) exc)
def L_Mo_undo : Nat → Int32 → Int32 → GS → Res
  | 0 => fun _ _ _ => none
  | k + 1 => fun x1 x2 G =>
    if (156 : Int32) ≤ x2 then
      okI (gi G (0, 50) 5) G
    else
      bif inb (((156 : Int32) * x1) + x2) 1248 then
      bif inb x2 156 then
      (L_Mo_undo k) x1 (x2 + (1 : Int32)) (sa G (0, 51) x2.toNatClampNeg (ga G (0, 52) (((156 : Int32) * x1) + x2).toNatClampNeg))
      else none
      else none
def D_Mo_undo (G : GS) : Res :=
  if (gi (si G (0, 50) 0 (0 : Int32)) (0, 50) 5) = 0 then
    (D_Mo_fails (1 : Int32) (si G (0, 50) 0 (0 : Int32))).bind (fun r => oI r (fun v4 G1 =>
    okI v4 G1) exc)
  else
    (L_Mo_undo 2000) (((gi (si (si G (0, 50) 0 (0 : Int32)) (0, 50) 5 ((gi (si G (0, 50) 0 (0 : Int32)) (0, 50) 5) - (1 : Int32))) (0, 50) 6) + (gi (si (si G (0, 50) 0 (0 : Int32)) (0, 50) 5 ((gi (si G (0, 50) 0 (0 : Int32)) (0, 50) 5) - (1 : Int32))) (0, 50) 5)) - ((gi (si (si G (0, 50) 0 (0 : Int32)) (0, 50) 5 ((gi (si G (0, 50) 0 (0 : Int32)) (0, 50) 5) - (1 : Int32))) (0, 50) 6) + (gi (si (si G (0, 50) 0 (0 : Int32)) (0, 50) 5 ((gi (si G (0, 50) 0 (0 : Int32)) (0, 50) 5) - (1 : Int32))) (0, 50) 5)) / (8 : Int32) * (8 : Int32)) (0 : Int32) (si (si G (0, 50) 0 (0 : Int32)) (0, 50) 5 ((gi (si G (0, 50) 0 (0 : Int32)) (0, 50) 5) - (1 : Int32)))
def L_Mo_save : Nat → Int32 → GS → Res
  | 0 => fun _ _ => none
  | k + 1 => fun x1 G =>
    if (156 : Int32) ≤ x1 then
      (D_Mo_countAll (si G (0, 50) 7 (1 : Int32))).bind (fun r => oI r (fun v4 G1 =>
      okI v4 G1) exc)
    else
      bif inb x1 156 then
      bif inb x1 156 then
      (L_Mo_save k) (x1 + (1 : Int32)) (sa G (0, 53) x1.toNatClampNeg (ga G (0, 51) x1.toNatClampNeg))
      else none
      else none
def D_Mo_save (G : GS) : Res :=
  (L_Mo_save 2000) (0 : Int32) (si G (0, 50) 0 (0 : Int32))
def L_Mo_restore : Nat → Int32 → GS → Res
  | 0 => fun _ _ => none
  | k + 1 => fun x1 G =>
    if (156 : Int32) ≤ x1 then
      (D_Mo_countAll (si (si G (0, 50) 5 (0 : Int32)) (0, 50) 6 (0 : Int32))).bind (fun r => oI r (fun v8 G5 =>
      okI v8 G5) exc)
    else
      bif inb x1 156 then
      bif inb x1 156 then
      (L_Mo_restore k) (x1 + (1 : Int32)) (sa G (0, 51) x1.toNatClampNeg (ga G (0, 53) x1.toNatClampNeg))
      else none
      else none
def D_Mo_restore (G : GS) : Res :=
  if (gi (si G (0, 50) 0 (0 : Int32)) (0, 50) 7) = 0 then
    (D_Mo_fails (1 : Int32) (si G (0, 50) 0 (0 : Int32))).bind (fun r => oI r (fun v4 G1 =>
    okI v4 G1) exc)
  else
    (L_Mo_restore 2000) (0 : Int32) (si G (0, 50) 0 (0 : Int32))
