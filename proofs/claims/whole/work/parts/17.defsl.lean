/-! Every method as a function (printed by gen/emit.py from the class files). -/
def D_Law_load (kk : Nat) (a1 : Int32) (a2 : Int32) (a3 : Int32) (G : GS) : Res :=
  (D_PB_load kk a1 a2 a3 G).bind (fun r => oI r (fun v4 G1 =>
  okI (0 : Int32) (so_ G1 v4.toInt64)) (fun e2 G3 => if e2 = 1 then okI (1 : Int32) G3 else if e2 = 2 then okI (2 : Int32) G3 else if e2 = 4 then okI (3 : Int32) G3 else if e2 = 5 then okI (4 : Int32) G3 else none))
def D_Law_unload (kk : Nat) (a1 : Int32) (G : GS) : Res :=
  (D_PB_unload kk a1 G).bind (fun r => oI r (fun v4 G1 =>
  okI (0 : Int32) (so_ G1 v4.toInt64)) (fun e2 G3 => if e2 = 1 then okI (1 : Int32) G3 else if e2 = 3 then okI (2 : Int32) G3 else if e2 = 4 then okI (3 : Int32) G3 else if e2 = 5 then okI (4 : Int32) G3 else none))
def D_Law_shift (kk : Nat) (a1 : Int32) (a2 : Int32) (G : GS) : Res :=
  (D_PB_shift kk a1 a2 G).bind (fun r => oI r (fun v4 G1 =>
  okI (0 : Int32) (so_ G1 v4.toInt64)) (fun e2 G3 => if e2 = 1 then okI (1 : Int32) G3 else if e2 = 2 then okI (2 : Int32) G3 else if e2 = 3 then okI (3 : Int32) G3 else if e2 = 4 then okI (4 : Int32) G3 else if e2 = 5 then okI (5 : Int32) G3 else none))
def D_Law_sail (kk : Nat) (a1 : Int32) (G : GS) : Res :=
  (D_PB_sail kk a1 G).bind (fun r => oI r (fun v4 G1 =>
  okI (0 : Int32) (so_ G1 v4.toInt64)) (fun e2 G3 => if e2 = 2 then okI (1 : Int32) G3 else none))
def D_Law_setLimit (kk : Nat) (a1 : Int32) (G : GS) : Res :=
  (D_PB_setLimit kk a1 G).bind (fun r => oI r (fun v4 G1 =>
  okI (0 : Int32) (so_ G1 v4.toInt64)) (fun e2 G3 => if e2 = 2 then okI (1 : Int32) G3 else if e2 = 5 then okI (2 : Int32) G3 else none))
def D_Law_drill (kk : Nat) (a1 : Int32) (G : GS) : Res :=
  (D_PB_drill kk a1 G).bind (fun r => oI r (fun v4 G1 =>
  if v4 = 0 then
    okI (0 : Int32) (so_ G1 (0 : Int64))
  else
    okI (0 : Int32) (so_ G1 (1 : Int64))) (fun e2 G3 => if e2 = 2 then okI (1 : Int32) G3 else none))
def D_Law_stackHeight (kk : Nat) (a1 : Int32) (G : GS) : Res :=
  (D_PB_stackHeight kk a1 G).bind (fun r => oI r (fun v4 G1 =>
  okI (0 : Int32) (so_ G1 v4.toInt64)) (fun e2 G3 => if e2 = 1 then okI (1 : Int32) G3 else none))
def D_Law_pillowAt (kk : Nat) (a1 : Int32) (a2 : Int32) (G : GS) : Res :=
  (D_PB_pillowAt kk a1 a2 G).bind (fun r => oI r (fun v4 G1 =>
  okI (0 : Int32) (so_ G1 v4.toInt64)) (fun e2 G3 => if e2 = 1 then okI (1 : Int32) G3 else if e2 = 3 then okI (2 : Int32) G3 else none))
def D_Law_weightOf (kk : Nat) (a1 : Int32) (G : GS) : Res :=
  (D_PB_weightOf kk a1 G).bind (fun r => oI r (fun v4 G1 =>
  okI (0 : Int32) (so_ G1 v4.toInt64)) (fun e2 G3 => if e2 = 3 then okI (1 : Int32) G3 else none))
def D_Law_destinationOf (kk : Nat) (a1 : Int32) (G : GS) : Res :=
  (D_PB_destinationOf kk a1 G).bind (fun r => oI r (fun v4 G1 =>
  okI (0 : Int32) (so_ G1 v4.toInt64)) (fun e2 G3 => if e2 = 3 then okI (1 : Int32) G3 else none))
def D_Law_bayOf (kk : Nat) (a1 : Int32) (G : GS) : Res :=
  (D_PB_bayOf kk a1 G).bind (fun r => oI r (fun v4 G1 =>
  okI (0 : Int32) (so_ G1 v4.toInt64)) (fun e2 G3 => if e2 = 3 then okI (1 : Int32) G3 else none))
def D_Law_positionOf (kk : Nat) (a1 : Int32) (G : GS) : Res :=
  (D_PB_positionOf kk a1 G).bind (fun r => oI r (fun v4 G1 =>
  okI (0 : Int32) (so_ G1 v4.toInt64)) (fun e2 G3 => if e2 = 3 then okI (1 : Int32) G3 else none))
def D_Law_ageOf (kk : Nat) (a1 : Int32) (G : GS) : Res :=
  (D_PB_ageOf kk a1 G).bind (fun r => oI r (fun v4 G1 =>
  okI (0 : Int32) (so_ G1 v4.toInt64)) (fun e2 G3 => if e2 = 3 then okI (1 : Int32) G3 else none))
def D_Law_weightFor (kk : Nat) (a1 : Int32) (G : GS) : Res :=
  (D_PB_weightFor kk a1 G).bind (fun r => oI r (fun v4 G1 =>
  okI (0 : Int32) (so_ G1 v4.toInt64)) (fun e2 G3 => if e2 = 1 then okI (1 : Int32) G3 else none))
def D_Law_levelingBay (kk : Nat) (a1 : Int32) (G : GS) : Res :=
  (D_PB_levelingBay kk a1 G).bind (fun r => oI r (fun v4 G1 =>
  okI (0 : Int32) (so_ G1 v4.toInt64)) (fun e2 G3 => if e2 = 2 then okI (1 : Int32) G3 else if e2 = 3 then okI (2 : Int32) G3 else none))
def D_Law_legsTo (kk : Nat) (a1 : Int32) (G : GS) : Res :=
  (D_PB_legsTo kk a1 G).bind (fun r => oI r (fun v4 G1 =>
  okI (0 : Int32) (so_ G1 v4.toInt64)) (fun e2 G3 => if e2 = 1 then okI (1 : Int32) G3 else none))
def D_Law_portAfter (kk : Nat) (a1 : Int32) (G : GS) : Res :=
  (D_PB_portAfter kk a1 G).bind (fun r => oI r (fun v4 G1 =>
  okI (0 : Int32) (so_ G1 v4.toInt64)) (fun e2 G3 => if e2 = 2 then okI (1 : Int32) G3 else none))
def D_Law_pillowsInTheWay (kk : Nat) (a1 : Int32) (G : GS) : Res :=
  (D_PB_pillowsInTheWay kk a1 G).bind (fun r => oI r (fun v4 G1 =>
  okI (0 : Int32) (so_ G1 v4.toInt64)) (fun e2 G3 => if e2 = 3 then okI (1 : Int32) G3 else none))
def D_Law_oldestIn (kk : Nat) (a1 : Int32) (G : GS) : Res :=
  (D_PB_oldestIn kk a1 G).bind (fun r => oI r (fun v4 G1 =>
  okI (0 : Int32) (so_ G1 v4.toInt64)) (fun e2 G3 => if e2 = 1 then okI (1 : Int32) G3 else if e2 = 3 then okI (2 : Int32) G3 else none))
def D_Law_heaviestPort (kk : Nat) (G : GS) : Res :=
  (D_PB_heaviestPort kk G).bind (fun r => oI r (fun v4 G1 =>
  okI (0 : Int32) (so_ G1 v4.toInt64)) (fun e2 G3 => if e2 = 3 then okI (1 : Int32) G3 else none))
def D_Law_pillowByTurn (kk : Nat) (a1 : Int32) (G : GS) : Res :=
  (D_PB_pillowByTurn kk a1 G).bind (fun r => oI r (fun v4 G1 =>
  okI (0 : Int32) (so_ G1 v4.toInt64)) (fun e2 G3 => if e2 = 3 then okI (1 : Int32) G3 else none))
def D_Law_bayByWeight (kk : Nat) (a1 : Int32) (G : GS) : Res :=
  (D_PB_bayByWeight kk a1 G).bind (fun r => oI r (fun v4 G1 =>
  okI (0 : Int32) (so_ G1 v4.toInt64)) (fun e2 G3 => if e2 = 3 then okI (1 : Int32) G3 else none))
def D_Law_meanAge (kk : Nat) (G : GS) : Res :=
  (D_PB_meanAge kk G).bind (fun r => oD r (fun v4 G1 =>
  okI (0 : Int32) (sd_ G1 v4)) (fun e2 G3 => if e2 = 6 then okI (1 : Int32) G3 else none))
def D_Law_capsizedShare (kk : Nat) (G : GS) : Res :=
  (D_PB_capsizedShare kk G).bind (fun r => oF r (fun v4 G1 =>
  if (FP.f2d v4) &&& 0x7fffffffffffffff ≤ 0x7ff0000000000000 then
  okI (0 : Int32) (sd_ G1 (FP.f2d v4))
  else none) (fun e2 G3 => if e2 = 6 then okI (1 : Int32) G3 else none))
def D_Law_renderStack (kk : Nat) (a1 : Int32) (G : GS) : Res :=
  (D_PB_renderStack kk a1 G).bind (fun r => oI r (fun v4 G1 =>
  okI (0 : Int32) (so_ G1 v4.toInt64)) (fun e2 G3 => if e2 = 1 then okI (1 : Int32) G3 else none))
def D_Law_outputAt (kk : Nat) (a1 : Int32) (G : GS) : Res :=
  (D_PB_outputAt kk a1 G).bind (fun r => oI r (fun v4 G1 =>
  okI (0 : Int32) (so_ G1 v4.toInt64)) (fun e2 G3 => if e2 = 1 then okI (1 : Int32) G3 else none))
def D_Law_type (kk : Nat) (a1 : Int32) (G : GS) : Res :=
  (D_PB_type kk a1 G).bind (fun r => oI r (fun v4 G1 =>
  okI (0 : Int32) (so_ G1 v4.toInt64)) (fun e2 G3 => if e2 = 2 then okI (1 : Int32) G3 else if e2 = 4 then okI (2 : Int32) G3 else none))
def D_Law_runScript (kk : Nat) (G : GS) : Res :=
  (D_PB_runScript kk G).bind (fun r => oI r (fun v4 G1 =>
  okI (0 : Int32) (so_ G1 v4.toInt64)) (fun e2 G3 => if e2 = 2 then okI (1 : Int32) G3 else if e2 = 4 then okI (2 : Int32) G3 else none))
def D_Law_errorPosition (kk : Nat) (G : GS) : Res :=
  (D_PB_errorPosition kk G).bind (fun r => oI r (fun v4 G1 =>
  okI (0 : Int32) (so_ G1 v4.toInt64)) (fun e2 G3 => if e2 = 3 then okI (1 : Int32) G3 else none))
def D_Law_failedCommand (kk : Nat) (G : GS) : Res :=
  (D_PB_failedCommand kk G).bind (fun r => oI r (fun v4 G1 =>
  okI (0 : Int32) (so_ G1 v4.toInt64)) (fun e2 G3 => if e2 = 3 then okI (1 : Int32) G3 else none))
def D_Law_undo (kk : Nat) (G : GS) : Res :=
  (D_PB_undo kk G).bind (fun r => oI r (fun v4 G1 =>
  okI (0 : Int32) (so_ G1 v4.toInt64)) (fun e2 G3 => if e2 = 3 then okI (1 : Int32) G3 else none))
def D_Law_restore (kk : Nat) (G : GS) : Res :=
  (D_PB_restore kk G).bind (fun r => oI r (fun v4 G1 =>
  okI (0 : Int32) (so_ G1 v4.toInt64)) (fun e2 G3 => if e2 = 4 then okI (1 : Int32) G3 else none))
