/-! Every method as a function (printed by gen/emit.py from the class files). -/
def D_Law_load (a1 : Int32) (a2 : Int32) (a3 : Int32) (G : GS) : Res :=
  (D_PB_load a1 a2 a3 G).bind (fun r => oI r (fun v4 G1 =>
  okI (0 : Int32) (so_ G1 v4.toInt64)) (fun e2 G3 => if e2 = 1 then okI (1 : Int32) G3 else if e2 = 2 then okI (2 : Int32) G3 else if e2 = 4 then okI (3 : Int32) G3 else if e2 = 5 then okI (4 : Int32) G3 else exc e2 G3))
def D_Law_unload (a1 : Int32) (G : GS) : Res :=
  (D_PB_unload a1 G).bind (fun r => oI r (fun v4 G1 =>
  okI (0 : Int32) (so_ G1 v4.toInt64)) (fun e2 G3 => if e2 = 1 then okI (1 : Int32) G3 else if e2 = 3 then okI (2 : Int32) G3 else if e2 = 4 then okI (3 : Int32) G3 else if e2 = 5 then okI (4 : Int32) G3 else exc e2 G3))
def D_Law_shift (a1 : Int32) (a2 : Int32) (G : GS) : Res :=
  (D_PB_shift a1 a2 G).bind (fun r => oI r (fun v4 G1 =>
  okI (0 : Int32) (so_ G1 v4.toInt64)) (fun e2 G3 => if e2 = 1 then okI (1 : Int32) G3 else if e2 = 2 then okI (2 : Int32) G3 else if e2 = 3 then okI (3 : Int32) G3 else if e2 = 4 then okI (4 : Int32) G3 else if e2 = 5 then okI (5 : Int32) G3 else exc e2 G3))
def D_Law_sail (a1 : Int32) (G : GS) : Res :=
  (D_PB_sail a1 G).bind (fun r => oI r (fun v4 G1 =>
  okI (0 : Int32) (so_ G1 v4.toInt64)) (fun e2 G3 => if e2 = 2 then okI (1 : Int32) G3 else exc e2 G3))
def D_Law_setLimit (a1 : Int32) (G : GS) : Res :=
  (D_PB_setLimit a1 G).bind (fun r => oI r (fun v4 G1 =>
  okI (0 : Int32) (so_ G1 v4.toInt64)) (fun e2 G3 => if e2 = 2 then okI (1 : Int32) G3 else if e2 = 5 then okI (2 : Int32) G3 else exc e2 G3))
def D_Law_drill (a1 : Int32) (G : GS) : Res :=
  (D_PB_drill a1 G).bind (fun r => oI r (fun v4 G1 =>
  if v4 = 0 then
    okI (0 : Int32) (so_ G1 (0 : Int64))
  else
    okI (0 : Int32) (so_ G1 (1 : Int64))) (fun e2 G3 => if e2 = 2 then okI (1 : Int32) G3 else exc e2 G3))
def D_Law_stackHeight (a1 : Int32) (G : GS) : Res :=
  (D_PB_stackHeight a1 G).bind (fun r => oI r (fun v4 G1 =>
  okI (0 : Int32) (so_ G1 v4.toInt64)) (fun e2 G3 => if e2 = 1 then okI (1 : Int32) G3 else exc e2 G3))
def D_Law_pillowAt (a1 : Int32) (a2 : Int32) (G : GS) : Res :=
  (D_PB_pillowAt a1 a2 G).bind (fun r => oI r (fun v4 G1 =>
  okI (0 : Int32) (so_ G1 v4.toInt64)) (fun e2 G3 => if e2 = 1 then okI (1 : Int32) G3 else if e2 = 3 then okI (2 : Int32) G3 else exc e2 G3))
def D_Law_weightOf (a1 : Int32) (G : GS) : Res :=
  (D_PB_weightOf a1 G).bind (fun r => oI r (fun v4 G1 =>
  okI (0 : Int32) (so_ G1 v4.toInt64)) (fun e2 G3 => if e2 = 3 then okI (1 : Int32) G3 else exc e2 G3))
def D_Law_destinationOf (a1 : Int32) (G : GS) : Res :=
  (D_PB_destinationOf a1 G).bind (fun r => oI r (fun v4 G1 =>
  okI (0 : Int32) (so_ G1 v4.toInt64)) (fun e2 G3 => if e2 = 3 then okI (1 : Int32) G3 else exc e2 G3))
def D_Law_bayOf (a1 : Int32) (G : GS) : Res :=
  (D_PB_bayOf a1 G).bind (fun r => oI r (fun v4 G1 =>
  okI (0 : Int32) (so_ G1 v4.toInt64)) (fun e2 G3 => if e2 = 3 then okI (1 : Int32) G3 else exc e2 G3))
def D_Law_positionOf (a1 : Int32) (G : GS) : Res :=
  (D_PB_positionOf a1 G).bind (fun r => oI r (fun v4 G1 =>
  okI (0 : Int32) (so_ G1 v4.toInt64)) (fun e2 G3 => if e2 = 3 then okI (1 : Int32) G3 else exc e2 G3))
def D_Law_ageOf (a1 : Int32) (G : GS) : Res :=
  (D_PB_ageOf a1 G).bind (fun r => oI r (fun v4 G1 =>
  okI (0 : Int32) (so_ G1 v4.toInt64)) (fun e2 G3 => if e2 = 3 then okI (1 : Int32) G3 else exc e2 G3))
def D_Law_weightFor (a1 : Int32) (G : GS) : Res :=
  (D_PB_weightFor a1 G).bind (fun r => oI r (fun v4 G1 =>
  okI (0 : Int32) (so_ G1 v4.toInt64)) (fun e2 G3 => if e2 = 1 then okI (1 : Int32) G3 else exc e2 G3))
def D_Law_levelingBay (a1 : Int32) (G : GS) : Res :=
  (D_PB_levelingBay a1 G).bind (fun r => oI r (fun v4 G1 =>
  okI (0 : Int32) (so_ G1 v4.toInt64)) (fun e2 G3 => if e2 = 2 then okI (1 : Int32) G3 else if e2 = 3 then okI (2 : Int32) G3 else exc e2 G3))
def D_Law_legsTo (a1 : Int32) (G : GS) : Res :=
  (D_PB_legsTo a1 G).bind (fun r => oI r (fun v4 G1 =>
  okI (0 : Int32) (so_ G1 v4.toInt64)) (fun e2 G3 => if e2 = 1 then okI (1 : Int32) G3 else exc e2 G3))
def D_Law_portAfter (a1 : Int32) (G : GS) : Res :=
  (D_PB_portAfter a1 G).bind (fun r => oI r (fun v4 G1 =>
  okI (0 : Int32) (so_ G1 v4.toInt64)) (fun e2 G3 => if e2 = 2 then okI (1 : Int32) G3 else exc e2 G3))
def D_Law_pillowsInTheWay (a1 : Int32) (G : GS) : Res :=
  (D_PB_pillowsInTheWay a1 G).bind (fun r => oI r (fun v4 G1 =>
  okI (0 : Int32) (so_ G1 v4.toInt64)) (fun e2 G3 => if e2 = 3 then okI (1 : Int32) G3 else exc e2 G3))
def D_Law_oldestIn (a1 : Int32) (G : GS) : Res :=
  (D_PB_oldestIn a1 G).bind (fun r => oI r (fun v4 G1 =>
  okI (0 : Int32) (so_ G1 v4.toInt64)) (fun e2 G3 => if e2 = 1 then okI (1 : Int32) G3 else if e2 = 3 then okI (2 : Int32) G3 else exc e2 G3))
def D_Law_heaviestPort (G : GS) : Res :=
  (D_PB_heaviestPort G).bind (fun r => oI r (fun v4 G1 =>
  okI (0 : Int32) (so_ G1 v4.toInt64)) (fun e2 G3 => if e2 = 3 then okI (1 : Int32) G3 else exc e2 G3))
def D_Law_pillowByTurn (a1 : Int32) (G : GS) : Res :=
  (D_PB_pillowByTurn a1 G).bind (fun r => oI r (fun v4 G1 =>
  okI (0 : Int32) (so_ G1 v4.toInt64)) (fun e2 G3 => if e2 = 3 then okI (1 : Int32) G3 else exc e2 G3))
def D_Law_bayByWeight (a1 : Int32) (G : GS) : Res :=
  (D_PB_bayByWeight a1 G).bind (fun r => oI r (fun v4 G1 =>
  okI (0 : Int32) (so_ G1 v4.toInt64)) (fun e2 G3 => if e2 = 3 then okI (1 : Int32) G3 else exc e2 G3))
def D_Law_meanAge (G : GS) : Res :=
  (D_PB_meanAge G).bind (fun r => oD r (fun v4 G1 =>
  okI (0 : Int32) (sd_ G1 v4)) (fun e2 G3 => if e2 = 6 then okI (1 : Int32) G3 else exc e2 G3))
def D_Law_capsizedShare (G : GS) : Res :=
  (D_PB_capsizedShare G).bind (fun r => oF r (fun v4 G1 =>
  if (FP.f2d v4) &&& 0x7fffffffffffffff ≤ 0x7ff0000000000000 then
  okI (0 : Int32) (sd_ G1 (FP.f2d v4))
  else none) (fun e2 G3 => if e2 = 6 then okI (1 : Int32) G3 else exc e2 G3))
def D_Law_renderStack (a1 : Int32) (G : GS) : Res :=
  (D_PB_renderStack a1 G).bind (fun r => oI r (fun v4 G1 =>
  okI (0 : Int32) (so_ G1 v4.toInt64)) (fun e2 G3 => if e2 = 1 then okI (1 : Int32) G3 else exc e2 G3))
def D_Law_outputAt (a1 : Int32) (G : GS) : Res :=
  (D_PB_outputAt a1 G).bind (fun r => oI r (fun v4 G1 =>
  okI (0 : Int32) (so_ G1 v4.toInt64)) (fun e2 G3 => if e2 = 1 then okI (1 : Int32) G3 else exc e2 G3))
def D_Law_type (a1 : Int32) (G : GS) : Res :=
  (D_PB_type a1 G).bind (fun r => oI r (fun v4 G1 =>
  okI (0 : Int32) (so_ G1 v4.toInt64)) (fun e2 G3 => if e2 = 2 then okI (1 : Int32) G3 else if e2 = 4 then okI (2 : Int32) G3 else exc e2 G3))
def D_Law_runScript (G : GS) : Res :=
  (D_PB_runScript G).bind (fun r => oI r (fun v4 G1 =>
  okI (0 : Int32) (so_ G1 v4.toInt64)) (fun e2 G3 => if e2 = 2 then okI (1 : Int32) G3 else if e2 = 4 then okI (2 : Int32) G3 else exc e2 G3))
def D_Law_errorPosition (G : GS) : Res :=
  (D_PB_errorPosition G).bind (fun r => oI r (fun v4 G1 =>
  okI (0 : Int32) (so_ G1 v4.toInt64)) (fun e2 G3 => if e2 = 3 then okI (1 : Int32) G3 else exc e2 G3))
def D_Law_failedCommand (G : GS) : Res :=
  (D_PB_failedCommand G).bind (fun r => oI r (fun v4 G1 =>
  okI (0 : Int32) (so_ G1 v4.toInt64)) (fun e2 G3 => if e2 = 3 then okI (1 : Int32) G3 else exc e2 G3))
def D_Law_undo (G : GS) : Res :=
  (D_PB_undo G).bind (fun r => oI r (fun v4 G1 =>
  okI (0 : Int32) (so_ G1 v4.toInt64)) (fun e2 G3 => if e2 = 3 then okI (1 : Int32) G3 else exc e2 G3))
def D_Law_restore (G : GS) : Res :=
  (D_PB_restore G).bind (fun r => oI r (fun v4 G1 =>
  okI (0 : Int32) (so_ G1 v4.toInt64)) (fun e2 G3 => if e2 = 4 then okI (1 : Int32) G3 else exc e2 G3))
