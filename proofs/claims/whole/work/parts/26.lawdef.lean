/-! THE LAW'S LOOP AS A FUNCTION (printed by gen/run6.py; 80b has it no more) -/
def L_Law_law (sc : Nat × (Nat → Int32)) (kk : Nat) : Nat → Int32 → GS → Res
  | 0 => fun _ _ => none
  | k + 1 => fun x5 G =>
    if ((Int32.ofNat sc.1) - (4 : Int32)) < x5 then
      okI (1 : Int32) G
    else
      bif inb x5 sc.1 then
      if ((sc.2 x5.toNatClampNeg) &&& (63 : Int32)) = (0 : Int32) then
        bif inb (x5 + (1 : Int32)) sc.1 then
        bif inb (x5 + (2 : Int32)) sc.1 then
        bif inb (x5 + (3 : Int32)) sc.1 then
        (D_Law_load kk (sc.2 (x5 + (1 : Int32)).toNatClampNeg) (sc.2 (x5 + (2 : Int32)).toNatClampNeg) (sc.2 (x5 + (3 : Int32)).toNatClampNeg) G).bind (fun r => oI r (fun v4 G1 =>
        bif inb (x5 + (1 : Int32)) sc.1 then
        bif inb (x5 + (2 : Int32)) sc.1 then
        bif inb (x5 + (3 : Int32)) sc.1 then
        (D_Mo_load kk (sc.2 (x5 + (1 : Int32)).toNatClampNeg) (sc.2 (x5 + (2 : Int32)).toNatClampNeg) (sc.2 (x5 + (3 : Int32)).toNatClampNeg) G1).bind (fun r => oI r (fun v8 G5 =>
        (D_Mo_thrown kk G5).bind (fun r => oI r (fun v12 G9 =>
        if v12 = v4 then
          if v4 = 0 then
            if (lg_cmp (go_ G9) v8.toInt64) = 0 then
              (L_Law_law sc kk k) (x5 + (4 : Int32)) G9
            else
              okI (0 : Int32) G9
          else
            (L_Law_law sc kk k) (x5 + (4 : Int32)) G9
        else
          okI (0 : Int32) G9) exc)) exc)
        else none
        else none
        else none) exc)
        else none
        else none
        else none
      else if ((sc.2 x5.toNatClampNeg) &&& (63 : Int32)) = (1 : Int32) then
        bif inb (x5 + (1 : Int32)) sc.1 then
        (D_Law_unload kk (sc.2 (x5 + (1 : Int32)).toNatClampNeg) G).bind (fun r => oI r (fun v16 G13 =>
        bif inb (x5 + (1 : Int32)) sc.1 then
        (D_Mo_unload kk (sc.2 (x5 + (1 : Int32)).toNatClampNeg) G13).bind (fun r => oI r (fun v20 G17 =>
        (D_Mo_thrown kk G17).bind (fun r => oI r (fun v24 G21 =>
        if v24 = v16 then
          if v16 = 0 then
            if (lg_cmp (go_ G21) v20.toInt64) = 0 then
              (L_Law_law sc kk k) (x5 + (4 : Int32)) G21
            else
              okI (0 : Int32) G21
          else
            (L_Law_law sc kk k) (x5 + (4 : Int32)) G21
        else
          okI (0 : Int32) G21) exc)) exc)
        else none) exc)
        else none
      else if ((sc.2 x5.toNatClampNeg) &&& (63 : Int32)) = (2 : Int32) then
        bif inb (x5 + (1 : Int32)) sc.1 then
        bif inb (x5 + (2 : Int32)) sc.1 then
        (D_Law_shift kk (sc.2 (x5 + (1 : Int32)).toNatClampNeg) (sc.2 (x5 + (2 : Int32)).toNatClampNeg) G).bind (fun r => oI r (fun v28 G25 =>
        bif inb (x5 + (1 : Int32)) sc.1 then
        bif inb (x5 + (2 : Int32)) sc.1 then
        (D_Mo_shift kk (sc.2 (x5 + (1 : Int32)).toNatClampNeg) (sc.2 (x5 + (2 : Int32)).toNatClampNeg) G25).bind (fun r => oI r (fun v32 G29 =>
        (D_Mo_thrown kk G29).bind (fun r => oI r (fun v36 G33 =>
        if v36 = v28 then
          if v28 = 0 then
            if (lg_cmp (go_ G33) v32.toInt64) = 0 then
              (L_Law_law sc kk k) (x5 + (4 : Int32)) G33
            else
              okI (0 : Int32) G33
          else
            (L_Law_law sc kk k) (x5 + (4 : Int32)) G33
        else
          okI (0 : Int32) G33) exc)) exc)
        else none
        else none) exc)
        else none
        else none
      else if ((sc.2 x5.toNatClampNeg) &&& (63 : Int32)) = (3 : Int32) then
        bif inb (x5 + (1 : Int32)) sc.1 then
        (D_Law_sail kk (sc.2 (x5 + (1 : Int32)).toNatClampNeg) G).bind (fun r => oI r (fun v40 G37 =>
        bif inb (x5 + (1 : Int32)) sc.1 then
        (D_Mo_sail kk (sc.2 (x5 + (1 : Int32)).toNatClampNeg) G37).bind (fun r => oI r (fun v44 G41 =>
        (D_Mo_thrown kk G41).bind (fun r => oI r (fun v48 G45 =>
        if v48 = v40 then
          if v40 = 0 then
            if (lg_cmp (go_ G45) v44.toInt64) = 0 then
              (L_Law_law sc kk k) (x5 + (4 : Int32)) G45
            else
              okI (0 : Int32) G45
          else
            (L_Law_law sc kk k) (x5 + (4 : Int32)) G45
        else
          okI (0 : Int32) G45) exc)) exc)
        else none) exc)
        else none
      else if ((sc.2 x5.toNatClampNeg) &&& (63 : Int32)) = (4 : Int32) then
        (D_PB_turn kk G).bind (fun r => oI r (fun v52 G49 =>
        (D_Mo_turn kk G49).bind (fun r => oI r (fun v56 G53 =>
        if v52 = v56 then
          (L_Law_law sc kk k) (x5 + (4 : Int32)) G53
        else
          okI (0 : Int32) G53) exc)) exc)
      else if ((sc.2 x5.toNatClampNeg) &&& (63 : Int32)) = (5 : Int32) then
        bif inb (x5 + (1 : Int32)) sc.1 then
        (D_Law_setLimit kk (sc.2 (x5 + (1 : Int32)).toNatClampNeg) G).bind (fun r => oI r (fun v60 G57 =>
        bif inb (x5 + (1 : Int32)) sc.1 then
        (D_Mo_setLimit kk (sc.2 (x5 + (1 : Int32)).toNatClampNeg) G57).bind (fun r => oI r (fun v64 G61 =>
        (D_Mo_thrown kk G61).bind (fun r => oI r (fun v68 G65 =>
        if v68 = v60 then
          if v60 = 0 then
            if (lg_cmp (go_ G65) v64.toInt64) = 0 then
              (L_Law_law sc kk k) (x5 + (4 : Int32)) G65
            else
              okI (0 : Int32) G65
          else
            (L_Law_law sc kk k) (x5 + (4 : Int32)) G65
        else
          okI (0 : Int32) G65) exc)) exc)
        else none) exc)
        else none
      else if ((sc.2 x5.toNatClampNeg) &&& (63 : Int32)) = (6 : Int32) then
        bif inb (x5 + (1 : Int32)) sc.1 then
        (D_Law_drill kk (sc.2 (x5 + (1 : Int32)).toNatClampNeg) G).bind (fun r => oI r (fun v72 G69 =>
        bif inb (x5 + (1 : Int32)) sc.1 then
        (D_Mo_drill kk (sc.2 (x5 + (1 : Int32)).toNatClampNeg) G69).bind (fun r => oI r (fun v76 G73 =>
        (D_Mo_thrown kk G73).bind (fun r => oI r (fun v80 G77 =>
        if v80 = v72 then
          if v72 = 0 then
            if v76 = 0 then
              if (lg_cmp (go_ G77) (0 : Int64)) = 0 then
                (L_Law_law sc kk k) (x5 + (4 : Int32)) G77
              else
                okI (0 : Int32) G77
            else
              if (lg_cmp (go_ G77) (1 : Int64)) = 0 then
                (L_Law_law sc kk k) (x5 + (4 : Int32)) G77
              else
                okI (0 : Int32) G77
          else
            (L_Law_law sc kk k) (x5 + (4 : Int32)) G77
        else
          okI (0 : Int32) G77) exc)) exc)
        else none) exc)
        else none
      else if ((sc.2 x5.toNatClampNeg) &&& (63 : Int32)) = (7 : Int32) then
        (D_PB_pillowCount kk G).bind (fun r => oI r (fun v84 G81 =>
        (D_Mo_pillowCount kk G81).bind (fun r => oI r (fun v88 G85 =>
        if v84 = v88 then
          (L_Law_law sc kk k) (x5 + (4 : Int32)) G85
        else
          okI (0 : Int32) G85) exc)) exc)
      else if ((sc.2 x5.toNatClampNeg) &&& (63 : Int32)) = (8 : Int32) then
        bif inb (x5 + (1 : Int32)) sc.1 then
        (D_Law_stackHeight kk (sc.2 (x5 + (1 : Int32)).toNatClampNeg) G).bind (fun r => oI r (fun v92 G89 =>
        bif inb (x5 + (1 : Int32)) sc.1 then
        (D_Mo_stackHeight kk (sc.2 (x5 + (1 : Int32)).toNatClampNeg) G89).bind (fun r => oI r (fun v96 G93 =>
        (D_Mo_thrown kk G93).bind (fun r => oI r (fun v100 G97 =>
        if v100 = v92 then
          if v92 = 0 then
            if (lg_cmp (go_ G97) v96.toInt64) = 0 then
              (L_Law_law sc kk k) (x5 + (4 : Int32)) G97
            else
              okI (0 : Int32) G97
          else
            (L_Law_law sc kk k) (x5 + (4 : Int32)) G97
        else
          okI (0 : Int32) G97) exc)) exc)
        else none) exc)
        else none
      else if ((sc.2 x5.toNatClampNeg) &&& (63 : Int32)) = (9 : Int32) then
        bif inb (x5 + (1 : Int32)) sc.1 then
        bif inb (x5 + (2 : Int32)) sc.1 then
        (D_Law_pillowAt kk (sc.2 (x5 + (1 : Int32)).toNatClampNeg) (sc.2 (x5 + (2 : Int32)).toNatClampNeg) G).bind (fun r => oI r (fun v104 G101 =>
        bif inb (x5 + (1 : Int32)) sc.1 then
        bif inb (x5 + (2 : Int32)) sc.1 then
        (D_Mo_pillowAt kk (sc.2 (x5 + (1 : Int32)).toNatClampNeg) (sc.2 (x5 + (2 : Int32)).toNatClampNeg) G101).bind (fun r => oI r (fun v108 G105 =>
        (D_Mo_thrown kk G105).bind (fun r => oI r (fun v112 G109 =>
        if v112 = v104 then
          if v104 = 0 then
            if (lg_cmp (go_ G109) v108.toInt64) = 0 then
              (L_Law_law sc kk k) (x5 + (4 : Int32)) G109
            else
              okI (0 : Int32) G109
          else
            (L_Law_law sc kk k) (x5 + (4 : Int32)) G109
        else
          okI (0 : Int32) G109) exc)) exc)
        else none
        else none) exc)
        else none
        else none
      else if ((sc.2 x5.toNatClampNeg) &&& (63 : Int32)) = (10 : Int32) then
        bif inb (x5 + (1 : Int32)) sc.1 then
        (D_Law_weightOf kk (sc.2 (x5 + (1 : Int32)).toNatClampNeg) G).bind (fun r => oI r (fun v116 G113 =>
        bif inb (x5 + (1 : Int32)) sc.1 then
        (D_Mo_weightOf kk (sc.2 (x5 + (1 : Int32)).toNatClampNeg) G113).bind (fun r => oI r (fun v120 G117 =>
        (D_Mo_thrown kk G117).bind (fun r => oI r (fun v124 G121 =>
        if v124 = v116 then
          if v116 = 0 then
            if (lg_cmp (go_ G121) v120.toInt64) = 0 then
              (L_Law_law sc kk k) (x5 + (4 : Int32)) G121
            else
              okI (0 : Int32) G121
          else
            (L_Law_law sc kk k) (x5 + (4 : Int32)) G121
        else
          okI (0 : Int32) G121) exc)) exc)
        else none) exc)
        else none
      else if ((sc.2 x5.toNatClampNeg) &&& (63 : Int32)) = (11 : Int32) then
        bif inb (x5 + (1 : Int32)) sc.1 then
        (D_Law_destinationOf kk (sc.2 (x5 + (1 : Int32)).toNatClampNeg) G).bind (fun r => oI r (fun v128 G125 =>
        bif inb (x5 + (1 : Int32)) sc.1 then
        (D_Mo_destinationOf kk (sc.2 (x5 + (1 : Int32)).toNatClampNeg) G125).bind (fun r => oI r (fun v132 G129 =>
        (D_Mo_thrown kk G129).bind (fun r => oI r (fun v136 G133 =>
        if v136 = v128 then
          if v128 = 0 then
            if (lg_cmp (go_ G133) v132.toInt64) = 0 then
              (L_Law_law sc kk k) (x5 + (4 : Int32)) G133
            else
              okI (0 : Int32) G133
          else
            (L_Law_law sc kk k) (x5 + (4 : Int32)) G133
        else
          okI (0 : Int32) G133) exc)) exc)
        else none) exc)
        else none
      else if ((sc.2 x5.toNatClampNeg) &&& (63 : Int32)) = (12 : Int32) then
        bif inb (x5 + (1 : Int32)) sc.1 then
        (D_Law_bayOf kk (sc.2 (x5 + (1 : Int32)).toNatClampNeg) G).bind (fun r => oI r (fun v140 G137 =>
        bif inb (x5 + (1 : Int32)) sc.1 then
        (D_Mo_bayOf kk (sc.2 (x5 + (1 : Int32)).toNatClampNeg) G137).bind (fun r => oI r (fun v144 G141 =>
        (D_Mo_thrown kk G141).bind (fun r => oI r (fun v148 G145 =>
        if v148 = v140 then
          if v140 = 0 then
            if (lg_cmp (go_ G145) v144.toInt64) = 0 then
              (L_Law_law sc kk k) (x5 + (4 : Int32)) G145
            else
              okI (0 : Int32) G145
          else
            (L_Law_law sc kk k) (x5 + (4 : Int32)) G145
        else
          okI (0 : Int32) G145) exc)) exc)
        else none) exc)
        else none
      else if ((sc.2 x5.toNatClampNeg) &&& (63 : Int32)) = (13 : Int32) then
        bif inb (x5 + (1 : Int32)) sc.1 then
        (D_Law_positionOf kk (sc.2 (x5 + (1 : Int32)).toNatClampNeg) G).bind (fun r => oI r (fun v152 G149 =>
        bif inb (x5 + (1 : Int32)) sc.1 then
        (D_Mo_positionOf kk (sc.2 (x5 + (1 : Int32)).toNatClampNeg) G149).bind (fun r => oI r (fun v156 G153 =>
        (D_Mo_thrown kk G153).bind (fun r => oI r (fun v160 G157 =>
        if v160 = v152 then
          if v152 = 0 then
            if (lg_cmp (go_ G157) v156.toInt64) = 0 then
              (L_Law_law sc kk k) (x5 + (4 : Int32)) G157
            else
              okI (0 : Int32) G157
          else
            (L_Law_law sc kk k) (x5 + (4 : Int32)) G157
        else
          okI (0 : Int32) G157) exc)) exc)
        else none) exc)
        else none
      else if ((sc.2 x5.toNatClampNeg) &&& (63 : Int32)) = (14 : Int32) then
        bif inb (x5 + (1 : Int32)) sc.1 then
        (D_Law_ageOf kk (sc.2 (x5 + (1 : Int32)).toNatClampNeg) G).bind (fun r => oI r (fun v164 G161 =>
        bif inb (x5 + (1 : Int32)) sc.1 then
        (D_Mo_ageOf kk (sc.2 (x5 + (1 : Int32)).toNatClampNeg) G161).bind (fun r => oI r (fun v168 G165 =>
        (D_Mo_thrown kk G165).bind (fun r => oI r (fun v172 G169 =>
        if v172 = v164 then
          if v164 = 0 then
            if (lg_cmp (go_ G169) v168.toInt64) = 0 then
              (L_Law_law sc kk k) (x5 + (4 : Int32)) G169
            else
              okI (0 : Int32) G169
          else
            (L_Law_law sc kk k) (x5 + (4 : Int32)) G169
        else
          okI (0 : Int32) G169) exc)) exc)
        else none) exc)
        else none
      else if ((sc.2 x5.toNatClampNeg) &&& (63 : Int32)) = (15 : Int32) then
        (D_PB_moment kk G).bind (fun r => oI r (fun v176 G173 =>
        (D_Mo_moment kk G173).bind (fun r => oI r (fun v180 G177 =>
        if v176 = v180 then
          (L_Law_law sc kk k) (x5 + (4 : Int32)) G177
        else
          okI (0 : Int32) G177) exc)) exc)
      else if ((sc.2 x5.toNatClampNeg) &&& (63 : Int32)) = (16 : Int32) then
        (D_PB_momentByBays kk G).bind (fun r => oI r (fun v184 G181 =>
        (D_Mo_momentByBays kk G181).bind (fun r => oI r (fun v188 G185 =>
        if v184 = v188 then
          (L_Law_law sc kk k) (x5 + (4 : Int32)) G185
        else
          okI (0 : Int32) G185) exc)) exc)
      else if ((sc.2 x5.toNatClampNeg) &&& (63 : Int32)) = (17 : Int32) then
        (D_PB_totalWeight kk G).bind (fun r => oI r (fun v192 G189 =>
        (D_Mo_totalWeight kk G189).bind (fun r => oI r (fun v196 G193 =>
        if v192 = v196 then
          (L_Law_law sc kk k) (x5 + (4 : Int32)) G193
        else
          okI (0 : Int32) G193) exc)) exc)
      else if ((sc.2 x5.toNatClampNeg) &&& (63 : Int32)) = (18 : Int32) then
        bif inb (x5 + (1 : Int32)) sc.1 then
        (D_Law_weightFor kk (sc.2 (x5 + (1 : Int32)).toNatClampNeg) G).bind (fun r => oI r (fun v200 G197 =>
        bif inb (x5 + (1 : Int32)) sc.1 then
        (D_Mo_weightFor kk (sc.2 (x5 + (1 : Int32)).toNatClampNeg) G197).bind (fun r => oI r (fun v204 G201 =>
        (D_Mo_thrown kk G201).bind (fun r => oI r (fun v208 G205 =>
        if v208 = v200 then
          if v200 = 0 then
            if (lg_cmp (go_ G205) v204.toInt64) = 0 then
              (L_Law_law sc kk k) (x5 + (4 : Int32)) G205
            else
              okI (0 : Int32) G205
          else
            (L_Law_law sc kk k) (x5 + (4 : Int32)) G205
        else
          okI (0 : Int32) G205) exc)) exc)
        else none) exc)
        else none
      else if ((sc.2 x5.toNatClampNeg) &&& (63 : Int32)) = (19 : Int32) then
        (D_PB_limit kk G).bind (fun r => oI r (fun v212 G209 =>
        (D_Mo_limit kk G209).bind (fun r => oI r (fun v216 G213 =>
        if v212 = v216 then
          (L_Law_law sc kk k) (x5 + (4 : Int32)) G213
        else
          okI (0 : Int32) G213) exc)) exc)
      else if ((sc.2 x5.toNatClampNeg) &&& (63 : Int32)) = (20 : Int32) then
        (D_PB_listAngle kk G).bind (fun r => oF r (fun v220 G217 =>
        if (FP.f2d v220) &&& 0x7fffffffffffffff ≤ 0x7ff0000000000000 then
        (D_Mo_listAngle kk G217).bind (fun r => oF r (fun v224 G221 =>
        if (FP.f2d v224) &&& 0x7fffffffffffffff ≤ 0x7ff0000000000000 then
        if (Op.cmpValue (FP.dcmp (FP.f2d v220) (FP.f2d v224)) .l) = 0 then
          (L_Law_law sc kk k) (x5 + (4 : Int32)) G221
        else
          if (Op.cmpValue (FP.dcmp (FP.f2d v220) (FP.f2d v220)) .l) = 0 then
            okI (0 : Int32) G221
          else
            if (Op.cmpValue (FP.dcmp (FP.f2d v224) (FP.f2d v224)) .l) = 0 then
              okI (0 : Int32) G221
            else
              (L_Law_law sc kk k) (x5 + (4 : Int32)) G221
        else none) exc)
        else none) exc)
      else if ((sc.2 x5.toNatClampNeg) &&& (63 : Int32)) = (21 : Int32) then
        (D_PB_greatestPush kk G).bind (fun r => oI r (fun v228 G225 =>
        (D_Mo_greatestPush kk G225).bind (fun r => oI r (fun v232 G229 =>
        if v228 = v232 then
          (L_Law_law sc kk k) (x5 + (4 : Int32)) G229
        else
          okI (0 : Int32) G229) exc)) exc)
      else if ((sc.2 x5.toNatClampNeg) &&& (63 : Int32)) = (22 : Int32) then
        bif inb (x5 + (1 : Int32)) sc.1 then
        (D_Law_levelingBay kk (sc.2 (x5 + (1 : Int32)).toNatClampNeg) G).bind (fun r => oI r (fun v236 G233 =>
        bif inb (x5 + (1 : Int32)) sc.1 then
        (D_Mo_levelingBay kk (sc.2 (x5 + (1 : Int32)).toNatClampNeg) G233).bind (fun r => oI r (fun v240 G237 =>
        (D_Mo_thrown kk G237).bind (fun r => oI r (fun v244 G241 =>
        if v244 = v236 then
          if v236 = 0 then
            if (lg_cmp (go_ G241) v240.toInt64) = 0 then
              (L_Law_law sc kk k) (x5 + (4 : Int32)) G241
            else
              okI (0 : Int32) G241
          else
            (L_Law_law sc kk k) (x5 + (4 : Int32)) G241
        else
          okI (0 : Int32) G241) exc)) exc)
        else none) exc)
        else none
      else if ((sc.2 x5.toNatClampNeg) &&& (63 : Int32)) = (23 : Int32) then
        (D_PB_port kk G).bind (fun r => oI r (fun v248 G245 =>
        (D_Mo_port kk G245).bind (fun r => oI r (fun v252 G249 =>
        if v248 = v252 then
          (L_Law_law sc kk k) (x5 + (4 : Int32)) G249
        else
          okI (0 : Int32) G249) exc)) exc)
      else if ((sc.2 x5.toNatClampNeg) &&& (63 : Int32)) = (24 : Int32) then
        (D_PB_day kk G).bind (fun r => oI r (fun v256 G253 =>
        (D_Mo_day kk G253).bind (fun r => oI r (fun v260 G257 =>
        if v256 = v260 then
          (L_Law_law sc kk k) (x5 + (4 : Int32)) G257
        else
          okI (0 : Int32) G257) exc)) exc)
      else if ((sc.2 x5.toNatClampNeg) &&& (63 : Int32)) = (25 : Int32) then
        (D_PB_isAscending kk G).bind (fun r => oI r (fun v264 G261 =>
        (D_Mo_isAscending kk G261).bind (fun r => oI r (fun v268 G265 =>
        if v264 = v268 then
          (L_Law_law sc kk k) (x5 + (4 : Int32)) G265
        else
          okI (0 : Int32) G265) exc)) exc)
      else if ((sc.2 x5.toNatClampNeg) &&& (63 : Int32)) = (26 : Int32) then
        bif inb (x5 + (1 : Int32)) sc.1 then
        (D_Law_legsTo kk (sc.2 (x5 + (1 : Int32)).toNatClampNeg) G).bind (fun r => oI r (fun v272 G269 =>
        bif inb (x5 + (1 : Int32)) sc.1 then
        (D_Mo_legsTo kk (sc.2 (x5 + (1 : Int32)).toNatClampNeg) G269).bind (fun r => oI r (fun v276 G273 =>
        (D_Mo_thrown kk G273).bind (fun r => oI r (fun v280 G277 =>
        if v280 = v272 then
          if v272 = 0 then
            if (lg_cmp (go_ G277) v276.toInt64) = 0 then
              (L_Law_law sc kk k) (x5 + (4 : Int32)) G277
            else
              okI (0 : Int32) G277
          else
            (L_Law_law sc kk k) (x5 + (4 : Int32)) G277
        else
          okI (0 : Int32) G277) exc)) exc)
        else none) exc)
        else none
      else if ((sc.2 x5.toNatClampNeg) &&& (63 : Int32)) = (27 : Int32) then
        bif inb (x5 + (1 : Int32)) sc.1 then
        (D_Law_portAfter kk (sc.2 (x5 + (1 : Int32)).toNatClampNeg) G).bind (fun r => oI r (fun v284 G281 =>
        bif inb (x5 + (1 : Int32)) sc.1 then
        (D_Mo_portAfter kk (sc.2 (x5 + (1 : Int32)).toNatClampNeg) G281).bind (fun r => oI r (fun v288 G285 =>
        (D_Mo_thrown kk G285).bind (fun r => oI r (fun v292 G289 =>
        if v292 = v284 then
          if v284 = 0 then
            if (lg_cmp (go_ G289) v288.toInt64) = 0 then
              (L_Law_law sc kk k) (x5 + (4 : Int32)) G289
            else
              okI (0 : Int32) G289
          else
            (L_Law_law sc kk k) (x5 + (4 : Int32)) G289
        else
          okI (0 : Int32) G289) exc)) exc)
        else none) exc)
        else none
      else if ((sc.2 x5.toNatClampNeg) &&& (63 : Int32)) = (28 : Int32) then
        bif inb (x5 + (1 : Int32)) sc.1 then
        (D_Law_pillowsInTheWay kk (sc.2 (x5 + (1 : Int32)).toNatClampNeg) G).bind (fun r => oI r (fun v296 G293 =>
        bif inb (x5 + (1 : Int32)) sc.1 then
        (D_Mo_pillowsInTheWay kk (sc.2 (x5 + (1 : Int32)).toNatClampNeg) G293).bind (fun r => oI r (fun v300 G297 =>
        (D_Mo_thrown kk G297).bind (fun r => oI r (fun v304 G301 =>
        if v304 = v296 then
          if v296 = 0 then
            if (lg_cmp (go_ G301) v300.toInt64) = 0 then
              (L_Law_law sc kk k) (x5 + (4 : Int32)) G301
            else
              okI (0 : Int32) G301
          else
            (L_Law_law sc kk k) (x5 + (4 : Int32)) G301
        else
          okI (0 : Int32) G301) exc)) exc)
        else none) exc)
        else none
      else if ((sc.2 x5.toNatClampNeg) &&& (63 : Int32)) = (29 : Int32) then
        (D_PB_pairsInTheWay kk G).bind (fun r => oI r (fun v308 G305 =>
        (D_Mo_pairsInTheWay kk G305).bind (fun r => oI r (fun v312 G309 =>
        if v308 = v312 then
          (L_Law_law sc kk k) (x5 + (4 : Int32)) G309
        else
          okI (0 : Int32) G309) exc)) exc)
      else if ((sc.2 x5.toNatClampNeg) &&& (63 : Int32)) = (30 : Int32) then
        (D_PB_pairsInTheWayByStacks kk G).bind (fun r => oI r (fun v316 G313 =>
        (D_Mo_pairsInTheWayByStacks kk G313).bind (fun r => oI r (fun v320 G317 =>
        if v316 = v320 then
          (L_Law_law sc kk k) (x5 + (4 : Int32)) G317
        else
          okI (0 : Int32) G317) exc)) exc)
      else if ((sc.2 x5.toNatClampNeg) &&& (63 : Int32)) = (31 : Int32) then
        (D_PB_unloadableCount kk G).bind (fun r => oI r (fun v324 G321 =>
        (D_Mo_unloadableCount kk G321).bind (fun r => oI r (fun v328 G325 =>
        if v324 = v328 then
          (L_Law_law sc kk k) (x5 + (4 : Int32)) G325
        else
          okI (0 : Int32) G325) exc)) exc)
      else if ((sc.2 x5.toNatClampNeg) &&& (63 : Int32)) = (32 : Int32) then
        bif inb (x5 + (1 : Int32)) sc.1 then
        (D_Law_oldestIn kk (sc.2 (x5 + (1 : Int32)).toNatClampNeg) G).bind (fun r => oI r (fun v332 G329 =>
        bif inb (x5 + (1 : Int32)) sc.1 then
        (D_Mo_oldestIn kk (sc.2 (x5 + (1 : Int32)).toNatClampNeg) G329).bind (fun r => oI r (fun v336 G333 =>
        (D_Mo_thrown kk G333).bind (fun r => oI r (fun v340 G337 =>
        if v340 = v332 then
          if v332 = 0 then
            if (lg_cmp (go_ G337) v336.toInt64) = 0 then
              (L_Law_law sc kk k) (x5 + (4 : Int32)) G337
            else
              okI (0 : Int32) G337
          else
            (L_Law_law sc kk k) (x5 + (4 : Int32)) G337
        else
          okI (0 : Int32) G337) exc)) exc)
        else none) exc)
        else none
      else if ((sc.2 x5.toNatClampNeg) &&& (63 : Int32)) = (33 : Int32) then
        (D_Law_heaviestPort kk G).bind (fun r => oI r (fun v344 G341 =>
        (D_Mo_heaviestPort kk G341).bind (fun r => oI r (fun v348 G345 =>
        (D_Mo_thrown kk G345).bind (fun r => oI r (fun v352 G349 =>
        if v352 = v344 then
          if v344 = 0 then
            if (lg_cmp (go_ G349) v348.toInt64) = 0 then
              (L_Law_law sc kk k) (x5 + (4 : Int32)) G349
            else
              okI (0 : Int32) G349
          else
            (L_Law_law sc kk k) (x5 + (4 : Int32)) G349
        else
          okI (0 : Int32) G349) exc)) exc)) exc)
      else if ((sc.2 x5.toNatClampNeg) &&& (63 : Int32)) = (34 : Int32) then
        (D_PB_possibleShifts kk G).bind (fun r => oI r (fun v356 G353 =>
        (D_Mo_possibleShifts kk G353).bind (fun r => oI r (fun v360 G357 =>
        if v356 = v360 then
          (L_Law_law sc kk k) (x5 + (4 : Int32)) G357
        else
          okI (0 : Int32) G357) exc)) exc)
      else if ((sc.2 x5.toNatClampNeg) &&& (63 : Int32)) = (35 : Int32) then
        bif inb (x5 + (1 : Int32)) sc.1 then
        (D_Law_pillowByTurn kk (sc.2 (x5 + (1 : Int32)).toNatClampNeg) G).bind (fun r => oI r (fun v364 G361 =>
        bif inb (x5 + (1 : Int32)) sc.1 then
        (D_Mo_pillowByTurn kk (sc.2 (x5 + (1 : Int32)).toNatClampNeg) G361).bind (fun r => oI r (fun v368 G365 =>
        (D_Mo_thrown kk G365).bind (fun r => oI r (fun v372 G369 =>
        if v372 = v364 then
          if v364 = 0 then
            if (lg_cmp (go_ G369) v368.toInt64) = 0 then
              (L_Law_law sc kk k) (x5 + (4 : Int32)) G369
            else
              okI (0 : Int32) G369
          else
            (L_Law_law sc kk k) (x5 + (4 : Int32)) G369
        else
          okI (0 : Int32) G369) exc)) exc)
        else none) exc)
        else none
      else if ((sc.2 x5.toNatClampNeg) &&& (63 : Int32)) = (36 : Int32) then
        bif inb (x5 + (1 : Int32)) sc.1 then
        (D_Law_bayByWeight kk (sc.2 (x5 + (1 : Int32)).toNatClampNeg) G).bind (fun r => oI r (fun v376 G373 =>
        bif inb (x5 + (1 : Int32)) sc.1 then
        (D_Mo_bayByWeight kk (sc.2 (x5 + (1 : Int32)).toNatClampNeg) G373).bind (fun r => oI r (fun v380 G377 =>
        (D_Mo_thrown kk G377).bind (fun r => oI r (fun v384 G381 =>
        if v384 = v376 then
          if v376 = 0 then
            if (lg_cmp (go_ G381) v380.toInt64) = 0 then
              (L_Law_law sc kk k) (x5 + (4 : Int32)) G381
            else
              okI (0 : Int32) G381
          else
            (L_Law_law sc kk k) (x5 + (4 : Int32)) G381
        else
          okI (0 : Int32) G381) exc)) exc)
        else none) exc)
        else none
      else if ((sc.2 x5.toNatClampNeg) &&& (63 : Int32)) = (37 : Int32) then
        (D_PB_loadedTotal kk G).bind (fun r => oI r (fun v388 G385 =>
        (D_Mo_loadedTotal kk G385).bind (fun r => oI r (fun v392 G389 =>
        if v388 = v392 then
          (L_Law_law sc kk k) (x5 + (4 : Int32)) G389
        else
          okI (0 : Int32) G389) exc)) exc)
      else if ((sc.2 x5.toNatClampNeg) &&& (63 : Int32)) = (38 : Int32) then
        (D_PB_deliveredTotal kk G).bind (fun r => oI r (fun v396 G393 =>
        (D_Mo_deliveredTotal kk G393).bind (fun r => oI r (fun v400 G397 =>
        if v396 = v400 then
          (L_Law_law sc kk k) (x5 + (4 : Int32)) G397
        else
          okI (0 : Int32) G397) exc)) exc)
      else if ((sc.2 x5.toNatClampNeg) &&& (63 : Int32)) = (39 : Int32) then
        (D_PB_deliveredWeight kk G).bind (fun r => oI r (fun v404 G401 =>
        (D_Mo_deliveredWeight kk G401).bind (fun r => oI r (fun v408 G405 =>
        if v404 = v408 then
          (L_Law_law sc kk k) (x5 + (4 : Int32)) G405
        else
          okI (0 : Int32) G405) exc)) exc)
      else if ((sc.2 x5.toNatClampNeg) &&& (63 : Int32)) = (40 : Int32) then
        (D_PB_drillTotal kk G).bind (fun r => oI r (fun v412 G409 =>
        (D_Mo_drillTotal kk G409).bind (fun r => oI r (fun v416 G413 =>
        if v412 = v416 then
          (L_Law_law sc kk k) (x5 + (4 : Int32)) G413
        else
          okI (0 : Int32) G413) exc)) exc)
      else if ((sc.2 x5.toNatClampNeg) &&& (63 : Int32)) = (41 : Int32) then
        (D_PB_capsizedTotal kk G).bind (fun r => oI r (fun v420 G417 =>
        (D_Mo_capsizedTotal kk G417).bind (fun r => oI r (fun v424 G421 =>
        if v420 = v424 then
          (L_Law_law sc kk k) (x5 + (4 : Int32)) G421
        else
          okI (0 : Int32) G421) exc)) exc)
      else if ((sc.2 x5.toNatClampNeg) &&& (63 : Int32)) = (42 : Int32) then
        (D_Law_meanAge kk G).bind (fun r => oI r (fun v428 G425 =>
        (D_Mo_meanAge kk G425).bind (fun r => oD r (fun v432 G429 =>
        (D_Mo_thrown kk G429).bind (fun r => oI r (fun v436 G433 =>
        if v436 = v428 then
          if v428 = 0 then
            if (Op.cmpValue (FP.dcmp (gd_ G433) v432) .l) = 0 then
              (L_Law_law sc kk k) (x5 + (4 : Int32)) G433
            else
              if (Op.cmpValue (FP.dcmp (gd_ G433) (gd_ G433)) .l) = 0 then
                okI (0 : Int32) G433
              else
                if (Op.cmpValue (FP.dcmp v432 v432) .l) = 0 then
                  okI (0 : Int32) G433
                else
                  (L_Law_law sc kk k) (x5 + (4 : Int32)) G433
          else
            (L_Law_law sc kk k) (x5 + (4 : Int32)) G433
        else
          okI (0 : Int32) G433) exc)) exc)) exc)
      else if ((sc.2 x5.toNatClampNeg) &&& (63 : Int32)) = (43 : Int32) then
        (D_Law_capsizedShare kk G).bind (fun r => oI r (fun v440 G437 =>
        (D_Mo_capsizedShare kk G437).bind (fun r => oF r (fun v444 G441 =>
        (D_Mo_thrown kk G441).bind (fun r => oI r (fun v448 G445 =>
        if v448 = v440 then
          if v440 = 0 then
            if (FP.f2d v444) &&& 0x7fffffffffffffff ≤ 0x7ff0000000000000 then
            if (Op.cmpValue (FP.dcmp (gd_ G445) (FP.f2d v444)) .l) = 0 then
              (L_Law_law sc kk k) (x5 + (4 : Int32)) G445
            else
              if (Op.cmpValue (FP.dcmp (gd_ G445) (gd_ G445)) .l) = 0 then
                okI (0 : Int32) G445
              else
                if (Op.cmpValue (FP.fcmp v444 v444) .l) = 0 then
                  okI (0 : Int32) G445
                else
                  (L_Law_law sc kk k) (x5 + (4 : Int32)) G445
            else none
          else
            (L_Law_law sc kk k) (x5 + (4 : Int32)) G445
        else
          okI (0 : Int32) G445) exc)) exc)) exc)
      else if ((sc.2 x5.toNatClampNeg) &&& (63 : Int32)) = (44 : Int32) then
        (D_PB_isConsistent kk G).bind (fun r => oI r (fun v452 G449 =>
        (D_Mo_isConsistent kk G449).bind (fun r => oI r (fun v456 G453 =>
        if v452 = v456 then
          (L_Law_law sc kk k) (x5 + (4 : Int32)) G453
        else
          okI (0 : Int32) G453) exc)) exc)
      else if ((sc.2 x5.toNatClampNeg) &&& (63 : Int32)) = (45 : Int32) then
        bif inb (x5 + (1 : Int32)) sc.1 then
        (D_Law_renderStack kk (sc.2 (x5 + (1 : Int32)).toNatClampNeg) G).bind (fun r => oI r (fun v460 G457 =>
        bif inb (x5 + (1 : Int32)) sc.1 then
        (D_Mo_renderStack kk (sc.2 (x5 + (1 : Int32)).toNatClampNeg) G457).bind (fun r => oI r (fun v464 G461 =>
        (D_Mo_thrown kk G461).bind (fun r => oI r (fun v468 G465 =>
        if v468 = v460 then
          if v460 = 0 then
            if (lg_cmp (go_ G465) v464.toInt64) = 0 then
              (L_Law_law sc kk k) (x5 + (4 : Int32)) G465
            else
              okI (0 : Int32) G465
          else
            (L_Law_law sc kk k) (x5 + (4 : Int32)) G465
        else
          okI (0 : Int32) G465) exc)) exc)
        else none) exc)
        else none
      else if ((sc.2 x5.toNatClampNeg) &&& (63 : Int32)) = (46 : Int32) then
        (D_PB_renderBarge kk G).bind (fun r => oI r (fun v472 G469 =>
        (D_Mo_renderBarge kk G469).bind (fun r => oI r (fun v476 G473 =>
        if v472 = v476 then
          (L_Law_law sc kk k) (x5 + (4 : Int32)) G473
        else
          okI (0 : Int32) G473) exc)) exc)
      else if ((sc.2 x5.toNatClampNeg) &&& (63 : Int32)) = (47 : Int32) then
        bif inb (x5 + (1 : Int32)) sc.1 then
        (D_Law_outputAt kk (sc.2 (x5 + (1 : Int32)).toNatClampNeg) G).bind (fun r => oI r (fun v480 G477 =>
        bif inb (x5 + (1 : Int32)) sc.1 then
        (D_Mo_outputAt kk (sc.2 (x5 + (1 : Int32)).toNatClampNeg) G477).bind (fun r => oI r (fun v484 G481 =>
        (D_Mo_thrown kk G481).bind (fun r => oI r (fun v488 G485 =>
        if v488 = v480 then
          if v480 = 0 then
            if (lg_cmp (go_ G485) v484.toInt64) = 0 then
              (L_Law_law sc kk k) (x5 + (4 : Int32)) G485
            else
              okI (0 : Int32) G485
          else
            (L_Law_law sc kk k) (x5 + (4 : Int32)) G485
        else
          okI (0 : Int32) G485) exc)) exc)
        else none) exc)
        else none
      else if ((sc.2 x5.toNatClampNeg) &&& (63 : Int32)) = (48 : Int32) then
        bif inb (x5 + (1 : Int32)) sc.1 then
        (D_Law_type kk (((sc.2 (x5 + (1 : Int32)).toNatClampNeg).toUInt32 % 65536).toInt32) G).bind (fun r => oI r (fun v492 G489 =>
        bif inb (x5 + (1 : Int32)) sc.1 then
        (D_Mo_type kk (((sc.2 (x5 + (1 : Int32)).toNatClampNeg).toUInt32 % 65536).toInt32) G489).bind (fun r => oI r (fun v496 G493 =>
        (D_Mo_thrown kk G493).bind (fun r => oI r (fun v500 G497 =>
        if v500 = v492 then
          if v492 = 0 then
            if (lg_cmp (go_ G497) v496.toInt64) = 0 then
              (L_Law_law sc kk k) (x5 + (4 : Int32)) G497
            else
              okI (0 : Int32) G497
          else
            (L_Law_law sc kk k) (x5 + (4 : Int32)) G497
        else
          okI (0 : Int32) G497) exc)) exc)
        else none) exc)
        else none
      else if ((sc.2 x5.toNatClampNeg) &&& (63 : Int32)) = (49 : Int32) then
        (D_Law_runScript kk G).bind (fun r => oI r (fun v504 G501 =>
        (D_Mo_runScript kk G501).bind (fun r => oI r (fun v508 G505 =>
        (D_Mo_thrown kk G505).bind (fun r => oI r (fun v512 G509 =>
        if v512 = v504 then
          if v504 = 0 then
            if (lg_cmp (go_ G509) v508.toInt64) = 0 then
              (L_Law_law sc kk k) (x5 + (4 : Int32)) G509
            else
              okI (0 : Int32) G509
          else
            (L_Law_law sc kk k) (x5 + (4 : Int32)) G509
        else
          okI (0 : Int32) G509) exc)) exc)) exc)
      else if ((sc.2 x5.toNatClampNeg) &&& (63 : Int32)) = (50 : Int32) then
        (D_Law_errorPosition kk G).bind (fun r => oI r (fun v516 G513 =>
        (D_Mo_errorPosition kk G513).bind (fun r => oI r (fun v520 G517 =>
        (D_Mo_thrown kk G517).bind (fun r => oI r (fun v524 G521 =>
        if v524 = v516 then
          if v516 = 0 then
            if (lg_cmp (go_ G521) v520.toInt64) = 0 then
              (L_Law_law sc kk k) (x5 + (4 : Int32)) G521
            else
              okI (0 : Int32) G521
          else
            (L_Law_law sc kk k) (x5 + (4 : Int32)) G521
        else
          okI (0 : Int32) G521) exc)) exc)) exc)
      else if ((sc.2 x5.toNatClampNeg) &&& (63 : Int32)) = (51 : Int32) then
        (D_Law_failedCommand kk G).bind (fun r => oI r (fun v528 G525 =>
        (D_Mo_failedCommand kk G525).bind (fun r => oI r (fun v532 G529 =>
        (D_Mo_thrown kk G529).bind (fun r => oI r (fun v536 G533 =>
        if v536 = v528 then
          if v528 = 0 then
            if (lg_cmp (go_ G533) v532.toInt64) = 0 then
              (L_Law_law sc kk k) (x5 + (4 : Int32)) G533
            else
              okI (0 : Int32) G533
          else
            (L_Law_law sc kk k) (x5 + (4 : Int32)) G533
        else
          okI (0 : Int32) G533) exc)) exc)) exc)
      else if ((sc.2 x5.toNatClampNeg) &&& (63 : Int32)) = (52 : Int32) then
        (D_Law_undo kk G).bind (fun r => oI r (fun v540 G537 =>
        (D_Mo_undo kk G537).bind (fun r => oI r (fun v544 G541 =>
        (D_Mo_thrown kk G541).bind (fun r => oI r (fun v548 G545 =>
        if v548 = v540 then
          if v540 = 0 then
            if (lg_cmp (go_ G545) v544.toInt64) = 0 then
              (L_Law_law sc kk k) (x5 + (4 : Int32)) G545
            else
              okI (0 : Int32) G545
          else
            (L_Law_law sc kk k) (x5 + (4 : Int32)) G545
        else
          okI (0 : Int32) G545) exc)) exc)) exc)
      else if ((sc.2 x5.toNatClampNeg) &&& (63 : Int32)) = (53 : Int32) then
        (D_PB_save kk G).bind (fun r => oI r (fun v552 G549 =>
        (D_Mo_save kk G549).bind (fun r => oI r (fun v556 G553 =>
        if v552 = v556 then
          (L_Law_law sc kk k) (x5 + (4 : Int32)) G553
        else
          okI (0 : Int32) G553) exc)) exc)
      else if ((sc.2 x5.toNatClampNeg) &&& (63 : Int32)) = (54 : Int32) then
        (D_Law_restore kk G).bind (fun r => oI r (fun v560 G557 =>
        (D_Mo_restore kk G557).bind (fun r => oI r (fun v564 G561 =>
        (D_Mo_thrown kk G561).bind (fun r => oI r (fun v568 G565 =>
        if v568 = v560 then
          if v560 = 0 then
            if (lg_cmp (go_ G565) v564.toInt64) = 0 then
              (L_Law_law sc kk k) (x5 + (4 : Int32)) G565
            else
              okI (0 : Int32) G565
          else
            (L_Law_law sc kk k) (x5 + (4 : Int32)) G565
        else
          okI (0 : Int32) G565) exc)) exc)) exc)
      else 
        (L_Law_law sc kk k) (x5 + (4 : Int32)) G
      else none
def G0 : GS := (fun r f => match r.2, f with | 1, 3 => 60 | 3, 2 => 1 | 0, 5 => -1 | 0, 6 => -1 | 50, 13 => -1 | 50, 14 => -1 | _, _ => 0, fun r i => match r.2 with | 51 => (if i = 3 then 60 else 0) | _ => 0, (0, fun _ => 0), (0, 0))
