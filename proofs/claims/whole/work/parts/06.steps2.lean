/-! Soundness of the steps: stack, arithmetic, branches -/
section Ar
variable {x : CX} {pc : Nat} {ls : Ls} {st : List AV} {G : GS} {u : Nat}
theorem sd_iconst {v : Int} (hF : FX x) (hd : decode (cxC x) pc = .ok (.iconst v, 1)) (hk : WG x (pc + 1) ls (.inl (.int (Int32.ofInt v)) :: st) G u) : WG x pc ls (st) G u := by
  obtain ⟨⟨p, l, e, R, s, m, args, below, meth, c, Q⟩, ⟨D, cs, b, ad, adV, sc, L, XT⟩, cc, nL, own, c0, s0, seg, lv⟩ := x
  obtain ⟨hx, hb, hml, hown, hts, hKS, hbs, hL, hlocks, hR1, hR2, hR3, hR4⟩ := hF
  intro H locs cells slots sl hP hS hl h1 h2
  have hk := hk H locs cells slots sl hP hS hl h1 h2
  exact lv_iconst hx hb hd rfl hk
theorem sd_bipush {v : Int} (hF : FX x) (hd : decode (cxC x) pc = .ok (.bipush v, 2)) (hk : WG x (pc + 2) ls (.inl (.int (Int8.ofInt v).toInt32) :: st) G u) : WG x pc ls (st) G u := by
  obtain ⟨⟨p, l, e, R, s, m, args, below, meth, c, Q⟩, ⟨D, cs, b, ad, adV, sc, L, XT⟩, cc, nL, own, c0, s0, seg, lv⟩ := x
  obtain ⟨hx, hb, hml, hown, hts, hKS, hbs, hL, hlocks, hR1, hR2, hR3, hR4⟩ := hF
  intro H locs cells slots sl hP hS hl h1 h2
  have hk := hk H locs cells slots sl hP hS hl h1 h2
  exact lv_bipush hx hb hd rfl hk
theorem sd_sipush {v : Int} (hF : FX x) (hd : decode (cxC x) pc = .ok (.sipush v, 3)) (hk : WG x (pc + 3) ls (.inl (.int (Int16.ofInt v).toInt32) :: st) G u) : WG x pc ls (st) G u := by
  obtain ⟨⟨p, l, e, R, s, m, args, below, meth, c, Q⟩, ⟨D, cs, b, ad, adV, sc, L, XT⟩, cc, nL, own, c0, s0, seg, lv⟩ := x
  obtain ⟨hx, hb, hml, hown, hts, hKS, hbs, hL, hlocks, hR1, hR2, hR3, hR4⟩ := hF
  intro H locs cells slots sl hP hS hl h1 h2
  have hk := hk H locs cells slots sl hP hS hl h1 h2
  exact lv_sipush hx hb hd rfl hk
theorem sd_null (hF : FX x) (hd : decode (cxC x) pc = .ok (.aconst_null, 1)) (hk : WG x (pc + 1) ls (.inl .null :: st) G u) : WG x pc ls (st) G u := by
  obtain ⟨⟨p, l, e, R, s, m, args, below, meth, c, Q⟩, ⟨D, cs, b, ad, adV, sc, L, XT⟩, cc, nL, own, c0, s0, seg, lv⟩ := x
  obtain ⟨hx, hb, hml, hown, hts, hKS, hbs, hL, hlocks, hR1, hR2, hR3, hR4⟩ := hF
  intro H locs cells slots sl hP hS hl h1 h2
  have hk := hk H locs cells slots sl hP hS hl h1 h2
  exact lv_null hx hb hd hk
theorem sd_lconst {v : Fin 2} (hF : FX x) (hd : decode (cxC x) pc = .ok (.lconst v, 1)) (hk : WG x (pc + 1) ls (.inl (.long (Int64.ofNat v.val)) :: st) G u) : WG x pc ls (st) G u := by
  obtain ⟨⟨p, l, e, R, s, m, args, below, meth, c, Q⟩, ⟨D, cs, b, ad, adV, sc, L, XT⟩, cc, nL, own, c0, s0, seg, lv⟩ := x
  obtain ⟨hx, hb, hml, hown, hts, hKS, hbs, hL, hlocks, hR1, hR2, hR3, hR4⟩ := hF
  intro H locs cells slots sl hP hS hl h1 h2
  have hk := hk H locs cells slots sl hP hS hl h1 h2
  exact lv_lconst hx hb hd rfl hk
theorem sd_iadd {a b : Int32} (hF : FX x) (hd : decode (cxC x) pc = .ok (.iadd, 1)) (hk : WG x (pc + 1) ls (.inl (.int (a + b)) :: st) G u) : WG x pc ls (.inl (.int b) :: .inl (.int a) :: st) G u := by
  obtain ⟨⟨p, l, e, R, s, m, args, below, meth, c, Q⟩, ⟨D, cs, b, ad, adV, sc, L, XT⟩, cc, nL, own, c0, s0, seg, lv⟩ := x
  obtain ⟨hx, hb, hml, hown, hts, hKS, hbs, hL, hlocks, hR1, hR2, hR3, hR4⟩ := hF
  intro H locs cells slots sl hP hS hl h1 h2
  have hk := hk H locs cells slots sl hP hS hl h1 h2
  exact lv_iadd hx hb hd hk
theorem sd_isub {a b : Int32} (hF : FX x) (hd : decode (cxC x) pc = .ok (.isub, 1)) (hk : WG x (pc + 1) ls (.inl (.int (a - b)) :: st) G u) : WG x pc ls (.inl (.int b) :: .inl (.int a) :: st) G u := by
  obtain ⟨⟨p, l, e, R, s, m, args, below, meth, c, Q⟩, ⟨D, cs, b, ad, adV, sc, L, XT⟩, cc, nL, own, c0, s0, seg, lv⟩ := x
  obtain ⟨hx, hb, hml, hown, hts, hKS, hbs, hL, hlocks, hR1, hR2, hR3, hR4⟩ := hF
  intro H locs cells slots sl hP hS hl h1 h2
  have hk := hk H locs cells slots sl hP hS hl h1 h2
  exact lv_isub hx hb hd hk
theorem sd_imul {a b : Int32} (hF : FX x) (hd : decode (cxC x) pc = .ok (.imul, 1)) (hk : WG x (pc + 1) ls (.inl (.int (a * b)) :: st) G u) : WG x pc ls (.inl (.int b) :: .inl (.int a) :: st) G u := by
  obtain ⟨⟨p, l, e, R, s, m, args, below, meth, c, Q⟩, ⟨D, cs, b, ad, adV, sc, L, XT⟩, cc, nL, own, c0, s0, seg, lv⟩ := x
  obtain ⟨hx, hb, hml, hown, hts, hKS, hbs, hL, hlocks, hR1, hR2, hR3, hR4⟩ := hF
  intro H locs cells slots sl hP hS hl h1 h2
  have hk := hk H locs cells slots sl hP hS hl h1 h2
  exact lv_imul hx hb hd hk
theorem sd_iand {a b : Int32} (hF : FX x) (hd : decode (cxC x) pc = .ok (.iand, 1)) (hk : WG x (pc + 1) ls (.inl (.int (a &&& b)) :: st) G u) : WG x pc ls (.inl (.int b) :: .inl (.int a) :: st) G u := by
  obtain ⟨⟨p, l, e, R, s, m, args, below, meth, c, Q⟩, ⟨D, cs, b, ad, adV, sc, L, XT⟩, cc, nL, own, c0, s0, seg, lv⟩ := x
  obtain ⟨hx, hb, hml, hown, hts, hKS, hbs, hL, hlocks, hR1, hR2, hR3, hR4⟩ := hF
  intro H locs cells slots sl hP hS hl h1 h2
  have hk := hk H locs cells slots sl hP hS hl h1 h2
  exact lv_iand hx hb hd hk
theorem sd_idiv {a b : Int32} (hF : FX x) (hd : decode (cxC x) pc = .ok (.idiv, 1)) (h0 : ¬ b = 0) (hk : WG x (pc + 1) ls (.inl (.int (a / b)) :: st) G u) : WG x pc ls (.inl (.int b) :: .inl (.int a) :: st) G u := by
  obtain ⟨⟨p, l, e, R, s, m, args, below, meth, c, Q⟩, ⟨D, cs, b, ad, adV, sc, L, XT⟩, cc, nL, own, c0, s0, seg, lv⟩ := x
  obtain ⟨hx, hb, hml, hown, hts, hKS, hbs, hL, hlocks, hR1, hR2, hR3, hR4⟩ := hF
  intro H locs cells slots sl hP hS hl h1 h2
  have hk := hk H locs cells slots sl hP hS hl h1 h2
  exact lv_idiv hx hb hd h0 hk
theorem sd_irem {a b : Int32} (hF : FX x) (hd : decode (cxC x) pc = .ok (.irem, 1)) (h0 : ¬ b = 0) (hk : WG x (pc + 1) ls (.inl (.int (a - a / b * b)) :: st) G u) : WG x pc ls (.inl (.int b) :: .inl (.int a) :: st) G u := by
  obtain ⟨⟨p, l, e, R, s, m, args, below, meth, c, Q⟩, ⟨D, cs, b, ad, adV, sc, L, XT⟩, cc, nL, own, c0, s0, seg, lv⟩ := x
  obtain ⟨hx, hb, hml, hown, hts, hKS, hbs, hL, hlocks, hR1, hR2, hR3, hR4⟩ := hF
  intro H locs cells slots sl hP hS hl h1 h2
  have hk := hk H locs cells slots sl hP hS hl h1 h2
  exact lv_irem hx hb hd h0 hk
theorem sd_ineg {a : Int32} (hF : FX x) (hd : decode (cxC x) pc = .ok (.ineg, 1)) (hk : WG x (pc + 1) ls (.inl (.int (-a)) :: st) G u) : WG x pc ls (.inl (.int a) :: st) G u := by
  obtain ⟨⟨p, l, e, R, s, m, args, below, meth, c, Q⟩, ⟨D, cs, b, ad, adV, sc, L, XT⟩, cc, nL, own, c0, s0, seg, lv⟩ := x
  obtain ⟨hx, hb, hml, hown, hts, hKS, hbs, hL, hlocks, hR1, hR2, hR3, hR4⟩ := hF
  intro H locs cells slots sl hP hS hl h1 h2
  have hk := hk H locs cells slots sl hP hS hl h1 h2
  exact lv_ineg hx hb hd hk
theorem sd_i2c {a : Int32} (hF : FX x) (hd : decode (cxC x) pc = .ok (.i2c, 1)) (hk : WG x (pc + 1) ls (.inl (.int (a.toUInt32 % 65536).toInt32) :: st) G u) : WG x pc ls (.inl (.int a) :: st) G u := by
  obtain ⟨⟨p, l, e, R, s, m, args, below, meth, c, Q⟩, ⟨D, cs, b, ad, adV, sc, L, XT⟩, cc, nL, own, c0, s0, seg, lv⟩ := x
  obtain ⟨hx, hb, hml, hown, hts, hKS, hbs, hL, hlocks, hR1, hR2, hR3, hR4⟩ := hF
  intro H locs cells slots sl hP hS hl h1 h2
  have hk := hk H locs cells slots sl hP hS hl h1 h2
  exact lv_i2c hx hb hd rfl hk
theorem sd_i2l {a : Int32} (hF : FX x) (hd : decode (cxC x) pc = .ok (.i2l, 1)) (hk : WG x (pc + 1) ls (.inl (.long a.toInt64) :: st) G u) : WG x pc ls (.inl (.int a) :: st) G u := by
  obtain ⟨⟨p, l, e, R, s, m, args, below, meth, c, Q⟩, ⟨D, cs, b, ad, adV, sc, L, XT⟩, cc, nL, own, c0, s0, seg, lv⟩ := x
  obtain ⟨hx, hb, hml, hown, hts, hKS, hbs, hL, hlocks, hR1, hR2, hR3, hR4⟩ := hF
  intro H locs cells slots sl hP hS hl h1 h2
  have hk := hk H locs cells slots sl hP hS hl h1 h2
  exact lv_i2l hx hb hd rfl hk
theorem sd_i2f {a : Int32} (hF : FX x) (hd : decode (cxC x) pc = .ok (.i2f, 1)) (hk : WG x (pc + 1) ls (.inl (.float (FP.i2f a)) :: st) G u) : WG x pc ls (.inl (.int a) :: st) G u := by
  obtain ⟨⟨p, l, e, R, s, m, args, below, meth, c, Q⟩, ⟨D, cs, b, ad, adV, sc, L, XT⟩, cc, nL, own, c0, s0, seg, lv⟩ := x
  obtain ⟨hx, hb, hml, hown, hts, hKS, hbs, hL, hlocks, hR1, hR2, hR3, hR4⟩ := hF
  intro H locs cells slots sl hP hS hl h1 h2
  have hk := hk H locs cells slots sl hP hS hl h1 h2
  exact lv_i2f hx hb hd hk
theorem sd_i2d {a : Int32} (hF : FX x) (hd : decode (cxC x) pc = .ok (.i2d, 1)) (hk : WG x (pc + 1) ls (.inl (.double (FP.i2d a)) :: st) G u) : WG x pc ls (.inl (.int a) :: st) G u := by
  obtain ⟨⟨p, l, e, R, s, m, args, below, meth, c, Q⟩, ⟨D, cs, b, ad, adV, sc, L, XT⟩, cc, nL, own, c0, s0, seg, lv⟩ := x
  obtain ⟨hx, hb, hml, hown, hts, hKS, hbs, hL, hlocks, hR1, hR2, hR3, hR4⟩ := hF
  intro H locs cells slots sl hP hS hl h1 h2
  have hk := hk H locs cells slots sl hP hS hl h1 h2
  exact lv_i2d hx hb hd hk
theorem sd_f2d {a : UInt32} (hF : FX x) (hd : decode (cxC x) pc = .ok (.f2d, 1)) (h0 : FP.f2d a &&& 0x7fffffffffffffff ≤ 0x7ff0000000000000) (hk : WG x (pc + 1) ls (.inl (.double (FP.f2d a)) :: st) G u) : WG x pc ls (.inl (.float a) :: st) G u := by
  obtain ⟨⟨p, l, e, R, s, m, args, below, meth, c, Q⟩, ⟨D, cs, b, ad, adV, sc, L, XT⟩, cc, nL, own, c0, s0, seg, lv⟩ := x
  obtain ⟨hx, hb, hml, hown, hts, hKS, hbs, hL, hlocks, hR1, hR2, hR3, hR4⟩ := hF
  intro H locs cells slots sl hP hS hl h1 h2
  have hk := hk H locs cells slots sl hP hS hl h1 h2
  exact lv_f2d hx hb hd h0 hk
theorem sd_fmul {a b : UInt32} (hF : FX x) (hd : decode (cxC x) pc = .ok (.fmul, 1)) (h0 : FP.fmul a b &&& 0x7fffffff ≤ 0x7f800000) (hk : WG x (pc + 1) ls (.inl (.float (FP.fmul a b)) :: st) G u) : WG x pc ls (.inl (.float b) :: .inl (.float a) :: st) G u := by
  obtain ⟨⟨p, l, e, R, s, m, args, below, meth, c, Q⟩, ⟨D, cs, b, ad, adV, sc, L, XT⟩, cc, nL, own, c0, s0, seg, lv⟩ := x
  obtain ⟨hx, hb, hml, hown, hts, hKS, hbs, hL, hlocks, hR1, hR2, hR3, hR4⟩ := hF
  intro H locs cells slots sl hP hS hl h1 h2
  have hk := hk H locs cells slots sl hP hS hl h1 h2
  exact lv_fmul hx hb hd h0 hk
theorem sd_fdiv {a b : UInt32} (hF : FX x) (hd : decode (cxC x) pc = .ok (.fdiv, 1)) (h0 : FP.fdiv a b &&& 0x7fffffff ≤ 0x7f800000) (hk : WG x (pc + 1) ls (.inl (.float (FP.fdiv a b)) :: st) G u) : WG x pc ls (.inl (.float b) :: .inl (.float a) :: st) G u := by
  obtain ⟨⟨p, l, e, R, s, m, args, below, meth, c, Q⟩, ⟨D, cs, b, ad, adV, sc, L, XT⟩, cc, nL, own, c0, s0, seg, lv⟩ := x
  obtain ⟨hx, hb, hml, hown, hts, hKS, hbs, hL, hlocks, hR1, hR2, hR3, hR4⟩ := hF
  intro H locs cells slots sl hP hS hl h1 h2
  have hk := hk H locs cells slots sl hP hS hl h1 h2
  exact lv_fdiv hx hb hd h0 hk
theorem sd_ddiv {a b : UInt64} (hF : FX x) (hd : decode (cxC x) pc = .ok (.ddiv, 1)) (h0 : FP.ddiv a b &&& 0x7fffffffffffffff ≤ 0x7ff0000000000000) (hk : WG x (pc + 1) ls (.inl (.double (FP.ddiv a b)) :: st) G u) : WG x pc ls (.inl (.double b) :: .inl (.double a) :: st) G u := by
  obtain ⟨⟨p, l, e, R, s, m, args, below, meth, c, Q⟩, ⟨D, cs, b, ad, adV, sc, L, XT⟩, cc, nL, own, c0, s0, seg, lv⟩ := x
  obtain ⟨hx, hb, hml, hown, hts, hKS, hbs, hL, hlocks, hR1, hR2, hR3, hR4⟩ := hF
  intro H locs cells slots sl hP hS hl h1 h2
  have hk := hk H locs cells slots sl hP hS hl h1 h2
  exact lv_ddiv hx hb hd h0 hk
theorem sd_fcmp {a b : UInt32} {op : CmpOp} (hF : FX x) (hd : decode (cxC x) pc = .ok (.fcmp op, 1)) (hk : WG x (pc + 1) ls (.inl (.int (Op.cmpValue (FP.fcmp a b) op)) :: st) G u) : WG x pc ls (.inl (.float b) :: .inl (.float a) :: st) G u := by
  obtain ⟨⟨p, l, e, R, s, m, args, below, meth, c, Q⟩, ⟨D, cs, b, ad, adV, sc, L, XT⟩, cc, nL, own, c0, s0, seg, lv⟩ := x
  obtain ⟨hx, hb, hml, hown, hts, hKS, hbs, hL, hlocks, hR1, hR2, hR3, hR4⟩ := hF
  intro H locs cells slots sl hP hS hl h1 h2
  have hk := hk H locs cells slots sl hP hS hl h1 h2
  exact lv_fcmp hx hb hd hk
theorem sd_dcmp {a b : UInt64} {op : CmpOp} (hF : FX x) (hd : decode (cxC x) pc = .ok (.dcmp op, 1)) (hk : WG x (pc + 1) ls (.inl (.int (Op.cmpValue (FP.dcmp a b) op)) :: st) G u) : WG x pc ls (.inl (.double b) :: .inl (.double a) :: st) G u := by
  obtain ⟨⟨p, l, e, R, s, m, args, below, meth, c, Q⟩, ⟨D, cs, b, ad, adV, sc, L, XT⟩, cc, nL, own, c0, s0, seg, lv⟩ := x
  obtain ⟨hx, hb, hml, hown, hts, hKS, hbs, hL, hlocks, hR1, hR2, hR3, hR4⟩ := hF
  intro H locs cells slots sl hP hS hl h1 h2
  have hk := hk H locs cells slots sl hP hS hl h1 h2
  exact lv_dcmp hx hb hd hk
theorem sd_lcmp {a b : Int64} (hF : FX x) (hd : decode (cxC x) pc = .ok (.lcmp, 1)) (hk : WG x (pc + 1) ls (.inl (.int (lg_cmp a b)) :: st) G u) : WG x pc ls (.inl (.long b) :: .inl (.long a) :: st) G u := by
  obtain ⟨⟨p, l, e, R, s, m, args, below, meth, c, Q⟩, ⟨D, cs, b, ad, adV, sc, L, XT⟩, cc, nL, own, c0, s0, seg, lv⟩ := x
  obtain ⟨hx, hb, hml, hown, hts, hKS, hbs, hL, hlocks, hR1, hR2, hR3, hR4⟩ := hF
  intro H locs cells slots sl hP hS hl h1 h2
  have hk := hk H locs cells slots sl hP hS hl h1 h2
  exact W.lcmp hx hb hd hk
theorem ai_cat_eq (ad : Rf → Nat) (v : AV) : ai_cat v = (rv ad v).category := by cases v <;> rfl
theorem sd_dup {v : AV} (hF : FX x) (hd : decode (cxC x) pc = .ok (.dup, 1)) (hc : ai_cat v = 1) (hk : WG x (pc + 1) ls (v :: v :: st) G u) : WG x pc ls (v :: st) G u := by
  obtain ⟨⟨p, l, e, R, s, m, args, below, meth, c, Q⟩, ⟨D, cs, b, ad, adV, sc, L, XT⟩, cc, nL, own, c0, s0, seg, lv⟩ := x
  obtain ⟨hx, hb, hml, hown, hts, hKS, hbs, hL, hlocks, hR1, hR2, hR3, hR4⟩ := hF
  intro H locs cells slots sl hP hS hl h1 h2
  have hk := hk H locs cells slots sl hP hS hl h1 h2
  have h0 : (rv ad v).category = 1 := (ai_cat_eq ad v) ▸ hc
  exact lv_dup hx hb hd h0 hk
theorem sd_dup2 {v w : AV} (hF : FX x) (hd : decode (cxC x) pc = .ok (.dup2, 1)) (hc : ai_cat v = 1) (hc2 : ai_cat w = 1) (hk : WG x (pc + 1) ls (v :: w :: v :: w :: st) G u) : WG x pc ls (v :: w :: st) G u := by
  obtain ⟨⟨p, l, e, R, s, m, args, below, meth, c, Q⟩, ⟨D, cs, b, ad, adV, sc, L, XT⟩, cc, nL, own, c0, s0, seg, lv⟩ := x
  obtain ⟨hx, hb, hml, hown, hts, hKS, hbs, hL, hlocks, hR1, hR2, hR3, hR4⟩ := hF
  intro H locs cells slots sl hP hS hl h1 h2
  have hk := hk H locs cells slots sl hP hS hl h1 h2
  have h0 : (rv ad v).category = 1 := (ai_cat_eq ad v) ▸ hc
  have h00 : (rv ad w).category = 1 := (ai_cat_eq ad w) ▸ hc2
  exact lv_dup2_11 hx hb hd h0 h00 hk
theorem sd_pop {v : AV} (hF : FX x) (hd : decode (cxC x) pc = .ok (.pop, 1)) (hc : ai_cat v = 1) (hk : WG x (pc + 1) ls (st) G u) : WG x pc ls (v :: st) G u := by
  obtain ⟨⟨p, l, e, R, s, m, args, below, meth, c, Q⟩, ⟨D, cs, b, ad, adV, sc, L, XT⟩, cc, nL, own, c0, s0, seg, lv⟩ := x
  obtain ⟨hx, hb, hml, hown, hts, hKS, hbs, hL, hlocks, hR1, hR2, hR3, hR4⟩ := hF
  intro H locs cells slots sl hP hS hl h1 h2
  have hk := hk H locs cells slots sl hP hS hl h1 h2
  have h0 : (rv ad v).category = 1 := (ai_cat_eq ad v) ▸ hc
  exact lv_pop hx hb hd h0 hk
theorem sd_iinc {i : Nat} {n : Int} {a : Int32} (hF : FX x) (hd : decode (cxC x) pc = .ok (.iinc i n, 3)) (hi : ls[i]? = some (some (.inl (.int a)))) (hbl : ai_below i ls = true) (hil : i + 1 ≤ ls.length) (hk : WG x (pc + 3) (ls.set i (some (.inl (.int (a + Int32.ofInt n))))) st G u) : WG x pc ls st G u := by
  obtain ⟨⟨p, l, e, R, s, m, args, below, meth, c, Q⟩, ⟨D, cs, b, ad, adV, sc, L, XT⟩, cc, nL, own, c0, s0, seg, lv⟩ := x
  obtain ⟨hx, hb, hml, hown, hts, hKS, hbs, hL, hlocks, hR1, hR2, hR3, hR4⟩ := hF
  intro H locs cells slots sl hP hS hl h1 h2
  have hn : i < nL := by rw [← hl.1]; omega
  have hm : (i, Value.int a) ∈ toL ad 0 ls := (toL_mem ls 0 _).mpr ⟨i, _, hi, by rw [Nat.zero_add]; rfl⟩
  obtain ⟨k, hk2⟩ := List.getElem?_of_mem hm
  exact lv_iinc hx hb hd hl.2 (k := k) hk2 rfl hn rfl (fun sl' h => hk H locs cells slots sl' hP hS (LV_set hl.1 hbl h) h1 h2)
theorem sd_if_eq {a : Int32} {off : Int} {tgt : Nat} (hF : FX x) (hd : decode (cxC x) pc = .ok (.ifCond .eq off, 3)) (ht : (pc : Int) + off = (tgt : Int)) (kt : a = 0 → WG x tgt ls st G u) (kf : ¬ a = 0 → WG x (pc + 3) ls st G u) : WG x pc ls (.inl (.int a) :: st) G u := by
  obtain ⟨⟨p, l, e, R, s, m, args, below, meth, c, Q⟩, ⟨D, cs, b, ad, adV, sc, L, XT⟩, cc, nL, own, c0, s0, seg, lv⟩ := x
  obtain ⟨hx, hb, hml, hown, hts, hKS, hbs, hL, hlocks, hR1, hR2, hR3, hR4⟩ := hF
  intro H locs cells slots sl hP hS hl h1 h2
  exact lv_if_eq hx hb hd ht (fun z => kt z H locs cells slots sl hP hS hl h1 h2) (fun z => kf z H locs cells slots sl hP hS hl h1 h2)
theorem sd_icmp_eq {a b : Int32} {off : Int} {tgt : Nat} (hF : FX x) (hd : decode (cxC x) pc = .ok (.if_icmp .eq off, 3)) (ht : (pc : Int) + off = (tgt : Int)) (kt : a = b → WG x tgt ls st G u) (kf : ¬ a = b → WG x (pc + 3) ls st G u) : WG x pc ls (.inl (.int b) :: .inl (.int a) :: st) G u := by
  obtain ⟨⟨p, l, e, R, s, m, args, below, meth, c, Q⟩, ⟨D, cs, b, ad, adV, sc, L, XT⟩, cc, nL, own, c0, s0, seg, lv⟩ := x
  obtain ⟨hx, hb, hml, hown, hts, hKS, hbs, hL, hlocks, hR1, hR2, hR3, hR4⟩ := hF
  intro H locs cells slots sl hP hS hl h1 h2
  exact lv_icmp_eq hx hb hd ht (fun z => kt z H locs cells slots sl hP hS hl h1 h2) (fun z => kf z H locs cells slots sl hP hS hl h1 h2)
theorem sd_if_ne {a : Int32} {off : Int} {tgt : Nat} (hF : FX x) (hd : decode (cxC x) pc = .ok (.ifCond .ne off, 3)) (ht : (pc : Int) + off = (tgt : Int)) (kt : ¬ a = 0 → WG x tgt ls st G u) (kf : a = 0 → WG x (pc + 3) ls st G u) : WG x pc ls (.inl (.int a) :: st) G u := by
  obtain ⟨⟨p, l, e, R, s, m, args, below, meth, c, Q⟩, ⟨D, cs, b, ad, adV, sc, L, XT⟩, cc, nL, own, c0, s0, seg, lv⟩ := x
  obtain ⟨hx, hb, hml, hown, hts, hKS, hbs, hL, hlocks, hR1, hR2, hR3, hR4⟩ := hF
  intro H locs cells slots sl hP hS hl h1 h2
  exact lv_if_ne hx hb hd ht (fun z => kt z H locs cells slots sl hP hS hl h1 h2) (fun z => kf z H locs cells slots sl hP hS hl h1 h2)
theorem sd_icmp_ne {a b : Int32} {off : Int} {tgt : Nat} (hF : FX x) (hd : decode (cxC x) pc = .ok (.if_icmp .ne off, 3)) (ht : (pc : Int) + off = (tgt : Int)) (kt : ¬ a = b → WG x tgt ls st G u) (kf : a = b → WG x (pc + 3) ls st G u) : WG x pc ls (.inl (.int b) :: .inl (.int a) :: st) G u := by
  obtain ⟨⟨p, l, e, R, s, m, args, below, meth, c, Q⟩, ⟨D, cs, b, ad, adV, sc, L, XT⟩, cc, nL, own, c0, s0, seg, lv⟩ := x
  obtain ⟨hx, hb, hml, hown, hts, hKS, hbs, hL, hlocks, hR1, hR2, hR3, hR4⟩ := hF
  intro H locs cells slots sl hP hS hl h1 h2
  exact lv_icmp_ne hx hb hd ht (fun z => kt z H locs cells slots sl hP hS hl h1 h2) (fun z => kf z H locs cells slots sl hP hS hl h1 h2)
theorem sd_if_lt {a : Int32} {off : Int} {tgt : Nat} (hF : FX x) (hd : decode (cxC x) pc = .ok (.ifCond .lt off, 3)) (ht : (pc : Int) + off = (tgt : Int)) (kt : a < 0 → WG x tgt ls st G u) (kf : ¬ a < 0 → WG x (pc + 3) ls st G u) : WG x pc ls (.inl (.int a) :: st) G u := by
  obtain ⟨⟨p, l, e, R, s, m, args, below, meth, c, Q⟩, ⟨D, cs, b, ad, adV, sc, L, XT⟩, cc, nL, own, c0, s0, seg, lv⟩ := x
  obtain ⟨hx, hb, hml, hown, hts, hKS, hbs, hL, hlocks, hR1, hR2, hR3, hR4⟩ := hF
  intro H locs cells slots sl hP hS hl h1 h2
  exact lv_if_lt hx hb hd ht (fun z => kt z H locs cells slots sl hP hS hl h1 h2) (fun z => kf z H locs cells slots sl hP hS hl h1 h2)
theorem sd_icmp_lt {a b : Int32} {off : Int} {tgt : Nat} (hF : FX x) (hd : decode (cxC x) pc = .ok (.if_icmp .lt off, 3)) (ht : (pc : Int) + off = (tgt : Int)) (kt : a < b → WG x tgt ls st G u) (kf : ¬ a < b → WG x (pc + 3) ls st G u) : WG x pc ls (.inl (.int b) :: .inl (.int a) :: st) G u := by
  obtain ⟨⟨p, l, e, R, s, m, args, below, meth, c, Q⟩, ⟨D, cs, b, ad, adV, sc, L, XT⟩, cc, nL, own, c0, s0, seg, lv⟩ := x
  obtain ⟨hx, hb, hml, hown, hts, hKS, hbs, hL, hlocks, hR1, hR2, hR3, hR4⟩ := hF
  intro H locs cells slots sl hP hS hl h1 h2
  exact lv_icmp_lt hx hb hd ht (fun z => kt z H locs cells slots sl hP hS hl h1 h2) (fun z => kf z H locs cells slots sl hP hS hl h1 h2)
theorem sd_if_ge {a : Int32} {off : Int} {tgt : Nat} (hF : FX x) (hd : decode (cxC x) pc = .ok (.ifCond .ge off, 3)) (ht : (pc : Int) + off = (tgt : Int)) (kt : 0 ≤ a → WG x tgt ls st G u) (kf : ¬ 0 ≤ a → WG x (pc + 3) ls st G u) : WG x pc ls (.inl (.int a) :: st) G u := by
  obtain ⟨⟨p, l, e, R, s, m, args, below, meth, c, Q⟩, ⟨D, cs, b, ad, adV, sc, L, XT⟩, cc, nL, own, c0, s0, seg, lv⟩ := x
  obtain ⟨hx, hb, hml, hown, hts, hKS, hbs, hL, hlocks, hR1, hR2, hR3, hR4⟩ := hF
  intro H locs cells slots sl hP hS hl h1 h2
  exact lv_if_ge hx hb hd ht (fun z => kt z H locs cells slots sl hP hS hl h1 h2) (fun z => kf z H locs cells slots sl hP hS hl h1 h2)
theorem sd_icmp_ge {a b : Int32} {off : Int} {tgt : Nat} (hF : FX x) (hd : decode (cxC x) pc = .ok (.if_icmp .ge off, 3)) (ht : (pc : Int) + off = (tgt : Int)) (kt : b ≤ a → WG x tgt ls st G u) (kf : ¬ b ≤ a → WG x (pc + 3) ls st G u) : WG x pc ls (.inl (.int b) :: .inl (.int a) :: st) G u := by
  obtain ⟨⟨p, l, e, R, s, m, args, below, meth, c, Q⟩, ⟨D, cs, b, ad, adV, sc, L, XT⟩, cc, nL, own, c0, s0, seg, lv⟩ := x
  obtain ⟨hx, hb, hml, hown, hts, hKS, hbs, hL, hlocks, hR1, hR2, hR3, hR4⟩ := hF
  intro H locs cells slots sl hP hS hl h1 h2
  exact lv_icmp_ge hx hb hd ht (fun z => kt z H locs cells slots sl hP hS hl h1 h2) (fun z => kf z H locs cells slots sl hP hS hl h1 h2)
theorem sd_if_gt {a : Int32} {off : Int} {tgt : Nat} (hF : FX x) (hd : decode (cxC x) pc = .ok (.ifCond .gt off, 3)) (ht : (pc : Int) + off = (tgt : Int)) (kt : 0 < a → WG x tgt ls st G u) (kf : ¬ 0 < a → WG x (pc + 3) ls st G u) : WG x pc ls (.inl (.int a) :: st) G u := by
  obtain ⟨⟨p, l, e, R, s, m, args, below, meth, c, Q⟩, ⟨D, cs, b, ad, adV, sc, L, XT⟩, cc, nL, own, c0, s0, seg, lv⟩ := x
  obtain ⟨hx, hb, hml, hown, hts, hKS, hbs, hL, hlocks, hR1, hR2, hR3, hR4⟩ := hF
  intro H locs cells slots sl hP hS hl h1 h2
  exact lv_if_gt hx hb hd ht (fun z => kt z H locs cells slots sl hP hS hl h1 h2) (fun z => kf z H locs cells slots sl hP hS hl h1 h2)
theorem sd_icmp_gt {a b : Int32} {off : Int} {tgt : Nat} (hF : FX x) (hd : decode (cxC x) pc = .ok (.if_icmp .gt off, 3)) (ht : (pc : Int) + off = (tgt : Int)) (kt : b < a → WG x tgt ls st G u) (kf : ¬ b < a → WG x (pc + 3) ls st G u) : WG x pc ls (.inl (.int b) :: .inl (.int a) :: st) G u := by
  obtain ⟨⟨p, l, e, R, s, m, args, below, meth, c, Q⟩, ⟨D, cs, b, ad, adV, sc, L, XT⟩, cc, nL, own, c0, s0, seg, lv⟩ := x
  obtain ⟨hx, hb, hml, hown, hts, hKS, hbs, hL, hlocks, hR1, hR2, hR3, hR4⟩ := hF
  intro H locs cells slots sl hP hS hl h1 h2
  exact lv_icmp_gt hx hb hd ht (fun z => kt z H locs cells slots sl hP hS hl h1 h2) (fun z => kf z H locs cells slots sl hP hS hl h1 h2)
theorem sd_if_le {a : Int32} {off : Int} {tgt : Nat} (hF : FX x) (hd : decode (cxC x) pc = .ok (.ifCond .le off, 3)) (ht : (pc : Int) + off = (tgt : Int)) (kt : a ≤ 0 → WG x tgt ls st G u) (kf : ¬ a ≤ 0 → WG x (pc + 3) ls st G u) : WG x pc ls (.inl (.int a) :: st) G u := by
  obtain ⟨⟨p, l, e, R, s, m, args, below, meth, c, Q⟩, ⟨D, cs, b, ad, adV, sc, L, XT⟩, cc, nL, own, c0, s0, seg, lv⟩ := x
  obtain ⟨hx, hb, hml, hown, hts, hKS, hbs, hL, hlocks, hR1, hR2, hR3, hR4⟩ := hF
  intro H locs cells slots sl hP hS hl h1 h2
  exact lv_if_le hx hb hd ht (fun z => kt z H locs cells slots sl hP hS hl h1 h2) (fun z => kf z H locs cells slots sl hP hS hl h1 h2)
theorem sd_icmp_le {a b : Int32} {off : Int} {tgt : Nat} (hF : FX x) (hd : decode (cxC x) pc = .ok (.if_icmp .le off, 3)) (ht : (pc : Int) + off = (tgt : Int)) (kt : a ≤ b → WG x tgt ls st G u) (kf : ¬ a ≤ b → WG x (pc + 3) ls st G u) : WG x pc ls (.inl (.int b) :: .inl (.int a) :: st) G u := by
  obtain ⟨⟨p, l, e, R, s, m, args, below, meth, c, Q⟩, ⟨D, cs, b, ad, adV, sc, L, XT⟩, cc, nL, own, c0, s0, seg, lv⟩ := x
  obtain ⟨hx, hb, hml, hown, hts, hKS, hbs, hL, hlocks, hR1, hR2, hR3, hR4⟩ := hF
  intro H locs cells slots sl hP hS hl h1 h2
  exact lv_icmp_le hx hb hd ht (fun z => kt z H locs cells slots sl hP hS hl h1 h2) (fun z => kf z H locs cells slots sl hP hS hl h1 h2)
theorem sd_goto {off : Int} {tgt : Nat} (hF : FX x) (hd : decode (cxC x) pc = .ok (.goto off, 3)) (ht : (pc : Int) + off = (tgt : Int)) (hk : WG x tgt ls st G u) : WG x pc ls st G u := by
  obtain ⟨⟨p, l, e, R, s, m, args, below, meth, c, Q⟩, ⟨D, cs, b, ad, adV, sc, L, XT⟩, cc, nL, own, c0, s0, seg, lv⟩ := x
  obtain ⟨hx, hb, hml, hown, hts, hKS, hbs, hL, hlocks, hR1, hR2, hR3, hR4⟩ := hF
  intro H locs cells slots sl hP hS hl h1 h2
  exact lv_goto hx hb hd ht (hk H locs cells slots sl hP hS hl h1 h2)
theorem sd_ifnullN {off : Int} {tgt : Nat} (hF : FX x) (hd : decode (cxC x) pc = .ok (.ifnull off, 3)) (ht : (pc : Int) + off = (tgt : Int)) (hk : WG x tgt ls st G u) : WG x pc ls (.inl .null :: st) G u := by
  obtain ⟨⟨p, l, e, R, s, m, args, below, meth, c, Q⟩, ⟨D, cs, b, ad, adV, sc, L, XT⟩, cc, nL, own, c0, s0, seg, lv⟩ := x
  obtain ⟨hx, hb, hml, hown, hts, hKS, hbs, hL, hlocks, hR1, hR2, hR3, hR4⟩ := hF
  intro H locs cells slots sl hP hS hl h1 h2
  exact lv_ifnullN hx hb hd ht (hk H locs cells slots sl hP hS hl h1 h2)
theorem sd_ifnull {r : Rf} {off : Int} (hF : FX x) (hd : decode (cxC x) pc = .ok (.ifnull off, 3)) (hk : WG x (pc + 3) ls st G u) : WG x pc ls (.inr r :: st) G u := by
  obtain ⟨⟨p, l, e, R, s, m, args, below, meth, c, Q⟩, ⟨D, cs, b, ad, adV, sc, L, XT⟩, cc, nL, own, c0, s0, seg, lv⟩ := x
  obtain ⟨hx, hb, hml, hown, hts, hKS, hbs, hL, hlocks, hR1, hR2, hR3, hR4⟩ := hF
  intro H locs cells slots sl hP hS hl h1 h2
  exact lv_ifnull hx hb hd (hk H locs cells slots sl hP hS hl h1 h2)
/-- the place that a switch's rows send a key to -/
def sw_to : List (Int32 × Nat) → Int32 → Nat → Nat
  | [], _, d => d
  | q :: qs, v, d => if v = q.1 then q.2 else sw_to qs v d
theorem sw_eq (k : Nat → Res) : ∀ (sw : List (Int32 × Nat)) (v : Int32) (d : Nat), ai_sw sw v k d = k (sw_to sw v d)
  | [], _, _ => rfl
  | q :: qs, v, d => by
    rw [ai_sw, sw_to]
    by_cases h : v = q.1
    · rw [if_pos h, if_pos h]
    · rw [if_neg h, if_neg h]; exact sw_eq k qs v d
/-- a tableswitch's rows are its offsets' -/
def sw_tab (pc : Nat) (dflt lo hi : Int) (offs : Array Int) (sw : List (Int32 × Nat)) (d : Nat) : Prop := (pc : Int) + dflt = (d : Int) ∧ ∀ v : Int32, (v.toInt < lo ∨ hi < v.toInt → sw_to sw v d = d) ∧
  (¬ v.toInt < lo → ¬ hi < v.toInt → ∃ off, offs[(v.toInt - lo).toNat]? = some off ∧ (pc : Int) + off = (sw_to sw v d : Int))
def sw_lok (pc : Nat) (dflt : Int) (ps : Array (Int × Int)) (sw : List (Int32 × Nat)) (d : Nat) : Prop := (ps.toList.zip (ps.toList.drop 1)).all (fun (a, next) => a.1 < next.1) = true ∧ ∀ v : Int32, (pc : Int) + Op.lookupswitch.offset ps.toList dflt v.toInt = (sw_to sw v d : Int)
theorem sd_tab {dflt lo hi : Int} {offs : Array Int} {len d : Nat} {a : Int32} {sw : List (Int32 × Nat)} (hF : FX x) (hd : decode (cxC x) pc = .ok (.tableswitch dflt lo hi offs, len)) (h : sw_tab pc dflt lo hi offs sw d) (hk : WG x (sw_to sw a d) ls st G u) : WG x pc ls (.inl (.int a) :: st) G u := by
  obtain ⟨⟨p, l, e, R, s, m, args, below, meth, c, Q⟩, ⟨D, cs, b, ad, adV, sc, L, XT⟩, cc, nL, own, c0, s0, seg, lv⟩ := x
  obtain ⟨hx, hb, hml, hown, hts, hKS, hbs, hL, hlocks, hR1, hR2, hR3, hR4⟩ := hF
  intro H locs cells slots sl hP hS hl h1 h2
  have hk := hk H locs cells slots sl hP hS hl h1 h2
  obtain ⟨h3, h4⟩ := h
  obtain ⟨h5, h6⟩ := h4 a
  by_cases q1 : a.toInt < lo
  · rw [h5 (Or.inl q1)] at hk
    exact lv_tableOut hx hb hd (Or.inl q1) h3 hk
  · by_cases q2 : hi < a.toInt
    · rw [h5 (Or.inr q2)] at hk
      exact lv_tableOut hx hb hd (Or.inr q2) h3 hk
    · obtain ⟨off, h7, h8⟩ := h6 q1 q2
      exact lv_tableIn hx hb hd q1 q2 h7 h8 hk
theorem sd_look {dflt : Int} {ps : Array (Int × Int)} {len d : Nat} {a : Int32} {sw : List (Int32 × Nat)} (hF : FX x) (hd : decode (cxC x) pc = .ok (.lookupswitch dflt ps, len)) (h : sw_lok pc dflt ps sw d) (hk : WG x (sw_to sw a d) ls st G u) : WG x pc ls (.inl (.int a) :: st) G u := by
  obtain ⟨⟨p, l, e, R, s, m, args, below, meth, c, Q⟩, ⟨D, cs, b, ad, adV, sc, L, XT⟩, cc, nL, own, c0, s0, seg, lv⟩ := x
  obtain ⟨hx, hb, hml, hown, hts, hKS, hbs, hL, hlocks, hR1, hR2, hR3, hR4⟩ := hF
  intro H locs cells slots sl hP hS hl h1 h2
  exact lv_lookup hx hb hd h.1 rfl (h.2 a) (hk H locs cells slots sl hP hS hl h1 h2)
end Ar
