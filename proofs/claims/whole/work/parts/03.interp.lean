/-! AN ABSTRACT MACHINE over fixed objects: a reference is (which of its kind, kind); only ints, array contents, the text and the two out cells vary. -/
abbrev Rf : Type := Nat × Nat
abbrev AV : Type := Value ⊕ Rf
abbrev GS : Type := (Rf → Nat → Int32) × (Rf → Nat → Int32) × (Nat × (Nat → Int32)) × (Int64 × UInt64)
abbrev Out : Type := Option AV ⊕ Nat
abbrev Res : Type := Option (Out × GS)
abbrev Ls : Type := List (Option AV)
/-- an instruction, its length, what it names (a target, a field, a callee), the locals to forget, whether it is a cut, a switch's rows -/
abbrev En : Type := Instr × Nat × Nat × List Nat × Bool × List (Int32 × Nat)
abbrev Tb : Type := Nat → Option En
abbrev Kb : Type := Nat → Ls → List AV → GS → Res
abbrev Ks : Type := Nat → Ls → List AV → GS → Nat → Res
def gi (G : GS) (r : Rf) (f : Nat) : Int32 := G.1 r f
def ga (G : GS) (r : Rf) (i : Nat) : Int32 := G.2.1 r i
def gn (G : GS) : Nat := G.2.2.1.1
def gt (G : GS) (i : Nat) : Int32 := G.2.2.1.2 i
def go_ (G : GS) : Int64 := G.2.2.2.1
def gd_ (G : GS) : UInt64 := G.2.2.2.2
def si (G : GS) (r : Rf) (f : Nat) (v : Int32) : GS := (fun r' f' => if r' = r ∧ f' = f then v else G.1 r' f', G.2)
def sa (G : GS) (r : Rf) (i : Nat) (v : Int32) : GS := (G.1, fun r' i' => if r' = r ∧ i' = i then v else G.2.1 r' i', G.2.2)
def st_ (G : GS) (n : Nat) (t : Nat → Int32) : GS := (G.1, G.2.1, (n, t), G.2.2.2)
def so_ (G : GS) (v : Int64) : GS := (G.1, G.2.1, G.2.2.1, (v, G.2.2.2.2))
def sd_ (G : GS) (v : UInt64) : GS := (G.1, G.2.1, G.2.2.1, (G.2.2.2.1, v))
/-- kinds: .inl (class, fields), .inr (element type: 0 int 1 char 2 State 3 long 4 double, length) -/
def kd (k : Nat) : Option (Nat × Nat ⊕ Nat × Nat) := match k with
  | 0 => some (.inl (0, 9)) | 1 => some (.inl (1, 4)) | 2 => some (.inl (2, 5)) | 3 => some (.inl (3, 3)) | 4 => some (.inl (4, 5))
  | 5 => some (.inr (0, 7)) | 6 => some (.inr (0, 35)) | 7 => some (.inr (0, 35)) | 8 => some (.inr (0, 35)) | 9 => some (.inr (0, 35))
  | 10 => some (.inl (5, 3)) | 11 => some (.inr (2, 9)) | 12 => some (.inl (6, 6)) | 13 => some (.inr (1, 60)) | 14 => some (.inr (0, 15)) | 15 => some (.inr (0, 45))
  | 17 => some (.inr (0, 5)) | 18 => some (.inr (3, 1)) | 19 => some (.inr (4, 1))
  | 50 => some (.inl (7, 18)) | 51 => some (.inr (0, 156)) | 52 => some (.inr (0, 1248)) | 53 => some (.inr (0, 156)) | 54 => some (.inr (0, 156)) | 55 => some (.inr (1, 100)) | 56 => some (.inr (1, 60)) | 57 => some (.inr (0, 3))
  | _ => none
/-- the references that the fields hold, for good -/
def gr (r : Rf) (f : Nat) : Option Rf := match r.2 with
  | 0 => (match f with | 0 => some (0, 1) | 1 => some (0, 10) | 2 => some (1, 1) | 4 => some (0, 12) | 7 => some (0, 16) | 8 => some (0, 17) | _ => none)
  | 1 => (match f with | 0 => some (r.1, 2) | 1 => some (r.1, 3) | 2 => some (r.1, 4) | _ => none)
  | 2 => (match f with | 0 => some (r.1, 5) | 1 => some (r.1, 6) | 2 => some (r.1, 7) | 3 => some (r.1, 8) | 4 => some (r.1, 9) | _ => none)
  | 10 => (match f with | 0 => some (0, 11) | _ => none)
  | 12 => (match f with | 0 => some (0, 13) | 1 => some (0, 14) | 2 => some (0, 15) | _ => none)
  | 50 => (match f with | 1 => some (0, 51) | 2 => some (0, 52) | 3 => some (0, 53) | 4 => some (0, 54) | 8 => some (0, 55) | 10 => some (0, 56) | 15 => some (0, 57) | _ => none)
  | _ => none
def ai_kill : List Nat → Ls → Ls
  | [], ls => ls
  | k :: ks, ls => ai_kill ks (ls.set k none)
def ai_pop : Nat → List AV → List AV → Option (List AV × List AV)
  | 0, acc, st => some (acc, st)
  | n + 1, acc, v :: st => ai_pop n (v :: acc) st
  | _ + 1, _, [] => none
def ai_cat : AV → Nat
  | .inl v => v.category
  | .inr _ => 1
def ai_cats : List AV → Nat
  | [] => 0
  | v :: l => ai_cat v + ai_cats l
def oV (r : Out × GS) (k : GS → Res) (kx : Nat → GS → Res) : Res := match r.1 with
  | .inl none => k r.2
  | .inr e => kx e r.2
  | _ => none
def oI (r : Out × GS) (k : Int32 → GS → Res) (kx : Nat → GS → Res) : Res := match r.1 with
  | .inl (some (.inl (.int v))) => k v r.2
  | .inr e => kx e r.2
  | _ => none
def oF (r : Out × GS) (k : UInt32 → GS → Res) (kx : Nat → GS → Res) : Res := match r.1 with
  | .inl (some (.inl (.float v))) => k v r.2
  | .inr e => kx e r.2
  | _ => none
def oD (r : Out × GS) (k : UInt64 → GS → Res) (kx : Nat → GS → Res) : Res := match r.1 with
  | .inl (some (.inl (.double v))) => k v r.2
  | .inr e => kx e r.2
  | _ => none
/-- a reference of one kind, or null -/
def oQ (kn : Nat) (r : Out × GS) (k0 : GS → Res) (k : Nat → GS → Res) (kx : Nat → GS → Res) : Res := match r.1 with
  | .inl (some (.inl .null)) => k0 r.2
  | .inl (some (.inr q)) => bif Nat.beq q.2 kn then k q.1 r.2 else none
  | .inr e => kx e r.2
  | _ => none
def oR (kn : Nat) (r : Out × GS) (k : Nat → GS → Res) (kx : Nat → GS → Res) : Res := match r.1 with
  | .inl (some (.inr q)) => bif Nat.beq q.2 kn then k q.1 r.2 else none
  | .inr e => kx e r.2
  | _ => none
abbrev okI (v : Int32) (G : GS) : Res := some (.inl (some (.inl (.int v))), G)
abbrev okV (G : GS) : Res := some (.inl none, G)
abbrev okR (r : Rf) (G : GS) : Res := some (.inl (some (.inr r)), G)
abbrev okN (G : GS) : Res := some (.inl (some (.inl .null)), G)
abbrev okF (v : UInt32) (G : GS) : Res := some (.inl (some (.inl (.float v))), G)
abbrev okD (v : UInt64) (G : GS) : Res := some (.inl (some (.inl (.double v))), G)
abbrev exc (e : Nat) (G : GS) : Res := some (.inr e, G)
/-- a handler's rows: exception, handler's place, its first instruction's length and local -/
abbrev Hd : Type := List (Nat × Nat × Nat × Nat)
/-- the local below a store must not be a long or double -/
def ai_below : Nat → Ls → Bool
  | 0, _ => true
  | i + 1, ls => match ls[i]? with
    | some (some (.inl v)) => Nat.beq v.category 1
    | _ => true
def ai_hs : Hd → Nat → Ls → (Nat × Nat × Nat → Res) → Res → Res
  | [], _, _, _, d => d
  | h :: hs, e, ls, k, d => if e = h.1 then (match ai_below h.2.2.2 ls with | true => k h.2 | false => none) else ai_hs hs e ls k d
def ai_sw : List (Int32 × Nat) → Int32 → (Nat → Res) → Nat → Res
  | [], _, k, d => k d
  | q :: qs, v, k, d => if v = q.1 then k q.2 else ai_sw qs v k d
def ai_hx (hd : Hd) (e : Nat) (ls : Ls) (k : Nat × Nat × Nat → Res) (G : GS) : Res := match hd with
  | [] => exc e G
  | h :: hs => ai_hs (h :: hs) e ls k none
def ai_rt (hd : Hd) (self : Ks) (pc x : Nat) (ls : Ls) (rest : List AV) (u : Nat) (rt : Nat) (r : Out × GS) : Res :=
  match rt with
  | 0 => oV r (fun G1 => self (pc + 3) ls rest G1 (u + x / 64 % 256)) (fun e G1 => ai_hx hd e ls (fun h => self (h.1 + h.2.1) (ls.set h.2.2 none) [] G1 (u + x / 64 % 256)) G1)
  | 1 => oI r (fun v G1 => self (pc + 3) ls (.inl (.int v) :: rest) G1 (u + x / 64 % 256)) (fun e G1 => ai_hx hd e ls (fun h => self (h.1 + h.2.1) (ls.set h.2.2 none) [] G1 (u + x / 64 % 256)) G1)
  | 2 => oF r (fun v G1 => self (pc + 3) ls (.inl (.float v) :: rest) G1 (u + x / 64 % 256)) (fun e G1 => ai_hx hd e ls (fun h => self (h.1 + h.2.1) (ls.set h.2.2 none) [] G1 (u + x / 64 % 256)) G1)
  | 3 => oD r (fun v G1 => self (pc + 3) ls (.inl (.double v) :: rest) G1 (u + x / 64 % 256)) (fun e G1 => ai_hx hd e ls (fun h => self (h.1 + h.2.1) (ls.set h.2.2 none) [] G1 (u + x / 64 % 256)) G1)
  | 4 => oQ 1 r (fun G1 => self (pc + 3) ls (.inl .null :: rest) G1 (u + x / 64 % 256)) (fun q G1 => self (pc + 3) ls (.inr (q, 1) :: rest) G1 (u + x / 64 % 256)) (fun e G1 => ai_hx hd e ls (fun h => self (h.1 + h.2.1) (ls.set h.2.2 none) [] G1 (u + x / 64 % 256)) G1)
  | 5 => oR 200 r (fun q G1 => self (pc + 3) ls (.inr (q, 200) :: rest) G1 (u + x / 64 % 256)) (fun e G1 => ai_hx hd e ls (fun h => self (h.1 + h.2.1) (ls.set h.2.2 none) [] G1 (u + x / 64 % 256)) G1)
  | _ => oR 16 r (fun q G1 => self (pc + 3) ls (.inr (q, 16) :: rest) G1 (u + x / 64 % 256)) (fun e G1 => ai_hx hd e ls (fun h => self (h.1 + h.2.1) (ls.set h.2.2 none) [] G1 (u + x / 64 % 256)) G1)
def ai_call (call : Nat → List AV → GS → Res) (seg : Nat) (hd : Hd) (self : Ks) (pc x : Nat) (ls : Ls) (st : List AV) (G : GS) (u : Nat) : Res :=
  match ai_pop (x / 8 % 8) [] st with
  | none => none
  | some (as, rest) => match Nat.ble (u + x / 64 % 256) seg with
    | true => (match Nat.ble (ai_cats rest) 8 with
      | true => (call (x / 16384) as G).bind (fun r => ai_rt hd self pc x ls rest u (x % 8) r)
      | false => none)
    | false => none
/-- 0: a reference or null, 1: an int, 2: a float, 3: a double -/
def ai_ty (t : Nat) (v : AV) : Bool := match v with
  | .inr _ => Nat.beq t 0
  | .inl .null => Nat.beq t 0
  | .inl (.int _) => Nat.beq t 1
  | .inl (.float _) => Nat.beq t 2
  | .inl (.double _) => Nat.beq t 3
  | _ => false
def ai_ld (t : Nat) (self : Ks) (pc i : Nat) (ls : Ls) (st : List AV) (G : GS) (u : Nat) : Res :=
  match ls[i]? with
  | some (some v) => (match ai_ty t v with | true => self pc ls (v :: st) G u | false => none)
  | _ => none
/-- a store of one word -/
def ai_sto (t : Nat) (self : Ks) (pc i : Nat) (ls : Ls) (st : List AV) (G : GS) (u : Nat) : Res :=
  match st with
  | v :: st => (match ai_ty t v && (ai_below i ls && Nat.ble (i + 1) ls.length) with | true => self pc (ls.set i (some v)) st G u | false => none)
  | [] => none
/-- a store of two words -/
def ai_sto2 (t : Nat) (self : Ks) (pc i : Nat) (ls : Ls) (st : List AV) (G : GS) (u : Nat) : Res :=
  match st with
  | v :: st => (match ai_ty t v && (ai_below i ls && Nat.ble (i + 2) ls.length) with | true => self pc ((ls.set i (some v)).set (i + 1) none) st G u | false => none)
  | [] => none
def ai_if (cn : Jvm.ClassFile.Cond) (x : Int32) (t f : Res) : Res := match cn with
  | .eq => if x = 0 then t else f
  | .ne => if x = 0 then f else t
  | .lt => if x < 0 then t else f
  | .ge => if 0 ≤ x then t else f
  | .gt => if 0 < x then t else f
  | .le => if x ≤ 0 then t else f
def ai_icmp (cn : Jvm.ClassFile.Cond) (x y : Int32) (t f : Res) : Res := match cn with
  | .eq => if x = y then t else f
  | .ne => if x = y then f else t
  | .lt => if x < y then t else f
  | .ge => if y ≤ x then t else f
  | .gt => if y < x then t else f
  | .le => if x ≤ y then t else f
def ai_get (G : GS) (r : Rf) (x : Nat) (k : AV → Res) : Res := match kd r.2 with
  | some (.inl (c, n)) => bif Nat.beq c (x / 64) && Nat.blt (x / 2 % 32) n then (match gr r (x / 2 % 32) with
    | some q => k (.inr q)
    | none => k (.inl (.int (gi G r (x / 2 % 32))))) else none
  | _ => none
def ai_put (G : GS) (r : Rf) (x : Nat) (v : Int32) (k : GS → Res) : Res := match kd r.2 with
  | some (.inl (c, n)) => bif Nat.beq c (x / 64) && Nat.blt (x / 2 % 32) n then (match gr r (x / 2 % 32) with
    | some _ => none
    | none => bif Nat.beq (x % 2) 0 then k (si G r (x / 2 % 32) v) else if v = 0 ∨ v = 1 then k (si G r (x / 2 % 32) v) else none) else none
  | _ => none
def inb (i : Int32) (n : Nat) : Bool := !(decide (i < 0)) && Nat.blt i.toNatClampNeg n
def ai_ald (G : GS) (r : Rf) (ty : Nat) (i : Int32) (k : Int32 → Res) : Res := match kd r.2 with
  | some (.inr (t, n)) => bif Nat.beq t ty then (bif inb i n then k (ga G r i.toNatClampNeg) else none) else none
  | _ => none
def ai_ast (G : GS) (r : Rf) (ty : Nat) (i : Int32) (v : Int32) (k : GS → Res) : Res := match kd r.2 with
  | some (.inr (t, n)) => bif Nat.beq t ty then (bif inb i n then k (sa G r i.toNatClampNeg v) else none) else none
  | _ => none
def ai_step (sc : Nat × (Nat → Int32)) (T : Tb) (call : Nat → List AV → GS → Res) (hd : Nat → Hd) (seg : Nat) (self : Ks) (pc : Nat) (e : En) (ls0 : Ls) (st : List AV) (G : GS) (u : Nat) : Res :=
  match e with
  | (i, _, x, ks, _, sw) =>
  match i with
  | .aload_n k => ai_ld 0 self (pc + 1) k.val (ai_kill ks ls0) st G u
  | .aload k => ai_ld 0 self (pc + 2) k (ai_kill ks ls0) st G u
  | .iload_n k => ai_ld 1 self (pc + 1) k.val (ai_kill ks ls0) st G u
  | .iload k => ai_ld 1 self (pc + 2) k (ai_kill ks ls0) st G u
  | .istore_n k => ai_sto 1 self (pc + 1) k.val (ai_kill ks ls0) st G u
  | .istore k => ai_sto 1 self (pc + 2) k (ai_kill ks ls0) st G u
  | .astore_n k => ai_sto 0 self (pc + 1) k.val (ai_kill ks ls0) st G u
  | .astore k => ai_sto 0 self (pc + 2) k (ai_kill ks ls0) st G u
  | .iconst c => self (pc + 1) (ai_kill ks ls0) (.inl (.int (Int32.ofInt c)) :: st) G u
  | .bipush c => self (pc + 2) (ai_kill ks ls0) (.inl (.int (Int8.ofInt c).toInt32) :: st) G u
  | .sipush c => self (pc + 3) (ai_kill ks ls0) (.inl (.int (Int16.ofInt c).toInt32) :: st) G u
  | .aconst_null => self (pc + 1) (ai_kill ks ls0) (.inl .null :: st) G u
  | .lconst c => self (pc + 1) (ai_kill ks ls0) (.inl (.long (Int64.ofNat c.val)) :: st) G u
  | .ldc _ => (match x with
    | 0 => self (pc + 2) (ai_kill ks ls0) (.inl (.float 1110704128) :: st) G u
    | k + 1 => self (pc + 2) (ai_kill ks ls0) (.inr (k, 200) :: st) G u)
  | .dup => (match st with | v :: st => bif Nat.beq (ai_cat v) 1 then self (pc + 1) (ai_kill ks ls0) (v :: v :: st) G u else none | _ => none)
  | .dup2 => (match st with | v :: w :: st => bif Nat.beq (ai_cat v) 1 && Nat.beq (ai_cat w) 1 then self (pc + 1) (ai_kill ks ls0) (v :: w :: v :: w :: st) G u else none | _ => none)
  | .pop => (match st with | v :: st => bif Nat.beq (ai_cat v) 1 then self (pc + 1) (ai_kill ks ls0) st G u else none | _ => none)
  | .iadd => (match st with | .inl (.int b) :: .inl (.int a) :: st => self (pc + 1) (ai_kill ks ls0) (.inl (.int (a + b)) :: st) G u | _ => none)
  | .isub => (match st with | .inl (.int b) :: .inl (.int a) :: st => self (pc + 1) (ai_kill ks ls0) (.inl (.int (a - b)) :: st) G u | _ => none)
  | .imul => (match st with | .inl (.int b) :: .inl (.int a) :: st => self (pc + 1) (ai_kill ks ls0) (.inl (.int (a * b)) :: st) G u | _ => none)
  | .iand => (match st with | .inl (.int b) :: .inl (.int a) :: st => self (pc + 1) (ai_kill ks ls0) (.inl (.int (a &&& b)) :: st) G u | _ => none)
  | .idiv => (match st with | .inl (.int b) :: .inl (.int a) :: st => if b = 0 then none else self (pc + 1) (ai_kill ks ls0) (.inl (.int (a / b)) :: st) G u | _ => none)
  | .irem => (match st with | .inl (.int b) :: .inl (.int a) :: st => if b = 0 then none else self (pc + 1) (ai_kill ks ls0) (.inl (.int (a - a / b * b)) :: st) G u | _ => none)
  | .ineg => (match st with | .inl (.int a) :: st => self (pc + 1) (ai_kill ks ls0) (.inl (.int (-a)) :: st) G u | _ => none)
  | .iinc k c => (match (ai_kill ks ls0)[k]? with
    | some (some (.inl (.int a))) => ai_sto 1 self (pc + 3) k (ai_kill ks ls0) (.inl (.int (a + Int32.ofInt c)) :: st) G u
    | _ => none)
  | .i2c => (match st with | .inl (.int a) :: st => self (pc + 1) (ai_kill ks ls0) (.inl (.int (a.toUInt32 % 65536).toInt32) :: st) G u | _ => none)
  | .i2l => (match st with | .inl (.int a) :: st => self (pc + 1) (ai_kill ks ls0) (.inl (.long a.toInt64) :: st) G u | _ => none)
  | .i2f => (match st with | .inl (.int a) :: st => self (pc + 1) (ai_kill ks ls0) (.inl (.float (FP.i2f a)) :: st) G u | _ => none)
  | .i2d => (match st with | .inl (.int a) :: st => self (pc + 1) (ai_kill ks ls0) (.inl (.double (FP.i2d a)) :: st) G u | _ => none)
  | .f2d => (match st with | .inl (.float a) :: st => if (FP.f2d a) &&& 0x7fffffffffffffff ≤ 0x7ff0000000000000 then self (pc + 1) (ai_kill ks ls0) (.inl (.double (FP.f2d a)) :: st) G u else none | _ => none)
  | .fmul => (match st with | .inl (.float b) :: .inl (.float a) :: st => if (FP.fmul a b) &&& 0x7fffffff ≤ 0x7f800000 then self (pc + 1) (ai_kill ks ls0) (.inl (.float (FP.fmul a b)) :: st) G u else none | _ => none)
  | .fdiv => (match st with | .inl (.float b) :: .inl (.float a) :: st => if (FP.fdiv a b) &&& 0x7fffffff ≤ 0x7f800000 then self (pc + 1) (ai_kill ks ls0) (.inl (.float (FP.fdiv a b)) :: st) G u else none | _ => none)
  | .ddiv => (match st with | .inl (.double b) :: .inl (.double a) :: st => if (FP.ddiv a b) &&& 0x7fffffffffffffff ≤ 0x7ff0000000000000 then self (pc + 1) (ai_kill ks ls0) (.inl (.double (FP.ddiv a b)) :: st) G u else none | _ => none)
  | .fcmp op => (match st with | .inl (.float b) :: .inl (.float a) :: st => self (pc + 1) (ai_kill ks ls0) (.inl (.int (Op.cmpValue (FP.fcmp a b) op)) :: st) G u | _ => none)
  | .dcmp op => (match st with | .inl (.double b) :: .inl (.double a) :: st => self (pc + 1) (ai_kill ks ls0) (.inl (.int (Op.cmpValue (FP.dcmp a b) op)) :: st) G u | _ => none)
  | .lcmp => (match st with | .inl (.long b) :: .inl (.long a) :: st => self (pc + 1) (ai_kill ks ls0) (.inl (.int (lg_cmp a b)) :: st) G u | _ => none)
  | .fload k => ai_ld 2 self (pc + 2) k (ai_kill ks ls0) st G u
  | .dload k => ai_ld 3 self (pc + 2) k (ai_kill ks ls0) st G u
  | .fstore k => ai_sto 2 self (pc + 2) k (ai_kill ks ls0) st G u
  | .dstore k => ai_sto2 3 self (pc + 2) k (ai_kill ks ls0) st G u
  | .ifCond c _ => (match st with | .inl (.int a) :: st => ai_if c a (self x (ai_kill ks ls0) st G u) (self (pc + 3) (ai_kill ks ls0) st G u) | _ => none)
  | .if_icmp c _ => (match st with | .inl (.int b) :: .inl (.int a) :: st => ai_icmp c a b (self x (ai_kill ks ls0) st G u) (self (pc + 3) (ai_kill ks ls0) st G u) | _ => none)
  | .goto _ => self x (ai_kill ks ls0) st G u
  | .ifnull _ => (match st with | .inl .null :: st => self x (ai_kill ks ls0) st G u | .inr _ :: st => self (pc + 3) (ai_kill ks ls0) st G u | _ => none)
  | .tableswitch _ _ _ _ => (match st with | .inl (.int a) :: st => ai_sw sw a (fun y => self y (ai_kill ks ls0) st G u) x | _ => none)
  | .lookupswitch _ _ => (match st with | .inl (.int a) :: st => ai_sw sw a (fun y => self y (ai_kill ks ls0) st G u) x | _ => none)
  | .getfield _ => (match st with | .inr r :: st => ai_get G r x (fun v => self (pc + 3) (ai_kill ks ls0) (v :: st) G u) | _ => none)
  | .putfield _ => (match st with | .inl (.int v) :: .inr r :: st => ai_put G r x v (fun G1 => self (pc + 3) (ai_kill ks ls0) st G1 u) | _ => none)
  | .iaload => (match st with | .inl (.int j) :: .inr r :: st => (bif Nat.beq r.2 250 && Nat.beq r.1 0 then (bif inb j sc.1 then self (pc + 1) (ai_kill ks ls0) (.inl (.int (sc.2 j.toNatClampNeg)) :: st) G u else none) else
      ai_ald G r 0 j (fun v => self (pc + 1) (ai_kill ks ls0) (.inl (.int v) :: st) G u)) | _ => none)
  | .caload => (match st with | .inl (.int j) :: .inr r :: st => ai_ald G r 1 j (fun v => self (pc + 1) (ai_kill ks ls0) (.inl (.int v) :: st) G u) | _ => none)
  | .aaload => (match st with | .inl (.int j) :: .inr r :: st => (bif Nat.beq r.2 11 && inb j 9 then self (pc + 1) (ai_kill ks ls0) (.inr (j.toNatClampNeg + 2, 1) :: st) G u else none) | _ => none)
  | .laload => (match st with | .inl (.int j) :: .inr r :: st => (bif Nat.beq r.2 18 && inb j 1 then self (pc + 1) (ai_kill ks ls0) (.inl (.long (go_ G)) :: st) G u else none) | _ => none)
  | .daload => (match st with | .inl (.int j) :: .inr r :: st => (bif Nat.beq r.2 19 && inb j 1 then self (pc + 1) (ai_kill ks ls0) (.inl (.double (gd_ G)) :: st) G u else none) | _ => none)
  | .iastore => (match st with | .inl (.int v) :: .inl (.int j) :: .inr r :: st => ai_ast G r 0 j v (fun G1 => self (pc + 1) (ai_kill ks ls0) st G1 u) | _ => none)
  | .castore => (match st with | .inl (.int v) :: .inl (.int j) :: .inr r :: st => ai_ast G r 1 j (vp_nar .char v) (fun G1 => self (pc + 1) (ai_kill ks ls0) st G1 u) | _ => none)
  | .lastore => (match st with | .inl (.long v) :: .inl (.int j) :: .inr r :: st => (bif Nat.beq r.2 18 && inb j 1 then self (pc + 1) (ai_kill ks ls0) st (so_ G v) u else none) | _ => none)
  | .dastore => (match st with | .inl (.double v) :: .inl (.int j) :: .inr r :: st => (bif Nat.beq r.2 19 && inb j 1 then self (pc + 1) (ai_kill ks ls0) st (sd_ G v) u else none) | _ => none)
  | .arraylength => (match st with
    | .inr r :: st => (bif Nat.beq r.2 250 && Nat.beq r.1 0 then self (pc + 1) (ai_kill ks ls0) (.inl (.int (Int32.ofNat sc.1)) :: st) G u else
      (match kd r.2 with
      | some (.inr (_, m)) => self (pc + 1) (ai_kill ks ls0) (.inl (.int (Int32.ofNat m)) :: st) G u
      | _ => none))
    | _ => none)
  | .invokevirtual _ => ai_call call seg (hd pc) self pc x (ai_kill ks ls0) st G u
  | .invokestatic _ => ai_call call seg (hd pc) self pc x (ai_kill ks ls0) st G u
  | .new _ => (match Nat.ble (u + 1) seg && Nat.ble (ai_cats st) 8 with | true => exc x G | false => none)
  | .ireturn => (match st with | [.inl (.int v)] => (match x with
      | 0 => okI v G
      | 1 => if v = 0 ∨ v = 1 then okI v G else none
      | _ => if 0 ≤ v ∧ v ≤ 65535 then okI v G else none) | _ => none)
  | .areturn => (match st with | [.inr q] => okR q G | [.inl .null] => okN G | _ => none)
  | .freturn => (match st with | [.inl (.float v)] => okF v G | _ => none)
  | .dreturn => (match st with | [.inl (.double v)] => okD v G | _ => none)
  | .return_ => (match st with | [] => okV G | _ => none)
  | _ => none
/-- an instruction's length; 0: a switch -/
def ai_len (i : Instr) : Nat := match i with
  | .aload _ | .iload _ | .fload _ | .dload _ | .astore _ | .istore _ | .fstore _ | .dstore _ | .bipush _ | .ldc _ => 2
  | .sipush _ | .iinc _ _ | .ifCond _ _ | .if_icmp _ _ | .goto _ | .ifnull _ | .getfield _ | .putfield _ | .invokevirtual _ | .invokestatic _ | .new _ => 3
  | .tableswitch _ _ _ _ | .lookupswitch _ _ => 0
  | _ => 1
def ai_run (sc : Nat × (Nat → Int32)) (T : Tb) (call : Nat → List AV → GS → Res) (hd : Nat → Hd) (seg : Nat) (back : Kb) : Nat → Ks
  | 0 => fun _ _ _ _ _ => none
  | k + 1 => fun pc ls st G u => match T pc with
    | none => none
    | some e => match e.2.2.2.2.1 with
      | true => back pc (ai_kill e.2.2.2.1 ls) st G
      | false => ai_step sc T call hd seg (ai_run sc T call hd seg back k) pc e ls st G u
/-- the letters of the literals -/
def jS : List (List Int32) := [[108, 111, 97, 100, 32], [117, 110, 108, 111, 97, 100, 32], [115, 104, 105, 102, 116, 32], [115, 97, 105, 108], [116, 117, 114, 110], [108, 105, 109, 105, 116, 32], [100, 114, 105, 108, 108, 32]]
