def FT : List (List Nat) := [[0, 11, 0, 0, 0, 30], [3, 0, 0, 0, 0, 0, 30, 30, 30, 31, 30, 31, 31, 30, 30], [0, 0, 33], [1, 1, 0, 30, 30], [0, 30, 34], [0, 0, 30], [0, 0, 0, 0, 30], [30, 30, 30, 32, 15, 13, 16, 12, 14, 30, 30, 0], [30, 30, 30, 30, 30, 30, 30, 30, 30, 30, 0, 31, 30, 30, 0, 0, 0, 0, 30, 30, 30, 0, 0, 31, 1, 1, 0, 0, 0, 30]]
def ftg (c j : Nat) : Nat := (FT.getD c []).getD j 9
def fnum (c : Nat) : Nat := (FT.getD c []).length
/-! ===== the data are the machine's: what a program decides ===== -/
noncomputable def mY (k : Nat) : MethodName := (miOf k).1
noncomputable def mC (k : Nat) : ByteArray := (miOf k).2.1
noncomputable def mL (k : Nat) : Nat := (miOf k).2.2.1
noncomputable def mR (k : Nat) : Option FieldType := (miOf k).2.2.2.1
noncomputable def mP (k : Nat) : List Nat := (miOf k).2.2.2.2.1
noncomputable def mT (k : Nat) : Nat := (miOf k).2.2.2.2.2.1
noncomputable def mD (k : Nat) : Nat := (miOf k).2.2.2.2.2.2.1
noncomputable def mW (k : Nat) : Nat := (miOf k).2.2.2.2.2.2.2.1
noncomputable def mK (k : Nat) : Nat := (miOf k).2.2.2.2.2.2.2.2.1
def rg32 (z : Int) : Bool := decide (-2147483648 ≤ z) && decide (z < 2147483648)
def rg64 (z : Int) : Bool := decide (-9223372036854775808 ≤ z) && decide (z < 9223372036854775808)
noncomputable def wd (w : Nat) : Option Jvm.Cond := lw_tbl[w]?
noncomputable def ch0 (k : Nat) (ins : Instr) (len a w : Nat) (z : Int) : Bool := match ins with
  | .iconst n => len == 1 && a == 0 && z == n && rg32 z
  | .bipush n => len == 2 && a == 0 && decide ((Int8.ofInt n).toInt32 = Int32.ofInt z) && rg32 z
  | .sipush n => len == 3 && a == 0 && decide ((Int16.ofInt n).toInt32 = Int32.ofInt z) && rg32 z
  | .ldc i => len == 2 && a == 0 && rg32 z && decide (wd w = some (.constant (mY k).cls i (Int32.ofInt z)))
  | .ldc_w i => len == 3 && a == 0 && rg32 z && decide (wd w = some (.constant (mY k).cls i (Int32.ofInt z)))
  | .lconst n => len == 1 && a == 1 && decide (Int64.ofNat n = Int64.ofInt z) && rg64 z
  | .ldc2_w i => len == 3 && a == 1 && rg64 z && decide (wd w = some (.constantLong (mY k).cls i (Int64.ofInt z)))
  | .aconst_null => len == 1 && a == 8 && z == 0
  | _ => false
def ch1 (ins : Instr) (len a b : Nat) : Bool := match ins with
  | .iload_n n => len == 1 && n.val == a && b == 0
  | .iload n => len == 2 && n == a && b == 0
  | .lload_n n => len == 1 && n.val == a && b == 1
  | .lload n => len == 2 && n == a && b == 1
  | .aload_n n => len == 1 && n.val == a && b == 2
  | .aload n => len == 2 && n == a && b == 2
  | _ => false
def ch2 (ins : Instr) (len a b : Nat) : Bool := match ins with
  | .istore_n n => len == 1 && n.val == a && b == 0
  | .istore n => len == 2 && n == a && b == 0
  | .lstore_n n => len == 1 && n.val == a && b == 1
  | .lstore n => len == 2 && n == a && b == 1
  | .astore_n n => len == 1 && n.val == a && b == 2
  | .astore n => len == 2 && n == a && b == 2
  | _ => false
def ch3 (ins : Instr) (len a : Nat) (z : Int) : Bool := match ins with
  | .iinc n i => len == 3 && n == a && z == i
  | _ => false
def ch4 (ins : Instr) (len a : Nat) : Bool := match ins with
  | .iadd => len == 1 && a == 0
  | .isub => len == 1 && a == 1
  | .imul => len == 1 && a == 2
  | .iand => len == 1 && a == 3
  | .ior => len == 1 && a == 4
  | .ishl => len == 1 && a == 5
  | .ishr => len == 1 && a == 6
  | _ => false
def ch5 (ins : Instr) (len a : Nat) : Bool := match ins with
  | .idiv => len == 1 && a == 0
  | .irem => len == 1 && a == 1
  | _ => false
def ch6 (ins : Instr) (len a : Nat) : Bool := match ins with
  | .ladd => len == 1 && a == 0
  | .lmul => len == 1 && a == 1
  | _ => false
def ch7 (ins : Instr) (len a : Nat) : Bool := match ins with
  | .ldiv => len == 1 && a == 0
  | .lrem => len == 1 && a == 1
  | _ => false
def ch8 (ins : Instr) (len : Nat) : Bool := match ins with
  | .lcmp => len == 1
  | _ => false
def ch9 (ins : Instr) (len a : Nat) : Bool := match ins with
  | .ineg => len == 1 && a == 0
  | .i2l => len == 1 && a == 1
  | _ => false
def cno (c : ClassFile.Cond) : Nat := match c with
  | .eq => 0
  | .ne => 1
  | .lt => 2
  | .ge => 3
  | .gt => 4
  | .le => 5
def ch10 (ins : Instr) (pc len a b : Nat) : Bool := match ins with
  | .ifCond c o => len == 3 && cno c == a && decide ((pc : Int) + o = (b : Int))
  | _ => false
def ch11 (ins : Instr) (pc len a b : Nat) : Bool := match ins with
  | .if_icmp c o => len == 3 && cno c == a && decide ((pc : Int) + o = (b : Int))
  | _ => false
def ch12 (ins : Instr) (pc len a b : Nat) : Bool := match ins with
  | .ifnull o => len == 3 && a == 0 && decide ((pc : Int) + o = (b : Int))
  | .ifnonnull o => len == 3 && a == 1 && decide ((pc : Int) + o = (b : Int))
  | _ => false
def ch13 (ins : Instr) (pc len b : Nat) : Bool := match ins with
  | .goto o => len == 3 && decide ((pc : Int) + o = (b : Int))
  | _ => false
def swT (pc : Nat) (lo : Int) : List Int → List (Int × Nat) → Bool
  | [], [] => true
  | o :: os, q :: qs => decide (q.1 = lo) && decide ((pc : Int) + o = (q.2 : Int)) && swT pc (lo + 1) os qs
  | _, _ => false
def swL (pc : Nat) : List (Int × Int) → List (Int × Nat) → Bool
  | [], [] => true
  | o :: os, q :: qs => decide (q.1 = o.1) && decide ((pc : Int) + o.2 = (q.2 : Int)) && swL pc os qs
  | _, _ => false
def ch14 (ins : Instr) (pc b : Nat) (sw : List (Int × Nat)) : Bool := match ins with
  | .tableswitch d lo hi os => decide ((pc : Int) + d = (b : Int)) && decide (hi = lo + (os.toList.length : Int) - 1) && swT pc lo os.toList sw
  | .lookupswitch d ps => decide ((pc : Int) + d = (b : Int)) && ((ps.toList.zip (ps.toList.drop 1)).all (fun (a, next) => a.1 < next.1)) && swL pc ps.toList sw
  | _ => false
/-- class b's field a has the tag c, and the link is among the words -/
noncomputable def chF (k i a b c w : Nat) : Bool := match vwCl[b]? with
  | some r => decide (a < r.2.2) && decide (c = ftg b a) && decide (wd w = some (.fieldLink (mY k).cls i (r.2.1 a).1 (r.2.1 a).2.1 (r.2.1 a).2.2.1))
  | none => false
noncomputable def ch15 (k : Nat) (ins : Instr) (len a b c w : Nat) : Bool := match ins with
  | .getfield i => len == 3 && chF k i a b c w
  | _ => false
noncomputable def ch16 (k : Nat) (ins : Instr) (len a b c w : Nat) : Bool := match ins with
  | .putfield i => len == 3 && chF k i a b c w && (match vwCl[b]? with
    | some r => !(r.2.1 a).2.2.2 || (decide ((mY k).name = "<init>") && decide ((r.2.1 a).1 = (mY k).cls))
    | none => false)
  | _ => false
def ch17 (ins : Instr) (len a : Nat) : Bool := match ins with
  | .iaload => len == 1 && a == 0
  | .baload => len == 1 && a == 1
  | .aaload => len == 1 && a == 2
  | _ => false
def ch18 (ins : Instr) (len a : Nat) : Bool := match ins with
  | .iastore => len == 1 && a == 0
  | .bastore => len == 1 && a == 1
  | .aastore => len == 1 && a == 2
  | _ => false
def ch19 (ins : Instr) (len : Nat) : Bool := match ins with
  | .arraylength => len == 1
  | _ => false
noncomputable def chC (k i a c w : Nat) (z : Int) (sw : List (Int × Nat)) : Bool :=
  decide (a < 273) && decide (a ≠ 0) && decide (sw = ((mL a : Int), (mP a).length) :: (mP a).map (fun t => ((0 : Int), t))) && decide (c = if mT a = 3 then 0 else mT a)
    && decide (mD a + 1 ≤ mD k) && decide (8 + (mL a + 11) + mW a ≤ mW k)
    && (if z = 0 then decide (wd w = some (.methodLink (mY k).cls i (mY a))) else decide (wd w = some (.methodLinkNest (mY k).cls i (mY a) "ScaffoldYard")))
noncomputable def ch20 (k : Nat) (ins : Instr) (len a b c w : Nat) (z : Int) (sw : List (Int × Nat)) : Bool := match ins with
  | .invokestatic i => len == 3 && b == 0 && mK a == 0 && chC k i a c w z sw
  | .invokevirtual i => len == 3 && b == 1 && mK a == 1 && chC k i a c w z sw
  | .invokespecial i => len == 3 && b == 2 && mK a == 2 && chC k i a c w z sw
  | _ => false
noncomputable def ch21 (k : Nat) (ins : Instr) (len a c : Nat) : Bool := c == mT k && (match ins with
  | .return_ => len == 1 && a == 0 && c == 9
  | .ireturn => len == 1 && ((a == 1 && c == 0) || (a == 2 && c == 3))
  | .lreturn => len == 1 && a == 3 && c == 1
  | .areturn => len == 1 && a == 4 && decide (10 ≤ c) && decide (c < 40)
  | _ => false)
def ch22 (ins : Instr) (len : Nat) : Bool := match ins with
  | .dup => len == 1
  | _ => false
def ch23 (ins : Instr) (len : Nat) : Bool := match ins with
  | .dup2 => len == 1
  | _ => false
def ch24 (ins : Instr) (len : Nat) : Bool := match ins with
  | .pop => len == 1
  | _ => false
noncomputable def ch25 (k : Nat) (ins : Instr) (len a w : Nat) : Bool := match ins with
  | .new i => len == 3 && (match vwCl[a]? with
    | some r => decide (wd w = some (.classLink (mY k).cls i r.1))
    | none => false)
  | _ => false
def ch26 (ins : Instr) (len a : Nat) : Bool := match ins with
  | .newarray t => len == 2 && (match t with | .int => a == 20 | .boolean => a == 21 | _ => false)
  | _ => false
noncomputable def ch27 (k : Nat) (ins : Instr) (len a w : Nat) : Bool := match ins with
  | .anewarray i => len == 3 && ((a == 22 && decide (wd w = some (.classLink (mY k).cls i RX1))) || (a == 23 && decide (wd w = some (.classLink (mY k).cls i RX0))))
  | _ => false
noncomputable def ch28 (k : Nat) (ins : Instr) (len w : Nat) : Bool := match ins with
  | .multianewarray i d => len == 4 && d == 2 && decide (wd w = some (.classLink (mY k).cls i "[[I"))
  | _ => false
noncomputable def ch29 (k : Nat) (ins : Instr) (len w : Nat) : Bool := match ins with
  | .invokespecial i => len == 3 && decide (1 ≤ mD k) && decide (20 ≤ mW k) && decide (wd w = some (.methodLink (mY k).cls i objectInit))
  | _ => false
def ch30 (k : Nat) (ins : Instr) (len : Nat) : Bool := match ins with
  | .iaload => len == 1 && k == 0
  | _ => false
def ch31 (k : Nat) (ins : Instr) (len : Nat) : Bool := match ins with
  | .arraylength => len == 1 && k == 0
  | _ => false
noncomputable def ch32 (k : Nat) (ins : Instr) (len a w : Nat) : Bool := match ins with
  | .invokestatic i => len == 3 && decide (1 ≤ mD k) && decide (21 ≤ mW k) && (match a with
    | 0 => decide (wd w = some (.methodLink (mY k).cls i Lib.Math.max.name))
    | 1 => decide (wd w = some (.methodLink (mY k).cls i Lib.Math.min.name))
    | 2 => decide (wd w = some (.methodLink (mY k).cls i Lib.Math.abs.name))
    | _ => false)
  | _ => false
noncomputable def chO (k pc : Nat) (ins : Instr) (len : Nat) (i : II) : Bool := match i with
  | (op, nx, a, b, c, w, z, sw) => decide (nx = pc + len) && (match op with
    | 0 => ch0 k ins len a w z
    | 1 => ch1 ins len a b
    | 2 => ch2 ins len a b
    | 3 => ch3 ins len a z
    | 4 => ch4 ins len a
    | 5 => ch5 ins len a
    | 6 => ch6 ins len a
    | 7 => ch7 ins len a
    | 8 => ch8 ins len
    | 9 => ch9 ins len a
    | 10 => ch10 ins pc len a b
    | 11 => ch11 ins pc len a b
    | 12 => ch12 ins pc len a b
    | 13 => ch13 ins pc len b
    | 14 => ch14 ins pc b sw
    | 15 => ch15 k ins len a b c w
    | 16 => ch16 k ins len a b c w
    | 17 => ch17 ins len a
    | 18 => ch18 ins len a
    | 19 => ch19 ins len
    | 20 => ch20 k ins len a b c w z sw
    | 21 => ch21 k ins len a c
    | 22 => ch22 ins len
    | 23 => ch23 ins len
    | 24 => ch24 ins len
    | 25 => ch25 k ins len a w
    | 26 => ch26 ins len a
    | 27 => ch27 k ins len a w
    | 28 => ch28 k ins len w
    | 29 => ch29 k ins len w
    | 30 => ch30 k ins len
    | 31 => ch31 k ins len
    | 32 => ch32 k ins len a w
    | _ => false)
noncomputable def chI (k : Nat) (q : Nat × II) : Bool := match decode (mC k) q.1 with
  | .ok r => chO k q.1 r.1 r.2 q.2
  | _ => false
noncomputable def chT (k : Nat) : Bool := (tabOf k).all (fun l => l.all (chI k))
