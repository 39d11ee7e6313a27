-- ===== what holds between the abstract code and the bytes =====
def fnd4 (o i : Nat) (f : Nat → Nat → Bool) (l : List (Nat × Nat × Nat × Nat × Nat)) : Bool := l.any fun q => Nat.beq q.1 o && (Nat.beq q.2.1 i && f q.2.2.1 q.2.2.2.1)
def lnk (o i kd k : Nat) : Bool := fnd4 o i (fun a b => Nat.beq a kd && Nat.beq b k) lks
def flk (o i c j : Nat) : Bool := fnd4 o i (fun a b => Nat.beq a c && Nat.beq b j) flks
def clk (o i c : Nat) : Bool := clks.any fun q => Nat.beq q.1 o && (Nat.beq q.2.1 i && Nat.beq q.2.2.1 c)
def ckk (o i : Nat) (n : Int) (l : List (Nat × Nat × Int × Nat)) : Bool := l.any fun q => Nat.beq q.1 o && (Nat.beq q.2.1 i && decide (q.2.2.1 = n))
def fbk (k kd : Nat) : Bool := Nat.beq (fkd k) kd && (Nat.blt (k / 64) 12 && Nat.blt (k % 64) (nF (k / 64)))
/-- what the abstract instruction has to do with the machine's -/
def okI (o : Nat) (ini : Bool) (pc : Nat) (ri ai : Instr) : Bool := match ri with
  | .iconst n => decide (ai = .iconst n) && (decide (-128 ≤ n) && decide (n < 128))
  | .bipush n => decide (ai = .iconst n) && (decide (-128 ≤ n) && decide (n < 128))
  | .sipush n => decide (ai = .iconst n) && (decide (-32768 ≤ n) && decide (n < 32768))
  | .ldc i => match ai with
    | .iconst n => ckk o i n cks && (decide (-2147483648 ≤ n) && decide (n < 2147483648))
    | _ => false
  | .ldc_w i => match ai with
    | .iconst n => ckk o i n cks && (decide (-2147483648 ≤ n) && decide (n < 2147483648))
    | _ => false
  | .ldc2_w i => match ai with
    | .sipush n => ckk o i n lcks && (decide (-9223372036854775808 ≤ n) && decide (n < 9223372036854775808))
    | _ => false
  | .lconst n => decide (ai = .sipush (n.val : Int))
  | .iload_n k => decide (ai = .iload k.val)
  | .lload_n k => decide (ai = .lload k.val)
  | .aload_n k => decide (ai = .aload k.val)
  | .iload k => decide (ai = .iload k)
  | .lload k => decide (ai = .lload k)
  | .aload k => decide (ai = .aload k)
  | .istore_n k => decide (ai = .istore k.val)
  | .istore k => decide (ai = .istore k)
  | .lstore_n k => decide (ai = .lstore k.val)
  | .lstore k => decide (ai = .lstore k)
  | .astore_n k => decide (ai = .astore k.val)
  | .astore k => decide (ai = .astore k)
  | .iinc k n => decide (ai = .iinc k n)
  | .if_icmp c t => decide (ai = .if_icmp c (pc + t)) && decide (0 ≤ (pc : Int) + t)
  | .ifCond c t => decide (ai = .ifCond c (pc + t)) && decide (0 ≤ (pc : Int) + t)
  | .goto t => decide (ai = .goto (pc + t)) && decide (0 ≤ (pc : Int) + t)
  | .tableswitch d lo hi os => match ai with
    | .tableswitch d' lo' hi' os' => decide (d' = pc + d) && (decide (0 ≤ d') && (decide (lo' = lo) && (decide (hi' = hi) && (decide (os'.toList = os.toList.map (fun x => (pc : Int) + x)) && (os'.toList.all (fun x => decide (0 ≤ x)) && decide (hi - lo + 1 = (os.toList.length : Int)))))))
    | _ => false
  | .lookupswitch d ps => match ai with
    | .lookupswitch d' ps' => decide (d' = pc + d) && (decide (0 ≤ d') && (decide (ps'.toList = ps.toList.map (fun x => (x.1, (pc : Int) + x.2))) && (ps'.toList.all (fun x => decide (0 ≤ x.2)) && (ps.toList.zip (ps.toList.drop 1)).all (fun (a, next) => decide (a.1 < next.1)))))
    | _ => false
  | .getfield i => match ai with
    | .getfield k => flk o i (k / 64) (k % 64) && fbk k 0
    | .instanceof k => flk o i (k / 64) (k % 64) && fbk k 1
    | .checkcast k => flk o i (k / 64) (k % 64) && fbk k 2
    | .ret k => flk o i (k / 64) (k % 64) && fbk k 3
    | _ => false
  | .putfield i => match ai with
    | .putfield k => flk o i (k / 64) (k % 64) && fbk k 0
    | .putstatic k => flk o i (k / 64) (k % 64) && fbk k 1
    | .invokedynamic k => flk o i (k / 64) (k % 64) && fbk k 3
    | .ldc k => flk o i (k / 64) (k % 64) && (ini && (Nat.beq (k / 64) o && (fbk k 2 || fbk k 3)))
    | _ => false
  | .getstatic i => match ai with
    | .getstatic j => flk o i 99 j && (Nat.ble 1 j && Nat.ble j 4)
    | _ => false
  | .invokevirtual i => match ai with
    | .invokestatic k => lnk o i 0 k && (Nat.blt k nM && (!(isS k) && (!(isN k) && !(Nat.beq k 247))))
    | .swap => lnk o i 5 0
    | _ => false
  | .invokestatic i => match ai with
    | .invokestatic k => lnk o i 1 k && (Nat.blt k nM && (isS k && !(Nat.beq k 247)))
    | .nop => lnk o i 6 0
    | _ => false
  | .invokespecial i => match ai with
    | .invokestatic k => (lnk o i 2 k || lnk o i 3 k) && (Nat.blt k nM && (isN k && !(Nat.beq k 247)))
    | .pop2 => lnk o i 4 0
    | _ => false
  | .checkcast i => decide (ai = .dup_x2) && clk o i 98
  | .new i => match ai with
    | .new c => clk o i c && Nat.blt c 12
    | _ => false
  | .newarray t => decide (ai = .newarray t) && (decide (t = .int) || (decide (t = .long) || decide (t = .boolean)))
  | .anewarray i => match ai with
    | .anewarray c => clk o i c && (Nat.beq c 6 || Nat.beq c 7)
    | _ => false
  | .multianewarray i n => decide (ai = .multianewarray 0 2) && (clk o i 97 && Nat.beq n 2)
  | .iadd => decide (ai = .iadd)
  | .isub => decide (ai = .isub)
  | .imul => decide (ai = .imul)
  | .idiv => decide (ai = .idiv)
  | .irem => decide (ai = .irem)
  | .ineg => decide (ai = .ineg)
  | .iand => decide (ai = .iand)
  | .ior => decide (ai = .ior)
  | .ishl => decide (ai = .ishl)
  | .ishr => decide (ai = .ishr)
  | .iushr => decide (ai = .iushr)
  | .ladd => decide (ai = .ladd)
  | .lsub => decide (ai = .lsub)
  | .lmul => decide (ai = .lmul)
  | .ldiv => decide (ai = .ldiv)
  | .lrem => decide (ai = .lrem)
  | .lneg => decide (ai = .lneg)
  | .land => decide (ai = .land)
  | .lor => decide (ai = .lor)
  | .lxor => decide (ai = .lxor)
  | .lshl => decide (ai = .lshl)
  | .lushr => decide (ai = .lushr)
  | .lcmp => decide (ai = .lcmp)
  | .i2l => decide (ai = .i2l)
  | .l2i => decide (ai = .l2i)
  | .i2b => decide (ai = .i2b)
  | .i2s => decide (ai = .i2s)
  | .dup => decide (ai = .dup)
  | .dup2 => decide (ai = .dup2)
  | .pop => decide (ai = .pop)
  | .iaload => decide (ai = .iaload)
  | .laload => decide (ai = .laload)
  | .baload => decide (ai = .baload)
  | .aaload => decide (ai = .aaload)
  | .iastore => decide (ai = .iastore)
  | .lastore => decide (ai = .lastore)
  | .bastore => decide (ai = .bastore)
  | .aastore => decide (ai = .aastore)
  | .arraylength => decide (ai = .arraylength)
  | .ireturn => decide (ai = .ireturn)
  | .lreturn => decide (ai = .lreturn)
  | .areturn => decide (ai = .areturn)
  | .return_ => decide (ai = .return_)
  | _ => false
/-- lengths that the rows of the kit fix -/
def okL (ri : Instr) (len : Nat) : Bool := match ri with
  | .bipush _ | .iload _ | .lload _ | .aload _ | .istore _ | .lstore _ | .astore _ | .ldc _ | .newarray _ => Nat.beq len 2
  | .sipush _ | .ldc_w _ | .ldc2_w _ | .iinc _ _ | .if_icmp _ _ | .ifCond _ _ | .goto _ | .getfield _ | .putfield _ | .getstatic _ | .invokevirtual _ | .invokestatic _ | .invokespecial _ | .checkcast _ | .new _ | .anewarray _ => Nat.beq len 3
  | .multianewarray _ _ => Nat.beq len 4
  | .tableswitch _ _ _ _ | .lookupswitch _ _ => true
  | _ => Nat.beq len 1
def chk (k p : Nat) : Bool := match cod k p with
  | none => true
  | some (ai, np) => match decode (bc k) p with
    | .ok (ri, len) => Nat.beq np (p + len) && (okL ri len && okI (ocl k) (isN k) p ri ai)
    | .error _ => false
def chkM (k n : Nat) : Bool := (List.range n).all (chk k)
