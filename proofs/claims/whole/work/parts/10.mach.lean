-- ===== the abstract machine: numbers as Int, cells by number, a heap as a function =====
/-- a value: an int, a long, a reference (0: null), or nothing known -/
abbrev aV : Type := Int ⊕ (Int ⊕ (Nat ⊕ Unit))
abbrev vi (x : Int) : aV := .inl x
abbrev vl (x : Int) : aV := .inr (.inl x)
abbrev vr (a : Nat) : aV := .inr (.inr (.inl a))
abbrev vu : aV := .inr (.inr (.inr ()))
abbrev HP : Type := Nat → Int → Int
abbrev SH : Type := List (Nat × Nat)
def w32 (x : Int) : Int := x.bmod 4294967296
def w64 (x : Int) : Int := x.bmod 18446744073709551616
def i32 (x : Int) : Int32 := Int32.ofInt x
def i64 (x : Int) : Int64 := Int64.ofInt x
def kd (sh : SH) (a : Nat) : Nat × Nat := sh.getD a (99, 0)
def upd2 (h : HP) (a : Nat) (k v : Int) : HP := fun i j => if i = a ∧ j = k then v else h i j
def new0 (h : HP) (a : Nat) : HP := fun i j => if i = a then 0 else h i j
/-- rows of ints n, from the cell a on -/
def newM (h : HP) (a n : Nat) : HP := fun i j => if i = a then (if 0 ≤ j ∧ j < n then ((a + 1 + j.toNat : Nat) : Int) else 0) else if a < i ∧ i < a + 1 + n then 0 else h i j
def cpyH (h : HP) (b : Nat) (j : Int) (a : Nat) (i n : Int) : HP := fun x y => if x = b ∧ j ≤ y ∧ y < j + n then h a (i + (y - j)) else h x y
def cloH (h : HP) (b a : Nat) : HP := fun x y => if x = b then h a y else h x y
def clr1 (v : aV) : aV := match v with
  | .inr (.inl _) => vu
  | v => v
/-- a word of one place comes to local k -/
def sto1 : List aV → Nat → aV → List aV
  | [], _, _ => []
  | _ :: r, 0, v => v :: r
  | x :: r, k + 1, v => (match k with
    | 0 => clr1 x
    | _ => x) :: sto1 r k v
/-- a word of two places -/
def sto2 (L : List aV) (k : Nat) (v : aV) : List aV := (sto1 L k v).set (k + 1) vu
def sI (st : List aV) (k : Int → List aV → Prop) : Prop := match st with
  | .inl a :: r => k a r
  | _ => False
def sL (st : List aV) (k : Int → List aV → Prop) : Prop := match st with
  | .inr (.inl a) :: r => k a r
  | _ => False
def sR (st : List aV) (k : Nat → List aV → Prop) : Prop := match st with
  | .inr (.inr (.inl a)) :: r => k a r
  | _ => False
def ldJ (L : List aV) (n : Nat) (k : Int → Prop) : Prop := match L[n]? with
  | some (.inr (.inl a)) => k a
  | _ => False
def ldR (L : List aV) (n : Nat) (k : Nat → Prop) : Prop := match L[n]? with
  | some (.inr (.inr (.inl a))) => k a
  | _ => False
def ldI (L : List aV) (n : Nat) (k : Int → Prop) : Prop := match L[n]? with
  | some (.inl a) => k a
  | _ => False
def cnd (c : ClassFile.Cond) (a b : Int) : Prop := match c with
  | .eq => a = b
  | .ne => a ≠ b
  | .lt => a < b
  | .ge => b ≤ a
  | .gt => b < a
  | .le => a ≤ b
def lsw : List (Int × Int) → Int → Int → Int
  | [], d, _ => d
  | (k, t) :: r, d, a => if a = k then t else lsw r d a
abbrev aK : Type := Nat → List aV → List aV → SH → HP → Prop
def bin (st : List aV) (f : Int → Int → Int) (K : List aV → Prop) : Prop := sI st fun b r => sI r fun a r => K (vi (f a b) :: r)
def binL (st : List aV) (f : Int → Int → Int) (K : List aV → Prop) : Prop := sL st fun b r => sL r fun a r => K (vl (f a b) :: r)
def lcp (a b : Int) : Int := if b < a then 1 else if a = b then 0 else -1
def ctg (v : aV) : Nat := match v with
  | .inr (.inl _) => 2
  | _ => 1
def csum (st : List aV) : Nat := match st with
  | [] => 0
  | v :: r => ctg v + csum r
/-- one instruction that is no call and no return -/
def stp (ini : Bool) (i : Instr) (np : Nat) (L st : List aV) (sh : SH) (h : HP) (K : aK) : Prop := match i with
  | .iconst n => K np L (vi n :: st) sh h
  | .sipush n => K np L (vl n :: st) sh h
  | .iload k => ldI L k fun a => K np L (vi a :: st) sh h
  | .lload k => ldJ L k fun a => K np L (vl a :: st) sh h
  | .aload k => ldR L k fun a => K np L (vr a :: st) sh h
  | .istore k => sI st fun a r => (k < L.length) ∧ K np (sto1 L k (vi a)) r sh h
  | .astore k => sR st fun a r => (k < L.length) ∧ K np (sto1 L k (vr a)) r sh h
  | .lstore k => sL st fun a r => (k + 1 < L.length) ∧ K np (sto2 L k (vl a)) r sh h
  | .iinc k n => ldI L k fun a => K np (sto1 L k (vi (w32 (a + n)))) st sh h
  | .iadd => bin st (fun a b => w32 (a + b)) fun r => K np L r sh h
  | .isub => bin st (fun a b => w32 (a - b)) fun r => K np L r sh h
  | .imul => bin st (fun a b => w32 (a * b)) fun r => K np L r sh h
  | .idiv => sI st fun b r => sI r fun a r => (b ≠ 0) ∧ K np L (vi (w32 (a.tdiv b)) :: r) sh h
  | .irem => sI st fun b r => sI r fun a r => (b ≠ 0) ∧ K np L (vi (a.tmod b) :: r) sh h
  | .ineg => sI st fun a r => K np L (vi (w32 (-a)) :: r) sh h
  | .iand => bin st (fun a b => (i32 a &&& i32 b).toInt) fun r => K np L r sh h
  | .ior => bin st (fun a b => (i32 a ||| i32 b).toInt) fun r => K np L r sh h
  | .ishl => bin st (fun a b => (i32 a <<< (i32 b &&& 31)).toInt) fun r => K np L r sh h
  | .ishr => bin st (fun a b => (i32 a >>> (i32 b &&& 31)).toInt) fun r => K np L r sh h
  | .iushr => bin st (fun a b => ((i32 a).toUInt32 >>> ((i32 b).toUInt32 &&& Int32.toUInt32 31)).toInt32.toInt) fun r => K np L r sh h
  | .ladd => binL st (fun a b => w64 (a + b)) fun r => K np L r sh h
  | .lsub => binL st (fun a b => w64 (a - b)) fun r => K np L r sh h
  | .lmul => binL st (fun a b => w64 (a * b)) fun r => K np L r sh h
  | .ldiv => sL st fun b r => sL r fun a r => (b ≠ 0) ∧ K np L (vl (w64 (a.tdiv b)) :: r) sh h
  | .lrem => sL st fun b r => sL r fun a r => (b ≠ 0) ∧ K np L (vl (a.tmod b) :: r) sh h
  | .lneg => sL st fun a r => K np L (vl (w64 (-a)) :: r) sh h
  | .land => binL st (fun a b => (i64 a &&& i64 b).toInt) fun r => K np L r sh h
  | .lor => binL st (fun a b => (i64 a ||| i64 b).toInt) fun r => K np L r sh h
  | .lxor => binL st (fun a b => (i64 a ^^^ i64 b).toInt) fun r => K np L r sh h
  | .lshl => sI st fun b r => sL r fun a r => K np L (vl (i64 a <<< ((i32 b).toInt64 &&& 63)).toInt :: r) sh h
  | .lushr => sI st fun b r => sL r fun a r => K np L (vl ((i64 a).toUInt64 >>> ((i32 b).toInt64.toUInt64 &&& Int64.toUInt64 63)).toInt64.toInt :: r) sh h
  | .lcmp => sL st fun b r => sL r fun a r => K np L (vi (lcp a b) :: r) sh h
  | .i2l => sI st fun a r => K np L (vl a :: r) sh h
  | .l2i => sL st fun a r => K np L (vi (w32 a) :: r) sh h
  | .i2b => sI st fun a r => K np L (vi (a.bmod 256) :: r) sh h
  | .i2s => sI st fun a r => K np L (vi (a.bmod 65536) :: r) sh h
  | .dup => match st with
    | .inl a :: r => K np L (vi a :: vi a :: r) sh h
    | .inr (.inr (.inl a)) :: r => K np L (vr a :: vr a :: r) sh h
    | _ => False
  | .dup2 => sI st fun b r => sR r fun a r => K np L (vi b :: vr a :: vi b :: vr a :: r) sh h
  | .pop => sI st fun _ r => K np L r sh h
  | .pop2 => sR st fun a r => (1 ≤ a ∧ csum r ≤ 8) ∧ K np L r sh h
  | .dup_x2 => sR st fun a r => ((kd sh a).1 = 0 ∧ 6 ≤ a) ∧ K np L (vr a :: r) sh h
  | .ifCond c t => sI st fun a r => (cnd c a 0 → K t.toNat L r sh h) ∧ (¬ cnd c a 0 → K np L r sh h)
  | .if_icmp c t => sI st fun b r => sI r fun a r => (cnd c a b → K t.toNat L r sh h) ∧ (¬ cnd c a b → K np L r sh h)
  | .goto t => K t.toNat L st sh h
  | .tableswitch d lo hi os => sI st fun a r => ((a < lo ∨ hi < a) → K d.toNat L r sh h) ∧ (¬ (a < lo ∨ hi < a) → K ((os.toList.getD (a - lo).toNat d).toNat) L r sh h)
  | .lookupswitch d ps => sI st fun a r => K (lsw ps.toList d a).toNat L r sh h
  | .getfield k => sR st fun a r => ((kd sh a).1 = 10 + k / 64) ∧ K np L (vi (h a (k % 64 : Nat)) :: r) sh h
  | .instanceof k => sR st fun a r => ((kd sh a).1 = 10 + k / 64) ∧ K np L (vl (h a (k % 64 : Nat)) :: r) sh h
  | .checkcast k => sR st fun a r => ((kd sh a).1 = 10 + k / 64) ∧ K np L (vr (h a (k % 64 : Nat)).toNat :: r) sh h
  | .ret k => sR st fun a r => ((kd sh a).1 = 10 + k / 64) ∧ K np L (vr (h a (k % 64 : Nat)).toNat :: r) sh h
  | .putfield k => sI st fun v r => sR r fun a r => ((kd sh a).1 = 10 + k / 64) ∧ K np L r sh (upd2 h a (k % 64 : Nat) v)
  | .putstatic k => sL st fun v r => sR r fun a r => ((kd sh a).1 = 10 + k / 64) ∧ K np L r sh (upd2 h a (k % 64 : Nat) v)
  | .invokedynamic k => sR st fun v r => sR r fun a r => ((kd sh a).1 = 10 + k / 64) ∧ K np L r sh (upd2 h a (k % 64 : Nat) v)
  | .ldc k => sR st fun v r => sR r fun a r => ((kd sh a).1 = 10 + k / 64) ∧ K np L r sh (upd2 h a (k % 64 : Nat) v)
  | .getstatic j => K np L (vr j :: st) sh h
  | .iaload => sI st fun i r => sR r fun a r => (((kd sh a).1 = 0 ∨ (kd sh a).1 = 5) ∧ 0 ≤ i ∧ i < (kd sh a).2) ∧ K np L (vi (h a i) :: r) sh h
  | .laload => sI st fun i r => sR r fun a r => ((kd sh a).1 = 1 ∧ 0 ≤ i ∧ i < (kd sh a).2) ∧ K np L (vl (h a i) :: r) sh h
  | .baload => sI st fun i r => sR r fun a r => ((kd sh a).1 = 2 ∧ 0 ≤ i ∧ i < (kd sh a).2) ∧ K np L (vi (h a i) :: r) sh h
  | .aaload => sI st fun i r => sR r fun a r => (((kd sh a).1 = 3 ∨ (kd sh a).1 = 4 ∨ (kd sh a).1 = 6) ∧ 0 ≤ i ∧ i < (kd sh a).2) ∧ K np L (vr (h a i).toNat :: r) sh h
  | .iastore => sI st fun v r => sI r fun i r => sR r fun a r => ((kd sh a).1 = 0 ∧ 0 ≤ i ∧ i < (kd sh a).2) ∧ K np L r sh (upd2 h a i v)
  | .lastore => sL st fun v r => sI r fun i r => sR r fun a r => ((kd sh a).1 = 1 ∧ 0 ≤ i ∧ i < (kd sh a).2) ∧ K np L r sh (upd2 h a i v)
  | .bastore => sI st fun v r => sI r fun i r => sR r fun a r => ((kd sh a).1 = 2 ∧ 0 ≤ i ∧ i < (kd sh a).2 ∧ (v = 0 ∨ v = 1)) ∧ K np L r sh (upd2 h a i v)
  | .aastore => sR st fun v r => sI r fun i r => sR r fun a r => ((((kd sh a).1 = 3 ∧ (kd sh v).1 = 16) ∨ ((kd sh a).1 = 6 ∧ (kd sh v).1 = 17)) ∧ 0 ≤ i ∧ i < (kd sh a).2) ∧ K np L r sh (upd2 h a i v)
  | .arraylength => sR st fun a r => ((kd sh a).1 = 5) ∧ K np L (vi (kd sh a).2 :: r) sh h
  | .new c => K np L (vr sh.length :: st) (sh ++ [(10 + c, nF c)]) (new0 h sh.length)
  | .newarray t => sI st fun n r => (0 ≤ n ∧ n ≤ 10000) ∧ K np L (vr sh.length :: r) (sh ++ [((match t with
      | .int => 0
      | .long => 1
      | _ => 2), n.toNat)]) (new0 h sh.length)
  | .anewarray c => sI st fun n r => (0 ≤ n ∧ n ≤ 10000) ∧ K np L (vr sh.length :: r) (sh ++ [(cond (Nat.beq c 6) 3 6, n.toNat)]) (new0 h sh.length)
  | .multianewarray _ _ => sI st fun k r => sI r fun n r => (k = 5 ∧ n = 20) ∧ K np L (vr sh.length :: r) (sh ++ (4, 20) :: List.replicate 20 (0, 5)) (newM h sh.length 20)
  | .swap => sR st fun a r => (1 ≤ a ∧ a ≤ 4 ∧ (kd sh a).1 = 5 ∧ csum r ≤ 8) ∧ K np L (vr sh.length :: r) (sh ++ [(0, (kd sh a).2)]) (cloH (new0 h sh.length) sh.length a)
  | .nop => sI st fun n r => sI r fun j r => sR r fun b r => sI r fun i r => sR r fun a r => ((kd sh a).1 = 0 ∧ (kd sh b).1 = 0 ∧ 0 ≤ n ∧ 0 ≤ i ∧ 0 ≤ j ∧ i + n ≤ (kd sh a).2 ∧ j + n ≤ (kd sh b).2 ∧ csum r ≤ 8) ∧ K np L r sh (cpyH h b j a i n)
  | _ => False
/-- how deep a method goes at most -/
def rk (k : Nat) (as : List aV) : Nat := cond (Nat.beq k 185) (match as with
  | [_, _, .inl laid, _, _] => 4 + (8 - laid).toNat
  | _ => 900) (rkT k)
def ent0 : List aV → List aV
  | [] => []
  | .inr (.inl a) :: r => vl a :: vu :: ent0 r
  | v :: r => v :: ent0 r
def padT (n : Nat) (L : List aV) : List aV := match n with
  | 0 => []
  | n + 1 => match L with
    | [] => vu :: padT n []
    | v :: r => v :: padT n r
def ent (k : Nat) (as : List aV) : List aV := padT (mxl k) (ent0 as)
/-- the arguments out of the stack, the first one first -/
def tak (n : Nat) (st acc : List aV) : Option (List aV × List aV) := match n with
  | 0 => some (acc, st)
  | n + 1 => match st with
    | [] => none
    | v :: r => tak n r (v :: acc)
/-- the receiver is an object of the method's class -/
def rcv (k : Nat) (sh : SH) (as : List aV) : Prop := cond (isS k) True (match as with
  | .inr (.inr (.inl a)) :: _ => (kd sh a).1 = 10 + ocl k
  | _ => False)
def psh (r : Option aV) (st : List aV) : List aV := match r with
  | none => st
  | some v => v :: st
abbrev aQ : Type := Option aV → SH → HP → Prop
/-- n steps and fewer lead from here to the method's end, with Q there -/
def Wn : Nat → Nat → Nat → Nat → List aV → List aV → SH → HP → aQ → Prop
  | 0, _, _, _, _, _, _, _, _ => False
  | n + 1, ρ, M, pc, L, st, sh, h, Q => match cod M pc with
    | none => False
    | some (i, np) => match i with
      | .invokestatic k => match tak (nar k) st [] with
        | none => False
        | some (as, r) => (rk k as < ρ ∧ csum r ≤ 8 ∧ (ent0 as).length ≤ mxl k ∧ rcv k sh as) ∧ Wn n (rk k as) k 0 (ent k as) [] sh h fun v sh' h' => Wn n ρ M np L (psh v r) sh' h' Q
      | .ireturn => sI st fun a r => (r = [] ∧ (kin M = 1 ∨ (kin M = 2 ∧ (a = 0 ∨ a = 1)))) ∧ Q (some (vi a)) sh h
      | .lreturn => sL st fun a r => (r = [] ∧ kin M = 3) ∧ Q (some (vl a)) sh h
      | .areturn => sR st fun a r => (r = [] ∧ kin M = 4) ∧ Q (some (vr a)) sh h
      | .return_ => (st = [] ∧ kin M = 0) ∧ Q none sh h
      | i => stp (isN M) i np L st sh h fun pc' L' st' sh' h' => Wn n ρ M pc' L' st' sh' h' Q
