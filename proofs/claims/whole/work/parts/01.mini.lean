/-! THE MINI MACHINE: a plain machine over whole numbers, in which the class, the reference and the law run. Part 01: what it does. -/
/-- mini values: tag (0 int, 1 long, 2 reference, 3 nothing, 4 thrown) and number; a reference is a cell's number, -1 null, below: things that were there before -/
abbrev MV : Type := Nat × Int
/-- mini memory: the cells' kinds and lengths; their contents; cells and slots made so far -/
abbrev Mem : Type := List (Nat × Nat) × (Nat → Nat → Int) × Nat × Nat
abbrev MRes : Type := MV × Mem
/-- a method: its code (with the locals that are dead there), how many it takes, how many locals, class of its receiver (0: static) -/
abbrev MMeth : Type := List (Instr × List Nat) × Nat × Nat × Nat
def w32 (x : Int) : Int := Int.bmod x 4294967296
def w64 (x : Int) : Int := Int.bmod x 18446744073709551616
def sx8 (x : Int) : Int := Int.bmod x 256
def c16 (x : Int) : Int := x % 65536
def tdv (x y : Int) : Int := w32 (Int.tdiv x y)
def b32 (x : Int) : BitVec 32 := BitVec.ofInt 32 x
def b64 (x : Int) : BitVec 64 := BitVec.ofInt 64 x
def iand32 (x y : Int) : Int := (b32 x &&& b32 y).toInt
def ior32 (x y : Int) : Int := (b32 x ||| b32 y).toInt
def ixor32 (x y : Int) : Int := (b32 x ^^^ b32 y).toInt
def ishl32 (x y : Int) : Int := (b32 x <<< (y % 32).toNat).toInt
def ishr32 (x y : Int) : Int := ((b32 x).sshiftRight (y % 32).toNat).toInt
def iushr32 (x y : Int) : Int := (b32 x >>> (y % 32).toNat).toInt
def land64 (x y : Int) : Int := (b64 x &&& b64 y).toInt
def lor64 (x y : Int) : Int := (b64 x ||| b64 y).toInt
def lxor64 (x y : Int) : Int := (b64 x ^^^ b64 y).toInt
def lshl64 (x y : Int) : Int := (b64 x <<< (y % 64).toNat).toInt
def lshr64 (x y : Int) : Int := ((b64 x).sshiftRight (y % 64).toNat).toInt
def lushr64 (x y : Int) : Int := (b64 x >>> (y % 64).toNat).toInt
def lcmpI (x y : Int) : Int := if x < y then -1 else if x = y then 0 else 1
/-- things from before the run: the kind and the contents of arrays -/
abbrev MExt : Type := Int → Nat × List Int
/-- array kinds: 100 int, 101 long, 102 boolean, 103 byte, 104 Rules[], 105 int[][]; below 100: objects of that class -/
def aTag (k : Nat) : Nat := if k = 101 then 1 else if k = 104 ∨ k = 105 then 2 else 0
def lay? (M : Mem) (x : Int) : Nat × Nat := if 0 ≤ x then (M.1[x.toNat]?).getD (999, 0) else (999, 0)
def get? (M : Mem) (x : Int) (i : Nat) : Int := M.2.1 x.toNat i
def put (M : Mem) (x : Int) (i : Nat) (v : Int) : Mem := (M.1, (fun a j => if a = x.toNat ∧ j = i then v else M.2.1 a j), M.2.2.1, M.2.2.2)
def grow (M : Mem) (k n : Nat) (v : Int) : Mem := (M.1 ++ [(k, n)], (fun a j => if a = M.1.length then v else M.2.1 a j), M.2.2.1 + 1, M.2.2.2 + n)
def nx (M : Mem) : Int := M.1.length
def inb (i : Int) (n : Nat) : Bool := decide (0 ≤ i) && decide (i < n)
def kl (ks : List Nat) (ls : List MV) : List MV := ks.foldl (fun l k => l.set k (3, 0)) ls
/-- a field's number: its type (0 int, 1 long, 2 reference, 3 boolean), its place, its class -/
def fTy (f : Nat) : Nat := f % 4
def fPl (f : Nat) : Nat := f / 4 % 128
def fCl (f : Nat) : Nat := f / 512
def fTg (f : Nat) : Nat := if f % 4 = 3 then 0 else f % 4
def cmpI (c : ClassFile.Cond) (x y : Int) : Bool := match c with
  | .eq => decide (x = y) | .ne => !decide (x = y) | .lt => decide (x < y) | .ge => !decide (x < y) | .gt => decide (y < x) | .le => !decide (y < x)
/-- an array's element; an element stored; its length -/
def aget (X : MExt) (kd : Nat) (M : Mem) (x i : Int) : Option Int :=
  if 0 ≤ x then (if (lay? M x).1 = kd then (if inb i (lay? M x).2 = true then some (get? M x i.toNat) else none) else none)
  else (if x < -1 then (if (X x).1 = kd then (if inb i (X x).2.length = true then some ((X x).2.getD i.toNat 0) else none) else none) else none)
def aput (kd : Nat) (M : Mem) (x i v : Int) : Option Mem :=
  if 0 ≤ x then (if (lay? M x).1 = kd then (if inb i (lay? M x).2 = true then some (put M x i.toNat v) else none) else none) else none
def alen (X : MExt) (M : Mem) (x : Int) : Option Int :=
  if 0 ≤ x then (if 100 ≤ (lay? M x).1 ∧ (lay? M x).1 < 106 then some ((lay? M x).2 : Int) else none)
  else (if x < -1 then (if 100 ≤ (X x).1 ∧ (X x).1 < 104 then some ((X x).2.length : Int) else none) else none)
/-- a field read and written; two of a String's: 10000 its bytes, 10001 its coder -/
def fget (f : Nat) (M : Mem) (x : Int) : Option Int :=
  if f < 10000 then (if 0 ≤ x then (if (lay? M x).1 = fCl f then some (get? M x (fPl f)) else none) else none)
  else if f = 10000 then (if -30 < x ∧ x ≤ -10 then some (x - 20) else none) else (if -30 < x ∧ x ≤ -10 then some 0 else none)
def fput (f : Nat) (M : Mem) (x v : Int) : Option Mem :=
  if 0 ≤ x then (if (lay? M x).1 = fCl f then some (put M x (fPl f) v) else none) else none
def growF (M : Mem) (k n : Nat) (d : Nat → Int) : Mem := (M.1 ++ [(k, n)], (fun a j => if a = M.1.length then d j else M.2.1 a j), M.2.2.1 + 1, M.2.2.2 + n)
def growRows (M : Mem) (n : Nat) : Nat → Mem
  | 0 => M
  | r + 1 => growF (growRows M n r) 100 n (fun _ => 0)
def acopy (M : Mem) (s sp d dp n : Int) : Option Mem :=
  if 0 ≤ s ∧ 0 ≤ d ∧ (lay? M s).1 = 100 ∧ (lay? M d).1 = 100 ∧ 0 ≤ sp ∧ 0 ≤ dp ∧ 0 ≤ n ∧ sp + n ≤ (lay? M s).2 ∧ dp + n ≤ (lay? M d).2 then
    some (M.1, (fun a j => if a = d.toNat ∧ dp.toNat ≤ j ∧ j < dp.toNat + n.toNat then M.2.1 s.toNat (sp.toNat + (j - dp.toNat)) else M.2.1 a j), M.2.2.1, M.2.2.2)
  else none
def rcv (M : Mem) (x : Int) (cl : Nat) : Bool := if 0 ≤ x then decide ((lay? M x).1 + 1 = cl) else (decide (-30 < x) && decide (x ≤ -10) && decide (cl = 14))
/-- a reference that may be stored: null, or of a cell that is there, or a thing from before -/
def vref (M : Mem) (x : Int) : Bool := decide (x < nx M)
abbrev MK : Type := Nat → List MV → List MV → Mem → Option MRes
def lod (t n pc : Nat) (ls st : List MV) (M : Mem) (k : MK) : Option MRes := match ls[n]? with
  | some v => if v.1 = t then k (pc + 1) ls (v :: st) M else none
  | none => none
/-- a store kills the long whose second half stood there -/
def set1 (ls : List MV) (n : Nat) (v : MV) : List MV := (if n ≠ 0 ∧ (ls.getD (n - 1) (3, 0)).1 = 1 then ls.set (n - 1) (3, 0) else ls).set n v
def incr (n : Nat) (c : Int) (pc : Nat) (ls st : List MV) (M : Mem) (k : MK) : Option MRes := match ls[n]? with
  | some v => if v.1 = 0 then k (pc + 1) (ls.set n (0, w32 (v.2 + c))) st M else none
  | none => none
def bin (t : Nat) (op : Int → Int → Int) (pc : Nat) (ls st : List MV) (M : Mem) (k : MK) : Option MRes := match st with
  | (ty, y) :: (tx, x) :: r => if tx = t ∧ ty = t then k (pc + 1) ls ((t, op x y) :: r) M else none
  | _ => none
def shf (op : Int → Int → Int) (pc : Nat) (ls st : List MV) (M : Mem) (k : MK) : Option MRes := match st with
  | (ty, y) :: (tx, x) :: r => if tx = 1 ∧ ty = 0 then k (pc + 1) ls ((1, op x y) :: r) M else none
  | _ => none
def una (t t' : Nat) (op : Int → Int) (pc : Nat) (ls st : List MV) (M : Mem) (k : MK) : Option MRes := match st with
  | (tx, x) :: r => if tx = t then k (pc + 1) ls ((t', op x) :: r) M else none
  | _ => none
def ald (X : MExt) (kd : Nat) (pc : Nat) (ls st : List MV) (M : Mem) (k : MK) : Option MRes := match st with
  | (ti, i) :: (tx, x) :: r => if ti = 0 ∧ tx = 2 then (aget X kd M x i).bind fun v => k (pc + 1) ls ((aTag kd, v) :: r) M else none
  | _ => none
def ast (kd : Nat) (nr : Int → Int) (pc : Nat) (ls st : List MV) (M : Mem) (k : MK) : Option MRes := match st with
  | (tv, v) :: (ti, i) :: (tx, x) :: r => if tv = aTag kd ∧ ti = 0 ∧ tx = 2 then (aput kd M x i (nr v)).bind fun M' => k (pc + 1) ls r M' else none
  | _ => none
def jmp (b : Bool) (t pc : Nat) (ls st : List MV) (M : Mem) (k : MK) : Option MRes := if b = true then k t ls st M else k (pc + 1) ls st M
def pushR (v : MV) (st : List MV) : List MV := if v.1 = 3 then st else v :: st
/-- the words that a stack takes -/
def wt : List MV → Nat
  | [] => 0
  | v :: r => (if v.1 = 1 then 2 else 1) + wt r
def inv (call : Nat → List MV → Mem → Option MRes) (j n mx pc : Nat) (ls st : List MV) (M : Mem) (k : MK) : Option MRes :=
  if st.length < n ∨ 8 < wt (st.drop n) ∨ mx < wt (st.take n) then none else (call j (st.take n).reverse M).bind fun r => if r.1.1 = 4 then none else k (pc + 1) ls (pushR r.1 (st.drop n)) r.2
def rcvOf (st : List MV) (n : Nat) : MV := (st.take n).getLastD (3, 0)
def rtn (ok : Int → Bool) (t : Nat) (st : List MV) (M : Mem) : Option MRes := match st with
  | [(tx, x)] => if tx = t ∧ ok x = true then some ((t, x), M) else none
  | _ => none
def aKind (t : ArrayType) : Nat := match t with | .long => 101 | .boolean => 102 | .byte => 103 | _ => 100
/-- what the class table says: the types of a class's fields -/
abbrev MCls : Type := List (List Nat)
def fDef (T : List Nat) (j : Nat) : Int := if T.getD j 0 = 2 then -1 else 0
def one01 (x : Int) : Bool := decide (x = 0) || decide (x = 1)
def anyI (_ : Int) : Bool := true
def is16 (x : Int) : Bool := decide (0 ≤ x) && decide (x < 65536)
def is8 (x : Int) : Bool := decide (-128 ≤ x) && decide (x < 128)
def bit1 (x : Int) : Int := x % 2
def idI (x : Int) : Int := x
/-- one instruction. sipush v: an int; bipush v: a long; ldc v: a text or table from before; pop: Object's constructor; pop2: pop; baload, bastore: booleans; caload, castore: bytes; freturn, dreturn, dneg: a boolean, a char, a byte handed back; fmul: System.arraycopy; fadd, fsub: Math.max, Math.min; athrow: an exception made and thrown; invokeinterface: a call whose throw is caught; invokedynamic: a static call of a method that catches -/
def istep (PG : Nat → MMeth) (CT : MCls) (X : MExt) (call : Nat → List MV → Mem → Option MRes) (i : Instr) (pc : Nat) (ls st : List MV) (M : Mem) (k : MK) : Option MRes :=
  match i with
  | .sipush v => k (pc + 1) ls ((0, v) :: st) M
  | .bipush v => k (pc + 1) ls ((1, v) :: st) M
  | .ldc n => k (pc + 1) ls ((2, -(n : Int)) :: st) M
  | .aconst_null => k (pc + 1) ls ((2, -1) :: st) M
  | .iload n => lod 0 n pc ls st M k
  | .lload n => lod 1 n pc ls st M k
  | .aload n => lod 2 n pc ls st M k
  | .istore n => (match st with | (t, x) :: r => if t = 0 then k (pc + 1) (set1 ls n (t, x)) r M else none | _ => none)
  | .astore n => (match st with | (t, x) :: r => if t = 2 then k (pc + 1) (set1 ls n (t, x)) r M else none | _ => none)
  | .lstore n => (match st with | (t, x) :: r => if t = 1 then k (pc + 1) ((set1 ls n (t, x)).set (n + 1) (3, 0)) r M else none | _ => none)
  | .iinc n c => incr n c pc ls st M k
  | .iadd => bin 0 (fun x y => w32 (x + y)) pc ls st M k
  | .isub => bin 0 (fun x y => w32 (x - y)) pc ls st M k
  | .imul => bin 0 (fun x y => w32 (x * y)) pc ls st M k
  | .idiv => (match st with | (ty, y) :: (tx, x) :: r => if tx = 0 ∧ ty = 0 then (if y = 0 then none else k (pc + 1) ls ((0, tdv x y) :: r) M) else none | _ => none)
  | .iand => bin 0 iand32 pc ls st M k
  | .ior => bin 0 ior32 pc ls st M k
  | .ixor => bin 0 ixor32 pc ls st M k
  | .ishl => bin 0 ishl32 pc ls st M k
  | .ishr => bin 0 ishr32 pc ls st M k
  | .iushr => bin 0 iushr32 pc ls st M k
  | .ladd => bin 1 (fun x y => w64 (x + y)) pc ls st M k
  | .lsub => bin 1 (fun x y => w64 (x - y)) pc ls st M k
  | .lmul => bin 1 (fun x y => w64 (x * y)) pc ls st M k
  | .land => bin 1 land64 pc ls st M k
  | .lor => bin 1 lor64 pc ls st M k
  | .lxor => bin 1 lxor64 pc ls st M k
  | .lshl => shf lshl64 pc ls st M k
  | .lshr => shf lshr64 pc ls st M k
  | .lushr => shf lushr64 pc ls st M k
  | .lcmp => (match st with | (ty, y) :: (tx, x) :: r => if tx = 1 ∧ ty = 1 then k (pc + 1) ls ((0, lcmpI x y) :: r) M else none | _ => none)
  | .i2l => una 0 1 idI pc ls st M k
  | .l2i => una 1 0 w32 pc ls st M k
  | .i2b => una 0 0 sx8 pc ls st M k
  | .i2c => una 0 0 c16 pc ls st M k
  | .dup => (match st with | (t, x) :: r => if t = 1 then none else k (pc + 1) ls ((t, x) :: (t, x) :: r) M | _ => none)
  | .dup2 => (match st with | (t, x) :: (t', x') :: r => if t = 1 ∨ t' = 1 then none else k (pc + 1) ls ((t, x) :: (t', x') :: (t, x) :: (t', x') :: r) M | _ => none)
  | .dup2_x1 => (match st with | (t, x) :: r => if t = 1 then k (pc + 1) ls ((t, x) :: (t, x) :: r) M else none | _ => none)
  | .goto t => k t.toNat ls st M
  | .if_icmp c t => (match st with | (ty, y) :: (tx, x) :: r => if tx = 0 ∧ ty = 0 then jmp (cmpI c x y) t.toNat pc ls r M k else none | _ => none)
  | .ifCond c t => (match st with | (tx, x) :: r => if tx = 0 then jmp (cmpI c x 0) t.toNat pc ls r M k else none | _ => none)
  | .ifnull t => (match st with | (tx, x) :: r => if tx = 2 ∧ x ≠ -5 then jmp (decide (x = -1)) t.toNat pc ls r M k else none | _ => none)
  | .ifnonnull t => (match st with | (tx, x) :: r => if tx = 2 ∧ x ≠ -5 then jmp (!decide (x = -1)) t.toNat pc ls r M k else none | _ => none)
  | .iaload => ald X 100 pc ls st M k
  | .laload => ald X 101 pc ls st M k
  | .baload => ald X 102 pc ls st M k
  | .caload => ald X 103 pc ls st M k
  | .aaload => (match st with
    | (ti, i) :: (tx, x) :: r => if ti = 0 ∧ tx = 2 then (if (lay? M x).1 = 104 ∨ (lay? M x).1 = 105 then (aget X (lay? M x).1 M x i).bind fun v => k (pc + 1) ls ((2, v) :: r) M else none) else none
    | _ => none)
  | .iastore => ast 100 idI pc ls st M k
  | .lastore => ast 101 idI pc ls st M k
  | .bastore => ast 102 bit1 pc ls st M k
  | .castore => ast 103 sx8 pc ls st M k
  | .aastore => (match st with
    | (tv, v) :: (ti, i) :: (tx, x) :: r => if tv = 2 ∧ ti = 0 ∧ tx = 2 ∧ 0 ≤ v ∧ (lay? M v).1 = 7 then (aput 104 M x i v).bind fun M' => k (pc + 1) ls r M' else none
    | _ => none)
  | .arraylength => (match st with | (tx, x) :: r => if tx = 2 then (alen X M x).bind fun n => k (pc + 1) ls ((0, n) :: r) M else none | _ => none)
  | .getfield f => (match st with | (tx, x) :: r => if tx = 2 then (fget f M x).bind fun v => k (pc + 1) ls ((if f = 10000 then 2 else if f = 10001 then 0 else fTg f, v) :: r) M else none | _ => none)
  | .putfield f => (match st with
    | (tv, v) :: (tx, x) :: r => if tx = 2 ∧ tv = fTg f ∧ (tv = 2 → vref M v = true) ∧ (fTy f = 3 → one01 v = true) then (fput f M x v).bind fun M' => k (pc + 1) ls r M' else none
    | _ => none)
  | .new c => k (pc + 1) ls ((2, nx M) :: st) (growF M c (CT.getD c []).length (fDef (CT.getD c [])))
  | .newarray t => (match st with
    | (tn, n) :: r => if tn = 0 ∧ 0 ≤ n ∧ n ≤ 20000 then k (pc + 1) ls ((2, nx M) :: r) (growF M (aKind t) n.toNat (fun _ => 0)) else none
    | _ => none)
  | .anewarray _ => (match st with
    | (tn, n) :: r => if tn = 0 ∧ 0 ≤ n ∧ n ≤ 20000 then k (pc + 1) ls ((2, nx M) :: r) (growF M 104 n.toNat (fun _ => -1)) else none
    | _ => none)
  | .multianewarray _ _ => (match st with
    | (tn, n) :: (tm, m) :: r => if tn = 0 ∧ tm = 0 ∧ 0 ≤ n ∧ n ≤ 20000 ∧ 0 < m ∧ m ≤ 20000 then k (pc + 1) ls ((2, nx M) :: r) (growRows (growF M 105 m.toNat (fun j => nx M + 1 + j)) n.toNat m.toNat) else none
    | _ => none)
  | .invokestatic j => inv call j (PG j).2.1 (PG j).2.2.1 pc ls st M k
  | .invokedynamic j => inv call j (PG j).2.1 (PG j).2.2.1 pc ls st M k
  | .invokespecial j => if (rcvOf st (PG j).2.1).1 = 2 ∧ rcv M (rcvOf st (PG j).2.1).2 (PG j).2.2.2 = true then inv call j (PG j).2.1 (PG j).2.2.1 pc ls st M k else none
  | .invokevirtual j => if (rcvOf st (PG j).2.1).1 = 2 ∧ rcv M (rcvOf st (PG j).2.1).2 (PG j).2.2.2 = true then inv call j (PG j).2.1 (PG j).2.2.1 pc ls st M k else none
  | .invokeinterface j h => if (rcvOf st (PG j).2.1).1 = 2 ∧ rcv M (rcvOf st (PG j).2.1).2 (PG j).2.2.2 = true then
      (if st.length < (PG j).2.1 ∨ 8 < wt (st.drop (PG j).2.1) ∨ (PG j).2.2.1 < wt (st.take (PG j).2.1) then none else (call j (st.take (PG j).2.1).reverse M).bind fun r => if r.1.1 = 4 then k h (ls.map fun _ => (3, 0)) [] r.2 else k (pc + 1) ls (pushR r.1 (st.drop (PG j).2.1)) r.2)
    else none
  | .pop => (match st with | (tx, x) :: r => if tx = 2 ∧ 0 ≤ x ∧ wt r ≤ 60 then k (pc + 1) ls r M else none | _ => none)
  | .pop2 => (match st with | (tx, _) :: r => if tx = 1 then none else k (pc + 1) ls r M | _ => none)
  | .fadd => if wt st ≤ 60 then bin 0 (fun x y => if x < y then y else x) pc ls st M k else none
  | .fsub => if wt st ≤ 60 then bin 0 (fun x y => if y < x then y else x) pc ls st M k else none
  | .fmul => (match st with
    | (tn, n) :: (tq, dp) :: (td, d) :: (tp, sp) :: (ts, s) :: r => if tn = 0 ∧ tq = 0 ∧ td = 2 ∧ tp = 0 ∧ ts = 2 ∧ wt r ≤ 60 then (acopy M s sp d dp n).bind fun M' => k (pc + 1) ls r M' else none
    | _ => none)
  | .tableswitch d lo hi offs => (match st with
    | (tx, x) :: r => if tx = 0 then (if x < lo ∨ hi < x then k d.toNat ls r M else (offs[(x - lo).toNat]?).bind fun t => k t.toNat ls r M) else none
    | _ => none)
  | .ireturn => rtn anyI 0 st M
  | .lreturn => rtn anyI 1 st M
  | .areturn => rtn anyI 2 st M
  | .freturn => rtn one01 0 st M
  | .dreturn => rtn is16 0 st M
  | .dneg => rtn is8 0 st M
  | .return_ => (match st with | [] => some ((3, 0), M) | _ => none)
  | .athrow => (match st with | [] => some ((4, 0), (M.1, M.2.1, M.2.2.1 + 8, M.2.2.2 + 64)) | _ => none)
  | _ => none

/-- the instruction at pc -/
def bstep (PG : Nat → MMeth) (CT : MCls) (X : MExt) (call : Nat → List MV → Mem → Option MRes) (c : List (Instr × List Nat)) (pc : Nat) (ls st : List MV) (M : Mem) (k : MK) : Option MRes := match c[pc]? with
  | some (i, ks) => istep PG CT X call i pc (kl ks ls) st M k
  | none => none
/-- the locals at a method's entry -/
def lin : List MV → List MV
  | [] => []
  | v :: r => if v.1 = 1 then v :: (3, 0) :: lin r else v :: lin r
def lin0 (n : Nat) (as : List MV) : List MV := lin as ++ List.replicate (n - (lin as).length) (3, 0)
/-- n instructions at most, calls at most d deep -/
def ex (PG : Nat → MMeth) (CT : MCls) (X : MExt) : Nat → Nat → List (Instr × List Nat) → MK
  | 0, _, _ => fun _ _ _ _ => none
  | n + 1, d, c => fun pc ls st M => bstep PG CT X (fun j as M' => match d with
      | 0 => none
      | d' + 1 => ex PG CT X n d' (PG j).1 0 (lin0 (PG j).2.2.1 as) [] M') c pc ls st M (ex PG CT X n d c)
