/-! ===== AN INTERPRETER OF THE BYTECODE OVER A SMALL PICTURE OF THE HEAP (own work): cells have numbers of their own; its soundness is proved further on ===== -/
/-- how many cells; lengths of late arrays; int fields; reference fields; int and boolean arrays; long arrays; arrays of references; the script -/
abbrev XW : Type := Nat × (Nat → Nat) × (Nat → Nat → Int32) × (Nat → Nat → Option Nat) × (Nat → Nat → Int32) × (Nat → Nat → Int64) × (Nat → Nat → Option Nat) × (Nat × (Nat → Int32))
abbrev XL : Type := List (Option Value)
abbrev XR : Type := Value × XW
abbrev XB : Type := Nat × Nat
def iI (z : Int) : Int32 := Int32.ofInt z
def lI (z : Int) : Int64 := Int64.ofInt z
def xn (w : XW) : Nat := w.1
def xIF (w : XW) : Nat → Nat → Int32 := w.2.2.1
def xRF (w : XW) : Nat → Nat → Option Nat := w.2.2.2.1
def xIA (w : XW) : Nat → Nat → Int32 := w.2.2.2.2.1
def xLA (w : XW) : Nat → Nat → Int64 := w.2.2.2.2.2.1
def xRA (w : XW) : Nat → Nat → Option Nat := w.2.2.2.2.2.2.1
def xSc (w : XW) : Nat × (Nat → Int32) := w.2.2.2.2.2.2.2
def xcls (a : Nat) : Nat := xclsL.getD a 99
def xak (a : Nat) : Nat := xakL.getD a 1
def xln (w : XW) (a : Nat) : Nat := match xlnL[a]? with
  | some n => n
  | none => w.2.1 a
def xpF (w : XW) (a k : Nat) (v : Int32) : XW := match w with
  | (n, ln, f, r, i, l, ra, s) => (n, ln, va_up f a (va_up (f a) k v), r, i, l, ra, s)
def xpR (w : XW) (a k : Nat) (v : Option Nat) : XW := match w with
  | (n, ln, f, r, i, l, ra, s) => (n, ln, f, va_up r a (va_up (r a) k v), i, l, ra, s)
def xpI (w : XW) (a k : Nat) (v : Int32) : XW := match w with
  | (n, ln, f, r, i, l, ra, s) => (n, ln, f, r, va_up i a (va_up (i a) k v), l, ra, s)
def xpG (w : XW) (a : Nat) (g : Nat → Int32) : XW := match w with
  | (n, ln, f, r, i, l, ra, s) => (n, ln, f, r, va_up i a g, l, ra, s)
def xpL (w : XW) (a k : Nat) (v : Int64) : XW := match w with
  | (n, ln, f, r, i, l, ra, s) => (n, ln, f, r, i, va_up l a (va_up (l a) k v), ra, s)
def xpA (w : XW) (a k : Nat) (v : Option Nat) : XW := match w with
  | (n, ln, f, r, i, l, ra, s) => (n, ln, f, r, i, l, va_up ra a (va_up (ra a) k v), s)
/-- a new object: all its fields 0 and null -/
def xmO (w : XW) : XW := match w with
  | (n, ln, f, r, i, l, ra, s) => (n + 1, ln, va_up f n (fun _ => 0), va_up r n (fun _ => none), i, l, ra, s)
/-- a new array of N places -/
def xmA (w : XW) (N : Nat) : XW := match w with
  | (n, ln, f, r, i, l, ra, s) => (n + 1, va_up ln n N, f, r, va_up i n (fun _ => 0), va_up l n (fun _ => 0), va_up ra n (fun _ => none), s)
def xin (i : Int32) (n : Nat) : Bool := decide (0 ≤ i) && decide (i.toNatClampNeg < n)
def xg {α : Type} (b : Bool) (o : Option α) : Option α := match b with
  | true => o
  | false => none
def xo {α β : Type} (o : Option α) (k : α → Option β) : Option β := match o with
  | some q => k q
  | none => none
def xde {α : Type} (v : Value) (k : Nat → Option α) : Option α := match v with
  | .ref a => k a
  | _ => none
def xnl {α : Type} (v : Value) (A B : Option α) : Option α := match v with
  | .null => A
  | .ref _ => B
  | _ => none
def xok (a ci : Nat) : Bool := xcls a == ci
def xoa (w : XW) (a t : Nat) (i : Int32) : Bool := xak a == t && xin i (xln w a)
def xol (a : Nat) : Bool := Nat.blt 0 (xak a)
def xnok (w : XW) (t : Nat) (n : Int32) (b : XB) : Bool := xak (xn w) == t && xin n 65536 && Nat.blt 0 b.1 && Nat.ble n.toNatClampNeg b.2 && xlok (xn w) n.toNatClampNeg
def xcok (w : XW) (a q : Nat) (sp dp n : Int32) : Bool := xak a == 1 && xak q == 1 && decide (sp = 0) && decide (dp = 0) && decide (0 ≤ n) && Nat.ble n.toNatClampNeg (xln w a) && Nat.ble n.toNatClampNeg (xln w q)
def xz01 (x : Int32) : Bool := decide (x = 0) || decide (x = 1)
def xbz (x : Int32) (w : XW) : Option XR := if x = 0 ∨ x = 1 then some (.int x, w) else none
def xar (v : Value) (w : XW) : Option XR := match v with
  | .ref a => some (.ref a, w)
  | .null => some (.null, w)
  | _ => none
def xrv (v : Value) (ci : Nat) : Bool := match v with
  | .ref a => xcls a == ci
  | _ => false
def xisr (v : Value) : Bool := match v with
  | .ref _ => true
  | .null => true
  | .retAddr t => Nat.blt t 5
  | _ => false
def xbI (o : Option XR) (k : Int32 → XW → Option XR) : Option XR := match o with
  | some (.int x, w) => k x w
  | _ => none
def xbJ (o : Option XR) (k : Int64 → XW → Option XR) : Option XR := match o with
  | some (.long x, w) => k x w
  | _ => none
def xbA (o : Option XR) (k : Value → XW → Option XR) : Option XR := match o with
  | some (v, w) => xg (xisr v) (k v w)
  | none => none
def xbV (o : Option XR) (k : XW → Option XR) : Option XR := match o with
  | some (_, w) => k w
  | none => none
def xif (cnd : ClassFile.Cond) (x y : Int32) (A B : Option XR) : Option XR := match cnd with
  | .eq => if x = y then A else B
  | .ne => if x = y then B else A
  | .lt => if x < y then A else B
  | .ge => if y ≤ x then A else B
  | .gt => if y < x then A else B
  | .le => if x ≤ y then A else B
def xtg (pc : Nat) (off : Int) : Nat := ((pc : Int) + off).toNat
/-- a long's second place holds a mark; without it the long is not read -/
def xst (L : XL) (i : Nat) (v : Value) : XL := L.set i (some v)
def xst2 (L : XL) (i : Nat) (v : Value) : XL := (L.set i (some v)).set (i + 1) (some (.retAddr 7))
def xcat (st : List Value) : Nat := (st.map fun v => v.category).sum
/-- the callee of an entry of the pool: its number and level -/
def xcal (c id lv idx : Nat) : Option (Nat × Nat) := match xcalL c idx with
  | none => none
  | some d => match d == xBelow, id == xBelow, lv with
    | true, true, k + 1 => some (xBelow, k)
    | true, true, 0 => none
    | true, false, _ => some (xBelow, 13)
    | false, _, _ => some (d, 0)
/-- the answer of a call, by its type: 0 none, 1 int or boolean, 2 long, 3 a reference -/
def xback (ty : Nat) (o : Option XR) (rest : List Value) (k : List Value → XW → Option XR) : Option XR := match ty with
  | 0 => xbV o (fun w => k rest w)
  | 1 => xbI o (fun x w => k (.int x :: rest) w)
  | 2 => xbJ o (fun x w => k (.long x :: rest) w)
  | _ => xbA o (fun v w => k (v :: rest) w)
/-- a call: the room that the callee asks for is taken off the caller's -/
def xcall (C : Nat → Nat → List Value → XW → Option XR) (d : Nat × Nat) (fit : Bool) (As rest : List Value) (b : XB) (w : XW) (k : List Value → XB → XW → Option XR) : Option XR :=
  xg fit (match xbud d.1 with
  | (0, 0) => xg (Nat.ble (xcat rest) 8) (xback (xrty d.1) (C d.1 d.2 As w) rest (fun st w => k st b w))
  | (mc, ms) => xg (Nat.ble mc b.1 && Nat.ble ms b.2 && Nat.ble (xcat rest) 8) (xback (xrty d.1) (C d.1 d.2 As w) rest (fun st u => k st (b.1 - mc, b.2 - ms) u)))
def xsw (x : Int32) (ps : List (Int × Nat)) (dflt : Nat) (J : Nat → Option XR) : Option XR := match ps with
  | [] => J dflt
  | p :: ps => if x = iI p.1 then J p.2 else xsw x ps dflt J
def xtab (pc : Nat) (lo : Int) : List Int → List (Int × Nat)
  | [] => []
  | o :: os => (lo, xtg pc o) :: xtab pc (lo + 1) os
/-- one instruction: c the class whose pool is meant, id and lv the method, k what comes behind it -/
def xins (J : Nat → XL → List Value → XB → XW → Option XR) (C : Nat → Nat → List Value → XW → Option XR) (c id lv pc : Nat) (i : Instr) (k : XL → List Value → XB → XW → Option XR) (L : XL) (st : List Value) (b : XB) (w : XW) : Option XR :=
  match i with
  | .iconst n => k L (.int (iI n) :: st) b w
  | .bipush n => k L (.int (iI n) :: st) b w
  | .sipush n => k L (.int (iI n) :: st) b w
  | .lconst n => match n with
    | 0 => k L (.long (lI 0) :: st) b w
    | 1 => k L (.long (lI 1) :: st) b w
  | .ldc2_w idx => match xldc c idx with
    | some z => k L (.long (lI z) :: st) b w
    | none => none
  | .aconst_null => k L (.null :: st) b w
  | .iload i => match L[i]? with
    | some (some (.int x)) => k L (.int x :: st) b w
    | _ => none
  | .iload_n i => match L[(i : Nat)]? with
    | some (some (.int x)) => k L (.int x :: st) b w
    | _ => none
  | .lload i => match L[i]?, L[i + 1]? with
    | some (some (.long x)), some (some (.retAddr 7)) => k L (.long x :: st) b w
    | _, _ => none
  | .lload_n i => match L[(i : Nat)]?, L[(i : Nat) + 1]? with
    | some (some (.long x)), some (some (.retAddr 7)) => k L (.long x :: st) b w
    | _, _ => none
  | .aload i => match L[i]? with
    | some (some v) => xg (xisr v) (k L (v :: st) b w)
    | _ => none
  | .aload_n i => match L[(i : Nat)]? with
    | some (some v) => xg (xisr v) (k L (v :: st) b w)
    | _ => none
  | .istore i => match st with
    | .int x :: st => k (xst L i (.int x)) st b w
    | _ => none
  | .istore_n i => match st with
    | .int x :: st => k (xst L i (.int x)) st b w
    | _ => none
  | .lstore i => match st with
    | .long x :: st => k (xst2 L i (.long x)) st b w
    | _ => none
  | .lstore_n i => match st with
    | .long x :: st => k (xst2 L i (.long x)) st b w
    | _ => none
  | .astore i => match st with
    | v :: st => xg (xisr v) (k (xst L i v) st b w)
    | _ => none
  | .astore_n i => match st with
    | v :: st => xg (xisr v) (k (xst L i v) st b w)
    | _ => none
  | .iinc i n => match L[i]? with
    | some (some (.int x)) => k (xst L i (.int (x + iI n))) st b w
    | _ => none
  | .iadd => match st with
    | .int y :: .int x :: st => k L (.int (x + y) :: st) b w
    | _ => none
  | .isub => match st with
    | .int y :: .int x :: st => k L (.int (x - y) :: st) b w
    | _ => none
  | .imul => match st with
    | .int y :: .int x :: st => k L (.int (x * y) :: st) b w
    | _ => none
  | .iand => match st with
    | .int y :: .int x :: st => k L (.int (x &&& y) :: st) b w
    | _ => none
  | .ior => match st with
    | .int y :: .int x :: st => k L (.int (x ||| y) :: st) b w
    | _ => none
  | .ixor => match st with
    | .int y :: .int x :: st => k L (.int (x ^^^ y) :: st) b w
    | _ => none
  | .ishl => match st with
    | .int y :: .int x :: st => k L (.int (x <<< (y &&& 31)) :: st) b w
    | _ => none
  | .ishr => match st with
    | .int y :: .int x :: st => k L (.int (x >>> (y &&& 31)) :: st) b w
    | _ => none
  | .idiv => match st with
    | .int y :: .int x :: st => if y = 0 then none else k L (.int (x / y) :: st) b w
    | _ => none
  | .irem => match st with
    | .int y :: .int x :: st => if y = 0 then none else k L (.int (x - x / y * y) :: st) b w
    | _ => none
  | .ineg => match st with
    | .int x :: st => k L (.int (-x) :: st) b w
    | _ => none
  | .ladd => match st with
    | .long y :: .long x :: st => k L (.long (x + y) :: st) b w
    | _ => none
  | .lsub => match st with
    | .long y :: .long x :: st => k L (.long (x - y) :: st) b w
    | _ => none
  | .lmul => match st with
    | .long y :: .long x :: st => k L (.long (x * y) :: st) b w
    | _ => none
  | .land => match st with
    | .long y :: .long x :: st => k L (.long (x &&& y) :: st) b w
    | _ => none
  | .lor => match st with
    | .long y :: .long x :: st => k L (.long (x ||| y) :: st) b w
    | _ => none
  | .ldiv => match st with
    | .long y :: .long x :: st => if y = 0 then none else k L (.long (x / y) :: st) b w
    | _ => none
  | .lrem => match st with
    | .long y :: .long x :: st => if y = 0 then none else k L (.long (x - x / y * y) :: st) b w
    | _ => none
  | .lshl => match st with
    | .int y :: .long x :: st => k L (.long (x <<< (y.toInt64 &&& 63)) :: st) b w
    | _ => none
  | .lshr => match st with
    | .int y :: .long x :: st => k L (.long (x >>> (y.toInt64 &&& 63)) :: st) b w
    | _ => none
  | .lushr => match st with
    | .int y :: .long x :: st => k L (.long (x.toUInt64 >>> (y.toInt64.toUInt64 &&& Int64.toUInt64 63)).toInt64 :: st) b w
    | _ => none
  | .lcmp => match st with
    | .long y :: .long x :: st => k L (.int (lg_cmp x y) :: st) b w
    | _ => none
  | .i2l => match st with
    | .int x :: st => k L (.long x.toInt64 :: st) b w
    | _ => none
  | .dup => match st with
    | v :: st => xg (xisr v) (k L (v :: v :: st) b w)
    | _ => none
  | .pop => match st with
    | .int _ :: st => k L st b w
    | _ => none
  | .getfield idx => match xfld c idx, st with
    | some (ci, f), v :: st => xde v (fun a => xg (xok a ci) (match xfint ci f with
      | true => k L (.int (xIF w a f) :: st) b w
      | false => xo (xRF w a f) (fun q => k L (.ref q :: st) b w)))
    | _, _ => none
  | .putfield idx => match xfld c idx, st with
    | some (ci, f), u :: v :: st => xde v (fun a => xg (xok a ci) (match xfint ci f, u with
      | true, .int x => k L st b (xpF w a f x)
      | false, .ref q => k L st b (xpR w a f (some q))
      | _, _ => none))
    | _, _ => none
  | .getstatic idx => match xsta c idx with
    | some t => k L (.retAddr t :: st) b w
    | none => none
  | .iaload => match st with
    | .int i :: .retAddr t :: st => match t with
      | 4 => xg (xin i (xSc w).1) (k L (.int ((xSc w).2 i.toNatClampNeg) :: st) b w)
      | t => xg (xin i (xsiN t)) (k L (.int (iI (xsi t i.toNatClampNeg)) :: st) b w)
    | .int i :: v :: st => xde v (fun a => xg (xoa w a 1 i) (k L (.int (xIA w a i.toNatClampNeg) :: st) b w))
    | _ => none
  | .laload => match st with
    | .int i :: .retAddr t :: st => xg (t == 0 && xin i 14) (k L (.long (lI (xsl i.toNatClampNeg)) :: st) b w)
    | .int i :: v :: st => xde v (fun a => xg (xoa w a 3 i) (k L (.long (xLA w a i.toNatClampNeg) :: st) b w))
    | _ => none
  | .baload => match st with
    | .int i :: v :: st => xde v (fun a => xg (xoa w a 2 i) (k L (.int (xIA w a i.toNatClampNeg) :: st) b w))
    | _ => none
  | .aaload => match st with
    | .int i :: v :: st => xde v (fun a => xg (xoa w a 4 i) (xo (xRA w a i.toNatClampNeg) (fun q => k L (.ref q :: st) b w)))
    | _ => none
  | .iastore => match st with
    | .int x :: .int i :: v :: st => xde v (fun a => xg (xoa w a 1 i) (k L st b (xpI w a i.toNatClampNeg x)))
    | _ => none
  | .bastore => match st with
    | .int x :: .int i :: v :: st => xde v (fun a => xg (xoa w a 2 i) (xg (xz01 x) (k L st b (xpI w a i.toNatClampNeg x))))
    | _ => none
  | .lastore => match st with
    | .long x :: .int i :: v :: st => xde v (fun a => xg (xoa w a 3 i) (k L st b (xpL w a i.toNatClampNeg x)))
    | _ => none
  | .aastore => match st with
    | .ref q :: .int i :: v :: st => xde v (fun a => xg (xoa w a 4 i && xok q xTab) (k L st b (xpA w a i.toNatClampNeg (some q))))
    | _ => none
  | .arraylength => match st with
    | .retAddr t :: st => xg (t == 4) (k L (.int (iI (xSc w).1) :: st) b w)
    | v :: st => xde v (fun a => xg (xol a) (k L (.int (iI (xln w a)) :: st) b w))
    | _ => none
  | .new idx => match xnw c idx with
    | some (ci, N) => xg (xcls (xn w) == ci && Nat.blt 0 b.1 && Nat.ble N b.2) (k L (.ref (xn w) :: st) (b.1 - 1, b.2 - N) (xmO w))
    | none => none
  | .newarray t => match st with
    | .int n :: st => xg (xnok w (xatk t) n b) (k L (.ref (xn w) :: st) (b.1 - 1, b.2 - n.toNatClampNeg) (xmA w n.toNatClampNeg))
    | _ => none
  | .anewarray _ => match st with
    | .int n :: st => xg (xnok w 4 n b) (k L (.ref (xn w) :: st) (b.1 - 1, b.2 - n.toNatClampNeg) (xmA w n.toNatClampNeg))
    | _ => none
  | .goto off => J (xtg pc off) L st b w
  | .ifCond cnd off => match st with
    | .int x :: st => xif cnd x 0 (J (xtg pc off) L st b w) (k L st b w)
    | _ => none
  | .if_icmp cnd off => match st with
    | .int y :: .int x :: st => xif cnd x y (J (xtg pc off) L st b w) (k L st b w)
    | _ => none
  | .ifnull off => match st with
    | v :: st => xnl v (J (xtg pc off) L st b w) (k L st b w)
    | _ => none
  | .ifnonnull off => match st with
    | v :: st => xnl v (k L st b w) (J (xtg pc off) L st b w)
    | _ => none
  | .tableswitch d lo _ os => match st with
    | .int x :: st => xsw x (xtab pc lo os.toList) (xtg pc d) (fun p => J p L st b w)
    | _ => none
  | .lookupswitch d ps => match st with
    | .int x :: st => xsw x (ps.toList.map fun q => (q.1, xtg pc q.2)) (xtg pc d) (fun p => J p L st b w)
    | _ => none
  | .ireturn => match st with
    | [.int x] => match xrz id with
      | true => xbz x w
      | false => some (.int x, w)
    | _ => none
  | .lreturn => match st with
    | [.long x] => some (.long x, w)
    | _ => none
  | .areturn => match st with
    | [v] => xar v w
    | _ => none
  | .return_ => match st with
    | [] => some (.null, w)
    | _ => none
  | .invokespecial idx => match xobj c idx with
    | true => match st with
      | .ref _ :: st => xg (Nat.ble (xcat st) 8) (k L st b w)
      | _ => none
    | false => match xcal c id lv idx with
      | some d => match st with
        | v :: st => xg (xrv v (xown d.1)) (xcall C d true [v] st b w (fun st b w => k L st b w))
        | _ => none
      | none => none
  | .invokestatic idx => match xcpy c idx with
    | true => match st with
      | .int n :: .int dp :: .ref q :: .int sp :: .ref a :: st => xg (Nat.ble (xcat st) 8) (xg (xcok w a q sp dp n) (k L st b (xpG w q (va_cpy (xIA w a) (xIA w q) 0 0 n.toNatClampNeg))))
      | _ => none
    | false => match xcal c id lv idx with
      | some d => xcall C d (Nat.ble (xnar d.1) st.length && Nat.ble (xcat (st.take (xnar d.1)).reverse) (xmaxL d.1)) (st.take (xnar d.1)).reverse (st.drop (xnar d.1)) b w (fun st b w => k L st b w)
      | none => none
  | .invokevirtual idx => match xcal c id lv idx with
    | some d => match st.drop (xnar d.1) with
      | v :: rest => xg (xrv v (xown d.1)) (xcall C d (Nat.ble (xcat (st.take (xnar d.1)).reverse) (xmaxL d.1 - 1)) (v :: (st.take (xnar d.1)).reverse) rest b w (fun st b w => k L st b w))
      | _ => none
    | none => none
  | _ => none
def xilen (i : Instr) : Nat := match i with
  | .bipush _ | .iload _ | .lload _ | .aload _ | .istore _ | .lstore _ | .astore _ | .newarray _ => 2
  | .sipush _ | .ldc2_w _ | .iinc _ _ | .getfield _ | .putfield _ | .getstatic _ | .new _ | .anewarray _ | .goto _ | .ifCond _ _ | .if_icmp _ _ | .ifnull _ | .ifnonnull _ | .invokespecial _ | .invokestatic _ | .invokevirtual _ => 3
  | _ => 1
/-- instructions in a row, then the place behind them -/
def xexec (J : Nat → XL → List Value → XB → XW → Option XR) (C : Nat → Nat → List Value → XW → Option XR) (c id lv : Nat) : List Instr → Nat → XL → List Value → XB → XW → Option XR
  | [], pc => fun L st b w => J pc L st b w
  | i :: is, pc => xins J C c id lv pc i (xexec J C c id lv is (pc + xilen i))
def xentry (id : Nat) (args : List Value) : XL := let l := args.flatMap (fun v => match v with
    | .long x => [some (.long x), some (.retAddr 7)]
    | v => [some v]); l ++ List.replicate (xmaxL id - l.length) none
/-- with fuel: a jump or a call takes one -/
def xrf : Nat → Nat → Nat → Nat → XL → List Value → XB → XW → Option XR
  | 0 => fun _ _ _ _ _ _ _ => none
  | f + 1 => fun id lv pc L st b w => match xblk id pc with
    | some is => xexec (xrf f id lv) (fun d lw As u => xrf f d lw 0 (xentry d As) [] (xbud d) u) (xown id) id lv is pc L st b w
    | none => none
