/-! THE PURE MACHINE: the same bytecode over plain functions. An object is a number; E: how many there are, how many slots in all, of each its kind (a class's number; 100 int[], 101 byte[], 102 boolean[], 103 long[], 104 Rule[]) and its length; I, J, R: ints, longs, references by object and slot. The script is the value .retAddr. -/
abbrev tL : Type := List (Option Value)
abbrev tI : Type := Nat → Nat → Int32
abbrev tJ : Type := Nat → Nat → Int64
abbrev tR : Type := Nat → Nat → Option Nat
abbrev tE : Type := Nat × Nat × (Nat → Nat × Nat)
abbrev tM : Type := tE × tI × tJ × tR
abbrev tX : Type := Nat × (Nat → Int32)
abbrev tN : Type := Nat × tL × List Value × tM
def tm_rl (b bs : Nat) (v : Value) : Value := match v with
  | .ref o => .ref (bs + o)
  | .retAddr _ => .ref b
  | w => w
def tm_ft (c k : Nat) : Nat := match tm_ty c k with
  | .long => 1
  | .object _ => 2
  | .array _ => 2
  | _ => 0
def tm_rv (r : Option Nat) : Value := match r with
  | none => .null
  | some a => .ref a
def tm_pv (t : Nat) (x : Int32) (y : Int64) (r : Option Nat) : Value := if t = 0 then .int x else if t = 1 then .long y else tm_rv r
def tm_lg (L : tL) (k : Nat) : Option Value := match L[k]? with
  | some (some v) => some v
  | _ => none
def tm_kill (a : Option Value) : Option Value := match a with
  | some v => if v.category = 2 then none else some v
  | none => none
def tm_ls1 : tL → Nat → Value → tL
  | [], _, _ => []
  | _ :: l, 0, v => some v :: l
  | a :: l, 1, v => tm_kill a :: (match l with | [] => [] | _ :: l' => some v :: l')
  | a :: l, i + 2, v => a :: tm_ls1 l (i + 1) v
def tm_ls2 (L : tL) (i : Nat) (v : Value) : tL := (tm_ls1 L i v).set (i + 1) none
def tm_cmp (c : Jvm.ClassFile.Cond) (x y : Int32) : Bool := match c with
  | .eq => decide (x = y)
  | .ne => decide (¬ x = y)
  | .lt => decide (x < y)
  | .ge => decide (y ≤ x)
  | .gt => decide (y < x)
  | .le => decide (x ≤ y)
def tm_jmp (pc : Nat) (off : Int) (L : tL) (S : List Value) (M : tM) : Option tN := if 0 ≤ (pc : Int) + off then some (((pc : Int) + off).toNat, L, S, M) else none
def tm_fin (c k : Nat) : Bool := match vwCl[c]? with
  | some (_, T, _) => (T k).2.2.2
  | none => true
def tm_okv (t : FieldType) (v : Value) : Bool := match t, v with
  | .int, .int _ => true
  | .boolean, .int x => decide (x = 0 ∨ x = 1)
  | .long, .long _ => true
  | .object _, .ref _ => true
  | .object _, .null => true
  | .array _, .ref _ => true
  | .array _, .null => true
  | _, _ => false
def tm_put (M : tM) (o k : Nat) (v : Value) : tM := match v with
  | .int x => (M.1, va_up M.2.1 o (va_up (M.2.1 o) k x), M.2.2.1, M.2.2.2)
  | .long x => (M.1, M.2.1, va_up M.2.2.1 o (va_up (M.2.2.1 o) k x), M.2.2.2)
  | .ref a => (M.1, M.2.1, M.2.2.1, va_up M.2.2.2 o (va_up (M.2.2.2 o) k (some a)))
  | .null => (M.1, M.2.1, M.2.2.1, va_up M.2.2.2 o (va_up (M.2.2.2 o) k none))
  | _ => M
def tm_new (M : tM) (kd n : Nat) : tM := ((M.1.1 + 1, M.1.2.1 + n, va_up M.1.2.2 M.1.1 (kd, n)), va_up M.2.1 M.1.1 (fun _ => 0), va_up M.2.2.1 M.1.1 (fun _ => 0), va_up M.2.2.2 M.1.1 (fun _ => none))
def tm_akd (t : ArrayType) : Option Nat := match t with
  | .int => some 100
  | .byte => some 101
  | .boolean => some 102
  | .long => some 103
  | _ => none
def tm_out (i : Int32) (n : Nat) : Bool := decide (i < 0 ∨ n ≤ i.toNatClampNeg)
def tm_wt (S : List Value) : Nat := (S.map fun v => v.category).sum
def tm_stp (X : tX) (m : Nat) (i : Instr) (len pc : Nat) (L : tL) (S : List Value) (M : tM) : Option tN :=
  match i with
  | .iconst n => if len = 1 then some (pc + 1, L, .int (Int32.ofInt n) :: S, M) else none
  | .bipush n => if len = 2 then some (pc + 2, L, .int (Int8.ofInt n).toInt32 :: S, M) else none
  | .sipush n => if len = 3 then some (pc + 3, L, .int (Int16.ofInt n).toInt32 :: S, M) else none
  | .lconst n => if len = 1 then some (pc + 1, L, .long (Int64.ofNat (n : Nat)) :: S, M) else none
  | .aconst_null => if len = 1 then some (pc + 1, L, .null :: S, M) else none
  | .ldc k => if len = 2 then (match tm_lki tm_ki (mO m) k with | some v => some (pc + 2, L, .int v :: S, M) | none => none) else none
  | .ldc2_w k => if len = 3 then (match tm_lkl tm_kl (mO m) k with | some v => some (pc + 3, L, .long v :: S, M) | none => none) else none
  | .iload_n k => if len = 1 then (match tm_lg L (k : Nat) with | some (.int x) => some (pc + 1, L, .int x :: S, M) | _ => none) else none
  | .iload k => if len = 2 then (match tm_lg L k with | some (.int x) => some (pc + 2, L, .int x :: S, M) | _ => none) else none
  | .lload_n k => if len = 1 then (match tm_lg L (k : Nat) with | some (.long x) => some (pc + 1, L, .long x :: S, M) | _ => none) else none
  | .lload k => if len = 2 then (match tm_lg L k with | some (.long x) => some (pc + 2, L, .long x :: S, M) | _ => none) else none
  | .aload_n k => if len = 1 then (match tm_lg L (k : Nat) with | some (.ref x) => some (pc + 1, L, .ref x :: S, M) | some .null => some (pc + 1, L, .null :: S, M) | some (.retAddr x) => some (pc + 1, L, .retAddr x :: S, M) | _ => none) else none
  | .aload k => if len = 2 then (match tm_lg L k with | some (.ref x) => some (pc + 2, L, .ref x :: S, M) | some .null => some (pc + 2, L, .null :: S, M) | some (.retAddr x) => some (pc + 2, L, .retAddr x :: S, M) | _ => none) else none
  | .istore_n k => if len = 1 ∧ (k : Nat) < L.length then (match S with | .int x :: S' => some (pc + 1, tm_ls1 L (k : Nat) (.int x), S', M) | _ => none) else none
  | .istore k => if len = 2 ∧ k < L.length then (match S with | .int x :: S' => some (pc + 2, tm_ls1 L k (.int x), S', M) | _ => none) else none
  | .lstore_n k => if len = 1 ∧ (k : Nat) + 1 < L.length then (match S with | .long x :: S' => some (pc + 1, tm_ls2 L (k : Nat) (.long x), S', M) | _ => none) else none
  | .lstore k => if len = 2 ∧ k + 1 < L.length then (match S with | .long x :: S' => some (pc + 2, tm_ls2 L k (.long x), S', M) | _ => none) else none
  | .astore_n k => if len = 1 ∧ (k : Nat) < L.length then (match S with | .ref x :: S' => some (pc + 1, tm_ls1 L (k : Nat) (.ref x), S', M) | .null :: S' => some (pc + 1, tm_ls1 L (k : Nat) .null, S', M) | _ => none) else none
  | .astore k => if len = 2 ∧ k < L.length then (match S with | .ref x :: S' => some (pc + 2, tm_ls1 L k (.ref x), S', M) | .null :: S' => some (pc + 2, tm_ls1 L k .null, S', M) | _ => none) else none
  | .iinc k n => if len = 3 ∧ k < L.length then (match tm_lg L k with | some (.int x) => some (pc + 3, tm_ls1 L k (.int (x + Int32.ofInt n)), S, M) | _ => none) else none
  | .iadd => if len = 1 then (match S with | .int y :: .int x :: S' => some (pc + 1, L, .int (x + y) :: S', M) | _ => none) else none
  | .isub => if len = 1 then (match S with | .int y :: .int x :: S' => some (pc + 1, L, .int (x - y) :: S', M) | _ => none) else none
  | .imul => if len = 1 then (match S with | .int y :: .int x :: S' => some (pc + 1, L, .int (x * y) :: S', M) | _ => none) else none
  | .iand => if len = 1 then (match S with | .int y :: .int x :: S' => some (pc + 1, L, .int (x &&& y) :: S', M) | _ => none) else none
  | .ior => if len = 1 then (match S with | .int y :: .int x :: S' => some (pc + 1, L, .int (x ||| y) :: S', M) | _ => none) else none
  | .idiv => if len = 1 then (match S with | .int y :: .int x :: S' => if y = 0 then none else some (pc + 1, L, .int (x / y) :: S', M) | _ => none) else none
  | .irem => if len = 1 then (match S with | .int y :: .int x :: S' => if y = 0 then none else some (pc + 1, L, .int (x - x / y * y) :: S', M) | _ => none) else none
  | .ishl => if len = 1 then (match S with | .int y :: .int x :: S' => some (pc + 1, L, .int (x <<< (y &&& 31)) :: S', M) | _ => none) else none
  | .ishr => if len = 1 then (match S with | .int y :: .int x :: S' => some (pc + 1, L, .int (x >>> (y &&& 31)) :: S', M) | _ => none) else none
  | .iushr => if len = 1 then (match S with | .int y :: .int x :: S' => some (pc + 1, L, .int (x.toUInt32 >>> (y.toUInt32 &&& Int32.toUInt32 31)).toInt32 :: S', M) | _ => none) else none
  | .i2l => if len = 1 then (match S with | .int x :: S' => some (pc + 1, L, .long x.toInt64 :: S', M) | _ => none) else none
  | .l2i => if len = 1 then (match S with | .long x :: S' => some (pc + 1, L, .int x.toInt32 :: S', M) | _ => none) else none
  | .i2b => if len = 1 then (match S with | .int x :: S' => some (pc + 1, L, .int x.toInt8.toInt32 :: S', M) | _ => none) else none
  | .land => if len = 1 then (match S with | .long y :: .long x :: S' => some (pc + 1, L, .long (x &&& y) :: S', M) | _ => none) else none
  | .lor => if len = 1 then (match S with | .long y :: .long x :: S' => some (pc + 1, L, .long (x ||| y) :: S', M) | _ => none) else none
  | .lshl => if len = 1 then (match S with | .int y :: .long x :: S' => some (pc + 1, L, .long (x <<< (y.toInt64 &&& 63)) :: S', M) | _ => none) else none
  | .lushr => if len = 1 then (match S with | .int y :: .long x :: S' => some (pc + 1, L, .long (x.toUInt64 >>> (y.toInt64.toUInt64 &&& Int64.toUInt64 63)).toInt64 :: S', M) | _ => none) else none
  | .lcmp => if len = 1 then (match S with | .long y :: .long x :: S' => some (pc + 1, L, .int (lg_cmp x y) :: S', M) | _ => none) else none
  | .dup => if len = 1 then (match S with | v :: S' => if v.category = 1 then some (pc + 1, L, v :: v :: S', M) else none | _ => none) else none
  | .pop => if len = 1 then (match S with | v :: S' => if v.category = 1 then some (pc + 1, L, S', M) else none | _ => none) else none
  | .dup_x1 => if len = 1 then (match S with | v :: w :: S' => if v.category = 1 ∧ w.category = 1 then some (pc + 1, L, v :: w :: v :: S', M) else none | _ => none) else none
  | .dup_x2 => if len = 1 then (match S with | v :: w :: z :: S' => if v.category = 1 ∧ w.category = 1 ∧ z.category = 1 then some (pc + 1, L, v :: w :: z :: v :: S', M) else none | _ => none) else none
  | .dup2 => if len = 1 then (match S with | v :: w :: S' => if v.category = 1 ∧ w.category = 1 then some (pc + 1, L, v :: w :: v :: w :: S', M) else none | _ => none) else none
  | .ifCond c off => if len = 3 then (match S with | .int x :: S' => if tm_cmp c x 0 then tm_jmp pc off L S' M else if 0 ≤ (pc : Int) + off then some (pc + 3, L, S', M) else none | _ => none) else none
  | .if_icmp c off => if len = 3 then (match S with | .int y :: .int x :: S' => if tm_cmp c x y then tm_jmp pc off L S' M else if 0 ≤ (pc : Int) + off then some (pc + 3, L, S', M) else none | _ => none) else none
  | .goto off => if len = 3 then tm_jmp pc off L S M else none
  | .ifnull off => if len = 3 then (match S with | .ref _ :: S' => some (pc + 3, L, S', M) | .null :: S' => tm_jmp pc off L S' M | _ => none) else none
  | .ifnonnull off => if len = 3 then (match S with | .ref _ :: S' => tm_jmp pc off L S' M | .null :: S' => some (pc + 3, L, S', M) | _ => none) else none
  | .tableswitch d lo hi offs => (match S with | .int x :: S' => if x.toInt < lo ∨ hi < x.toInt then tm_jmp pc d L S' M else (match offs[(x.toInt - lo).toNat]? with | some off => tm_jmp pc off L S' M | none => none) | _ => none)
  | .lookupswitch d ps => (match S with | .int x :: S' => if (ps.toList.zip (ps.toList.drop 1)).all (fun (a, next) => a.1 < next.1) = true then tm_jmp pc (Op.lookupswitch.offset ps.toList d x.toInt) L S' M else none | _ => none)
  | .getfield k => if len = 3 then (match S, tm_lk tm_fl (mO m) k with | .ref o :: S', some (c, j) => if o < M.1.1 ∧ (M.1.2.2 o).1 = c ∧ c < 100 ∧ j < (M.1.2.2 o).2 then some (pc + 3, L, tm_pv (tm_ft c j) (M.2.1 o j) (M.2.2.1 o j) (M.2.2.2 o j) :: S', M) else none | _, _ => none) else none
  | .putfield k => if len = 3 then (match S, tm_lk tm_fl (mO m) k with | v :: .ref o :: S', some (c, j) => if o < M.1.1 ∧ (M.1.2.2 o).1 = c ∧ c < 100 ∧ j < (M.1.2.2 o).2 ∧ tm_okv (tm_ty c j) v = true ∧ (tm_fin c j = true → mK m = 2 ∧ mO m = c) then some (pc + 3, L, S', tm_put M o j v) else none | _, _ => none) else none
  | .iaload => if len = 1 then (match S with | .int i :: .ref o :: S' => if o < M.1.1 ∧ (M.1.2.2 o).1 = 100 ∧ tm_out i (M.1.2.2 o).2 = false then some (pc + 1, L, .int (M.2.1 o i.toNatClampNeg) :: S', M) else none | .int i :: .retAddr _ :: S' => if tm_out i X.1 = false then some (pc + 1, L, .int (X.2 i.toNatClampNeg) :: S', M) else none | _ => none) else none
  | .baload => if len = 1 then (match S with | .int i :: .ref o :: S' => if o < M.1.1 ∧ ((M.1.2.2 o).1 = 101 ∨ (M.1.2.2 o).1 = 102) ∧ tm_out i (M.1.2.2 o).2 = false then some (pc + 1, L, .int (M.2.1 o i.toNatClampNeg) :: S', M) else none | _ => none) else none
  | .laload => if len = 1 then (match S with | .int i :: .ref o :: S' => if o < M.1.1 ∧ (M.1.2.2 o).1 = 103 ∧ tm_out i (M.1.2.2 o).2 = false then some (pc + 1, L, .long (M.2.2.1 o i.toNatClampNeg) :: S', M) else none | _ => none) else none
  | .aaload => if len = 1 then (match S with | .int i :: .ref o :: S' => if o < M.1.1 ∧ (M.1.2.2 o).1 = 104 ∧ tm_out i (M.1.2.2 o).2 = false then some (pc + 1, L, tm_rv (M.2.2.2 o i.toNatClampNeg) :: S', M) else none | _ => none) else none
  | .iastore => if len = 1 then (match S with | .int x :: .int i :: .ref o :: S' => if o < M.1.1 ∧ (M.1.2.2 o).1 = 100 ∧ tm_out i (M.1.2.2 o).2 = false then some (pc + 1, L, S', tm_put M o i.toNatClampNeg (.int x)) else none | _ => none) else none
  | .bastore => if len = 1 then (match S with | .int x :: .int i :: .ref o :: S' => if o < M.1.1 ∧ (M.1.2.2 o).1 = 101 ∧ tm_out i (M.1.2.2 o).2 = false then some (pc + 1, L, S', tm_put M o i.toNatClampNeg (.int (vp_nar .byte x))) else if o < M.1.1 ∧ (M.1.2.2 o).1 = 102 ∧ tm_out i (M.1.2.2 o).2 = false then some (pc + 1, L, S', tm_put M o i.toNatClampNeg (.int (vp_nar .boolean x))) else none | _ => none) else none
  | .lastore => if len = 1 then (match S with | .long x :: .int i :: .ref o :: S' => if o < M.1.1 ∧ (M.1.2.2 o).1 = 103 ∧ tm_out i (M.1.2.2 o).2 = false then some (pc + 1, L, S', tm_put M o i.toNatClampNeg (.long x)) else none | _ => none) else none
  | .aastore => if len = 1 then (match S with | .ref v :: .int i :: .ref o :: S' => if o < M.1.1 ∧ (M.1.2.2 o).1 = 104 ∧ tm_out i (M.1.2.2 o).2 = false ∧ v < M.1.1 ∧ (M.1.2.2 v).1 = 4 then some (pc + 1, L, S', tm_put M o i.toNatClampNeg (.ref v)) else none | _ => none) else none
  | .arraylength => if len = 1 then (match S with | .ref o :: S' => if o < M.1.1 ∧ 100 ≤ (M.1.2.2 o).1 ∧ (M.1.2.2 o).1 ≤ 104 then some (pc + 1, L, .int (Int32.ofNat (M.1.2.2 o).2) :: S', M) else none | .retAddr _ :: S' => some (pc + 1, L, .int (Int32.ofNat X.1) :: S', M) | _ => none) else none
  | .newarray t => if len = 2 then (match S, tm_akd t with | .int n :: S', some kd => if ¬ n < 0 ∧ n.toNatClampNeg ≤ 1000000 then some (pc + 2, L, .ref M.1.1 :: S', tm_new M kd n.toNatClampNeg) else none | _, _ => none) else none
  | .anewarray k => if len = 3 then (match S, tm_lk tm_cl (mO m) k with | .int n :: S', some (4, _) => if ¬ n < 0 ∧ n.toNatClampNeg ≤ 1000000 then some (pc + 3, L, .ref M.1.1 :: S', tm_new M 104 n.toNatClampNeg) else none | _, _ => none) else none
  | .new k => if len = 3 then (match tm_lk tm_cl (mO m) k with | some (c, n) => some (pc + 3, L, .ref M.1.1 :: S, tm_new M c n) | none => none) else none
  | .invokespecial k => if len = 3 then (match S, tm_lk tm_ml (mO m) k with | .ref _ :: S', some (2, _) => if tm_wt S' ≤ 8 ∧ 1 ≤ mF m ∧ 20 ≤ mN m then some (pc + 3, L, S', M) else none | _, _ => none) else none
  | .invokestatic k => if len = 3 then (match S, tm_lk tm_ml (mO m) k with | .int n :: .int dp :: .ref a :: .int sp :: .ref a0 :: S', some (3, _) => if tm_wt S' ≤ 8 ∧ 1 ≤ mF m ∧ 26 ≤ mN m ∧ a < M.1.1 ∧ a0 < M.1.1 ∧ (M.1.2.2 a).1 = (M.1.2.2 a0).1 ∧ ((M.1.2.2 a0).1 = 100 ∨ (M.1.2.2 a0).1 = 101) ∧ ¬ sp < 0 ∧ ¬ dp < 0 ∧ ¬ n < 0 ∧ sp.toNatClampNeg + n.toNatClampNeg ≤ (M.1.2.2 a0).2 ∧ dp.toNatClampNeg + n.toNatClampNeg ≤ (M.1.2.2 a).2 then some (pc + 3, L, S', (M.1, va_up M.2.1 a (va_cpy (M.2.1 a0) (M.2.1 a) sp.toNatClampNeg dp.toNatClampNeg n.toNatClampNeg), M.2.2.1, M.2.2.2)) else none | .int y :: .int x :: S', some (4, _) => if tm_wt S' ≤ 8 ∧ 1 ≤ mF m ∧ 21 ≤ mN m then some (pc + 3, L, .int (if y < x then y else x) :: S', M) else none | .int y :: .int x :: S', some (5, _) => if tm_wt S' ≤ 8 ∧ 1 ≤ mF m ∧ 21 ≤ mN m then some (pc + 3, L, .int (if x < y then y else x) :: S', M) else none | _, _ => none) else none
  | _ => none
/-- a method's end: its answer -/
def tm_ret (m : Nat) (i : Instr) (len : Nat) (S : List Value) : Option (Option Value) := match i with
  | .ireturn => if len = 1 then (match S, mT m with | [.int x], some .int => some (some (.int x)) | [.int x], some .boolean => if x = 0 ∨ x = 1 then some (some (.int x)) else none | _, _ => none) else none
  | .lreturn => if len = 1 then (match S, mT m with | [.long x], some .long => some (some (.long x)) | _, _ => none) else none
  | .return_ => if len = 1 then (match S, mT m with | [], none => some none | _, _ => none) else none
  | _ => none
def tm_sl (vs : List Value) : tL := vs.flatMap fun v => if v.category = 2 then [some v, none] else [some v]
def tm_ent (y : Nat) (vs : List Value) : tL := tm_sl vs ++ List.replicate (mL y - (tm_sl vs).length) none
def tm_cok (m y : Nat) (vs rest : List Value) : Bool := decide (tm_wt rest ≤ 8 ∧ mF y + 1 ≤ mF m ∧ 8 + (mL y + 11) + mN y ≤ mN m ∧ (tm_sl vs).length ≤ mL y)
/-- a call: the method called, its arguments, what stays on the stack -/
def tm_call (m : Nat) (i : Instr) (len : Nat) (S : List Value) (E : tE) : Option (Nat × List Value × List Value) := match i with
  | .invokevirtual k => if len = 3 then (match tm_lk tm_ml (mO m) k with
    | some (0, y) => if mK y = 0 ∧ mA y ≤ S.length then (match S.drop (mA y) with | .ref o :: rest => if o < E.1 ∧ (E.2.2 o).1 = mO y ∧ mO y < 12 ∧ tm_cok m y (.ref o :: (S.take (mA y)).reverse) rest = true then some (y, .ref o :: (S.take (mA y)).reverse, rest) else none | _ => none) else none
    | _ => none) else none
  | .invokestatic k => if len = 3 then (match tm_lk tm_ml (mO m) k with
    | some (kd, y) => if kd ≤ 1 ∧ mK y = 1 ∧ mA y ≤ S.length ∧ tm_cok m y (S.take (mA y)).reverse (S.drop (mA y)) = true then some (y, (S.take (mA y)).reverse, S.drop (mA y)) else none
    | _ => none) else none
  | .invokespecial k => if len = 3 then (match tm_lk tm_ml (mO m) k with
    | some (kd, y) => if kd ≤ 1 ∧ mK y = 2 ∧ mA y ≤ S.length then (match S.drop (mA y) with | .ref o :: rest => if tm_cok m y (.ref o :: (S.take (mA y)).reverse) rest = true then some (y, .ref o :: (S.take (mA y)).reverse, rest) else none | _ => none) else none
    | _ => none) else none
  | _ => none
def tm_run (X : tX) : Nat → Nat → Nat → tL → List Value → tM → Option (Option Value × tM)
  | 0, _, _, _, _, _ => none
  | n + 1, m, pc, L, S, M => match decode (mB m) pc with
    | .error _ => none
    | .ok (i, len) => match tm_ret m i len S with
      | some r => some (r, M)
      | none => match tm_call m i len S M.1 with
        | some (y, vs, rest) => match tm_run X n y 0 (tm_ent y vs) [] M with
          | none => none
          | some (r, M1) => tm_run X n m (pc + 3) L (r.toList ++ rest) M1
        | none => match tm_stp X m i len pc L S M with
          | none => none
          | some (pc', L', S', M') => tm_run X n m pc' L' S' M'
