/-! An interpreter of the system's code over a memory of numbers: ints and longs are Int, a reference is a code (own cells from 0 on, null 5000, what stood there before from 5001 on). Part 04 shows that what it computes the machine computes. -/
abbrev zV : Type := Int ⊕ (Int ⊕ Nat)
/-- shapes (kind, length) of the own cells; their references; their numbers -/
abbrev zM : Type := List (Nat × Nat) × List (List Nat) × (Nat → Nat → Int)
abbrev zL : Type := List (Option zV)
/-- the script: its length and one more (0: there is none), its numbers -/
abbrev zSc : Type := Nat × (Nat → Int)
def in32 (x : Int) : Prop := -2147483648 ≤ x ∧ x ≤ 2147483647
def in64 (x : Int) : Prop := -9223372036854775808 ≤ x ∧ x ≤ 9223372036854775807
def w32 (x : Int) : Int := (Int32.ofInt x).toInt
def w64 (x : Int) : Int := (Int64.ofInt x).toInt
def zbi (f : Int32 → Int32 → Int32) (x y : Int) : Int := (f (Int32.ofInt x) (Int32.ofInt y)).toInt
def zbl (f : Int64 → Int64 → Int64) (x y : Int) : Int := (f (Int64.ofInt x) (Int64.ofInt y)).toInt
/-- fields' kinds: 0 a number of 32 bits, 1 of 64, 2 a reference, 3 a boolean -/
def zfk (ci k : Nat) : Nat := (zKF.getD ci []).getD k 2
def zgld (G : List (List Nat)) (a i : Nat) : Nat := (G.getD a []).getD i 5000
def zgst (G : List (List Nat)) (a i v : Nat) : List (List Nat) := G.set a ((G.getD a []).set i v)
def zup (M : Nat → Nat → Int) (a i : Nat) (v : Int) : Nat → Nat → Int := fun b j => if b = a ∧ j = i then v else M b j
def zclr (M : Nat → Nat → Int) (a : Nat) : Nat → Nat → Int := fun b j => if b = a then 0 else M b j
def zclrs (M : Nat → Nat → Int) (a n : Nat) : Nat → Nat → Int := fun b j => if a ≤ b ∧ b < a + n then 0 else M b j
def zcpy (M : Nat → Nat → Int) (a sp b dp n : Nat) : Nat → Nat → Int := fun c j => if c = b ∧ dp ≤ j ∧ j < dp + n then M a (sp + (j - dp)) else M c j
def zcat (v : zV) : Nat := match v with
  | .inr (.inl _) => 2
  | _ => 1
def zlo (L : zL) (i : Nat) : Option zV := L.getD i none
def zcl (L : zL) (i : Nat) : zL := match i with
  | 0 => L
  | k + 1 => match L.getD k none with
    | some (.inr (.inl _)) => L.set k none
    | _ => L
def zs_1 (L : zL) (i : Nat) (v : zV) : zL := (zcl L i).set i (some v)
def zs_2 (L : zL) (i : Nat) (v : zV) : zL := ((zcl L i).set i (some v)).set (i + 1) none
def zcd (c : Jvm.ClassFile.Cond) (x y : Int) : Bool := match c with
  | .eq => decide (x = y)
  | .ne => decide (x ≠ y)
  | .lt => decide (x < y)
  | .ge => decide (y ≤ x)
  | .gt => decide (y < x)
  | .le => decide (x ≤ y)
def ztg (pc : Nat) (off : Int) : Option Nat := if 0 ≤ (pc : Int) + off then some ((pc : Int) + off).toNat else none
/-- binary rows over ints: the function, and whether the second must not be 0 -/
def zb32 (i : Instr) : Option (Bool × (Int32 → Int32 → Int32)) := match i with
  | .iadd => some (false, fun x y => x + y)
  | .isub => some (false, fun x y => x - y)
  | .imul => some (false, fun x y => x * y)
  | .iand => some (false, fun x y => x &&& y)
  | .ior => some (false, fun x y => x ||| y)
  | .ixor => some (false, fun x y => x ^^^ y)
  | .ishl => some (false, fun x y => x <<< (y &&& 31))
  | .ishr => some (false, fun x y => x >>> (y &&& 31))
  | .iushr => some (false, fun x y => (x.toUInt32 >>> (y.toUInt32 &&& Int32.toUInt32 31)).toInt32)
  | .idiv => some (true, fun x y => x / y)
  | .irem => some (true, fun x y => x - x / y * y)
  | _ => none
def zb64 (i : Instr) : Option (Bool × (Int64 → Int64 → Int64)) := match i with
  | .ladd => some (false, fun x y => x + y)
  | .lmul => some (false, fun x y => x * y)
  | .land => some (false, fun x y => x &&& y)
  | .lor => some (false, fun x y => x ||| y)
  | .ldiv => some (true, fun x y => x / y)
  | .lrem => some (true, fun x y => x - x / y * y)
  | _ => none
/-- one int from one -/
def zu32 (i : Instr) : Option (Int32 → Int32) := match i with
  | .i2b => some (fun x => x.toInt8.toInt32)
  | .i2s => some (fun x => x.toInt16.toInt32)
  | .i2c => some (fun x => (x.toUInt32 % 65536).toInt32)
  | _ => none
def zpush (i : Instr) (len : Nat) (C : Nat) : Option zV := match i with
  | .iconst k => if len = 1 then some (.inl (w32 k)) else none
  | .bipush k => if len = 2 then some (.inl (Int8.ofInt k).toInt32.toInt) else none
  | .sipush k => if len = 3 then some (.inl (Int16.ofInt k).toInt32.toInt) else none
  | .lconst k => if len = 1 then some (.inr (.inl (Int64.ofNat (k : Nat)).toInt)) else none
  | .ldc idx => if len = 2 then (match (zCK C).find? (fun e => e.1 == idx) with
      | some e => some (.inl (w32 e.2.1))
      | none => match (zSK C).find? (fun e => e.1 == idx) with
        | some e => some (.inr (.inr (5003 + e.2.1)))
        | none => none) else none
  | .ldc_w idx => if len = 3 then (match (zCK C).find? (fun e => e.1 == idx) with
      | some e => some (.inl (w32 e.2.1))
      | none => none) else none
  | .ldc2_w idx => if len = 3 then (match (zJK C).find? (fun e => e.1 == idx) with
      | some e => some (.inr (.inl (w64 e.2.1)))
      | none => none) else none
  | .getstatic idx => if len = 3 then (match (zGK C).find? (fun e => e.1 == idx) with
      | some e => if e.2.1 = 0 then some (.inl 1) else some (.inr (.inr 5002))
      | none => none) else none
  | _ => none
/-- a local variable that is read: kind (1 int, 2 long, 3 reference), place -/
def zload (i : Instr) (len : Nat) : Option (Nat × Nat) := match i with
  | .iload_n k => if len = 1 then some (1, (k : Nat)) else none
  | .iload k => if len = 2 then some (1, k) else none
  | .lload_n k => if len = 1 then some (2, (k : Nat)) else none
  | .lload k => if len = 2 then some (2, k) else none
  | .aload_n k => if len = 1 then some (3, (k : Nat)) else none
  | .aload k => if len = 2 then some (3, k) else none
  | _ => none
def zstor (i : Instr) (len : Nat) : Option (Nat × Nat) := match i with
  | .istore_n k => if len = 1 then some (1, (k : Nat)) else none
  | .istore k => if len = 2 then some (1, k) else none
  | .lstore_n k => if len = 1 then some (2, (k : Nat)) else none
  | .lstore k => if len = 2 then some (2, k) else none
  | .astore_n k => if len = 1 then some (3, (k : Nat)) else none
  | .astore k => if len = 2 then some (3, k) else none
  | _ => none
def zkind (v : zV) : Nat := match v with
  | .inl _ => 1
  | .inr (.inl _) => 2
  | _ => 3
/-- reading a cell: what getfield, a load or arraylength pushes -/
def zgetf (C : Nat) (A : zM) (idx c : Nat) : Option zV := match (zFK C).find? (fun e => e.1 == idx) with
  | some e => if A.1[c]? = some (10 + e.2.1, zNF e.2.1) then (match zfk e.2.1 e.2.2.1 with
      | 0 => some (.inl (A.2.2 c e.2.2.1))
      | 3 => some (.inl (A.2.2 c e.2.2.1))
      | 1 => some (.inr (.inl (A.2.2 c e.2.2.1)))
      | _ => if zgld A.2.1 c e.2.2.1 ≤ 5000 then some (.inr (.inr (zgld A.2.1 c e.2.2.1))) else none) else none
  | none => match (zXK C).find? (fun e => e.1 == idx) with
    | some e => if 5003 ≤ c ∧ c < 5033 then (if e.2.1 = 0 then some (.inr (.inr (c + 37))) else some (.inl 0)) else none
    | none => none
def zlen (sc : zSc) (A : zM) (c : Nat) : Option Int := match A.1[c]? with
  | some (t, n) => if t < 6 then some (n : Int) else none
  | none => if c = 5001 ∧ 0 < sc.1 then some ((sc.1 - 1 : Nat) : Int) else if 5040 ≤ c ∧ c < 5070 then some ((zBY.getD (c - 5040) []).length : Int) else none
def zald (sc : zSc) (A : zM) (i : Instr) (c : Nat) (x : Int) : Option zV := match A.1[c]? with
  | some (t, n) => if 0 ≤ x ∧ x < n then (match i with
      | .iaload => if t = 0 then some (.inl (A.2.2 c x.toNat)) else none
      | .baload => if t = 1 ∨ t = 3 then some (.inl (A.2.2 c x.toNat)) else none
      | .laload => if t = 2 then some (.inr (.inl (A.2.2 c x.toNat))) else none
      | .aaload => if (t = 4 ∨ t = 5) ∧ zgld A.2.1 c x.toNat ≤ 5000 then some (.inr (.inr (zgld A.2.1 c x.toNat))) else none
      | _ => none) else none
  | none => match i with
      | .iaload => if c = 5001 ∧ 0 ≤ x ∧ x + 1 < sc.1 then some (.inl (sc.2 x.toNat)) else none
      | .baload => if 5040 ≤ c ∧ c < 5070 ∧ 0 ≤ x ∧ x < (zBY.getD (c - 5040) []).length then some (.inl ((zBY.getD (c - 5040) []).getD x.toNat 0).toInt) else none
      | _ => none
/-- writing a cell -/
def zputf (j : Nat) (A : zM) (idx c : Nat) (v : zV) : Option zM := match (zFK (zcls j)).find? (fun e => e.1 == idx) with
  | some e => if A.1[c]? = some (10 + e.2.1, zNF e.2.1) ∧ ((zTX e.2.1 e.2.2.1).2.2.2 = false ∨ ((zy j).name = "<init>" ∧ e.2.1 = zcls j ∧ e.2.2.2.2 = false)) then (match zfk e.2.1 e.2.2.1, v with
      | 0, .inl x => some (A.1, A.2.1, zup A.2.2 c e.2.2.1 x)
      | 3, .inl x => if x = 0 ∨ x = 1 then some (A.1, A.2.1, zup A.2.2 c e.2.2.1 x) else none
      | 1, .inr (.inl x) => some (A.1, A.2.1, zup A.2.2 c e.2.2.1 x)
      | 2, .inr (.inr r) => if r < 5000 then some (A.1, zgst A.2.1 c e.2.2.1 r, A.2.2) else none
      | _, _ => none) else none
  | none => none
def zast (A : zM) (i : Instr) (c : Nat) (x : Int) (v : zV) : Option zM := match A.1[c]? with
  | some (t, n) => if 0 ≤ x ∧ x < n then (match i, v with
      | .iastore, .inl y => if t = 0 then some (A.1, A.2.1, zup A.2.2 c x.toNat y) else none
      | .bastore, .inl y => if t = 1 then some (A.1, A.2.1, zup A.2.2 c x.toNat (Int32.ofInt y).toInt8.toInt32.toInt) else if t = 3 ∧ (y = 0 ∨ y = 1) then some (A.1, A.2.1, zup A.2.2 c x.toNat y) else none
      | .lastore, .inr (.inl y) => if t = 2 then some (A.1, A.2.1, zup A.2.2 c x.toNat y) else none
      | .aastore, .inr (.inr r) => if t = 4 ∧ r < 5000 ∧ A.1[r]? = some (12, 3) then some (A.1, zgst A.2.1 c x.toNat r, A.2.2) else none
      | _, _ => none) else none
  | none => none
/-- making a cell of kind t with n places -/
def zmk (A : zM) (t n : Nat) : zM := (A.1 ++ [(t, n)], A.2.1 ++ [List.replicate n 5000], zclr A.2.2 A.1.length)
def zatk (t : ArrayType) : Option Nat := match t with
  | .int => some 0
  | .byte => some 1
  | .long => some 2
  | .boolean => some 3
  | _ => none
/-- the JDK's own: min, max, abs, arraycopy -/
def zprim (A : zM) (t : Nat) (S : List zV) : Option (List zV × zM) := match t, S with
  | 0, .inl y :: .inl x :: S => some (.inl (if y < x then y else x) :: S, A)
  | 1, .inl y :: .inl x :: S => some (.inl (if x < y then y else x) :: S, A)
  | 2, .inr (.inl x) :: S => some (.inr (.inl (if 0 < x then x else w64 (-x))) :: S, A)
  | 3, .inl n :: .inl dp :: .inr (.inr b) :: .inl sp :: .inr (.inr a) :: S =>
    (match A.1[a]?, A.1[b]? with
     | some (t0, n0), some (t1, n1) => if t0 = t1 ∧ (t0 = 0 ∨ t0 = 2) ∧ 0 ≤ sp ∧ 0 ≤ dp ∧ 0 ≤ n ∧ sp + n ≤ n0 ∧ dp + n ≤ n1 then some (S, A.1, A.2.1, zcpy A.2.2 a sp.toNat b dp.toNat n.toNat) else none
     | _, _ => none)
  | _, _ => none
/-- the rows one by one -/
def zs0 (sc : zSc) (q : Nat) (j pc : Nat) (L : zL) (S : List zV) (A : zM) (i : Instr) (len : Nat) : Option (Nat × zL × List zV × zM) :=
  match i, S with
  | .lshl, .inl y :: .inr (.inl x) :: S => if len = 1 then some (pc + 1, L, .inr (.inl (Int64.ofInt x <<< ((Int32.ofInt y).toInt64 &&& 63)).toInt) :: S, A) else none
  | .lshr, .inl y :: .inr (.inl x) :: S => if len = 1 then some (pc + 1, L, .inr (.inl (Int64.ofInt x >>> ((Int32.ofInt y).toInt64 &&& 63)).toInt) :: S, A) else none
  | .i2l, .inl x :: S => if len = 1 then some (pc + 1, L, .inr (.inl x) :: S, A) else none
  | .l2i, .inr (.inl x) :: S => if len = 1 then some (pc + 1, L, .inl (w32 x) :: S, A) else none
  | .lcmp, .inr (.inl y) :: .inr (.inl x) :: S => if len = 1 then some (pc + 1, L, .inl (if x < y then -1 else if x = y then 0 else 1) :: S, A) else none
  | .dup, v :: S => if len = 1 ∧ zcat v = 1 then some (pc + 1, L, v :: v :: S, A) else none
  | .pop, v :: S => if len = 1 ∧ zcat v = 1 then some (pc + 1, L, S, A) else none
  | .dup2, v :: S => if len ≠ 1 then none else if zcat v = 2 then some (pc + 1, L, v :: v :: S, A) else (match S with
    | w :: S => if zcat w = 1 then some (pc + 1, L, v :: w :: v :: w :: S, A) else none
    | [] => none)
  | .iinc n k, S => (match zlo L n with
    | some (.inl x) => if len = 3 ∧ n < zml j then some (pc + 3, zs_1 L n (.inl (zbi (fun x y => x + y) x k)), S, A) else none
    | _ => none)
  | .goto off, S => (match ztg pc off with
    | some t => if len = 3 then some (t, L, S, A) else none
    | none => none)
  | .ifCond c off, .inl x :: S => (match ztg pc off with
    | some t => if len = 3 then some (if zcd c x 0 = true then t else pc + 3, L, S, A) else none
    | none => none)
  | .if_icmp c off, .inl y :: .inl x :: S => (match ztg pc off with
    | some t => if len = 3 then some (if zcd c x y = true then t else pc + 3, L, S, A) else none
    | none => none)
  | .tableswitch d lo hi offs, .inl x :: S => (match ztg pc (if x < lo ∨ hi < x then d else offs.getD (x - lo).toNat 0) with
    | some t => if (x < lo ∨ hi < x) ∨ (x - lo).toNat < offs.size then some (t, L, S, A) else none
    | none => none)
  | .getfield idx, .inr (.inr c) :: S => (match zgetf (zcls j) A idx c with
    | some v => if len = 3 then some (pc + 3, L, v :: S, A) else none
    | none => none)
  | .putfield idx, v :: .inr (.inr c) :: S => (match zputf j A idx c v with
    | some A => if len = 3 then some (pc + 3, L, S, A) else none
    | none => none)
  | .arraylength, .inr (.inr c) :: S => (match zlen sc A c with
    | some n => if len = 1 then some (pc + 1, L, .inl (w32 n) :: S, A) else none
    | none => none)
  | .invokespecial idx, .inr (.inr r) :: S => if len = 3 ∧ 1 ≤ q ∧ r < 5000 ∧ ((S.map zcat).sum ≤ 8) ∧ ((zOK (zcls j)).find? (fun e => e.1 == idx)).isSome = true then some (pc + 3, L, S, A) else none
  | .invokestatic idx, S => (match (zPK (zcls j)).find? (fun e => e.1 == idx) with
    | some e => (match zprim A e.2.1 S with
      | some (S, A) => if len = 3 ∧ 1 ≤ q ∧ ((S.map zcat).sum ≤ 8) then some (pc + 3, L, S, A) else none
      | none => none)
    | none => none)
  | .new idx, S => (match (zKK (zcls j)).find? (fun e => e.1 == idx) with
    | some e => if len = 3 ∧ A.1.length < 5000 then some (pc + 3, L, .inr (.inr A.1.length) :: S, zmk A (10 + e.2.1) (zNF e.2.1)) else none
    | none => none)
  | .newarray t, .inl n :: S => (match zatk t with
    | some t => if len = 2 ∧ 0 ≤ n ∧ n ≤ 10000 ∧ A.1.length < 5000 then some (pc + 2, L, .inr (.inr A.1.length) :: S, zmk A t n.toNat) else none
    | none => none)
  | .anewarray idx, .inl n :: S => (match (zKK (zcls j)).find? (fun e => e.1 == idx) with
    | some e => if len = 3 ∧ e.2.1 = 2 ∧ 0 ≤ n ∧ n ≤ 10000 ∧ A.1.length < 5000 then some (pc + 3, L, .inr (.inr A.1.length) :: S, zmk A 4 n.toNat) else none
    | none => none)
  | .multianewarray idx d, .inl k :: .inl n :: S => (match (zK2 (zcls j)).find? (fun e => e.1 == idx) with
    | some _ => if len = 4 ∧ d = 2 ∧ 0 ≤ n ∧ n ≤ 1000 ∧ 0 ≤ k ∧ k ≤ 1000 ∧ 0 < A.1.length ∧ A.1.length + 1 + n.toNat < 5000 then some (pc + 4, L, .inr (.inr A.1.length) :: S,
        (A.1 ++ [(5, n.toNat)] ++ List.replicate n.toNat (2, k.toNat), A.2.1 ++ [(List.range n.toNat).map (fun i => A.1.length + 1 + i)] ++ List.replicate n.toNat (List.replicate k.toNat 5000), zclrs A.2.2 A.1.length (1 + n.toNat))) else none
    | none => none)
  | _, _ => none
/-- the row that ends in the next one, or jumps -/
def zs1 (sc : zSc) (q : Nat) (j pc : Nat) (L : zL) (S : List zV) (A : zM) (i : Instr) (len : Nat) : Option (Nat × zL × List zV × zM) :=
  match zpush i len (zcls j) with
  | some v => some (pc + len, L, v :: S, A)
  | none => match zload i len with
  | some (k, n) => (match zlo L n with
    | some v => if zkind v = k then some (pc + len, L, v :: S, A) else none
    | none => none)
  | none => match zstor i len with
  | some (k, n) => (match S with
    | v :: S => if zkind v = k ∧ n + (if k = 2 then 1 else 0) < zml j then some (pc + len, if k = 2 then zs_2 L n v else zs_1 L n v, S, A) else none
    | [] => none)
  | none => match zb32 i with
  | some (nz, f) => (match S with
    | .inl y :: .inl x :: S => if len = 1 ∧ (nz = true → y ≠ 0) then some (pc + 1, L, .inl (zbi f x y) :: S, A) else none
    | _ => none)
  | none => match zb64 i with
  | some (nz, f) => (match S with
    | .inr (.inl y) :: .inr (.inl x) :: S => if len = 1 ∧ (nz = true → y ≠ 0) then some (pc + 1, L, .inr (.inl (zbl f x y)) :: S, A) else none
    | _ => none)
  | none => match zu32 i with
  | some f => (match S with
    | .inl x :: S => if len = 1 then some (pc + 1, L, .inl (f (Int32.ofInt x)).toInt :: S, A) else none
    | _ => none)
  | none => zs0 sc q j pc L S A i len
/-- the loads of arrays, apart -/
def zs2 (sc : zSc) (pc : Nat) (L : zL) (S : List zV) (A : zM) (i : Instr) (len : Nat) : Option (Nat × zL × List zV × zM) := match S with
  | .inl x :: .inr (.inr c) :: S => (match zald sc A i c x with
    | some v => if len = 1 then some (pc + 1, L, v :: S, A) else none
    | none => none)
  | _ => none
def zs3 (pc : Nat) (L : zL) (S : List zV) (A : zM) (i : Instr) (len : Nat) : Option (Nat × zL × List zV × zM) := match S with
  | v :: .inl x :: .inr (.inr c) :: S => (match zast A i c x v with
    | some A => if len = 1 then some (pc + 1, L, S, A) else none
    | none => none)
  | _ => none
def zstep (sc : zSc) (q : Nat) (j pc : Nat) (L : zL) (S : List zV) (A : zM) (i : Instr) (len : Nat) : Option (Nat × zL × List zV × zM) :=
  match zs1 sc q j pc L S A i len with
  | some r => some r
  | none => match zs2 sc pc L S A i len with
    | some r => some r
    | none => zs3 pc L S A i len
/-- a call: the callee, its arguments, what stays -/
def zcall (j : Nat) (S : List zV) (i : Instr) (len : Nat) : Option (Nat × List zV × List zV) :=
  match (match i with
    | .invokestatic idx => if len = 3 then some (idx, 0) else none
    | .invokevirtual idx => if len = 3 then some (idx, 1) else none
    | .invokespecial idx => if len = 3 then some (idx, 2) else none
    | _ => none : Option (Nat × Nat)) with
  | some (idx, kd) => (match (zLK (zcls j)).find? (fun e => e.1 == idx) with
    | some e => if zkd e.2.1 = kd ∧ znp e.2.1 + (if kd = 0 then 0 else 1) ≤ S.length ∧ ((S.drop (znp e.2.1 + (if kd = 0 then 0 else 1))).map zcat).sum ≤ 8 then some (e.2.1, (S.take (znp e.2.1 + (if kd = 0 then 0 else 1))).reverse, S.drop (znp e.2.1 + (if kd = 0 then 0 else 1))) else none
    | none => none)
  | none => none
/-- an answer that the answer's type can hold -/
def zrok (t : Option FieldType) (v : Option zV) : Bool := match t, v with
  | none, none => true
  | some .int, some (.inl _) => true
  | some .long, some (.inr (.inl _)) => true
  | some .boolean, some (.inl x) => decide (x = 0 ∨ x = 1)
  | some .char, some (.inl x) => decide (0 ≤ x ∧ x < 65536)
  | some .byte, some (.inl x) => decide (-128 ≤ x ∧ x < 128)
  | _, _ => false
def zret (j : Nat) (S : List zV) (i : Instr) (len : Nat) : Option (Option zV) := match i, S with
  | .ireturn, [.inl x] => if len = 1 ∧ zrok (zrt j) (some (.inl x)) = true then some (some (.inl x)) else none
  | .lreturn, [.inr (.inl x)] => if len = 1 ∧ zrok (zrt j) (some (.inr (.inl x))) = true then some (some (.inr (.inl x))) else none
  | .return_, [] => if len = 1 ∧ zrok (zrt j) none = true then some none else none
  | _, _ => none
def zRK : List Nat := [1, 1, 2, 2, 1, 0, 2, 2, 1, 3, 2, 2, 0, 1, 0, 1, 0, 0, 0, 0, 0, 1, 0, 0, 1, 0, 1, 0, 0, 1, 1, 1, 1, 1, 2, 1, 1, 0, 0, 1, 1, 1, 0, 9, 8, 6, 6, 6, 7, 6, 6, 0, 5, 2, 2, 4, 1, 0, 1, 0, 0, 1, 0, 0, 0, 1, 1, 1, 1, 0, 0, 1, 0, 0, 0, 0, 3, 1, 0, 10, 0, 1, 1, 1, 1, 1, 2, 2, 2, 2, 2, 1, 2, 1, 2, 1, 1, 2, 1, 2, 2, 2, 2, 2, 2, 1, 2, 2, 2, 2, 4, 4, 4, 4, 4, 5, 5, 5, 5, 4, 4, 6, 6, 6, 2, 2, 1, 2, 5, 5, 14, 14, 5, 5, 5, 5, 5, 5, 1, 2, 3, 5, 2, 1, 1, 4, 0, 2, 3, 1, 3, 2, 1, 4, 4, 4, 5, 0, 0, 1, 2, 1, 1, 0, 1, 1, 4, 2, 13, 3, 1, 0, 0, 0, 4, 1, 0, 0, 0, 1, 1, 0, 0, 1, 1, 1, 1, 1, 1, 0, 0, 0, 0, 1, 0, 1, 0, 1, 4, 5, 6, 2, 7, 0, 3, 8, 7, 8, 3, 4, 5, 9, 10, 11, 1, 1, 2, 2, 2, 2, 2, 0, 0, 1, 2, 1, 1, 2, 3, 4, 5, 5, 5, 6, 6, 6, 1, 6, 1, 6, 6, 6, 6, 6, 6, 6, 1, 2, 6, 1, 6, 6, 6, 5, 5, 6, 6, 5, 6, 5, 0, 2, 0, 3, 3, 2, 1, 3, 4, 4, 4, 3, 2, 4, 4, 4, 5, 6, 6, 6, 6, 5, 5, 0, 4, 5, 1, 5, 5, 2, 3, 1, 1, 2, 0, 1, 2, 3, 4, 5, 5, 4, 2, 5, 5, 0, 5, 2, 1, 1, 4, 1, 5, 5, 2, 1, 1, 0, 2, 2, 2, 0, 1, 3, 0, 0, 1, 2, 0, 0, 0]
/-- how deep the calls of a method go at most -/
def zrk (c : Nat) (as : List zV) : Nat := if c = 169 then (match as with
  | [_, _, .inl n, _, _] => 3 + (9 - n).toNat
  | _ => 0) else zRK.getD c 0
def zarg0 (as : List zV) : zL := match as with
  | [] => []
  | v :: vs => if zcat v = 2 then some v :: none :: zarg0 vs else some v :: zarg0 vs
def zarg (ml : Nat) (as : List zV) : zL := zarg0 as ++ List.replicate (ml - (zarg0 as).length) none
/-- the receiver of a call -/
def zrv (A : zM) (c : Nat) (as : List zV) : Bool := match zkd c, as with
  | 0, _ => true
  | 1, .inr (.inr r) :: _ => decide (A.1[r]? = some (10 + zcls c, zNF (zcls c)) ∧ zcls c < 9) || decide (zcls c = 11 ∧ 5003 ≤ r ∧ r < 5033)
  | 2, .inr (.inr r) :: _ => decide (r < 5000)
  | _, _ => false
def zex (sc : zSc) : Nat → Nat → Nat → Nat → zL → List zV → zM → Option (Option zV × zM)
  | 0, _, _, _, _, _, _ => none
  | n + 1, q, j, pc, L, S, A => match decode (zcode j) pc with
    | .error _ => none
    | .ok (i, len) => match zret j S i len with
      | some r => some (r, A)
      | none => match zstep sc q j pc L S A i len with
        | some (pc', L', S', A') => zex sc n q j pc' L' S' A'
        | none => match zcall j S i len with
          | some (c, as, rest) => if zrk c as < q ∧ (zarg0 as).length ≤ zml c ∧ zrv A c as = true then (match zex sc n (zrk c as) c 0 (zarg (zml c) as) [] A with
            | some (r, A') => zex sc n q j (pc + 3) L (r.toList ++ rest) A'
            | none => none) else none
          | none => none
