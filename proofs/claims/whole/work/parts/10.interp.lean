/-! THE PURE MACHINE: memory of one fixed shape, one step of it, runs of a method with its calls. No word of the JVM's heap stands here. -/
/-- what a cell holds at a place: ints, and longs -/
abbrev jM : Type := (Nat → Nat → Int32) × (Nat → Nat → Int64)
/-- pc, locals, stack, memory -/
abbrev jC : Type := Nat × List (Nat × Value) × List Value × jM
/-- a cell's shape: an object (its kind, its fields: 0 int, 1 long, 2 a reference to a cell, 3 a truth), or an array (0 int, 1 byte, 2 truth, 3 long, 4 and on references; its length; to which cells) -/
abbrev jS : Type := (Nat × List (Nat × Nat)) ⊕ (Nat × Nat × List Nat)
/-- a method: name, bytes, locals, what it returns, height over its callees, kind of its own, static, parameters -/
abbrev jE : Type := MethodName × ByteArray × Nat × Option FieldType × Nat × Nat × Bool × Nat
/-- the tables: shapes; instructions; methods; fields by kind and entry; calls by kind and entry; constants by kind and entry; which locals are kept at a place; calls of Math by kind and entry (0 abs, 1 abs of a long, 2 max, 3 min) -/
abbrev jT : Type := List jS × (Nat → Nat → Option Instr) × (Nat → Option jE) × (Nat → Nat → Option (Nat × Nat × Bool)) × (Nat → Nat → Option (Nat × Bool)) × (Nat → Nat → Option Value) × (Nat → Nat → Option (List Nat)) × (Nat → Nat → Option Nat)
def jsi (M : jM) (a k : Nat) (v : Int32) : jM := (fun x y => if x = a ∧ y = k then v else M.1 x y, M.2)
def jsl (M : jM) (a k : Nat) (v : Int64) : jM := (M.1, fun x y => if x = a ∧ y = k then v else M.2 x y)
def jfv (M : jM) (a k : Nat) (f : Nat × Nat) : Value := if f.1 = 1 then .long (M.2 a k) else if f.1 = 2 then .ref f.2 else .int (M.1 a k)
def jget (sh : List jS) (M : jM) (a ci k : Nat) : Option Value := match sh[a]? with
  | some (.inl (c, fs)) => if c = ci then (match fs[k]? with | some f => some (jfv M a k f) | none => none) else none
  | _ => none
def jput (sh : List jS) (M : jM) (a ci k : Nat) (v : Value) : Option jM := match sh[a]? with
  | some (.inl (c, fs)) => if c = ci then (match fs[k]? with
      | some f => (match v with
        | .int x => if f.1 = 0 then some (jsi M a k x) else if f.1 = 3 then (if x = 0 ∨ x = 1 then some (jsi M a k x) else none) else none
        | .long x => if f.1 = 1 then some (jsl M a k x) else none
        | _ => none)
      | none => none) else none
  | _ => none
/-- an array's place: its type's number, the place -/
def jix (sh : List jS) (a : Nat) (i : Int32) : Option (Nat × Nat × List Nat) := match sh[a]? with
  | some (.inr (t, n, rs)) => if i < 0 ∨ n ≤ i.toNatClampNeg then none else some (t, i.toNatClampNeg, rs)
  | _ => none
def jlk (i : Nat) : List (Nat × Value) → Option Value
  | [] => none
  | q :: t => if q.1 = i then some q.2 else jlk i t
def jf1 (i : Nat) (L : List (Nat × Value)) : List (Nat × Value) := L.filter (fun q => !(q.1 == i) && !(q.1 + 1 == i && q.2.category == 2))
def jf2 (i : Nat) (L : List (Nat × Value)) : List (Nat × Value) := L.filter (fun q => !(q.1 == i) && (!(q.1 == i + 1) && !(q.1 + 1 == i && q.2.category == 2)))
/-- into its place by number -/
def jins (i : Nat) (v : Value) : List (Nat × Value) → List (Nat × Value)
  | [] => [(i, v)]
  | q :: t => if i < q.1 then (i, v) :: q :: t else q :: jins i v t
def jli (c : jC) (d i : Nat) : Option jC := match jlk i c.2.1 with
  | some (.int x) => some (c.1 + d, c.2.1, .int x :: c.2.2.1, c.2.2.2)
  | _ => none
def jll (c : jC) (d i : Nat) : Option jC := match jlk i c.2.1 with
  | some (.long x) => some (c.1 + d, c.2.1, .long x :: c.2.2.1, c.2.2.2)
  | _ => none
def jla (c : jC) (d i : Nat) : Option jC := match jlk i c.2.1 with
  | some (.ref x) => some (c.1 + d, c.2.1, .ref x :: c.2.2.1, c.2.2.2)
  | some .null => some (c.1 + d, c.2.1, .null :: c.2.2.1, c.2.2.2)
  | _ => none
def jis (nL : Nat) (c : jC) (d i : Nat) : Option jC := match c.2.2.1 with
  | .int x :: S => if i < nL then some (c.1 + d, jins i (.int x) (jf1 i c.2.1), S, c.2.2.2) else none
  | _ => none
def jls (nL : Nat) (c : jC) (d i : Nat) : Option jC := match c.2.2.1 with
  | .long x :: S => if i + 1 < nL then some (c.1 + d, jins i (.long x) (jf2 i c.2.1), S, c.2.2.2) else none
  | _ => none
def jas (nL : Nat) (c : jC) (d i : Nat) : Option jC := match c.2.2.1 with
  | .ref x :: S => if i < nL then some (c.1 + d, jins i (.ref x) (jf1 i c.2.1), S, c.2.2.2) else none
  | .null :: S => if i < nL then some (c.1 + d, jins i .null (jf1 i c.2.1), S, c.2.2.2) else none
  | _ => none
def jii (c : jC) (f : Int32 → Int32 → Int32) : Option jC := match c.2.2.1 with
  | .int b :: .int a :: S => some (c.1 + 1, c.2.1, .int (f a b) :: S, c.2.2.2)
  | _ => none
def jij (c : jC) (f : Int32 → Int32 → Int32) : Option jC := match c.2.2.1 with
  | .int b :: .int a :: S => if b = 0 then none else some (c.1 + 1, c.2.1, .int (f a b) :: S, c.2.2.2)
  | _ => none
def jLL (c : jC) (f : Int64 → Int64 → Int64) : Option jC := match c.2.2.1 with
  | .long b :: .long a :: S => some (c.1 + 1, c.2.1, .long (f a b) :: S, c.2.2.2)
  | _ => none
def jLM (c : jC) (f : Int64 → Int64 → Int64) : Option jC := match c.2.2.1 with
  | .long b :: .long a :: S => if b = 0 then none else some (c.1 + 1, c.2.1, .long (f a b) :: S, c.2.2.2)
  | _ => none
def jtg (pc : Nat) (off : Int) : Option Nat := if 0 ≤ (pc : Int) + off then some ((pc : Int) + off).toNat else none
def jgo (c : jC) (S : List Value) (b : Bool) (off : Int) : Option jC := match jtg c.1 off with
  | some t => some (if b then t else c.1 + 3, c.2.1, S, c.2.2.2)
  | none => none
def jc1 (c : jC) (off : Int) (f : Int32 → Bool) : Option jC := match c.2.2.1 with
  | .int a :: S => jgo c S (f a) off
  | _ => none
def jc2 (c : jC) (off : Int) (f : Int32 → Int32 → Bool) : Option jC := match c.2.2.1 with
  | .int b :: .int a :: S => jgo c S (f a b) off
  | _ => none
/-- Math's own -/
def jmath (k : Nat) (c : jC) : Option jC :=
  if k = 0 then (match c.2.2.1 with | .int x :: S => if (S.map (fun v => v.category)).sum ≤ 8 then some (c.1 + 3, c.2.1, .int (if 0 ≤ x then x else 0 - x) :: S, c.2.2.2) else none | _ => none)
  else if k = 1 then (match c.2.2.1 with | .long x :: S => if (S.map (fun v => v.category)).sum ≤ 8 then some (c.1 + 3, c.2.1, .long (if 0 < x then x else -x) :: S, c.2.2.2) else none | _ => none)
  else if k = 2 then (match c.2.2.1 with | .int y :: .int x :: S => if (S.map (fun v => v.category)).sum ≤ 8 then some (c.1 + 3, c.2.1, .int (if x < y then y else x) :: S, c.2.2.2) else none | _ => none)
  else (match c.2.2.1 with | .int y :: .int x :: S => if (S.map (fun v => v.category)).sum ≤ 8 then some (c.1 + 3, c.2.1, .int (if y < x then y else x) :: S, c.2.2.2) else none | _ => none)
/-- one instruction that is no call and no end -/
def jone (T : jT) (E : jE) (ins : Instr) (c : jC) : Option jC := match ins with
  | .iconst n => some (c.1 + 1, c.2.1, .int (Int32.ofInt n) :: c.2.2.1, c.2.2.2)
  | .bipush n => some (c.1 + 2, c.2.1, .int (Int8.ofInt n).toInt32 :: c.2.2.1, c.2.2.2)
  | .sipush n => some (c.1 + 3, c.2.1, .int (Int16.ofInt n).toInt32 :: c.2.2.1, c.2.2.2)
  | .lconst n => some (c.1 + 1, c.2.1, .long (Int64.ofNat (n : Nat)) :: c.2.2.1, c.2.2.2)
  | .aconst_null => some (c.1 + 1, c.2.1, .null :: c.2.2.1, c.2.2.2)
  | .ldc i => (match T.2.2.2.2.2.1 E.2.2.2.2.2.1 i with | some (.int v) => some (c.1 + 2, c.2.1, .int v :: c.2.2.1, c.2.2.2) | _ => none)
  | .ldc_w i => (match T.2.2.2.2.2.1 E.2.2.2.2.2.1 i with | some (.int v) => some (c.1 + 3, c.2.1, .int v :: c.2.2.1, c.2.2.2) | _ => none)
  | .ldc2_w i => (match T.2.2.2.2.2.1 E.2.2.2.2.2.1 i with | some (.long v) => some (c.1 + 3, c.2.1, .long v :: c.2.2.1, c.2.2.2) | _ => none)
  | .iload_n k => jli c 1 k
  | .iload i => jli c 2 i
  | .lload_n k => jll c 1 k
  | .lload i => jll c 2 i
  | .aload_n k => jla c 1 k
  | .aload i => jla c 2 i
  | .istore_n k => jis E.2.2.1 c 1 k
  | .istore i => jis E.2.2.1 c 2 i
  | .lstore_n k => jls E.2.2.1 c 1 k
  | .lstore i => jls E.2.2.1 c 2 i
  | .astore_n k => jas E.2.2.1 c 1 k
  | .astore i => jas E.2.2.1 c 2 i
  | .iinc i n => (match jlk i c.2.1 with | some (.int x) => if i < E.2.2.1 then some (c.1 + 3, jins i (.int (x + Int32.ofInt n)) (jf1 i c.2.1), c.2.2.1, c.2.2.2) else none | _ => none)
  | .iadd => jii c (fun a b => a + b)
  | .isub => jii c (fun a b => a - b)
  | .imul => jii c (fun a b => a * b)
  | .iand => jii c (fun a b => a &&& b)
  | .ior => jii c (fun a b => a ||| b)
  | .ixor => jii c (fun a b => a ^^^ b)
  | .ishl => jii c (fun a b => a <<< (b &&& 31))
  | .ishr => jii c (fun a b => a >>> (b &&& 31))
  | .iushr => jii c (fun a b => (a.toUInt32 >>> (b.toUInt32 &&& Int32.toUInt32 31)).toInt32)
  | .idiv => jij c (fun a b => a / b)
  | .irem => jij c (fun a b => a - a / b * b)
  | .ineg => (match c.2.2.1 with | .int a :: S => some (c.1 + 1, c.2.1, .int (-a) :: S, c.2.2.2) | _ => none)
  | .ladd => jLL c (fun a b => a + b)
  | .lsub => jLL c (fun a b => a - b)
  | .lmul => jLL c (fun a b => a * b)
  | .ldiv => jLM c (fun a b => a / b)
  | .lrem => jLM c (fun a b => a - a / b * b)
  | .lneg => (match c.2.2.1 with | .long a :: S => some (c.1 + 1, c.2.1, .long (-a) :: S, c.2.2.2) | _ => none)
  | .lcmp => (match c.2.2.1 with | .long b :: .long a :: S => some (c.1 + 1, c.2.1, .int (lg_cmp a b) :: S, c.2.2.2) | _ => none)
  | .i2l => (match c.2.2.1 with | .int a :: S => some (c.1 + 1, c.2.1, .long a.toInt64 :: S, c.2.2.2) | _ => none)
  | .l2i => (match c.2.2.1 with | .long a :: S => some (c.1 + 1, c.2.1, .int a.toInt32 :: S, c.2.2.2) | _ => none)
  | .i2b => (match c.2.2.1 with | .int a :: S => some (c.1 + 1, c.2.1, .int a.toInt8.toInt32 :: S, c.2.2.2) | _ => none)
  | .dup => (match c.2.2.1 with | v :: S => if v.category = 1 then some (c.1 + 1, c.2.1, v :: v :: S, c.2.2.2) else none | _ => none)
  | .dup2 => (match c.2.2.1 with | v :: w :: S => if v.category = 1 ∧ w.category = 1 then some (c.1 + 1, c.2.1, v :: w :: v :: w :: S, c.2.2.2) else none | _ => none)
  | .pop => (match c.2.2.1 with | v :: S => if v.category = 1 then some (c.1 + 1, c.2.1, S, c.2.2.2) else none | _ => none)
  | .ifCond k off => (match k with
    | .eq => jc1 c off (fun a => decide (a = 0))
    | .ne => jc1 c off (fun a => !decide (a = 0))
    | .lt => jc1 c off (fun a => decide (a < 0))
    | .ge => jc1 c off (fun a => decide (0 ≤ a))
    | .gt => jc1 c off (fun a => decide (0 < a))
    | .le => jc1 c off (fun a => decide (a ≤ 0)))
  | .if_icmp k off => (match k with
    | .eq => jc2 c off (fun a b => decide (a = b))
    | .ne => jc2 c off (fun a b => !decide (a = b))
    | .lt => jc2 c off (fun a b => decide (a < b))
    | .ge => jc2 c off (fun a b => decide (b ≤ a))
    | .gt => jc2 c off (fun a b => decide (b < a))
    | .le => jc2 c off (fun a b => decide (a ≤ b)))
  | .goto off => jgo c c.2.2.1 true off
  | .ifnull off => (match c.2.2.1 with | .null :: S => jgo c S true off | .ref _ :: S => some (c.1 + 3, c.2.1, S, c.2.2.2) | _ => none)
  | .ifnonnull off => (match c.2.2.1 with | .ref _ :: S => jgo c S true off | .null :: S => some (c.1 + 3, c.2.1, S, c.2.2.2) | _ => none)
  | .tableswitch d lo hi offs => (match c.2.2.1 with
    | .int x :: S => if x.toInt < lo ∨ hi < x.toInt then jgo c S true d else (match offs[(x.toInt - lo).toNat]? with | some off => jgo c S true off | none => none)
    | _ => none)
  | .getfield i => (match T.2.2.2.1 E.2.2.2.2.2.1 i with
    | some f => (match c.2.2.1 with
      | .ref a :: S => (match jget T.1 c.2.2.2 a f.1 f.2.1 with | some v => some (c.1 + 3, c.2.1, v :: S, c.2.2.2) | none => none)
      | _ => none)
    | none => none)
  | .putfield i => (match T.2.2.2.1 E.2.2.2.2.2.1 i with
    | some f => (match c.2.2.1 with
      | v :: .ref a :: S => (match jput T.1 c.2.2.2 a f.1 f.2.1 v with | some M => some (c.1 + 3, c.2.1, S, M) | none => none)
      | _ => none)
    | none => none)
  | .iaload => (match c.2.2.1 with
    | .int i :: .ref a :: S => (match jix T.1 a i with | some (t, k, _) => if t = 0 then some (c.1 + 1, c.2.1, .int (c.2.2.2.1 a k) :: S, c.2.2.2) else none | none => none)
    | _ => none)
  | .baload => (match c.2.2.1 with
    | .int i :: .ref a :: S => (match jix T.1 a i with | some (t, k, _) => if t = 1 ∨ t = 2 then some (c.1 + 1, c.2.1, .int (c.2.2.2.1 a k) :: S, c.2.2.2) else none | none => none)
    | _ => none)
  | .laload => (match c.2.2.1 with
    | .int i :: .ref a :: S => (match jix T.1 a i with | some (t, k, _) => if t = 3 then some (c.1 + 1, c.2.1, .long (c.2.2.2.2 a k) :: S, c.2.2.2) else none | none => none)
    | _ => none)
  | .aaload => (match c.2.2.1 with
    | .int i :: .ref a :: S => (match jix T.1 a i with | some (t, k, rs) => if 4 ≤ t ∧ t < 8 then (match rs[k]? with | some r => some (c.1 + 1, c.2.1, .ref r :: S, c.2.2.2) | none => none) else none | none => none)
    | _ => none)
  | .iastore => (match c.2.2.1 with
    | .int x :: .int i :: .ref a :: S => (match jix T.1 a i with | some (t, k, _) => if t = 0 then some (c.1 + 1, c.2.1, S, jsi c.2.2.2 a k x) else none | none => none)
    | _ => none)
  | .bastore => (match c.2.2.1 with
    | .int x :: .int i :: .ref a :: S => (match jix T.1 a i with
      | some (t, k, _) => if t = 1 then some (c.1 + 1, c.2.1, S, jsi c.2.2.2 a k x.toInt8.toInt32) else if t = 2 then some (c.1 + 1, c.2.1, S, jsi c.2.2.2 a k (vp_nar .boolean x)) else none
      | none => none)
    | _ => none)
  | .lastore => (match c.2.2.1 with
    | .long x :: .int i :: .ref a :: S => (match jix T.1 a i with | some (t, k, _) => if t = 3 then some (c.1 + 1, c.2.1, S, jsl c.2.2.2 a k x) else none | none => none)
    | _ => none)
  | .invokestatic i => (match T.2.2.2.2.2.2.2 E.2.2.2.2.2.1 i with | some k => if 1 ≤ E.2.2.2.2.1 then jmath k c else none | none => none)
  | _ => none
/-- an end: a return, or the making of an exception -/
def jterm : Instr → Bool
  | .ireturn => true
  | .lreturn => true
  | .areturn => true
  | .return_ => true
  | .new _ => true
  | _ => false
/-- which method an instruction calls: its number, by a nest mate's word, static -/
def jcall (T : jT) (E : jE) : Instr → Option (Nat × Bool × Bool)
  | .invokevirtual i => (match T.2.2.2.2.1 E.2.2.2.2.2.1 i with | some z => some (z.1, z.2, false) | none => none)
  | .invokestatic i => (match T.2.2.2.2.2.2.2 E.2.2.2.2.2.1 i with | some _ => none | none => (match T.2.2.2.2.1 E.2.2.2.2.2.1 i with | some z => some (z.1, z.2, true) | none => none))
  | _ => none
/-- the arguments of a call of F out of E, and what stays on the stack -/
def jargs (T : jT) (E F : jE) (st : Bool) (S : List Value) : Option (List Value × List Value) :=
  let k := F.2.2.2.2.2.2.2 + (if st then 0 else 1)
  let as := (S.take k).reverse
  let rest := S.drop k
  if F.2.2.2.2.2.2.1 = st ∧ as.length = k ∧ F.2.2.2.2.1 < E.2.2.2.2.1 ∧ (rest.map (fun v => v.category)).sum ≤ 8 ∧ (lg_sl as).length ≤ F.2.2.1 then
    (if st then some (as, rest) else match as with
      | .ref b :: _ => (match T.1[b]? with
        | some (.inl (ci, _)) => if ci = F.2.2.2.2.2.1 then some (as, rest) else none
        | _ => none)
      | _ => none)
  else none
/-- what a method that stands at an end gives back -/
def jback (F : jE) (ins : Instr) (S : List Value) : Option (Option Value) := match ins with
  | .ireturn => (match S with
    | [.int v] => if F.2.2.2.1 = some .int ∨ (F.2.2.2.1 = some .boolean ∧ (v = 0 ∨ v = 1)) then some (some (.int v)) else none
    | _ => none)
  | .lreturn => (match S with
    | [.long v] => if F.2.2.2.1 = some .long then some (some (.long v)) else none
    | _ => none)
  | .areturn => (match F.2.2.2.1 with
    | some (.object _) => (match S with
      | [.ref a] => some (some (.ref a))
      | [.null] => some (some .null)
      | _ => none)
    | _ => none)
  | .return_ => (match S with
    | [] => if F.2.2.2.1 = none then some none else none
    | _ => none)
  | _ => none
/-- locals that are not kept at this place go -/
def jkp (o : Option (List Nat)) (L : List (Nat × Value)) : List (Nat × Value) := match o with
  | some ks => L.filter (fun q => ks.contains q.1)
  | none => L
def jdr (T : jT) (y : Nat) (c : jC) : jC := (c.1, jkp (T.2.2.2.2.2.2.1 y c.1) c.2.1, c.2.2)
/-- method y from c on until an end -/
def jrun (T : jT) : Nat → Nat → jC → Option jC
  | 0, _, _ => none
  | n + 1, y, c => match T.2.2.1 y, T.2.1 y c.1 with
    | some E, some ins => if jterm ins then some c else match jcall T E ins with
      | some z => (match T.2.2.1 z.1 with
        | some F => (match jargs T E F z.2.2 c.2.2.1 with
          | some ar => (match jrun T n z.1 (0, lv_args 0 ar.1, [], c.2.2.2) with
            | some o => (match T.2.1 z.1 o.1 with
              | some r => (match jback F r o.2.2.1 with
                | some v => jrun T n y (c.1 + 3, c.2.1, v.toList ++ ar.2, o.2.2.2)
                | none => none)
              | none => none)
            | none => none)
          | none => none)
        | none => none)
      | none => (match jone T E ins (jdr T y c) with
        | some d => jrun T n y d
        | none => none)
    | _, _ => none
