/-! A MACHINE THAT MAKES CELLS: for the constructors and the law's beginning -/
/-- a cell: an object (its kind, its fields), or an array of zeros or of references (its type's number, its length, to which cells) -/
abbrev kC : Type := (Nat × List Value) ⊕ (Nat × Nat × List (Option Nat))
/-- pc, locals, stack, cells in the order of their making, cells made, slots made -/
abbrev kF : Type := Nat × List (Nat × Value) × List Value × List kC × Nat × Nat
/-- name, bytes, locals, kind, height, cells and slots that it makes -/
abbrev kE : Type := MethodName × ByteArray × Nat × Nat × Nat × Nat × Nat
/-- a name of one of n cells, or of a thing outside (1000 and on) -/
def kok (n : Nat) : Value → Bool
  | .ref a => Nat.ble (a + 1) n || Nat.ble 1000 a
  | _ => true
def koko (n : Nat) : Option Nat → Bool
  | some a => Nat.ble (a + 1) n
  | none => true
def kcok (n : Nat) : kC → Bool
  | .inl o => o.2.all (kok n)
  | .inr r => r.2.2.all (koko n)
/-- all names are names of cells -/
def kall (f : kF) : Bool := Nat.ble (f.2.2.2.1.length + 6) 1000 && f.2.2.2.1.all (kcok f.2.2.2.1.length) && f.2.1.all (fun q => kok f.2.2.2.1.length q.2) && f.2.2.1.all (kok f.2.2.2.1.length)
def kcell (α : Nat → Nat) (cA : Nat → ClassId) : kC → va_E
  | .inl o => .inr (o.1, o.2.map (jv α))
  | .inr r => .inl (cA r.1, r.2.1, if r.1 = 3 then .inr (.inl (fun _ => 0)) else if r.1 < 3 then .inl (fun _ => 0) else .inr (.inr (.inr (.inr (fun k => (r.2.2[k]?).join.map α)))))
def kW (α : Nat → Nat) (cA : Nat → ClassId) (cs : List kC) : va_W := cs.mapIdx (fun i x => (α i, kcell α cA x))
theorem kW_at {α : Nat → Nat} {cA : Nat → ClassId} {cs : List kC} {a : Nat} {x : kC} (h : cs[a]? = some x) : (kW α cA cs)[a]? = some (α a, kcell α cA x) := by
  simp [kW, h]
theorem kW_set {α : Nat → Nat} {cA : Nat → ClassId} {cs : List kC} {a : Nat} {x y : kC} {e : va_E} (h : cs[a]? = some x) (he : e = kcell α cA y) : (kW α cA cs).set a (α a, e) = kW α cA (cs.set a y) := by
  apply List.ext_getElem?
  intro i
  have hl : a < cs.length := (List.getElem?_eq_some_iff.mp h).1
  rw [List.getElem?_set]
  simp only [kW, List.getElem?_mapIdx, List.getElem?_set, List.length_mapIdx]
  by_cases hi : a = i
  · subst hi
    simp [hl, he]
  · simp [hi]
/-- a name more -/
def kup (α : Nat → Nat) (n q : Nat) : Nat → Nat := fun i => if i = n then q else α i
theorem kup_lt {α : Nat → Nat} {n q i : Nat} (hn : n < 1000) (h : i < n ∨ 1000 ≤ i) : kup α n q i = α i := if_neg (by omega)
theorem kup_at (α : Nat → Nat) (n q : Nat) : kup α n q n = q := if_pos rfl
theorem kv_ext {α β : Nat → Nat} {n : Nat} (h : ∀ i, (i < n ∨ 1000 ≤ i) → β i = α i) {v : Value} (hv : kok n v = true) : jv β v = jv α v := by
  cases v <;> first | rfl | skip
  next a => exact congrArg Value.ref (h a (by rcases (Bool.or_eq_true _ _).mp hv with q | q; exact Or.inl (Nat.le_of_ble_eq_true q); exact Or.inr (Nat.le_of_ble_eq_true q)))
theorem kS_ext {α β : Nat → Nat} {n : Nat} (h : ∀ i, (i < n ∨ 1000 ≤ i) → β i = α i) {S : List Value} (hv : S.all (kok n) = true) : S.map (jv β) = S.map (jv α) := List.map_congr_left (fun v q => kv_ext h (List.all_eq_true.mp hv v q))
theorem kL_ext {α β : Nat → Nat} {n : Nat} (h : ∀ i, (i < n ∨ 1000 ≤ i) → β i = α i) {L : List (Nat × Value)} (hv : L.all (fun q => kok n q.2) = true) : jL β L = jL α L := List.map_congr_left (fun v q => by rw [kv_ext h (List.all_eq_true.mp hv v q)])
theorem kcell_ext {α β : Nat → Nat} {n : Nat} (h : ∀ i, (i < n ∨ 1000 ≤ i) → β i = α i) {cA : Nat → ClassId} {x : kC} (hx : kcok n x = true) : kcell β cA x = kcell α cA x := by
  cases x with
  | inl o => simp only [kcell, kS_ext h hx]
  | inr r =>
    have e : (fun k : Nat => (r.2.2[k]?).join.map β) = (fun k : Nat => (r.2.2[k]?).join.map α) := by
      funext k
      cases hk : r.2.2[k]? with
      | none => rfl
      | some o =>
        cases o with
        | none => rfl
        | some a =>
          have := List.all_eq_true.mp hx _ (List.mem_of_getElem? hk)
          exact congrArg some (h a (Or.inl (Nat.le_of_ble_eq_true this)))
    simp only [kcell, e]
theorem kW_ext {α β : Nat → Nat} {cA : Nat → ClassId} {cs : List kC} (h : ∀ i, (i < cs.length ∨ 1000 ≤ i) → β i = α i) (hx : cs.all (kcok cs.length) = true) : kW β cA cs = kW α cA cs := by
  apply List.ext_getElem?
  intro i
  simp only [kW, List.getElem?_mapIdx]
  cases hi : cs[i]? with
  | none => rfl
  | some x =>
    have hl := (List.getElem?_eq_some_iff.mp hi).1
    simp only [Option.map_some, h i (Or.inl hl), kcell_ext h (List.all_eq_true.mp hx x (List.mem_of_getElem? hi))]
theorem kW_app {α : Nat → Nat} {cA : Nat → ClassId} {cs : List kC} {x : kC} : kW α cA (cs ++ [x]) = kW α cA cs ++ [(α cs.length, kcell α cA x)] := by
  simp [kW, List.mapIdx_append]
theorem kW_push {α : Nat → Nat} {cA : Nat → ClassId} {cs : List kC} {x : kC} {q : Nat} (hn : cs.length < 1000) (hx : cs.all (kcok cs.length) = true) (hy : kcok cs.length x = true) : kW (kup α cs.length q) cA (cs ++ [x]) = kW α cA cs ++ [(q, kcell α cA x)] := by
  rw [kW_app, kup_at, kW_ext (fun i hi => kup_lt hn hi) hx, kcell_ext (fun i hi => kup_lt hn hi) hy]
/-! tables -/
def kFi (kd i : Nat) : Option Nat := match kd with
  | 0 => jal i [(11, 0), (16, 1), (20, 2), (23, 3), (26, 4)]
  | 1 => jal i [(7, 1)]
  | 2 => jal i [(9, 0), (15, 1)]
  | 3 => jal i [(9, 0)]
  | 4 => jal i [(9, 0), (15, 1)]
  | 5 => jal i [(9, 1), (15, 4), (18, 5), (22, 6), (25, 7)]
  | 6 => jal i [(9, 0)]
  | 7 => jal i [(10, 0), (18, 1), (24, 2), (33, 3), (40, 4), (47, 5), (51, 6), (54, 7), (58, 8), (61, 9), (68, 10), (72, 11), (75, 12), (79, 14)]
  | 8 => jal i [(7, 1), (13, 5), (17, 6), (21, 7), (24, 8), (27, 9), (30, 10), (33, 11), (36, 12), (40, 13), (43, 14), (46, 15), (49, 16), (52, 17), (55, 18), (58, 19), (61, 20), (64, 21), (67, 22), (70, 23), (73, 24), (76, 25), (79, 26), (82, 28), (85, 29), (88, 32), (91, 33), (94, 34), (97, 35)]
  | _ => none
def kNw (kd i : Nat) : Option Nat := match kd with
  | 7 => jal i [(7, 6), (16, 5), (22, 3), (30, 4), (37, 0), (44, 2), (65, 1)]
  | 12 => jal i [(8, 7), (45, 8)]
  | _ => none
def kAr (kd i : Nat) : Option Nat := match kd with
  | 7 => jal i [(16, 4), (22, 5), (65, 6)]
  | _ => none
def kCl (kd i : Nat) : Option (Nat × Bool) := match kd with
  | 7 => jal i [(9, (6, true)), (28, (5, true)), (29, (3, true)), (32, (4, true)), (39, (0, true)), (46, (2, true)), (67, (1, true))]
  | 12 => jal i [(44, (7, false)), (47, (8, false))]
  | _ => none
def kOb (kd i : Nat) : Bool := match kd with
  | 1 => Nat.beq i 1
  | 7 => Nat.beq i 1
  | 8 => Nat.beq i 1
  | 12 => false
  | _ => Nat.beq i 3
def kMe (y : Nat) : Option kE := jal y [(0, (yX0_init, cX0_init, 1, 0, 0, 8, 44)), (1, (yX1_init, cX1_init, 1, 1, 0, 0, 0)), (2, (yX2_init, cX2_init, 1, 2, 0, 1, 9)), (3, (yX3_init, cX3_init, 1, 3, 0, 1, 5)), (4, (yX4_init, cX4_init, 1, 4, 0, 2, 63)), (5, (yX5_init, cX5_init, 1, 5, 0, 3, 12)), (6, (yX6_init, cX6_init, 1, 6, 0, 1, 100)), (7, (yX7_init, cX7_init, 2, 7, 1, 66, 450)), (8, (yX8_init, cX8_init, 1, 8, 0, 29, 501))]
def kLw : kE := (⟨RL, "law", "([I)Z"⟩, cL_law, 8, 12, 2, 630268, 7205301)
/-- a class's fields as they are made -/
def kDf (q : vw_C) : List Value := (List.range q.2.2).map (fun k => match parseFieldDescriptor (q.2.1 k).2.2.1 with | some ty => defaultValue ty | none => .null)
def kfit : FieldType → Value → Bool
  | .int, .int _ => true
  | .long, .long _ => true
  | .object _, .ref _ => true
  | .array _, .ref _ => true
  | _, _ => false
def kat : ArrayType → Option Nat
  | .int => some 0
  | .byte => some 1
  | .boolean => some 2
  | .long => some 3
  | _ => none
def kone (E : kE) (ins : Instr) (f : kF) : Option kF := match ins with
  | .aload_n i => (match jlk i f.2.1 with | some (.ref a) => some (f.1 + 1, f.2.1, .ref a :: f.2.2.1, f.2.2.2) | _ => none)
  | .iload_n i => (match jlk i f.2.1 with | some (.int a) => some (f.1 + 1, f.2.1, .int a :: f.2.2.1, f.2.2.2) | _ => none)
  | .istore_n i => (match f.2.2.1 with | .int x :: S => if (i : Nat) < E.2.2.1 then some (f.1 + 1, jins i (.int x) (jf1 i f.2.1), S, f.2.2.2) else none | _ => none)
  | .astore_n i => (match f.2.2.1 with | .ref x :: S => if (i : Nat) < E.2.2.1 then some (f.1 + 1, jins i (.ref x) (jf1 i f.2.1), S, f.2.2.2) else none | _ => none)
  | .iconst k => some (f.1 + 1, f.2.1, .int (Int32.ofInt k) :: f.2.2.1, f.2.2.2)
  | .bipush k => some (f.1 + 2, f.2.1, .int (Int8.ofInt k).toInt32 :: f.2.2.1, f.2.2.2)
  | .lconst k => some (f.1 + 1, f.2.1, .long (Int64.ofNat (k : Nat)) :: f.2.2.1, f.2.2.2)
  | .dup => (match f.2.2.1 with | .ref a :: S => some (f.1 + 1, f.2.1, .ref a :: .ref a :: S, f.2.2.2) | _ => none)
  | .iinc i k => (match jlk i f.2.1 with | some (.int x) => if i < E.2.2.1 then some (f.1 + 3, jins i (.int (x + Int32.ofInt k)) (jf1 i f.2.1), f.2.2.1, f.2.2.2) else none | _ => none)
  | .goto off => (match jtg f.1 off with | some t => some (t, f.2.1, f.2.2.1, f.2.2.2) | none => none)
  | .if_icmp co off => (match co with
    | .ge => (match f.2.2.1, jtg f.1 off with | .int b :: .int a :: S, some t => some (if b ≤ a then t else f.1 + 3, f.2.1, S, f.2.2.2) | _, _ => none)
    | _ => none)
  | .getfield i => (match kFi E.2.2.2.1 i, f.2.2.1 with
    | some k, .ref a :: S => (match f.2.2.2.1[a]? with
      | some (.inl (ci, fs)) => if ci = E.2.2.2.1 then (match fs[k]? with | some v => some (f.1 + 3, f.2.1, v :: S, f.2.2.2) | none => none) else none
      | _ => none)
    | _, _ => none)
  | .putfield i => (match kFi E.2.2.2.1 i, f.2.2.1 with
    | some k, v :: .ref a :: S => (match f.2.2.2.1[a]?, vwCl[E.2.2.2.1]? with
      | some (.inl (ci, fs)), some q => if ci = E.2.2.2.1 ∧ k < fs.length ∧ k < q.2.2 then (match parseFieldDescriptor (q.2.1 k).2.2.1 with
        | some ty => if kfit ty v = true then some (f.1 + 3, f.2.1, S, f.2.2.2.1.set a (.inl (ci, fs.set k v)), f.2.2.2.2) else none
        | none => none) else none
      | _, _ => none)
    | _, _ => none)
  | .newarray at' => (match kat at', f.2.2.1 with
    | some t, .int x :: S => if kall f = true ∧ ¬ x < 0 ∧ x.toNatClampNeg ≤ 200 ∧ f.2.2.2.2.1 + 1 ≤ E.2.2.2.2.2.1 ∧ f.2.2.2.2.2 + x.toNatClampNeg ≤ E.2.2.2.2.2.2 then some (f.1 + 2, f.2.1, .ref f.2.2.2.1.length :: S, f.2.2.2.1 ++ [.inr (t, x.toNatClampNeg, [])], f.2.2.2.2.1 + 1, f.2.2.2.2.2 + x.toNatClampNeg) else none
    | _, _ => none)
  | .anewarray i => (match kAr E.2.2.2.1 i, f.2.2.1 with
    | some t, .int x :: S => if kall f = true ∧ ¬ x < 0 ∧ x.toNatClampNeg ≤ 200 ∧ f.2.2.2.2.1 + 1 ≤ E.2.2.2.2.2.1 ∧ f.2.2.2.2.2 + x.toNatClampNeg ≤ E.2.2.2.2.2.2 then some (f.1 + 3, f.2.1, .ref f.2.2.2.1.length :: S, f.2.2.2.1 ++ [.inr (t, x.toNatClampNeg, List.replicate x.toNatClampNeg none)], f.2.2.2.2.1 + 1, f.2.2.2.2.2 + x.toNatClampNeg) else none
    | _, _ => none)
  | .multianewarray i d => (match f.2.2.1 with
    | .int k :: .int n :: S => if E.2.2.2.1 = 0 ∧ i = 9 ∧ d = 2 ∧ k = 4 ∧ n = 4 ∧ kall f = true ∧ f.2.2.2.2.1 + 5 ≤ E.2.2.2.2.2.1 ∧ f.2.2.2.2.2 + 20 ≤ E.2.2.2.2.2.2 then some (f.1 + 4, f.2.1, .ref f.2.2.2.1.length :: S, f.2.2.2.1 ++ [.inr (7, 4, [some (f.2.2.2.1.length + 1), some (f.2.2.2.1.length + 2), some (f.2.2.2.1.length + 3), some (f.2.2.2.1.length + 4)]), .inr (3, 4, []), .inr (3, 4, []), .inr (3, 4, []), .inr (3, 4, [])], f.2.2.2.2.1 + 5, f.2.2.2.2.2 + 20) else none
    | _ => none)
  | .aastore => (match f.2.2.1 with
    | .ref v :: .int i :: .ref a :: S => (match f.2.2.2.1[a]?, f.2.2.2.1[v]? with
      | some (.inr (t, n, rs)), some (.inl (ci, vs)) => (match vwCl[ci]? with
        | some q => if 4 ≤ t ∧ t < 8 ∧ jty t = .object q.1 ∧ ¬ i < 0 ∧ i.toNatClampNeg < n ∧ i.toNatClampNeg < rs.length then some (f.1 + 1, f.2.1, S, f.2.2.2.1.set a (.inr (t, n, rs.set i.toNatClampNeg (some v))), f.2.2.2.2) else none
        | none => none)
      | _, _ => none)
    | _ => none)
  | .new i => (match kNw E.2.2.2.1 i with
    | some ci => (match vwCl[ci]? with
      | some q => if kall f = true ∧ f.2.2.2.2.1 + 1 ≤ E.2.2.2.2.2.1 ∧ f.2.2.2.2.2 + q.2.2 ≤ E.2.2.2.2.2.2 then some (f.1 + 3, f.2.1, .ref f.2.2.2.1.length :: f.2.2.1, f.2.2.2.1 ++ [.inl (ci, kDf q)], f.2.2.2.2.1 + 1, f.2.2.2.2.2 + q.2.2) else none
      | none => none)
    | none => none)
  | .invokespecial i => (match f.2.2.1 with
    | .ref _ :: S => if kOb E.2.2.2.1 i = true ∧ (S.map (fun v => v.category)).sum ≤ 0 then some (f.1 + 3, f.2.1, S, f.2.2.2) else none
    | _ => none)
  | _ => none
def kstop (E : kE) (ins : Instr) (f : kF) : Bool := match ins with
  | .return_ => true
  | _ => Nat.beq E.2.2.2.1 12 && Nat.beq f.1 20
def kcal (E : kE) : Instr → Option (Nat × Bool)
  | .invokespecial i => kCl E.2.2.2.1 i
  | _ => none
def klen : Instr → Nat
  | .bipush _ => 2
  | .iinc _ _ => 3
  | .goto _ => 3
  | .if_icmp _ _ => 3
  | .getfield _ => 3
  | .putfield _ => 3
  | .newarray _ => 2
  | .anewarray _ => 3
  | .multianewarray _ _ => 4
  | .new _ => 3
  | .invokespecial _ => 3
  | _ => 1
def krun : Nat → kE → kF → Option kF
  | 0, _, _ => none
  | n + 1, E, f => match decode E.2.1 f.1 with
    | .ok (ins, ln) => if Nat.beq ln (klen ins) = false then none else if kstop E ins f then some f else match kcal E ins with
      | some z => (match kMe z.1, f.2.2.1 with
        | some F, .ref a :: S => if kall f = true ∧ F.2.2.2.2.1 < E.2.2.2.2.1 ∧ (S.map (fun v => v.category)).sum ≤ 8 ∧ f.2.2.2.2.1 + F.2.2.2.2.2.1 ≤ E.2.2.2.2.2.1 ∧ f.2.2.2.2.2 + F.2.2.2.2.2.2 ≤ E.2.2.2.2.2.2 then (match krun n F (0, [(0, .ref a)], [], f.2.2.2.1, 0, 0) with
          | some o => (match o.2.2.1 with
            | [] => if o.2.2.2.2.1 ≤ F.2.2.2.2.2.1 ∧ o.2.2.2.2.2 ≤ F.2.2.2.2.2.2 ∧ f.2.2.2.1.length ≤ o.2.2.2.1.length then krun n E (f.1 + 3, f.2.1, S, o.2.2.2.1, f.2.2.2.2.1 + F.2.2.2.2.2.1, f.2.2.2.2.2 + F.2.2.2.2.2.2) else none
            | _ => none)
          | none => none) else none
        | _, _ => none)
      | none => (match kone E ins f with
        | some g => krun n E g
        | none => none)
    | .error _ => none
