/-! one instruction -/
/-- what holds of a method's frame: the machine, the words, the tables -/
def jX (GW NW : List Cond) (cl : List vw_C) (tys : List (ClassId × FieldType)) (D : va_G) (E : jE) (p : Program) (s : State) (m : MethodId) (args : Array Value) (c : Code) : Prop :=
  p.tables.exec = Jvm.exec ∧ c.code = E.2.1 ∧ c.maxLocals = E.2.2.1 ∧ s.vm.findClass E.1.cls = some m.cls ∧ (∀ w ∈ GW, w.before args s = true) ∧ (∀ w ∈ NW, va_Nw w s) ∧ va_K D cl tys s
/-- what holds of heap and locals at a configuration -/
def jR (sh : List jS) (α : Nat → Nat) (cA : Nat → ClassId) (cl : List vw_C) (D : va_G) (A : Nat → Prop) (H0 : Heap) (nL : Nat) (f : jC) (H : Heap) (locs : List Loc) (ls : Array Slot) : Prop :=
  va_P D cl (jW sh α cA f.2.2.2) H ∧ va_S A H0 H locs ∧ lv_has ls nL (jL α f.2.1)
/-- the goal at a configuration -/
def jG (sh : List jS) (α : Nat → Nat) (cA : Nat → ClassId) (cl : List vw_C) (D : va_G) (A : Nat → Prop) (H0 : Heap) (nL : Nat) (p : Program) (l : Launch) (e : Env) (R : Room) (s : State) (m : MethodId) (args : Array Value) (below : List Frame) (meth : Method) (c : Code) (cells slots : Nat) (Q : State → Prop) (f : jC) : Prop :=
  ∀ (H : Heap) (locs : List Loc) (ls : Array Slot), jR sh α cA cl D A H0 nL f H locs ls → W p l e R s m args below meth c H locs cells slots Q (F0 m f.1 ls (f.2.2.1.map (jv α)))
/-- the types of arrays by their numbers -/
def jty : Nat → FieldType
  | 0 => .int
  | 1 => .byte
  | 2 => .boolean
  | 3 => .long
  | 4 => .object "MemoryRows$Rule"
  | 5 => .object "MemoryRows$Likenesses"
  | 6 => .object "MemoryRows$Fraction"
  | _ => .array .long
def jtys (cA : Nat → ClassId) : List (ClassId × FieldType) := (List.range 8).map (fun t => (cA t, jty t))
theorem jtys_at (cA : Nat → ClassId) {t : Nat} (h : t < 8) : (jtys cA)[t]? = some (cA t, jty t) := by
  simp [jtys, h]
theorem jty_ref {t : Nat} (h : 4 ≤ t) : (jty t).isReference = true := by
  match t, h with
  | 4, _ => rfl
  | 5, _ => rfl
  | 6, _ => rfl
  | (n + 7), _ => rfl
/-- a field's own words: its kind's class, its place, its type -/
def jFo (cl : List vw_C) (ci k tag : Nat) : Prop := ∃ (C : String) (T : u_T) (N : Nat), cl[ci]? = some (C, T, N) ∧ k < N ∧
  (tag = 0 → parseFieldDescriptor (T k).2.2.1 = some .int ∧ (T k).2.2.2 = false) ∧ (tag = 1 → parseFieldDescriptor (T k).2.2.1 = some .long ∧ (T k).2.2.2 = false) ∧ (tag = 3 → parseFieldDescriptor (T k).2.2.1 = some .boolean ∧ (T k).2.2.2 = false)
/-- a class of the worlds: its words among the good ones, its types, its names apart -/
def jCo (GW : List Cond) (q : vw_C) : Prop := (∀ w ∈ u_ws q.1 q.2.1 q.2.2, w ∈ GW) ∧ (∃ ty0 : Nat → FieldType, ∀ k, k < q.2.2 → parseFieldDescriptor (q.2.1 k).2.2.1 = some (ty0 k)) ∧ (∀ a, a < q.2.2 → ∀ b, b < q.2.2 → a ≠ b → (q.2.1 a).2.1 ≠ (q.2.1 b).2.1)
/-- an entry that names a field -/
def jFl (GW NW : List Cond) (cl : List vw_C) (own : String) (i : Nat) (f : Nat × Nat × Bool) : Prop := ∀ (C : String) (T : u_T) (N : Nat), cl[f.1]? = some (C, T, N) →
  (f.2.2 = false → Cond.fieldLink own i (T f.2.1).1 (T f.2.1).2.1 (T f.2.1).2.2.1 ∈ GW) ∧ (f.2.2 = true → ∃ host : String, Cond.fieldLinkNest own i (T f.2.1).1 (T f.2.1).2.1 (T f.2.1).2.2.1 host ∈ NW)
/-- an entry that names a constant -/
def jKo (GW : List Cond) (own : String) (i : Nat) (v : Value) : Prop := (∀ x, v = .int x → Cond.constant own i x ∈ GW) ∧ (∀ x, v = .long x → Cond.constantLong own i x ∈ GW)
section JOne
variable {sh : List jS} {α : Nat → Nat} {cA : Nat → ClassId} {cl : List vw_C} {D : va_G} {A : Nat → Prop} {H0 : Heap} {nL : Nat} {p : Program} {l : Launch} {e : Env} {R : Room} {s : State} {m : MethodId} {args : Array Value} {below : List Frame} {meth : Method} {c : Code} {cells slots : Nat} {Q : State → Prop}
variable {cc : ByteArray} {pc : Nat} {L : List (Nat × Value)} {S : List Value} {M : jM}
theorem ja_iinc {i : Nat} {n : Int} {x : Int32} (hx : p.tables.exec = Jvm.exec) (hb : c.code = cc) (hk : jlk i L = some (.int x)) (hn : i < nL) (hd : decode cc pc = .ok (.iinc i n, 3))
    (k : jG sh α cA cl D A H0 nL p l e R s m args below meth c cells slots Q (pc + 3, jins i (.int (x + Int32.ofInt n)) (jf1 i L), S, M)) : jG sh α cA cl D A H0 nL p l e R s m args below meth c cells slots Q (pc, L, S, M) := by
  intro H locs ls hr
  obtain ⟨q, hq⟩ := jL_ix (α := α) hk
  exact lv_iinc hx hb hd hr.2.2 hq rfl hn (by rw [jf1_map]) (fun ls' h => k H locs ls' ⟨hr.1, hr.2.1, jins_has h⟩)
theorem ja_go {off : Int} {t : Nat} (ht : jtg pc off = some t) : (pc : Int) + off = (t : Int) := by
  unfold jtg at ht
  by_cases h : 0 ≤ (pc : Int) + off
  · rw [if_pos h] at ht
    cases ht
    omega
  · rw [if_neg h] at ht
    cases ht
/-- a branch: both its ends, of which one is meant -/
theorem ja_br {P : Prop} {b : Bool} {t : Nat} {st : List Value} (hb : b = true ↔ P) (row : ∀ {H : Heap} {locs : List Loc} {ls : Array Slot}, (P → W p l e R s m args below meth c H locs cells slots Q (F0 m t ls (S.map (jv α)))) → (¬ P → W p l e R s m args below meth c H locs cells slots Q (F0 m (pc + 3) ls (S.map (jv α)))) → W p l e R s m args below meth c H locs cells slots Q (F0 m pc ls st))
    {st' : List Value} (hst : st'.map (jv α) = st)
    (k : jG sh α cA cl D A H0 nL p l e R s m args below meth c cells slots Q (if b then t else pc + 3, L, S, M)) : jG sh α cA cl D A H0 nL p l e R s m args below meth c cells slots Q (pc, L, st', M) := by
  intro H locs ls hr
  show W p l e R s m args below meth c H locs cells slots Q (F0 m pc ls (st'.map (jv α)))
  rw [hst]
  refine row (fun h => ?_) (fun h => ?_)
  · rw [if_pos (hb.mpr h)] at k
    exact k H locs ls hr
  · rw [if_neg (fun q => h (hb.mp q))] at k
    exact k H locs ls hr
/-- an array of references is read -/
theorem ja_aald (hx : p.tables.exec = Jvm.exec) (hb : c.code = cc) {tys : List (ClassId × FieldType)} {ws : va_W} {H : Heap} {locs : List Loc} {ls : Array Slot} {rest : List Value} {a : Nat} (hK : va_K D cl tys s) (hP : va_P D cl ws H) (q0 t0 : Nat) {cI : ClassId} {ty : FieldType} {n : Nat} {f : Nat → Option Nat} (ha : ws[q0]? = some (a, .inl (cI, n, .inr (.inr (.inr (.inr f)))))) (ht : tys[t0]? = some (cI, ty)) (hty : ty.isReference = true) {i : Int32} (hin : vp_in i n) (hdg : decode cc pc = .ok (.aaload, 1))
    (kk : W p l e R s m args below meth c H locs cells slots Q (F0 m (pc + 1) ls (va_rf (f i.toNatClampNeg) :: rest))) : W p l e R s m args below meth c H locs cells slots Q (F0 m pc ls (.int i :: .ref a :: rest)) := by
  have hlt : i.toNatClampNeg < n := Nat.not_le.mp fun q => hin (Or.inr q)
  exact W.aald (v := va_rf (f i.toNatClampNeg)) (ty := ty) hx hb (hP q0 _ ha) ((hK.2 t0 _ ht).1 n (fun j => va_rf (f j))) hty (fun q => by cases q) (by show ¬ (i < 0 ∨ (arrV _ _ _).slots.size ≤ _); rw [arrV_size]; exact hin) (by show (arrV _ _ _).slots[_]? = _; rw [arrV_read _ _ hlt]) rfl rfl hdg kk
end JOne
