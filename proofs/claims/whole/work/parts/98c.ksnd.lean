/-! THE MAKING MACHINE IS SOUND -/
def kcls (kd : Nat) : String := match vwCl[kd]? with
  | some q => q.1
  | none => RL
def kOv : List FieldType := [.object "MemoryRows$Rule", .object "MemoryRows$Likenesses", .object "MemoryRows$Fraction", .array .long]
def kAO (U : State) : Prop := ∀ ty ∈ kOv, (Cond.arrayOver ty).before #[] U = true
theorem kAO.moved {u U : State} (hvm : u.vm.Alike U.vm) (h : kAO u) : kAO U := by
  intro ty hty
  have h1 : (Cond.arrayOver ty).before #[] (u.setVm U.vm) = true := by rw [Cond.arrayOver_setVmC hvm]; exact h ty hty
  exact h1
/-- words of the tables -/
theorem kNw_ck : ([(7, [(7, 6), (16, 5), (22, 3), (30, 4), (37, 0), (44, 2), (65, 1)]), (12, [(8, 7), (45, 8)])] : List (Nat × List (Nat × Nat))).all (fun e => e.2.all fun q => match vwCl[q.2]? with
  | some v => (decide (Cond.classLink (kcls e.1) q.1 v.1 ∈ lw_tbl) && goodWord (Cond.classLink (kcls e.1) q.1 v.1)) && (decide (Cond.instantiable v.1 v.2.2 ∈ lw_tbl) && goodWord (Cond.instantiable v.1 v.2.2)) && (decide (Cond.initialized v.1 ∈ lw_tbl) && goodWord (Cond.initialized v.1))
  | none => false) = true := by decide +kernel
theorem kNw_ok {kd i ci : Nat} (h : kNw kd i = some ci) {v : vw_C} (hv : vwCl[ci]? = some v) : Cond.classLink (kcls kd) i v.1 ∈ jGW ∧ Cond.instantiable v.1 v.2.2 ∈ jGW ∧ Cond.initialized v.1 ∈ jGW := by
  have key : ∀ e ∈ ([(7, [(7, 6), (16, 5), (22, 3), (30, 4), (37, 0), (44, 2), (65, 1)]), (12, [(8, 7), (45, 8)])] : List (Nat × List (Nat × Nat))), (i, ci) ∈ e.2 → Cond.classLink (kcls e.1) i v.1 ∈ jGW ∧ Cond.instantiable v.1 v.2.2 ∈ jGW ∧ Cond.initialized v.1 ∈ jGW := by
    intro e he hq
    have h3 := List.all_eq_true.mp (List.all_eq_true.mp kNw_ck e he) _ hq
    dsimp only at h3
    rw [hv] at h3
    dsimp only at h3
    rw [Bool.and_eq_true, Bool.and_eq_true] at h3
    exact ⟨jGW_of h3.1.1, jGW_of h3.1.2, jGW_of h3.2⟩
  unfold kNw at h
  split at h
  · exact key _ List.mem_cons_self (jal_mem h)
  · exact key _ (List.mem_cons_of_mem _ List.mem_cons_self) (jal_mem h)
  · cases h
theorem kAr_ok {kd i t : Nat} (h : kAr kd i = some t) : ∃ C : String, jty t = .object C ∧ t < 8 ∧ 4 ≤ t ∧ Cond.classLink (kcls kd) i C ∈ jGW ∧ FieldType.object C ∈ kOv := by
  unfold kAr at h
  split at h
  · have hm := jal_mem h
    simp only [List.mem_cons, Prod.mk.injEq, List.not_mem_nil, or_false] at hm
    rcases hm with ⟨rfl, rfl⟩ | ⟨rfl, rfl⟩ | ⟨rfl, rfl⟩
    · exact ⟨_, rfl, by decide, by decide, jGW_of (by decide +kernel), by decide⟩
    · exact ⟨_, rfl, by decide, by decide, jGW_of (by decide +kernel), by decide⟩
    · exact ⟨_, rfl, by decide, by decide, jGW_of (by decide +kernel), by decide⟩
  · cases h
def kFs (kd : Nat) : List (Nat × Nat) := match kd with
  | 0 => [(11, 0), (16, 1), (20, 2), (23, 3), (26, 4)]
  | 1 => [(7, 1)]
  | 2 => [(9, 0), (15, 1)]
  | 3 => [(9, 0)]
  | 4 => [(9, 0), (15, 1)]
  | 5 => [(9, 1), (15, 4), (18, 5), (22, 6), (25, 7)]
  | 6 => [(9, 0)]
  | 7 => [(10, 0), (18, 1), (24, 2), (33, 3), (40, 4), (47, 5), (51, 6), (54, 7), (58, 8), (61, 9), (68, 10), (72, 11), (75, 12), (79, 14)]
  | 8 => [(7, 1), (13, 5), (17, 6), (21, 7), (24, 8), (27, 9), (30, 10), (33, 11), (36, 12), (40, 13), (43, 14), (46, 15), (49, 16), (52, 17), (55, 18), (58, 19), (61, 20), (64, 21), (67, 22), (70, 23), (73, 24), (76, 25), (79, 26), (82, 28), (85, 29), (88, 32), (91, 33), (94, 34), (97, 35)]
  | _ => []
theorem kFi_mem {kd i k : Nat} (h : kFi kd i = some k) : kd < 9 ∧ (i, k) ∈ kFs kd := by
  unfold kFi at h
  split at h <;> first | exact ⟨by decide, jal_mem h⟩ | cases h
theorem kFs_ck : (List.range 9).all (fun kd => match vwCl[kd]? with
  | some q => (kFs kd).all fun e => decide (e.2 < q.2.2) && decide ((q.2.1 e.2).1 = q.1) && (decide (Cond.fieldLink q.1 e.1 (q.2.1 e.2).1 (q.2.1 e.2).2.1 (q.2.1 e.2).2.2.1 ∈ lw_tbl) && goodWord (Cond.fieldLink q.1 e.1 (q.2.1 e.2).1 (q.2.1 e.2).2.1 (q.2.1 e.2).2.2.1))
  | none => false) = true := by decide +kernel
theorem kFi_ok {kd i k : Nat} (h : kFi kd i = some k) {q : vw_C} (hq : vwCl[kd]? = some q) : k < q.2.2 ∧ (q.2.1 k).1 = q.1 ∧ Cond.fieldLink q.1 i (q.2.1 k).1 (q.2.1 k).2.1 (q.2.1 k).2.2.1 ∈ jGW := by
  obtain ⟨h1, h2⟩ := kFi_mem h
  have h3 := List.all_eq_true.mp kFs_ck kd (List.mem_range.mpr h1)
  rw [hq] at h3
  have h4 := List.all_eq_true.mp h3 _ h2
  dsimp only at h4
  rw [Bool.and_eq_true, Bool.and_eq_true, decide_eq_true_iff, decide_eq_true_iff] at h4
  exact ⟨h4.1.1, h4.1.2, jGW_of h4.2⟩
theorem kOb_ck : ([(0, 3), (1, 1), (2, 3), (3, 3), (4, 3), (5, 3), (6, 3), (7, 1), (8, 1)] : List (Nat × Nat)).all (fun e => decide (Cond.methodLink (kcls e.1) e.2 Lib.objectInit ∈ lw_tbl) && goodWord (Cond.methodLink (kcls e.1) e.2 Lib.objectInit)) = true := by decide +kernel
theorem kOb_ok {kd i : Nat} (hk : kd < 9) (h : kOb kd i = true) : Cond.methodLink (kcls kd) i Lib.objectInit ∈ jGW := by
  have key : (kd, i) ∈ ([(0, 3), (1, 1), (2, 3), (3, 3), (4, 3), (5, 3), (6, 3), (7, 1), (8, 1)] : List (Nat × Nat)) := by
    match kd, hk, h with
    | 0, _, h => rw [Nat.eq_of_beq_eq_true h]; decide
    | 1, _, h => rw [Nat.eq_of_beq_eq_true h]; decide
    | 2, _, h => rw [Nat.eq_of_beq_eq_true h]; decide
    | 3, _, h => rw [Nat.eq_of_beq_eq_true h]; decide
    | 4, _, h => rw [Nat.eq_of_beq_eq_true h]; decide
    | 5, _, h => rw [Nat.eq_of_beq_eq_true h]; decide
    | 6, _, h => rw [Nat.eq_of_beq_eq_true h]; decide
    | 7, _, h => rw [Nat.eq_of_beq_eq_true h]; decide
    | 8, _, h => rw [Nat.eq_of_beq_eq_true h]; decide
    | n + 9, h9, _ => exact absurd h9 (by omega)
  exact jGW_of (List.all_eq_true.mp kOb_ck _ key)
theorem kob1 : Cond.instanceMethod Lib.objectInit ∈ jGW := jGW_of (by decide +kernel)
theorem kob2 : Cond.code Lib.objectInit ⟨#[0xb1]⟩ 1 none ∈ jGW := jGW_of (by decide +kernel)
theorem kdv (α : Nat → Nat) (ty : FieldType) : jv α (defaultValue ty) = defaultValue ty := by cases ty <;> rfl
theorem kdk (n : Nat) (ty : FieldType) : kok n (defaultValue ty) = true := by cases ty <;> rfl
theorem kDf_map (α : Nat → Nat) (q : vw_C) : (kDf q).map (jv α) = kDf q := by
  unfold kDf
  rw [List.map_map]
  apply List.map_congr_left
  intro k _
  simp only [Function.comp]
  split
  · exact kdv α _
  · rfl
theorem kDf_ok (n ci : Nat) (q : vw_C) : kcok n (.inl (ci, kDf q)) = true := by
  show (kDf q).all (kok n) = true
  refine List.all_eq_true.mpr fun v hv => ?_
  unfold kDf at hv
  obtain ⟨k, _, rfl⟩ := List.mem_map.mp hv
  split
  · exact kdk n _
  · rfl
theorem kfit_ok {α : Nat → Nat} {ty : FieldType} {v : Value} (h : kfit ty v = true) : narrow ty (jv α v) = jv α v ∧ fits ty (jv α v) = true := by
  cases ty <;> cases v <;> first | (cases h; done) | exact ⟨rfl, rfl⟩
/-- what holds of a frame -/
def kX (E : kE) (cA : Nat → ClassId) (D : va_G) (A : Nat → Prop) (p : Program) (R : Room) (s : State) (m : MethodId) (args : Array Value) (meth : Method) (c : Code) : Prop :=
  p.tables.exec = Jvm.exec ∧ c.code = E.2.1 ∧ c.maxLocals = E.2.2.1 ∧ s.vm.findClass (kcls E.2.2.2.1) = some m.cls ∧ (∀ w ∈ jGW, w.before args s = true) ∧ (∀ w ∈ jNW, va_Nw w s) ∧ va_K D vwCl (jtys cA) s ∧ kAO s ∧ (∀ q, s.heap.size ≤ q → A q) ∧
  ((E.2.2.2.1 = 12 ∨ (E.2.2.2.1 < 9 ∧ meth.name = "<init>")) ∧ E.2.2.2.2.1 + 1 ≤ R.frames ∧ 12 + 32 * E.2.2.2.2.1 ≤ R.locals ∧ E.2.2.2.2.2.1 ≤ R.cells ∧ E.2.2.2.2.2.2 ≤ R.slots)
/-- the goal at a configuration -/
def kG (α0 : Nat → Nat) (n0 : Nat) (cA : Nat → ClassId) (D : va_G) (A : Nat → Prop) (nL : Nat) (p : Program) (l : Launch) (e : Env) (R : Room) (s : State) (m : MethodId) (args : Array Value) (below : List Frame) (meth : Method) (c : Code) (Q : State → Prop) (f : kF) : Prop :=
  ∀ (α : Nat → Nat) (H : Heap) (locs : List Loc) (ls : Array Slot), (∀ i, (i < n0 ∨ 1000 ≤ i) → α i = α0 i) → n0 ≤ f.2.2.2.1.length → va_P D vwCl (kW α cA f.2.2.2.1) H → va_D A (kW α cA f.2.2.2.1) → va_S A s.heap H locs → lv_has ls nL (jL α f.2.1) → W p l e R s m args below meth c H locs f.2.2.2.2.1 f.2.2.2.2.2 Q (F0 m f.1 ls (f.2.2.1.map (jv α)))
section KSnd
variable {α0 : Nat → Nat} {n0 : Nat} {cA : Nat → ClassId} {D : va_G} {A : Nat → Prop} {p : Program} {l : Launch} {e : Env} {R : Room} {s : State} {m : MethodId} {args : Array Value} {below : List Frame} {meth : Method} {c : Code} {Q : State → Prop} {E : kE}
variable {pc : Nat} {L : List (Nat × Value)} {S : List Value} {cs : List kC} {nc ns : Nat} {g : kF}
theorem kall_spec {f : kF} (h : kall f = true) : f.2.2.2.1.length + 6 ≤ 1000 ∧ f.2.2.2.1.all (kcok f.2.2.2.1.length) = true ∧ f.2.1.all (fun q => kok f.2.2.2.1.length q.2) = true ∧ f.2.2.1.all (kok f.2.2.2.1.length) = true := by
  unfold kall at h
  rw [Bool.and_eq_true, Bool.and_eq_true, Bool.and_eq_true] at h
  exact ⟨Nat.le_of_ble_eq_true h.1.1.1, h.1.1.2, h.1.2, h.2⟩
/-- one cell comes -/
theorem kpush {α : Nat → Nat} {H1 : Heap} {locs : List Loc} {ls : Array Slot} {q nL pc' nc' ns' : Nat} {x : kC} {S' : List Value} (hall : kall (pc, L, S, cs, nc, ns) = true) (hS' : ∀ v ∈ S', v ∈ S) (hx : kcok cs.length x = true) (e1 : ∀ i, (i < n0 ∨ 1000 ≤ i) → α i = α0 i) (e2 : n0 ≤ cs.length)
    (hP : va_P D vwCl (kW α cA cs ++ [(q, kcell α cA x)]) H1) (hD : va_D A (kW α cA cs ++ [(q, kcell α cA x)])) (hS : va_S A s.heap H1 locs) (hl : lv_has ls nL (jL α L))
    (k : kG α0 n0 cA D A nL p l e R s m args below meth c Q (pc', L, .ref cs.length :: S', cs ++ [x], nc', ns')) : W p l e R s m args below meth c H1 locs nc' ns' Q (F0 m pc' ls (.ref q :: S'.map (jv α))) := by
  obtain ⟨a1, a2, a3, a4⟩ := kall_spec hall
  dsimp only at a1 a2 a3 a4
  have hn : cs.length < 1000 := by omega
  have a5 : S'.all (kok cs.length) = true := List.all_eq_true.mpr fun v hv => List.all_eq_true.mp a4 v (hS' v hv)
  have := k (kup α cs.length q) H1 locs ls (fun i hi => by rw [kup_lt hn (by rcases hi with hi | hi; exact Or.inl (by omega); exact Or.inr hi)]; exact e1 i hi) (by simp; omega) (by rw [kW_push hn a2 hx]; exact hP) (by rw [kW_push hn a2 hx]; exact hD) hS (by rw [kL_ext (fun i hi => kup_lt hn hi) a3]; exact hl)
  have e3 : (.ref cs.length :: S').map (jv (kup α cs.length q)) = .ref q :: S'.map (jv α) := by
    rw [List.map_cons, kS_ext (fun i hi => kup_lt hn hi) a5]
    show Value.ref (kup α cs.length q cs.length) :: _ = _
    rw [kup_at]
  dsimp only at this
  rw [e3] at this
  exact this
theorem kcA {t : Nat} {cA' : ClassId} (hK : va_K D vwCl (jtys cA) s) (ht : t < 8) (hK' : va_K D vwCl (jtys cA ++ [(cA', jty t)]) s) : cA' = cA t := by
  have h1 := (hK.2 t _ (jtys_at cA ht)).2
  have h2 := (hK'.2 8 (cA', jty t) (by rw [List.getElem?_append_right (by simp [jtys])]; simp [jtys])).2
  dsimp only at h1 h2
  match t, ht, h1, h2 with
  | 0, _, h1, h2 => exact Option.some.inj (h2.symm.trans h1)
  | 1, _, h1, h2 => exact Option.some.inj (h2.symm.trans h1)
  | 2, _, h1, h2 => exact Option.some.inj (h2.symm.trans h1)
  | 3, _, h1, h2 => exact Option.some.inj (h2.symm.trans h1)
  | 4, _, ⟨_, _, _, _, _, h1⟩, ⟨_, _, _, _, _, h2⟩ => exact Option.some.inj (h2.symm.trans h1)
  | 5, _, ⟨_, _, _, _, _, h1⟩, ⟨_, _, _, _, _, h2⟩ => exact Option.some.inj (h2.symm.trans h1)
  | 6, _, ⟨_, _, _, _, _, h1⟩, ⟨_, _, _, _, _, h2⟩ => exact Option.some.inj (h2.symm.trans h1)
  | 7, _, h1, h2 => exact Option.some.inj (h2.symm.trans h1)
  | n + 8, h, _, _ => exact absurd h (by omega)
end KSnd
