/-! THE PURE MACHINE IS SOUND: what jrun answers, the JVM does. -/
def jlen : Instr → Nat
  | .bipush _ => 2
  | .sipush _ => 3
  | .ldc _ => 2
  | .ldc_w _ => 3
  | .ldc2_w _ => 3
  | .iload _ => 2
  | .lload _ => 2
  | .aload _ => 2
  | .istore _ => 2
  | .lstore _ => 2
  | .astore _ => 2
  | .iinc _ _ => 3
  | .ifCond _ _ => 3
  | .if_icmp _ _ => 3
  | .goto _ => 3
  | .ifnull _ => 3
  | .ifnonnull _ => 3
  | .getfield _ => 3
  | .putfield _ => 3
  | .invokevirtual _ => 3
  | .invokestatic _ => 3
  | .new _ => 3
  | .tableswitch _ _ _ _ => 0
  | _ => 1
def jv (α : Nat → Nat) : Value → Value
  | .ref a => .ref (α a)
  | .int v => .int v
  | .long v => .long v
  | .float v => .float v
  | .double v => .double v
  | .null => .null
  | .retAddr a => .retAddr a
theorem jv_cat (α : Nat → Nat) (v : Value) : (jv α v).category = v.category := by cases v <;> rfl
def jL (α : Nat → Nat) (L : List (Nat × Value)) : List (Nat × Value) := L.map (fun q => (q.1, jv α q.2))
theorem jlk_mem {i : Nat} {v : Value} : ∀ {L : List (Nat × Value)}, jlk i L = some v → (i, v) ∈ L
  | [], h => by simp [jlk] at h
  | q :: t, h => by
    unfold jlk at h
    by_cases e : q.1 = i
    · rw [if_pos e] at h
      cases h
      rw [← e]
      exact List.mem_cons_self
    · rw [if_neg e] at h
      exact List.mem_cons_of_mem _ (jlk_mem h)
theorem jL_at {α : Nat → Nat} {ls : Array Slot} {nL i : Nat} {L : List (Nat × Value)} {v : Value} (h : lv_has ls nL (jL α L)) (hk : jlk i L = some v) : ls[i]? = some (.val (jv α v)) :=
  h.2.2 (i, jv α v) (List.mem_map.mpr ⟨(i, v), jlk_mem hk, rfl⟩)
theorem jL_ix {α : Nat → Nat} {i : Nat} {L : List (Nat × Value)} {v : Value} (hk : jlk i L = some v) : ∃ k : Nat, (jL α L)[k]? = some (i, jv α v) :=
  List.getElem?_of_mem (List.mem_map.mpr ⟨(i, v), jlk_mem hk, rfl⟩)
theorem jf1_map (α : Nat → Nat) (i : Nat) (L : List (Nat × Value)) : (jL α L).filter (fun q => !(q.1 == i) && !(q.1 + 1 == i && q.2.category == 2)) = jL α (jf1 i L) := by
  unfold jL jf1
  rw [List.filter_map]
  congr 1
  apply List.filter_congr
  intro q _
  simp only [Function.comp, jv_cat]
theorem jf2_map (α : Nat → Nat) (i : Nat) (L : List (Nat × Value)) : (jL α L).filter (fun q => !(q.1 == i) && (!(q.1 == i + 1) && !(q.1 + 1 == i && q.2.category == 2))) = jL α (jf2 i L) := by
  unfold jL jf2
  rw [List.filter_map]
  congr 1
  apply List.filter_congr
  intro q _
  simp only [Function.comp, jv_cat]
theorem jins_mem {i : Nat} {v : Value} {q : Nat × Value} : ∀ {L : List (Nat × Value)}, q ∈ jins i v L → q = (i, v) ∨ q ∈ L
  | [], h => Or.inl (List.mem_singleton.mp h)
  | r :: t, h => by
    unfold jins at h
    by_cases e : i < r.1
    · rw [if_pos e] at h
      exact List.mem_cons.mp h
    · rw [if_neg e] at h
      rcases List.mem_cons.mp h with h | h
      · exact Or.inr (List.mem_cons.mpr (Or.inl h))
      · rcases jins_mem h with h | h
        · exact Or.inl h
        · exact Or.inr (List.mem_cons_of_mem _ h)
theorem jins_has {α : Nat → Nat} {ls : Array Slot} {nL i : Nat} {v w : Value} {L : List (Nat × Value)} (h : lv_has ls nL ((i, w) :: jL α L)) (e : w = jv α v := by rfl) : lv_has ls nL (jL α (jins i v L)) := by
  refine ⟨h.1, h.2.1, fun q hq => ?_⟩
  obtain ⟨r, hr, rfl⟩ := List.mem_map.mp hq
  rcases jins_mem hr with rfl | hr
  · exact h.2.2 _ (List.mem_cons.mpr (Or.inl (by rw [e])))
  · exact h.2.2 _ (List.mem_cons_of_mem _ (List.mem_map.mpr ⟨r, hr, rfl⟩))
theorem jkp_has {α : Nat → Nat} {ls : Array Slot} {nL : Nat} {o : Option (List Nat)} {L : List (Nat × Value)} (h : lv_has ls nL (jL α L)) : lv_has ls nL (jL α (jkp o L)) := by
  cases o with
  | none => exact h
  | some ks =>
    refine ⟨h.1, h.2.1, fun q hq => ?_⟩
    obtain ⟨r, hr, rfl⟩ := List.mem_map.mp hq
    exact h.2.2 _ (List.mem_map.mpr ⟨r, (List.mem_filter.mp hr).1, rfl⟩)
theorem jargs_map (α : Nat → Nat) : ∀ (as : List Value) (i : Nat), jL α (lv_args i as) = lv_args i (as.map (jv α))
  | [], _ => rfl
  | v :: vs, i => by
    show (i, jv α v) :: jL α (lv_args (if v.category = 2 then i + 2 else i + 1) vs) = (i, jv α v) :: lv_args (if (jv α v).category = 2 then i + 2 else i + 1) (vs.map (jv α))
    rw [jargs_map α vs, jv_cat]
theorem jsl_len (α : Nat → Nat) : ∀ (as : List Value), (lg_sl (as.map (jv α))).length = (lg_sl as).length
  | [] => rfl
  | v :: vs => by
    have ih := jsl_len α vs
    unfold lg_sl at ih ⊢
    rw [List.map_cons, List.flatMap_cons, List.flatMap_cons, List.length_append, List.length_append, ih, jv_cat]
    by_cases h : v.category = 2 <;> simp [h]
theorem jcat_map (α : Nat → Nat) (S : List Value) : ((S.map (jv α)).map fun v => v.category) = S.map fun v => v.category := by
  rw [List.map_map]
  apply List.map_congr_left
  intro v _
  exact jv_cat α v
/-! the world -/
def jcell (α : Nat → Nat) (cA : Nat → ClassId) (M : jM) (i : Nat) : jS → va_E
  | .inl o => .inr (o.1, o.2.mapIdx (fun k f => jv α (jfv M i k f)))
  | .inr r => .inl (cA r.1, r.2.1, if r.1 = 3 then .inr (.inl (M.2 i)) else if r.1 < 3 then .inl (M.1 i) else .inr (.inr (.inr (.inr (fun k => (r.2.2[k]?).map α)))))
def jW (sh : List jS) (α : Nat → Nat) (cA : Nat → ClassId) (M : jM) : va_W := sh.mapIdx (fun i x => (α i, jcell α cA M i x))
theorem jW_at {sh : List jS} {α : Nat → Nat} {cA : Nat → ClassId} {M : jM} {a : Nat} {x : jS} (h : sh[a]? = some x) : (jW sh α cA M)[a]? = some (α a, jcell α cA M a x) := by
  simp [jW, h]
theorem jcell_congr {α : Nat → Nat} {cA : Nat → ClassId} {M M' : jM} {i : Nat} (h1 : M'.1 i = M.1 i) (h2 : M'.2 i = M.2 i) (x : jS) : jcell α cA M' i x = jcell α cA M i x := by
  cases x with
  | inl o => simp only [jcell, jfv, h1, h2]
  | inr r => simp only [jcell, h1, h2]
theorem jW_set {sh : List jS} {α : Nat → Nat} {cA : Nat → ClassId} {M M' : jM} {a : Nat} {x : jS} {e : va_E} (h : sh[a]? = some x) (ho : ∀ i, i ≠ a → M'.1 i = M.1 i ∧ M'.2 i = M.2 i) (he : e = jcell α cA M' a x) : (jW sh α cA M).set a (α a, e) = jW sh α cA M' := by
  apply List.ext_getElem?
  intro i
  rw [List.getElem?_set]
  by_cases hi : a = i
  · subst hi
    have hl : a < (jW sh α cA M).length := (List.getElem?_eq_some_iff.mp (jW_at h)).1
    rw [if_pos rfl, if_pos hl, jW_at h, he]
  · rw [if_neg hi]
    simp only [jW, List.getElem?_mapIdx]
    cases hx : sh[i]? with
    | none => rfl
    | some z =>
      obtain ⟨o1, o2⟩ := ho i (fun q => hi q.symm)
      simp only [Option.map_some, jcell_congr o1 o2 z]
theorem jsi_ne {M : jM} {a k i : Nat} {v : Int32} (h : i ≠ a) : (jsi M a k v).1 i = M.1 i ∧ (jsi M a k v).2 i = M.2 i := by
  refine ⟨?_, rfl⟩
  funext y
  show (if i = a ∧ y = k then v else M.1 i y) = M.1 i y
  rw [if_neg (fun q => h q.1)]
theorem jsl_ne {M : jM} {a k i : Nat} {v : Int64} (h : i ≠ a) : (jsl M a k v).1 i = M.1 i ∧ (jsl M a k v).2 i = M.2 i := by
  refine ⟨rfl, ?_⟩
  funext y
  show (if i = a ∧ y = k then v else M.2 i y) = M.2 i y
  rw [if_neg (fun q => h q.1)]
theorem jsi_row (M : jM) (a k : Nat) (v : Int32) : (jsi M a k v).1 a = upd (M.1 a) k v := by
  funext y
  show (if a = a ∧ y = k then v else M.1 a y) = if y = k then v else M.1 a y
  by_cases h : y = k <;> simp [h]
theorem jsl_row (M : jM) (a k : Nat) (v : Int64) : (jsl M a k v).2 a = vp_updL (M.2 a) k v := by
  funext y
  show (if a = a ∧ y = k then v else M.2 a y) = if y = k then v else M.2 a y
  by_cases h : y = k <;> simp [h]
