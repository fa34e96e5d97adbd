section JTwo
variable {sh : List jS} {α : Nat → Nat} {cA : Nat → ClassId} {cl : List vw_C} {D : va_G} {A : Nat → Prop} {H0 : Heap} {nL : Nat} {p : Program} {l : Launch} {e : Env} {R : Room} {s : State} {m : MethodId} {args : Array Value} {below : List Frame} {meth : Method} {c : Code} {cells slots : Nat} {Q : State → Prop}
variable {cc : ByteArray} {pc : Nat} {L : List (Nat × Value)} {S : List Value} {M : jM} {g : jC}
theorem jo_ii {f : Int32 → Int32 → Int32} (row : ∀ {H : Heap} {locs : List Loc} {ls : Array Slot} {a b : Int32} {rest : List Value}, W p l e R s m args below meth c H locs cells slots Q (F0 m (pc + 1) ls (.int (f a b) :: rest)) → W p l e R s m args below meth c H locs cells slots Q (F0 m pc ls (.int b :: .int a :: rest)))
    (h : jii (pc, L, S, M) f = some g) (k : jG sh α cA cl D A H0 nL p l e R s m args below meth c cells slots Q g) : jG sh α cA cl D A H0 nL p l e R s m args below meth c cells slots Q (pc, L, S, M) := by
  unfold jii at h
  split at h
  · next b a S' hS =>
    have hS : S = _ := hS
    subst hS
    cases h
    exact fun H locs ls hr => row (k H locs ls hr)
  · cases h
theorem jo_ij {f : Int32 → Int32 → Int32} (row : ∀ {H : Heap} {locs : List Loc} {ls : Array Slot} {a b : Int32} {rest : List Value}, ¬ b = 0 → W p l e R s m args below meth c H locs cells slots Q (F0 m (pc + 1) ls (.int (f a b) :: rest)) → W p l e R s m args below meth c H locs cells slots Q (F0 m pc ls (.int b :: .int a :: rest)))
    (h : jij (pc, L, S, M) f = some g) (k : jG sh α cA cl D A H0 nL p l e R s m args below meth c cells slots Q g) : jG sh α cA cl D A H0 nL p l e R s m args below meth c cells slots Q (pc, L, S, M) := by
  unfold jij at h
  split at h
  · next b a S' hS =>
    have hS : S = _ := hS
    subst hS
    by_cases h0 : b = 0
    · rw [if_pos h0] at h; cases h
    · rw [if_neg h0] at h
      cases h
      exact fun H locs ls hr => row h0 (k H locs ls hr)
  · cases h
theorem jo_LL {f : Int64 → Int64 → Int64} (row : ∀ {H : Heap} {locs : List Loc} {ls : Array Slot} {a b : Int64} {rest : List Value}, W p l e R s m args below meth c H locs cells slots Q (F0 m (pc + 1) ls (.long (f a b) :: rest)) → W p l e R s m args below meth c H locs cells slots Q (F0 m pc ls (.long b :: .long a :: rest)))
    (h : jLL (pc, L, S, M) f = some g) (k : jG sh α cA cl D A H0 nL p l e R s m args below meth c cells slots Q g) : jG sh α cA cl D A H0 nL p l e R s m args below meth c cells slots Q (pc, L, S, M) := by
  unfold jLL at h
  split at h
  · next b a S' hS =>
    have hS : S = _ := hS
    subst hS
    cases h
    exact fun H locs ls hr => row (k H locs ls hr)
  · cases h
theorem jo_LM {f : Int64 → Int64 → Int64} (row : ∀ {H : Heap} {locs : List Loc} {ls : Array Slot} {a b : Int64} {rest : List Value}, ¬ b = 0 → W p l e R s m args below meth c H locs cells slots Q (F0 m (pc + 1) ls (.long (f a b) :: rest)) → W p l e R s m args below meth c H locs cells slots Q (F0 m pc ls (.long b :: .long a :: rest)))
    (h : jLM (pc, L, S, M) f = some g) (k : jG sh α cA cl D A H0 nL p l e R s m args below meth c cells slots Q g) : jG sh α cA cl D A H0 nL p l e R s m args below meth c cells slots Q (pc, L, S, M) := by
  unfold jLM at h
  split at h
  · next b a S' hS =>
    have hS : S = _ := hS
    subst hS
    by_cases h0 : b = 0
    · rw [if_pos h0] at h; cases h
    · rw [if_neg h0] at h
      cases h
      exact fun H locs ls hr => row h0 (k H locs ls hr)
  · cases h
theorem jo_li {d i : Nat} (row : ∀ {H : Heap} {locs : List Loc} {ls : Array Slot} {x : Int32} {rest : List Value}, ls[i]? = some (.val (.int x)) → W p l e R s m args below meth c H locs cells slots Q (F0 m (pc + d) ls (.int x :: rest)) → W p l e R s m args below meth c H locs cells slots Q (F0 m pc ls rest))
    (h : jli (pc, L, S, M) d i = some g) (k : jG sh α cA cl D A H0 nL p l e R s m args below meth c cells slots Q g) : jG sh α cA cl D A H0 nL p l e R s m args below meth c cells slots Q (pc, L, S, M) := by
  unfold jli at h
  split at h
  · next x hk =>
    cases h
    exact fun H locs ls hr => row (jL_at hr.2.2 hk) (k H locs ls hr)
  · cases h
theorem jo_ll {d i : Nat} (row : ∀ {H : Heap} {locs : List Loc} {ls : Array Slot} {x : Int64} {rest : List Value}, ls[i]? = some (.val (.long x)) → W p l e R s m args below meth c H locs cells slots Q (F0 m (pc + d) ls (.long x :: rest)) → W p l e R s m args below meth c H locs cells slots Q (F0 m pc ls rest))
    (h : jll (pc, L, S, M) d i = some g) (k : jG sh α cA cl D A H0 nL p l e R s m args below meth c cells slots Q g) : jG sh α cA cl D A H0 nL p l e R s m args below meth c cells slots Q (pc, L, S, M) := by
  unfold jll at h
  split at h
  · next x hk =>
    cases h
    exact fun H locs ls hr => row (jL_at hr.2.2 hk) (k H locs ls hr)
  · cases h
theorem jo_la {d i : Nat} (row : ∀ {H : Heap} {locs : List Loc} {ls : Array Slot} {x : Nat} {rest : List Value}, ls[i]? = some (.val (.ref x)) → W p l e R s m args below meth c H locs cells slots Q (F0 m (pc + d) ls (.ref x :: rest)) → W p l e R s m args below meth c H locs cells slots Q (F0 m pc ls rest))
    (rowN : ∀ {H : Heap} {locs : List Loc} {ls : Array Slot} {rest : List Value}, ls[i]? = some (.val .null) → W p l e R s m args below meth c H locs cells slots Q (F0 m (pc + d) ls (.null :: rest)) → W p l e R s m args below meth c H locs cells slots Q (F0 m pc ls rest))
    (h : jla (pc, L, S, M) d i = some g) (k : jG sh α cA cl D A H0 nL p l e R s m args below meth c cells slots Q g) : jG sh α cA cl D A H0 nL p l e R s m args below meth c cells slots Q (pc, L, S, M) := by
  unfold jla at h
  split at h
  · next x hk =>
    cases h
    exact fun H locs ls hr => row (jL_at hr.2.2 hk) (k H locs ls hr)
  · next hk =>
    cases h
    exact fun H locs ls hr => rowN (jL_at hr.2.2 hk) (k H locs ls hr)
  · cases h
theorem jo_is {d i : Nat} (row : ∀ {H : Heap} {locs : List Loc} {ls : Array Slot} {x : Int32} {rest : List Value} {lv lv' : List (Nat × Value)}, lv_has ls nL lv → i < nL → (i, Value.int x) :: lv.filter (fun q => !(q.1 == i) && !(q.1 + 1 == i && q.2.category == 2)) = lv' → (∀ ls' : Array Slot, lv_has ls' nL lv' → W p l e R s m args below meth c H locs cells slots Q (F0 m (pc + d) ls' rest)) → W p l e R s m args below meth c H locs cells slots Q (F0 m pc ls (.int x :: rest)))
    (h : jis nL (pc, L, S, M) d i = some g) (k : jG sh α cA cl D A H0 nL p l e R s m args below meth c cells slots Q g) : jG sh α cA cl D A H0 nL p l e R s m args below meth c cells slots Q (pc, L, S, M) := by
  unfold jis at h
  split at h
  · next x S' hS =>
    have hS : S = _ := hS
    subst hS
    by_cases hn : i < nL
    · rw [if_pos hn] at h
      cases h
      exact fun H locs ls hr => row hr.2.2 hn (by rw [jf1_map]) (fun ls' h => k H locs ls' ⟨hr.1, hr.2.1, jins_has h⟩)
    · rw [if_neg hn] at h; cases h
  · cases h
theorem jo_ls {d i : Nat} (row : ∀ {H : Heap} {locs : List Loc} {ls : Array Slot} {x : Int64} {rest : List Value} {lv lv' : List (Nat × Value)}, lv_has ls nL lv → i + 1 < nL → (i, Value.long x) :: lv.filter (fun q => !(q.1 == i) && (!(q.1 == i + 1) && !(q.1 + 1 == i && q.2.category == 2))) = lv' → (∀ ls' : Array Slot, lv_has ls' nL lv' → W p l e R s m args below meth c H locs cells slots Q (F0 m (pc + d) ls' rest)) → W p l e R s m args below meth c H locs cells slots Q (F0 m pc ls (.long x :: rest)))
    (h : jls nL (pc, L, S, M) d i = some g) (k : jG sh α cA cl D A H0 nL p l e R s m args below meth c cells slots Q g) : jG sh α cA cl D A H0 nL p l e R s m args below meth c cells slots Q (pc, L, S, M) := by
  unfold jls at h
  split at h
  · next x S' hS =>
    have hS : S = _ := hS
    subst hS
    by_cases hn : i + 1 < nL
    · rw [if_pos hn] at h
      cases h
      exact fun H locs ls hr => row hr.2.2 hn (by rw [jf2_map]) (fun ls' h => k H locs ls' ⟨hr.1, hr.2.1, jins_has h⟩)
    · rw [if_neg hn] at h; cases h
  · cases h
theorem jo_as {d i : Nat} (row : ∀ {H : Heap} {locs : List Loc} {ls : Array Slot} {x : Nat} {rest : List Value} {lv lv' : List (Nat × Value)}, lv_has ls nL lv → i < nL → (i, Value.ref x) :: lv.filter (fun q => !(q.1 == i) && !(q.1 + 1 == i && q.2.category == 2)) = lv' → (∀ ls' : Array Slot, lv_has ls' nL lv' → W p l e R s m args below meth c H locs cells slots Q (F0 m (pc + d) ls' rest)) → W p l e R s m args below meth c H locs cells slots Q (F0 m pc ls (.ref x :: rest)))
    (rowN : ∀ {H : Heap} {locs : List Loc} {ls : Array Slot} {rest : List Value} {lv lv' : List (Nat × Value)}, lv_has ls nL lv → i < nL → (i, Value.null) :: lv.filter (fun q => !(q.1 == i) && !(q.1 + 1 == i && q.2.category == 2)) = lv' → (∀ ls' : Array Slot, lv_has ls' nL lv' → W p l e R s m args below meth c H locs cells slots Q (F0 m (pc + d) ls' rest)) → W p l e R s m args below meth c H locs cells slots Q (F0 m pc ls (.null :: rest)))
    (h : jas nL (pc, L, S, M) d i = some g) (k : jG sh α cA cl D A H0 nL p l e R s m args below meth c cells slots Q g) : jG sh α cA cl D A H0 nL p l e R s m args below meth c cells slots Q (pc, L, S, M) := by
  unfold jas at h
  split at h
  · next x S' hS =>
    have hS : S = _ := hS
    subst hS
    by_cases hn : i < nL
    · rw [if_pos hn] at h
      cases h
      exact fun H locs ls hr => row hr.2.2 hn (by rw [jf1_map]) (fun ls' h => k H locs ls' ⟨hr.1, hr.2.1, jins_has h⟩)
    · rw [if_neg hn] at h; cases h
  · next S' hS =>
    have hS : S = _ := hS
    subst hS
    by_cases hn : i < nL
    · rw [if_pos hn] at h
      cases h
      exact fun H locs ls hr => rowN hr.2.2 hn (by rw [jf1_map]) (fun ls' h => k H locs ls' ⟨hr.1, hr.2.1, jins_has h⟩)
    · rw [if_neg hn] at h; cases h
  · cases h
/-- a branch whose end is known -/
theorem jo_go {S' : List Value} {b : Bool} {off : Int} (h : jgo (pc, L, S, M) S' b off = some g) : ∃ t : Nat, (pc : Int) + off = (t : Int) ∧ g = (if b then t else pc + 3, L, S', M) := by
  unfold jgo at h
  split at h
  · next t ht =>
    cases h
    exact ⟨t, ja_go ht, rfl⟩
  · cases h
theorem jo_c1 {off : Int} {f : Int32 → Bool} {P : Int32 → Prop} (hf : ∀ a, f a = true ↔ P a)
    (row : ∀ {H : Heap} {locs : List Loc} {ls : Array Slot} {t : Nat} {a : Int32} {rest : List Value}, (pc : Int) + off = (t : Int) → (P a → W p l e R s m args below meth c H locs cells slots Q (F0 m t ls rest)) → (¬ P a → W p l e R s m args below meth c H locs cells slots Q (F0 m (pc + 3) ls rest)) → W p l e R s m args below meth c H locs cells slots Q (F0 m pc ls (.int a :: rest)))
    (h : jc1 (pc, L, S, M) off f = some g) (k : jG sh α cA cl D A H0 nL p l e R s m args below meth c cells slots Q g) : jG sh α cA cl D A H0 nL p l e R s m args below meth c cells slots Q (pc, L, S, M) := by
  unfold jc1 at h
  split at h
  · next a S' hS =>
    have hS : S = _ := hS
    subst hS
    obtain ⟨t, ht, rfl⟩ := jo_go h
    exact ja_br (S := S') (hf a) (fun k1 k2 => row ht k1 k2) rfl k
  · cases h
theorem jo_c2 {off : Int} {f : Int32 → Int32 → Bool} {P : Int32 → Int32 → Prop} (hf : ∀ a b, f a b = true ↔ P a b)
    (row : ∀ {H : Heap} {locs : List Loc} {ls : Array Slot} {t : Nat} {a b : Int32} {rest : List Value}, (pc : Int) + off = (t : Int) → (P a b → W p l e R s m args below meth c H locs cells slots Q (F0 m t ls rest)) → (¬ P a b → W p l e R s m args below meth c H locs cells slots Q (F0 m (pc + 3) ls rest)) → W p l e R s m args below meth c H locs cells slots Q (F0 m pc ls (.int b :: .int a :: rest)))
    (h : jc2 (pc, L, S, M) off f = some g) (k : jG sh α cA cl D A H0 nL p l e R s m args below meth c cells slots Q g) : jG sh α cA cl D A H0 nL p l e R s m args below meth c cells slots Q (pc, L, S, M) := by
  unfold jc2 at h
  split at h
  · next b a S' hS =>
    have hS : S = _ := hS
    subst hS
    obtain ⟨t, ht, rfl⟩ := jo_go h
    exact ja_br (S := S') (hf a b) (fun k1 k2 => row ht k1 k2) rfl k
  · cases h
/-- an array's place, told apart -/
theorem jo_ix {a : Nat} {i : Int32} {r : Nat × Nat × List Nat} (h : jix sh a i = some r) : ∃ n : Nat, sh[a]? = some (.inr (r.1, n, r.2.2)) ∧ vp_in i n ∧ r.2.1 = i.toNatClampNeg := by
  unfold jix at h
  split at h
  · next t n rs hs =>
    by_cases hi : i < 0 ∨ n ≤ i.toNatClampNeg
    · rw [if_pos hi] at h; cases h
    · rw [if_neg hi] at h
      cases h
      exact ⟨n, hs, hi, rfl⟩
  · cases h
theorem jo_int {a n t : Nat} {rs : List Nat} (h : sh[a]? = some (.inr (t, n, rs))) (ht : t < 3) : (jW sh α cA M)[a]? = some (α a, .inl (cA t, n, .inl (M.1 a))) := by
  rw [jW_at h]
  simp only [jcell]
  rw [if_neg (by omega), if_pos ht]
theorem jo_long {a n : Nat} {rs : List Nat} (h : sh[a]? = some (.inr (3, n, rs))) : (jW sh α cA M)[a]? = some (α a, .inl (cA 3, n, .inr (.inl (M.2 a)))) := by
  rw [jW_at h]
  rfl
theorem jo_refs {a n t : Nat} {rs : List Nat} (h : sh[a]? = some (.inr (t, n, rs))) (ht : 4 ≤ t) : (jW sh α cA M)[a]? = some (α a, .inl (cA t, n, .inr (.inr (.inr (.inr (fun k => (rs[k]?).map α)))))) := by
  rw [jW_at h]
  simp only [jcell]
  rw [if_neg (by omega), if_neg (by omega)]
theorem jo_intS {a n t k : Nat} {rs : List Nat} {x : Int32} (h : sh[a]? = some (.inr (t, n, rs))) (ht : t < 3) : (jW sh α cA M).set a (α a, .inl (cA t, n, .inl (upd (M.1 a) k x))) = jW sh α cA (jsi M a k x) := by
  refine jW_set h (fun i hi => jsi_ne hi) ?_
  simp only [jcell, jsi_row]
  rw [if_neg (by omega), if_pos ht]
theorem jo_longS {a n k : Nat} {rs : List Nat} {x : Int64} (h : sh[a]? = some (.inr (3, n, rs))) : (jW sh α cA M).set a (α a, .inl (cA 3, n, .inr (.inl (vp_updL (M.2 a) k x)))) = jW sh α cA (jsl M a k x) := by
  refine jW_set h (fun i hi => jsl_ne hi) ?_
  simp only [jcell, jsl_row]
  rfl
theorem jo_obj {a ci : Nat} {fs : List (Nat × Nat)} (h : sh[a]? = some (.inl (ci, fs))) : (jW sh α cA M)[a]? = some (α a, .inr (ci, fs.mapIdx (fun k f => jv α (jfv M a k f)))) := jW_at h
theorem jo_fsI {a k : Nat} {fs : List (Nat × Nat)} {f : Nat × Nat} {x : Int32} (hf : fs[k]? = some f) (ht : f.1 = 0 ∨ f.1 = 3) : (fs.mapIdx (fun k f => jv α (jfv M a k f))).set k (.int x) = fs.mapIdx (fun k' f => jv α (jfv (jsi M a k x) a k' f)) := by
  apply List.ext_getElem?
  intro i
  rw [List.getElem?_set]
  by_cases hi : k = i
  · subst hi
    have hl : k < fs.length := (List.getElem?_eq_some_iff.mp hf).1
    rw [if_pos rfl, if_pos (by simpa using hl), List.getElem?_mapIdx, hf]
    simp only [Option.map_some]
    congr 1
    rcases ht with ht | ht <;> simp [jfv, ht, jsi, jv]
  · rw [if_neg hi, List.getElem?_mapIdx, List.getElem?_mapIdx]
    cases hx : fs[i]? with
    | none => rfl
    | some z =>
      simp only [Option.map_some]
      congr 2
      simp only [jfv, jsi]
      rw [if_neg (fun q : True ∧ i = k => hi q.2.symm)]
theorem jo_fsL {a k : Nat} {fs : List (Nat × Nat)} {f : Nat × Nat} {x : Int64} (hf : fs[k]? = some f) (ht : f.1 = 1) : (fs.mapIdx (fun k f => jv α (jfv M a k f))).set k (.long x) = fs.mapIdx (fun k' f => jv α (jfv (jsl M a k x) a k' f)) := by
  apply List.ext_getElem?
  intro i
  rw [List.getElem?_set]
  by_cases hi : k = i
  · subst hi
    have hl : k < fs.length := (List.getElem?_eq_some_iff.mp hf).1
    rw [if_pos rfl, if_pos (by simpa using hl), List.getElem?_mapIdx, hf]
    simp only [Option.map_some]
    congr 1
    simp [jfv, ht, jsl, jv]
  · rw [if_neg hi, List.getElem?_mapIdx, List.getElem?_mapIdx]
    cases hx : fs[i]? with
    | none => rfl
    | some z =>
      simp only [Option.map_some]
      congr 2
      simp only [jfv, jsl]
      rw [if_neg (fun q : True ∧ i = k => hi q.2.symm)]
theorem jo_objI {a ci k : Nat} {fs : List (Nat × Nat)} {f : Nat × Nat} {x : Int32} (h : sh[a]? = some (.inl (ci, fs))) (hf : fs[k]? = some f) (ht : f.1 = 0 ∨ f.1 = 3) : (jW sh α cA M).set a (α a, .inr (ci, (fs.mapIdx (fun k f => jv α (jfv M a k f))).set k (.int x))) = jW sh α cA (jsi M a k x) := by
  refine jW_set h (fun i hi => jsi_ne hi) ?_
  rw [jo_fsI hf ht]
  rfl
theorem jo_objL {a ci k : Nat} {fs : List (Nat × Nat)} {f : Nat × Nat} {x : Int64} (h : sh[a]? = some (.inl (ci, fs))) (hf : fs[k]? = some f) (ht : f.1 = 1) : (jW sh α cA M).set a (α a, .inr (ci, (fs.mapIdx (fun k f => jv α (jfv M a k f))).set k (.long x))) = jW sh α cA (jsl M a k x) := by
  refine jW_set h (fun i hi => jsl_ne hi) ?_
  rw [jo_fsL hf ht]
  rfl
end JTwo
