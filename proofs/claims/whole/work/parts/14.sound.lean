def jMw (k : Nat) : MethodName × ByteArray × Nat × FieldType := if k = 0 then (Lib.Math.abs.name, Lib.Math.abs.code, 1, .int) else if k = 1 then (Lib.MathLoose.abs_long.x, Lib.MathLoose.abs_long.code, 2, .long) else if k = 2 then (Lib.Math.max.name, Lib.Math.max.code, 2, .int) else (Lib.Math.min.name, Lib.Math.min.code, 2, .int)
def jMo (GW : List Cond) (own : String) (i k : Nat) : Prop := Cond.methodLink own i (jMw k).1 ∈ GW ∧ Cond.static (jMw k).1 ∈ GW ∧ Cond.initialized "java/lang/Math" ∈ GW ∧ Cond.code (jMw k).1 (jMw k).2.1 (jMw k).2.2.1 (some (jMw k).2.2.2) ∈ GW
/-- the tables are what the words say, for a method E -/
def jOk1 (T : jT) (GW NW : List Cond) (cl : List vw_C) (E : jE) : Prop :=
  (∀ (i : Nat) (f : Nat × Nat × Bool), T.2.2.2.1 E.2.2.2.2.2.1 i = some f → jFl GW NW cl E.1.cls i f) ∧ (∀ (i : Nat) (v : Value), T.2.2.2.2.2.1 E.2.2.2.2.2.1 i = some v → jKo GW E.1.cls i v) ∧
  (∀ (a ci : Nat) (fs : List (Nat × Nat)) (k : Nat) (f : Nat × Nat), T.1[a]? = some (Sum.inl (ci, fs)) → fs[k]? = some f → jFo cl ci k f.1) ∧ (∀ (ci : Nat) (q : vw_C), cl[ci]? = some q → jCo GW q) ∧ (∀ (i k : Nat), T.2.2.2.2.2.2.2 E.2.2.2.2.2.1 i = some k → jMo GW E.1.cls i k)
section JThree
variable {T : jT} {GW NW : List Cond} {E : jE}
variable {α : Nat → Nat} {cA : Nat → ClassId} {cl : List vw_C} {D : va_G} {A : Nat → Prop} {H0 : Heap} {p : Program} {l : Launch} {e : Env} {R : Room} {s : State} {m : MethodId} {args : Array Value} {below : List Frame} {meth : Method} {c : Code} {cells slots : Nat} {Q : State → Prop}
variable {pc : Nat} {L : List (Nat × Value)} {S : List Value} {M : jM} {g : jC}
theorem jf_get (ok : jOk1 T GW NW cl E) (X : jX GW NW cl (jtys cA) D E p s m args c) {i : Nat} {f : Nat × Nat × Bool} (hf : T.2.2.2.1 E.2.2.2.2.2.1 i = some f) {a : Nat} {v : Value} (hg : jget T.1 M a f.1 f.2.1 = some v) (hd : decode E.2.1 pc = .ok (.getfield i, 3))
    (k : jG T.1 α cA cl D A H0 E.2.2.1 p l e R s m args below meth c cells slots Q (pc + 3, L, v :: S, M)) : jG T.1 α cA cl D A H0 E.2.2.1 p l e R s m args below meth c cells slots Q (pc, L, .ref a :: S, M) := by
  obtain ⟨hx, hb, hml, hown, hts, hnw, hK⟩ := X
  obtain ⟨okF, -, okS, okC, -⟩ := ok
  unfold jget at hg
  split at hg
  · next ci fs hs =>
    by_cases hc : ci = f.1
    · rw [if_pos hc] at hg
      subst hc
      split at hg
      · next fd hfd =>
        cases hg
        obtain ⟨C, Tt, N, hcl, hk, -⟩ := okS _ _ _ _ _ hs hfd
        obtain ⟨hin, -, -⟩ := okC _ _ hcl
        have hfl := okF i f hf C Tt N hcl
        intro H locs ls hr
        have hv : (fs.mapIdx (fun k f => jv α (jfv M a k f)))[f.2.1]? = some (jv α (jfv M a f.2.1 fd)) := by rw [List.getElem?_mapIdx, hfd]; rfl
        cases hn : f.2.2 with
        | false =>
          exact va_get (ref := (Tt f.2.1).1) hx hb hts hin hown hK hr.1 a (jo_obj hs) hcl f.2.1 hk (hts _ (hfl.1 hn)) (fun _ h => h) hv hd (k H locs ls hr)
        | true =>
          obtain ⟨host, hw⟩ := hfl.2 hn
          exact va_getN (ref := (Tt f.2.1).1) (host := host) hx hb hts hin hown hK hr.1 a (jo_obj hs) hcl f.2.1 hk (va_Nw.use rfl (hnw _ hw)) (fun _ h => h) hv hd (k H locs ls hr)
      · cases hg
    · rw [if_neg hc] at hg; cases hg
  · cases hg
theorem jf_put1 (ok : jOk1 T GW NW cl E) (X : jX GW NW cl (jtys cA) D E p s m args c) (hD : ∀ M, va_D A (jW T.1 α cA M)) {i : Nat} {f : Nat × Nat × Bool} (hf : T.2.2.2.1 E.2.2.2.2.2.1 i = some f) {a : Nat} {v v' : Value} {M' : jM} {fs : List (Nat × Nat)} {fd : Nat × Nat} {ty : FieldType}
    (hs : T.1[a]? = some (.inl (f.1, fs))) (hfd : fs[f.2.1]? = some fd) (hty : ∀ (C : String) (Tt : u_T) (N : Nat), cl[f.1]? = some (C, Tt, N) → jFo cl f.1 f.2.1 fd.1 → parseFieldDescriptor (Tt f.2.1).2.2.1 = some ty ∧ (Tt f.2.1).2.2.2 = false) (hv : jv α v = v') (hn : narrow ty v' = v') (hfit : fits ty v' = true)
    (hw : (jW T.1 α cA M).set a (α a, .inr (f.1, (fs.mapIdx (fun k f => jv α (jfv M a k f))).set f.2.1 v')) = jW T.1 α cA M') (hd : decode E.2.1 pc = .ok (.putfield i, 3))
    (k : jG T.1 α cA cl D A H0 E.2.2.1 p l e R s m args below meth c cells slots Q (pc + 3, L, S, M')) : jG T.1 α cA cl D A H0 E.2.2.1 p l e R s m args below meth c cells slots Q (pc, L, v :: .ref a :: S, M) := by
  obtain ⟨hx, hb, hml, hown, hts, hnw, hK⟩ := X
  obtain ⟨okF, -, okS, okC, -⟩ := ok
  have hfo := okS _ _ _ _ _ hs hfd
  obtain ⟨C, Tt, N, hcl, hk, -⟩ := id hfo
  obtain ⟨hpd, hfin⟩ := hty C Tt N hcl hfo
  obtain ⟨hin, ⟨ty0, hty0⟩, hnm⟩ := okC _ _ hcl
  have hfl := okF i f hf C Tt N hcl
  have hl : f.2.1 < (fs.mapIdx (fun k f => jv α (jfv M a k f))).length := by
    rw [List.length_mapIdx]
    exact (List.getElem?_eq_some_iff.mp hfd).1
  intro H locs ls hr
  show W p l e R s m args below meth c H locs cells slots Q (F0 m pc ls (jv α v :: .ref (α a) :: S.map (jv α)))
  rw [hv]
  cases hn2 : f.2.2 with
  | false =>
    exact va_put (ref := (Tt f.2.1).1) hx hb hts hin ty0 hty0 hnm hown hK hr.1 (hD M) hr.2.1 a (jo_obj hs) hcl f.2.1 hk (hts _ (hfl.1 hn2)) (fun _ h => h) hfin hpd hn hfit hl hd (fun H1 locs1 hP1 _ hS1 => k H1 locs1 ls ⟨by rw [hw] at hP1; exact hP1, hS1, hr.2.2⟩)
  | true =>
    obtain ⟨host, hw2⟩ := hfl.2 hn2
    exact va_putN (ref := (Tt f.2.1).1) (host := host) hx hb hts hin ty0 hty0 hnm hown hK hr.1 (hD M) hr.2.1 a (jo_obj hs) hcl f.2.1 hk (va_Nw.use rfl (hnw _ hw2)) (fun _ h => h) hfin hpd hn hfit hl hd (fun H1 locs1 hP1 _ hS1 => k H1 locs1 ls ⟨by rw [hw] at hP1; exact hP1, hS1, hr.2.2⟩)
theorem jf_put (ok : jOk1 T GW NW cl E) (X : jX GW NW cl (jtys cA) D E p s m args c) (hD : ∀ M, va_D A (jW T.1 α cA M)) {i : Nat} {f : Nat × Nat × Bool} (hf : T.2.2.2.1 E.2.2.2.2.2.1 i = some f) {a : Nat} {v : Value} {M' : jM} (hg : jput T.1 M a f.1 f.2.1 v = some M') (hd : decode E.2.1 pc = .ok (.putfield i, 3))
    (k : jG T.1 α cA cl D A H0 E.2.2.1 p l e R s m args below meth c cells slots Q (pc + 3, L, S, M')) : jG T.1 α cA cl D A H0 E.2.2.1 p l e R s m args below meth c cells slots Q (pc, L, v :: .ref a :: S, M) := by
  unfold jput at hg
  split at hg
  · next ci fs hs =>
    by_cases hc : ci = f.1
    · rw [if_pos hc] at hg
      subst hc
      split at hg
      · next fd hfd =>
        split at hg
        · next x =>
          by_cases h0 : fd.1 = 0
          · rw [if_pos h0] at hg
            cases hg
            refine jf_put1 ok X hD hf (ty := .int) hs hfd (fun C Tt N hcl hfo => ?_) rfl rfl rfl (jo_objI hs hfd (Or.inl h0)) hd k
            obtain ⟨C', T', N', hcl', -, h1, -⟩ := hfo
            cases hcl.symm.trans hcl'
            exact h1 h0
          · rw [if_neg h0] at hg
            by_cases h3 : fd.1 = 3
            · rw [if_pos h3] at hg
              by_cases hx : x = 0 ∨ x = 1
              · rw [if_pos hx] at hg
                cases hg
                refine jf_put1 ok X hD hf (ty := .boolean) hs hfd (fun C Tt N hcl hfo => ?_) rfl (by rcases hx with rfl | rfl <;> rfl) (by rcases hx with rfl | rfl <;> rfl) (jo_objI hs hfd (Or.inr h3)) hd k
                obtain ⟨C', T', N', hcl', -, -, -, h1⟩ := hfo
                cases hcl.symm.trans hcl'
                exact h1 h3
              · rw [if_neg hx] at hg; cases hg
            · rw [if_neg h3] at hg; cases hg
        · next x =>
          by_cases h0 : fd.1 = 1
          · rw [if_pos h0] at hg
            cases hg
            refine jf_put1 ok X hD hf (ty := .long) hs hfd (fun C Tt N hcl hfo => ?_) rfl rfl rfl (jo_objL hs hfd h0) hd k
            obtain ⟨C', T', N', hcl', -, -, h1, -⟩ := hfo
            cases hcl.symm.trans hcl'
            exact h1 h0
          · rw [if_neg h0] at hg; cases hg
        · cases hg
      · cases hg
    · rw [if_neg hc] at hg; cases hg
  · cases hg
end JThree
