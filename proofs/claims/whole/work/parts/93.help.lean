/-! THE LAW'S HELPERS: 0 and the value in out, or 1 where the class throws -/
def hRoom : Room := { frames := 7, cells := 1, slots := 6, locals := 238 }
def hQc (D : va_G) (α : Nat → Nat) (cA : Nat → ClassId) (A : Nat → Prop) (K : Int32 → jM → Prop) : Array Value → State → Outcome → State → Prop :=
  fun a st oc t => ∃ (r : Int32) (M' : jM), K r M' ∧ jQc vwCl D jSH α cA A M' (some (.int r)) a st oc t
def hKl (K : jK) : Int32 → jM → Prop := fun r M' => (r = 1 ∧ K none M') ∨ (r = 0 ∧ ∃ (v : Int64) (M1 : jM), K (some (some (.long v))) M1 ∧ M' = jsl M1 97 0 v)
def hKi (K : jK) : Int32 → jM → Prop := fun r M' => (r = 1 ∧ K none M') ∨ (r = 0 ∧ ∃ (v : Int32) (M1 : jM), K (some (some (.int v))) M1 ∧ M' = jsl M1 97 0 v.toInt64)
theorem hlast {E : jE} {pc : Nat} {L : List (Nat × Value)} {M : jM} {w : Int64} : jone jT0 E .lastore (pc, L, [.long w, .int (Int32.ofInt 0), .ref 97], M) = some (pc + 1, L, [], jsl M 97 0 w) := by
  show (match jix jSH 97 (Int32.ofInt 0) with | some (t, k, _) => if t = 3 then some (pc + 1, L, ([] : List Value), jsl M 97 k w) else none | none => none) = _
  have h : jix jSH 97 (Int32.ofInt 0) = some (3, 0, []) := by decide +kernel
  rw [h]
  rfl
theorem xSite_of {y : Nat} {cc : ByteArray} {l : List (Nat × List (Nat × Instr))} (hl : jal2 y jMIs = some l) (pc is n : Nat) (tx : String) (h1 : (is, tx) ∈ xStr) (h2 : (l.all fun ch => ch.2.all fun q => match q.2 with | .new _ => Nat.beq q.1 pc | _ => true) = true)
    (d0 : decode cc pc = .ok (.new 124, 3)) (d3 : decode cc (pc + 3) = .ok (.dup, 1)) (d4 : (decode cc (pc + 4) = .ok (.ldc is, 2) ∧ n = 6) ∨ (decode cc (pc + 4) = .ok (.ldc_w is, 3) ∧ n = 7)) (d6 : decode cc (pc + n) = .ok (.invokespecial 128, 3)) (d9 : decode cc (pc + n + 3) = .ok (.athrow, 1)) : xSite y cc := by
  refine ⟨pc, is, n, tx, h1, fun pc' k h => ?_, d0, d3, d4, d6, d9⟩
  unfold jMI at h
  rw [hl] at h
  obtain ⟨ch, h3, h4⟩ := jal2_mem h
  have h5 := List.all_eq_true.mp (List.all_eq_true.mp h2 ch h3) _ h4
  exact Nat.eq_of_beq_eq_true h5
theorem site_weight : xSite nX7_weight cX7_weight := xSite_of rfl 30 126 6 "no such weight" (by decide) (by decide +kernel) (by decide +kernel) (by decide +kernel) (Or.inl ⟨by decide +kernel, rfl⟩) (by decide +kernel) (by decide +kernel)
def iL_weight : List (Nat × List (Nat × Instr)) := [(100, [(0, .aload 5), (2, .iconst 0), (3, .aload_n 0), (4, .iload_n 1), (5, .iload_n 2), (6, .iload_n 3), (7, .iload 4), (9, .invokevirtual 7), (12, .lastore), (13, .goto 7), (16, .astore 6), (18, .iconst 1), (19, .ireturn), (20, .iconst 0), (21, .ireturn)])]
def eL_weight : jE := (yL_weight, cL_weight, 7, some .int, 7, 12, true, 6)
theorem okL_weight : lwOk eL_weight (fun pc => jal2 pc iL_weight) := lwOk_of (by decide +kernel)
set_option maxHeartbeats 4000000 in
set_option maxRecDepth 100000 in
theorem h_weight {p0 p1 p2 p3 : Int32} {M : jM} {K : jK} (hev : jEv nX7_weight (0, [(0, .ref 0), (1, .int p0), (2, .int p1), (3, .int p2), (4, .int p3)], [], M) K) (hKv : ∀ o M1, K o M1 → o = none ∨ ∃ v, o = some (some (.long v))) {α : Nat → Nat} {cA : Nat → ClassId} {D : va_G} {A : Nat → Prop} (hD : ∀ M, va_D A (jW jSH α cA M)) (l : Launch) (hl : l.stackTraces = false) :
    vx_Met l yL_weight (Cond.codeWith yL_weight cL_weight 7 (some .int) [(0, 13, 16, 13)] :: jGW) hRoom (xPc D α cA A M [.ref 0, .int p0, .int p1, .int p2, .int p3, .ref 97]) (hQc D α cA A (hKl K)) (fun _ _ _ => False) 1 6 A := by
  refine vx_ofWH (cc := cL_weight) (maxL := 7) (ret := some .int) (hh := [(0, 13, 16, 13)]) (by decide +kernel) rfl ?_
  intro p e s m args below meth c s₁ B hml hPc
  obtain ⟨rfl, hP, hK, hN, hZ⟩ := hPc
  have hts0 := atoms_spec (ws := Cond.codeWith yL_weight cL_weight 7 (some .int) [(0, 13, 16, 13)] :: jGW) B.pre
  have htab : c.exceptionTable.toList = [⟨0, 13, 16, 13⟩] := (vx_table (x := yL_weight) B (hts0 _ List.mem_cons_self)).trans rfl
  have C : lwC eL_weight (fun pc => jal2 pc iL_weight) α cA D A p l hRoom s m (([.ref 0, .int p0, .int p1, .int p2, .int p3, .ref 97] : List Value).map (jv α)).toArray c := ⟨⟨B.exec, B.bytes, hml, findClass_of_methodNamed B.named, fun w hw => hts0 w (List.mem_cons_of_mem _ hw), hN, hK⟩, hD, Nat.le_refl 7, Nat.le_refl 238, okL_weight, lwOk1 rfl, hZ, hl⟩
  have hex := B.exec
  have hbt := B.bytes
  have hret := B.returns
  rw [lg_entry_eq]
  have hc0 : 0 ≤ hRoom.cells ∧ 0 ≤ hRoom.slots := ⟨Nat.zero_le _, Nat.zero_le _⟩
  have hc1 : 0 + 1 ≤ hRoom.cells ∧ 0 + 6 ≤ hRoom.slots := ⟨Nat.le_refl _, Nat.le_refl _⟩
  have K0 : jG jSH α cA vwCl D A s.heap 7 p l e hRoom s m (([.ref 0, .int p0, .int p1, .int p2, .int p3, .ref 97] : List Value).map (jv α)).toArray below meth c 0 0 (vx_MQ below (hQc D α cA A (hKl K)) (fun _ _ _ => False) (([.ref 0, .int p0, .int p1, .int p2, .int p3, .ref 97] : List Value).map (jv α)).toArray s 1 6 A) (0, [(0, .ref 0), (1, .int p0), (2, .int p1), (3, .int p2), (4, .int p3), (5, .ref 97)], [], M) := by
    refine lw1 (E := eL_weight) C hc0 (ins := .aload 5) rfl rfl ?_
    refine lw1 (E := eL_weight) C hc0 (ins := .iconst 0) rfl rfl ?_
    refine lw1 (E := eL_weight) C hc0 (ins := .aload_n 0) rfl rfl ?_
    refine lw1 (E := eL_weight) C hc0 (ins := .iload_n 1) rfl rfl ?_
    refine lw1 (E := eL_weight) C hc0 (ins := .iload_n 2) rfl rfl ?_
    refine lw1 (E := eL_weight) C hc0 (ins := .iload_n 3) rfl rfl ?_
    refine lw1 (E := eL_weight) C hc0 (ins := .iload 4) rfl rfl ?_
    refine lwVX (E := eL_weight) C hc1 ⟨by decide, by decide⟩ (idx := 7) (y := nX7_weight) (F := me_X7_weight) rfl rfl rfl (as' := [.int p0, .int p1, .int p2, .int p3]) (rest := [.int (Int32.ofInt 0), .ref 97]) rfl rfl rfl (Nat.le_of_ble_eq_true rfl) (by decide) (by decide) rfl site_weight (jGW_of (by decide +kernel)) hev ⟨0, 13, 16, 13⟩ htab rfl (by decide) (jGW_of (by decide +kernel)) ?_ ?_
    · intro M1 q9 hKn H locs ls hr
      refine lv_astore (nL := 7) (lv' := [(6, .ref q9), (0, .ref (α 0)), (1, .int p0), (2, .int p1), (3, .int p2), (4, .int p3), (5, .ref (α 97))]) hex hbt (show decode cL_weight 16 = .ok (.astore 6, 2) by decide +kernel) hr.2.2 (by decide) rfl (fun ls2 hl2 => ?_)
      refine lv_iconst (v := 1) hex hbt (show decode cL_weight 18 = .ok (.iconst 1, 1) by decide +kernel) (by decide) ?_
      exact vx_ret (W.iret hex hbt hret (fun t ht _ => ⟨1, M1, Or.inl ⟨rfl, hKn⟩, ⟨rfl, by rw [ht]; exact hr.1⟩, hr.2.1.F ht⟩) hr.2.1.2.2 (show decode cL_weight 19 = .ok (.ireturn, 1) by decide +kernel))
    · intro v M1 hKs
      rcases hKv _ _ hKs with h | ⟨w, h⟩
      · cases h
      · cases h
        have hc2 : 0 + 1 ≤ hRoom.cells ∧ 0 + 6 ≤ hRoom.slots := hc1
        refine lw1 (E := eL_weight) C hc2 (ins := .lastore) rfl hlast ?_
        refine lw1 (E := eL_weight) C hc2 (ins := .goto 7) rfl rfl ?_
        refine lw1 (E := eL_weight) C hc2 (ins := .iconst 0) rfl rfl ?_
        intro H locs ls hr
        exact vx_ret (W.iret (v := Int32.ofInt 0) hex hbt hret (fun t ht _ => ⟨Int32.ofInt 0, jsl M1 97 0 w, Or.inr ⟨by decide, w, M1, hKs, rfl⟩, ⟨rfl, by rw [ht]; exact hr.1⟩, hr.2.1.F ht⟩) hr.2.1.2.2 (show decode cL_weight 21 = .ok (.ireturn, 1) by decide +kernel))
  refine K0 s.heap [] _ ⟨hP, va_S.rf, ?_⟩
  exact lv_entry (([.ref 0, .int p0, .int p1, .int p2, .int p3, .ref 97] : List Value).map (jv α)) (n := 7) (Nat.le_of_ble_eq_true rfl)
theorem site_like : xSite nX7_like cX7_like := xSite_of rfl 37 150 6 "no such like" (by decide) (by decide +kernel) (by decide +kernel) (by decide +kernel) (Or.inl ⟨by decide +kernel, rfl⟩) (by decide +kernel) (by decide +kernel)
def iL_like : List (Nat × List (Nat × Instr)) := [(100, [(0, .aload 4), (2, .iconst 0), (3, .aload_n 0), (4, .iload_n 1), (5, .iload_n 2), (6, .iload_n 3), (7, .invokevirtual 15), (10, .lastore), (11, .goto 7), (14, .astore 5), (16, .iconst 1), (17, .ireturn), (18, .iconst 0), (19, .ireturn)])]
def eL_like : jE := (yL_like, cL_like, 6, some .int, 7, 12, true, 5)
theorem okL_like : lwOk eL_like (fun pc => jal2 pc iL_like) := lwOk_of (by decide +kernel)
set_option maxHeartbeats 4000000 in
set_option maxRecDepth 100000 in
theorem h_like {p0 p1 p2 : Int32} {M : jM} {K : jK} (hev : jEv nX7_like (0, [(0, .ref 0), (1, .int p0), (2, .int p1), (3, .int p2)], [], M) K) (hKv : ∀ o M1, K o M1 → o = none ∨ ∃ v, o = some (some (.long v))) {α : Nat → Nat} {cA : Nat → ClassId} {D : va_G} {A : Nat → Prop} (hD : ∀ M, va_D A (jW jSH α cA M)) (l : Launch) (hl : l.stackTraces = false) :
    vx_Met l yL_like (Cond.codeWith yL_like cL_like 6 (some .int) [(0, 11, 14, 13)] :: jGW) hRoom (xPc D α cA A M [.ref 0, .int p0, .int p1, .int p2, .ref 97]) (hQc D α cA A (hKl K)) (fun _ _ _ => False) 1 6 A := by
  refine vx_ofWH (cc := cL_like) (maxL := 6) (ret := some .int) (hh := [(0, 11, 14, 13)]) (by decide +kernel) rfl ?_
  intro p e s m args below meth c s₁ B hml hPc
  obtain ⟨rfl, hP, hK, hN, hZ⟩ := hPc
  have hts0 := atoms_spec (ws := Cond.codeWith yL_like cL_like 6 (some .int) [(0, 11, 14, 13)] :: jGW) B.pre
  have htab : c.exceptionTable.toList = [⟨0, 11, 14, 13⟩] := (vx_table (x := yL_like) B (hts0 _ List.mem_cons_self)).trans rfl
  have C : lwC eL_like (fun pc => jal2 pc iL_like) α cA D A p l hRoom s m (([.ref 0, .int p0, .int p1, .int p2, .ref 97] : List Value).map (jv α)).toArray c := ⟨⟨B.exec, B.bytes, hml, findClass_of_methodNamed B.named, fun w hw => hts0 w (List.mem_cons_of_mem _ hw), hN, hK⟩, hD, Nat.le_refl 7, Nat.le_refl 238, okL_like, lwOk1 rfl, hZ, hl⟩
  have hex := B.exec
  have hbt := B.bytes
  have hret := B.returns
  rw [lg_entry_eq]
  have hc0 : 0 ≤ hRoom.cells ∧ 0 ≤ hRoom.slots := ⟨Nat.zero_le _, Nat.zero_le _⟩
  have hc1 : 0 + 1 ≤ hRoom.cells ∧ 0 + 6 ≤ hRoom.slots := ⟨Nat.le_refl _, Nat.le_refl _⟩
  have K0 : jG jSH α cA vwCl D A s.heap 6 p l e hRoom s m (([.ref 0, .int p0, .int p1, .int p2, .ref 97] : List Value).map (jv α)).toArray below meth c 0 0 (vx_MQ below (hQc D α cA A (hKl K)) (fun _ _ _ => False) (([.ref 0, .int p0, .int p1, .int p2, .ref 97] : List Value).map (jv α)).toArray s 1 6 A) (0, [(0, .ref 0), (1, .int p0), (2, .int p1), (3, .int p2), (4, .ref 97)], [], M) := by
    refine lw1 (E := eL_like) C hc0 (ins := .aload 4) rfl rfl ?_
    refine lw1 (E := eL_like) C hc0 (ins := .iconst 0) rfl rfl ?_
    refine lw1 (E := eL_like) C hc0 (ins := .aload_n 0) rfl rfl ?_
    refine lw1 (E := eL_like) C hc0 (ins := .iload_n 1) rfl rfl ?_
    refine lw1 (E := eL_like) C hc0 (ins := .iload_n 2) rfl rfl ?_
    refine lw1 (E := eL_like) C hc0 (ins := .iload_n 3) rfl rfl ?_
    refine lwVX (E := eL_like) C hc1 ⟨by decide, by decide⟩ (idx := 15) (y := nX7_like) (F := me_X7_like) rfl rfl rfl (as' := [.int p0, .int p1, .int p2]) (rest := [.int (Int32.ofInt 0), .ref 97]) rfl rfl rfl (Nat.le_of_ble_eq_true rfl) (by decide) (by decide) rfl site_like (jGW_of (by decide +kernel)) hev ⟨0, 11, 14, 13⟩ htab rfl (by decide) (jGW_of (by decide +kernel)) ?_ ?_
    · intro M1 q9 hKn H locs ls hr
      refine lv_astore (nL := 6) (lv' := [(5, .ref q9), (0, .ref (α 0)), (1, .int p0), (2, .int p1), (3, .int p2), (4, .ref (α 97))]) hex hbt (show decode cL_like 14 = .ok (.astore 5, 2) by decide +kernel) hr.2.2 (by decide) rfl (fun ls2 hl2 => ?_)
      refine lv_iconst (v := 1) hex hbt (show decode cL_like 16 = .ok (.iconst 1, 1) by decide +kernel) (by decide) ?_
      exact vx_ret (W.iret hex hbt hret (fun t ht _ => ⟨1, M1, Or.inl ⟨rfl, hKn⟩, ⟨rfl, by rw [ht]; exact hr.1⟩, hr.2.1.F ht⟩) hr.2.1.2.2 (show decode cL_like 17 = .ok (.ireturn, 1) by decide +kernel))
    · intro v M1 hKs
      rcases hKv _ _ hKs with h | ⟨w, h⟩
      · cases h
      · cases h
        have hc2 : 0 + 1 ≤ hRoom.cells ∧ 0 + 6 ≤ hRoom.slots := hc1
        refine lw1 (E := eL_like) C hc2 (ins := .lastore) rfl hlast ?_
        refine lw1 (E := eL_like) C hc2 (ins := .goto 7) rfl rfl ?_
        refine lw1 (E := eL_like) C hc2 (ins := .iconst 0) rfl rfl ?_
        intro H locs ls hr
        exact vx_ret (W.iret (v := Int32.ofInt 0) hex hbt hret (fun t ht _ => ⟨Int32.ofInt 0, jsl M1 97 0 w, Or.inr ⟨by decide, w, M1, hKs, rfl⟩, ⟨rfl, by rw [ht]; exact hr.1⟩, hr.2.1.F ht⟩) hr.2.1.2.2 (show decode cL_like 19 = .ok (.ireturn, 1) by decide +kernel))
  refine K0 s.heap [] _ ⟨hP, va_S.rf, ?_⟩
  exact lv_entry (([.ref 0, .int p0, .int p1, .int p2, .ref 97] : List Value).map (jv α)) (n := 6) (Nat.le_of_ble_eq_true rfl)
theorem site_likeness : xSite nX7_likeness cX7_likeness := xSite_of rfl 22 197 6 "no such likeness" (by decide) (by decide +kernel) (by decide +kernel) (by decide +kernel) (Or.inl ⟨by decide +kernel, rfl⟩) (by decide +kernel) (by decide +kernel)
def iL_likeness : List (Nat × List (Nat × Instr)) := [(100, [(0, .aload_n 3), (1, .iconst 0), (2, .aload_n 0), (3, .iload_n 1), (4, .iload_n 2), (5, .invokevirtual 19), (8, .i2l), (9, .lastore), (10, .goto 7), (13, .astore 4), (15, .iconst 1), (16, .ireturn), (17, .iconst 0), (18, .ireturn)])]
def eL_likeness : jE := (yL_likeness, cL_likeness, 5, some .int, 7, 12, true, 4)
theorem okL_likeness : lwOk eL_likeness (fun pc => jal2 pc iL_likeness) := lwOk_of (by decide +kernel)
set_option maxHeartbeats 4000000 in
set_option maxRecDepth 100000 in
theorem h_likeness {p0 p1 : Int32} {M : jM} {K : jK} (hev : jEv nX7_likeness (0, [(0, .ref 0), (1, .int p0), (2, .int p1)], [], M) K) (hKv : ∀ o M1, K o M1 → o = none ∨ ∃ v, o = some (some (.int v))) {α : Nat → Nat} {cA : Nat → ClassId} {D : va_G} {A : Nat → Prop} (hD : ∀ M, va_D A (jW jSH α cA M)) (l : Launch) (hl : l.stackTraces = false) :
    vx_Met l yL_likeness (Cond.codeWith yL_likeness cL_likeness 5 (some .int) [(0, 10, 13, 13)] :: jGW) hRoom (xPc D α cA A M [.ref 0, .int p0, .int p1, .ref 97]) (hQc D α cA A (hKi K)) (fun _ _ _ => False) 1 6 A := by
  refine vx_ofWH (cc := cL_likeness) (maxL := 5) (ret := some .int) (hh := [(0, 10, 13, 13)]) (by decide +kernel) rfl ?_
  intro p e s m args below meth c s₁ B hml hPc
  obtain ⟨rfl, hP, hK, hN, hZ⟩ := hPc
  have hts0 := atoms_spec (ws := Cond.codeWith yL_likeness cL_likeness 5 (some .int) [(0, 10, 13, 13)] :: jGW) B.pre
  have htab : c.exceptionTable.toList = [⟨0, 10, 13, 13⟩] := (vx_table (x := yL_likeness) B (hts0 _ List.mem_cons_self)).trans rfl
  have C : lwC eL_likeness (fun pc => jal2 pc iL_likeness) α cA D A p l hRoom s m (([.ref 0, .int p0, .int p1, .ref 97] : List Value).map (jv α)).toArray c := ⟨⟨B.exec, B.bytes, hml, findClass_of_methodNamed B.named, fun w hw => hts0 w (List.mem_cons_of_mem _ hw), hN, hK⟩, hD, Nat.le_refl 7, Nat.le_refl 238, okL_likeness, lwOk1 rfl, hZ, hl⟩
  have hex := B.exec
  have hbt := B.bytes
  have hret := B.returns
  rw [lg_entry_eq]
  have hc0 : 0 ≤ hRoom.cells ∧ 0 ≤ hRoom.slots := ⟨Nat.zero_le _, Nat.zero_le _⟩
  have hc1 : 0 + 1 ≤ hRoom.cells ∧ 0 + 6 ≤ hRoom.slots := ⟨Nat.le_refl _, Nat.le_refl _⟩
  have K0 : jG jSH α cA vwCl D A s.heap 5 p l e hRoom s m (([.ref 0, .int p0, .int p1, .ref 97] : List Value).map (jv α)).toArray below meth c 0 0 (vx_MQ below (hQc D α cA A (hKi K)) (fun _ _ _ => False) (([.ref 0, .int p0, .int p1, .ref 97] : List Value).map (jv α)).toArray s 1 6 A) (0, [(0, .ref 0), (1, .int p0), (2, .int p1), (3, .ref 97)], [], M) := by
    refine lw1 (E := eL_likeness) C hc0 (ins := .aload_n 3) rfl rfl ?_
    refine lw1 (E := eL_likeness) C hc0 (ins := .iconst 0) rfl rfl ?_
    refine lw1 (E := eL_likeness) C hc0 (ins := .aload_n 0) rfl rfl ?_
    refine lw1 (E := eL_likeness) C hc0 (ins := .iload_n 1) rfl rfl ?_
    refine lw1 (E := eL_likeness) C hc0 (ins := .iload_n 2) rfl rfl ?_
    refine lwVX (E := eL_likeness) C hc1 ⟨by decide, by decide⟩ (idx := 19) (y := nX7_likeness) (F := me_X7_likeness) rfl rfl rfl (as' := [.int p0, .int p1]) (rest := [.int (Int32.ofInt 0), .ref 97]) rfl rfl rfl (Nat.le_of_ble_eq_true rfl) (by decide) (by decide) rfl site_likeness (jGW_of (by decide +kernel)) hev ⟨0, 10, 13, 13⟩ htab rfl (by decide) (jGW_of (by decide +kernel)) ?_ ?_
    · intro M1 q9 hKn H locs ls hr
      refine lv_astore (nL := 5) (lv' := [(4, .ref q9), (0, .ref (α 0)), (1, .int p0), (2, .int p1), (3, .ref (α 97))]) hex hbt (show decode cL_likeness 13 = .ok (.astore 4, 2) by decide +kernel) hr.2.2 (by decide) rfl (fun ls2 hl2 => ?_)
      refine lv_iconst (v := 1) hex hbt (show decode cL_likeness 15 = .ok (.iconst 1, 1) by decide +kernel) (by decide) ?_
      exact vx_ret (W.iret hex hbt hret (fun t ht _ => ⟨1, M1, Or.inl ⟨rfl, hKn⟩, ⟨rfl, by rw [ht]; exact hr.1⟩, hr.2.1.F ht⟩) hr.2.1.2.2 (show decode cL_likeness 16 = .ok (.ireturn, 1) by decide +kernel))
    · intro v M1 hKs
      rcases hKv _ _ hKs with h | ⟨w, h⟩
      · cases h
      · cases h
        have hc2 : 0 + 1 ≤ hRoom.cells ∧ 0 + 6 ≤ hRoom.slots := hc1
        refine lw1 (E := eL_likeness) C hc2 (ins := .i2l) rfl rfl ?_
        refine lw1 (E := eL_likeness) C hc2 (ins := .lastore) rfl hlast ?_
        refine lw1 (E := eL_likeness) C hc2 (ins := .goto 7) rfl rfl ?_
        refine lw1 (E := eL_likeness) C hc2 (ins := .iconst 0) rfl rfl ?_
        intro H locs ls hr
        exact vx_ret (W.iret (v := Int32.ofInt 0) hex hbt hret (fun t ht _ => ⟨Int32.ofInt 0, jsl M1 97 0 w.toInt64, Or.inr ⟨by decide, w, M1, hKs, rfl⟩, ⟨rfl, by rw [ht]; exact hr.1⟩, hr.2.1.F ht⟩) hr.2.1.2.2 (show decode cL_likeness 18 = .ok (.ireturn, 1) by decide +kernel))
  refine K0 s.heap [] _ ⟨hP, va_S.rf, ?_⟩
  exact lv_entry (([.ref 0, .int p0, .int p1, .ref 97] : List Value).map (jv α)) (n := 5) (Nat.le_of_ble_eq_true rfl)
theorem site_share : xSite nX7_share cX7_share := xSite_of rfl 43 203 6 "no such share" (by decide) (by decide +kernel) (by decide +kernel) (by decide +kernel) (Or.inl ⟨by decide +kernel, rfl⟩) (by decide +kernel) (by decide +kernel)
def iL_share : List (Nat × List (Nat × Instr)) := [(100, [(0, .aload 5), (2, .iconst 0), (3, .aload_n 0), (4, .iload_n 1), (5, .iload_n 2), (6, .iload_n 3), (7, .iload 4), (9, .invokevirtual 23), (12, .lastore), (13, .goto 7), (16, .astore 6), (18, .iconst 1), (19, .ireturn), (20, .iconst 0), (21, .ireturn)])]
def eL_share : jE := (yL_share, cL_share, 7, some .int, 7, 12, true, 6)
theorem okL_share : lwOk eL_share (fun pc => jal2 pc iL_share) := lwOk_of (by decide +kernel)
set_option maxHeartbeats 4000000 in
set_option maxRecDepth 100000 in
theorem h_share {p0 p1 p2 p3 : Int32} {M : jM} {K : jK} (hev : jEv nX7_share (0, [(0, .ref 0), (1, .int p0), (2, .int p1), (3, .int p2), (4, .int p3)], [], M) K) (hKv : ∀ o M1, K o M1 → o = none ∨ ∃ v, o = some (some (.long v))) {α : Nat → Nat} {cA : Nat → ClassId} {D : va_G} {A : Nat → Prop} (hD : ∀ M, va_D A (jW jSH α cA M)) (l : Launch) (hl : l.stackTraces = false) :
    vx_Met l yL_share (Cond.codeWith yL_share cL_share 7 (some .int) [(0, 13, 16, 13)] :: jGW) hRoom (xPc D α cA A M [.ref 0, .int p0, .int p1, .int p2, .int p3, .ref 97]) (hQc D α cA A (hKl K)) (fun _ _ _ => False) 1 6 A := by
  refine vx_ofWH (cc := cL_share) (maxL := 7) (ret := some .int) (hh := [(0, 13, 16, 13)]) (by decide +kernel) rfl ?_
  intro p e s m args below meth c s₁ B hml hPc
  obtain ⟨rfl, hP, hK, hN, hZ⟩ := hPc
  have hts0 := atoms_spec (ws := Cond.codeWith yL_share cL_share 7 (some .int) [(0, 13, 16, 13)] :: jGW) B.pre
  have htab : c.exceptionTable.toList = [⟨0, 13, 16, 13⟩] := (vx_table (x := yL_share) B (hts0 _ List.mem_cons_self)).trans rfl
  have C : lwC eL_share (fun pc => jal2 pc iL_share) α cA D A p l hRoom s m (([.ref 0, .int p0, .int p1, .int p2, .int p3, .ref 97] : List Value).map (jv α)).toArray c := ⟨⟨B.exec, B.bytes, hml, findClass_of_methodNamed B.named, fun w hw => hts0 w (List.mem_cons_of_mem _ hw), hN, hK⟩, hD, Nat.le_refl 7, Nat.le_refl 238, okL_share, lwOk1 rfl, hZ, hl⟩
  have hex := B.exec
  have hbt := B.bytes
  have hret := B.returns
  rw [lg_entry_eq]
  have hc0 : 0 ≤ hRoom.cells ∧ 0 ≤ hRoom.slots := ⟨Nat.zero_le _, Nat.zero_le _⟩
  have hc1 : 0 + 1 ≤ hRoom.cells ∧ 0 + 6 ≤ hRoom.slots := ⟨Nat.le_refl _, Nat.le_refl _⟩
  have K0 : jG jSH α cA vwCl D A s.heap 7 p l e hRoom s m (([.ref 0, .int p0, .int p1, .int p2, .int p3, .ref 97] : List Value).map (jv α)).toArray below meth c 0 0 (vx_MQ below (hQc D α cA A (hKl K)) (fun _ _ _ => False) (([.ref 0, .int p0, .int p1, .int p2, .int p3, .ref 97] : List Value).map (jv α)).toArray s 1 6 A) (0, [(0, .ref 0), (1, .int p0), (2, .int p1), (3, .int p2), (4, .int p3), (5, .ref 97)], [], M) := by
    refine lw1 (E := eL_share) C hc0 (ins := .aload 5) rfl rfl ?_
    refine lw1 (E := eL_share) C hc0 (ins := .iconst 0) rfl rfl ?_
    refine lw1 (E := eL_share) C hc0 (ins := .aload_n 0) rfl rfl ?_
    refine lw1 (E := eL_share) C hc0 (ins := .iload_n 1) rfl rfl ?_
    refine lw1 (E := eL_share) C hc0 (ins := .iload_n 2) rfl rfl ?_
    refine lw1 (E := eL_share) C hc0 (ins := .iload_n 3) rfl rfl ?_
    refine lw1 (E := eL_share) C hc0 (ins := .iload 4) rfl rfl ?_
    refine lwVX (E := eL_share) C hc1 ⟨by decide, by decide⟩ (idx := 23) (y := nX7_share) (F := me_X7_share) rfl rfl rfl (as' := [.int p0, .int p1, .int p2, .int p3]) (rest := [.int (Int32.ofInt 0), .ref 97]) rfl rfl rfl (Nat.le_of_ble_eq_true rfl) (by decide) (by decide) rfl site_share (jGW_of (by decide +kernel)) hev ⟨0, 13, 16, 13⟩ htab rfl (by decide) (jGW_of (by decide +kernel)) ?_ ?_
    · intro M1 q9 hKn H locs ls hr
      refine lv_astore (nL := 7) (lv' := [(6, .ref q9), (0, .ref (α 0)), (1, .int p0), (2, .int p1), (3, .int p2), (4, .int p3), (5, .ref (α 97))]) hex hbt (show decode cL_share 16 = .ok (.astore 6, 2) by decide +kernel) hr.2.2 (by decide) rfl (fun ls2 hl2 => ?_)
      refine lv_iconst (v := 1) hex hbt (show decode cL_share 18 = .ok (.iconst 1, 1) by decide +kernel) (by decide) ?_
      exact vx_ret (W.iret hex hbt hret (fun t ht _ => ⟨1, M1, Or.inl ⟨rfl, hKn⟩, ⟨rfl, by rw [ht]; exact hr.1⟩, hr.2.1.F ht⟩) hr.2.1.2.2 (show decode cL_share 19 = .ok (.ireturn, 1) by decide +kernel))
    · intro v M1 hKs
      rcases hKv _ _ hKs with h | ⟨w, h⟩
      · cases h
      · cases h
        have hc2 : 0 + 1 ≤ hRoom.cells ∧ 0 + 6 ≤ hRoom.slots := hc1
        refine lw1 (E := eL_share) C hc2 (ins := .lastore) rfl hlast ?_
        refine lw1 (E := eL_share) C hc2 (ins := .goto 7) rfl rfl ?_
        refine lw1 (E := eL_share) C hc2 (ins := .iconst 0) rfl rfl ?_
        intro H locs ls hr
        exact vx_ret (W.iret (v := Int32.ofInt 0) hex hbt hret (fun t ht _ => ⟨Int32.ofInt 0, jsl M1 97 0 w, Or.inr ⟨by decide, w, M1, hKs, rfl⟩, ⟨rfl, by rw [ht]; exact hr.1⟩, hr.2.1.F ht⟩) hr.2.1.2.2 (show decode cL_share 21 = .ok (.ireturn, 1) by decide +kernel))
  refine K0 s.heap [] _ ⟨hP, va_S.rf, ?_⟩
  exact lv_entry (([.ref 0, .int p0, .int p1, .int p2, .int p3, .ref 97] : List Value).map (jv α)) (n := 7) (Nat.le_of_ble_eq_true rfl)
theorem site_left : xSite nX7_left cX7_left := xSite_of rfl 36 211 6 "no such step" (by decide) (by decide +kernel) (by decide +kernel) (by decide +kernel) (Or.inl ⟨by decide +kernel, rfl⟩) (by decide +kernel) (by decide +kernel)
def iL_left : List (Nat × List (Nat × Instr)) := [(100, [(0, .aload 4), (2, .iconst 0), (3, .aload_n 0), (4, .iload_n 1), (5, .iload_n 2), (6, .iload_n 3), (7, .invokevirtual 27), (10, .lastore), (11, .goto 7), (14, .astore 5), (16, .iconst 1), (17, .ireturn), (18, .iconst 0), (19, .ireturn)])]
def eL_left : jE := (yL_left, cL_left, 6, some .int, 7, 12, true, 5)
theorem okL_left : lwOk eL_left (fun pc => jal2 pc iL_left) := lwOk_of (by decide +kernel)
set_option maxHeartbeats 4000000 in
set_option maxRecDepth 100000 in
theorem h_left {p0 p1 p2 : Int32} {M : jM} {K : jK} (hev : jEv nX7_left (0, [(0, .ref 0), (1, .int p0), (2, .int p1), (3, .int p2)], [], M) K) (hKv : ∀ o M1, K o M1 → o = none ∨ ∃ v, o = some (some (.long v))) {α : Nat → Nat} {cA : Nat → ClassId} {D : va_G} {A : Nat → Prop} (hD : ∀ M, va_D A (jW jSH α cA M)) (l : Launch) (hl : l.stackTraces = false) :
    vx_Met l yL_left (Cond.codeWith yL_left cL_left 6 (some .int) [(0, 11, 14, 13)] :: jGW) hRoom (xPc D α cA A M [.ref 0, .int p0, .int p1, .int p2, .ref 97]) (hQc D α cA A (hKl K)) (fun _ _ _ => False) 1 6 A := by
  refine vx_ofWH (cc := cL_left) (maxL := 6) (ret := some .int) (hh := [(0, 11, 14, 13)]) (by decide +kernel) rfl ?_
  intro p e s m args below meth c s₁ B hml hPc
  obtain ⟨rfl, hP, hK, hN, hZ⟩ := hPc
  have hts0 := atoms_spec (ws := Cond.codeWith yL_left cL_left 6 (some .int) [(0, 11, 14, 13)] :: jGW) B.pre
  have htab : c.exceptionTable.toList = [⟨0, 11, 14, 13⟩] := (vx_table (x := yL_left) B (hts0 _ List.mem_cons_self)).trans rfl
  have C : lwC eL_left (fun pc => jal2 pc iL_left) α cA D A p l hRoom s m (([.ref 0, .int p0, .int p1, .int p2, .ref 97] : List Value).map (jv α)).toArray c := ⟨⟨B.exec, B.bytes, hml, findClass_of_methodNamed B.named, fun w hw => hts0 w (List.mem_cons_of_mem _ hw), hN, hK⟩, hD, Nat.le_refl 7, Nat.le_refl 238, okL_left, lwOk1 rfl, hZ, hl⟩
  have hex := B.exec
  have hbt := B.bytes
  have hret := B.returns
  rw [lg_entry_eq]
  have hc0 : 0 ≤ hRoom.cells ∧ 0 ≤ hRoom.slots := ⟨Nat.zero_le _, Nat.zero_le _⟩
  have hc1 : 0 + 1 ≤ hRoom.cells ∧ 0 + 6 ≤ hRoom.slots := ⟨Nat.le_refl _, Nat.le_refl _⟩
  have K0 : jG jSH α cA vwCl D A s.heap 6 p l e hRoom s m (([.ref 0, .int p0, .int p1, .int p2, .ref 97] : List Value).map (jv α)).toArray below meth c 0 0 (vx_MQ below (hQc D α cA A (hKl K)) (fun _ _ _ => False) (([.ref 0, .int p0, .int p1, .int p2, .ref 97] : List Value).map (jv α)).toArray s 1 6 A) (0, [(0, .ref 0), (1, .int p0), (2, .int p1), (3, .int p2), (4, .ref 97)], [], M) := by
    refine lw1 (E := eL_left) C hc0 (ins := .aload 4) rfl rfl ?_
    refine lw1 (E := eL_left) C hc0 (ins := .iconst 0) rfl rfl ?_
    refine lw1 (E := eL_left) C hc0 (ins := .aload_n 0) rfl rfl ?_
    refine lw1 (E := eL_left) C hc0 (ins := .iload_n 1) rfl rfl ?_
    refine lw1 (E := eL_left) C hc0 (ins := .iload_n 2) rfl rfl ?_
    refine lw1 (E := eL_left) C hc0 (ins := .iload_n 3) rfl rfl ?_
    refine lwVX (E := eL_left) C hc1 ⟨by decide, by decide⟩ (idx := 27) (y := nX7_left) (F := me_X7_left) rfl rfl rfl (as' := [.int p0, .int p1, .int p2]) (rest := [.int (Int32.ofInt 0), .ref 97]) rfl rfl rfl (Nat.le_of_ble_eq_true rfl) (by decide) (by decide) rfl site_left (jGW_of (by decide +kernel)) hev ⟨0, 11, 14, 13⟩ htab rfl (by decide) (jGW_of (by decide +kernel)) ?_ ?_
    · intro M1 q9 hKn H locs ls hr
      refine lv_astore (nL := 6) (lv' := [(5, .ref q9), (0, .ref (α 0)), (1, .int p0), (2, .int p1), (3, .int p2), (4, .ref (α 97))]) hex hbt (show decode cL_left 14 = .ok (.astore 5, 2) by decide +kernel) hr.2.2 (by decide) rfl (fun ls2 hl2 => ?_)
      refine lv_iconst (v := 1) hex hbt (show decode cL_left 16 = .ok (.iconst 1, 1) by decide +kernel) (by decide) ?_
      exact vx_ret (W.iret hex hbt hret (fun t ht _ => ⟨1, M1, Or.inl ⟨rfl, hKn⟩, ⟨rfl, by rw [ht]; exact hr.1⟩, hr.2.1.F ht⟩) hr.2.1.2.2 (show decode cL_left 17 = .ok (.ireturn, 1) by decide +kernel))
    · intro v M1 hKs
      rcases hKv _ _ hKs with h | ⟨w, h⟩
      · cases h
      · cases h
        have hc2 : 0 + 1 ≤ hRoom.cells ∧ 0 + 6 ≤ hRoom.slots := hc1
        refine lw1 (E := eL_left) C hc2 (ins := .lastore) rfl hlast ?_
        refine lw1 (E := eL_left) C hc2 (ins := .goto 7) rfl rfl ?_
        refine lw1 (E := eL_left) C hc2 (ins := .iconst 0) rfl rfl ?_
        intro H locs ls hr
        exact vx_ret (W.iret (v := Int32.ofInt 0) hex hbt hret (fun t ht _ => ⟨Int32.ofInt 0, jsl M1 97 0 w, Or.inr ⟨by decide, w, M1, hKs, rfl⟩, ⟨rfl, by rw [ht]; exact hr.1⟩, hr.2.1.F ht⟩) hr.2.1.2.2 (show decode cL_left 19 = .ok (.ireturn, 1) by decide +kernel))
  refine K0 s.heap [] _ ⟨hP, va_S.rf, ?_⟩
  exact lv_entry (([.ref 0, .int p0, .int p1, .int p2, .ref 97] : List Value).map (jv α)) (n := 6) (Nat.le_of_ble_eq_true rfl)
theorem site_next : xSite nX7_next cX7_next := xSite_of rfl 43 250 6 "no such guess" (by decide) (by decide +kernel) (by decide +kernel) (by decide +kernel) (Or.inl ⟨by decide +kernel, rfl⟩) (by decide +kernel) (by decide +kernel)
def iL_next : List (Nat × List (Nat × Instr)) := [(100, [(0, .aload 4), (2, .iconst 0), (3, .aload_n 0), (4, .iload_n 1), (5, .iload_n 2), (6, .iload_n 3), (7, .invokevirtual 30), (10, .lastore), (11, .goto 7), (14, .astore 5), (16, .iconst 1), (17, .ireturn), (18, .iconst 0), (19, .ireturn)])]
def eL_next : jE := (yL_next, cL_next, 6, some .int, 7, 12, true, 5)
theorem okL_next : lwOk eL_next (fun pc => jal2 pc iL_next) := lwOk_of (by decide +kernel)
set_option maxHeartbeats 4000000 in
set_option maxRecDepth 100000 in
theorem h_next {p0 p1 p2 : Int32} {M : jM} {K : jK} (hev : jEv nX7_next (0, [(0, .ref 0), (1, .int p0), (2, .int p1), (3, .int p2)], [], M) K) (hKv : ∀ o M1, K o M1 → o = none ∨ ∃ v, o = some (some (.long v))) {α : Nat → Nat} {cA : Nat → ClassId} {D : va_G} {A : Nat → Prop} (hD : ∀ M, va_D A (jW jSH α cA M)) (l : Launch) (hl : l.stackTraces = false) :
    vx_Met l yL_next (Cond.codeWith yL_next cL_next 6 (some .int) [(0, 11, 14, 13)] :: jGW) hRoom (xPc D α cA A M [.ref 0, .int p0, .int p1, .int p2, .ref 97]) (hQc D α cA A (hKl K)) (fun _ _ _ => False) 1 6 A := by
  refine vx_ofWH (cc := cL_next) (maxL := 6) (ret := some .int) (hh := [(0, 11, 14, 13)]) (by decide +kernel) rfl ?_
  intro p e s m args below meth c s₁ B hml hPc
  obtain ⟨rfl, hP, hK, hN, hZ⟩ := hPc
  have hts0 := atoms_spec (ws := Cond.codeWith yL_next cL_next 6 (some .int) [(0, 11, 14, 13)] :: jGW) B.pre
  have htab : c.exceptionTable.toList = [⟨0, 11, 14, 13⟩] := (vx_table (x := yL_next) B (hts0 _ List.mem_cons_self)).trans rfl
  have C : lwC eL_next (fun pc => jal2 pc iL_next) α cA D A p l hRoom s m (([.ref 0, .int p0, .int p1, .int p2, .ref 97] : List Value).map (jv α)).toArray c := ⟨⟨B.exec, B.bytes, hml, findClass_of_methodNamed B.named, fun w hw => hts0 w (List.mem_cons_of_mem _ hw), hN, hK⟩, hD, Nat.le_refl 7, Nat.le_refl 238, okL_next, lwOk1 rfl, hZ, hl⟩
  have hex := B.exec
  have hbt := B.bytes
  have hret := B.returns
  rw [lg_entry_eq]
  have hc0 : 0 ≤ hRoom.cells ∧ 0 ≤ hRoom.slots := ⟨Nat.zero_le _, Nat.zero_le _⟩
  have hc1 : 0 + 1 ≤ hRoom.cells ∧ 0 + 6 ≤ hRoom.slots := ⟨Nat.le_refl _, Nat.le_refl _⟩
  have K0 : jG jSH α cA vwCl D A s.heap 6 p l e hRoom s m (([.ref 0, .int p0, .int p1, .int p2, .ref 97] : List Value).map (jv α)).toArray below meth c 0 0 (vx_MQ below (hQc D α cA A (hKl K)) (fun _ _ _ => False) (([.ref 0, .int p0, .int p1, .int p2, .ref 97] : List Value).map (jv α)).toArray s 1 6 A) (0, [(0, .ref 0), (1, .int p0), (2, .int p1), (3, .int p2), (4, .ref 97)], [], M) := by
    refine lw1 (E := eL_next) C hc0 (ins := .aload 4) rfl rfl ?_
    refine lw1 (E := eL_next) C hc0 (ins := .iconst 0) rfl rfl ?_
    refine lw1 (E := eL_next) C hc0 (ins := .aload_n 0) rfl rfl ?_
    refine lw1 (E := eL_next) C hc0 (ins := .iload_n 1) rfl rfl ?_
    refine lw1 (E := eL_next) C hc0 (ins := .iload_n 2) rfl rfl ?_
    refine lw1 (E := eL_next) C hc0 (ins := .iload_n 3) rfl rfl ?_
    refine lwVX (E := eL_next) C hc1 ⟨by decide, by decide⟩ (idx := 30) (y := nX7_next) (F := me_X7_next) rfl rfl rfl (as' := [.int p0, .int p1, .int p2]) (rest := [.int (Int32.ofInt 0), .ref 97]) rfl rfl rfl (Nat.le_of_ble_eq_true rfl) (by decide) (by decide) rfl site_next (jGW_of (by decide +kernel)) hev ⟨0, 11, 14, 13⟩ htab rfl (by decide) (jGW_of (by decide +kernel)) ?_ ?_
    · intro M1 q9 hKn H locs ls hr
      refine lv_astore (nL := 6) (lv' := [(5, .ref q9), (0, .ref (α 0)), (1, .int p0), (2, .int p1), (3, .int p2), (4, .ref (α 97))]) hex hbt (show decode cL_next 14 = .ok (.astore 5, 2) by decide +kernel) hr.2.2 (by decide) rfl (fun ls2 hl2 => ?_)
      refine lv_iconst (v := 1) hex hbt (show decode cL_next 16 = .ok (.iconst 1, 1) by decide +kernel) (by decide) ?_
      exact vx_ret (W.iret hex hbt hret (fun t ht _ => ⟨1, M1, Or.inl ⟨rfl, hKn⟩, ⟨rfl, by rw [ht]; exact hr.1⟩, hr.2.1.F ht⟩) hr.2.1.2.2 (show decode cL_next 17 = .ok (.ireturn, 1) by decide +kernel))
    · intro v M1 hKs
      rcases hKv _ _ hKs with h | ⟨w, h⟩
      · cases h
      · cases h
        have hc2 : 0 + 1 ≤ hRoom.cells ∧ 0 + 6 ≤ hRoom.slots := hc1
        refine lw1 (E := eL_next) C hc2 (ins := .lastore) rfl hlast ?_
        refine lw1 (E := eL_next) C hc2 (ins := .goto 7) rfl rfl ?_
        refine lw1 (E := eL_next) C hc2 (ins := .iconst 0) rfl rfl ?_
        intro H locs ls hr
        exact vx_ret (W.iret (v := Int32.ofInt 0) hex hbt hret (fun t ht _ => ⟨Int32.ofInt 0, jsl M1 97 0 w, Or.inr ⟨by decide, w, M1, hKs, rfl⟩, ⟨rfl, by rw [ht]; exact hr.1⟩, hr.2.1.F ht⟩) hr.2.1.2.2 (show decode cL_next 19 = .ok (.ireturn, 1) by decide +kernel))
  refine K0 s.heap [] _ ⟨hP, va_S.rf, ?_⟩
  exact lv_entry (([.ref 0, .int p0, .int p1, .int p2, .ref 97] : List Value).map (jv α)) (n := 6) (Nat.le_of_ble_eq_true rfl)
theorem site_squares : xSite nX7_squares cX7_squares := xSite_of rfl 17 260 7 "no such squares" (by decide) (by decide +kernel) (by decide +kernel) (by decide +kernel) (Or.inr ⟨by decide +kernel, rfl⟩) (by decide +kernel) (by decide +kernel)
def iL_squares : List (Nat × List (Nat × Instr)) := [(100, [(0, .aload_n 3), (1, .iconst 0), (2, .aload_n 0), (3, .iload_n 1), (4, .iload_n 2), (5, .invokevirtual 33), (8, .lastore), (9, .goto 7), (12, .astore 4), (14, .iconst 1), (15, .ireturn), (16, .iconst 0), (17, .ireturn)])]
def eL_squares : jE := (yL_squares, cL_squares, 5, some .int, 7, 12, true, 4)
theorem okL_squares : lwOk eL_squares (fun pc => jal2 pc iL_squares) := lwOk_of (by decide +kernel)
set_option maxHeartbeats 4000000 in
set_option maxRecDepth 100000 in
theorem h_squares {p0 p1 : Int32} {M : jM} {K : jK} (hev : jEv nX7_squares (0, [(0, .ref 0), (1, .int p0), (2, .int p1)], [], M) K) (hKv : ∀ o M1, K o M1 → o = none ∨ ∃ v, o = some (some (.long v))) {α : Nat → Nat} {cA : Nat → ClassId} {D : va_G} {A : Nat → Prop} (hD : ∀ M, va_D A (jW jSH α cA M)) (l : Launch) (hl : l.stackTraces = false) :
    vx_Met l yL_squares (Cond.codeWith yL_squares cL_squares 5 (some .int) [(0, 9, 12, 13)] :: jGW) hRoom (xPc D α cA A M [.ref 0, .int p0, .int p1, .ref 97]) (hQc D α cA A (hKl K)) (fun _ _ _ => False) 1 6 A := by
  refine vx_ofWH (cc := cL_squares) (maxL := 5) (ret := some .int) (hh := [(0, 9, 12, 13)]) (by decide +kernel) rfl ?_
  intro p e s m args below meth c s₁ B hml hPc
  obtain ⟨rfl, hP, hK, hN, hZ⟩ := hPc
  have hts0 := atoms_spec (ws := Cond.codeWith yL_squares cL_squares 5 (some .int) [(0, 9, 12, 13)] :: jGW) B.pre
  have htab : c.exceptionTable.toList = [⟨0, 9, 12, 13⟩] := (vx_table (x := yL_squares) B (hts0 _ List.mem_cons_self)).trans rfl
  have C : lwC eL_squares (fun pc => jal2 pc iL_squares) α cA D A p l hRoom s m (([.ref 0, .int p0, .int p1, .ref 97] : List Value).map (jv α)).toArray c := ⟨⟨B.exec, B.bytes, hml, findClass_of_methodNamed B.named, fun w hw => hts0 w (List.mem_cons_of_mem _ hw), hN, hK⟩, hD, Nat.le_refl 7, Nat.le_refl 238, okL_squares, lwOk1 rfl, hZ, hl⟩
  have hex := B.exec
  have hbt := B.bytes
  have hret := B.returns
  rw [lg_entry_eq]
  have hc0 : 0 ≤ hRoom.cells ∧ 0 ≤ hRoom.slots := ⟨Nat.zero_le _, Nat.zero_le _⟩
  have hc1 : 0 + 1 ≤ hRoom.cells ∧ 0 + 6 ≤ hRoom.slots := ⟨Nat.le_refl _, Nat.le_refl _⟩
  have K0 : jG jSH α cA vwCl D A s.heap 5 p l e hRoom s m (([.ref 0, .int p0, .int p1, .ref 97] : List Value).map (jv α)).toArray below meth c 0 0 (vx_MQ below (hQc D α cA A (hKl K)) (fun _ _ _ => False) (([.ref 0, .int p0, .int p1, .ref 97] : List Value).map (jv α)).toArray s 1 6 A) (0, [(0, .ref 0), (1, .int p0), (2, .int p1), (3, .ref 97)], [], M) := by
    refine lw1 (E := eL_squares) C hc0 (ins := .aload_n 3) rfl rfl ?_
    refine lw1 (E := eL_squares) C hc0 (ins := .iconst 0) rfl rfl ?_
    refine lw1 (E := eL_squares) C hc0 (ins := .aload_n 0) rfl rfl ?_
    refine lw1 (E := eL_squares) C hc0 (ins := .iload_n 1) rfl rfl ?_
    refine lw1 (E := eL_squares) C hc0 (ins := .iload_n 2) rfl rfl ?_
    refine lwVX (E := eL_squares) C hc1 ⟨by decide, by decide⟩ (idx := 33) (y := nX7_squares) (F := me_X7_squares) rfl rfl rfl (as' := [.int p0, .int p1]) (rest := [.int (Int32.ofInt 0), .ref 97]) rfl rfl rfl (Nat.le_of_ble_eq_true rfl) (by decide) (by decide) rfl site_squares (jGW_of (by decide +kernel)) hev ⟨0, 9, 12, 13⟩ htab rfl (by decide) (jGW_of (by decide +kernel)) ?_ ?_
    · intro M1 q9 hKn H locs ls hr
      refine lv_astore (nL := 5) (lv' := [(4, .ref q9), (0, .ref (α 0)), (1, .int p0), (2, .int p1), (3, .ref (α 97))]) hex hbt (show decode cL_squares 12 = .ok (.astore 4, 2) by decide +kernel) hr.2.2 (by decide) rfl (fun ls2 hl2 => ?_)
      refine lv_iconst (v := 1) hex hbt (show decode cL_squares 14 = .ok (.iconst 1, 1) by decide +kernel) (by decide) ?_
      exact vx_ret (W.iret hex hbt hret (fun t ht _ => ⟨1, M1, Or.inl ⟨rfl, hKn⟩, ⟨rfl, by rw [ht]; exact hr.1⟩, hr.2.1.F ht⟩) hr.2.1.2.2 (show decode cL_squares 15 = .ok (.ireturn, 1) by decide +kernel))
    · intro v M1 hKs
      rcases hKv _ _ hKs with h | ⟨w, h⟩
      · cases h
      · cases h
        have hc2 : 0 + 1 ≤ hRoom.cells ∧ 0 + 6 ≤ hRoom.slots := hc1
        refine lw1 (E := eL_squares) C hc2 (ins := .lastore) rfl hlast ?_
        refine lw1 (E := eL_squares) C hc2 (ins := .goto 7) rfl rfl ?_
        refine lw1 (E := eL_squares) C hc2 (ins := .iconst 0) rfl rfl ?_
        intro H locs ls hr
        exact vx_ret (W.iret (v := Int32.ofInt 0) hex hbt hret (fun t ht _ => ⟨Int32.ofInt 0, jsl M1 97 0 w, Or.inr ⟨by decide, w, M1, hKs, rfl⟩, ⟨rfl, by rw [ht]; exact hr.1⟩, hr.2.1.F ht⟩) hr.2.1.2.2 (show decode cL_squares 17 = .ok (.ireturn, 1) by decide +kernel))
  refine K0 s.heap [] _ ⟨hP, va_S.rf, ?_⟩
  exact lv_entry (([.ref 0, .int p0, .int p1, .ref 97] : List Value).map (jv α)) (n := 5) (Nat.le_of_ble_eq_true rfl)
theorem site_filled : xSite nX7_filled cX7_filled := xSite_of rfl 19 273 7 "no such filling" (by decide) (by decide +kernel) (by decide +kernel) (by decide +kernel) (Or.inr ⟨by decide +kernel, rfl⟩) (by decide +kernel) (by decide +kernel)
def iL_filled : List (Nat × List (Nat × Instr)) := [(100, [(0, .aload_n 3), (1, .iconst 0), (2, .aload_n 0), (3, .iload_n 1), (4, .iload_n 2), (5, .invokevirtual 37), (8, .lastore), (9, .goto 7), (12, .astore 4), (14, .iconst 1), (15, .ireturn), (16, .iconst 0), (17, .ireturn)])]
def eL_filled : jE := (yL_filled, cL_filled, 5, some .int, 7, 12, true, 4)
theorem okL_filled : lwOk eL_filled (fun pc => jal2 pc iL_filled) := lwOk_of (by decide +kernel)
set_option maxHeartbeats 4000000 in
set_option maxRecDepth 100000 in
theorem h_filled {p0 p1 : Int32} {M : jM} {K : jK} (hev : jEv nX7_filled (0, [(0, .ref 0), (1, .int p0), (2, .int p1)], [], M) K) (hKv : ∀ o M1, K o M1 → o = none ∨ ∃ v, o = some (some (.long v))) {α : Nat → Nat} {cA : Nat → ClassId} {D : va_G} {A : Nat → Prop} (hD : ∀ M, va_D A (jW jSH α cA M)) (l : Launch) (hl : l.stackTraces = false) :
    vx_Met l yL_filled (Cond.codeWith yL_filled cL_filled 5 (some .int) [(0, 9, 12, 13)] :: jGW) hRoom (xPc D α cA A M [.ref 0, .int p0, .int p1, .ref 97]) (hQc D α cA A (hKl K)) (fun _ _ _ => False) 1 6 A := by
  refine vx_ofWH (cc := cL_filled) (maxL := 5) (ret := some .int) (hh := [(0, 9, 12, 13)]) (by decide +kernel) rfl ?_
  intro p e s m args below meth c s₁ B hml hPc
  obtain ⟨rfl, hP, hK, hN, hZ⟩ := hPc
  have hts0 := atoms_spec (ws := Cond.codeWith yL_filled cL_filled 5 (some .int) [(0, 9, 12, 13)] :: jGW) B.pre
  have htab : c.exceptionTable.toList = [⟨0, 9, 12, 13⟩] := (vx_table (x := yL_filled) B (hts0 _ List.mem_cons_self)).trans rfl
  have C : lwC eL_filled (fun pc => jal2 pc iL_filled) α cA D A p l hRoom s m (([.ref 0, .int p0, .int p1, .ref 97] : List Value).map (jv α)).toArray c := ⟨⟨B.exec, B.bytes, hml, findClass_of_methodNamed B.named, fun w hw => hts0 w (List.mem_cons_of_mem _ hw), hN, hK⟩, hD, Nat.le_refl 7, Nat.le_refl 238, okL_filled, lwOk1 rfl, hZ, hl⟩
  have hex := B.exec
  have hbt := B.bytes
  have hret := B.returns
  rw [lg_entry_eq]
  have hc0 : 0 ≤ hRoom.cells ∧ 0 ≤ hRoom.slots := ⟨Nat.zero_le _, Nat.zero_le _⟩
  have hc1 : 0 + 1 ≤ hRoom.cells ∧ 0 + 6 ≤ hRoom.slots := ⟨Nat.le_refl _, Nat.le_refl _⟩
  have K0 : jG jSH α cA vwCl D A s.heap 5 p l e hRoom s m (([.ref 0, .int p0, .int p1, .ref 97] : List Value).map (jv α)).toArray below meth c 0 0 (vx_MQ below (hQc D α cA A (hKl K)) (fun _ _ _ => False) (([.ref 0, .int p0, .int p1, .ref 97] : List Value).map (jv α)).toArray s 1 6 A) (0, [(0, .ref 0), (1, .int p0), (2, .int p1), (3, .ref 97)], [], M) := by
    refine lw1 (E := eL_filled) C hc0 (ins := .aload_n 3) rfl rfl ?_
    refine lw1 (E := eL_filled) C hc0 (ins := .iconst 0) rfl rfl ?_
    refine lw1 (E := eL_filled) C hc0 (ins := .aload_n 0) rfl rfl ?_
    refine lw1 (E := eL_filled) C hc0 (ins := .iload_n 1) rfl rfl ?_
    refine lw1 (E := eL_filled) C hc0 (ins := .iload_n 2) rfl rfl ?_
    refine lwVX (E := eL_filled) C hc1 ⟨by decide, by decide⟩ (idx := 37) (y := nX7_filled) (F := me_X7_filled) rfl rfl rfl (as' := [.int p0, .int p1]) (rest := [.int (Int32.ofInt 0), .ref 97]) rfl rfl rfl (Nat.le_of_ble_eq_true rfl) (by decide) (by decide) rfl site_filled (jGW_of (by decide +kernel)) hev ⟨0, 9, 12, 13⟩ htab rfl (by decide) (jGW_of (by decide +kernel)) ?_ ?_
    · intro M1 q9 hKn H locs ls hr
      refine lv_astore (nL := 5) (lv' := [(4, .ref q9), (0, .ref (α 0)), (1, .int p0), (2, .int p1), (3, .ref (α 97))]) hex hbt (show decode cL_filled 12 = .ok (.astore 4, 2) by decide +kernel) hr.2.2 (by decide) rfl (fun ls2 hl2 => ?_)
      refine lv_iconst (v := 1) hex hbt (show decode cL_filled 14 = .ok (.iconst 1, 1) by decide +kernel) (by decide) ?_
      exact vx_ret (W.iret hex hbt hret (fun t ht _ => ⟨1, M1, Or.inl ⟨rfl, hKn⟩, ⟨rfl, by rw [ht]; exact hr.1⟩, hr.2.1.F ht⟩) hr.2.1.2.2 (show decode cL_filled 15 = .ok (.ireturn, 1) by decide +kernel))
    · intro v M1 hKs
      rcases hKv _ _ hKs with h | ⟨w, h⟩
      · cases h
      · cases h
        have hc2 : 0 + 1 ≤ hRoom.cells ∧ 0 + 6 ≤ hRoom.slots := hc1
        refine lw1 (E := eL_filled) C hc2 (ins := .lastore) rfl hlast ?_
        refine lw1 (E := eL_filled) C hc2 (ins := .goto 7) rfl rfl ?_
        refine lw1 (E := eL_filled) C hc2 (ins := .iconst 0) rfl rfl ?_
        intro H locs ls hr
        exact vx_ret (W.iret (v := Int32.ofInt 0) hex hbt hret (fun t ht _ => ⟨Int32.ofInt 0, jsl M1 97 0 w, Or.inr ⟨by decide, w, M1, hKs, rfl⟩, ⟨rfl, by rw [ht]; exact hr.1⟩, hr.2.1.F ht⟩) hr.2.1.2.2 (show decode cL_filled 17 = .ok (.ireturn, 1) by decide +kernel))
  refine K0 s.heap [] _ ⟨hP, va_S.rf, ?_⟩
  exact lv_entry (([.ref 0, .int p0, .int p1, .ref 97] : List Value).map (jv α)) (n := 5) (Nat.le_of_ble_eq_true rfl)
theorem site_lower : xSite nX7_lower cX7_lower := xSite_of rfl 14 289 7 "nothing was found amiss" (by decide) (by decide +kernel) (by decide +kernel) (by decide +kernel) (Or.inr ⟨by decide +kernel, rfl⟩) (by decide +kernel) (by decide +kernel)
def iL_lower : List (Nat × List (Nat × Instr)) := [(100, [(0, .aload_n 2), (1, .iconst 0), (2, .aload_n 0), (3, .iload_n 1), (4, .invokevirtual 40), (7, .lastore), (8, .goto 6), (11, .astore_n 3), (12, .iconst 1), (13, .ireturn), (14, .iconst 0), (15, .ireturn)])]
def eL_lower : jE := (yL_lower, cL_lower, 4, some .int, 7, 12, true, 3)
theorem okL_lower : lwOk eL_lower (fun pc => jal2 pc iL_lower) := lwOk_of (by decide +kernel)
set_option maxHeartbeats 4000000 in
set_option maxRecDepth 100000 in
theorem h_lower {p0 : Int32} {M : jM} {K : jK} (hev : jEv nX7_lower (0, [(0, .ref 0), (1, .int p0)], [], M) K) (hKv : ∀ o M1, K o M1 → o = none ∨ ∃ v, o = some (some (.long v))) {α : Nat → Nat} {cA : Nat → ClassId} {D : va_G} {A : Nat → Prop} (hD : ∀ M, va_D A (jW jSH α cA M)) (l : Launch) (hl : l.stackTraces = false) :
    vx_Met l yL_lower (Cond.codeWith yL_lower cL_lower 4 (some .int) [(0, 8, 11, 13)] :: jGW) hRoom (xPc D α cA A M [.ref 0, .int p0, .ref 97]) (hQc D α cA A (hKl K)) (fun _ _ _ => False) 1 6 A := by
  refine vx_ofWH (cc := cL_lower) (maxL := 4) (ret := some .int) (hh := [(0, 8, 11, 13)]) (by decide +kernel) rfl ?_
  intro p e s m args below meth c s₁ B hml hPc
  obtain ⟨rfl, hP, hK, hN, hZ⟩ := hPc
  have hts0 := atoms_spec (ws := Cond.codeWith yL_lower cL_lower 4 (some .int) [(0, 8, 11, 13)] :: jGW) B.pre
  have htab : c.exceptionTable.toList = [⟨0, 8, 11, 13⟩] := (vx_table (x := yL_lower) B (hts0 _ List.mem_cons_self)).trans rfl
  have C : lwC eL_lower (fun pc => jal2 pc iL_lower) α cA D A p l hRoom s m (([.ref 0, .int p0, .ref 97] : List Value).map (jv α)).toArray c := ⟨⟨B.exec, B.bytes, hml, findClass_of_methodNamed B.named, fun w hw => hts0 w (List.mem_cons_of_mem _ hw), hN, hK⟩, hD, Nat.le_refl 7, Nat.le_refl 238, okL_lower, lwOk1 rfl, hZ, hl⟩
  have hex := B.exec
  have hbt := B.bytes
  have hret := B.returns
  rw [lg_entry_eq]
  have hc0 : 0 ≤ hRoom.cells ∧ 0 ≤ hRoom.slots := ⟨Nat.zero_le _, Nat.zero_le _⟩
  have hc1 : 0 + 1 ≤ hRoom.cells ∧ 0 + 6 ≤ hRoom.slots := ⟨Nat.le_refl _, Nat.le_refl _⟩
  have K0 : jG jSH α cA vwCl D A s.heap 4 p l e hRoom s m (([.ref 0, .int p0, .ref 97] : List Value).map (jv α)).toArray below meth c 0 0 (vx_MQ below (hQc D α cA A (hKl K)) (fun _ _ _ => False) (([.ref 0, .int p0, .ref 97] : List Value).map (jv α)).toArray s 1 6 A) (0, [(0, .ref 0), (1, .int p0), (2, .ref 97)], [], M) := by
    refine lw1 (E := eL_lower) C hc0 (ins := .aload_n 2) rfl rfl ?_
    refine lw1 (E := eL_lower) C hc0 (ins := .iconst 0) rfl rfl ?_
    refine lw1 (E := eL_lower) C hc0 (ins := .aload_n 0) rfl rfl ?_
    refine lw1 (E := eL_lower) C hc0 (ins := .iload_n 1) rfl rfl ?_
    refine lwVX (E := eL_lower) C hc1 ⟨by decide, by decide⟩ (idx := 40) (y := nX7_lower) (F := me_X7_lower) rfl rfl rfl (as' := [.int p0]) (rest := [.int (Int32.ofInt 0), .ref 97]) rfl rfl rfl (Nat.le_of_ble_eq_true rfl) (by decide) (by decide) rfl site_lower (jGW_of (by decide +kernel)) hev ⟨0, 8, 11, 13⟩ htab rfl (by decide) (jGW_of (by decide +kernel)) ?_ ?_
    · intro M1 q9 hKn H locs ls hr
      refine lv_astore_n (nL := 4) (lv' := [(3, .ref q9), (0, .ref (α 0)), (1, .int p0), (2, .ref (α 97))]) hex hbt (show decode cL_lower 11 = .ok (.astore_n 3, 1) by decide +kernel) rfl hr.2.2 (by decide) rfl (fun ls2 hl2 => ?_)
      refine lv_iconst (v := 1) hex hbt (show decode cL_lower 12 = .ok (.iconst 1, 1) by decide +kernel) (by decide) ?_
      exact vx_ret (W.iret hex hbt hret (fun t ht _ => ⟨1, M1, Or.inl ⟨rfl, hKn⟩, ⟨rfl, by rw [ht]; exact hr.1⟩, hr.2.1.F ht⟩) hr.2.1.2.2 (show decode cL_lower 13 = .ok (.ireturn, 1) by decide +kernel))
    · intro v M1 hKs
      rcases hKv _ _ hKs with h | ⟨w, h⟩
      · cases h
      · cases h
        have hc2 : 0 + 1 ≤ hRoom.cells ∧ 0 + 6 ≤ hRoom.slots := hc1
        refine lw1 (E := eL_lower) C hc2 (ins := .lastore) rfl hlast ?_
        refine lw1 (E := eL_lower) C hc2 (ins := .goto 6) rfl rfl ?_
        refine lw1 (E := eL_lower) C hc2 (ins := .iconst 0) rfl rfl ?_
        intro H locs ls hr
        exact vx_ret (W.iret (v := Int32.ofInt 0) hex hbt hret (fun t ht _ => ⟨Int32.ofInt 0, jsl M1 97 0 w, Or.inr ⟨by decide, w, M1, hKs, rfl⟩, ⟨rfl, by rw [ht]; exact hr.1⟩, hr.2.1.F ht⟩) hr.2.1.2.2 (show decode cL_lower 15 = .ok (.ireturn, 1) by decide +kernel))
  refine K0 s.heap [] _ ⟨hP, va_S.rf, ?_⟩
  exact lv_entry (([.ref 0, .int p0, .ref 97] : List Value).map (jv α)) (n := 4) (Nat.le_of_ble_eq_true rfl)
