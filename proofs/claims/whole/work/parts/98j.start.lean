/-! FROM THE LAW'S ENTRY TO ITS LOOP -/
theorem kinst_ck : vwCl.all (fun q => decide (Cond.instantiable q.1 q.2.2 ∈ lw_tbl) && goodWord (Cond.instantiable q.1 q.2.2)) = true := by decide +kernel
theorem st_K {args : Array Value} {s : State} (hts : ∀ w ∈ jGW, w.before args s = true) (hao : kAO s) : ∃ (D : va_G) (cA : Nat → ClassId), va_K D vwCl (jtys cA) s := by
  have h1 : ∀ ci : Nat, ∃ (x : ClassId × (Nat → Nat)), ∀ q : vw_C, vwCl[ci]? = some q → u_Kn s q.1 q.2.1 q.2.2 x.1 x.2 := by
    intro ci
    cases hq : vwCl[ci]? with
    | none => exact ⟨(0, fun _ => 0), fun q h => by cases h⟩
    | some q =>
      obtain ⟨cC, iS, h⟩ := u_known (C := q.1) (T := q.2.1) (N := q.2.2) (n := q.2.2) hts (jokC ci q hq).1 (hts _ (jGW_of (List.all_eq_true.mp kinst_ck q (List.mem_of_getElem? hq))))
      exact ⟨(cC, iS), fun q' h' => by cases h'; exact h⟩
  have h2 : ∀ t : Nat, ∃ cI : ClassId, t < 8 → ArrOfT s cI (jty t) ∧ va_RA s cI (jty t) := by
    intro t
    by_cases ht : t < 8
    · have prim : ∀ ty : FieldType, (Cond.arrayClass ty).before args s = true → ∃ cI : ClassId, ArrOfT s cI ty ∧ s.vm.findClass ("[" ++ ty.toString) = some cI := by
        intro ty h
        obtain ⟨c, k, comp, a1, a2, a3⟩ := Cond.arrayClass_spec h
        exact ⟨c, fun n z => ⟨(fun k h => by cases h), k, a2, comp, a3⟩, a1⟩
      have objs : ∀ C : String, (Cond.arrayOver (.object C)).before #[] s = true → ∃ cI : ClassId, ArrOfT s cI (.object C) ∧ va_RA s cI (.object C) := by
        intro C h
        obtain ⟨comp, c, k, a1, a2, a3, a4, a5⟩ := Cond.arrayOver_spec h
        exact ⟨c, fun n z => ⟨(fun k h => by cases h), k, a3, comp, a4⟩, k, comp, a3, a4, a1, a5⟩
      match t, ht with
      | 0, _ => obtain ⟨cI, x, y⟩ := prim _ (hts _ (kwt (t := 0) (by decide))); exact ⟨cI, fun _ => ⟨x, y⟩⟩
      | 1, _ => obtain ⟨cI, x, y⟩ := prim _ (hts _ (kwt (t := 1) (by decide))); exact ⟨cI, fun _ => ⟨x, y⟩⟩
      | 2, _ => obtain ⟨cI, x, y⟩ := prim _ (hts _ (kwt (t := 2) (by decide))); exact ⟨cI, fun _ => ⟨x, y⟩⟩
      | 3, _ => obtain ⟨cI, x, y⟩ := prim _ (hts _ (kwt (t := 3) (by decide))); exact ⟨cI, fun _ => ⟨x, y⟩⟩
      | 4, _ => obtain ⟨cI, x, y⟩ := objs "MemoryRows$Rule" (hao _ (by decide)); exact ⟨cI, fun _ => ⟨x, y⟩⟩
      | 5, _ => obtain ⟨cI, x, y⟩ := objs "MemoryRows$Likenesses" (hao _ (by decide)); exact ⟨cI, fun _ => ⟨x, y⟩⟩
      | 6, _ => obtain ⟨cI, x, y⟩ := objs "MemoryRows$Fraction" (hao _ (by decide)); exact ⟨cI, fun _ => ⟨x, y⟩⟩
      | 7, _ =>
        obtain ⟨comp, c, k, a1, a2, a3, a4⟩ := Cond.arrayOver_specA (hao (.array .long) (by decide))
        exact ⟨c, fun _ => ⟨fun n z => ⟨(fun k h => by cases h), k, a2, comp, a3⟩, a4⟩⟩
      | n + 8, h => exact absurd h (by omega)
    · exact ⟨0, fun h => absurd h ht⟩
  refine ⟨(fun ci => (Classical.choose (h1 ci)).1, fun ci => (Classical.choose (h1 ci)).2), fun t => Classical.choose (h2 t), fun ci q hq => Classical.choose_spec (h1 ci) q hq, fun k q hk => ?_⟩
  have hlt : k < 8 := by
    have := (List.getElem?_eq_some_iff.mp hk).1
    simpa [jtys] using this
  rw [jtys_at _ hlt] at hk
  cases hk
  exact Classical.choose_spec (h2 k) hlt
theorem xStr_ck : xStr.all (fun q => decide (Cond.stringRef RX7 q.1 q.2 ∈ lw_tbl)) = true := by decide +kernel
theorem xStr_ex : xStr.all (fun q => decide (Cond.exactly (.string RX7 q.1) "java/lang/String" ∈ flatC (Jvm.Cond.and given_1 narrow_1))) = true := by decide +kernel
theorem st_Z {b : Nat} {s : State} {A : Nat → Prop} (hts : ∀ w ∈ lw_tbl, w.before #[Value.ref b] s = true) (hgv : (Jvm.Cond.and given_1 narrow_1).before #[Value.ref b] s = true) (hA : ∀ a : Nat, a < s.heap.size → ¬ A a) : xZ A s := by
  have hs := flat_of_before _ hgv
  refine ⟨fun w hw => va_Nw.of ?_ (hts w (xB_in w hw)), vx_Zqof (args := #[Value.ref b]) (hts _ (by decide +kernel)) (hts _ (by decide +kernel)) (hs _ (by decide +kernel)) hA, vx_Zqof (args := #[Value.ref b]) (hts _ (by decide +kernel)) (hts _ (by decide +kernel)) (hs _ (by decide +kernel)) hA, fun q hq => ?_⟩
  · have h1 := xB_w w hw
    cases w <;> first | (cases h1; done) | rfl
  · have h1 := hts _ (of_decide_eq_true (List.all_eq_true.mp xStr_ck q hq))
    have h2 := hs _ (of_decide_eq_true (List.all_eq_true.mp xStr_ex q hq))
    obtain ⟨a, c, cell, k, q1, -⟩ := Cond.exactly_spec h2
    exact ⟨a, vk_R.of h1 q1⟩
theorem kOv_ck : kOv.all (fun ty => decide (Cond.arrayOver ty ∈ lw_tbl)) = true := by decide +kernel
set_option maxHeartbeats 4000000 in
set_option maxRecDepth 100000 in
/-- from the entry, for every script of at most 3072 ints, the law comes to its end with true -/
theorem whole_start {p : Program} {e : Env} {s : State} {m : MethodId} {below : List Frame} {meth : Method} {c : Code} (l : Launch) (hlt : l.stackTraces = false) {b L : Nat} {xs : Nat → Int32} (hL : L ≤ 3072) (C0 : lw_At p s m meth c b L xs) : W p l e room_1 s m #[Value.ref b] below meth c s.heap [] 0 0 (lw_Z below #[Value.ref b] s) (entryFrame m ([Value.ref b] : List Value).toArray 8) := by
  obtain ⟨hx, hb, hr, hml, hown, hts, hX, hbl, hlocks, hgv⟩ := id C0
  have htG : ∀ w ∈ jGW, w.before #[Value.ref b] s = true := fun w hw => hts w (List.mem_filter.mp hw).1
  have hN : ∀ w ∈ jNW, va_Nw w s := by
    intro w hw
    have h1 := (List.mem_filter.mp hw).2
    refine va_Nw.of ?_ (hts w (List.mem_filter.mp hw).1)
    cases w <;> first | (cases h1; done) | rfl
  have hao : kAO s := fun ty hty => hts _ (of_decide_eq_true (List.all_eq_true.mp kOv_ck ty hty))
  obtain ⟨D, cA, hK⟩ := st_K htG hao
  have hZ : xZ (fun q => s.heap.size ≤ q) s := st_Z hts hgv (fun a ha => Nat.not_le.mpr ha)
  have X : kX kLw cA D (fun q => s.heap.size ≤ q) p room_1 s m #[Value.ref b] meth c := ⟨hx, hb, hml, hown, htG, hN, hK, hao, fun _ h => h, Or.inl rfl, by decide, by decide, Nat.le_refl _, Nat.le_refl _⟩
  have hk := kfin
  cases hrun : krun 600 kLw (0, [(0, .ref 1000)], [], [], 0, 0) with
  | none => rw [hrun] at hk; cases hk
  | some o =>
    rw [hrun] at hk
    obtain ⟨opc, oL, oS, ocs, onc, ons⟩ := o
    unfold kchk at hk
    simp only [Bool.and_eq_true, decide_eq_true_iff] at hk
    obtain ⟨⟨⟨⟨⟨⟨k1, k2⟩, k3⟩, k4⟩, k5⟩, k6⟩, k7⟩ := hk
    have k1 := Nat.eq_of_beq_eq_true k1
    have k4 := Nat.eq_of_beq_eq_true k4
    have k5 := Nat.eq_of_beq_eq_true k5
    subst k1 k2 k3 k4 k5
    rw [lg_entry_eq]
    refine ksnd 600 kLw _ _ hrun (α0 := fun _ => b) (n0 := 0) X ?_ (fun _ => b) s.heap [] _ (fun _ _ => rfl) (Nat.le_refl _) (fun k q h => by simp [kW] at h) ⟨fun i j p q h => by simp [kW] at h, fun k q h => by simp [kW] at h⟩ va_S.rf ?_
    · intro α H locs ls e1 e2 hP hD hS hl
      dsimp only at hP hD hl
      have hb98 : kal α 98 = b := e1 1000 (Or.inr (Nat.le_refl _))
      have C : lwC eLw lwI (kal α) cA D (fun q => s.heap.size ≤ q) p l room_1 s m #[Value.ref b] c := ⟨⟨hx, hb, hml, hown, htG, hN, hK⟩, kfin_D k7 hD, by decide, by decide, okLw, lwOk1 rfl, hZ, hlt⟩
      have Xs : lwX (kal α) (fun q => s.heap.size ≤ q) s L xs := by
        unfold lwX
        rw [hb98]
        exact ⟨hX, hbl, Nat.not_le.mpr hbl⟩
      have hce : 98 ≤ room_1.cells ∧ 1007 ≤ room_1.slots := ⟨by decide, by decide⟩
      have G : jG jSH (kal α) cA vwCl D (fun q => s.heap.size ≤ q) s.heap 8 p l e room_1 s m #[Value.ref b] below meth c 98 1007 (lw_Z below #[Value.ref b] s) (20, [(0, .ref 98), (1, .ref 0), (2, .ref 67), (3, .ref 97)], [], m0) := by
        refine lw1 (E := eLw) C hce (ins := .iconst 0) rfl (g := (21, [(0, .ref 98), (1, .ref 0), (2, .ref 67), (3, .ref 97)], [.int 0], m0)) rfl ?_
        refine lw1 (E := eLw) C hce (ins := .istore 4) rfl (g := (23, [(0, .ref 98), (1, .ref 0), (2, .ref 67), (3, .ref 97), (4, .int (nI (6 * 0)))], [], m0)) rfl ?_
        exact law_loop (c0 := 98) (s0 := 1007) C Xs hL hr hlocks (fun _ h => h) ⟨by decide, by decide⟩ 513 0 (by decide) (by omega) m0 m0_inv
      exact G H locs ls ⟨kfin_P k7 hP, hS, hl⟩
    · exact lv_entry ([.ref b]) (n := 8) (Nat.le_of_ble_eq_true rfl)
