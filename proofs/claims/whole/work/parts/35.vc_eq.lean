/-! printed by wip/whole/emit.py: what must hold on each way between cut points -/
set_option maxRecDepth 100000 in
set_option maxHeartbeats 4000000 in
theorem v_X0_wipeCells_0 {K : jK} {M : jM} (h : jEv nX0_wipeCells (2, [(0, .ref 44), (1, .int 0)], [], M) K) : jEv nX0_wipeCells (0, [(0, .ref 44)], [], M) K := by
  have hE : jMT nX0_wipeCells = some me_X0_wipeCells := rfl
  refine e_seg (k := 2) (d := (2, [(0, .ref 44), (1, .int 0)], [], M)) rfl ?_
  refine e_cut (ks := [0, 1]) (L' := [(0, .ref 44), (1, .int 0)]) hE rfl rfl rfl rfl rfl ?_
  exact h
set_option maxRecDepth 100000 in
set_option maxHeartbeats 4000000 in
theorem v_X0_wipeCells_2 {K : jK} {M : jM} {x1 : Int32} (h : ((4 ≤ x1 → K (some none) M) ∧ (¬ 4 ≤ x1 → jEv nX0_wipeCells (9, [(0, .ref 44), (1, .int x1), (2, .int 0)], [], M) K))) : jEv nX0_wipeCells (2, [(0, .ref 44), (1, .int x1)], [], M) K := by
  have hE : jMT nX0_wipeCells = some me_X0_wipeCells := rfl
  refine e_seg (k := 2) (d := (4, [(0, .ref 44), (1, .int x1)], [.int 4, .int x1], M)) rfl ?_
  refine e_ic_ge (t := 35) (q := 7) hE rfl rfl rfl rfl (fun hbr => ?_) (fun hbr => ?_)
  · replace h := h.1 hbr
    exact e_ret hE rfl rfl rfl h
  · replace h := h.2 hbr
    refine e_seg (k := 2) (d := (9, [(0, .ref 44), (1, .int x1), (2, .int 0)], [], M)) rfl ?_
    refine e_cut (ks := [0, 1, 2]) (L' := [(0, .ref 44), (1, .int x1), (2, .int 0)]) hE rfl rfl rfl rfl rfl ?_
    exact h
set_option maxRecDepth 100000 in
set_option maxHeartbeats 4000000 in
theorem v_X0_wipeCells_9 {K : jK} {M : jM} {x1 : Int32} {x2 : Int32} (h : ((4 ≤ x2 → jEv nX0_wipeCells (2, [(0, .ref 44), (1, .int (x1 + 1))], [], M) K) ∧ (¬ 4 ≤ x2 → (¬ (x1 < 0 ∨ 4 ≤ x1.toNatClampNeg) ∧ (¬ (x2 < 0 ∨ 4 ≤ x2.toNatClampNeg) ∧ (∀ M2 : jM, M2 = jsl M (46 + x1.toNatClampNeg) x2.toNatClampNeg 0 → jEv nX0_wipeCells (9, [(0, .ref 44), (1, .int x1), (2, .int (x2 + 1))], [], M2) K)))))) : jEv nX0_wipeCells (9, [(0, .ref 44), (1, .int x1), (2, .int x2)], [], M) K := by
  have hE : jMT nX0_wipeCells = some me_X0_wipeCells := rfl
  refine e_seg (k := 2) (d := (11, [(0, .ref 44), (1, .int x1), (2, .int x2)], [.int 4, .int x2], M)) rfl ?_
  refine e_ic_ge (t := 29) (q := 14) hE rfl rfl rfl rfl (fun hbr => ?_) (fun hbr => ?_)
  · replace h := h.1 hbr
    refine e_seg (k := 2) (d := (2, [(0, .ref 44), (1, .int (x1 + 1)), (2, .int x2)], [], M)) rfl ?_
    refine e_cut (ks := [0, 1]) (L' := [(0, .ref 44), (1, .int (x1 + 1))]) hE rfl rfl rfl rfl rfl ?_
    exact h
  · replace h := h.2 hbr
    refine e_seg (k := 3) (d := (19, [(0, .ref 44), (1, .int x1), (2, .int x2)], [.int x1, .ref 45], M)) rfl ?_
    have hi1 := h.1
    replace h := h.2
    refine e_aald (q := 20) hE rfl rfl rfl rfl (by decide) hi1 (jRw_l hi1) ?_
    refine e_seg (k := 2) (d := (22, [(0, .ref 44), (1, .int x1), (2, .int x2)], [.long 0, .int x2, .ref (46 + x1.toNatClampNeg)], M)) rfl ?_
    refine e_last (q := 23) hE rfl rfl rfl (jRw_o (jRw_i hi1)) h.1 ?_
    replace h := h.2
    obtain ⟨M2, hM2⟩ : ∃ z : jM, z = jsl M (46 + x1.toNatClampNeg) x2.toNatClampNeg 0 := ⟨_, rfl⟩
    refine jEv_M hM2 ?_
    replace h := h M2 hM2
    refine e_seg (k := 2) (d := (9, [(0, .ref 44), (1, .int x1), (2, .int (x2 + 1))], [], M2)) rfl ?_
    refine e_cut (ks := [0, 1, 2]) (L' := [(0, .ref 44), (1, .int x1), (2, .int (x2 + 1))]) hE rfl rfl rfl rfl rfl ?_
    exact h
set_option maxRecDepth 100000 in
set_option maxHeartbeats 4000000 in
theorem v_X3_restTop_0 {K : jK} {M : jM} {x1 : Int32} {a : Nat} (ha : jLi a) (h : jEv nX3_restTop (16, [(0, .ref a), (1, .int x1), (2, .ref 44), (3, .long (((M.1 (a + 1) 0).toInt64) * (M.2 44 4))), (5, .int 1)], [], M) K) : jEv nX3_restTop (0, [(0, .ref a), (1, .int x1), (2, .ref 44)], [], M) K := by
  have hE : jMT nX3_restTop = some me_X3_restTop := rfl
  refine e_seg (k := 1) (d := (1, [(0, .ref a), (1, .int x1), (2, .ref 44)], [.ref a], M)) rfl ?_
  refine e_get (v := .ref (a + 1)) (q := 4) hE rfl rfl rfl rfl (jLi_o ha) rfl rfl ?_
  refine e_seg (k := 1) (d := (5, [(0, .ref a), (1, .int x1), (2, .ref 44)], [.int 0, .ref (a + 1)], M)) rfl ?_
  refine e_iald (q := 6) hE rfl rfl rfl (jLi_1 ha) (by decide) ?_
  show jEv nX3_restTop (6, [(0, .ref a), (1, .int x1), (2, .ref 44)], [.int (M.1 (a + 1) 0)], M) K
  refine e_seg (k := 7) (d := (16, [(0, .ref a), (1, .int x1), (2, .ref 44), (3, .long (((M.1 (a + 1) 0).toInt64) * (M.2 44 4))), (5, .int 1)], [], M)) rfl ?_
  refine e_cut (ks := [0, 1, 2, 3, 5]) (L' := [(0, .ref a), (1, .int x1), (2, .ref 44), (3, .long (((M.1 (a + 1) 0).toInt64) * (M.2 44 4))), (5, .int 1)]) hE rfl rfl rfl rfl rfl ?_
  exact h
set_option maxRecDepth 100000 in
set_option maxHeartbeats 4000000 in
theorem v_X3_restTop_16 {K : jK} {M : jM} {x1 : Int32} {x3 : Int64} {x5 : Int32} {a : Nat} (ha : jLi a) (h : ((x1 < x5 → K (some (some (.long x3))) M) ∧ (¬ x1 < x5 → (¬ (x5 - 1 < 0 ∨ 4 ≤ (x5 - 1).toNatClampNeg) ∧ (¬ (x5 < 0 ∨ 5 ≤ x5.toNatClampNeg) ∧ jEv nX3_restTop (16, [(0, .ref a), (1, .int x1), (2, .ref 44), (3, .long (x3 - ((M.2 51 (x5 - 1).toNatClampNeg) * ((M.1 (a + 1) x5.toNatClampNeg).toInt64)))), (5, .int (x5 + 1))], [], M) K))))) : jEv nX3_restTop (16, [(0, .ref a), (1, .int x1), (2, .ref 44), (3, .long x3), (5, .int x5)], [], M) K := by
  have hE : jMT nX3_restTop = some me_X3_restTop := rfl
  refine e_seg (k := 2) (d := (19, [(0, .ref a), (1, .int x1), (2, .ref 44), (3, .long x3), (5, .int x5)], [.int x1, .int x5], M)) rfl ?_
  refine e_ic_gt (t := 49) (q := 22) hE rfl rfl rfl rfl (fun hbr => ?_) (fun hbr => ?_)
  · replace h := h.1 hbr
    refine e_seg (k := 1) (d := (50, [(0, .ref a), (1, .int x1), (2, .ref 44), (3, .long x3), (5, .int x5)], [.long x3], M)) rfl ?_
    exact e_ret hE rfl rfl (jb_l rfl) h
  · replace h := h.2 hbr
    refine e_seg (k := 6) (d := (31, [(0, .ref a), (1, .int x1), (2, .ref 44), (3, .long x3), (5, .int x5)], [.int (x5 - 1), .ref 51, .long x3], M)) rfl ?_
    refine e_lald (q := 32) hE rfl rfl rfl rfl h.1 ?_
    replace h := h.2
    refine e_seg (k := 1) (d := (33, [(0, .ref a), (1, .int x1), (2, .ref 44), (3, .long x3), (5, .int x5)], [.ref a, .long (M.2 51 (x5 - 1).toNatClampNeg), .long x3], M)) rfl ?_
    refine e_get (v := .ref (a + 1)) (q := 36) hE rfl rfl rfl rfl (jLi_o ha) rfl rfl ?_
    refine e_seg (k := 1) (d := (38, [(0, .ref a), (1, .int x1), (2, .ref 44), (3, .long x3), (5, .int x5)], [.int x5, .ref (a + 1), .long (M.2 51 (x5 - 1).toNatClampNeg), .long x3], M)) rfl ?_
    refine e_iald (q := 39) hE rfl rfl rfl (jLi_1 ha) h.1 ?_
    replace h := h.2
    refine e_seg (k := 6) (d := (16, [(0, .ref a), (1, .int x1), (2, .ref 44), (3, .long (x3 - ((M.2 51 (x5 - 1).toNatClampNeg) * ((M.1 (a + 1) x5.toNatClampNeg).toInt64)))), (5, .int (x5 + 1))], [], M)) rfl ?_
    refine e_cut (ks := [0, 1, 2, 3, 5]) (L' := [(0, .ref a), (1, .int x1), (2, .ref 44), (3, .long (x3 - ((M.2 51 (x5 - 1).toNatClampNeg) * ((M.1 (a + 1) x5.toNatClampNeg).toInt64)))), (5, .int (x5 + 1))]) hE rfl rfl rfl rfl rfl ?_
    exact h
set_option maxRecDepth 100000 in
set_option maxHeartbeats 4000000 in
theorem v_X3_take_0 {K : jK} {M : jM} {x2 : Int32} {a : Nat} (ha : jLi a) (h : (∀ M1 : jM, M1 = jsi M a 1 x2 → jEv nX3_take (7, [(0, .ref a), (1, .ref 59), (2, .int x2), (3, .int 0)], [], M1) K)) : jEv nX3_take (0, [(0, .ref a), (1, .ref 59), (2, .int x2)], [], M) K := by
  have hE : jMT nX3_take = some me_X3_take := rfl
  refine e_seg (k := 2) (d := (2, [(0, .ref a), (1, .ref 59), (2, .int x2)], [.int x2, .ref a], M)) rfl ?_
  refine e_put (q := 5) hE rfl rfl rfl rfl (jLi_o ha) rfl rfl ?_
  obtain ⟨M1, hM1⟩ : ∃ z : jM, z = jsi M a 1 x2 := ⟨_, rfl⟩
  refine jEv_M hM1 ?_
  replace h := h M1 hM1
  refine e_seg (k := 2) (d := (7, [(0, .ref a), (1, .ref 59), (2, .int x2), (3, .int 0)], [], M1)) rfl ?_
  refine e_cut (ks := [0, 1, 2, 3]) (L' := [(0, .ref a), (1, .ref 59), (2, .int x2), (3, .int 0)]) hE rfl rfl rfl rfl rfl ?_
  exact h
set_option maxRecDepth 100000 in
set_option maxHeartbeats 4000000 in
theorem v_X3_take_7 {K : jK} {M : jM} {x2 : Int32} {x3 : Int32} {a : Nat} (ha : jLi a) (h : ((x2 ≤ x3 → K (some none) M) ∧ (¬ x2 ≤ x3 → (¬ (x3 < 0 ∨ 5 ≤ x3.toNatClampNeg) ∧ (¬ (x3 < 0 ∨ 5 ≤ x3.toNatClampNeg) ∧ (∀ M1 : jM, M1 = jsi M (a + 1) x3.toNatClampNeg (M.1 59 x3.toNatClampNeg) → jEv nX3_take (7, [(0, .ref a), (1, .ref 59), (2, .int x2), (3, .int (x3 + 1))], [], M1) K)))))) : jEv nX3_take (7, [(0, .ref a), (1, .ref 59), (2, .int x2), (3, .int x3)], [], M) K := by
  have hE : jMT nX3_take = some me_X3_take := rfl
  refine e_seg (k := 2) (d := (9, [(0, .ref a), (1, .ref 59), (2, .int x2), (3, .int x3)], [.int x2, .int x3], M)) rfl ?_
  refine e_ic_ge (t := 27) (q := 12) hE rfl rfl rfl rfl (fun hbr => ?_) (fun hbr => ?_)
  · replace h := h.1 hbr
    exact e_ret hE rfl rfl rfl h
  · replace h := h.2 hbr
    refine e_seg (k := 1) (d := (13, [(0, .ref a), (1, .ref 59), (2, .int x2), (3, .int x3)], [.ref a], M)) rfl ?_
    refine e_get (v := .ref (a + 1)) (q := 16) hE rfl rfl rfl rfl (jLi_o ha) rfl rfl ?_
    refine e_seg (k := 3) (d := (19, [(0, .ref a), (1, .ref 59), (2, .int x2), (3, .int x3)], [.int x3, .ref 59, .int x3, .ref (a + 1)], M)) rfl ?_
    refine e_iald (q := 20) hE rfl rfl rfl rfl h.1 ?_
    replace h := h.2
    refine e_iast (q := 21) hE rfl rfl rfl (jLi_1 ha) h.1 ?_
    replace h := h.2
    obtain ⟨M1, hM1⟩ : ∃ z : jM, z = jsi M (a + 1) x3.toNatClampNeg (M.1 59 x3.toNatClampNeg) := ⟨_, rfl⟩
    refine jEv_M hM1 ?_
    replace h := h M1 hM1
    refine e_seg (k := 2) (d := (7, [(0, .ref a), (1, .ref 59), (2, .int x2), (3, .int (x3 + 1))], [], M1)) rfl ?_
    refine e_cut (ks := [0, 1, 2, 3]) (L' := [(0, .ref a), (1, .ref 59), (2, .int x2), (3, .int (x3 + 1))]) hE rfl rfl rfl rfl rfl ?_
    exact h
set_option maxRecDepth 100000 in
set_option maxHeartbeats 4000000 in
theorem v_X0_determinant_0 {K : jK} {M : jM} {x1 : Int32} {x2 : Int32} (h : (∀ M1 : jM, M1 = jsl M 52 0 1 → jEv nX0_determinant (14, [(0, .ref 44), (1, .int x1), (2, .int x2), (3, .int (1 <<< (x1 &&& 31))), (4, .int 1)], [], M1) K)) : jEv nX0_determinant (0, [(0, .ref 44), (1, .int x1), (2, .int x2)], [], M) K := by
  have hE : jMT nX0_determinant = some me_X0_determinant := rfl
  refine e_seg (k := 8) (d := (10, [(0, .ref 44), (1, .int x1), (2, .int x2), (3, .int (1 <<< (x1 &&& 31)))], [.long 1, .int 0, .ref 52], M)) rfl ?_
  refine e_last (q := 11) hE rfl rfl rfl rfl (by decide) ?_
  obtain ⟨M1, hM1⟩ : ∃ z : jM, z = jsl M 52 0 1 := ⟨_, rfl⟩
  refine jEv_M hM1 ?_
  replace h := h M1 hM1
  refine e_seg (k := 2) (d := (14, [(0, .ref 44), (1, .int x1), (2, .int x2), (3, .int (1 <<< (x1 &&& 31))), (4, .int 1)], [], M1)) rfl ?_
  refine e_cut (ks := [0, 1, 2, 3, 4]) (L' := [(0, .ref 44), (1, .int x1), (2, .int x2), (3, .int (1 <<< (x1 &&& 31))), (4, .int 1)]) hE rfl rfl rfl rfl rfl ?_
  exact h
set_option maxRecDepth 100000 in
set_option maxHeartbeats 4000000 in
theorem v_X0_determinant_14 {K : jK} {M : jM} {x1 : Int32} {x2 : Int32} {x3 : Int32} {x4 : Int32} (h : ((x3 ≤ x4 → (¬ (x3 - 1 < 0 ∨ 16 ≤ (x3 - 1).toNatClampNeg) ∧ K (some (some (.long (M.2 52 (x3 - 1).toNatClampNeg)))) M)) ∧ (¬ x3 ≤ x4 → (jEv nJ6_bitCount_0f7a4 (0, [(0, .int x4)], [], M) (fun o1 M2 => ∃ r3 : Int32, o1 = some (some (.int r3)) ∧ jEv nX0_determinant (35, [(0, .ref 44), (1, .int x1), (2, .int x2), (3, .int x3), (4, .int x4), (5, .int (r3 - 1)), (6, .long 0), (8, .int 0)], [], M2) K))))) : jEv nX0_determinant (14, [(0, .ref 44), (1, .int x1), (2, .int x2), (3, .int x3), (4, .int x4)], [], M) K := by
  have hE : jMT nX0_determinant = some me_X0_determinant := rfl
  refine e_seg (k := 2) (d := (17, [(0, .ref 44), (1, .int x1), (2, .int x2), (3, .int x3), (4, .int x4)], [.int x3, .int x4], M)) rfl ?_
  refine e_ic_ge (t := 150) (q := 20) hE rfl rfl rfl rfl (fun hbr => ?_) (fun hbr => ?_)
  · replace h := h.1 hbr
    refine e_seg (k := 5) (d := (157, [(0, .ref 44), (1, .int x1), (2, .int x2), (3, .int x3), (4, .int x4)], [.int (x3 - 1), .ref 52], M)) rfl ?_
    refine e_lald (q := 158) hE rfl rfl rfl rfl h.1 ?_
    replace h := h.2
    exact e_ret hE rfl rfl (jb_l rfl) h
  · replace h := h.2 hbr
    refine e_seg (k := 1) (d := (22, [(0, .ref 44), (1, .int x1), (2, .int x2), (3, .int x3), (4, .int x4)], [.int x4], M)) rfl ?_
    refine e_call (q := 25) (L0 := [(0, .int x4)]) hE rfl rfl rfl rfl (jargs_S rfl rfl rfl rfl (Nat.le_of_ble_eq_true rfl) (Nat.le_of_ble_eq_true rfl) (Nat.le_of_ble_eq_true rfl)) rfl rfl (jEv.mono h (fun o1 M2 h => ?_))
    obtain ⟨r3, rfl, h⟩ := h
    refine ⟨_, rfl, ?_⟩
    show jEv nX0_determinant (25, [(0, .ref 44), (1, .int x1), (2, .int x2), (3, .int x3), (4, .int x4)], [.int r3], M2) K
    refine e_seg (k := 7) (d := (35, [(0, .ref 44), (1, .int x1), (2, .int x2), (3, .int x3), (4, .int x4), (5, .int (r3 - 1)), (6, .long 0), (8, .int 0)], [], M2)) rfl ?_
    refine e_cut (ks := [0, 1, 2, 3, 4, 5, 6, 8]) (L' := [(0, .ref 44), (1, .int x1), (2, .int x2), (3, .int x3), (4, .int x4), (5, .int (r3 - 1)), (6, .long 0), (8, .int 0)]) hE rfl rfl rfl rfl rfl ?_
    exact h
set_option maxRecDepth 100000 in
set_option maxHeartbeats 4000000 in
theorem v_X0_determinant_35 {K : jK} {M : jM} {x1 : Int32} {x2 : Int32} {x3 : Int32} {x4 : Int32} {x5 : Int32} {x6 : Int64} {x8 : Int32} (h : ((x1 ≤ x8 → (¬ (x4 < 0 ∨ 16 ≤ x4.toNatClampNeg) ∧ (∀ M1 : jM, M1 = jsl M 52 x4.toNatClampNeg x6 → jEv nX0_determinant (14, [(0, .ref 44), (1, .int x1), (2, .int x2), (3, .int x3), (4, .int (x4 + 1))], [], M1) K))) ∧ (¬ x1 ≤ x8 → (((x4 &&& (1 <<< (x8 &&& 31))) = 0 → jEv nX0_determinant (35, [(0, .ref 44), (1, .int x1), (2, .int x2), (3, .int x3), (4, .int x4), (5, .int x5), (6, .long x6), (8, .int (x8 + 1))], [], M) K) ∧ (¬ (x4 &&& (1 <<< (x8 &&& 31))) = 0 → ((x8 = x2 → (¬ (x5 < 0 ∨ 4 ≤ x5.toNatClampNeg) ∧ (¬ (x4 ^^^ (1 <<< (x8 &&& 31)) < 0 ∨ 16 ≤ (x4 ^^^ (1 <<< (x8 &&& 31))).toNatClampNeg) ∧ (jEv nJ6_bitCount_0f7a4 (0, [(0, .int (x4 >>> ((x8 + 1) &&& 31)))], [], M) (fun o6 M7 => ∃ r8 : Int32, o6 = some (some (.int r8)) ∧ (((r8 - r8 / 2 * 2) = 0 → jEv nX0_determinant (35, [(0, .ref 44), (1, .int x1), (2, .int x2), (3, .int x3), (4, .int x4), (5, .int x5), (6, .long (x6 + ((M.2 50 x5.toNatClampNeg) * (M.2 52 (x4 ^^^ (1 <<< (x8 &&& 31))).toNatClampNeg)))), (8, .int (x8 + 1))], [], M7) K) ∧ (¬ (r8 - r8 / 2 * 2) = 0 → jEv nX0_determinant (35, [(0, .ref 44), (1, .int x1), (2, .int x2), (3, .int x3), (4, .int x4), (5, .int x5), (6, .long (x6 + (-((M.2 50 x5.toNatClampNeg) * (M.2 52 (x4 ^^^ (1 <<< (x8 &&& 31))).toNatClampNeg))))), (8, .int (x8 + 1))], [], M7) K))))))) ∧ (¬ x8 = x2 → (¬ (x5 < 0 ∨ 4 ≤ x5.toNatClampNeg) ∧ (¬ (x8 < 0 ∨ 4 ≤ x8.toNatClampNeg) ∧ (¬ (x4 ^^^ (1 <<< (x8 &&& 31)) < 0 ∨ 16 ≤ (x4 ^^^ (1 <<< (x8 &&& 31))).toNatClampNeg) ∧ (jEv nJ6_bitCount_0f7a4 (0, [(0, .int (x4 >>> ((x8 + 1) &&& 31)))], [], M) (fun o3 M4 => ∃ r5 : Int32, o3 = some (some (.int r5)) ∧ (((r5 - r5 / 2 * 2) = 0 → jEv nX0_determinant (35, [(0, .ref 44), (1, .int x1), (2, .int x2), (3, .int x3), (4, .int x4), (5, .int x5), (6, .long (x6 + ((M.2 (46 + x5.toNatClampNeg) x8.toNatClampNeg) * (M.2 52 (x4 ^^^ (1 <<< (x8 &&& 31))).toNatClampNeg)))), (8, .int (x8 + 1))], [], M4) K) ∧ (¬ (r5 - r5 / 2 * 2) = 0 → jEv nX0_determinant (35, [(0, .ref 44), (1, .int x1), (2, .int x2), (3, .int x3), (4, .int x4), (5, .int x5), (6, .long (x6 + (-((M.2 (46 + x5.toNatClampNeg) x8.toNatClampNeg) * (M.2 52 (x4 ^^^ (1 <<< (x8 &&& 31))).toNatClampNeg))))), (8, .int (x8 + 1))], [], M4) K)))))))))))))) : jEv nX0_determinant (35, [(0, .ref 44), (1, .int x1), (2, .int x2), (3, .int x3), (4, .int x4), (5, .int x5), (6, .long x6), (8, .int x8)], [], M) K := by
  have hE : jMT nX0_determinant = some me_X0_determinant := rfl
  refine e_seg (k := 2) (d := (38, [(0, .ref 44), (1, .int x1), (2, .int x2), (3, .int x3), (4, .int x4), (5, .int x5), (6, .long x6), (8, .int x8)], [.int x1, .int x8], M)) rfl ?_
  refine e_ic_ge (t := 135) (q := 41) hE rfl rfl rfl rfl (fun hbr => ?_) (fun hbr => ?_)
  · replace h := h.1 hbr
    refine e_seg (k := 4) (d := (143, [(0, .ref 44), (1, .int x1), (2, .int x2), (3, .int x3), (4, .int x4), (5, .int x5), (6, .long x6), (8, .int x8)], [.long x6, .int x4, .ref 52], M)) rfl ?_
    refine e_last (q := 144) hE rfl rfl rfl rfl h.1 ?_
    replace h := h.2
    obtain ⟨M1, hM1⟩ : ∃ z : jM, z = jsl M 52 x4.toNatClampNeg x6 := ⟨_, rfl⟩
    refine jEv_M hM1 ?_
    replace h := h M1 hM1
    refine e_seg (k := 2) (d := (14, [(0, .ref 44), (1, .int x1), (2, .int x2), (3, .int x3), (4, .int (x4 + 1)), (5, .int x5), (6, .long x6), (8, .int x8)], [], M1)) rfl ?_
    refine e_cut (ks := [0, 1, 2, 3, 4]) (L' := [(0, .ref 44), (1, .int x1), (2, .int x2), (3, .int x3), (4, .int (x4 + 1))]) hE rfl rfl rfl rfl rfl ?_
    exact h
  · replace h := h.2 hbr
    refine e_seg (k := 7) (d := (52, [(0, .ref 44), (1, .int x1), (2, .int x2), (3, .int x3), (4, .int x4), (5, .int x5), (6, .long x6), (8, .int x8), (9, .int (1 <<< (x8 &&& 31)))], [.int (x4 &&& (1 <<< (x8 &&& 31)))], M)) rfl ?_
    refine e_if_ne (t := 58) (q := 55) hE rfl rfl rfl rfl (fun hbr => ?_) (fun hbr => ?_)
    · replace h := h.2 hbr
      refine e_seg (k := 2) (d := (61, [(0, .ref 44), (1, .int x1), (2, .int x2), (3, .int x3), (4, .int x4), (5, .int x5), (6, .long x6), (8, .int x8), (9, .int (1 <<< (x8 &&& 31)))], [.int x2, .int x8], M)) rfl ?_
      refine e_ic_ne (t := 74) (q := 64) hE rfl rfl rfl rfl (fun hbr => ?_) (fun hbr => ?_)
      · replace h := h.2 hbr
        refine e_seg (k := 3) (d := (80, [(0, .ref 44), (1, .int x1), (2, .int x2), (3, .int x3), (4, .int x4), (5, .int x5), (6, .long x6), (8, .int x8), (9, .int (1 <<< (x8 &&& 31)))], [.int x5, .ref 45], M)) rfl ?_
        have hi2 := h.1
        replace h := h.2
        refine e_aald (q := 81) hE rfl rfl rfl rfl (by decide) hi2 (jRw_l hi2) ?_
        refine e_seg (k := 1) (d := (83, [(0, .ref 44), (1, .int x1), (2, .int x2), (3, .int x3), (4, .int x4), (5, .int x5), (6, .long x6), (8, .int x8), (9, .int (1 <<< (x8 &&& 31)))], [.int x8, .ref (46 + x5.toNatClampNeg)], M)) rfl ?_
        refine e_lald (q := 84) hE rfl rfl rfl (jRw_o (jRw_i hi2)) h.1 ?_
        replace h := h.2
        refine e_seg (k := 7) (d := (97, [(0, .ref 44), (1, .int x1), (2, .int x2), (3, .int x3), (4, .int x4), (5, .int x5), (6, .long x6), (8, .int x8), (9, .int (1 <<< (x8 &&& 31))), (10, .long (M.2 (46 + x5.toNatClampNeg) x8.toNatClampNeg))], [.int (x4 ^^^ (1 <<< (x8 &&& 31))), .ref 52, .long (M.2 (46 + x5.toNatClampNeg) x8.toNatClampNeg)], M)) rfl ?_
        refine e_lald (q := 98) hE rfl rfl rfl rfl h.1 ?_
        replace h := h.2
        refine e_seg (k := 8) (d := (110, [(0, .ref 44), (1, .int x1), (2, .int x2), (3, .int x3), (4, .int x4), (5, .int x5), (6, .long x6), (8, .int x8), (9, .int (1 <<< (x8 &&& 31))), (10, .long (M.2 (46 + x5.toNatClampNeg) x8.toNatClampNeg)), (12, .long ((M.2 (46 + x5.toNatClampNeg) x8.toNatClampNeg) * (M.2 52 (x4 ^^^ (1 <<< (x8 &&& 31))).toNatClampNeg)))], [.int (x4 >>> ((x8 + 1) &&& 31)), .long x6], M)) rfl ?_
        refine e_call (q := 113) (L0 := [(0, .int (x4 >>> ((x8 + 1) &&& 31)))]) hE rfl rfl rfl rfl (jargs_S rfl rfl rfl rfl (Nat.le_of_ble_eq_true rfl) (Nat.le_of_ble_eq_true rfl) (Nat.le_of_ble_eq_true rfl)) rfl rfl (jEv.mono h (fun o3 M4 h => ?_))
        obtain ⟨r5, rfl, h⟩ := h
        refine ⟨_, rfl, ?_⟩
        show jEv nX0_determinant (113, [(0, .ref 44), (1, .int x1), (2, .int x2), (3, .int x3), (4, .int x4), (5, .int x5), (6, .long x6), (8, .int x8), (9, .int (1 <<< (x8 &&& 31))), (10, .long (M.2 (46 + x5.toNatClampNeg) x8.toNatClampNeg)), (12, .long ((M.2 (46 + x5.toNatClampNeg) x8.toNatClampNeg) * (M.2 52 (x4 ^^^ (1 <<< (x8 &&& 31))).toNatClampNeg)))], [.int r5, .long x6], M4) K
        refine e_seg (k := 1) (d := (114, [(0, .ref 44), (1, .int x1), (2, .int x2), (3, .int x3), (4, .int x4), (5, .int x5), (6, .long x6), (8, .int x8), (9, .int (1 <<< (x8 &&& 31))), (10, .long (M.2 (46 + x5.toNatClampNeg) x8.toNatClampNeg)), (12, .long ((M.2 (46 + x5.toNatClampNeg) x8.toNatClampNeg) * (M.2 52 (x4 ^^^ (1 <<< (x8 &&& 31))).toNatClampNeg)))], [.int 2, .int r5, .long x6], M4)) rfl ?_
        refine e_irem (q := 115) hE rfl rfl rfl (by decide) ?_
        refine e_if_ne (t := 123) (q := 118) hE rfl rfl rfl rfl (fun hbr => ?_) (fun hbr => ?_)
        · replace h := h.2 hbr
          refine e_seg (k := 6) (d := (35, [(0, .ref 44), (1, .int x1), (2, .int x2), (3, .int x3), (4, .int x4), (5, .int x5), (6, .long (x6 + (-((M.2 (46 + x5.toNatClampNeg) x8.toNatClampNeg) * (M.2 52 (x4 ^^^ (1 <<< (x8 &&& 31))).toNatClampNeg))))), (8, .int (x8 + 1)), (9, .int (1 <<< (x8 &&& 31))), (10, .long (M.2 (46 + x5.toNatClampNeg) x8.toNatClampNeg)), (12, .long ((M.2 (46 + x5.toNatClampNeg) x8.toNatClampNeg) * (M.2 52 (x4 ^^^ (1 <<< (x8 &&& 31))).toNatClampNeg)))], [], M4)) rfl ?_
          refine e_cut (ks := [0, 1, 2, 3, 4, 5, 6, 8]) (L' := [(0, .ref 44), (1, .int x1), (2, .int x2), (3, .int x3), (4, .int x4), (5, .int x5), (6, .long (x6 + (-((M.2 (46 + x5.toNatClampNeg) x8.toNatClampNeg) * (M.2 52 (x4 ^^^ (1 <<< (x8 &&& 31))).toNatClampNeg))))), (8, .int (x8 + 1))]) hE rfl rfl rfl rfl rfl ?_
          exact h
        · replace h := h.1 hbr
          refine e_seg (k := 6) (d := (35, [(0, .ref 44), (1, .int x1), (2, .int x2), (3, .int x3), (4, .int x4), (5, .int x5), (6, .long (x6 + ((M.2 (46 + x5.toNatClampNeg) x8.toNatClampNeg) * (M.2 52 (x4 ^^^ (1 <<< (x8 &&& 31))).toNatClampNeg)))), (8, .int (x8 + 1)), (9, .int (1 <<< (x8 &&& 31))), (10, .long (M.2 (46 + x5.toNatClampNeg) x8.toNatClampNeg)), (12, .long ((M.2 (46 + x5.toNatClampNeg) x8.toNatClampNeg) * (M.2 52 (x4 ^^^ (1 <<< (x8 &&& 31))).toNatClampNeg)))], [], M4)) rfl ?_
          refine e_cut (ks := [0, 1, 2, 3, 4, 5, 6, 8]) (L' := [(0, .ref 44), (1, .int x1), (2, .int x2), (3, .int x3), (4, .int x4), (5, .int x5), (6, .long (x6 + ((M.2 (46 + x5.toNatClampNeg) x8.toNatClampNeg) * (M.2 52 (x4 ^^^ (1 <<< (x8 &&& 31))).toNatClampNeg)))), (8, .int (x8 + 1))]) hE rfl rfl rfl rfl rfl ?_
          exact h
      · replace h := h.1 hbr
        refine e_seg (k := 3) (d := (70, [(0, .ref 44), (1, .int x1), (2, .int x2), (3, .int x3), (4, .int x4), (5, .int x5), (6, .long x6), (8, .int x8), (9, .int (1 <<< (x8 &&& 31)))], [.int x5, .ref 50], M)) rfl ?_
        refine e_lald (q := 71) hE rfl rfl rfl rfl h.1 ?_
        replace h := h.2
        refine e_seg (k := 8) (d := (97, [(0, .ref 44), (1, .int x1), (2, .int x2), (3, .int x3), (4, .int x4), (5, .int x5), (6, .long x6), (8, .int x8), (9, .int (1 <<< (x8 &&& 31))), (10, .long (M.2 50 x5.toNatClampNeg))], [.int (x4 ^^^ (1 <<< (x8 &&& 31))), .ref 52, .long (M.2 50 x5.toNatClampNeg)], M)) rfl ?_
        refine e_lald (q := 98) hE rfl rfl rfl rfl h.1 ?_
        replace h := h.2
        refine e_seg (k := 8) (d := (110, [(0, .ref 44), (1, .int x1), (2, .int x2), (3, .int x3), (4, .int x4), (5, .int x5), (6, .long x6), (8, .int x8), (9, .int (1 <<< (x8 &&& 31))), (10, .long (M.2 50 x5.toNatClampNeg)), (12, .long ((M.2 50 x5.toNatClampNeg) * (M.2 52 (x4 ^^^ (1 <<< (x8 &&& 31))).toNatClampNeg)))], [.int (x4 >>> ((x8 + 1) &&& 31)), .long x6], M)) rfl ?_
        refine e_call (q := 113) (L0 := [(0, .int (x4 >>> ((x8 + 1) &&& 31)))]) hE rfl rfl rfl rfl (jargs_S rfl rfl rfl rfl (Nat.le_of_ble_eq_true rfl) (Nat.le_of_ble_eq_true rfl) (Nat.le_of_ble_eq_true rfl)) rfl rfl (jEv.mono h (fun o6 M7 h => ?_))
        obtain ⟨r8, rfl, h⟩ := h
        refine ⟨_, rfl, ?_⟩
        show jEv nX0_determinant (113, [(0, .ref 44), (1, .int x1), (2, .int x2), (3, .int x3), (4, .int x4), (5, .int x5), (6, .long x6), (8, .int x8), (9, .int (1 <<< (x8 &&& 31))), (10, .long (M.2 50 x5.toNatClampNeg)), (12, .long ((M.2 50 x5.toNatClampNeg) * (M.2 52 (x4 ^^^ (1 <<< (x8 &&& 31))).toNatClampNeg)))], [.int r8, .long x6], M7) K
        refine e_seg (k := 1) (d := (114, [(0, .ref 44), (1, .int x1), (2, .int x2), (3, .int x3), (4, .int x4), (5, .int x5), (6, .long x6), (8, .int x8), (9, .int (1 <<< (x8 &&& 31))), (10, .long (M.2 50 x5.toNatClampNeg)), (12, .long ((M.2 50 x5.toNatClampNeg) * (M.2 52 (x4 ^^^ (1 <<< (x8 &&& 31))).toNatClampNeg)))], [.int 2, .int r8, .long x6], M7)) rfl ?_
        refine e_irem (q := 115) hE rfl rfl rfl (by decide) ?_
        refine e_if_ne (t := 123) (q := 118) hE rfl rfl rfl rfl (fun hbr => ?_) (fun hbr => ?_)
        · replace h := h.2 hbr
          refine e_seg (k := 6) (d := (35, [(0, .ref 44), (1, .int x1), (2, .int x2), (3, .int x3), (4, .int x4), (5, .int x5), (6, .long (x6 + (-((M.2 50 x5.toNatClampNeg) * (M.2 52 (x4 ^^^ (1 <<< (x8 &&& 31))).toNatClampNeg))))), (8, .int (x8 + 1)), (9, .int (1 <<< (x8 &&& 31))), (10, .long (M.2 50 x5.toNatClampNeg)), (12, .long ((M.2 50 x5.toNatClampNeg) * (M.2 52 (x4 ^^^ (1 <<< (x8 &&& 31))).toNatClampNeg)))], [], M7)) rfl ?_
          refine e_cut (ks := [0, 1, 2, 3, 4, 5, 6, 8]) (L' := [(0, .ref 44), (1, .int x1), (2, .int x2), (3, .int x3), (4, .int x4), (5, .int x5), (6, .long (x6 + (-((M.2 50 x5.toNatClampNeg) * (M.2 52 (x4 ^^^ (1 <<< (x8 &&& 31))).toNatClampNeg))))), (8, .int (x8 + 1))]) hE rfl rfl rfl rfl rfl ?_
          exact h
        · replace h := h.1 hbr
          refine e_seg (k := 6) (d := (35, [(0, .ref 44), (1, .int x1), (2, .int x2), (3, .int x3), (4, .int x4), (5, .int x5), (6, .long (x6 + ((M.2 50 x5.toNatClampNeg) * (M.2 52 (x4 ^^^ (1 <<< (x8 &&& 31))).toNatClampNeg)))), (8, .int (x8 + 1)), (9, .int (1 <<< (x8 &&& 31))), (10, .long (M.2 50 x5.toNatClampNeg)), (12, .long ((M.2 50 x5.toNatClampNeg) * (M.2 52 (x4 ^^^ (1 <<< (x8 &&& 31))).toNatClampNeg)))], [], M7)) rfl ?_
          refine e_cut (ks := [0, 1, 2, 3, 4, 5, 6, 8]) (L' := [(0, .ref 44), (1, .int x1), (2, .int x2), (3, .int x3), (4, .int x4), (5, .int x5), (6, .long (x6 + ((M.2 50 x5.toNatClampNeg) * (M.2 52 (x4 ^^^ (1 <<< (x8 &&& 31))).toNatClampNeg)))), (8, .int (x8 + 1))]) hE rfl rfl rfl rfl rfl ?_
          exact h
    · replace h := h.1 hbr
      refine e_seg (k := 3) (d := (35, [(0, .ref 44), (1, .int x1), (2, .int x2), (3, .int x3), (4, .int x4), (5, .int x5), (6, .long x6), (8, .int (x8 + 1)), (9, .int (1 <<< (x8 &&& 31)))], [], M)) rfl ?_
      refine e_cut (ks := [0, 1, 2, 3, 4, 5, 6, 8]) (L' := [(0, .ref 44), (1, .int x1), (2, .int x2), (3, .int x3), (4, .int x4), (5, .int x5), (6, .long x6), (8, .int (x8 + 1))]) hE rfl rfl rfl rfl rfl ?_
      exact h
set_option maxRecDepth 100000 in
set_option maxHeartbeats 4000000 in
theorem v_X3_isNowhereBelowZero_0 {K : jK} {M : jM} {a : Nat} (ha : jLi a) (h : (((M.1 a 1) ≤ 1 → (((M.1 a 1) ≤ 2 → (((2 * (if 0 ≤ 0 then 0 else 0 - 0)) ≤ ((M.1 (a + 1) 0) + (2 * 0)) → K (some (some (.int 1))) M) ∧ (¬ (2 * (if 0 ≤ 0 then 0 else 0 - 0)) ≤ ((M.1 (a + 1) 0) + (2 * 0)) → K (some (some (.int 0))) M))) ∧ (¬ (M.1 a 1) ≤ 2 → (((2 * (if 0 ≤ 0 then 0 else 0 - 0)) ≤ ((M.1 (a + 1) 0) + (2 * (M.1 (a + 1) 2))) → (((M.1 (a + 1) 2) ≤ 0 → K (some (some (.int 1))) M) ∧ (¬ (M.1 (a + 1) 2) ≤ 0 → (((4 * (M.1 (a + 1) 2)) ≤ (if 0 ≤ 0 then 0 else 0 - 0) → K (some (some (.int 1))) M) ∧ (¬ (4 * (M.1 (a + 1) 2)) ≤ (if 0 ≤ 0 then 0 else 0 - 0) → ((((4 * (M.1 (a + 1) 2)) * ((M.1 (a + 1) 0) - (2 * (M.1 (a + 1) 2)))) < (0 * 0) → K (some (some (.int 0))) M) ∧ (¬ ((4 * (M.1 (a + 1) 2)) * ((M.1 (a + 1) 0) - (2 * (M.1 (a + 1) 2)))) < (0 * 0) → K (some (some (.int 1))) M))))))) ∧ (¬ (2 * (if 0 ≤ 0 then 0 else 0 - 0)) ≤ ((M.1 (a + 1) 0) + (2 * (M.1 (a + 1) 2))) → K (some (some (.int 0))) M))))) ∧ (¬ (M.1 a 1) ≤ 1 → (((M.1 a 1) ≤ 2 → (((2 * (if 0 ≤ (M.1 (a + 1) 1) then (M.1 (a + 1) 1) else 0 - (M.1 (a + 1) 1))) ≤ ((M.1 (a + 1) 0) + (2 * 0)) → K (some (some (.int 1))) M) ∧ (¬ (2 * (if 0 ≤ (M.1 (a + 1) 1) then (M.1 (a + 1) 1) else 0 - (M.1 (a + 1) 1))) ≤ ((M.1 (a + 1) 0) + (2 * 0)) → K (some (some (.int 0))) M))) ∧ (¬ (M.1 a 1) ≤ 2 → (((2 * (if 0 ≤ (M.1 (a + 1) 1) then (M.1 (a + 1) 1) else 0 - (M.1 (a + 1) 1))) ≤ ((M.1 (a + 1) 0) + (2 * (M.1 (a + 1) 2))) → (((M.1 (a + 1) 2) ≤ 0 → K (some (some (.int 1))) M) ∧ (¬ (M.1 (a + 1) 2) ≤ 0 → (((4 * (M.1 (a + 1) 2)) ≤ (if 0 ≤ (M.1 (a + 1) 1) then (M.1 (a + 1) 1) else 0 - (M.1 (a + 1) 1)) → K (some (some (.int 1))) M) ∧ (¬ (4 * (M.1 (a + 1) 2)) ≤ (if 0 ≤ (M.1 (a + 1) 1) then (M.1 (a + 1) 1) else 0 - (M.1 (a + 1) 1)) → ((((4 * (M.1 (a + 1) 2)) * ((M.1 (a + 1) 0) - (2 * (M.1 (a + 1) 2)))) < ((M.1 (a + 1) 1) * (M.1 (a + 1) 1)) → K (some (some (.int 0))) M) ∧ (¬ ((4 * (M.1 (a + 1) 2)) * ((M.1 (a + 1) 0) - (2 * (M.1 (a + 1) 2)))) < ((M.1 (a + 1) 1) * (M.1 (a + 1) 1)) → K (some (some (.int 1))) M))))))) ∧ (¬ (2 * (if 0 ≤ (M.1 (a + 1) 1) then (M.1 (a + 1) 1) else 0 - (M.1 (a + 1) 1))) ≤ ((M.1 (a + 1) 0) + (2 * (M.1 (a + 1) 2))) → K (some (some (.int 0))) M))))))) : jEv nX3_isNowhereBelowZero (0, [(0, .ref a)], [], M) K := by
  have hE : jMT nX3_isNowhereBelowZero = some me_X3_isNowhereBelowZero := rfl
  refine e_seg (k := 1) (d := (1, [(0, .ref a)], [.ref a], M)) rfl ?_
  refine e_get (v := .ref (a + 1)) (q := 4) hE rfl rfl rfl rfl (jLi_o ha) rfl rfl ?_
  refine e_seg (k := 1) (d := (5, [(0, .ref a)], [.int 0, .ref (a + 1)], M)) rfl ?_
  refine e_iald (q := 6) hE rfl rfl rfl (jLi_1 ha) (by decide) ?_
  show jEv nX3_isNowhereBelowZero (6, [(0, .ref a)], [.int (M.1 (a + 1) 0)], M) K
  refine e_seg (k := 2) (d := (8, [(0, .ref a), (1, .int (M.1 (a + 1) 0))], [.ref a], M)) rfl ?_
  refine e_get (v := .int (M.1 a 1)) (q := 11) hE rfl rfl rfl rfl (jLi_o ha) rfl rfl ?_
  refine e_seg (k := 1) (d := (12, [(0, .ref a), (1, .int (M.1 (a + 1) 0))], [.int 1, .int (M.1 a 1)], M)) rfl ?_
  refine e_ic_le (t := 24) (q := 15) hE rfl rfl rfl rfl (fun hbr => ?_) (fun hbr => ?_)
  · replace h := h.1 hbr
    refine e_seg (k := 3) (d := (27, [(0, .ref a), (1, .int (M.1 (a + 1) 0)), (2, .int 0)], [.ref a], M)) rfl ?_
    refine e_get (v := .int (M.1 a 1)) (q := 30) hE rfl rfl rfl rfl (jLi_o ha) rfl rfl ?_
    refine e_seg (k := 1) (d := (31, [(0, .ref a), (1, .int (M.1 (a + 1) 0)), (2, .int 0)], [.int 2, .int (M.1 a 1)], M)) rfl ?_
    refine e_ic_le (t := 43) (q := 34) hE rfl rfl rfl rfl (fun hbr => ?_) (fun hbr => ?_)
    · replace h := h.1 hbr
      refine e_seg (k := 11) (d := (56, [(0, .ref a), (1, .int (M.1 (a + 1) 0)), (2, .int 0), (3, .int 0)], [.int (2 * (if 0 ≤ 0 then 0 else 0 - 0)), .int ((M.1 (a + 1) 0) + (2 * 0))], M)) rfl ?_
      refine e_ic_ge (t := 61) (q := 59) hE rfl rfl rfl rfl (fun hbr => ?_) (fun hbr => ?_)
      · replace h := h.1 hbr
        refine e_seg (k := 1) (d := (62, [(0, .ref a), (1, .int (M.1 (a + 1) 0)), (2, .int 0), (3, .int 0)], [.int 0], M)) rfl ?_
        refine e_if_le (t := 79) (q := 65) hE rfl rfl rfl rfl (fun hbr => ?_) (fun hbr => ?_)
        · clear hbr
          refine e_seg (k := 3) (d := (84, [(0, .ref a), (1, .int (M.1 (a + 1) 0)), (2, .int 0), (3, .int 0), (4, .int 0)], [.int 0], M)) rfl ?_
          refine e_if_eq (t := 102) (q := 87) hE rfl rfl rfl rfl (fun hbr => ?_) (fun hbr => ?_)
          · clear hbr
            refine e_seg (k := 2) (d := (107, [(0, .ref a), (1, .int (M.1 (a + 1) 0)), (2, .int 0), (3, .int 0), (4, .int 0)], [.int 1], M)) rfl ?_
            exact e_ret hE rfl rfl (jb_z rfl (by decide)) h
          · exact absurd hbr (by decide)
        · exact absurd hbr (by decide)
      · replace h := h.2 hbr
        refine e_seg (k := 1) (d := (60, [(0, .ref a), (1, .int (M.1 (a + 1) 0)), (2, .int 0), (3, .int 0)], [.int 0], M)) rfl ?_
        exact e_ret hE rfl rfl (jb_z rfl (by decide)) h
    · replace h := h.2 hbr
      refine e_seg (k := 1) (d := (35, [(0, .ref a), (1, .int (M.1 (a + 1) 0)), (2, .int 0)], [.ref a], M)) rfl ?_
      refine e_get (v := .ref (a + 1)) (q := 38) hE rfl rfl rfl rfl (jLi_o ha) rfl rfl ?_
      refine e_seg (k := 1) (d := (39, [(0, .ref a), (1, .int (M.1 (a + 1) 0)), (2, .int 0)], [.int 2, .ref (a + 1)], M)) rfl ?_
      refine e_iald (q := 40) hE rfl rfl rfl (jLi_1 ha) (by decide) ?_
      show jEv nX3_isNowhereBelowZero (40, [(0, .ref a), (1, .int (M.1 (a + 1) 0)), (2, .int 0)], [.int (M.1 (a + 1) 2)], M) K
      refine e_seg (k := 11) (d := (56, [(0, .ref a), (1, .int (M.1 (a + 1) 0)), (2, .int 0), (3, .int (M.1 (a + 1) 2))], [.int (2 * (if 0 ≤ 0 then 0 else 0 - 0)), .int ((M.1 (a + 1) 0) + (2 * (M.1 (a + 1) 2)))], M)) rfl ?_
      refine e_ic_ge (t := 61) (q := 59) hE rfl rfl rfl rfl (fun hbr => ?_) (fun hbr => ?_)
      · replace h := h.1 hbr
        refine e_seg (k := 1) (d := (62, [(0, .ref a), (1, .int (M.1 (a + 1) 0)), (2, .int 0), (3, .int (M.1 (a + 1) 2))], [.int (M.1 (a + 1) 2)], M)) rfl ?_
        refine e_if_le (t := 79) (q := 65) hE rfl rfl rfl rfl (fun hbr => ?_) (fun hbr => ?_)
        · replace h := h.1 hbr
          refine e_seg (k := 3) (d := (84, [(0, .ref a), (1, .int (M.1 (a + 1) 0)), (2, .int 0), (3, .int (M.1 (a + 1) 2)), (4, .int 0)], [.int 0], M)) rfl ?_
          refine e_if_eq (t := 102) (q := 87) hE rfl rfl rfl rfl (fun hbr => ?_) (fun hbr => ?_)
          · clear hbr
            refine e_seg (k := 2) (d := (107, [(0, .ref a), (1, .int (M.1 (a + 1) 0)), (2, .int 0), (3, .int (M.1 (a + 1) 2)), (4, .int 0)], [.int 1], M)) rfl ?_
            exact e_ret hE rfl rfl (jb_z rfl (by decide)) h
          · exact absurd hbr (by decide)
        · replace h := h.2 hbr
          refine e_seg (k := 5) (d := (72, [(0, .ref a), (1, .int (M.1 (a + 1) 0)), (2, .int 0), (3, .int (M.1 (a + 1) 2))], [.int (4 * (M.1 (a + 1) 2)), .int (if 0 ≤ 0 then 0 else 0 - 0)], M)) rfl ?_
          refine e_ic_ge (t := 79) (q := 75) hE rfl rfl rfl rfl (fun hbr => ?_) (fun hbr => ?_)
          · replace h := h.1 hbr
            refine e_seg (k := 3) (d := (84, [(0, .ref a), (1, .int (M.1 (a + 1) 0)), (2, .int 0), (3, .int (M.1 (a + 1) 2)), (4, .int 0)], [.int 0], M)) rfl ?_
            refine e_if_eq (t := 102) (q := 87) hE rfl rfl rfl rfl (fun hbr => ?_) (fun hbr => ?_)
            · clear hbr
              refine e_seg (k := 2) (d := (107, [(0, .ref a), (1, .int (M.1 (a + 1) 0)), (2, .int 0), (3, .int (M.1 (a + 1) 2)), (4, .int 0)], [.int 1], M)) rfl ?_
              exact e_ret hE rfl rfl (jb_z rfl (by decide)) h
            · exact absurd hbr (by decide)
          · replace h := h.2 hbr
            refine e_seg (k := 4) (d := (84, [(0, .ref a), (1, .int (M.1 (a + 1) 0)), (2, .int 0), (3, .int (M.1 (a + 1) 2)), (4, .int 1)], [.int 1], M)) rfl ?_
            refine e_if_eq (t := 102) (q := 87) hE rfl rfl rfl rfl (fun hbr => ?_) (fun hbr => ?_)
            · exact absurd hbr (by decide)
            · clear hbr
              refine e_seg (k := 12) (d := (99, [(0, .ref a), (1, .int (M.1 (a + 1) 0)), (2, .int 0), (3, .int (M.1 (a + 1) 2)), (4, .int 1)], [.int (0 * 0), .int ((4 * (M.1 (a + 1) 2)) * ((M.1 (a + 1) 0) - (2 * (M.1 (a + 1) 2))))], M)) rfl ?_
              refine e_ic_lt (t := 106) (q := 102) hE rfl rfl rfl rfl (fun hbr => ?_) (fun hbr => ?_)
              · replace h := h.1 hbr
                refine e_seg (k := 1) (d := (107, [(0, .ref a), (1, .int (M.1 (a + 1) 0)), (2, .int 0), (3, .int (M.1 (a + 1) 2)), (4, .int 1)], [.int 0], M)) rfl ?_
                exact e_ret hE rfl rfl (jb_z rfl (by decide)) h
              · replace h := h.2 hbr
                refine e_seg (k := 2) (d := (107, [(0, .ref a), (1, .int (M.1 (a + 1) 0)), (2, .int 0), (3, .int (M.1 (a + 1) 2)), (4, .int 1)], [.int 1], M)) rfl ?_
                exact e_ret hE rfl rfl (jb_z rfl (by decide)) h
      · replace h := h.2 hbr
        refine e_seg (k := 1) (d := (60, [(0, .ref a), (1, .int (M.1 (a + 1) 0)), (2, .int 0), (3, .int (M.1 (a + 1) 2))], [.int 0], M)) rfl ?_
        exact e_ret hE rfl rfl (jb_z rfl (by decide)) h
  · replace h := h.2 hbr
    refine e_seg (k := 1) (d := (16, [(0, .ref a), (1, .int (M.1 (a + 1) 0))], [.ref a], M)) rfl ?_
    refine e_get (v := .ref (a + 1)) (q := 19) hE rfl rfl rfl rfl (jLi_o ha) rfl rfl ?_
    refine e_seg (k := 1) (d := (20, [(0, .ref a), (1, .int (M.1 (a + 1) 0))], [.int 1, .ref (a + 1)], M)) rfl ?_
    refine e_iald (q := 21) hE rfl rfl rfl (jLi_1 ha) (by decide) ?_
    show jEv nX3_isNowhereBelowZero (21, [(0, .ref a), (1, .int (M.1 (a + 1) 0))], [.int (M.1 (a + 1) 1)], M) K
    refine e_seg (k := 3) (d := (27, [(0, .ref a), (1, .int (M.1 (a + 1) 0)), (2, .int (M.1 (a + 1) 1))], [.ref a], M)) rfl ?_
    refine e_get (v := .int (M.1 a 1)) (q := 30) hE rfl rfl rfl rfl (jLi_o ha) rfl rfl ?_
    refine e_seg (k := 1) (d := (31, [(0, .ref a), (1, .int (M.1 (a + 1) 0)), (2, .int (M.1 (a + 1) 1))], [.int 2, .int (M.1 a 1)], M)) rfl ?_
    refine e_ic_le (t := 43) (q := 34) hE rfl rfl rfl rfl (fun hbr => ?_) (fun hbr => ?_)
    · replace h := h.1 hbr
      refine e_seg (k := 11) (d := (56, [(0, .ref a), (1, .int (M.1 (a + 1) 0)), (2, .int (M.1 (a + 1) 1)), (3, .int 0)], [.int (2 * (if 0 ≤ (M.1 (a + 1) 1) then (M.1 (a + 1) 1) else 0 - (M.1 (a + 1) 1))), .int ((M.1 (a + 1) 0) + (2 * 0))], M)) rfl ?_
      refine e_ic_ge (t := 61) (q := 59) hE rfl rfl rfl rfl (fun hbr => ?_) (fun hbr => ?_)
      · replace h := h.1 hbr
        refine e_seg (k := 1) (d := (62, [(0, .ref a), (1, .int (M.1 (a + 1) 0)), (2, .int (M.1 (a + 1) 1)), (3, .int 0)], [.int 0], M)) rfl ?_
        refine e_if_le (t := 79) (q := 65) hE rfl rfl rfl rfl (fun hbr => ?_) (fun hbr => ?_)
        · clear hbr
          refine e_seg (k := 3) (d := (84, [(0, .ref a), (1, .int (M.1 (a + 1) 0)), (2, .int (M.1 (a + 1) 1)), (3, .int 0), (4, .int 0)], [.int 0], M)) rfl ?_
          refine e_if_eq (t := 102) (q := 87) hE rfl rfl rfl rfl (fun hbr => ?_) (fun hbr => ?_)
          · clear hbr
            refine e_seg (k := 2) (d := (107, [(0, .ref a), (1, .int (M.1 (a + 1) 0)), (2, .int (M.1 (a + 1) 1)), (3, .int 0), (4, .int 0)], [.int 1], M)) rfl ?_
            exact e_ret hE rfl rfl (jb_z rfl (by decide)) h
          · exact absurd hbr (by decide)
        · exact absurd hbr (by decide)
      · replace h := h.2 hbr
        refine e_seg (k := 1) (d := (60, [(0, .ref a), (1, .int (M.1 (a + 1) 0)), (2, .int (M.1 (a + 1) 1)), (3, .int 0)], [.int 0], M)) rfl ?_
        exact e_ret hE rfl rfl (jb_z rfl (by decide)) h
    · replace h := h.2 hbr
      refine e_seg (k := 1) (d := (35, [(0, .ref a), (1, .int (M.1 (a + 1) 0)), (2, .int (M.1 (a + 1) 1))], [.ref a], M)) rfl ?_
      refine e_get (v := .ref (a + 1)) (q := 38) hE rfl rfl rfl rfl (jLi_o ha) rfl rfl ?_
      refine e_seg (k := 1) (d := (39, [(0, .ref a), (1, .int (M.1 (a + 1) 0)), (2, .int (M.1 (a + 1) 1))], [.int 2, .ref (a + 1)], M)) rfl ?_
      refine e_iald (q := 40) hE rfl rfl rfl (jLi_1 ha) (by decide) ?_
      show jEv nX3_isNowhereBelowZero (40, [(0, .ref a), (1, .int (M.1 (a + 1) 0)), (2, .int (M.1 (a + 1) 1))], [.int (M.1 (a + 1) 2)], M) K
      refine e_seg (k := 11) (d := (56, [(0, .ref a), (1, .int (M.1 (a + 1) 0)), (2, .int (M.1 (a + 1) 1)), (3, .int (M.1 (a + 1) 2))], [.int (2 * (if 0 ≤ (M.1 (a + 1) 1) then (M.1 (a + 1) 1) else 0 - (M.1 (a + 1) 1))), .int ((M.1 (a + 1) 0) + (2 * (M.1 (a + 1) 2)))], M)) rfl ?_
      refine e_ic_ge (t := 61) (q := 59) hE rfl rfl rfl rfl (fun hbr => ?_) (fun hbr => ?_)
      · replace h := h.1 hbr
        refine e_seg (k := 1) (d := (62, [(0, .ref a), (1, .int (M.1 (a + 1) 0)), (2, .int (M.1 (a + 1) 1)), (3, .int (M.1 (a + 1) 2))], [.int (M.1 (a + 1) 2)], M)) rfl ?_
        refine e_if_le (t := 79) (q := 65) hE rfl rfl rfl rfl (fun hbr => ?_) (fun hbr => ?_)
        · replace h := h.1 hbr
          refine e_seg (k := 3) (d := (84, [(0, .ref a), (1, .int (M.1 (a + 1) 0)), (2, .int (M.1 (a + 1) 1)), (3, .int (M.1 (a + 1) 2)), (4, .int 0)], [.int 0], M)) rfl ?_
          refine e_if_eq (t := 102) (q := 87) hE rfl rfl rfl rfl (fun hbr => ?_) (fun hbr => ?_)
          · clear hbr
            refine e_seg (k := 2) (d := (107, [(0, .ref a), (1, .int (M.1 (a + 1) 0)), (2, .int (M.1 (a + 1) 1)), (3, .int (M.1 (a + 1) 2)), (4, .int 0)], [.int 1], M)) rfl ?_
            exact e_ret hE rfl rfl (jb_z rfl (by decide)) h
          · exact absurd hbr (by decide)
        · replace h := h.2 hbr
          refine e_seg (k := 5) (d := (72, [(0, .ref a), (1, .int (M.1 (a + 1) 0)), (2, .int (M.1 (a + 1) 1)), (3, .int (M.1 (a + 1) 2))], [.int (4 * (M.1 (a + 1) 2)), .int (if 0 ≤ (M.1 (a + 1) 1) then (M.1 (a + 1) 1) else 0 - (M.1 (a + 1) 1))], M)) rfl ?_
          refine e_ic_ge (t := 79) (q := 75) hE rfl rfl rfl rfl (fun hbr => ?_) (fun hbr => ?_)
          · replace h := h.1 hbr
            refine e_seg (k := 3) (d := (84, [(0, .ref a), (1, .int (M.1 (a + 1) 0)), (2, .int (M.1 (a + 1) 1)), (3, .int (M.1 (a + 1) 2)), (4, .int 0)], [.int 0], M)) rfl ?_
            refine e_if_eq (t := 102) (q := 87) hE rfl rfl rfl rfl (fun hbr => ?_) (fun hbr => ?_)
            · clear hbr
              refine e_seg (k := 2) (d := (107, [(0, .ref a), (1, .int (M.1 (a + 1) 0)), (2, .int (M.1 (a + 1) 1)), (3, .int (M.1 (a + 1) 2)), (4, .int 0)], [.int 1], M)) rfl ?_
              exact e_ret hE rfl rfl (jb_z rfl (by decide)) h
            · exact absurd hbr (by decide)
          · replace h := h.2 hbr
            refine e_seg (k := 4) (d := (84, [(0, .ref a), (1, .int (M.1 (a + 1) 0)), (2, .int (M.1 (a + 1) 1)), (3, .int (M.1 (a + 1) 2)), (4, .int 1)], [.int 1], M)) rfl ?_
            refine e_if_eq (t := 102) (q := 87) hE rfl rfl rfl rfl (fun hbr => ?_) (fun hbr => ?_)
            · exact absurd hbr (by decide)
            · clear hbr
              refine e_seg (k := 12) (d := (99, [(0, .ref a), (1, .int (M.1 (a + 1) 0)), (2, .int (M.1 (a + 1) 1)), (3, .int (M.1 (a + 1) 2)), (4, .int 1)], [.int ((M.1 (a + 1) 1) * (M.1 (a + 1) 1)), .int ((4 * (M.1 (a + 1) 2)) * ((M.1 (a + 1) 0) - (2 * (M.1 (a + 1) 2))))], M)) rfl ?_
              refine e_ic_lt (t := 106) (q := 102) hE rfl rfl rfl rfl (fun hbr => ?_) (fun hbr => ?_)
              · replace h := h.1 hbr
                refine e_seg (k := 1) (d := (107, [(0, .ref a), (1, .int (M.1 (a + 1) 0)), (2, .int (M.1 (a + 1) 1)), (3, .int (M.1 (a + 1) 2)), (4, .int 1)], [.int 0], M)) rfl ?_
                exact e_ret hE rfl rfl (jb_z rfl (by decide)) h
              · replace h := h.2 hbr
                refine e_seg (k := 2) (d := (107, [(0, .ref a), (1, .int (M.1 (a + 1) 0)), (2, .int (M.1 (a + 1) 1)), (3, .int (M.1 (a + 1) 2)), (4, .int 1)], [.int 1], M)) rfl ?_
                exact e_ret hE rfl rfl (jb_z rfl (by decide)) h
      · replace h := h.2 hbr
        refine e_seg (k := 1) (d := (60, [(0, .ref a), (1, .int (M.1 (a + 1) 0)), (2, .int (M.1 (a + 1) 1)), (3, .int (M.1 (a + 1) 2))], [.int 0], M)) rfl ?_
        exact e_ret hE rfl rfl (jb_z rfl (by decide)) h
set_option maxRecDepth 100000 in
set_option maxHeartbeats 4000000 in
theorem v_X0_solve_0 {K : jK} {M : jM} {x1 : Int32} (h : (jEv nX0_determinant (0, [(0, .ref 44), (1, .int x1), (2, .int (-1))], [], M) (fun o1 M2 => ∃ r3 : Int64, o1 = some (some (.long r3)) ∧ (∀ M4 : jM, M4 = jsl M2 44 4 r3 → (((M4.2 44 4) = 0 → (∀ M5 : jM, M5 = jsl M4 44 4 1 → K (some (some (.int 0))) M5)) ∧ (¬ (M4.2 44 4) = 0 → jEv nX0_solve (28, [(0, .ref 44), (1, .int x1), (2, .int 0)], [], M4) K)))))) : jEv nX0_solve (0, [(0, .ref 44), (1, .int x1)], [], M) K := by
  have hE : jMT nX0_solve = some me_X0_solve := rfl
  refine e_seg (k := 4) (d := (4, [(0, .ref 44), (1, .int x1)], [.int (-1), .int x1, .ref 44, .ref 44], M)) rfl ?_
  refine e_call (q := 7) (L0 := [(0, .ref 44), (1, .int x1), (2, .int (-1))]) hE rfl rfl rfl rfl (jargs_V rfl rfl rfl rfl rfl (Nat.le_of_ble_eq_true rfl) (Nat.le_of_ble_eq_true rfl) (Nat.le_of_ble_eq_true rfl)) rfl rfl (jEv.mono h (fun o1 M2 h => ?_))
  obtain ⟨r3, rfl, h⟩ := h
  refine ⟨_, rfl, ?_⟩
  show jEv nX0_solve (7, [(0, .ref 44), (1, .int x1)], [.long r3, .ref 44], M2) K
  refine e_put (q := 10) hE rfl rfl rfl rfl rfl rfl rfl ?_
  obtain ⟨M4, hM4⟩ : ∃ z : jM, z = jsl M2 44 4 r3 := ⟨_, rfl⟩
  refine jEv_M hM4 ?_
  replace h := h M4 hM4
  refine e_seg (k := 3) (d := (15, [(0, .ref 44), (1, .int x1)], [.long 0, .long (M4.2 44 4)], M4)) rfl ?_
  refine e_lc (t := 26) (q := 19) (pc1 := 16) hE rfl rfl rfl rfl rfl rfl (lc_ne (M4.2 44 4) 0) rfl rfl (fun hbr => ?_) (fun hbr => ?_)
  · replace h := h.2 hbr
    refine e_seg (k := 2) (d := (28, [(0, .ref 44), (1, .int x1), (2, .int 0)], [], M4)) rfl ?_
    refine e_cut (ks := [0, 1, 2]) (L' := [(0, .ref 44), (1, .int x1), (2, .int 0)]) hE rfl rfl rfl rfl rfl ?_
    exact h
  · replace h := h.1 (Classical.byContradiction hbr)
    refine e_seg (k := 2) (d := (21, [(0, .ref 44), (1, .int x1)], [.long 1, .ref 44], M4)) rfl ?_
    refine e_put (q := 24) hE rfl rfl rfl rfl rfl rfl rfl ?_
    obtain ⟨M5, hM5⟩ : ∃ z : jM, z = jsl M4 44 4 1 := ⟨_, rfl⟩
    refine jEv_M hM5 ?_
    replace h := h M5 hM5
    refine e_seg (k := 1) (d := (25, [(0, .ref 44), (1, .int x1)], [.int 0], M5)) rfl ?_
    exact e_ret hE rfl rfl (jb_z rfl (by decide)) h
set_option maxRecDepth 100000 in
set_option maxHeartbeats 4000000 in
theorem v_X0_solve_28 {K : jK} {M : jM} {x1 : Int32} {x2 : Int32} (h : ((x1 ≤ x2 → K (some (some (.int 1))) M) ∧ (¬ x1 ≤ x2 → (jEv nX0_determinant (0, [(0, .ref 44), (1, .int x1), (2, .int x2)], [], M) (fun o1 M2 => ∃ r3 : Int64, o1 = some (some (.long r3)) ∧ (¬ (x2 < 0 ∨ 4 ≤ x2.toNatClampNeg) ∧ (∀ M4 : jM, M4 = jsl M2 51 x2.toNatClampNeg r3 → jEv nX0_solve (28, [(0, .ref 44), (1, .int x1), (2, .int (x2 + 1))], [], M4) K))))))) : jEv nX0_solve (28, [(0, .ref 44), (1, .int x1), (2, .int x2)], [], M) K := by
  have hE : jMT nX0_solve = some me_X0_solve := rfl
  refine e_seg (k := 2) (d := (30, [(0, .ref 44), (1, .int x1), (2, .int x2)], [.int x1, .int x2], M)) rfl ?_
  refine e_ic_ge (t := 51) (q := 33) hE rfl rfl rfl rfl (fun hbr => ?_) (fun hbr => ?_)
  · replace h := h.1 hbr
    refine e_seg (k := 1) (d := (52, [(0, .ref 44), (1, .int x1), (2, .int x2)], [.int 1], M)) rfl ?_
    exact e_ret hE rfl rfl (jb_z rfl (by decide)) h
  · replace h := h.2 hbr
    refine e_seg (k := 6) (d := (41, [(0, .ref 44), (1, .int x1), (2, .int x2)], [.int x2, .int x1, .ref 44, .int x2, .ref 51], M)) rfl ?_
    refine e_call (q := 44) (L0 := [(0, .ref 44), (1, .int x1), (2, .int x2)]) hE rfl rfl rfl rfl (jargs_V rfl rfl rfl rfl rfl (Nat.le_of_ble_eq_true rfl) (Nat.le_of_ble_eq_true rfl) (Nat.le_of_ble_eq_true rfl)) rfl rfl (jEv.mono h (fun o1 M2 h => ?_))
    obtain ⟨r3, rfl, h⟩ := h
    refine ⟨_, rfl, ?_⟩
    show jEv nX0_solve (44, [(0, .ref 44), (1, .int x1), (2, .int x2)], [.long r3, .int x2, .ref 51], M2) K
    refine e_last (q := 45) hE rfl rfl rfl rfl h.1 ?_
    replace h := h.2
    obtain ⟨M4, hM4⟩ : ∃ z : jM, z = jsl M2 51 x2.toNatClampNeg r3 := ⟨_, rfl⟩
    refine jEv_M hM4 ?_
    replace h := h M4 hM4
    refine e_seg (k := 2) (d := (28, [(0, .ref 44), (1, .int x1), (2, .int (x2 + 1))], [], M4)) rfl ?_
    refine e_cut (ks := [0, 1, 2]) (L' := [(0, .ref 44), (1, .int x1), (2, .int (x2 + 1))]) hE rfl rfl rfl rfl rfl ?_
    exact h
set_option maxRecDepth 100000 in
set_option maxHeartbeats 4000000 in
theorem v_X3_solveStep_0 {K : jK} {M : jM} {x1 : Int32} {a : Nat} (ha : jLi a) (h : jEv nX3_solveStep (2, [(0, .ref a), (1, .int x1), (2, .ref 44), (3, .int 0)], [], M) K) : jEv nX3_solveStep (0, [(0, .ref a), (1, .int x1), (2, .ref 44)], [], M) K := by
  have hE : jMT nX3_solveStep = some me_X3_solveStep := rfl
  refine e_seg (k := 2) (d := (2, [(0, .ref a), (1, .int x1), (2, .ref 44), (3, .int 0)], [], M)) rfl ?_
  refine e_cut (ks := [0, 1, 2, 3]) (L' := [(0, .ref a), (1, .int x1), (2, .ref 44), (3, .int 0)]) hE rfl rfl rfl rfl rfl ?_
  exact h
set_option maxRecDepth 100000 in
set_option maxHeartbeats 4000000 in
theorem v_X3_solveStep_2 {K : jK} {M : jM} {x1 : Int32} {x3 : Int32} {a : Nat} (ha : jLi a) (h : ((x1 ≤ x3 → (jEv nX0_solve (0, [(0, .ref 44), (1, .int x1)], [], M) (fun o1 M2 => ∃ r3 : Int32, o1 = some (some (.int r3)) ∧ K (some none) M2))) ∧ (¬ x1 ≤ x3 → (¬ (x3 + 1 < 0 ∨ 5 ≤ (x3 + 1).toNatClampNeg) ∧ (¬ (x3 < 0 ∨ 4 ≤ x3.toNatClampNeg) ∧ (∀ M4 : jM, M4 = jsl M 50 x3.toNatClampNeg ((M.1 (a + 1) (x3 + 1).toNatClampNeg).toInt64) → jEv nX3_solveStep (25, [(0, .ref a), (1, .int x1), (2, .ref 44), (3, .int x3), (4, .int 0)], [], M4) K)))))) : jEv nX3_solveStep (2, [(0, .ref a), (1, .int x1), (2, .ref 44), (3, .int x3)], [], M) K := by
  have hE : jMT nX3_solveStep = some me_X3_solveStep := rfl
  refine e_seg (k := 2) (d := (4, [(0, .ref a), (1, .int x1), (2, .ref 44), (3, .int x3)], [.int x1, .int x3], M)) rfl ?_
  refine e_ic_ge (t := 65) (q := 7) hE rfl rfl rfl rfl (fun hbr => ?_) (fun hbr => ?_)
  · replace h := h.1 hbr
    refine e_seg (k := 2) (d := (67, [(0, .ref a), (1, .int x1), (2, .ref 44), (3, .int x3)], [.int x1, .ref 44], M)) rfl ?_
    refine e_call (q := 70) (L0 := [(0, .ref 44), (1, .int x1)]) hE rfl rfl rfl rfl (jargs_V rfl rfl rfl rfl rfl (Nat.le_of_ble_eq_true rfl) (Nat.le_of_ble_eq_true rfl) (Nat.le_of_ble_eq_true rfl)) rfl rfl (jEv.mono h (fun o1 M2 h => ?_))
    obtain ⟨r3, rfl, h⟩ := h
    refine ⟨_, rfl, ?_⟩
    show jEv nX3_solveStep (70, [(0, .ref a), (1, .int x1), (2, .ref 44), (3, .int x3)], [.int r3], M2) K
    refine e_seg (k := 1) (d := (71, [(0, .ref a), (1, .int x1), (2, .ref 44), (3, .int x3)], [], M2)) rfl ?_
    exact e_ret hE rfl rfl rfl h
  · replace h := h.2 hbr
    refine e_seg (k := 4) (d := (13, [(0, .ref a), (1, .int x1), (2, .ref 44), (3, .int x3)], [.ref a, .int x3, .ref 50], M)) rfl ?_
    refine e_get (v := .ref (a + 1)) (q := 16) hE rfl rfl rfl rfl (jLi_o ha) rfl rfl ?_
    refine e_seg (k := 3) (d := (19, [(0, .ref a), (1, .int x1), (2, .ref 44), (3, .int x3)], [.int (x3 + 1), .ref (a + 1), .int x3, .ref 50], M)) rfl ?_
    refine e_iald (q := 20) hE rfl rfl rfl (jLi_1 ha) h.1 ?_
    replace h := h.2
    refine e_seg (k := 1) (d := (21, [(0, .ref a), (1, .int x1), (2, .ref 44), (3, .int x3)], [.long ((M.1 (a + 1) (x3 + 1).toNatClampNeg).toInt64), .int x3, .ref 50], M)) rfl ?_
    refine e_last (q := 22) hE rfl rfl rfl rfl h.1 ?_
    replace h := h.2
    obtain ⟨M4, hM4⟩ : ∃ z : jM, z = jsl M 50 x3.toNatClampNeg ((M.1 (a + 1) (x3 + 1).toNatClampNeg).toInt64) := ⟨_, rfl⟩
    refine jEv_M hM4 ?_
    replace h := h M4 hM4
    refine e_seg (k := 2) (d := (25, [(0, .ref a), (1, .int x1), (2, .ref 44), (3, .int x3), (4, .int 0)], [], M4)) rfl ?_
    refine e_cut (ks := [0, 1, 2, 3, 4]) (L' := [(0, .ref a), (1, .int x1), (2, .ref 44), (3, .int x3), (4, .int 0)]) hE rfl rfl rfl rfl rfl ?_
    exact h
set_option maxRecDepth 100000 in
set_option maxHeartbeats 4000000 in
theorem v_X3_solveStep_25 {K : jK} {M : jM} {x1 : Int32} {x3 : Int32} {x4 : Int32} {a : Nat} (ha : jLi a) (h : ((x1 ≤ x4 → jEv nX3_solveStep (2, [(0, .ref a), (1, .int x1), (2, .ref 44), (3, .int (x3 + 1))], [], M) K) ∧ (¬ x1 ≤ x4 → (¬ (x3 < 0 ∨ 4 ≤ x3.toNatClampNeg) ∧ (¬ ((if 0 ≤ (x3 - x4) then (x3 - x4) else 0 - (x3 - x4)) < 0 ∨ 5 ≤ (if 0 ≤ (x3 - x4) then (x3 - x4) else 0 - (x3 - x4)).toNatClampNeg) ∧ (¬ (x4 < 0 ∨ 4 ≤ x4.toNatClampNeg) ∧ (∀ M2 : jM, M2 = jsl M (46 + x3.toNatClampNeg) x4.toNatClampNeg ((M.1 (a + 1) (if 0 ≤ (x3 - x4) then (x3 - x4) else 0 - (x3 - x4)).toNatClampNeg).toInt64) → jEv nX3_solveStep (25, [(0, .ref a), (1, .int x1), (2, .ref 44), (3, .int x3), (4, .int (x4 + 1))], [], M2) K))))))) : jEv nX3_solveStep (25, [(0, .ref a), (1, .int x1), (2, .ref 44), (3, .int x3), (4, .int x4)], [], M) K := by
  have hE : jMT nX3_solveStep = some me_X3_solveStep := rfl
  refine e_seg (k := 2) (d := (28, [(0, .ref a), (1, .int x1), (2, .ref 44), (3, .int x3), (4, .int x4)], [.int x1, .int x4], M)) rfl ?_
  refine e_ic_ge (t := 59) (q := 31) hE rfl rfl rfl rfl (fun hbr => ?_) (fun hbr => ?_)
  · replace h := h.1 hbr
    refine e_seg (k := 2) (d := (2, [(0, .ref a), (1, .int x1), (2, .ref 44), (3, .int (x3 + 1)), (4, .int x4)], [], M)) rfl ?_
    refine e_cut (ks := [0, 1, 2, 3]) (L' := [(0, .ref a), (1, .int x1), (2, .ref 44), (3, .int (x3 + 1))]) hE rfl rfl rfl rfl rfl ?_
    exact h
  · replace h := h.2 hbr
    refine e_seg (k := 3) (d := (36, [(0, .ref a), (1, .int x1), (2, .ref 44), (3, .int x3), (4, .int x4)], [.int x3, .ref 45], M)) rfl ?_
    have hi1 := h.1
    replace h := h.2
    refine e_aald (q := 37) hE rfl rfl rfl rfl (by decide) hi1 (jRw_l hi1) ?_
    refine e_seg (k := 2) (d := (40, [(0, .ref a), (1, .int x1), (2, .ref 44), (3, .int x3), (4, .int x4)], [.ref a, .int x4, .ref (46 + x3.toNatClampNeg)], M)) rfl ?_
    refine e_get (v := .ref (a + 1)) (q := 43) hE rfl rfl rfl rfl (jLi_o ha) rfl rfl ?_
    refine e_seg (k := 4) (d := (50, [(0, .ref a), (1, .int x1), (2, .ref 44), (3, .int x3), (4, .int x4)], [.int (if 0 ≤ (x3 - x4) then (x3 - x4) else 0 - (x3 - x4)), .ref (a + 1), .int x4, .ref (46 + x3.toNatClampNeg)], M)) rfl ?_
    refine e_iald (q := 51) hE rfl rfl rfl (jLi_1 ha) h.1 ?_
    replace h := h.2
    refine e_seg (k := 1) (d := (52, [(0, .ref a), (1, .int x1), (2, .ref 44), (3, .int x3), (4, .int x4)], [.long ((M.1 (a + 1) (if 0 ≤ (x3 - x4) then (x3 - x4) else 0 - (x3 - x4)).toNatClampNeg).toInt64), .int x4, .ref (46 + x3.toNatClampNeg)], M)) rfl ?_
    refine e_last (q := 53) hE rfl rfl rfl (jRw_o (jRw_i hi1)) h.1 ?_
    replace h := h.2
    obtain ⟨M2, hM2⟩ : ∃ z : jM, z = jsl M (46 + x3.toNatClampNeg) x4.toNatClampNeg ((M.1 (a + 1) (if 0 ≤ (x3 - x4) then (x3 - x4) else 0 - (x3 - x4)).toNatClampNeg).toInt64) := ⟨_, rfl⟩
    refine jEv_M hM2 ?_
    replace h := h M2 hM2
    refine e_seg (k := 2) (d := (25, [(0, .ref a), (1, .int x1), (2, .ref 44), (3, .int x3), (4, .int (x4 + 1))], [], M2)) rfl ?_
    refine e_cut (ks := [0, 1, 2, 3, 4]) (L' := [(0, .ref a), (1, .int x1), (2, .ref 44), (3, .int x3), (4, .int (x4 + 1))]) hE rfl rfl rfl rfl rfl ?_
    exact h
set_option maxRecDepth 100000 in
set_option maxHeartbeats 4000000 in
theorem v_X3_stepsThere_0 {K : jK} {M : jM} {a : Nat} (ha : jLi a) (h : jEv nX3_stepsThere (2, [(0, .ref a), (1, .ref 44), (2, .int 0)], [], M) K) : jEv nX3_stepsThere (0, [(0, .ref a), (1, .ref 44)], [], M) K := by
  have hE : jMT nX3_stepsThere = some me_X3_stepsThere := rfl
  refine e_seg (k := 2) (d := (2, [(0, .ref a), (1, .ref 44), (2, .int 0)], [], M)) rfl ?_
  refine e_cut (ks := [0, 1, 2]) (L' := [(0, .ref a), (1, .ref 44), (2, .int 0)]) hE rfl rfl rfl rfl rfl ?_
  exact h
set_option maxRecDepth 100000 in
set_option maxHeartbeats 4000000 in
theorem v_X3_stepsThere_2 {K : jK} {M : jM} {x2 : Int32} {a : Nat} (ha : jLi a) (h : ((((M.1 a 1) - 1) ≤ x2 → K (some (some (.int ((M.1 a 1) - 1)))) M) ∧ (¬ ((M.1 a 1) - 1) ≤ x2 → (jEv nX3_solveStep (0, [(0, .ref a), (1, .int x2), (2, .ref 44)], [], M) (fun o1 M2 => o1 = some none ∧ (jEv nX3_restTop (0, [(0, .ref a), (1, .int x2), (2, .ref 44)], [], M2) (fun o3 M4 => ∃ r5 : Int64, o3 = some (some (.long r5)) ∧ ((0 < r5 → jEv nX3_stepsThere (2, [(0, .ref a), (1, .ref 44), (2, .int (x2 + 1))], [], M4) K) ∧ (¬ (0 < r5) → K (some (some (.int x2))) M4))))))))) : jEv nX3_stepsThere (2, [(0, .ref a), (1, .ref 44), (2, .int x2)], [], M) K := by
  have hE : jMT nX3_stepsThere = some me_X3_stepsThere := rfl
  refine e_seg (k := 2) (d := (4, [(0, .ref a), (1, .ref 44), (2, .int x2)], [.ref a, .int x2], M)) rfl ?_
  refine e_get (v := .int (M.1 a 1)) (q := 7) hE rfl rfl rfl rfl (jLi_o ha) rfl rfl ?_
  refine e_seg (k := 2) (d := (9, [(0, .ref a), (1, .ref 44), (2, .int x2)], [.int ((M.1 a 1) - 1), .int x2], M)) rfl ?_
  refine e_ic_ge (t := 37) (q := 12) hE rfl rfl rfl rfl (fun hbr => ?_) (fun hbr => ?_)
  · replace h := h.1 hbr
    refine e_seg (k := 1) (d := (38, [(0, .ref a), (1, .ref 44), (2, .int x2)], [.ref a], M)) rfl ?_
    refine e_get (v := .int (M.1 a 1)) (q := 41) hE rfl rfl rfl rfl (jLi_o ha) rfl rfl ?_
    refine e_seg (k := 2) (d := (43, [(0, .ref a), (1, .ref 44), (2, .int x2)], [.int ((M.1 a 1) - 1)], M)) rfl ?_
    exact e_ret hE rfl rfl (jb_i rfl) h
  · replace h := h.2 hbr
    refine e_seg (k := 3) (d := (15, [(0, .ref a), (1, .ref 44), (2, .int x2)], [.ref 44, .int x2, .ref a], M)) rfl ?_
    refine e_call (q := 18) (L0 := [(0, .ref a), (1, .int x2), (2, .ref 44)]) hE rfl rfl rfl rfl (jargs_V (jLi_o ha) rfl rfl rfl rfl (Nat.le_of_ble_eq_true rfl) (Nat.le_of_ble_eq_true rfl) (Nat.le_of_ble_eq_true rfl)) rfl rfl (jEv.mono h (fun o1 M2 h => ?_))
    obtain ⟨rfl, h⟩ := h
    refine ⟨_, rfl, ?_⟩
    show jEv nX3_stepsThere (18, [(0, .ref a), (1, .ref 44), (2, .int x2)], [], M2) K
    refine e_seg (k := 3) (d := (21, [(0, .ref a), (1, .ref 44), (2, .int x2)], [.ref 44, .int x2, .ref a], M2)) rfl ?_
    refine e_call (q := 24) (L0 := [(0, .ref a), (1, .int x2), (2, .ref 44)]) hE rfl rfl rfl rfl (jargs_V (jLi_o ha) rfl rfl rfl rfl (Nat.le_of_ble_eq_true rfl) (Nat.le_of_ble_eq_true rfl) (Nat.le_of_ble_eq_true rfl)) rfl rfl (jEv.mono h (fun o3 M4 h => ?_))
    obtain ⟨r5, rfl, h⟩ := h
    refine ⟨_, rfl, ?_⟩
    show jEv nX3_stepsThere (24, [(0, .ref a), (1, .ref 44), (2, .int x2)], [.long r5], M4) K
    refine e_seg (k := 1) (d := (25, [(0, .ref a), (1, .ref 44), (2, .int x2)], [.long 0, .long r5], M4)) rfl ?_
    refine e_lc (t := 31) (q := 29) (pc1 := 26) hE rfl rfl rfl rfl rfl rfl (lc_gt r5 0) rfl rfl (fun hbr => ?_) (fun hbr => ?_)
    · replace h := h.1 hbr
      refine e_seg (k := 2) (d := (2, [(0, .ref a), (1, .ref 44), (2, .int (x2 + 1))], [], M4)) rfl ?_
      refine e_cut (ks := [0, 1, 2]) (L' := [(0, .ref a), (1, .ref 44), (2, .int (x2 + 1))]) hE rfl rfl rfl rfl rfl ?_
      exact h
    · replace h := h.2 hbr
      refine e_seg (k := 1) (d := (30, [(0, .ref a), (1, .ref 44), (2, .int x2)], [.int x2], M4)) rfl ?_
      exact e_ret hE rfl rfl (jb_i rfl) h
set_option maxRecDepth 100000 in
set_option maxHeartbeats 4000000 in
theorem v_X3_holds_0 {K : jK} {M : jM} {a : Nat} (ha : jLi a) (h : (jEv nX3_stepsThere (0, [(0, .ref a), (1, .ref 44)], [], M) (fun o1 M2 => ∃ r3 : Int32, o1 = some (some (.int r3)) ∧ ((((M.1 a 1) - 1) ≤ r3 → (jEv nX3_solveStep (0, [(0, .ref a), (1, .int ((M.1 a 1) - 1)), (2, .ref 44)], [], M2) (fun o4 M5 => o4 = some none ∧ (jEv nX3_restTop (0, [(0, .ref a), (1, .int ((M.1 a 1) - 1)), (2, .ref 44)], [], M5) (fun o6 M7 => ∃ r8 : Int64, o6 = some (some (.long r8)) ∧ ((r8 < 0 → K (some (some (.int 0))) M7) ∧ (¬ (r8 < 0) → K (some (some (.int 1))) M7))))))) ∧ (¬ ((M.1 a 1) - 1) ≤ r3 → K (some (some (.int 0))) M2))))) : jEv nX3_holds (0, [(0, .ref a), (1, .ref 44)], [], M) K := by
  have hE : jMT nX3_holds = some me_X3_holds := rfl
  refine e_seg (k := 1) (d := (1, [(0, .ref a), (1, .ref 44)], [.ref a], M)) rfl ?_
  refine e_get (v := .int (M.1 a 1)) (q := 4) hE rfl rfl rfl rfl (jLi_o ha) rfl rfl ?_
  refine e_seg (k := 5) (d := (9, [(0, .ref a), (1, .ref 44), (2, .int ((M.1 a 1) - 1))], [.ref 44, .ref a], M)) rfl ?_
  refine e_call (q := 12) (L0 := [(0, .ref a), (1, .ref 44)]) hE rfl rfl rfl rfl (jargs_V (jLi_o ha) rfl rfl rfl rfl (Nat.le_of_ble_eq_true rfl) (Nat.le_of_ble_eq_true rfl) (Nat.le_of_ble_eq_true rfl)) rfl rfl (jEv.mono h (fun o1 M2 h => ?_))
  obtain ⟨r3, rfl, h⟩ := h
  refine ⟨_, rfl, ?_⟩
  show jEv nX3_holds (12, [(0, .ref a), (1, .ref 44), (2, .int ((M.1 a 1) - 1))], [.int r3], M2) K
  refine e_seg (k := 1) (d := (13, [(0, .ref a), (1, .ref 44), (2, .int ((M.1 a 1) - 1))], [.int ((M.1 a 1) - 1), .int r3], M2)) rfl ?_
  refine e_ic_ge (t := 18) (q := 16) hE rfl rfl rfl rfl (fun hbr => ?_) (fun hbr => ?_)
  · replace h := h.1 hbr
    refine e_seg (k := 3) (d := (21, [(0, .ref a), (1, .ref 44), (2, .int ((M.1 a 1) - 1))], [.ref 44, .int ((M.1 a 1) - 1), .ref a], M2)) rfl ?_
    refine e_call (q := 24) (L0 := [(0, .ref a), (1, .int ((M.1 a 1) - 1)), (2, .ref 44)]) hE rfl rfl rfl rfl (jargs_V (jLi_o ha) rfl rfl rfl rfl (Nat.le_of_ble_eq_true rfl) (Nat.le_of_ble_eq_true rfl) (Nat.le_of_ble_eq_true rfl)) rfl rfl (jEv.mono h (fun o4 M5 h => ?_))
    obtain ⟨rfl, h⟩ := h
    refine ⟨_, rfl, ?_⟩
    show jEv nX3_holds (24, [(0, .ref a), (1, .ref 44), (2, .int ((M.1 a 1) - 1))], [], M5) K
    refine e_seg (k := 3) (d := (27, [(0, .ref a), (1, .ref 44), (2, .int ((M.1 a 1) - 1))], [.ref 44, .int ((M.1 a 1) - 1), .ref a], M5)) rfl ?_
    refine e_call (q := 30) (L0 := [(0, .ref a), (1, .int ((M.1 a 1) - 1)), (2, .ref 44)]) hE rfl rfl rfl rfl (jargs_V (jLi_o ha) rfl rfl rfl rfl (Nat.le_of_ble_eq_true rfl) (Nat.le_of_ble_eq_true rfl) (Nat.le_of_ble_eq_true rfl)) rfl rfl (jEv.mono h (fun o6 M7 h => ?_))
    obtain ⟨r8, rfl, h⟩ := h
    refine ⟨_, rfl, ?_⟩
    show jEv nX3_holds (30, [(0, .ref a), (1, .ref 44), (2, .int ((M.1 a 1) - 1))], [.long r8], M7) K
    refine e_seg (k := 1) (d := (31, [(0, .ref a), (1, .ref 44), (2, .int ((M.1 a 1) - 1))], [.long 0, .long r8], M7)) rfl ?_
    refine e_lc (t := 39) (q := 35) (pc1 := 32) hE rfl rfl rfl rfl rfl rfl (lc_lt r8 0) rfl rfl (fun hbr => ?_) (fun hbr => ?_)
    · replace h := h.1 hbr
      refine e_seg (k := 1) (d := (40, [(0, .ref a), (1, .ref 44), (2, .int ((M.1 a 1) - 1))], [.int 0], M7)) rfl ?_
      exact e_ret hE rfl rfl (jb_z rfl (by decide)) h
    · replace h := h.2 hbr
      refine e_seg (k := 2) (d := (40, [(0, .ref a), (1, .ref 44), (2, .int ((M.1 a 1) - 1))], [.int 1], M7)) rfl ?_
      exact e_ret hE rfl rfl (jb_z rfl (by decide)) h
  · replace h := h.2 hbr
    refine e_seg (k := 1) (d := (17, [(0, .ref a), (1, .ref 44), (2, .int ((M.1 a 1) - 1))], [.int 0], M2)) rfl ?_
    exact e_ret hE rfl rfl (jb_z rfl (by decide)) h
