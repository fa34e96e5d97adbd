/-! printed by wip/whole/emit.py: what must hold on each way between cut points -/
set_option maxRecDepth 100000 in
set_option maxHeartbeats 4000000 in
theorem v_X8_isFree_175 {K : jK} {M : jM} {x1 : Int32} {x10 : Int64} {x12 : Int32} (h : ((3 ≤ x12 → jEv nX8_isFree (2, [(0, .ref 67), (1, .int (x1 + (-1)))], [], M) K) ∧ (¬ 3 ≤ x12 → ((x10 ≤ 1 → jEv nX8_isFree (2, [(0, .ref 67), (1, .int (x1 + (-1)))], [], M) K) ∧ (¬ (x10 ≤ 1) → (¬ (x12 < 0 ∨ 4 ≤ x12.toNatClampNeg) ∧ (¬ x10 = 0 ∧ (¬ (x12 < 0 ∨ 4 ≤ x12.toNatClampNeg) ∧ (∀ M1 : jM, M1 = jsl M 76 x12.toNatClampNeg ((M.2 76 x12.toNatClampNeg) / x10) → jEv nX8_isFree (175, [(0, .ref 67), (1, .int x1), (10, .long x10), (12, .int (x12 + 1))], [], M1) K))))))))) : jEv nX8_isFree (175, [(0, .ref 67), (1, .int x1), (10, .long x10), (12, .int x12)], [], M) K := by
  have hE : jMT nX8_isFree = some me_X8_isFree := rfl
  refine e_seg (k := 2) (d := (178, [(0, .ref 67), (1, .int x1), (10, .long x10), (12, .int x12)], [.int 3, .int x12], M)) rfl ?_
  refine e_ic_ge (t := 211) (q := 181) hE rfl rfl rfl rfl (fun hbr => ?_) (fun hbr => ?_)
  · replace h := h.1 hbr
    refine e_seg (k := 2) (d := (2, [(0, .ref 67), (1, .int (x1 + (-1))), (10, .long x10), (12, .int x12)], [], M)) rfl ?_
    refine e_cut (ks := [0, 1]) (L' := [(0, .ref 67), (1, .int (x1 + (-1)))]) hE rfl rfl rfl rfl rfl ?_
    exact h
  · replace h := h.2 hbr
    refine e_seg (k := 2) (d := (184, [(0, .ref 67), (1, .int x1), (10, .long x10), (12, .int x12)], [.long 1, .long x10], M)) rfl ?_
    refine e_lc (t := 211) (q := 188) (pc1 := 185) hE rfl rfl rfl rfl rfl rfl (lc_le x10 1) rfl rfl (fun hbr => ?_) (fun hbr => ?_)
    · replace h := h.1 hbr
      refine e_seg (k := 2) (d := (2, [(0, .ref 67), (1, .int (x1 + (-1))), (10, .long x10), (12, .int x12)], [], M)) rfl ?_
      refine e_cut (ks := [0, 1]) (L' := [(0, .ref 67), (1, .int (x1 + (-1)))]) hE rfl rfl rfl rfl rfl ?_
      exact h
    · replace h := h.2 hbr
      refine e_seg (k := 6) (d := (200, [(0, .ref 67), (1, .int x1), (10, .long x10), (12, .int x12)], [.int x12, .ref 76, .int x12, .ref 76], M)) rfl ?_
      refine e_lald (q := 201) hE rfl rfl rfl rfl h.1 ?_
      replace h := h.2
      refine e_seg (k := 1) (d := (203, [(0, .ref 67), (1, .int x1), (10, .long x10), (12, .int x12)], [.long x10, .long (M.2 76 x12.toNatClampNeg), .int x12, .ref 76], M)) rfl ?_
      refine e_ldiv (q := 204) hE rfl rfl rfl h.1 ?_
      replace h := h.2
      refine e_last (q := 205) hE rfl rfl rfl rfl h.1 ?_
      replace h := h.2
      obtain ⟨M1, hM1⟩ : ∃ z : jM, z = jsl M 76 x12.toNatClampNeg ((M.2 76 x12.toNatClampNeg) / x10) := ⟨_, rfl⟩
      refine jEv_M hM1 ?_
      replace h := h M1 hM1
      refine e_seg (k := 2) (d := (175, [(0, .ref 67), (1, .int x1), (10, .long x10), (12, .int (x12 + 1))], [], M1)) rfl ?_
      refine e_cut (ks := [0, 1, 10, 12]) (L' := [(0, .ref 67), (1, .int x1), (10, .long x10), (12, .int (x12 + 1))]) hE rfl rfl rfl rfl rfl ?_
      exact h
set_option maxRecDepth 100000 in
set_option maxHeartbeats 4000000 in
theorem v_X8_joined_0 {K : jK} {M : jM} {x1 : Int32} {x2 : Int32} {x3 : Int32} (h : (∀ M1 : jM, M1 = jsi M 67 0 0 → (jEv nX8_has (0, [(0, .ref 67), (1, .int x2)], [], M1) (fun o2 M3 => ∃ r4 : Int32, o2 = some (some (.int r4)) ∧ ((r4 = 0 → K (some (some (.int 0))) M3) ∧ (¬ r4 = 0 → (jEv nX8_has (0, [(0, .ref 67), (1, .int x3)], [], M3) (fun o5 M6 => ∃ r7 : Int32, o5 = some (some (.int r7)) ∧ ((r7 = 0 → K (some (some (.int 0))) M6) ∧ (¬ r7 = 0 → (¬ (x2 < 0 ∨ 6 ≤ x2.toNatClampNeg) ∧ (¬ (x3 < 0 ∨ 6 ≤ x3.toNatClampNeg) ∧ (((M6.1 86 x3.toNatClampNeg) ≤ (M6.1 86 x2.toNatClampNeg) → (¬ (x3 < 0 ∨ 6 ≤ x3.toNatClampNeg) ∧ jEv nX8_joined (58, [(0, .ref 67), (1, .int x1), (2, .int x2), (3, .int x3), (4, .int (M6.1 86 x3.toNatClampNeg)), (5, .int 0)], [], M6) K)) ∧ (¬ (M6.1 86 x3.toNatClampNeg) ≤ (M6.1 86 x2.toNatClampNeg) → (¬ (x2 < 0 ∨ 6 ≤ x2.toNatClampNeg) ∧ jEv nX8_joined (58, [(0, .ref 67), (1, .int x1), (2, .int x2), (3, .int x3), (4, .int (M6.1 86 x2.toNatClampNeg)), (5, .int 0)], [], M6) K))))))))))))))) : jEv nX8_joined (0, [(0, .ref 67), (1, .int x1), (2, .int x2), (3, .int x3)], [], M) K := by
  have hE : jMT nX8_joined = some me_X8_joined := rfl
  refine e_seg (k := 2) (d := (2, [(0, .ref 67), (1, .int x1), (2, .int x2), (3, .int x3)], [.int 0, .ref 67], M)) rfl ?_
  refine e_put (q := 5) hE rfl rfl rfl rfl rfl rfl rfl ?_
  obtain ⟨M1, hM1⟩ : ∃ z : jM, z = jsi M 67 0 0 := ⟨_, rfl⟩
  refine jEv_M hM1 ?_
  replace h := h M1 hM1
  refine e_seg (k := 2) (d := (7, [(0, .ref 67), (1, .int x1), (2, .int x2), (3, .int x3)], [.int x2, .ref 67], M1)) rfl ?_
  refine e_call (q := 10) (L0 := [(0, .ref 67), (1, .int x2)]) hE rfl rfl rfl rfl (jargs_V rfl rfl rfl rfl rfl (Nat.le_of_ble_eq_true rfl) (Nat.le_of_ble_eq_true rfl) (Nat.le_of_ble_eq_true rfl)) rfl rfl (jEv.mono h (fun o2 M3 h => ?_))
  obtain ⟨r4, rfl, h⟩ := h
  refine ⟨_, rfl, ?_⟩
  show jEv nX8_joined (10, [(0, .ref 67), (1, .int x1), (2, .int x2), (3, .int x3)], [.int r4], M3) K
  refine e_if_eq (t := 21) (q := 13) hE rfl rfl rfl rfl (fun hbr => ?_) (fun hbr => ?_)
  · replace h := h.1 hbr
    refine e_seg (k := 1) (d := (22, [(0, .ref 67), (1, .int x1), (2, .int x2), (3, .int x3)], [.int 0], M3)) rfl ?_
    exact e_ret hE rfl rfl (jb_z rfl (by decide)) h
  · replace h := h.2 hbr
    refine e_seg (k := 2) (d := (15, [(0, .ref 67), (1, .int x1), (2, .int x2), (3, .int x3)], [.int x3, .ref 67], M3)) rfl ?_
    refine e_call (q := 18) (L0 := [(0, .ref 67), (1, .int x3)]) hE rfl rfl rfl rfl (jargs_V rfl rfl rfl rfl rfl (Nat.le_of_ble_eq_true rfl) (Nat.le_of_ble_eq_true rfl) (Nat.le_of_ble_eq_true rfl)) rfl rfl (jEv.mono h (fun o5 M6 h => ?_))
    obtain ⟨r7, rfl, h⟩ := h
    refine ⟨_, rfl, ?_⟩
    show jEv nX8_joined (18, [(0, .ref 67), (1, .int x1), (2, .int x2), (3, .int x3)], [.int r7], M6) K
    refine e_if_ne (t := 23) (q := 21) hE rfl rfl rfl rfl (fun hbr => ?_) (fun hbr => ?_)
    · replace h := h.2 hbr
      refine e_seg (k := 3) (d := (28, [(0, .ref 67), (1, .int x1), (2, .int x2), (3, .int x3)], [.int x2, .ref 86], M6)) rfl ?_
      refine e_iald (q := 29) hE rfl rfl rfl rfl h.1 ?_
      replace h := h.2
      refine e_seg (k := 3) (d := (34, [(0, .ref 67), (1, .int x1), (2, .int x2), (3, .int x3)], [.int x3, .ref 86, .int (M6.1 86 x2.toNatClampNeg)], M6)) rfl ?_
      refine e_iald (q := 35) hE rfl rfl rfl rfl h.1 ?_
      replace h := h.2
      refine e_ic_ge (t := 47) (q := 38) hE rfl rfl rfl rfl (fun hbr => ?_) (fun hbr => ?_)
      · replace h := h.1 hbr
        refine e_seg (k := 3) (d := (52, [(0, .ref 67), (1, .int x1), (2, .int x2), (3, .int x3)], [.int x3, .ref 86], M6)) rfl ?_
        refine e_iald (q := 53) hE rfl rfl rfl rfl h.1 ?_
        replace h := h.2
        refine e_seg (k := 3) (d := (58, [(0, .ref 67), (1, .int x1), (2, .int x2), (3, .int x3), (4, .int (M6.1 86 x3.toNatClampNeg)), (5, .int 0)], [], M6)) rfl ?_
        refine e_cut (ks := [0, 1, 2, 3, 4, 5]) (L' := [(0, .ref 67), (1, .int x1), (2, .int x2), (3, .int x3), (4, .int (M6.1 86 x3.toNatClampNeg)), (5, .int 0)]) hE rfl rfl rfl rfl rfl ?_
        exact h
      · replace h := h.2 hbr
        refine e_seg (k := 3) (d := (43, [(0, .ref 67), (1, .int x1), (2, .int x2), (3, .int x3)], [.int x2, .ref 86], M6)) rfl ?_
        refine e_iald (q := 44) hE rfl rfl rfl rfl h.1 ?_
        replace h := h.2
        refine e_seg (k := 4) (d := (58, [(0, .ref 67), (1, .int x1), (2, .int x2), (3, .int x3), (4, .int (M6.1 86 x2.toNatClampNeg)), (5, .int 0)], [], M6)) rfl ?_
        refine e_cut (ks := [0, 1, 2, 3, 4, 5]) (L' := [(0, .ref 67), (1, .int x1), (2, .int x2), (3, .int x3), (4, .int (M6.1 86 x2.toNatClampNeg)), (5, .int 0)]) hE rfl rfl rfl rfl rfl ?_
        exact h
    · replace h := h.1 hbr
      refine e_seg (k := 1) (d := (22, [(0, .ref 67), (1, .int x1), (2, .int x2), (3, .int x3)], [.int 0], M6)) rfl ?_
      exact e_ret hE rfl rfl (jb_z rfl (by decide)) h
set_option maxRecDepth 100000 in
set_option maxHeartbeats 4000000 in
theorem v_X8_joined_58 {K : jK} {M : jM} {x1 : Int32} {x2 : Int32} {x3 : Int32} {x4 : Int32} {x5 : Int32} (h : ((x4 ≤ x5 → (jEv nX8_puts (0, [(0, .ref 67), (1, .int x1), (2, .int x4)], [], M) (fun o1 M2 => ∃ r3 : Int32, o1 = some (some (.int r3)) ∧ ((r3 = 0 ∨ r3 = 1) ∧ K (some (some (.int r3))) M2)))) ∧ (¬ x4 ≤ x5 → (¬ ((5 * x2) + x5 < 0 ∨ 30 ≤ ((5 * x2) + x5).toNatClampNeg) ∧ (¬ ((5 * x3) + x5 < 0 ∨ 30 ≤ ((5 * x3) + x5).toNatClampNeg) ∧ (¬ (x5 < 0 ∨ 5 ≤ x5.toNatClampNeg) ∧ (∀ M4 : jM, M4 = jsi M 87 x5.toNatClampNeg ((M.1 85 ((5 * x2) + x5).toNatClampNeg) + (M.1 85 ((5 * x3) + x5).toNatClampNeg)) → jEv nX8_joined (58, [(0, .ref 67), (1, .int x1), (2, .int x2), (3, .int x3), (4, .int x4), (5, .int (x5 + 1))], [], M4) K))))))) : jEv nX8_joined (58, [(0, .ref 67), (1, .int x1), (2, .int x2), (3, .int x3), (4, .int x4), (5, .int x5)], [], M) K := by
  have hE : jMT nX8_joined = some me_X8_joined := rfl
  refine e_seg (k := 2) (d := (62, [(0, .ref 67), (1, .int x1), (2, .int x2), (3, .int x3), (4, .int x4), (5, .int x5)], [.int x4, .int x5], M)) rfl ?_
  refine e_ic_ge (t := 101) (q := 65) hE rfl rfl rfl rfl (fun hbr => ?_) (fun hbr => ?_)
  · replace h := h.1 hbr
    refine e_seg (k := 3) (d := (105, [(0, .ref 67), (1, .int x1), (2, .int x2), (3, .int x3), (4, .int x4), (5, .int x5)], [.int x4, .int x1, .ref 67], M)) rfl ?_
    refine e_call (q := 108) (L0 := [(0, .ref 67), (1, .int x1), (2, .int x4)]) hE rfl rfl rfl rfl (jargs_V rfl rfl rfl rfl rfl (Nat.le_of_ble_eq_true rfl) (Nat.le_of_ble_eq_true rfl) (Nat.le_of_ble_eq_true rfl)) rfl rfl (jEv.mono h (fun o1 M2 h => ?_))
    obtain ⟨r3, rfl, h⟩ := h
    refine ⟨_, rfl, ?_⟩
    show jEv nX8_joined (108, [(0, .ref 67), (1, .int x1), (2, .int x2), (3, .int x3), (4, .int x4), (5, .int x5)], [.int r3], M2) K
    exact e_ret hE rfl rfl (jb_z rfl h.1) h.2
  · replace h := h.2 hbr
    refine e_seg (k := 10) (d := (81, [(0, .ref 67), (1, .int x1), (2, .int x2), (3, .int x3), (4, .int x4), (5, .int x5)], [.int ((5 * x2) + x5), .ref 85, .int x5, .ref 87], M)) rfl ?_
    refine e_iald (q := 82) hE rfl rfl rfl rfl h.1 ?_
    replace h := h.2
    refine e_seg (k := 7) (d := (92, [(0, .ref 67), (1, .int x1), (2, .int x2), (3, .int x3), (4, .int x4), (5, .int x5)], [.int ((5 * x3) + x5), .ref 85, .int (M.1 85 ((5 * x2) + x5).toNatClampNeg), .int x5, .ref 87], M)) rfl ?_
    refine e_iald (q := 93) hE rfl rfl rfl rfl h.1 ?_
    replace h := h.2
    refine e_seg (k := 1) (d := (94, [(0, .ref 67), (1, .int x1), (2, .int x2), (3, .int x3), (4, .int x4), (5, .int x5)], [.int ((M.1 85 ((5 * x2) + x5).toNatClampNeg) + (M.1 85 ((5 * x3) + x5).toNatClampNeg)), .int x5, .ref 87], M)) rfl ?_
    refine e_iast (q := 95) hE rfl rfl rfl rfl h.1 ?_
    replace h := h.2
    obtain ⟨M4, hM4⟩ : ∃ z : jM, z = jsi M 87 x5.toNatClampNeg ((M.1 85 ((5 * x2) + x5).toNatClampNeg) + (M.1 85 ((5 * x3) + x5).toNatClampNeg)) := ⟨_, rfl⟩
    refine jEv_M hM4 ?_
    replace h := h M4 hM4
    refine e_seg (k := 2) (d := (58, [(0, .ref 67), (1, .int x1), (2, .int x2), (3, .int x3), (4, .int x4), (5, .int (x5 + 1))], [], M4)) rfl ?_
    refine e_cut (ks := [0, 1, 2, 3, 4, 5]) (L' := [(0, .ref 67), (1, .int x1), (2, .int x2), (3, .int x3), (4, .int x4), (5, .int (x5 + 1))]) hE rfl rfl rfl rfl rfl ?_
    exact h
set_option maxRecDepth 100000 in
set_option maxHeartbeats 4000000 in
theorem v_X8_likeness_0 {K : jK} {M : jM} {x1 : Int32} {x2 : Int32} (h : (jEv nX8_has (0, [(0, .ref 67), (1, .int x1)], [], M) (fun o1 M2 => ∃ r3 : Int32, o1 = some (some (.int r3)) ∧ ((r3 = 0 → (jEv nX8_throwsIf (0, [(0, .ref 67), (1, .int 1)], [], M2) (fun o4 M5 => ∃ r6 : Int32, o4 = some (some (.int r6)) ∧ ((r6 = 0 → (¬ ((5 * x1) + x2 < 0 ∨ 30 ≤ ((5 * x1) + x2).toNatClampNeg) ∧ K (some (some (.int (M5.1 85 ((5 * x1) + x2).toNatClampNeg)))) M5)) ∧ (¬ r6 = 0 → K (some (some (.int 0))) M5))))) ∧ (¬ r3 = 0 → ((x2 < 0 → (jEv nX8_throwsIf (0, [(0, .ref 67), (1, .int 1)], [], M2) (fun o7 M8 => ∃ r9 : Int32, o7 = some (some (.int r9)) ∧ ((r9 = 0 → (¬ ((5 * x1) + x2 < 0 ∨ 30 ≤ ((5 * x1) + x2).toNatClampNeg) ∧ K (some (some (.int (M8.1 85 ((5 * x1) + x2).toNatClampNeg)))) M8)) ∧ (¬ r9 = 0 → K (some (some (.int 0))) M8))))) ∧ (¬ x2 < 0 → (¬ (x1 < 0 ∨ 6 ≤ x1.toNatClampNeg) ∧ ((x2 < (M2.1 86 x1.toNatClampNeg) → (jEv nX8_throwsIf (0, [(0, .ref 67), (1, .int 0)], [], M2) (fun o10 M11 => ∃ r12 : Int32, o10 = some (some (.int r12)) ∧ ((r12 = 0 → (¬ ((5 * x1) + x2 < 0 ∨ 30 ≤ ((5 * x1) + x2).toNatClampNeg) ∧ K (some (some (.int (M11.1 85 ((5 * x1) + x2).toNatClampNeg)))) M11)) ∧ (¬ r12 = 0 → K (some (some (.int 0))) M11))))) ∧ (¬ x2 < (M2.1 86 x1.toNatClampNeg) → (jEv nX8_throwsIf (0, [(0, .ref 67), (1, .int 1)], [], M2) (fun o13 M14 => ∃ r15 : Int32, o13 = some (some (.int r15)) ∧ ((r15 = 0 → (¬ ((5 * x1) + x2 < 0 ∨ 30 ≤ ((5 * x1) + x2).toNatClampNeg) ∧ K (some (some (.int (M14.1 85 ((5 * x1) + x2).toNatClampNeg)))) M14)) ∧ (¬ r15 = 0 → K (some (some (.int 0))) M14)))))))))))))) : jEv nX8_likeness (0, [(0, .ref 67), (1, .int x1), (2, .int x2)], [], M) K := by
  have hE : jMT nX8_likeness = some me_X8_likeness := rfl
  refine e_seg (k := 3) (d := (3, [(0, .ref 67), (1, .int x1), (2, .int x2)], [.int x1, .ref 67, .ref 67], M)) rfl ?_
  refine e_call (q := 6) (L0 := [(0, .ref 67), (1, .int x1)]) hE rfl rfl rfl rfl (jargs_V rfl rfl rfl rfl rfl (Nat.le_of_ble_eq_true rfl) (Nat.le_of_ble_eq_true rfl) (Nat.le_of_ble_eq_true rfl)) rfl rfl (jEv.mono h (fun o1 M2 h => ?_))
  obtain ⟨r3, rfl, h⟩ := h
  refine ⟨_, rfl, ?_⟩
  show jEv nX8_likeness (6, [(0, .ref 67), (1, .int x1), (2, .int x2)], [.int r3, .ref 67], M2) K
  refine e_if_eq (t := 23) (q := 9) hE rfl rfl rfl rfl (fun hbr => ?_) (fun hbr => ?_)
  · replace h := h.1 hbr
    refine e_seg (k := 2) (d := (28, [(0, .ref 67), (1, .int x1), (2, .int x2)], [.int 1, .ref 67], M2)) rfl ?_
    refine e_call (q := 31) (L0 := [(0, .ref 67), (1, .int 1)]) hE rfl rfl rfl rfl (jargs_V rfl rfl rfl rfl rfl (Nat.le_of_ble_eq_true rfl) (Nat.le_of_ble_eq_true rfl) (Nat.le_of_ble_eq_true rfl)) rfl rfl (jEv.mono h (fun o4 M5 h => ?_))
    obtain ⟨r6, rfl, h⟩ := h
    refine ⟨_, rfl, ?_⟩
    show jEv nX8_likeness (31, [(0, .ref 67), (1, .int x1), (2, .int x2)], [.int r6], M5) K
    refine e_if_eq (t := 38) (q := 34) hE rfl rfl rfl rfl (fun hbr => ?_) (fun hbr => ?_)
    · replace h := h.1 hbr
      refine e_seg (k := 7) (d := (47, [(0, .ref 67), (1, .int x1), (2, .int x2)], [.int ((5 * x1) + x2), .ref 85], M5)) rfl ?_
      refine e_iald (q := 48) hE rfl rfl rfl rfl h.1 ?_
      replace h := h.2
      exact e_ret hE rfl rfl (jb_i rfl) h
    · replace h := h.2 hbr
      refine e_seg (k := 2) (d := (48, [(0, .ref 67), (1, .int x1), (2, .int x2)], [.int 0], M5)) rfl ?_
      exact e_ret hE rfl rfl (jb_i rfl) h
  · replace h := h.2 hbr
    refine e_seg (k := 1) (d := (10, [(0, .ref 67), (1, .int x1), (2, .int x2)], [.int x2, .ref 67], M2)) rfl ?_
    refine e_if_lt (t := 23) (q := 13) hE rfl rfl rfl rfl (fun hbr => ?_) (fun hbr => ?_)
    · replace h := h.1 hbr
      refine e_seg (k := 2) (d := (28, [(0, .ref 67), (1, .int x1), (2, .int x2)], [.int 1, .ref 67], M2)) rfl ?_
      refine e_call (q := 31) (L0 := [(0, .ref 67), (1, .int 1)]) hE rfl rfl rfl rfl (jargs_V rfl rfl rfl rfl rfl (Nat.le_of_ble_eq_true rfl) (Nat.le_of_ble_eq_true rfl) (Nat.le_of_ble_eq_true rfl)) rfl rfl (jEv.mono h (fun o7 M8 h => ?_))
      obtain ⟨r9, rfl, h⟩ := h
      refine ⟨_, rfl, ?_⟩
      show jEv nX8_likeness (31, [(0, .ref 67), (1, .int x1), (2, .int x2)], [.int r9], M8) K
      refine e_if_eq (t := 38) (q := 34) hE rfl rfl rfl rfl (fun hbr => ?_) (fun hbr => ?_)
      · replace h := h.1 hbr
        refine e_seg (k := 7) (d := (47, [(0, .ref 67), (1, .int x1), (2, .int x2)], [.int ((5 * x1) + x2), .ref 85], M8)) rfl ?_
        refine e_iald (q := 48) hE rfl rfl rfl rfl h.1 ?_
        replace h := h.2
        exact e_ret hE rfl rfl (jb_i rfl) h
      · replace h := h.2 hbr
        refine e_seg (k := 2) (d := (48, [(0, .ref 67), (1, .int x1), (2, .int x2)], [.int 0], M8)) rfl ?_
        exact e_ret hE rfl rfl (jb_i rfl) h
    · replace h := h.2 hbr
      refine e_seg (k := 4) (d := (19, [(0, .ref 67), (1, .int x1), (2, .int x2)], [.int x1, .ref 86, .int x2, .ref 67], M2)) rfl ?_
      refine e_iald (q := 20) hE rfl rfl rfl rfl h.1 ?_
      replace h := h.2
      refine e_ic_lt (t := 27) (q := 23) hE rfl rfl rfl rfl (fun hbr => ?_) (fun hbr => ?_)
      · replace h := h.1 hbr
        refine e_seg (k := 1) (d := (28, [(0, .ref 67), (1, .int x1), (2, .int x2)], [.int 0, .ref 67], M2)) rfl ?_
        refine e_call (q := 31) (L0 := [(0, .ref 67), (1, .int 0)]) hE rfl rfl rfl rfl (jargs_V rfl rfl rfl rfl rfl (Nat.le_of_ble_eq_true rfl) (Nat.le_of_ble_eq_true rfl) (Nat.le_of_ble_eq_true rfl)) rfl rfl (jEv.mono h (fun o10 M11 h => ?_))
        obtain ⟨r12, rfl, h⟩ := h
        refine ⟨_, rfl, ?_⟩
        show jEv nX8_likeness (31, [(0, .ref 67), (1, .int x1), (2, .int x2)], [.int r12], M11) K
        refine e_if_eq (t := 38) (q := 34) hE rfl rfl rfl rfl (fun hbr => ?_) (fun hbr => ?_)
        · replace h := h.1 hbr
          refine e_seg (k := 7) (d := (47, [(0, .ref 67), (1, .int x1), (2, .int x2)], [.int ((5 * x1) + x2), .ref 85], M11)) rfl ?_
          refine e_iald (q := 48) hE rfl rfl rfl rfl h.1 ?_
          replace h := h.2
          exact e_ret hE rfl rfl (jb_i rfl) h
        · replace h := h.2 hbr
          refine e_seg (k := 2) (d := (48, [(0, .ref 67), (1, .int x1), (2, .int x2)], [.int 0], M11)) rfl ?_
          exact e_ret hE rfl rfl (jb_i rfl) h
      · replace h := h.2 hbr
        refine e_seg (k := 2) (d := (28, [(0, .ref 67), (1, .int x1), (2, .int x2)], [.int 1, .ref 67], M2)) rfl ?_
        refine e_call (q := 31) (L0 := [(0, .ref 67), (1, .int 1)]) hE rfl rfl rfl rfl (jargs_V rfl rfl rfl rfl rfl (Nat.le_of_ble_eq_true rfl) (Nat.le_of_ble_eq_true rfl) (Nat.le_of_ble_eq_true rfl)) rfl rfl (jEv.mono h (fun o13 M14 h => ?_))
        obtain ⟨r15, rfl, h⟩ := h
        refine ⟨_, rfl, ?_⟩
        show jEv nX8_likeness (31, [(0, .ref 67), (1, .int x1), (2, .int x2)], [.int r15], M14) K
        refine e_if_eq (t := 38) (q := 34) hE rfl rfl rfl rfl (fun hbr => ?_) (fun hbr => ?_)
        · replace h := h.1 hbr
          refine e_seg (k := 7) (d := (47, [(0, .ref 67), (1, .int x1), (2, .int x2)], [.int ((5 * x1) + x2), .ref 85], M14)) rfl ?_
          refine e_iald (q := 48) hE rfl rfl rfl rfl h.1 ?_
          replace h := h.2
          exact e_ret hE rfl rfl (jb_i rfl) h
        · replace h := h.2 hbr
          refine e_seg (k := 2) (d := (48, [(0, .ref 67), (1, .int x1), (2, .int x2)], [.int 0], M14)) rfl ?_
          exact e_ret hE rfl rfl (jb_i rfl) h
set_option maxRecDepth 100000 in
set_option maxHeartbeats 4000000 in
theorem v_X8_lower_0 {K : jK} {M : jM} {x1 : Int32} (h : (((M.1 67 36) = 0 → (jEv nX8_throwsIf (0, [(0, .ref 67), (1, .int 1)], [], M) (fun o1 M2 => ∃ r3 : Int32, o1 = some (some (.int r3)) ∧ ((r3 = 0 → ((x1 = 0 → K (some (some (.long (M2.2 67 37)))) M2) ∧ (¬ x1 = 0 → K (some (some (.long (M2.2 67 38)))) M2))) ∧ (¬ r3 = 0 → K (some (some (.long 0))) M2))))) ∧ (¬ (M.1 67 36) = 0 → ((x1 < 0 → (jEv nX8_throwsIf (0, [(0, .ref 67), (1, .int 1)], [], M) (fun o4 M5 => ∃ r6 : Int32, o4 = some (some (.int r6)) ∧ ((r6 = 0 → ((x1 = 0 → K (some (some (.long (M5.2 67 37)))) M5) ∧ (¬ x1 = 0 → K (some (some (.long (M5.2 67 38)))) M5))) ∧ (¬ r6 = 0 → K (some (some (.long 0))) M5))))) ∧ (¬ x1 < 0 → ((x1 ≤ 1 → (jEv nX8_throwsIf (0, [(0, .ref 67), (1, .int 0)], [], M) (fun o7 M8 => ∃ r9 : Int32, o7 = some (some (.int r9)) ∧ ((r9 = 0 → ((x1 = 0 → K (some (some (.long (M8.2 67 37)))) M8) ∧ (¬ x1 = 0 → K (some (some (.long (M8.2 67 38)))) M8))) ∧ (¬ r9 = 0 → K (some (some (.long 0))) M8))))) ∧ (¬ x1 ≤ 1 → (jEv nX8_throwsIf (0, [(0, .ref 67), (1, .int 1)], [], M) (fun o10 M11 => ∃ r12 : Int32, o10 = some (some (.int r12)) ∧ ((r12 = 0 → ((x1 = 0 → K (some (some (.long (M11.2 67 37)))) M11) ∧ (¬ x1 = 0 → K (some (some (.long (M11.2 67 38)))) M11))) ∧ (¬ r12 = 0 → K (some (some (.long 0))) M11))))))))))) : jEv nX8_lower (0, [(0, .ref 67), (1, .int x1)], [], M) K := by
  have hE : jMT nX8_lower = some me_X8_lower := rfl
  refine e_seg (k := 3) (d := (5, [(0, .ref 67), (1, .int x1)], [.int (M.1 67 36), .ref 67], M)) rfl ?_
  refine e_if_eq (t := 17) (q := 8) hE rfl rfl rfl rfl (fun hbr => ?_) (fun hbr => ?_)
  · replace h := h.1 hbr
    refine e_seg (k := 2) (d := (22, [(0, .ref 67), (1, .int x1)], [.int 1, .ref 67], M)) rfl ?_
    refine e_call (q := 25) (L0 := [(0, .ref 67), (1, .int 1)]) hE rfl rfl rfl rfl (jargs_V rfl rfl rfl rfl rfl (Nat.le_of_ble_eq_true rfl) (Nat.le_of_ble_eq_true rfl) (Nat.le_of_ble_eq_true rfl)) rfl rfl (jEv.mono h (fun o1 M2 h => ?_))
    obtain ⟨r3, rfl, h⟩ := h
    refine ⟨_, rfl, ?_⟩
    show jEv nX8_lower (25, [(0, .ref 67), (1, .int x1)], [.int r3], M2) K
    refine e_if_eq (t := 30) (q := 28) hE rfl rfl rfl rfl (fun hbr => ?_) (fun hbr => ?_)
    · replace h := h.1 hbr
      refine e_seg (k := 1) (d := (31, [(0, .ref 67), (1, .int x1)], [.int x1], M2)) rfl ?_
      refine e_if_ne (t := 41) (q := 34) hE rfl rfl rfl rfl (fun hbr => ?_) (fun hbr => ?_)
      · replace h := h.2 hbr
        refine e_seg (k := 2) (d := (45, [(0, .ref 67), (1, .int x1)], [.long (M2.2 67 38)], M2)) rfl ?_
        exact e_ret hE rfl rfl (jb_l rfl) h
      · replace h := h.1 hbr
        refine e_seg (k := 3) (d := (45, [(0, .ref 67), (1, .int x1)], [.long (M2.2 67 37)], M2)) rfl ?_
        exact e_ret hE rfl rfl (jb_l rfl) h
    · replace h := h.2 hbr
      refine e_seg (k := 1) (d := (29, [(0, .ref 67), (1, .int x1)], [.long 0], M2)) rfl ?_
      exact e_ret hE rfl rfl (jb_l rfl) h
  · replace h := h.2 hbr
    refine e_seg (k := 1) (d := (9, [(0, .ref 67), (1, .int x1)], [.int x1, .ref 67], M)) rfl ?_
    refine e_if_lt (t := 17) (q := 12) hE rfl rfl rfl rfl (fun hbr => ?_) (fun hbr => ?_)
    · replace h := h.1 hbr
      refine e_seg (k := 2) (d := (22, [(0, .ref 67), (1, .int x1)], [.int 1, .ref 67], M)) rfl ?_
      refine e_call (q := 25) (L0 := [(0, .ref 67), (1, .int 1)]) hE rfl rfl rfl rfl (jargs_V rfl rfl rfl rfl rfl (Nat.le_of_ble_eq_true rfl) (Nat.le_of_ble_eq_true rfl) (Nat.le_of_ble_eq_true rfl)) rfl rfl (jEv.mono h (fun o4 M5 h => ?_))
      obtain ⟨r6, rfl, h⟩ := h
      refine ⟨_, rfl, ?_⟩
      show jEv nX8_lower (25, [(0, .ref 67), (1, .int x1)], [.int r6], M5) K
      refine e_if_eq (t := 30) (q := 28) hE rfl rfl rfl rfl (fun hbr => ?_) (fun hbr => ?_)
      · replace h := h.1 hbr
        refine e_seg (k := 1) (d := (31, [(0, .ref 67), (1, .int x1)], [.int x1], M5)) rfl ?_
        refine e_if_ne (t := 41) (q := 34) hE rfl rfl rfl rfl (fun hbr => ?_) (fun hbr => ?_)
        · replace h := h.2 hbr
          refine e_seg (k := 2) (d := (45, [(0, .ref 67), (1, .int x1)], [.long (M5.2 67 38)], M5)) rfl ?_
          exact e_ret hE rfl rfl (jb_l rfl) h
        · replace h := h.1 hbr
          refine e_seg (k := 3) (d := (45, [(0, .ref 67), (1, .int x1)], [.long (M5.2 67 37)], M5)) rfl ?_
          exact e_ret hE rfl rfl (jb_l rfl) h
      · replace h := h.2 hbr
        refine e_seg (k := 1) (d := (29, [(0, .ref 67), (1, .int x1)], [.long 0], M5)) rfl ?_
        exact e_ret hE rfl rfl (jb_l rfl) h
    · replace h := h.2 hbr
      refine e_seg (k := 2) (d := (14, [(0, .ref 67), (1, .int x1)], [.int 1, .int x1, .ref 67], M)) rfl ?_
      refine e_ic_le (t := 21) (q := 17) hE rfl rfl rfl rfl (fun hbr => ?_) (fun hbr => ?_)
      · replace h := h.1 hbr
        refine e_seg (k := 1) (d := (22, [(0, .ref 67), (1, .int x1)], [.int 0, .ref 67], M)) rfl ?_
        refine e_call (q := 25) (L0 := [(0, .ref 67), (1, .int 0)]) hE rfl rfl rfl rfl (jargs_V rfl rfl rfl rfl rfl (Nat.le_of_ble_eq_true rfl) (Nat.le_of_ble_eq_true rfl) (Nat.le_of_ble_eq_true rfl)) rfl rfl (jEv.mono h (fun o7 M8 h => ?_))
        obtain ⟨r9, rfl, h⟩ := h
        refine ⟨_, rfl, ?_⟩
        show jEv nX8_lower (25, [(0, .ref 67), (1, .int x1)], [.int r9], M8) K
        refine e_if_eq (t := 30) (q := 28) hE rfl rfl rfl rfl (fun hbr => ?_) (fun hbr => ?_)
        · replace h := h.1 hbr
          refine e_seg (k := 1) (d := (31, [(0, .ref 67), (1, .int x1)], [.int x1], M8)) rfl ?_
          refine e_if_ne (t := 41) (q := 34) hE rfl rfl rfl rfl (fun hbr => ?_) (fun hbr => ?_)
          · replace h := h.2 hbr
            refine e_seg (k := 2) (d := (45, [(0, .ref 67), (1, .int x1)], [.long (M8.2 67 38)], M8)) rfl ?_
            exact e_ret hE rfl rfl (jb_l rfl) h
          · replace h := h.1 hbr
            refine e_seg (k := 3) (d := (45, [(0, .ref 67), (1, .int x1)], [.long (M8.2 67 37)], M8)) rfl ?_
            exact e_ret hE rfl rfl (jb_l rfl) h
        · replace h := h.2 hbr
          refine e_seg (k := 1) (d := (29, [(0, .ref 67), (1, .int x1)], [.long 0], M8)) rfl ?_
          exact e_ret hE rfl rfl (jb_l rfl) h
      · replace h := h.2 hbr
        refine e_seg (k := 2) (d := (22, [(0, .ref 67), (1, .int x1)], [.int 1, .ref 67], M)) rfl ?_
        refine e_call (q := 25) (L0 := [(0, .ref 67), (1, .int 1)]) hE rfl rfl rfl rfl (jargs_V rfl rfl rfl rfl rfl (Nat.le_of_ble_eq_true rfl) (Nat.le_of_ble_eq_true rfl) (Nat.le_of_ble_eq_true rfl)) rfl rfl (jEv.mono h (fun o10 M11 h => ?_))
        obtain ⟨r12, rfl, h⟩ := h
        refine ⟨_, rfl, ?_⟩
        show jEv nX8_lower (25, [(0, .ref 67), (1, .int x1)], [.int r12], M11) K
        refine e_if_eq (t := 30) (q := 28) hE rfl rfl rfl rfl (fun hbr => ?_) (fun hbr => ?_)
        · replace h := h.1 hbr
          refine e_seg (k := 1) (d := (31, [(0, .ref 67), (1, .int x1)], [.int x1], M11)) rfl ?_
          refine e_if_ne (t := 41) (q := 34) hE rfl rfl rfl rfl (fun hbr => ?_) (fun hbr => ?_)
          · replace h := h.2 hbr
            refine e_seg (k := 2) (d := (45, [(0, .ref 67), (1, .int x1)], [.long (M11.2 67 38)], M11)) rfl ?_
            exact e_ret hE rfl rfl (jb_l rfl) h
          · replace h := h.1 hbr
            refine e_seg (k := 3) (d := (45, [(0, .ref 67), (1, .int x1)], [.long (M11.2 67 37)], M11)) rfl ?_
            exact e_ret hE rfl rfl (jb_l rfl) h
        · replace h := h.2 hbr
          refine e_seg (k := 1) (d := (29, [(0, .ref 67), (1, .int x1)], [.long 0], M11)) rfl ?_
          exact e_ret hE rfl rfl (jb_l rfl) h
set_option maxRecDepth 100000 in
set_option maxHeartbeats 4000000 in
theorem v_X8_missOf_0 {K : jK} {M : jM} {x1 : Int32} {x2 : Int32} (h : jEv nX8_missOf (5, [(0, .ref 67), (1, .int x1), (2, .int x2), (3, .long 0), (5, .int 0)], [], M) K) : jEv nX8_missOf (0, [(0, .ref 67), (1, .int x1), (2, .int x2)], [], M) K := by
  have hE : jMT nX8_missOf = some me_X8_missOf := rfl
  refine e_seg (k := 4) (d := (5, [(0, .ref 67), (1, .int x1), (2, .int x2), (3, .long 0), (5, .int 0)], [], M)) rfl ?_
  refine e_cut (ks := [0, 1, 2, 3, 5]) (L' := [(0, .ref 67), (1, .int x1), (2, .int x2), (3, .long 0), (5, .int 0)]) hE rfl rfl rfl rfl rfl ?_
  exact h
set_option maxRecDepth 100000 in
set_option maxHeartbeats 4000000 in
theorem v_X8_missOf_5 {K : jK} {M : jM} {x1 : Int32} {x2 : Int32} {x3 : Int64} {x5 : Int32} (h : (¬ (x1 < 0 ∨ 6 ≤ x1.toNatClampNeg) ∧ (((M.1 71 x1.toNatClampNeg) < x5 → K (some (some (.long x3))) M) ∧ (¬ (M.1 71 x1.toNatClampNeg) < x5 → (¬ (x2 - x5 < 0 ∨ 60 ≤ (x2 - x5).toNatClampNeg) ∧ (((M.1 90 (x2 - x5).toNatClampNeg) = 100 → jEv nX8_missOf (5, [(0, .ref 67), (1, .int x1), (2, .int x2), (3, .long (x3 + 0)), (5, .int (x5 + 1))], [], M) K) ∧ (¬ (M.1 90 (x2 - x5).toNatClampNeg) = 100 → (jEv nX8_part (0, [(0, .ref 67), (1, .int x1), (2, .int x2), (3, .int (x2 - x5))], [], M) (fun o1 M2 => ∃ r3 : Int64, o1 = some (some (.long r3)) ∧ (¬ (x2 - x5 < 0 ∨ 60 ≤ (x2 - x5).toNatClampNeg) ∧ jEv nX8_missOf (5, [(0, .ref 67), (1, .int x1), (2, .int x2), (3, .long (x3 + (r3 * ((M2.1 90 (x2 - x5).toNatClampNeg).toInt64)))), (5, .int (x5 + 1))], [], M2) K)))))))))) : jEv nX8_missOf (5, [(0, .ref 67), (1, .int x1), (2, .int x2), (3, .long x3), (5, .int x5)], [], M) K := by
  have hE : jMT nX8_missOf = some me_X8_missOf := rfl
  refine e_seg (k := 4) (d := (12, [(0, .ref 67), (1, .int x1), (2, .int x2), (3, .long x3), (5, .int x5)], [.int x1, .ref 71, .int x5], M)) rfl ?_
  refine e_iald (q := 13) hE rfl rfl rfl rfl h.1 ?_
  replace h := h.2
  refine e_ic_gt (t := 64) (q := 16) hE rfl rfl rfl rfl (fun hbr => ?_) (fun hbr => ?_)
  · replace h := h.1 hbr
    refine e_seg (k := 1) (d := (65, [(0, .ref 67), (1, .int x1), (2, .int x2), (3, .long x3), (5, .int x5)], [.long x3], M)) rfl ?_
    exact e_ret hE rfl rfl (jb_l rfl) h
  · replace h := h.2 hbr
    refine e_seg (k := 6) (d := (25, [(0, .ref 67), (1, .int x1), (2, .int x2), (3, .long x3), (5, .int x5)], [.int (x2 - x5), .ref 90, .long x3], M)) rfl ?_
    refine e_iald (q := 26) hE rfl rfl rfl rfl h.1 ?_
    replace h := h.2
    refine e_seg (k := 1) (d := (28, [(0, .ref 67), (1, .int x1), (2, .int x2), (3, .long x3), (5, .int x5)], [.int 100, .int (M.1 90 (x2 - x5).toNatClampNeg), .long x3], M)) rfl ?_
    refine e_ic_ne (t := 35) (q := 31) hE rfl rfl rfl rfl (fun hbr => ?_) (fun hbr => ?_)
    · replace h := h.2 hbr
      refine e_seg (k := 6) (d := (42, [(0, .ref 67), (1, .int x1), (2, .int x2), (3, .long x3), (5, .int x5)], [.int (x2 - x5), .int x2, .int x1, .ref 67, .long x3], M)) rfl ?_
      refine e_call (q := 45) (L0 := [(0, .ref 67), (1, .int x1), (2, .int x2), (3, .int (x2 - x5))]) hE rfl rfl rfl rfl (jargs_V rfl rfl rfl rfl rfl (Nat.le_of_ble_eq_true rfl) (Nat.le_of_ble_eq_true rfl) (Nat.le_of_ble_eq_true rfl)) rfl rfl (jEv.mono h (fun o1 M2 h => ?_))
      obtain ⟨r3, rfl, h⟩ := h
      refine ⟨_, rfl, ?_⟩
      show jEv nX8_missOf (45, [(0, .ref 67), (1, .int x1), (2, .int x2), (3, .long x3), (5, .int x5)], [.long r3, .long x3], M2) K
      refine e_seg (k := 5) (d := (53, [(0, .ref 67), (1, .int x1), (2, .int x2), (3, .long x3), (5, .int x5)], [.int (x2 - x5), .ref 90, .long r3, .long x3], M2)) rfl ?_
      refine e_iald (q := 54) hE rfl rfl rfl rfl h.1 ?_
      replace h := h.2
      refine e_seg (k := 6) (d := (5, [(0, .ref 67), (1, .int x1), (2, .int x2), (3, .long (x3 + (r3 * ((M2.1 90 (x2 - x5).toNatClampNeg).toInt64)))), (5, .int (x5 + 1))], [], M2)) rfl ?_
      refine e_cut (ks := [0, 1, 2, 3, 5]) (L' := [(0, .ref 67), (1, .int x1), (2, .int x2), (3, .long (x3 + (r3 * ((M2.1 90 (x2 - x5).toNatClampNeg).toInt64)))), (5, .int (x5 + 1))]) hE rfl rfl rfl rfl rfl ?_
      exact h
    · replace h := h.1 hbr
      refine e_seg (k := 6) (d := (5, [(0, .ref 67), (1, .int x1), (2, .int x2), (3, .long (x3 + 0)), (5, .int (x5 + 1))], [], M)) rfl ?_
      refine e_cut (ks := [0, 1, 2, 3, 5]) (L' := [(0, .ref 67), (1, .int x1), (2, .int x2), (3, .long (x3 + 0)), (5, .int (x5 + 1))]) hE rfl rfl rfl rfl rfl ?_
      exact h
set_option maxRecDepth 100000 in
set_option maxHeartbeats 4000000 in
theorem v_X8_row_0 {K : jK} {M : jM} (h : (∀ M1 : jM, M1 = jsi M 67 0 0 → (jEv nX8_taken (0, [(0, .ref 67)], [], M1) (fun o2 M3 => ∃ r4 : Int32, o2 = some (some (.int r4)) ∧ ((r4 ≤ 60 → jEv nX8_row (20, [(0, .ref 67), (1, .int r4), (2, .int 0)], [], M3) K) ∧ (¬ r4 ≤ 60 → K (some (some (.int (-1)))) M3)))))) : jEv nX8_row (0, [(0, .ref 67)], [], M) K := by
  have hE : jMT nX8_row = some me_X8_row := rfl
  refine e_seg (k := 2) (d := (2, [(0, .ref 67)], [.int 0, .ref 67], M)) rfl ?_
  refine e_put (q := 5) hE rfl rfl rfl rfl rfl rfl rfl ?_
  obtain ⟨M1, hM1⟩ : ∃ z : jM, z = jsi M 67 0 0 := ⟨_, rfl⟩
  refine jEv_M hM1 ?_
  replace h := h M1 hM1
  refine e_seg (k := 1) (d := (6, [(0, .ref 67)], [.ref 67], M1)) rfl ?_
  refine e_call (q := 9) (L0 := [(0, .ref 67)]) hE rfl rfl rfl rfl (jargs_V rfl rfl rfl rfl rfl (Nat.le_of_ble_eq_true rfl) (Nat.le_of_ble_eq_true rfl) (Nat.le_of_ble_eq_true rfl)) rfl rfl (jEv.mono h (fun o2 M3 h => ?_))
  obtain ⟨r4, rfl, h⟩ := h
  refine ⟨_, rfl, ?_⟩
  show jEv nX8_row (9, [(0, .ref 67)], [.int r4], M3) K
  refine e_seg (k := 3) (d := (13, [(0, .ref 67), (1, .int r4)], [.int 60, .int r4], M3)) rfl ?_
  refine e_ic_le (t := 18) (q := 16) hE rfl rfl rfl rfl (fun hbr => ?_) (fun hbr => ?_)
  · replace h := h.1 hbr
    refine e_seg (k := 2) (d := (20, [(0, .ref 67), (1, .int r4), (2, .int 0)], [], M3)) rfl ?_
    refine e_cut (ks := [0, 1, 2]) (L' := [(0, .ref 67), (1, .int r4), (2, .int 0)]) hE rfl rfl rfl rfl rfl ?_
    exact h
  · replace h := h.2 hbr
    refine e_seg (k := 1) (d := (17, [(0, .ref 67), (1, .int r4)], [.int (-1)], M3)) rfl ?_
    exact e_ret hE rfl rfl (jb_i rfl) h
set_option maxRecDepth 100000 in
set_option maxHeartbeats 4000000 in
theorem v_X8_row_20 {K : jK} {M : jM} {x1 : Int32} {x2 : Int32} (h : ((x1 ≤ x2 → jEv nX8_row (68, [(0, .ref 67), (1, .int x1), (2, .int 0)], [], M) K) ∧ (¬ x1 ≤ x2 → (¬ (x2 < 0 ∨ 100 ≤ x2.toNatClampNeg) ∧ (((M.1 68 x2.toNatClampNeg) = (-128) → jEv nX8_row (20, [(0, .ref 67), (1, .int x1), (2, .int (x2 + 1))], [], M) K) ∧ (¬ (M.1 68 x2.toNatClampNeg) = (-128) → (¬ (x2 < 0 ∨ 100 ≤ x2.toNatClampNeg) ∧ (((M.1 68 x2.toNatClampNeg) < (-20) → K (some (some (.int (-1)))) M) ∧ (¬ (M.1 68 x2.toNatClampNeg) < (-20) → (¬ (x2 < 0 ∨ 100 ≤ x2.toNatClampNeg) ∧ (((M.1 68 x2.toNatClampNeg) ≤ 20 → jEv nX8_row (20, [(0, .ref 67), (1, .int x1), (2, .int (x2 + 1))], [], M) K) ∧ (¬ (M.1 68 x2.toNatClampNeg) ≤ 20 → K (some (some (.int (-1)))) M)))))))))))) : jEv nX8_row (20, [(0, .ref 67), (1, .int x1), (2, .int x2)], [], M) K := by
  have hE : jMT nX8_row = some me_X8_row := rfl
  refine e_seg (k := 2) (d := (22, [(0, .ref 67), (1, .int x1), (2, .int x2)], [.int x1, .int x2], M)) rfl ?_
  refine e_ic_ge (t := 66) (q := 25) hE rfl rfl rfl rfl (fun hbr => ?_) (fun hbr => ?_)
  · replace h := h.1 hbr
    refine e_seg (k := 2) (d := (68, [(0, .ref 67), (1, .int x1), (2, .int 0)], [], M)) rfl ?_
    refine e_cut (ks := [0, 1, 2]) (L' := [(0, .ref 67), (1, .int x1), (2, .int 0)]) hE rfl rfl rfl rfl rfl ?_
    exact h
  · replace h := h.2 hbr
    refine e_seg (k := 3) (d := (30, [(0, .ref 67), (1, .int x1), (2, .int x2)], [.int x2, .ref 68], M)) rfl ?_
    refine e_bald (q := 31) hE rfl rfl rfl rfl h.1 ?_
    replace h := h.2
    refine e_seg (k := 1) (d := (33, [(0, .ref 67), (1, .int x1), (2, .int x2)], [.int (-128), .int (M.1 68 x2.toNatClampNeg)], M)) rfl ?_
    refine e_ic_eq (t := 60) (q := 36) hE rfl rfl rfl rfl (fun hbr => ?_) (fun hbr => ?_)
    · replace h := h.1 hbr
      refine e_seg (k := 2) (d := (20, [(0, .ref 67), (1, .int x1), (2, .int (x2 + 1))], [], M)) rfl ?_
      refine e_cut (ks := [0, 1, 2]) (L' := [(0, .ref 67), (1, .int x1), (2, .int (x2 + 1))]) hE rfl rfl rfl rfl rfl ?_
      exact h
    · replace h := h.2 hbr
      refine e_seg (k := 3) (d := (41, [(0, .ref 67), (1, .int x1), (2, .int x2)], [.int x2, .ref 68], M)) rfl ?_
      refine e_bald (q := 42) hE rfl rfl rfl rfl h.1 ?_
      replace h := h.2
      refine e_seg (k := 1) (d := (44, [(0, .ref 67), (1, .int x1), (2, .int x2)], [.int (-20), .int (M.1 68 x2.toNatClampNeg)], M)) rfl ?_
      refine e_ic_lt (t := 58) (q := 47) hE rfl rfl rfl rfl (fun hbr => ?_) (fun hbr => ?_)
      · replace h := h.1 hbr
        refine e_seg (k := 1) (d := (59, [(0, .ref 67), (1, .int x1), (2, .int x2)], [.int (-1)], M)) rfl ?_
        exact e_ret hE rfl rfl (jb_i rfl) h
      · replace h := h.2 hbr
        refine e_seg (k := 3) (d := (52, [(0, .ref 67), (1, .int x1), (2, .int x2)], [.int x2, .ref 68], M)) rfl ?_
        refine e_bald (q := 53) hE rfl rfl rfl rfl h.1 ?_
        replace h := h.2
        refine e_seg (k := 1) (d := (55, [(0, .ref 67), (1, .int x1), (2, .int x2)], [.int 20, .int (M.1 68 x2.toNatClampNeg)], M)) rfl ?_
        refine e_ic_le (t := 60) (q := 58) hE rfl rfl rfl rfl (fun hbr => ?_) (fun hbr => ?_)
        · replace h := h.1 hbr
          refine e_seg (k := 2) (d := (20, [(0, .ref 67), (1, .int x1), (2, .int (x2 + 1))], [], M)) rfl ?_
          refine e_cut (ks := [0, 1, 2]) (L' := [(0, .ref 67), (1, .int x1), (2, .int (x2 + 1))]) hE rfl rfl rfl rfl rfl ?_
          exact h
        · replace h := h.2 hbr
          refine e_seg (k := 1) (d := (59, [(0, .ref 67), (1, .int x1), (2, .int x2)], [.int (-1)], M)) rfl ?_
          exact e_ret hE rfl rfl (jb_i rfl) h
set_option maxRecDepth 100000 in
set_option maxHeartbeats 4000000 in
theorem v_X8_row_68 {K : jK} {M : jM} {x1 : Int32} {x2 : Int32} (h : ((x1 ≤ x2 → (∀ M1 : jM, M1 = jsi M 67 27 x1 → (∀ M2 : jM, M2 = jsi M1 67 30 0 → K (some (some (.int x1))) M2))) ∧ (¬ x1 ≤ x2 → (¬ (x2 < 0 ∨ 100 ≤ x2.toNatClampNeg) ∧ (((M.1 68 x2.toNatClampNeg) = (-128) → (¬ (x2 < 0 ∨ 60 ≤ x2.toNatClampNeg) ∧ (∀ M4 : jM, M4 = jsi M 90 x2.toNatClampNeg 100 → jEv nX8_row (68, [(0, .ref 67), (1, .int x1), (2, .int (x2 + 1))], [], M4) K))) ∧ (¬ (M.1 68 x2.toNatClampNeg) = (-128) → (¬ (x2 < 0 ∨ 100 ≤ x2.toNatClampNeg) ∧ (¬ (x2 < 0 ∨ 60 ≤ x2.toNatClampNeg) ∧ (∀ M3 : jM, M3 = jsi M 90 x2.toNatClampNeg (M.1 68 x2.toNatClampNeg) → jEv nX8_row (68, [(0, .ref 67), (1, .int x1), (2, .int (x2 + 1))], [], M3) K))))))))) : jEv nX8_row (68, [(0, .ref 67), (1, .int x1), (2, .int x2)], [], M) K := by
  have hE : jMT nX8_row = some me_X8_row := rfl
  refine e_seg (k := 2) (d := (70, [(0, .ref 67), (1, .int x1), (2, .int x2)], [.int x1, .int x2], M)) rfl ?_
  refine e_ic_ge (t := 107) (q := 73) hE rfl rfl rfl rfl (fun hbr => ?_) (fun hbr => ?_)
  · replace h := h.1 hbr
    refine e_seg (k := 2) (d := (109, [(0, .ref 67), (1, .int x1), (2, .int x2)], [.int x1, .ref 67], M)) rfl ?_
    refine e_put (q := 112) hE rfl rfl rfl rfl rfl rfl rfl ?_
    obtain ⟨M1, hM1⟩ : ∃ z : jM, z = jsi M 67 27 x1 := ⟨_, rfl⟩
    refine jEv_M hM1 ?_
    replace h := h M1 hM1
    refine e_seg (k := 2) (d := (114, [(0, .ref 67), (1, .int x1), (2, .int x2)], [.int 0, .ref 67], M1)) rfl ?_
    refine e_put (q := 117) hE rfl rfl rfl rfl rfl rfl rfl ?_
    obtain ⟨M2, hM2⟩ : ∃ z : jM, z = jsi M1 67 30 0 := ⟨_, rfl⟩
    refine jEv_M hM2 ?_
    replace h := h M2 hM2
    refine e_seg (k := 1) (d := (118, [(0, .ref 67), (1, .int x1), (2, .int x2)], [.int x1], M2)) rfl ?_
    exact e_ret hE rfl rfl (jb_i rfl) h
  · replace h := h.2 hbr
    refine e_seg (k := 6) (d := (83, [(0, .ref 67), (1, .int x1), (2, .int x2)], [.int x2, .ref 68, .int x2, .ref 90], M)) rfl ?_
    refine e_bald (q := 84) hE rfl rfl rfl rfl h.1 ?_
    replace h := h.2
    refine e_seg (k := 1) (d := (86, [(0, .ref 67), (1, .int x1), (2, .int x2)], [.int (-128), .int (M.1 68 x2.toNatClampNeg), .int x2, .ref 90], M)) rfl ?_
    refine e_ic_ne (t := 94) (q := 89) hE rfl rfl rfl rfl (fun hbr => ?_) (fun hbr => ?_)
    · replace h := h.2 hbr
      refine e_seg (k := 3) (d := (99, [(0, .ref 67), (1, .int x1), (2, .int x2)], [.int x2, .ref 68, .int x2, .ref 90], M)) rfl ?_
      refine e_bald (q := 100) hE rfl rfl rfl rfl h.1 ?_
      replace h := h.2
      refine e_iast (q := 101) hE rfl rfl rfl rfl h.1 ?_
      replace h := h.2
      obtain ⟨M3, hM3⟩ : ∃ z : jM, z = jsi M 90 x2.toNatClampNeg (M.1 68 x2.toNatClampNeg) := ⟨_, rfl⟩
      refine jEv_M hM3 ?_
      replace h := h M3 hM3
      refine e_seg (k := 2) (d := (68, [(0, .ref 67), (1, .int x1), (2, .int (x2 + 1))], [], M3)) rfl ?_
      refine e_cut (ks := [0, 1, 2]) (L' := [(0, .ref 67), (1, .int x1), (2, .int (x2 + 1))]) hE rfl rfl rfl rfl rfl ?_
      exact h
    · replace h := h.1 hbr
      refine e_seg (k := 2) (d := (100, [(0, .ref 67), (1, .int x1), (2, .int x2)], [.int 100, .int x2, .ref 90], M)) rfl ?_
      refine e_iast (q := 101) hE rfl rfl rfl rfl h.1 ?_
      replace h := h.2
      obtain ⟨M4, hM4⟩ : ∃ z : jM, z = jsi M 90 x2.toNatClampNeg 100 := ⟨_, rfl⟩
      refine jEv_M hM4 ?_
      replace h := h M4 hM4
      refine e_seg (k := 2) (d := (68, [(0, .ref 67), (1, .int x1), (2, .int (x2 + 1))], [], M4)) rfl ?_
      refine e_cut (ks := [0, 1, 2]) (L' := [(0, .ref 67), (1, .int x1), (2, .int (x2 + 1))]) hE rfl rfl rfl rfl rfl ?_
      exact h
set_option maxRecDepth 100000 in
set_option maxHeartbeats 4000000 in
theorem v_X8_rule_0 {K : jK} {M : jM} {x1 : Int32} {x2 : Int32} {x3 : Int32} {x4 : Int32} {x5 : Int32} (h : (∀ M1 : jM, M1 = jsi M 67 0 0 → (jEv nX8_taken (0, [(0, .ref 67)], [], M1) (fun o2 M3 => ∃ r4 : Int32, o2 = some (some (.int r4)) ∧ ((x1 < 0 → K (some (some (.int 0))) M3) ∧ (¬ x1 < 0 → ((6 ≤ x1 → K (some (some (.int 0))) M3) ∧ (¬ 6 ≤ x1 → ((x2 < 1 → K (some (some (.int 0))) M3) ∧ (¬ x2 < 1 → ((4 < x2 → K (some (some (.int 0))) M3) ∧ (¬ 4 < x2 → ((x3 < 0 → K (some (some (.int 0))) M3) ∧ (¬ x3 < 0 → ((3 < x3 → K (some (some (.int 0))) M3) ∧ (¬ 3 < x3 → ((x4 < 0 → K (some (some (.int 0))) M3) ∧ (¬ x4 < 0 → ((3 < x4 → K (some (some (.int 0))) M3) ∧ (¬ 3 < x4 → ((x5 < 1 → K (some (some (.int 0))) M3) ∧ (¬ x5 < 1 → ((20 < x5 → K (some (some (.int 0))) M3) ∧ (¬ 20 < x5 → ((r4 = (x3 + x4) → jEv nX8_rule (78, [(0, .ref 67), (1, .int x1), (2, .int x2), (3, .int x3), (4, .int x4), (5, .int x5), (6, .int r4), (7, .int 0)], [], M3) K) ∧ (¬ r4 = (x3 + x4) → K (some (some (.int 0))) M3)))))))))))))))))))))))))) : jEv nX8_rule (0, [(0, .ref 67), (1, .int x1), (2, .int x2), (3, .int x3), (4, .int x4), (5, .int x5)], [], M) K := by
  have hE : jMT nX8_rule = some me_X8_rule := rfl
  refine e_seg (k := 2) (d := (2, [(0, .ref 67), (1, .int x1), (2, .int x2), (3, .int x3), (4, .int x4), (5, .int x5)], [.int 0, .ref 67], M)) rfl ?_
  refine e_put (q := 5) hE rfl rfl rfl rfl rfl rfl rfl ?_
  obtain ⟨M1, hM1⟩ : ∃ z : jM, z = jsi M 67 0 0 := ⟨_, rfl⟩
  refine jEv_M hM1 ?_
  replace h := h M1 hM1
  refine e_seg (k := 1) (d := (6, [(0, .ref 67), (1, .int x1), (2, .int x2), (3, .int x3), (4, .int x4), (5, .int x5)], [.ref 67], M1)) rfl ?_
  refine e_call (q := 9) (L0 := [(0, .ref 67)]) hE rfl rfl rfl rfl (jargs_V rfl rfl rfl rfl rfl (Nat.le_of_ble_eq_true rfl) (Nat.le_of_ble_eq_true rfl) (Nat.le_of_ble_eq_true rfl)) rfl rfl (jEv.mono h (fun o2 M3 h => ?_))
  obtain ⟨r4, rfl, h⟩ := h
  refine ⟨_, rfl, ?_⟩
  show jEv nX8_rule (9, [(0, .ref 67), (1, .int x1), (2, .int x2), (3, .int x3), (4, .int x4), (5, .int x5)], [.int r4], M3) K
  refine e_seg (k := 2) (d := (12, [(0, .ref 67), (1, .int x1), (2, .int x2), (3, .int x3), (4, .int x4), (5, .int x5), (6, .int r4)], [.int x1], M3)) rfl ?_
  refine e_if_lt (t := 73) (q := 15) hE rfl rfl rfl rfl (fun hbr => ?_) (fun hbr => ?_)
  · replace h := h.1 hbr
    refine e_seg (k := 1) (d := (74, [(0, .ref 67), (1, .int x1), (2, .int x2), (3, .int x3), (4, .int x4), (5, .int x5), (6, .int r4)], [.int 0], M3)) rfl ?_
    exact e_ret hE rfl rfl (jb_z rfl (by decide)) h
  · replace h := h.2 hbr
    refine e_seg (k := 2) (d := (18, [(0, .ref 67), (1, .int x1), (2, .int x2), (3, .int x3), (4, .int x4), (5, .int x5), (6, .int r4)], [.int 6, .int x1], M3)) rfl ?_
    refine e_ic_ge (t := 73) (q := 21) hE rfl rfl rfl rfl (fun hbr => ?_) (fun hbr => ?_)
    · replace h := h.1 hbr
      refine e_seg (k := 1) (d := (74, [(0, .ref 67), (1, .int x1), (2, .int x2), (3, .int x3), (4, .int x4), (5, .int x5), (6, .int r4)], [.int 0], M3)) rfl ?_
      exact e_ret hE rfl rfl (jb_z rfl (by decide)) h
    · replace h := h.2 hbr
      refine e_seg (k := 2) (d := (23, [(0, .ref 67), (1, .int x1), (2, .int x2), (3, .int x3), (4, .int x4), (5, .int x5), (6, .int r4)], [.int 1, .int x2], M3)) rfl ?_
      refine e_ic_lt (t := 73) (q := 26) hE rfl rfl rfl rfl (fun hbr => ?_) (fun hbr => ?_)
      · replace h := h.1 hbr
        refine e_seg (k := 1) (d := (74, [(0, .ref 67), (1, .int x1), (2, .int x2), (3, .int x3), (4, .int x4), (5, .int x5), (6, .int r4)], [.int 0], M3)) rfl ?_
        exact e_ret hE rfl rfl (jb_z rfl (by decide)) h
      · replace h := h.2 hbr
        refine e_seg (k := 2) (d := (28, [(0, .ref 67), (1, .int x1), (2, .int x2), (3, .int x3), (4, .int x4), (5, .int x5), (6, .int r4)], [.int 4, .int x2], M3)) rfl ?_
        refine e_ic_gt (t := 73) (q := 31) hE rfl rfl rfl rfl (fun hbr => ?_) (fun hbr => ?_)
        · replace h := h.1 hbr
          refine e_seg (k := 1) (d := (74, [(0, .ref 67), (1, .int x1), (2, .int x2), (3, .int x3), (4, .int x4), (5, .int x5), (6, .int r4)], [.int 0], M3)) rfl ?_
          exact e_ret hE rfl rfl (jb_z rfl (by decide)) h
        · replace h := h.2 hbr
          refine e_seg (k := 1) (d := (32, [(0, .ref 67), (1, .int x1), (2, .int x2), (3, .int x3), (4, .int x4), (5, .int x5), (6, .int r4)], [.int x3], M3)) rfl ?_
          refine e_if_lt (t := 73) (q := 35) hE rfl rfl rfl rfl (fun hbr => ?_) (fun hbr => ?_)
          · replace h := h.1 hbr
            refine e_seg (k := 1) (d := (74, [(0, .ref 67), (1, .int x1), (2, .int x2), (3, .int x3), (4, .int x4), (5, .int x5), (6, .int r4)], [.int 0], M3)) rfl ?_
            exact e_ret hE rfl rfl (jb_z rfl (by decide)) h
          · replace h := h.2 hbr
            refine e_seg (k := 2) (d := (37, [(0, .ref 67), (1, .int x1), (2, .int x2), (3, .int x3), (4, .int x4), (5, .int x5), (6, .int r4)], [.int 3, .int x3], M3)) rfl ?_
            refine e_ic_gt (t := 73) (q := 40) hE rfl rfl rfl rfl (fun hbr => ?_) (fun hbr => ?_)
            · replace h := h.1 hbr
              refine e_seg (k := 1) (d := (74, [(0, .ref 67), (1, .int x1), (2, .int x2), (3, .int x3), (4, .int x4), (5, .int x5), (6, .int r4)], [.int 0], M3)) rfl ?_
              exact e_ret hE rfl rfl (jb_z rfl (by decide)) h
            · replace h := h.2 hbr
              refine e_seg (k := 1) (d := (42, [(0, .ref 67), (1, .int x1), (2, .int x2), (3, .int x3), (4, .int x4), (5, .int x5), (6, .int r4)], [.int x4], M3)) rfl ?_
              refine e_if_lt (t := 73) (q := 45) hE rfl rfl rfl rfl (fun hbr => ?_) (fun hbr => ?_)
              · replace h := h.1 hbr
                refine e_seg (k := 1) (d := (74, [(0, .ref 67), (1, .int x1), (2, .int x2), (3, .int x3), (4, .int x4), (5, .int x5), (6, .int r4)], [.int 0], M3)) rfl ?_
                exact e_ret hE rfl rfl (jb_z rfl (by decide)) h
              · replace h := h.2 hbr
                refine e_seg (k := 2) (d := (48, [(0, .ref 67), (1, .int x1), (2, .int x2), (3, .int x3), (4, .int x4), (5, .int x5), (6, .int r4)], [.int 3, .int x4], M3)) rfl ?_
                refine e_ic_gt (t := 73) (q := 51) hE rfl rfl rfl rfl (fun hbr => ?_) (fun hbr => ?_)
                · replace h := h.1 hbr
                  refine e_seg (k := 1) (d := (74, [(0, .ref 67), (1, .int x1), (2, .int x2), (3, .int x3), (4, .int x4), (5, .int x5), (6, .int r4)], [.int 0], M3)) rfl ?_
                  exact e_ret hE rfl rfl (jb_z rfl (by decide)) h
                · replace h := h.2 hbr
                  refine e_seg (k := 2) (d := (54, [(0, .ref 67), (1, .int x1), (2, .int x2), (3, .int x3), (4, .int x4), (5, .int x5), (6, .int r4)], [.int 1, .int x5], M3)) rfl ?_
                  refine e_ic_lt (t := 73) (q := 57) hE rfl rfl rfl rfl (fun hbr => ?_) (fun hbr => ?_)
                  · replace h := h.1 hbr
                    refine e_seg (k := 1) (d := (74, [(0, .ref 67), (1, .int x1), (2, .int x2), (3, .int x3), (4, .int x4), (5, .int x5), (6, .int r4)], [.int 0], M3)) rfl ?_
                    exact e_ret hE rfl rfl (jb_z rfl (by decide)) h
                  · replace h := h.2 hbr
                    refine e_seg (k := 2) (d := (61, [(0, .ref 67), (1, .int x1), (2, .int x2), (3, .int x3), (4, .int x4), (5, .int x5), (6, .int r4)], [.int 20, .int x5], M3)) rfl ?_
                    refine e_ic_gt (t := 73) (q := 64) hE rfl rfl rfl rfl (fun hbr => ?_) (fun hbr => ?_)
                    · replace h := h.1 hbr
                      refine e_seg (k := 1) (d := (74, [(0, .ref 67), (1, .int x1), (2, .int x2), (3, .int x3), (4, .int x4), (5, .int x5), (6, .int r4)], [.int 0], M3)) rfl ?_
                      exact e_ret hE rfl rfl (jb_z rfl (by decide)) h
                    · replace h := h.2 hbr
                      refine e_seg (k := 4) (d := (70, [(0, .ref 67), (1, .int x1), (2, .int x2), (3, .int x3), (4, .int x4), (5, .int x5), (6, .int r4)], [.int (x3 + x4), .int r4], M3)) rfl ?_
                      refine e_ic_eq (t := 75) (q := 73) hE rfl rfl rfl rfl (fun hbr => ?_) (fun hbr => ?_)
                      · replace h := h.1 hbr
                        refine e_seg (k := 2) (d := (78, [(0, .ref 67), (1, .int x1), (2, .int x2), (3, .int x3), (4, .int x4), (5, .int x5), (6, .int r4), (7, .int 0)], [], M3)) rfl ?_
                        refine e_cut (ks := [0, 1, 2, 3, 4, 5, 6, 7]) (L' := [(0, .ref 67), (1, .int x1), (2, .int x2), (3, .int x3), (4, .int x4), (5, .int x5), (6, .int r4), (7, .int 0)]) hE rfl rfl rfl rfl rfl ?_
                        exact h
                      · replace h := h.2 hbr
                        refine e_seg (k := 1) (d := (74, [(0, .ref 67), (1, .int x1), (2, .int x2), (3, .int x3), (4, .int x4), (5, .int x5), (6, .int r4)], [.int 0], M3)) rfl ?_
                        exact e_ret hE rfl rfl (jb_z rfl (by decide)) h
set_option maxRecDepth 100000 in
set_option maxHeartbeats 4000000 in
theorem v_X8_rule_78 {K : jK} {M : jM} {x1 : Int32} {x2 : Int32} {x3 : Int32} {x4 : Int32} {x5 : Int32} {x6 : Int32} {x7 : Int32} (h : ((x6 ≤ x7 → (¬ (x1 < 0 ∨ 6 ≤ x1.toNatClampNeg) ∧ (∀ M1 : jM, M1 = jsi M 69 x1.toNatClampNeg (vp_nar .boolean 1) → (¬ (x1 < 0 ∨ 6 ≤ x1.toNatClampNeg) ∧ (∀ M2 : jM, M2 = jsi M1 70 x1.toNatClampNeg x2 → (¬ (x1 < 0 ∨ 6 ≤ x1.toNatClampNeg) ∧ (∀ M3 : jM, M3 = jsi M2 71 x1.toNatClampNeg x3 → (¬ (x1 < 0 ∨ 6 ≤ x1.toNatClampNeg) ∧ (∀ M4 : jM, M4 = jsi M3 72 x1.toNatClampNeg x4 → (¬ (x1 < 0 ∨ 6 ≤ x1.toNatClampNeg) ∧ (∀ M5 : jM, M5 = jsi M4 73 x1.toNatClampNeg x5 → jEv nX8_rule (157, [(0, .ref 67), (1, .int x1), (3, .int x3), (4, .int x4), (7, .int 1)], [], M5) K))))))))))) ∧ (¬ x6 ≤ x7 → (¬ (x7 < 0 ∨ 100 ≤ x7.toNatClampNeg) ∧ (((M.1 68 x7.toNatClampNeg) < (-8) → K (some (some (.int 0))) M) ∧ (¬ (M.1 68 x7.toNatClampNeg) < (-8) → (¬ (x7 < 0 ∨ 100 ≤ x7.toNatClampNeg) ∧ (((M.1 68 x7.toNatClampNeg) ≤ 8 → jEv nX8_rule (78, [(0, .ref 67), (1, .int x1), (2, .int x2), (3, .int x3), (4, .int x4), (5, .int x5), (6, .int x6), (7, .int (x7 + 1))], [], M) K) ∧ (¬ (M.1 68 x7.toNatClampNeg) ≤ 8 → K (some (some (.int 0))) M))))))))) : jEv nX8_rule (78, [(0, .ref 67), (1, .int x1), (2, .int x2), (3, .int x3), (4, .int x4), (5, .int x5), (6, .int x6), (7, .int x7)], [], M) K := by
  have hE : jMT nX8_rule = some me_X8_rule := rfl
  refine e_seg (k := 2) (d := (82, [(0, .ref 67), (1, .int x1), (2, .int x2), (3, .int x3), (4, .int x4), (5, .int x5), (6, .int x6), (7, .int x7)], [.int x6, .int x7], M)) rfl ?_
  refine e_ic_ge (t := 117) (q := 85) hE rfl rfl rfl rfl (fun hbr => ?_) (fun hbr => ?_)
  · replace h := h.1 hbr
    refine e_seg (k := 4) (d := (123, [(0, .ref 67), (1, .int x1), (2, .int x2), (3, .int x3), (4, .int x4), (5, .int x5), (6, .int x6), (7, .int x7)], [.int 1, .int x1, .ref 69], M)) rfl ?_
    refine e_zast (q := 124) hE rfl rfl rfl rfl h.1 ?_
    replace h := h.2
    obtain ⟨M1, hM1⟩ : ∃ z : jM, z = jsi M 69 x1.toNatClampNeg (vp_nar .boolean 1) := ⟨_, rfl⟩
    refine jEv_M hM1 ?_
    replace h := h M1 hM1
    refine e_seg (k := 4) (d := (130, [(0, .ref 67), (1, .int x1), (2, .int x2), (3, .int x3), (4, .int x4), (5, .int x5), (6, .int x6), (7, .int x7)], [.int x2, .int x1, .ref 70], M1)) rfl ?_
    refine e_iast (q := 131) hE rfl rfl rfl rfl h.1 ?_
    replace h := h.2
    obtain ⟨M2, hM2⟩ : ∃ z : jM, z = jsi M1 70 x1.toNatClampNeg x2 := ⟨_, rfl⟩
    refine jEv_M hM2 ?_
    replace h := h M2 hM2
    refine e_seg (k := 4) (d := (137, [(0, .ref 67), (1, .int x1), (2, .int x2), (3, .int x3), (4, .int x4), (5, .int x5), (6, .int x6), (7, .int x7)], [.int x3, .int x1, .ref 71], M2)) rfl ?_
    refine e_iast (q := 138) hE rfl rfl rfl rfl h.1 ?_
    replace h := h.2
    obtain ⟨M3, hM3⟩ : ∃ z : jM, z = jsi M2 71 x1.toNatClampNeg x3 := ⟨_, rfl⟩
    refine jEv_M hM3 ?_
    replace h := h M3 hM3
    refine e_seg (k := 4) (d := (145, [(0, .ref 67), (1, .int x1), (2, .int x2), (3, .int x3), (4, .int x4), (5, .int x5), (6, .int x6), (7, .int x7)], [.int x4, .int x1, .ref 72], M3)) rfl ?_
    refine e_iast (q := 146) hE rfl rfl rfl rfl h.1 ?_
    replace h := h.2
    obtain ⟨M4, hM4⟩ : ∃ z : jM, z = jsi M3 72 x1.toNatClampNeg x4 := ⟨_, rfl⟩
    refine jEv_M hM4 ?_
    replace h := h M4 hM4
    refine e_seg (k := 4) (d := (153, [(0, .ref 67), (1, .int x1), (2, .int x2), (3, .int x3), (4, .int x4), (5, .int x5), (6, .int x6), (7, .int x7)], [.int x5, .int x1, .ref 73], M4)) rfl ?_
    refine e_iast (q := 154) hE rfl rfl rfl rfl h.1 ?_
    replace h := h.2
    obtain ⟨M5, hM5⟩ : ∃ z : jM, z = jsi M4 73 x1.toNatClampNeg x5 := ⟨_, rfl⟩
    refine jEv_M hM5 ?_
    replace h := h M5 hM5
    refine e_seg (k := 2) (d := (157, [(0, .ref 67), (1, .int x1), (2, .int x2), (3, .int x3), (4, .int x4), (5, .int x5), (6, .int x6), (7, .int 1)], [], M5)) rfl ?_
    refine e_cut (ks := [0, 1, 3, 4, 7]) (L' := [(0, .ref 67), (1, .int x1), (3, .int x3), (4, .int x4), (7, .int 1)]) hE rfl rfl rfl rfl rfl ?_
    exact h
  · replace h := h.2 hbr
    refine e_seg (k := 3) (d := (91, [(0, .ref 67), (1, .int x1), (2, .int x2), (3, .int x3), (4, .int x4), (5, .int x5), (6, .int x6), (7, .int x7)], [.int x7, .ref 68], M)) rfl ?_
    refine e_bald (q := 92) hE rfl rfl rfl rfl h.1 ?_
    replace h := h.2
    refine e_seg (k := 1) (d := (94, [(0, .ref 67), (1, .int x1), (2, .int x2), (3, .int x3), (4, .int x4), (5, .int x5), (6, .int x6), (7, .int x7)], [.int (-8), .int (M.1 68 x7.toNatClampNeg)], M)) rfl ?_
    refine e_ic_lt (t := 109) (q := 97) hE rfl rfl rfl rfl (fun hbr => ?_) (fun hbr => ?_)
    · replace h := h.1 hbr
      refine e_seg (k := 1) (d := (110, [(0, .ref 67), (1, .int x1), (2, .int x2), (3, .int x3), (4, .int x4), (5, .int x5), (6, .int x6), (7, .int x7)], [.int 0], M)) rfl ?_
      exact e_ret hE rfl rfl (jb_z rfl (by decide)) h
    · replace h := h.2 hbr
      refine e_seg (k := 3) (d := (103, [(0, .ref 67), (1, .int x1), (2, .int x2), (3, .int x3), (4, .int x4), (5, .int x5), (6, .int x6), (7, .int x7)], [.int x7, .ref 68], M)) rfl ?_
      refine e_bald (q := 104) hE rfl rfl rfl rfl h.1 ?_
      replace h := h.2
      refine e_seg (k := 1) (d := (106, [(0, .ref 67), (1, .int x1), (2, .int x2), (3, .int x3), (4, .int x4), (5, .int x5), (6, .int x6), (7, .int x7)], [.int 8, .int (M.1 68 x7.toNatClampNeg)], M)) rfl ?_
      refine e_ic_le (t := 111) (q := 109) hE rfl rfl rfl rfl (fun hbr => ?_) (fun hbr => ?_)
      · replace h := h.1 hbr
        refine e_seg (k := 2) (d := (78, [(0, .ref 67), (1, .int x1), (2, .int x2), (3, .int x3), (4, .int x4), (5, .int x5), (6, .int x6), (7, .int (x7 + 1))], [], M)) rfl ?_
        refine e_cut (ks := [0, 1, 2, 3, 4, 5, 6, 7]) (L' := [(0, .ref 67), (1, .int x1), (2, .int x2), (3, .int x3), (4, .int x4), (5, .int x5), (6, .int x6), (7, .int (x7 + 1))]) hE rfl rfl rfl rfl rfl ?_
        exact h
      · replace h := h.2 hbr
        refine e_seg (k := 1) (d := (110, [(0, .ref 67), (1, .int x1), (2, .int x2), (3, .int x3), (4, .int x4), (5, .int x5), (6, .int x6), (7, .int x7)], [.int 0], M)) rfl ?_
        exact e_ret hE rfl rfl (jb_z rfl (by decide)) h
set_option maxRecDepth 100000 in
set_option maxHeartbeats 4000000 in
theorem v_X8_rule_157 {K : jK} {M : jM} {x1 : Int32} {x3 : Int32} {x4 : Int32} {x7 : Int32} (h : ((4 ≤ x7 → K (some (some (.int 1))) M) ∧ (¬ 4 ≤ x7 → ((x3 < x7 → (¬ ((4 * x1) + x7 < 0 ∨ 24 ≤ ((4 * x1) + x7).toNatClampNeg) ∧ (∀ M1 : jM, M1 = jsi M 74 (((4 * x1) + x7).toNatClampNeg) 0 → ((x4 < x7 → (¬ ((4 * x1) + x7 < 0 ∨ 24 ≤ ((4 * x1) + x7).toNatClampNeg) ∧ (∀ M2 : jM, M2 = jsi M1 75 (((4 * x1) + x7).toNatClampNeg) 0 → jEv nX8_rule (157, [(0, .ref 67), (1, .int x1), (3, .int x3), (4, .int x4), (7, .int (x7 + 1))], [], M2) K))) ∧ (¬ x4 < x7 → (¬ ((x3 + x7) - 1 < 0 ∨ 100 ≤ ((x3 + x7) - 1).toNatClampNeg) ∧ (¬ ((4 * x1) + x7 < 0 ∨ 24 ≤ ((4 * x1) + x7).toNatClampNeg) ∧ (∀ M3 : jM, M3 = jsi M1 75 (((4 * x1) + x7).toNatClampNeg) (M1.1 68 ((x3 + x7) - 1).toNatClampNeg) → jEv nX8_rule (157, [(0, .ref 67), (1, .int x1), (3, .int x3), (4, .int x4), (7, .int (x7 + 1))], [], M3) K)))))))) ∧ (¬ x3 < x7 → (¬ (x7 - 1 < 0 ∨ 100 ≤ (x7 - 1).toNatClampNeg) ∧ (¬ ((4 * x1) + x7 < 0 ∨ 24 ≤ ((4 * x1) + x7).toNatClampNeg) ∧ (∀ M4 : jM, M4 = jsi M 74 (((4 * x1) + x7).toNatClampNeg) (M.1 68 (x7 - 1).toNatClampNeg) → ((x4 < x7 → (¬ ((4 * x1) + x7 < 0 ∨ 24 ≤ ((4 * x1) + x7).toNatClampNeg) ∧ (∀ M5 : jM, M5 = jsi M4 75 (((4 * x1) + x7).toNatClampNeg) 0 → jEv nX8_rule (157, [(0, .ref 67), (1, .int x1), (3, .int x3), (4, .int x4), (7, .int (x7 + 1))], [], M5) K))) ∧ (¬ x4 < x7 → (¬ ((x3 + x7) - 1 < 0 ∨ 100 ≤ ((x3 + x7) - 1).toNatClampNeg) ∧ (¬ ((4 * x1) + x7 < 0 ∨ 24 ≤ ((4 * x1) + x7).toNatClampNeg) ∧ (∀ M6 : jM, M6 = jsi M4 75 (((4 * x1) + x7).toNatClampNeg) (M4.1 68 ((x3 + x7) - 1).toNatClampNeg) → jEv nX8_rule (157, [(0, .ref 67), (1, .int x1), (3, .int x3), (4, .int x4), (7, .int (x7 + 1))], [], M6) K))))))))))))) : jEv nX8_rule (157, [(0, .ref 67), (1, .int x1), (3, .int x3), (4, .int x4), (7, .int x7)], [], M) K := by
  have hE : jMT nX8_rule = some me_X8_rule := rfl
  refine e_seg (k := 2) (d := (160, [(0, .ref 67), (1, .int x1), (3, .int x3), (4, .int x4), (7, .int x7)], [.int 4, .int x7], M)) rfl ?_
  refine e_ic_ge (t := 232) (q := 163) hE rfl rfl rfl rfl (fun hbr => ?_) (fun hbr => ?_)
  · replace h := h.1 hbr
    refine e_seg (k := 1) (d := (233, [(0, .ref 67), (1, .int x1), (3, .int x3), (4, .int x4), (7, .int x7)], [.int 1], M)) rfl ?_
    exact e_ret hE rfl rfl (jb_z rfl (by decide)) h
  · replace h := h.2 hbr
    refine e_seg (k := 9) (d := (176, [(0, .ref 67), (1, .int x1), (3, .int x3), (4, .int x4), (7, .int x7)], [.int x3, .int x7, .int ((4 * x1) + x7), .ref 74], M)) rfl ?_
    refine e_ic_gt (t := 191) (q := 179) hE rfl rfl rfl rfl (fun hbr => ?_) (fun hbr => ?_)
    · replace h := h.1 hbr
      refine e_seg (k := 1) (d := (192, [(0, .ref 67), (1, .int x1), (3, .int x3), (4, .int x4), (7, .int x7)], [.int 0, .int ((4 * x1) + x7), .ref 74], M)) rfl ?_
      refine e_iast (q := 193) hE rfl rfl rfl rfl h.1 ?_
      replace h := h.2
      obtain ⟨M1, hM1⟩ : ∃ z : jM, z = jsi M 74 (((4 * x1) + x7).toNatClampNeg) 0 := ⟨_, rfl⟩
      refine jEv_M hM1 ?_
      replace h := h M1 hM1
      refine e_seg (k := 9) (d := (207, [(0, .ref 67), (1, .int x1), (3, .int x3), (4, .int x4), (7, .int x7)], [.int x4, .int x7, .int ((4 * x1) + x7), .ref 75], M1)) rfl ?_
      refine e_ic_gt (t := 224) (q := 210) hE rfl rfl rfl rfl (fun hbr => ?_) (fun hbr => ?_)
      · replace h := h.1 hbr
        refine e_seg (k := 1) (d := (225, [(0, .ref 67), (1, .int x1), (3, .int x3), (4, .int x4), (7, .int x7)], [.int 0, .int ((4 * x1) + x7), .ref 75], M1)) rfl ?_
        refine e_iast (q := 226) hE rfl rfl rfl rfl h.1 ?_
        replace h := h.2
        obtain ⟨M2, hM2⟩ : ∃ z : jM, z = jsi M1 75 (((4 * x1) + x7).toNatClampNeg) 0 := ⟨_, rfl⟩
        refine jEv_M hM2 ?_
        replace h := h M2 hM2
        refine e_seg (k := 2) (d := (157, [(0, .ref 67), (1, .int x1), (3, .int x3), (4, .int x4), (7, .int (x7 + 1))], [], M2)) rfl ?_
        refine e_cut (ks := [0, 1, 3, 4, 7]) (L' := [(0, .ref 67), (1, .int x1), (3, .int x3), (4, .int x4), (7, .int (x7 + 1))]) hE rfl rfl rfl rfl rfl ?_
        exact h
      · replace h := h.2 hbr
        refine e_seg (k := 7) (d := (220, [(0, .ref 67), (1, .int x1), (3, .int x3), (4, .int x4), (7, .int x7)], [.int ((x3 + x7) - 1), .ref 68, .int ((4 * x1) + x7), .ref 75], M1)) rfl ?_
        refine e_bald (q := 221) hE rfl rfl rfl rfl h.1 ?_
        replace h := h.2
        refine e_seg (k := 1) (d := (225, [(0, .ref 67), (1, .int x1), (3, .int x3), (4, .int x4), (7, .int x7)], [.int (M1.1 68 ((x3 + x7) - 1).toNatClampNeg), .int ((4 * x1) + x7), .ref 75], M1)) rfl ?_
        refine e_iast (q := 226) hE rfl rfl rfl rfl h.1 ?_
        replace h := h.2
        obtain ⟨M3, hM3⟩ : ∃ z : jM, z = jsi M1 75 (((4 * x1) + x7).toNatClampNeg) (M1.1 68 ((x3 + x7) - 1).toNatClampNeg) := ⟨_, rfl⟩
        refine jEv_M hM3 ?_
        replace h := h M3 hM3
        refine e_seg (k := 2) (d := (157, [(0, .ref 67), (1, .int x1), (3, .int x3), (4, .int x4), (7, .int (x7 + 1))], [], M3)) rfl ?_
        refine e_cut (ks := [0, 1, 3, 4, 7]) (L' := [(0, .ref 67), (1, .int x1), (3, .int x3), (4, .int x4), (7, .int (x7 + 1))]) hE rfl rfl rfl rfl rfl ?_
        exact h
    · replace h := h.2 hbr
      refine e_seg (k := 5) (d := (187, [(0, .ref 67), (1, .int x1), (3, .int x3), (4, .int x4), (7, .int x7)], [.int (x7 - 1), .ref 68, .int ((4 * x1) + x7), .ref 74], M)) rfl ?_
      refine e_bald (q := 188) hE rfl rfl rfl rfl h.1 ?_
      replace h := h.2
      refine e_seg (k := 1) (d := (192, [(0, .ref 67), (1, .int x1), (3, .int x3), (4, .int x4), (7, .int x7)], [.int (M.1 68 (x7 - 1).toNatClampNeg), .int ((4 * x1) + x7), .ref 74], M)) rfl ?_
      refine e_iast (q := 193) hE rfl rfl rfl rfl h.1 ?_
      replace h := h.2
      obtain ⟨M4, hM4⟩ : ∃ z : jM, z = jsi M 74 (((4 * x1) + x7).toNatClampNeg) (M.1 68 (x7 - 1).toNatClampNeg) := ⟨_, rfl⟩
      refine jEv_M hM4 ?_
      replace h := h M4 hM4
      refine e_seg (k := 9) (d := (207, [(0, .ref 67), (1, .int x1), (3, .int x3), (4, .int x4), (7, .int x7)], [.int x4, .int x7, .int ((4 * x1) + x7), .ref 75], M4)) rfl ?_
      refine e_ic_gt (t := 224) (q := 210) hE rfl rfl rfl rfl (fun hbr => ?_) (fun hbr => ?_)
      · replace h := h.1 hbr
        refine e_seg (k := 1) (d := (225, [(0, .ref 67), (1, .int x1), (3, .int x3), (4, .int x4), (7, .int x7)], [.int 0, .int ((4 * x1) + x7), .ref 75], M4)) rfl ?_
        refine e_iast (q := 226) hE rfl rfl rfl rfl h.1 ?_
        replace h := h.2
        obtain ⟨M5, hM5⟩ : ∃ z : jM, z = jsi M4 75 (((4 * x1) + x7).toNatClampNeg) 0 := ⟨_, rfl⟩
        refine jEv_M hM5 ?_
        replace h := h M5 hM5
        refine e_seg (k := 2) (d := (157, [(0, .ref 67), (1, .int x1), (3, .int x3), (4, .int x4), (7, .int (x7 + 1))], [], M5)) rfl ?_
        refine e_cut (ks := [0, 1, 3, 4, 7]) (L' := [(0, .ref 67), (1, .int x1), (3, .int x3), (4, .int x4), (7, .int (x7 + 1))]) hE rfl rfl rfl rfl rfl ?_
        exact h
      · replace h := h.2 hbr
        refine e_seg (k := 7) (d := (220, [(0, .ref 67), (1, .int x1), (3, .int x3), (4, .int x4), (7, .int x7)], [.int ((x3 + x7) - 1), .ref 68, .int ((4 * x1) + x7), .ref 75], M4)) rfl ?_
        refine e_bald (q := 221) hE rfl rfl rfl rfl h.1 ?_
        replace h := h.2
        refine e_seg (k := 1) (d := (225, [(0, .ref 67), (1, .int x1), (3, .int x3), (4, .int x4), (7, .int x7)], [.int (M4.1 68 ((x3 + x7) - 1).toNatClampNeg), .int ((4 * x1) + x7), .ref 75], M4)) rfl ?_
        refine e_iast (q := 226) hE rfl rfl rfl rfl h.1 ?_
        replace h := h.2
        obtain ⟨M6, hM6⟩ : ∃ z : jM, z = jsi M4 75 (((4 * x1) + x7).toNatClampNeg) (M4.1 68 ((x3 + x7) - 1).toNatClampNeg) := ⟨_, rfl⟩
        refine jEv_M hM6 ?_
        replace h := h M6 hM6
        refine e_seg (k := 2) (d := (157, [(0, .ref 67), (1, .int x1), (3, .int x3), (4, .int x4), (7, .int (x7 + 1))], [], M6)) rfl ?_
        refine e_cut (ks := [0, 1, 3, 4, 7]) (L' := [(0, .ref 67), (1, .int x1), (3, .int x3), (4, .int x4), (7, .int (x7 + 1))]) hE rfl rfl rfl rfl rfl ?_
        exact h
set_option maxRecDepth 100000 in
set_option maxHeartbeats 4000000 in
theorem v_X8_set_0 {K : jK} {M : jM} {x1 : Int64} {x3 : Int64} (h : (jEv nX8_common (0, [(0, .long x1), (2, .long x3)], [], M) (fun o1 M2 => ∃ r3 : Int64, o1 = some (some (.long r3)) ∧ ((0 ≤ x3 → (¬ r3 = 0 ∧ (∀ M4 : jM, M4 = jsl M2 67 3 (x1 / r3) → ((0 ≤ x3 → (¬ r3 = 0 ∧ (∀ M5 : jM, M5 = jsl M4 67 4 (x3 / r3) → K (some none) M5))) ∧ (¬ (0 ≤ x3) → (¬ r3 = 0 ∧ (∀ M6 : jM, M6 = jsl M4 67 4 ((-x3) / r3) → K (some none) M6))))))) ∧ (¬ (0 ≤ x3) → (¬ r3 = 0 ∧ (∀ M7 : jM, M7 = jsl M2 67 3 ((-x1) / r3) → ((0 ≤ x3 → (¬ r3 = 0 ∧ (∀ M8 : jM, M8 = jsl M7 67 4 (x3 / r3) → K (some none) M8))) ∧ (¬ (0 ≤ x3) → (¬ r3 = 0 ∧ (∀ M9 : jM, M9 = jsl M7 67 4 ((-x3) / r3) → K (some none) M9))))))))))) : jEv nX8_set (0, [(0, .ref 67), (1, .long x1), (3, .long x3)], [], M) K := by
  have hE : jMT nX8_set = some me_X8_set := rfl
  refine e_seg (k := 2) (d := (2, [(0, .ref 67), (1, .long x1), (3, .long x3)], [.long x3, .long x1], M)) rfl ?_
  refine e_call (q := 5) (L0 := [(0, .long x1), (2, .long x3)]) hE rfl rfl rfl rfl (jargs_S rfl rfl rfl rfl (Nat.le_of_ble_eq_true rfl) (Nat.le_of_ble_eq_true rfl) (Nat.le_of_ble_eq_true rfl)) rfl rfl (jEv.mono h (fun o1 M2 h => ?_))
  obtain ⟨r3, rfl, h⟩ := h
  refine ⟨_, rfl, ?_⟩
  show jEv nX8_set (5, [(0, .ref 67), (1, .long x1), (3, .long x3)], [.long r3], M2) K
  refine e_seg (k := 4) (d := (10, [(0, .ref 67), (1, .long x1), (3, .long x3), (5, .long r3)], [.long 0, .long x3, .ref 67], M2)) rfl ?_
  refine e_lc (t := 22) (q := 14) (pc1 := 11) hE rfl rfl rfl rfl rfl rfl (lc_ge x3 0) rfl rfl (fun hbr => ?_) (fun hbr => ?_)
  · replace h := h.1 hbr
    refine e_seg (k := 2) (d := (25, [(0, .ref 67), (1, .long x1), (3, .long x3), (5, .long r3)], [.long r3, .long x1, .ref 67], M2)) rfl ?_
    refine e_ldiv (q := 26) hE rfl rfl rfl h.1 ?_
    replace h := h.2
    refine e_put (q := 29) hE rfl rfl rfl rfl rfl rfl rfl ?_
    obtain ⟨M4, hM4⟩ : ∃ z : jM, z = jsl M2 67 3 (x1 / r3) := ⟨_, rfl⟩
    refine jEv_M hM4 ?_
    replace h := h M4 hM4
    refine e_seg (k := 3) (d := (32, [(0, .ref 67), (1, .long x1), (3, .long x3), (5, .long r3)], [.long 0, .long x3, .ref 67], M4)) rfl ?_
    refine e_lc (t := 44) (q := 36) (pc1 := 33) hE rfl rfl rfl rfl rfl rfl (lc_ge x3 0) rfl rfl (fun hbr => ?_) (fun hbr => ?_)
    · replace h := h.1 hbr
      refine e_seg (k := 2) (d := (47, [(0, .ref 67), (1, .long x1), (3, .long x3), (5, .long r3)], [.long r3, .long x3, .ref 67], M4)) rfl ?_
      refine e_ldiv (q := 48) hE rfl rfl rfl h.1 ?_
      replace h := h.2
      refine e_put (q := 51) hE rfl rfl rfl rfl rfl rfl rfl ?_
      obtain ⟨M5, hM5⟩ : ∃ z : jM, z = jsl M4 67 4 (x3 / r3) := ⟨_, rfl⟩
      refine jEv_M hM5 ?_
      replace h := h M5 hM5
      exact e_ret hE rfl rfl rfl h
    · replace h := h.2 hbr
      refine e_seg (k := 3) (d := (40, [(0, .ref 67), (1, .long x1), (3, .long x3), (5, .long r3)], [.long r3, .long (-x3), .ref 67], M4)) rfl ?_
      refine e_ldiv (q := 41) hE rfl rfl rfl h.1 ?_
      replace h := h.2
      refine e_seg (k := 1) (d := (48, [(0, .ref 67), (1, .long x1), (3, .long x3), (5, .long r3)], [.long ((-x3) / r3), .ref 67], M4)) rfl ?_
      refine e_put (q := 51) hE rfl rfl rfl rfl rfl rfl rfl ?_
      obtain ⟨M6, hM6⟩ : ∃ z : jM, z = jsl M4 67 4 ((-x3) / r3) := ⟨_, rfl⟩
      refine jEv_M hM6 ?_
      replace h := h M6 hM6
      exact e_ret hE rfl rfl rfl h
  · replace h := h.2 hbr
    refine e_seg (k := 3) (d := (18, [(0, .ref 67), (1, .long x1), (3, .long x3), (5, .long r3)], [.long r3, .long (-x1), .ref 67], M2)) rfl ?_
    refine e_ldiv (q := 19) hE rfl rfl rfl h.1 ?_
    replace h := h.2
    refine e_seg (k := 1) (d := (26, [(0, .ref 67), (1, .long x1), (3, .long x3), (5, .long r3)], [.long ((-x1) / r3), .ref 67], M2)) rfl ?_
    refine e_put (q := 29) hE rfl rfl rfl rfl rfl rfl rfl ?_
    obtain ⟨M7, hM7⟩ : ∃ z : jM, z = jsl M2 67 3 ((-x1) / r3) := ⟨_, rfl⟩
    refine jEv_M hM7 ?_
    replace h := h M7 hM7
    refine e_seg (k := 3) (d := (32, [(0, .ref 67), (1, .long x1), (3, .long x3), (5, .long r3)], [.long 0, .long x3, .ref 67], M7)) rfl ?_
    refine e_lc (t := 44) (q := 36) (pc1 := 33) hE rfl rfl rfl rfl rfl rfl (lc_ge x3 0) rfl rfl (fun hbr => ?_) (fun hbr => ?_)
    · replace h := h.1 hbr
      refine e_seg (k := 2) (d := (47, [(0, .ref 67), (1, .long x1), (3, .long x3), (5, .long r3)], [.long r3, .long x3, .ref 67], M7)) rfl ?_
      refine e_ldiv (q := 48) hE rfl rfl rfl h.1 ?_
      replace h := h.2
      refine e_put (q := 51) hE rfl rfl rfl rfl rfl rfl rfl ?_
      obtain ⟨M8, hM8⟩ : ∃ z : jM, z = jsl M7 67 4 (x3 / r3) := ⟨_, rfl⟩
      refine jEv_M hM8 ?_
      replace h := h M8 hM8
      exact e_ret hE rfl rfl rfl h
    · replace h := h.2 hbr
      refine e_seg (k := 3) (d := (40, [(0, .ref 67), (1, .long x1), (3, .long x3), (5, .long r3)], [.long r3, .long (-x3), .ref 67], M7)) rfl ?_
      refine e_ldiv (q := 41) hE rfl rfl rfl h.1 ?_
      replace h := h.2
      refine e_seg (k := 1) (d := (48, [(0, .ref 67), (1, .long x1), (3, .long x3), (5, .long r3)], [.long ((-x3) / r3), .ref 67], M7)) rfl ?_
      refine e_put (q := 51) hE rfl rfl rfl rfl rfl rfl rfl ?_
      obtain ⟨M9, hM9⟩ : ∃ z : jM, z = jsl M7 67 4 ((-x3) / r3) := ⟨_, rfl⟩
      refine jEv_M hM9 ?_
      replace h := h M9 hM9
      exact e_ret hE rfl rfl rfl h
set_option maxRecDepth 100000 in
set_option maxHeartbeats 4000000 in
theorem v_X8_thin_0 {K : jK} {M : jM} {x1 : Int32} {x2 : Int32} (h : (∀ M1 : jM, M1 = jsi M 67 0 0 → (jEv nX8_has (0, [(0, .ref 67), (1, .int x2)], [], M1) (fun o2 M3 => ∃ r4 : Int32, o2 = some (some (.int r4)) ∧ ((r4 = 0 → K (some (some (.int 0))) M3) ∧ (¬ r4 = 0 → (¬ (x2 < 0 ∨ 6 ≤ x2.toNatClampNeg) ∧ jEv nX8_thin (29, [(0, .ref 67), (1, .int x1), (2, .int x2), (3, .int (((M3.1 86 x2.toNatClampNeg) + 1) / 2)), (4, .int 0)], [], M3) K))))))) : jEv nX8_thin (0, [(0, .ref 67), (1, .int x1), (2, .int x2)], [], M) K := by
  have hE : jMT nX8_thin = some me_X8_thin := rfl
  refine e_seg (k := 2) (d := (2, [(0, .ref 67), (1, .int x1), (2, .int x2)], [.int 0, .ref 67], M)) rfl ?_
  refine e_put (q := 5) hE rfl rfl rfl rfl rfl rfl rfl ?_
  obtain ⟨M1, hM1⟩ : ∃ z : jM, z = jsi M 67 0 0 := ⟨_, rfl⟩
  refine jEv_M hM1 ?_
  replace h := h M1 hM1
  refine e_seg (k := 2) (d := (7, [(0, .ref 67), (1, .int x1), (2, .int x2)], [.int x2, .ref 67], M1)) rfl ?_
  refine e_call (q := 10) (L0 := [(0, .ref 67), (1, .int x2)]) hE rfl rfl rfl rfl (jargs_V rfl rfl rfl rfl rfl (Nat.le_of_ble_eq_true rfl) (Nat.le_of_ble_eq_true rfl) (Nat.le_of_ble_eq_true rfl)) rfl rfl (jEv.mono h (fun o2 M3 h => ?_))
  obtain ⟨r4, rfl, h⟩ := h
  refine ⟨_, rfl, ?_⟩
  show jEv nX8_thin (10, [(0, .ref 67), (1, .int x1), (2, .int x2)], [.int r4], M3) K
  refine e_if_ne (t := 15) (q := 13) hE rfl rfl rfl rfl (fun hbr => ?_) (fun hbr => ?_)
  · replace h := h.2 hbr
    refine e_seg (k := 3) (d := (20, [(0, .ref 67), (1, .int x1), (2, .int x2)], [.int x2, .ref 86], M3)) rfl ?_
    refine e_iald (q := 21) hE rfl rfl rfl rfl h.1 ?_
    replace h := h.2
    refine e_seg (k := 3) (d := (24, [(0, .ref 67), (1, .int x1), (2, .int x2)], [.int 2, .int ((M3.1 86 x2.toNatClampNeg) + 1)], M3)) rfl ?_
    refine e_idiv (q := 25) hE rfl rfl rfl (by decide) ?_
    refine e_seg (k := 3) (d := (29, [(0, .ref 67), (1, .int x1), (2, .int x2), (3, .int (((M3.1 86 x2.toNatClampNeg) + 1) / 2)), (4, .int 0)], [], M3)) rfl ?_
    refine e_cut (ks := [0, 1, 2, 3, 4]) (L' := [(0, .ref 67), (1, .int x1), (2, .int x2), (3, .int (((M3.1 86 x2.toNatClampNeg) + 1) / 2)), (4, .int 0)]) hE rfl rfl rfl rfl rfl ?_
    exact h
  · replace h := h.1 hbr
    refine e_seg (k := 1) (d := (14, [(0, .ref 67), (1, .int x1), (2, .int x2)], [.int 0], M3)) rfl ?_
    exact e_ret hE rfl rfl (jb_z rfl (by decide)) h
set_option maxRecDepth 100000 in
set_option maxHeartbeats 4000000 in
theorem v_X8_thin_29 {K : jK} {M : jM} {x1 : Int32} {x2 : Int32} {x3 : Int32} {x4 : Int32} (h : ((x3 ≤ x4 → (jEv nX8_puts (0, [(0, .ref 67), (1, .int x1), (2, .int x3)], [], M) (fun o1 M2 => ∃ r3 : Int32, o1 = some (some (.int r3)) ∧ ((r3 = 0 ∨ r3 = 1) ∧ K (some (some (.int r3))) M2)))) ∧ (¬ x3 ≤ x4 → (¬ ((5 * x2) + (2 * x4) < 0 ∨ 30 ≤ ((5 * x2) + (2 * x4)).toNatClampNeg) ∧ (¬ (x4 < 0 ∨ 5 ≤ x4.toNatClampNeg) ∧ (∀ M4 : jM, M4 = jsi M 87 x4.toNatClampNeg (M.1 85 ((5 * x2) + (2 * x4)).toNatClampNeg) → jEv nX8_thin (29, [(0, .ref 67), (1, .int x1), (2, .int x2), (3, .int x3), (4, .int (x4 + 1))], [], M4) K)))))) : jEv nX8_thin (29, [(0, .ref 67), (1, .int x1), (2, .int x2), (3, .int x3), (4, .int x4)], [], M) K := by
  have hE : jMT nX8_thin = some me_X8_thin := rfl
  refine e_seg (k := 2) (d := (32, [(0, .ref 67), (1, .int x1), (2, .int x2), (3, .int x3), (4, .int x4)], [.int x3, .int x4], M)) rfl ?_
  refine e_ic_ge (t := 61) (q := 35) hE rfl rfl rfl rfl (fun hbr => ?_) (fun hbr => ?_)
  · replace h := h.1 hbr
    refine e_seg (k := 3) (d := (64, [(0, .ref 67), (1, .int x1), (2, .int x2), (3, .int x3), (4, .int x4)], [.int x3, .int x1, .ref 67], M)) rfl ?_
    refine e_call (q := 67) (L0 := [(0, .ref 67), (1, .int x1), (2, .int x3)]) hE rfl rfl rfl rfl (jargs_V rfl rfl rfl rfl rfl (Nat.le_of_ble_eq_true rfl) (Nat.le_of_ble_eq_true rfl) (Nat.le_of_ble_eq_true rfl)) rfl rfl (jEv.mono h (fun o1 M2 h => ?_))
    obtain ⟨r3, rfl, h⟩ := h
    refine ⟨_, rfl, ?_⟩
    show jEv nX8_thin (67, [(0, .ref 67), (1, .int x1), (2, .int x2), (3, .int x3), (4, .int x4)], [.int r3], M2) K
    exact e_ret hE rfl rfl (jb_z rfl h.1) h.2
  · replace h := h.2 hbr
    refine e_seg (k := 12) (d := (53, [(0, .ref 67), (1, .int x1), (2, .int x2), (3, .int x3), (4, .int x4)], [.int ((5 * x2) + (2 * x4)), .ref 85, .int x4, .ref 87], M)) rfl ?_
    refine e_iald (q := 54) hE rfl rfl rfl rfl h.1 ?_
    replace h := h.2
    refine e_iast (q := 55) hE rfl rfl rfl rfl h.1 ?_
    replace h := h.2
    obtain ⟨M4, hM4⟩ : ∃ z : jM, z = jsi M 87 x4.toNatClampNeg (M.1 85 ((5 * x2) + (2 * x4)).toNatClampNeg) := ⟨_, rfl⟩
    refine jEv_M hM4 ?_
    replace h := h M4 hM4
    refine e_seg (k := 2) (d := (29, [(0, .ref 67), (1, .int x1), (2, .int x2), (3, .int x3), (4, .int (x4 + 1))], [], M4)) rfl ?_
    refine e_cut (ks := [0, 1, 2, 3, 4]) (L' := [(0, .ref 67), (1, .int x1), (2, .int x2), (3, .int x3), (4, .int (x4 + 1))]) hE rfl rfl rfl rfl rfl ?_
    exact h
set_option maxRecDepth 100000 in
set_option maxHeartbeats 4000000 in
theorem v_X8_amiss_0 {K : jK} {M : jM} {x1 : Int32} (h : (∀ M1 : jM, M1 = jsi M 67 0 0 → (jEv nX8_isBare (0, [(0, .ref 67), (1, .int x1)], [], M1) (fun o2 M3 => ∃ r4 : Int32, o2 = some (some (.int r4)) ∧ ((r4 = 0 → K (some (some (.int (-1)))) M3) ∧ (¬ r4 = 0 → (jEv nX8_gaps (0, [(0, .ref 67)], [], M3) (fun o5 M6 => ∃ r7 : Int32, o5 = some (some (.int r7)) ∧ ((0 < r7 → K (some (some (.int (-1)))) M6) ∧ (¬ 0 < r7 → (¬ (x1 < 0 ∨ 6 ≤ x1.toNatClampNeg) ∧ (((M6.1 71 x1.toNatClampNeg) < (M6.1 67 27) → jEv nX8_amiss (45, [(0, .ref 67), (1, .int x1), (2, .int 0), (3, .long 0), (5, .long 1), (7, .int 0)], [], M6) K) ∧ (¬ (M6.1 71 x1.toNatClampNeg) < (M6.1 67 27) → K (some (some (.int (-1)))) M6))))))))))))) : jEv nX8_amiss (0, [(0, .ref 67), (1, .int x1)], [], M) K := by
  have hE : jMT nX8_amiss = some me_X8_amiss := rfl
  refine e_seg (k := 2) (d := (2, [(0, .ref 67), (1, .int x1)], [.int 0, .ref 67], M)) rfl ?_
  refine e_put (q := 5) hE rfl rfl rfl rfl rfl rfl rfl ?_
  obtain ⟨M1, hM1⟩ : ∃ z : jM, z = jsi M 67 0 0 := ⟨_, rfl⟩
  refine jEv_M hM1 ?_
  replace h := h M1 hM1
  refine e_seg (k := 2) (d := (7, [(0, .ref 67), (1, .int x1)], [.int x1, .ref 67], M1)) rfl ?_
  refine e_call (q := 10) (L0 := [(0, .ref 67), (1, .int x1)]) hE rfl rfl rfl rfl (jargs_V rfl rfl rfl rfl rfl (Nat.le_of_ble_eq_true rfl) (Nat.le_of_ble_eq_true rfl) (Nat.le_of_ble_eq_true rfl)) rfl rfl (jEv.mono h (fun o2 M3 h => ?_))
  obtain ⟨r4, rfl, h⟩ := h
  refine ⟨_, rfl, ?_⟩
  show jEv nX8_amiss (10, [(0, .ref 67), (1, .int x1)], [.int r4], M3) K
  refine e_if_eq (t := 33) (q := 13) hE rfl rfl rfl rfl (fun hbr => ?_) (fun hbr => ?_)
  · replace h := h.1 hbr
    refine e_seg (k := 1) (d := (34, [(0, .ref 67), (1, .int x1)], [.int (-1)], M3)) rfl ?_
    exact e_ret hE rfl rfl (jb_i rfl) h
  · replace h := h.2 hbr
    refine e_seg (k := 1) (d := (14, [(0, .ref 67), (1, .int x1)], [.ref 67], M3)) rfl ?_
    refine e_call (q := 17) (L0 := [(0, .ref 67)]) hE rfl rfl rfl rfl (jargs_V rfl rfl rfl rfl rfl (Nat.le_of_ble_eq_true rfl) (Nat.le_of_ble_eq_true rfl) (Nat.le_of_ble_eq_true rfl)) rfl rfl (jEv.mono h (fun o5 M6 h => ?_))
    obtain ⟨r7, rfl, h⟩ := h
    refine ⟨_, rfl, ?_⟩
    show jEv nX8_amiss (17, [(0, .ref 67), (1, .int x1)], [.int r7], M6) K
    refine e_if_gt (t := 33) (q := 20) hE rfl rfl rfl rfl (fun hbr => ?_) (fun hbr => ?_)
    · replace h := h.1 hbr
      refine e_seg (k := 1) (d := (34, [(0, .ref 67), (1, .int x1)], [.int (-1)], M6)) rfl ?_
      exact e_ret hE rfl rfl (jb_i rfl) h
    · replace h := h.2 hbr
      refine e_seg (k := 5) (d := (29, [(0, .ref 67), (1, .int x1)], [.int x1, .ref 71, .int (M6.1 67 27)], M6)) rfl ?_
      refine e_iald (q := 30) hE rfl rfl rfl rfl h.1 ?_
      replace h := h.2
      refine e_ic_gt (t := 35) (q := 33) hE rfl rfl rfl rfl (fun hbr => ?_) (fun hbr => ?_)
      · replace h := h.1 hbr
        refine e_seg (k := 8) (d := (45, [(0, .ref 67), (1, .int x1), (2, .int 0), (3, .long 0), (5, .long 1), (7, .int 0)], [], M6)) rfl ?_
        refine e_cut (ks := [0, 1, 2, 3, 5, 7]) (L' := [(0, .ref 67), (1, .int x1), (2, .int 0), (3, .long 0), (5, .long 1), (7, .int 0)]) hE rfl rfl rfl rfl rfl ?_
        exact h
      · replace h := h.2 hbr
        refine e_seg (k := 1) (d := (34, [(0, .ref 67), (1, .int x1)], [.int (-1)], M6)) rfl ?_
        exact e_ret hE rfl rfl (jb_i rfl) h
set_option maxRecDepth 100000 in
set_option maxHeartbeats 4000000 in
theorem v_X8_amiss_45 {K : jK} {M : jM} {x1 : Int32} {x2 : Int32} {x3 : Int64} {x5 : Int64} {x7 : Int32} (h : (((M.1 67 27) ≤ x7 → (∀ M1 : jM, M1 = jsi M 67 36 1 → (∀ M2 : jM, M2 = jsl M1 67 37 x3 → (∀ M3 : jM, M3 = jsl M2 67 38 x5 → K (some (some (.int x2))) M3)))) ∧ (¬ (M.1 67 27) ≤ x7 → (¬ (x1 < 0 ∨ 6 ≤ x1.toNatClampNeg) ∧ jEv nX8_amiss (68, [(0, .ref 67), (1, .int x1), (2, .int x2), (3, .long x3), (5, .long x5), (7, .int x7), (8, .long 0), (10, .long 0), (12, .int (M.1 71 x1.toNatClampNeg))], [], M) K)))) : jEv nX8_amiss (45, [(0, .ref 67), (1, .int x1), (2, .int x2), (3, .long x3), (5, .long x5), (7, .int x7)], [], M) K := by
  have hE : jMT nX8_amiss = some me_X8_amiss := rfl
  refine e_seg (k := 3) (d := (51, [(0, .ref 67), (1, .int x1), (2, .int x2), (3, .long x3), (5, .long x5), (7, .int x7)], [.int (M.1 67 27), .int x7], M)) rfl ?_
  refine e_ic_ge (t := 206) (q := 54) hE rfl rfl rfl rfl (fun hbr => ?_) (fun hbr => ?_)
  · replace h := h.1 hbr
    refine e_seg (k := 2) (d := (208, [(0, .ref 67), (1, .int x1), (2, .int x2), (3, .long x3), (5, .long x5), (7, .int x7)], [.int 1, .ref 67], M)) rfl ?_
    refine e_put (q := 211) hE rfl rfl rfl rfl rfl rfl rfl ?_
    obtain ⟨M1, hM1⟩ : ∃ z : jM, z = jsi M 67 36 1 := ⟨_, rfl⟩
    refine jEv_M hM1 ?_
    replace h := h M1 hM1
    refine e_seg (k := 2) (d := (213, [(0, .ref 67), (1, .int x1), (2, .int x2), (3, .long x3), (5, .long x5), (7, .int x7)], [.long x3, .ref 67], M1)) rfl ?_
    refine e_put (q := 216) hE rfl rfl rfl rfl rfl rfl rfl ?_
    obtain ⟨M2, hM2⟩ : ∃ z : jM, z = jsl M1 67 37 x3 := ⟨_, rfl⟩
    refine jEv_M hM2 ?_
    replace h := h M2 hM2
    refine e_seg (k := 2) (d := (219, [(0, .ref 67), (1, .int x1), (2, .int x2), (3, .long x3), (5, .long x5), (7, .int x7)], [.long x5, .ref 67], M2)) rfl ?_
    refine e_put (q := 222) hE rfl rfl rfl rfl rfl rfl rfl ?_
    obtain ⟨M3, hM3⟩ : ∃ z : jM, z = jsl M2 67 38 x5 := ⟨_, rfl⟩
    refine jEv_M hM3 ?_
    replace h := h M3 hM3
    refine e_seg (k := 1) (d := (223, [(0, .ref 67), (1, .int x1), (2, .int x2), (3, .long x3), (5, .long x5), (7, .int x7)], [.int x2], M3)) rfl ?_
    exact e_ret hE rfl rfl (jb_i rfl) h
  · replace h := h.2 hbr
    refine e_seg (k := 7) (d := (65, [(0, .ref 67), (1, .int x1), (2, .int x2), (3, .long x3), (5, .long x5), (7, .int x7), (8, .long 0), (10, .long 0)], [.int x1, .ref 71], M)) rfl ?_
    refine e_iald (q := 66) hE rfl rfl rfl rfl h.1 ?_
    replace h := h.2
    refine e_seg (k := 1) (d := (68, [(0, .ref 67), (1, .int x1), (2, .int x2), (3, .long x3), (5, .long x5), (7, .int x7), (8, .long 0), (10, .long 0), (12, .int (M.1 71 x1.toNatClampNeg))], [], M)) rfl ?_
    refine e_cut (ks := [0, 1, 2, 3, 5, 7, 8, 10, 12]) (L' := [(0, .ref 67), (1, .int x1), (2, .int x2), (3, .long x3), (5, .long x5), (7, .int x7), (8, .long 0), (10, .long 0), (12, .int (M.1 71 x1.toNatClampNeg))]) hE rfl rfl rfl rfl rfl ?_
    exact h
set_option maxRecDepth 100000 in
set_option maxHeartbeats 4000000 in
theorem v_X8_amiss_68 {K : jK} {M : jM} {x1 : Int32} {x2 : Int32} {x3 : Int64} {x5 : Int64} {x7 : Int32} {x8 : Int64} {x10 : Int64} {x12 : Int32} (h : (((M.1 67 27) ≤ x12 → ((x10 = 0 → jEv nX8_amiss (45, [(0, .ref 67), (1, .int x1), (2, .int x2), (3, .long x3), (5, .long x5), (7, .int (x7 + 1))], [], M) K) ∧ (¬ x10 = 0 → (¬ (x1 < 0 ∨ 6 ≤ x1.toNatClampNeg) ∧ (¬ (x1 < 0 ∨ 6 ≤ x1.toNatClampNeg) ∧ (jEv nX8_set (0, [(0, .ref 67), (1, .long (x8 * x8)), (3, .long ((x10 * ((M.1 70 x1.toNatClampNeg).toInt64)) * ((M.1 70 x1.toNatClampNeg).toInt64)))], [], M) (fun o1 M2 => o1 = some none ∧ (((x3 * (M2.2 67 4)) < ((M2.2 67 3) * x5) → jEv nX8_amiss (45, [(0, .ref 67), (1, .int x1), (2, .int x7), (3, .long (M2.2 67 3)), (5, .long (M2.2 67 4)), (7, .int (x7 + 1))], [], M2) K) ∧ (¬ ((x3 * (M2.2 67 4)) < ((M2.2 67 3) * x5)) → jEv nX8_amiss (45, [(0, .ref 67), (1, .int x1), (2, .int x2), (3, .long x3), (5, .long x5), (7, .int (x7 + 1))], [], M2) K))))))))) ∧ (¬ (M.1 67 27) ≤ x12 → (jEv nX8_part (0, [(0, .ref 67), (1, .int x1), (2, .int x12), (3, .int x7)], [], M) (fun o3 M4 => ∃ r5 : Int64, o3 = some (some (.long r5)) ∧ (jEv nX8_missOf (0, [(0, .ref 67), (1, .int x1), (2, .int x12)], [], M4) (fun o6 M7 => ∃ r8 : Int64, o6 = some (some (.long r8)) ∧ (jEv nX8_part (0, [(0, .ref 67), (1, .int x1), (2, .int x12), (3, .int x7)], [], M7) (fun o9 M10 => ∃ r11 : Int64, o9 = some (some (.long r11)) ∧ (jEv nX8_part (0, [(0, .ref 67), (1, .int x1), (2, .int x12), (3, .int x7)], [], M10) (fun o12 M13 => ∃ r14 : Int64, o12 = some (some (.long r14)) ∧ jEv nX8_amiss (68, [(0, .ref 67), (1, .int x1), (2, .int x2), (3, .long x3), (5, .long x5), (7, .int x7), (8, .long (x8 + (r5 * r8))), (10, .long (x10 + (r11 * r14))), (12, .int (x12 + 1))], [], M13) K))))))))))) : jEv nX8_amiss (68, [(0, .ref 67), (1, .int x1), (2, .int x2), (3, .long x3), (5, .long x5), (7, .int x7), (8, .long x8), (10, .long x10), (12, .int x12)], [], M) K := by
  have hE : jMT nX8_amiss = some me_X8_amiss := rfl
  refine e_seg (k := 3) (d := (74, [(0, .ref 67), (1, .int x1), (2, .int x2), (3, .long x3), (5, .long x5), (7, .int x7), (8, .long x8), (10, .long x10), (12, .int x12)], [.int (M.1 67 27), .int x12], M)) rfl ?_
  refine e_ic_ge (t := 129) (q := 77) hE rfl rfl rfl rfl (fun hbr => ?_) (fun hbr => ?_)
  · replace h := h.1 hbr
    refine e_seg (k := 2) (d := (132, [(0, .ref 67), (1, .int x1), (2, .int x2), (3, .long x3), (5, .long x5), (7, .int x7), (8, .long x8), (10, .long x10), (12, .int x12)], [.long 0, .long x10], M)) rfl ?_
    refine e_lc (t := 139) (q := 136) (pc1 := 133) hE rfl rfl rfl rfl rfl rfl (lc_ne x10 0) rfl rfl (fun hbr => ?_) (fun hbr => ?_)
    · replace h := h.2 hbr
      refine e_seg (k := 8) (d := (152, [(0, .ref 67), (1, .int x1), (2, .int x2), (3, .long x3), (5, .long x5), (7, .int x7), (8, .long x8), (10, .long x10), (12, .int x12)], [.int x1, .ref 70, .long x10, .long (x8 * x8), .ref 67], M)) rfl ?_
      refine e_iald (q := 153) hE rfl rfl rfl rfl h.1 ?_
      replace h := h.2
      refine e_seg (k := 5) (d := (160, [(0, .ref 67), (1, .int x1), (2, .int x2), (3, .long x3), (5, .long x5), (7, .int x7), (8, .long x8), (10, .long x10), (12, .int x12)], [.int x1, .ref 70, .long (x10 * ((M.1 70 x1.toNatClampNeg).toInt64)), .long (x8 * x8), .ref 67], M)) rfl ?_
      refine e_iald (q := 161) hE rfl rfl rfl rfl h.1 ?_
      replace h := h.2
      refine e_seg (k := 2) (d := (163, [(0, .ref 67), (1, .int x1), (2, .int x2), (3, .long x3), (5, .long x5), (7, .int x7), (8, .long x8), (10, .long x10), (12, .int x12)], [.long ((x10 * ((M.1 70 x1.toNatClampNeg).toInt64)) * ((M.1 70 x1.toNatClampNeg).toInt64)), .long (x8 * x8), .ref 67], M)) rfl ?_
      refine e_call (q := 166) (L0 := [(0, .ref 67), (1, .long (x8 * x8)), (3, .long ((x10 * ((M.1 70 x1.toNatClampNeg).toInt64)) * ((M.1 70 x1.toNatClampNeg).toInt64)))]) hE rfl rfl rfl rfl (jargs_V rfl rfl rfl rfl rfl (Nat.le_of_ble_eq_true rfl) (Nat.le_of_ble_eq_true rfl) (Nat.le_of_ble_eq_true rfl)) rfl rfl (jEv.mono h (fun o1 M2 h => ?_))
      obtain ⟨rfl, h⟩ := h
      refine ⟨_, rfl, ?_⟩
      show jEv nX8_amiss (166, [(0, .ref 67), (1, .int x1), (2, .int x2), (3, .long x3), (5, .long x5), (7, .int x7), (8, .long x8), (10, .long x10), (12, .int x12)], [], M2) K
      refine e_seg (k := 8) (d := (179, [(0, .ref 67), (1, .int x1), (2, .int x2), (3, .long x3), (5, .long x5), (7, .int x7), (8, .long x8), (10, .long x10), (12, .int x12)], [.long (x3 * (M2.2 67 4)), .long ((M2.2 67 3) * x5)], M2)) rfl ?_
      refine e_lc (t := 186) (q := 183) (pc1 := 180) hE rfl rfl rfl rfl rfl rfl (lc_gt ((M2.2 67 3) * x5) (x3 * (M2.2 67 4))) rfl rfl (fun hbr => ?_) (fun hbr => ?_)
      · replace h := h.1 hbr
        refine e_seg (k := 10) (d := (45, [(0, .ref 67), (1, .int x1), (2, .int x7), (3, .long (M2.2 67 3)), (5, .long (M2.2 67 4)), (7, .int (x7 + 1)), (8, .long x8), (10, .long x10), (12, .int x12)], [], M2)) rfl ?_
        refine e_cut (ks := [0, 1, 2, 3, 5, 7]) (L' := [(0, .ref 67), (1, .int x1), (2, .int x7), (3, .long (M2.2 67 3)), (5, .long (M2.2 67 4)), (7, .int (x7 + 1))]) hE rfl rfl rfl rfl rfl ?_
        exact h
      · replace h := h.2 hbr
        refine e_seg (k := 3) (d := (45, [(0, .ref 67), (1, .int x1), (2, .int x2), (3, .long x3), (5, .long x5), (7, .int (x7 + 1)), (8, .long x8), (10, .long x10), (12, .int x12)], [], M2)) rfl ?_
        refine e_cut (ks := [0, 1, 2, 3, 5, 7]) (L' := [(0, .ref 67), (1, .int x1), (2, .int x2), (3, .long x3), (5, .long x5), (7, .int (x7 + 1))]) hE rfl rfl rfl rfl rfl ?_
        exact h
    · replace h := h.1 (Classical.byContradiction hbr)
      refine e_seg (k := 3) (d := (45, [(0, .ref 67), (1, .int x1), (2, .int x2), (3, .long x3), (5, .long x5), (7, .int (x7 + 1)), (8, .long x8), (10, .long x10), (12, .int x12)], [], M)) rfl ?_
      refine e_cut (ks := [0, 1, 2, 3, 5, 7]) (L' := [(0, .ref 67), (1, .int x1), (2, .int x2), (3, .long x3), (5, .long x5), (7, .int (x7 + 1))]) hE rfl rfl rfl rfl rfl ?_
      exact h
  · replace h := h.2 hbr
    refine e_seg (k := 5) (d := (85, [(0, .ref 67), (1, .int x1), (2, .int x2), (3, .long x3), (5, .long x5), (7, .int x7), (8, .long x8), (10, .long x10), (12, .int x12)], [.int x7, .int x12, .int x1, .ref 67, .long x8], M)) rfl ?_
    refine e_call (q := 88) (L0 := [(0, .ref 67), (1, .int x1), (2, .int x12), (3, .int x7)]) hE rfl rfl rfl rfl (jargs_V rfl rfl rfl rfl rfl (Nat.le_of_ble_eq_true rfl) (Nat.le_of_ble_eq_true rfl) (Nat.le_of_ble_eq_true rfl)) rfl rfl (jEv.mono h (fun o3 M4 h => ?_))
    obtain ⟨r5, rfl, h⟩ := h
    refine ⟨_, rfl, ?_⟩
    show jEv nX8_amiss (88, [(0, .ref 67), (1, .int x1), (2, .int x2), (3, .long x3), (5, .long x5), (7, .int x7), (8, .long x8), (10, .long x10), (12, .int x12)], [.long r5, .long x8], M4) K
    refine e_seg (k := 3) (d := (92, [(0, .ref 67), (1, .int x1), (2, .int x2), (3, .long x3), (5, .long x5), (7, .int x7), (8, .long x8), (10, .long x10), (12, .int x12)], [.int x12, .int x1, .ref 67, .long r5, .long x8], M4)) rfl ?_
    refine e_call (q := 95) (L0 := [(0, .ref 67), (1, .int x1), (2, .int x12)]) hE rfl rfl rfl rfl (jargs_V rfl rfl rfl rfl rfl (Nat.le_of_ble_eq_true rfl) (Nat.le_of_ble_eq_true rfl) (Nat.le_of_ble_eq_true rfl)) rfl rfl (jEv.mono h (fun o6 M7 h => ?_))
    obtain ⟨r8, rfl, h⟩ := h
    refine ⟨_, rfl, ?_⟩
    show jEv nX8_amiss (95, [(0, .ref 67), (1, .int x1), (2, .int x2), (3, .long x3), (5, .long x5), (7, .int x7), (8, .long x8), (10, .long x10), (12, .int x12)], [.long r8, .long r5, .long x8], M7) K
    refine e_seg (k := 8) (d := (107, [(0, .ref 67), (1, .int x1), (2, .int x2), (3, .long x3), (5, .long x5), (7, .int x7), (8, .long (x8 + (r5 * r8))), (10, .long x10), (12, .int x12)], [.int x7, .int x12, .int x1, .ref 67, .long x10], M7)) rfl ?_
    refine e_call (q := 110) (L0 := [(0, .ref 67), (1, .int x1), (2, .int x12), (3, .int x7)]) hE rfl rfl rfl rfl (jargs_V rfl rfl rfl rfl rfl (Nat.le_of_ble_eq_true rfl) (Nat.le_of_ble_eq_true rfl) (Nat.le_of_ble_eq_true rfl)) rfl rfl (jEv.mono h (fun o9 M10 h => ?_))
    obtain ⟨r11, rfl, h⟩ := h
    refine ⟨_, rfl, ?_⟩
    show jEv nX8_amiss (110, [(0, .ref 67), (1, .int x1), (2, .int x2), (3, .long x3), (5, .long x5), (7, .int x7), (8, .long (x8 + (r5 * r8))), (10, .long x10), (12, .int x12)], [.long r11, .long x10], M10) K
    refine e_seg (k := 4) (d := (116, [(0, .ref 67), (1, .int x1), (2, .int x2), (3, .long x3), (5, .long x5), (7, .int x7), (8, .long (x8 + (r5 * r8))), (10, .long x10), (12, .int x12)], [.int x7, .int x12, .int x1, .ref 67, .long r11, .long x10], M10)) rfl ?_
    refine e_call (q := 119) (L0 := [(0, .ref 67), (1, .int x1), (2, .int x12), (3, .int x7)]) hE rfl rfl rfl rfl (jargs_V rfl rfl rfl rfl rfl (Nat.le_of_ble_eq_true rfl) (Nat.le_of_ble_eq_true rfl) (Nat.le_of_ble_eq_true rfl)) rfl rfl (jEv.mono h (fun o12 M13 h => ?_))
    obtain ⟨r14, rfl, h⟩ := h
    refine ⟨_, rfl, ?_⟩
    show jEv nX8_amiss (119, [(0, .ref 67), (1, .int x1), (2, .int x2), (3, .long x3), (5, .long x5), (7, .int x7), (8, .long (x8 + (r5 * r8))), (10, .long x10), (12, .int x12)], [.long r14, .long r11, .long x10], M13) K
    refine e_seg (k := 5) (d := (68, [(0, .ref 67), (1, .int x1), (2, .int x2), (3, .long x3), (5, .long x5), (7, .int x7), (8, .long (x8 + (r5 * r8))), (10, .long (x10 + (r11 * r14))), (12, .int (x12 + 1))], [], M13)) rfl ?_
    refine e_cut (ks := [0, 1, 2, 3, 5, 7, 8, 10, 12]) (L' := [(0, .ref 67), (1, .int x1), (2, .int x2), (3, .long x3), (5, .long x5), (7, .int x7), (8, .long (x8 + (r5 * r8))), (10, .long (x10 + (r11 * r14))), (12, .int (x12 + 1))]) hE rfl rfl rfl rfl rfl ?_
    exact h
set_option maxRecDepth 100000 in
set_option maxHeartbeats 4000000 in
theorem v_X8_clear_0 {K : jK} {M : jM} {x1 : Int32} (h : (∀ M1 : jM, M1 = jsi M 67 0 0 → (jEv nX8_hasRule (0, [(0, .ref 67), (1, .int x1)], [], M1) (fun o2 M3 => ∃ r4 : Int32, o2 = some (some (.int r4)) ∧ ((r4 = 0 → K (some (some (.int (-1)))) M3) ∧ (¬ r4 = 0 → (¬ (x1 < 0 ∨ 6 ≤ x1.toNatClampNeg) ∧ (∀ M5 : jM, M5 = jsl M3 76 0 ((M3.1 70 x1.toNatClampNeg).toInt64) → jEv nX8_clear (30, [(0, .ref 67), (1, .int x1), (2, .int 1)], [], M5) K)))))))) : jEv nX8_clear (0, [(0, .ref 67), (1, .int x1)], [], M) K := by
  have hE : jMT nX8_clear = some me_X8_clear := rfl
  refine e_seg (k := 2) (d := (2, [(0, .ref 67), (1, .int x1)], [.int 0, .ref 67], M)) rfl ?_
  refine e_put (q := 5) hE rfl rfl rfl rfl rfl rfl rfl ?_
  obtain ⟨M1, hM1⟩ : ∃ z : jM, z = jsi M 67 0 0 := ⟨_, rfl⟩
  refine jEv_M hM1 ?_
  replace h := h M1 hM1
  refine e_seg (k := 2) (d := (7, [(0, .ref 67), (1, .int x1)], [.int x1, .ref 67], M1)) rfl ?_
  refine e_call (q := 10) (L0 := [(0, .ref 67), (1, .int x1)]) hE rfl rfl rfl rfl (jargs_V rfl rfl rfl rfl rfl (Nat.le_of_ble_eq_true rfl) (Nat.le_of_ble_eq_true rfl) (Nat.le_of_ble_eq_true rfl)) rfl rfl (jEv.mono h (fun o2 M3 h => ?_))
  obtain ⟨r4, rfl, h⟩ := h
  refine ⟨_, rfl, ?_⟩
  show jEv nX8_clear (10, [(0, .ref 67), (1, .int x1)], [.int r4], M3) K
  refine e_if_ne (t := 15) (q := 13) hE rfl rfl rfl rfl (fun hbr => ?_) (fun hbr => ?_)
  · replace h := h.2 hbr
    refine e_seg (k := 6) (d := (25, [(0, .ref 67), (1, .int x1)], [.int x1, .ref 70, .int 0, .ref 76], M3)) rfl ?_
    refine e_iald (q := 26) hE rfl rfl rfl rfl h.1 ?_
    replace h := h.2
    refine e_seg (k := 1) (d := (27, [(0, .ref 67), (1, .int x1)], [.long ((M3.1 70 x1.toNatClampNeg).toInt64), .int 0, .ref 76], M3)) rfl ?_
    refine e_last (q := 28) hE rfl rfl rfl rfl (by decide) ?_
    obtain ⟨M5, hM5⟩ : ∃ z : jM, z = jsl M3 76 0 ((M3.1 70 x1.toNatClampNeg).toInt64) := ⟨_, rfl⟩
    refine jEv_M hM5 ?_
    replace h := h M5 hM5
    refine e_seg (k := 2) (d := (30, [(0, .ref 67), (1, .int x1), (2, .int 1)], [], M5)) rfl ?_
    refine e_cut (ks := [0, 1, 2]) (L' := [(0, .ref 67), (1, .int x1), (2, .int 1)]) hE rfl rfl rfl rfl rfl ?_
    exact h
  · replace h := h.1 hbr
    refine e_seg (k := 1) (d := (14, [(0, .ref 67), (1, .int x1)], [.int (-1)], M3)) rfl ?_
    exact e_ret hE rfl rfl (jb_i rfl) h
set_option maxRecDepth 100000 in
set_option maxHeartbeats 4000000 in
theorem v_X8_clear_30 {K : jK} {M : jM} {x1 : Int32} {x2 : Int32} (h : ((4 ≤ x2 → (jEv nX8_isFree (0, [(0, .ref 67)], [], M) (fun o1 M2 => ∃ r3 : Int32, o1 = some (some (.int r3)) ∧ ((r3 = 0 → K (some (some (.int 0))) M2) ∧ (¬ r3 = 0 → K (some (some (.int 1))) M2))))) ∧ (¬ 4 ≤ x2 → (¬ ((4 * x1) + x2 < 0 ∨ 24 ≤ ((4 * x1) + x2).toNatClampNeg) ∧ (¬ (x2 < 0 ∨ 4 ≤ x2.toNatClampNeg) ∧ (∀ M4 : jM, M4 = jsl M 76 x2.toNatClampNeg ((M.1 75 ((4 * x1) + x2).toNatClampNeg).toInt64) → jEv nX8_clear (30, [(0, .ref 67), (1, .int x1), (2, .int (x2 + 1))], [], M4) K)))))) : jEv nX8_clear (30, [(0, .ref 67), (1, .int x1), (2, .int x2)], [], M) K := by
  have hE : jMT nX8_clear = some me_X8_clear := rfl
  refine e_seg (k := 2) (d := (32, [(0, .ref 67), (1, .int x1), (2, .int x2)], [.int 4, .int x2], M)) rfl ?_
  refine e_ic_ge (t := 58) (q := 35) hE rfl rfl rfl rfl (fun hbr => ?_) (fun hbr => ?_)
  · replace h := h.1 hbr
    refine e_seg (k := 1) (d := (59, [(0, .ref 67), (1, .int x1), (2, .int x2)], [.ref 67], M)) rfl ?_
    refine e_call (q := 62) (L0 := [(0, .ref 67)]) hE rfl rfl rfl rfl (jargs_V rfl rfl rfl rfl rfl (Nat.le_of_ble_eq_true rfl) (Nat.le_of_ble_eq_true rfl) (Nat.le_of_ble_eq_true rfl)) rfl rfl (jEv.mono h (fun o1 M2 h => ?_))
    obtain ⟨r3, rfl, h⟩ := h
    refine ⟨_, rfl, ?_⟩
    show jEv nX8_clear (62, [(0, .ref 67), (1, .int x1), (2, .int x2)], [.int r3], M2) K
    refine e_if_eq (t := 69) (q := 65) hE rfl rfl rfl rfl (fun hbr => ?_) (fun hbr => ?_)
    · replace h := h.1 hbr
      refine e_seg (k := 1) (d := (70, [(0, .ref 67), (1, .int x1), (2, .int x2)], [.int 0], M2)) rfl ?_
      exact e_ret hE rfl rfl (jb_i rfl) h
    · replace h := h.2 hbr
      refine e_seg (k := 2) (d := (70, [(0, .ref 67), (1, .int x1), (2, .int x2)], [.int 1], M2)) rfl ?_
      exact e_ret hE rfl rfl (jb_i rfl) h
  · replace h := h.2 hbr
    refine e_seg (k := 10) (d := (49, [(0, .ref 67), (1, .int x1), (2, .int x2)], [.int ((4 * x1) + x2), .ref 75, .int x2, .ref 76], M)) rfl ?_
    refine e_iald (q := 50) hE rfl rfl rfl rfl h.1 ?_
    replace h := h.2
    refine e_seg (k := 1) (d := (51, [(0, .ref 67), (1, .int x1), (2, .int x2)], [.long ((M.1 75 ((4 * x1) + x2).toNatClampNeg).toInt64), .int x2, .ref 76], M)) rfl ?_
    refine e_last (q := 52) hE rfl rfl rfl rfl h.1 ?_
    replace h := h.2
    obtain ⟨M4, hM4⟩ : ∃ z : jM, z = jsl M 76 x2.toNatClampNeg ((M.1 75 ((4 * x1) + x2).toNatClampNeg).toInt64) := ⟨_, rfl⟩
    refine jEv_M hM4 ?_
    replace h := h M4 hM4
    refine e_seg (k := 2) (d := (30, [(0, .ref 67), (1, .int x1), (2, .int (x2 + 1))], [], M4)) rfl ?_
    refine e_cut (ks := [0, 1, 2]) (L' := [(0, .ref 67), (1, .int x1), (2, .int (x2 + 1))]) hE rfl rfl rfl rfl rfl ?_
    exact h
set_option maxRecDepth 100000 in
set_option maxHeartbeats 4000000 in
theorem v_X8_fill_0 {K : jK} {M : jM} {x1 : Int32} (h : (∀ M1 : jM, M1 = jsi M 67 0 0 → (jEv nX8_isBare (0, [(0, .ref 67), (1, .int x1)], [], M1) (fun o2 M3 => ∃ r4 : Int32, o2 = some (some (.int r4)) ∧ ((r4 = 0 → K (some (some (.int (-1)))) M3) ∧ (¬ r4 = 0 → jEv nX8_fill (19, [(0, .ref 67), (1, .int x1), (2, .int 0), (3, .int 0)], [], M3) K)))))) : jEv nX8_fill (0, [(0, .ref 67), (1, .int x1)], [], M) K := by
  have hE : jMT nX8_fill = some me_X8_fill := rfl
  refine e_seg (k := 2) (d := (2, [(0, .ref 67), (1, .int x1)], [.int 0, .ref 67], M)) rfl ?_
  refine e_put (q := 5) hE rfl rfl rfl rfl rfl rfl rfl ?_
  obtain ⟨M1, hM1⟩ : ∃ z : jM, z = jsi M 67 0 0 := ⟨_, rfl⟩
  refine jEv_M hM1 ?_
  replace h := h M1 hM1
  refine e_seg (k := 2) (d := (7, [(0, .ref 67), (1, .int x1)], [.int x1, .ref 67], M1)) rfl ?_
  refine e_call (q := 10) (L0 := [(0, .ref 67), (1, .int x1)]) hE rfl rfl rfl rfl (jargs_V rfl rfl rfl rfl rfl (Nat.le_of_ble_eq_true rfl) (Nat.le_of_ble_eq_true rfl) (Nat.le_of_ble_eq_true rfl)) rfl rfl (jEv.mono h (fun o2 M3 h => ?_))
  obtain ⟨r4, rfl, h⟩ := h
  refine ⟨_, rfl, ?_⟩
  show jEv nX8_fill (10, [(0, .ref 67), (1, .int x1)], [.int r4], M3) K
  refine e_if_ne (t := 15) (q := 13) hE rfl rfl rfl rfl (fun hbr => ?_) (fun hbr => ?_)
  · replace h := h.2 hbr
    refine e_seg (k := 4) (d := (19, [(0, .ref 67), (1, .int x1), (2, .int 0), (3, .int 0)], [], M3)) rfl ?_
    refine e_cut (ks := [0, 1, 2, 3]) (L' := [(0, .ref 67), (1, .int x1), (2, .int 0), (3, .int 0)]) hE rfl rfl rfl rfl rfl ?_
    exact h
  · replace h := h.1 hbr
    refine e_seg (k := 1) (d := (14, [(0, .ref 67), (1, .int x1)], [.int (-1)], M3)) rfl ?_
    exact e_ret hE rfl rfl (jb_i rfl) h
set_option maxRecDepth 100000 in
set_option maxHeartbeats 4000000 in
theorem v_X8_fill_19 {K : jK} {M : jM} {x1 : Int32} {x2 : Int32} {x3 : Int32} (h : (((M.1 67 27) ≤ x3 → ((x2 < 1 → K (some (some (.int 0))) M) ∧ (¬ x2 < 1 → ((x2 ≤ 3 → jEv nX8_fill (71, [(0, .ref 67), (1, .int x1), (2, .int x2), (3, .int 0)], [], M) K) ∧ (¬ x2 ≤ 3 → K (some (some (.int 0))) M))))) ∧ (¬ (M.1 67 27) ≤ x3 → (¬ (x3 < 0 ∨ 60 ≤ x3.toNatClampNeg) ∧ (((M.1 90 x3.toNatClampNeg) = 100 → (¬ (x2 < 0 ∨ 60 ≤ x2.toNatClampNeg) ∧ (∀ M1 : jM, M1 = jsi M 93 x2.toNatClampNeg x3 → jEv nX8_fill (19, [(0, .ref 67), (1, .int x1), (2, .int (x2 + 1)), (3, .int (x3 + 1))], [], M1) K))) ∧ (¬ (M.1 90 x3.toNatClampNeg) = 100 → jEv nX8_fill (19, [(0, .ref 67), (1, .int x1), (2, .int x2), (3, .int (x3 + 1))], [], M) K)))))) : jEv nX8_fill (19, [(0, .ref 67), (1, .int x1), (2, .int x2), (3, .int x3)], [], M) K := by
  have hE : jMT nX8_fill = some me_X8_fill := rfl
  refine e_seg (k := 3) (d := (24, [(0, .ref 67), (1, .int x1), (2, .int x2), (3, .int x3)], [.int (M.1 67 27), .int x3], M)) rfl ?_
  refine e_ic_ge (t := 57) (q := 27) hE rfl rfl rfl rfl (fun hbr => ?_) (fun hbr => ?_)
  · replace h := h.1 hbr
    refine e_seg (k := 2) (d := (59, [(0, .ref 67), (1, .int x1), (2, .int x2), (3, .int x3)], [.int 1, .int x2], M)) rfl ?_
    refine e_ic_lt (t := 67) (q := 62) hE rfl rfl rfl rfl (fun hbr => ?_) (fun hbr => ?_)
    · replace h := h.1 hbr
      refine e_seg (k := 1) (d := (68, [(0, .ref 67), (1, .int x1), (2, .int x2), (3, .int x3)], [.int 0], M)) rfl ?_
      exact e_ret hE rfl rfl (jb_i rfl) h
    · replace h := h.2 hbr
      refine e_seg (k := 2) (d := (64, [(0, .ref 67), (1, .int x1), (2, .int x2), (3, .int x3)], [.int 3, .int x2], M)) rfl ?_
      refine e_ic_le (t := 69) (q := 67) hE rfl rfl rfl rfl (fun hbr => ?_) (fun hbr => ?_)
      · replace h := h.1 hbr
        refine e_seg (k := 2) (d := (71, [(0, .ref 67), (1, .int x1), (2, .int x2), (3, .int 0)], [], M)) rfl ?_
        refine e_cut (ks := [0, 1, 2, 3]) (L' := [(0, .ref 67), (1, .int x1), (2, .int x2), (3, .int 0)]) hE rfl rfl rfl rfl rfl ?_
        exact h
      · replace h := h.2 hbr
        refine e_seg (k := 1) (d := (68, [(0, .ref 67), (1, .int x1), (2, .int x2), (3, .int x3)], [.int 0], M)) rfl ?_
        exact e_ret hE rfl rfl (jb_i rfl) h
  · replace h := h.2 hbr
    refine e_seg (k := 3) (d := (32, [(0, .ref 67), (1, .int x1), (2, .int x2), (3, .int x3)], [.int x3, .ref 90], M)) rfl ?_
    refine e_iald (q := 33) hE rfl rfl rfl rfl h.1 ?_
    replace h := h.2
    refine e_seg (k := 1) (d := (35, [(0, .ref 67), (1, .int x1), (2, .int x2), (3, .int x3)], [.int 100, .int (M.1 90 x3.toNatClampNeg)], M)) rfl ?_
    refine e_ic_eq (t := 41) (q := 38) hE rfl rfl rfl rfl (fun hbr => ?_) (fun hbr => ?_)
    · replace h := h.1 hbr
      refine e_seg (k := 4) (d := (47, [(0, .ref 67), (1, .int x1), (2, .int x2), (3, .int x3)], [.int x3, .int x2, .ref 93], M)) rfl ?_
      refine e_iast (q := 48) hE rfl rfl rfl rfl h.1 ?_
      replace h := h.2
      obtain ⟨M1, hM1⟩ : ∃ z : jM, z = jsi M 93 x2.toNatClampNeg x3 := ⟨_, rfl⟩
      refine jEv_M hM1 ?_
      replace h := h M1 hM1
      refine e_seg (k := 3) (d := (19, [(0, .ref 67), (1, .int x1), (2, .int (x2 + 1)), (3, .int (x3 + 1))], [], M1)) rfl ?_
      refine e_cut (ks := [0, 1, 2, 3]) (L' := [(0, .ref 67), (1, .int x1), (2, .int (x2 + 1)), (3, .int (x3 + 1))]) hE rfl rfl rfl rfl rfl ?_
      exact h
    · replace h := h.2 hbr
      refine e_seg (k := 3) (d := (19, [(0, .ref 67), (1, .int x1), (2, .int x2), (3, .int (x3 + 1))], [], M)) rfl ?_
      refine e_cut (ks := [0, 1, 2, 3]) (L' := [(0, .ref 67), (1, .int x1), (2, .int x2), (3, .int (x3 + 1))]) hE rfl rfl rfl rfl rfl ?_
      exact h
set_option maxRecDepth 100000 in
set_option maxHeartbeats 4000000 in
theorem v_X8_fill_71 {K : jK} {M : jM} {x1 : Int32} {x2 : Int32} {x3 : Int32} (h : ((x2 ≤ x3 → (jEv nX8_cramer (0, [(0, .ref 67), (1, .int x2), (2, .int (-1))], [], M) (fun o1 M2 => ∃ r3 : Int64, o1 = some (some (.long r3)) ∧ ((r3 = 0 → K (some (some (.int 0))) M2) ∧ (¬ r3 = 0 → jEv nX8_fill (204, [(0, .ref 67), (2, .int x2), (3, .long r3), (5, .int 0)], [], M2) K))))) ∧ (¬ x2 ≤ x3 → jEv nX8_fill (79, [(0, .ref 67), (1, .int x1), (2, .int x2), (3, .int x3), (4, .int 0)], [], M) K))) : jEv nX8_fill (71, [(0, .ref 67), (1, .int x1), (2, .int x2), (3, .int x3)], [], M) K := by
  have hE : jMT nX8_fill = some me_X8_fill := rfl
  refine e_seg (k := 2) (d := (73, [(0, .ref 67), (1, .int x1), (2, .int x2), (3, .int x3)], [.int x2, .int x3], M)) rfl ?_
  refine e_ic_ge (t := 186) (q := 76) hE rfl rfl rfl rfl (fun hbr => ?_) (fun hbr => ?_)
  · replace h := h.1 hbr
    refine e_seg (k := 3) (d := (189, [(0, .ref 67), (1, .int x1), (2, .int x2), (3, .int x3)], [.int (-1), .int x2, .ref 67], M)) rfl ?_
    refine e_call (q := 192) (L0 := [(0, .ref 67), (1, .int x2), (2, .int (-1))]) hE rfl rfl rfl rfl (jargs_V rfl rfl rfl rfl rfl (Nat.le_of_ble_eq_true rfl) (Nat.le_of_ble_eq_true rfl) (Nat.le_of_ble_eq_true rfl)) rfl rfl (jEv.mono h (fun o1 M2 h => ?_))
    obtain ⟨r3, rfl, h⟩ := h
    refine ⟨_, rfl, ?_⟩
    show jEv nX8_fill (192, [(0, .ref 67), (1, .int x1), (2, .int x2), (3, .int x3)], [.long r3], M2) K
    refine e_seg (k := 3) (d := (195, [(0, .ref 67), (1, .int x1), (2, .int x2), (3, .long r3)], [.long 0, .long r3], M2)) rfl ?_
    refine e_lc (t := 201) (q := 199) (pc1 := 196) hE rfl rfl rfl rfl rfl rfl (lc_ne r3 0) rfl rfl (fun hbr => ?_) (fun hbr => ?_)
    · replace h := h.2 hbr
      refine e_seg (k := 2) (d := (204, [(0, .ref 67), (1, .int x1), (2, .int x2), (3, .long r3), (5, .int 0)], [], M2)) rfl ?_
      refine e_cut (ks := [0, 2, 3, 5]) (L' := [(0, .ref 67), (2, .int x2), (3, .long r3), (5, .int 0)]) hE rfl rfl rfl rfl rfl ?_
      exact h
    · replace h := h.1 (Classical.byContradiction hbr)
      refine e_seg (k := 1) (d := (200, [(0, .ref 67), (1, .int x1), (2, .int x2), (3, .long r3)], [.int 0], M2)) rfl ?_
      exact e_ret hE rfl rfl (jb_i rfl) h
  · replace h := h.2 hbr
    refine e_seg (k := 2) (d := (79, [(0, .ref 67), (1, .int x1), (2, .int x2), (3, .int x3), (4, .int 0)], [], M)) rfl ?_
    refine e_cut (ks := [0, 1, 2, 3, 4]) (L' := [(0, .ref 67), (1, .int x1), (2, .int x2), (3, .int x3), (4, .int 0)]) hE rfl rfl rfl rfl rfl ?_
    exact h
set_option maxRecDepth 100000 in
set_option maxHeartbeats 4000000 in
theorem v_X8_fill_204 {K : jK} {M : jM} {x2 : Int32} {x3 : Int64} {x5 : Int32} (h : ((x2 ≤ x5 → (∀ M1 : jM, M1 = jsi M 67 30 1 → (∀ M2 : jM, M2 = jsi M1 67 31 x2 → K (some (some (.int x2))) M2))) ∧ (¬ x2 ≤ x5 → (jEv nX8_cramer (0, [(0, .ref 67), (1, .int x2), (2, .int x5)], [], M) (fun o3 M4 => ∃ r5 : Int64, o3 = some (some (.long r5)) ∧ (jEv nX8_set (0, [(0, .ref 67), (1, .long r5), (3, .long x3)], [], M4) (fun o6 M7 => o6 = some none ∧ (¬ (x5 < 0 ∨ 3 ≤ x5.toNatClampNeg) ∧ (∀ M8 : jM, M8 = jsl M7 94 x5.toNatClampNeg (M7.2 67 3) → (¬ (x5 < 0 ∨ 3 ≤ x5.toNatClampNeg) ∧ (∀ M9 : jM, M9 = jsl M8 95 x5.toNatClampNeg (M8.2 67 4) → jEv nX8_fill (204, [(0, .ref 67), (2, .int x2), (3, .long x3), (5, .int (x5 + 1))], [], M9) K))))))))))) : jEv nX8_fill (204, [(0, .ref 67), (2, .int x2), (3, .long x3), (5, .int x5)], [], M) K := by
  have hE : jMT nX8_fill = some me_X8_fill := rfl
  refine e_seg (k := 2) (d := (207, [(0, .ref 67), (2, .int x2), (3, .long x3), (5, .int x5)], [.int x2, .int x5], M)) rfl ?_
  refine e_ic_ge (t := 250) (q := 210) hE rfl rfl rfl rfl (fun hbr => ?_) (fun hbr => ?_)
  · replace h := h.1 hbr
    refine e_seg (k := 2) (d := (252, [(0, .ref 67), (2, .int x2), (3, .long x3), (5, .int x5)], [.int 1, .ref 67], M)) rfl ?_
    refine e_put (q := 255) hE rfl rfl rfl rfl rfl rfl rfl ?_
    obtain ⟨M1, hM1⟩ : ∃ z : jM, z = jsi M 67 30 1 := ⟨_, rfl⟩
    refine jEv_M hM1 ?_
    replace h := h M1 hM1
    refine e_seg (k := 2) (d := (257, [(0, .ref 67), (2, .int x2), (3, .long x3), (5, .int x5)], [.int x2, .ref 67], M1)) rfl ?_
    refine e_put (q := 260) hE rfl rfl rfl rfl rfl rfl rfl ?_
    obtain ⟨M2, hM2⟩ : ∃ z : jM, z = jsi M1 67 31 x2 := ⟨_, rfl⟩
    refine jEv_M hM2 ?_
    replace h := h M2 hM2
    refine e_seg (k := 1) (d := (261, [(0, .ref 67), (2, .int x2), (3, .long x3), (5, .int x5)], [.int x2], M2)) rfl ?_
    exact e_ret hE rfl rfl (jb_i rfl) h
  · replace h := h.2 hbr
    refine e_seg (k := 4) (d := (215, [(0, .ref 67), (2, .int x2), (3, .long x3), (5, .int x5)], [.int x5, .int x2, .ref 67, .ref 67], M)) rfl ?_
    refine e_call (q := 218) (L0 := [(0, .ref 67), (1, .int x2), (2, .int x5)]) hE rfl rfl rfl rfl (jargs_V rfl rfl rfl rfl rfl (Nat.le_of_ble_eq_true rfl) (Nat.le_of_ble_eq_true rfl) (Nat.le_of_ble_eq_true rfl)) rfl rfl (jEv.mono h (fun o3 M4 h => ?_))
    obtain ⟨r5, rfl, h⟩ := h
    refine ⟨_, rfl, ?_⟩
    show jEv nX8_fill (218, [(0, .ref 67), (2, .int x2), (3, .long x3), (5, .int x5)], [.long r5, .ref 67], M4) K
    refine e_seg (k := 1) (d := (219, [(0, .ref 67), (2, .int x2), (3, .long x3), (5, .int x5)], [.long x3, .long r5, .ref 67], M4)) rfl ?_
    refine e_call (q := 222) (L0 := [(0, .ref 67), (1, .long r5), (3, .long x3)]) hE rfl rfl rfl rfl (jargs_V rfl rfl rfl rfl rfl (Nat.le_of_ble_eq_true rfl) (Nat.le_of_ble_eq_true rfl) (Nat.le_of_ble_eq_true rfl)) rfl rfl (jEv.mono h (fun o6 M7 h => ?_))
    obtain ⟨rfl, h⟩ := h
    refine ⟨_, rfl, ?_⟩
    show jEv nX8_fill (222, [(0, .ref 67), (2, .int x2), (3, .long x3), (5, .int x5)], [], M7) K
    refine e_seg (k := 5) (d := (232, [(0, .ref 67), (2, .int x2), (3, .long x3), (5, .int x5)], [.long (M7.2 67 3), .int x5, .ref 94], M7)) rfl ?_
    refine e_last (q := 233) hE rfl rfl rfl rfl h.1 ?_
    replace h := h.2
    obtain ⟨M8, hM8⟩ : ∃ z : jM, z = jsl M7 94 x5.toNatClampNeg (M7.2 67 3) := ⟨_, rfl⟩
    refine jEv_M hM8 ?_
    replace h := h M8 hM8
    refine e_seg (k := 5) (d := (243, [(0, .ref 67), (2, .int x2), (3, .long x3), (5, .int x5)], [.long (M8.2 67 4), .int x5, .ref 95], M8)) rfl ?_
    refine e_last (q := 244) hE rfl rfl rfl rfl h.1 ?_
    replace h := h.2
    obtain ⟨M9, hM9⟩ : ∃ z : jM, z = jsl M8 95 x5.toNatClampNeg (M8.2 67 4) := ⟨_, rfl⟩
    refine jEv_M hM9 ?_
    replace h := h M9 hM9
    refine e_seg (k := 2) (d := (204, [(0, .ref 67), (2, .int x2), (3, .long x3), (5, .int (x5 + 1))], [], M9)) rfl ?_
    refine e_cut (ks := [0, 2, 3, 5]) (L' := [(0, .ref 67), (2, .int x2), (3, .long x3), (5, .int (x5 + 1))]) hE rfl rfl rfl rfl rfl ?_
    exact h
set_option maxRecDepth 100000 in
set_option maxHeartbeats 4000000 in
theorem v_X8_fill_79 {K : jK} {M : jM} {x1 : Int32} {x2 : Int32} {x3 : Int32} {x4 : Int32} (h : ((x2 < x4 → jEv nX8_fill (71, [(0, .ref 67), (1, .int x1), (2, .int x2), (3, .int (x3 + 1))], [], M) K) ∧ (¬ x2 < x4 → (¬ (x1 < 0 ∨ 6 ≤ x1.toNatClampNeg) ∧ jEv nX8_fill (96, [(0, .ref 67), (1, .int x1), (2, .int x2), (3, .int x3), (4, .int x4), (5, .long 0), (7, .int (M.1 71 x1.toNatClampNeg))], [], M) K)))) : jEv nX8_fill (79, [(0, .ref 67), (1, .int x1), (2, .int x2), (3, .int x3), (4, .int x4)], [], M) K := by
  have hE : jMT nX8_fill = some me_X8_fill := rfl
  refine e_seg (k := 2) (d := (82, [(0, .ref 67), (1, .int x1), (2, .int x2), (3, .int x3), (4, .int x4)], [.int x2, .int x4], M)) rfl ?_
  refine e_ic_gt (t := 180) (q := 85) hE rfl rfl rfl rfl (fun hbr => ?_) (fun hbr => ?_)
  · replace h := h.1 hbr
    refine e_seg (k := 2) (d := (71, [(0, .ref 67), (1, .int x1), (2, .int x2), (3, .int (x3 + 1)), (4, .int x4)], [], M)) rfl ?_
    refine e_cut (ks := [0, 1, 2, 3]) (L' := [(0, .ref 67), (1, .int x1), (2, .int x2), (3, .int (x3 + 1))]) hE rfl rfl rfl rfl rfl ?_
    exact h
  · replace h := h.2 hbr
    refine e_seg (k := 5) (d := (93, [(0, .ref 67), (1, .int x1), (2, .int x2), (3, .int x3), (4, .int x4), (5, .long 0)], [.int x1, .ref 71], M)) rfl ?_
    refine e_iald (q := 94) hE rfl rfl rfl rfl h.1 ?_
    replace h := h.2
    refine e_seg (k := 1) (d := (96, [(0, .ref 67), (1, .int x1), (2, .int x2), (3, .int x3), (4, .int x4), (5, .long 0), (7, .int (M.1 71 x1.toNatClampNeg))], [], M)) rfl ?_
    refine e_cut (ks := [0, 1, 2, 3, 4, 5, 7]) (L' := [(0, .ref 67), (1, .int x1), (2, .int x2), (3, .int x3), (4, .int x4), (5, .long 0), (7, .int (M.1 71 x1.toNatClampNeg))]) hE rfl rfl rfl rfl rfl ?_
    exact h
set_option maxRecDepth 100000 in
set_option maxHeartbeats 4000000 in
theorem v_X8_fill_96 {K : jK} {M : jM} {x1 : Int32} {x2 : Int32} {x3 : Int32} {x4 : Int32} {x5 : Int64} {x7 : Int32} (h : (((M.1 67 27) ≤ x7 → (¬ ((4 * x3) + x4 < 0 ∨ 12 ≤ ((4 * x3) + x4).toNatClampNeg) ∧ (∀ M1 : jM, M1 = jsl M 96 (((4 * x3) + x4).toNatClampNeg) x5 → jEv nX8_fill (79, [(0, .ref 67), (1, .int x1), (2, .int x2), (3, .int x3), (4, .int (x4 + 1))], [], M1) K))) ∧ (¬ (M.1 67 27) ≤ x7 → (¬ (x3 < 0 ∨ 60 ≤ x3.toNatClampNeg) ∧ (jEv nX8_part (0, [(0, .ref 67), (1, .int x1), (2, .int x7), (3, .int (M.1 93 x3.toNatClampNeg))], [], M) (fun o2 M3 => ∃ r4 : Int64, o2 = some (some (.long r4)) ∧ ((x2 ≤ x4 → (jEv nX8_missOf (0, [(0, .ref 67), (1, .int x1), (2, .int x7)], [], M3) (fun o5 M6 => ∃ r7 : Int64, o5 = some (some (.long r7)) ∧ jEv nX8_fill (96, [(0, .ref 67), (1, .int x1), (2, .int x2), (3, .int x3), (4, .int x4), (5, .long (x5 + (r4 * (-r7)))), (7, .int (x7 + 1))], [], M6) K))) ∧ (¬ x2 ≤ x4 → (¬ (x4 < 0 ∨ 60 ≤ x4.toNatClampNeg) ∧ (jEv nX8_part (0, [(0, .ref 67), (1, .int x1), (2, .int x7), (3, .int (M3.1 93 x4.toNatClampNeg))], [], M3) (fun o8 M9 => ∃ r10 : Int64, o8 = some (some (.long r10)) ∧ jEv nX8_fill (96, [(0, .ref 67), (1, .int x1), (2, .int x2), (3, .int x3), (4, .int x4), (5, .long (x5 + (r4 * r10))), (7, .int (x7 + 1))], [], M9) K))))))))))) : jEv nX8_fill (96, [(0, .ref 67), (1, .int x1), (2, .int x2), (3, .int x3), (4, .int x4), (5, .long x5), (7, .int x7)], [], M) K := by
  have hE : jMT nX8_fill = some me_X8_fill := rfl
  refine e_seg (k := 3) (d := (102, [(0, .ref 67), (1, .int x1), (2, .int x2), (3, .int x3), (4, .int x4), (5, .long x5), (7, .int x7)], [.int (M.1 67 27), .int x7], M)) rfl ?_
  refine e_ic_ge (t := 161) (q := 105) hE rfl rfl rfl rfl (fun hbr => ?_) (fun hbr => ?_)
  · replace h := h.1 hbr
    refine e_seg (k := 8) (d := (173, [(0, .ref 67), (1, .int x1), (2, .int x2), (3, .int x3), (4, .int x4), (5, .long x5), (7, .int x7)], [.long x5, .int ((4 * x3) + x4), .ref 96], M)) rfl ?_
    refine e_last (q := 174) hE rfl rfl rfl rfl h.1 ?_
    replace h := h.2
    obtain ⟨M1, hM1⟩ : ∃ z : jM, z = jsl M 96 (((4 * x3) + x4).toNatClampNeg) x5 := ⟨_, rfl⟩
    refine jEv_M hM1 ?_
    replace h := h M1 hM1
    refine e_seg (k := 2) (d := (79, [(0, .ref 67), (1, .int x1), (2, .int x2), (3, .int x3), (4, .int (x4 + 1)), (5, .long x5), (7, .int x7)], [], M1)) rfl ?_
    refine e_cut (ks := [0, 1, 2, 3, 4]) (L' := [(0, .ref 67), (1, .int x1), (2, .int x2), (3, .int x3), (4, .int (x4 + 1))]) hE rfl rfl rfl rfl rfl ?_
    exact h
  · replace h := h.2 hbr
    refine e_seg (k := 7) (d := (116, [(0, .ref 67), (1, .int x1), (2, .int x2), (3, .int x3), (4, .int x4), (5, .long x5), (7, .int x7)], [.int x3, .ref 93, .int x7, .int x1, .ref 67, .long x5], M)) rfl ?_
    refine e_iald (q := 117) hE rfl rfl rfl rfl h.1 ?_
    replace h := h.2
    refine e_call (q := 120) (L0 := [(0, .ref 67), (1, .int x1), (2, .int x7), (3, .int (M.1 93 x3.toNatClampNeg))]) hE rfl rfl rfl rfl (jargs_V rfl rfl rfl rfl rfl (Nat.le_of_ble_eq_true rfl) (Nat.le_of_ble_eq_true rfl) (Nat.le_of_ble_eq_true rfl)) rfl rfl (jEv.mono h (fun o2 M3 h => ?_))
    obtain ⟨r4, rfl, h⟩ := h
    refine ⟨_, rfl, ?_⟩
    show jEv nX8_fill (120, [(0, .ref 67), (1, .int x1), (2, .int x2), (3, .int x3), (4, .int x4), (5, .long x5), (7, .int x7)], [.long r4, .long x5], M3) K
    refine e_seg (k := 2) (d := (123, [(0, .ref 67), (1, .int x1), (2, .int x2), (3, .int x3), (4, .int x4), (5, .long x5), (7, .int x7)], [.int x2, .int x4, .long r4, .long x5], M3)) rfl ?_
    refine e_ic_ge (t := 143) (q := 126) hE rfl rfl rfl rfl (fun hbr => ?_) (fun hbr => ?_)
    · replace h := h.1 hbr
      refine e_seg (k := 3) (d := (147, [(0, .ref 67), (1, .int x1), (2, .int x2), (3, .int x3), (4, .int x4), (5, .long x5), (7, .int x7)], [.int x7, .int x1, .ref 67, .long r4, .long x5], M3)) rfl ?_
      refine e_call (q := 150) (L0 := [(0, .ref 67), (1, .int x1), (2, .int x7)]) hE rfl rfl rfl rfl (jargs_V rfl rfl rfl rfl rfl (Nat.le_of_ble_eq_true rfl) (Nat.le_of_ble_eq_true rfl) (Nat.le_of_ble_eq_true rfl)) rfl rfl (jEv.mono h (fun o5 M6 h => ?_))
      obtain ⟨r7, rfl, h⟩ := h
      refine ⟨_, rfl, ?_⟩
      show jEv nX8_fill (150, [(0, .ref 67), (1, .int x1), (2, .int x2), (3, .int x3), (4, .int x4), (5, .long x5), (7, .int x7)], [.long r7, .long r4, .long x5], M6) K
      refine e_seg (k := 6) (d := (96, [(0, .ref 67), (1, .int x1), (2, .int x2), (3, .int x3), (4, .int x4), (5, .long (x5 + (r4 * (-r7)))), (7, .int (x7 + 1))], [], M6)) rfl ?_
      refine e_cut (ks := [0, 1, 2, 3, 4, 5, 7]) (L' := [(0, .ref 67), (1, .int x1), (2, .int x2), (3, .int x3), (4, .int x4), (5, .long (x5 + (r4 * (-r7)))), (7, .int (x7 + 1))]) hE rfl rfl rfl rfl rfl ?_
      exact h
    · replace h := h.2 hbr
      refine e_seg (k := 6) (d := (136, [(0, .ref 67), (1, .int x1), (2, .int x2), (3, .int x3), (4, .int x4), (5, .long x5), (7, .int x7)], [.int x4, .ref 93, .int x7, .int x1, .ref 67, .long r4, .long x5], M3)) rfl ?_
      refine e_iald (q := 137) hE rfl rfl rfl rfl h.1 ?_
      replace h := h.2
      refine e_call (q := 140) (L0 := [(0, .ref 67), (1, .int x1), (2, .int x7), (3, .int (M3.1 93 x4.toNatClampNeg))]) hE rfl rfl rfl rfl (jargs_V rfl rfl rfl rfl rfl (Nat.le_of_ble_eq_true rfl) (Nat.le_of_ble_eq_true rfl) (Nat.le_of_ble_eq_true rfl)) rfl rfl (jEv.mono h (fun o8 M9 h => ?_))
      obtain ⟨r10, rfl, h⟩ := h
      refine ⟨_, rfl, ?_⟩
      show jEv nX8_fill (140, [(0, .ref 67), (1, .int x1), (2, .int x2), (3, .int x3), (4, .int x4), (5, .long x5), (7, .int x7)], [.long r10, .long r4, .long x5], M9) K
      refine e_seg (k := 6) (d := (96, [(0, .ref 67), (1, .int x1), (2, .int x2), (3, .int x3), (4, .int x4), (5, .long (x5 + (r4 * r10))), (7, .int (x7 + 1))], [], M9)) rfl ?_
      refine e_cut (ks := [0, 1, 2, 3, 4, 5, 7]) (L' := [(0, .ref 67), (1, .int x1), (2, .int x2), (3, .int x3), (4, .int x4), (5, .long (x5 + (r4 * r10))), (7, .int (x7 + 1))]) hE rfl rfl rfl rfl rfl ?_
      exact h
set_option maxRecDepth 100000 in
set_option maxHeartbeats 4000000 in
theorem v_X8_isSteady_0 {K : jK} {M : jM} {x1 : Int32} (h : (¬ (x1 < 0 ∨ 6 ≤ x1.toNatClampNeg) ∧ (∀ M1 : jM, M1 = jsl M 76 0 ((M.1 70 x1.toNatClampNeg).toInt64) → jEv nX8_isSteady (15, [(0, .ref 67), (1, .int x1), (2, .int 1)], [], M1) K))) : jEv nX8_isSteady (0, [(0, .ref 67), (1, .int x1)], [], M) K := by
  have hE : jMT nX8_isSteady = some me_X8_isSteady := rfl
  refine e_seg (k := 6) (d := (10, [(0, .ref 67), (1, .int x1)], [.int x1, .ref 70, .int 0, .ref 76], M)) rfl ?_
  refine e_iald (q := 11) hE rfl rfl rfl rfl h.1 ?_
  replace h := h.2
  refine e_seg (k := 1) (d := (12, [(0, .ref 67), (1, .int x1)], [.long ((M.1 70 x1.toNatClampNeg).toInt64), .int 0, .ref 76], M)) rfl ?_
  refine e_last (q := 13) hE rfl rfl rfl rfl (by decide) ?_
  obtain ⟨M1, hM1⟩ : ∃ z : jM, z = jsl M 76 0 ((M.1 70 x1.toNatClampNeg).toInt64) := ⟨_, rfl⟩
  refine jEv_M hM1 ?_
  replace h := h M1 hM1
  refine e_seg (k := 2) (d := (15, [(0, .ref 67), (1, .int x1), (2, .int 1)], [], M1)) rfl ?_
  refine e_cut (ks := [0, 1, 2]) (L' := [(0, .ref 67), (1, .int x1), (2, .int 1)]) hE rfl rfl rfl rfl rfl ?_
  exact h
set_option maxRecDepth 100000 in
set_option maxHeartbeats 4000000 in
theorem v_X8_isSteady_15 {K : jK} {M : jM} {x1 : Int32} {x2 : Int32} (h : ((4 ≤ x2 → (jEv nX8_isFree (0, [(0, .ref 67)], [], M) (fun o1 M2 => ∃ r3 : Int32, o1 = some (some (.int r3)) ∧ ((r3 = 0 ∨ r3 = 1) ∧ K (some (some (.int r3))) M2)))) ∧ (¬ 4 ≤ x2 → (¬ ((4 * x1) + x2 < 0 ∨ 24 ≤ ((4 * x1) + x2).toNatClampNeg) ∧ (¬ (x2 < 0 ∨ 4 ≤ x2.toNatClampNeg) ∧ (∀ M4 : jM, M4 = jsl M 76 x2.toNatClampNeg ((-(M.1 74 ((4 * x1) + x2).toNatClampNeg)).toInt64) → jEv nX8_isSteady (15, [(0, .ref 67), (1, .int x1), (2, .int (x2 + 1))], [], M4) K)))))) : jEv nX8_isSteady (15, [(0, .ref 67), (1, .int x1), (2, .int x2)], [], M) K := by
  have hE : jMT nX8_isSteady = some me_X8_isSteady := rfl
  refine e_seg (k := 2) (d := (17, [(0, .ref 67), (1, .int x1), (2, .int x2)], [.int 4, .int x2], M)) rfl ?_
  refine e_ic_ge (t := 44) (q := 20) hE rfl rfl rfl rfl (fun hbr => ?_) (fun hbr => ?_)
  · replace h := h.1 hbr
    refine e_seg (k := 1) (d := (45, [(0, .ref 67), (1, .int x1), (2, .int x2)], [.ref 67], M)) rfl ?_
    refine e_call (q := 48) (L0 := [(0, .ref 67)]) hE rfl rfl rfl rfl (jargs_V rfl rfl rfl rfl rfl (Nat.le_of_ble_eq_true rfl) (Nat.le_of_ble_eq_true rfl) (Nat.le_of_ble_eq_true rfl)) rfl rfl (jEv.mono h (fun o1 M2 h => ?_))
    obtain ⟨r3, rfl, h⟩ := h
    refine ⟨_, rfl, ?_⟩
    show jEv nX8_isSteady (48, [(0, .ref 67), (1, .int x1), (2, .int x2)], [.int r3], M2) K
    exact e_ret hE rfl rfl (jb_z rfl h.1) h.2
  · replace h := h.2 hbr
    refine e_seg (k := 10) (d := (34, [(0, .ref 67), (1, .int x1), (2, .int x2)], [.int ((4 * x1) + x2), .ref 74, .int x2, .ref 76], M)) rfl ?_
    refine e_iald (q := 35) hE rfl rfl rfl rfl h.1 ?_
    replace h := h.2
    refine e_seg (k := 2) (d := (37, [(0, .ref 67), (1, .int x1), (2, .int x2)], [.long ((-(M.1 74 ((4 * x1) + x2).toNatClampNeg)).toInt64), .int x2, .ref 76], M)) rfl ?_
    refine e_last (q := 38) hE rfl rfl rfl rfl h.1 ?_
    replace h := h.2
    obtain ⟨M4, hM4⟩ : ∃ z : jM, z = jsl M 76 x2.toNatClampNeg ((-(M.1 74 ((4 * x1) + x2).toNatClampNeg)).toInt64) := ⟨_, rfl⟩
    refine jEv_M hM4 ?_
    replace h := h M4 hM4
    refine e_seg (k := 2) (d := (15, [(0, .ref 67), (1, .int x1), (2, .int (x2 + 1))], [], M4)) rfl ?_
    refine e_cut (ks := [0, 1, 2]) (L' := [(0, .ref 67), (1, .int x1), (2, .int (x2 + 1))]) hE rfl rfl rfl rfl rfl ?_
    exact h
set_option maxRecDepth 100000 in
set_option maxHeartbeats 4000000 in
theorem v_X8_leftOf_0 {K : jK} {M : jM} {x1 : Int32} {x2 : Int32} (h : (jEv nX8_block (0, [(0, .ref 67), (1, .int x1), (2, .int (x2 + 1))], [], M) (fun o1 M2 => ∃ r3 : Int64, o1 = some (some (.long r3)) ∧ (jEv nX8_block (0, [(0, .ref 67), (1, .int x1), (2, .int x2)], [], M2) (fun o4 M5 => ∃ r6 : Int64, o4 = some (some (.long r6)) ∧ (jEv nX8_set (0, [(0, .ref 67), (1, .long r3), (3, .long r6)], [], M5) (fun o7 M8 => o7 = some none ∧ K (some none) M8))))))) : jEv nX8_leftOf (0, [(0, .ref 67), (1, .int x1), (2, .int x2)], [], M) K := by
  have hE : jMT nX8_leftOf = some me_X8_leftOf := rfl
  refine e_seg (k := 5) (d := (5, [(0, .ref 67), (1, .int x1), (2, .int x2)], [.int (x2 + 1), .int x1, .ref 67], M)) rfl ?_
  refine e_call (q := 8) (L0 := [(0, .ref 67), (1, .int x1), (2, .int (x2 + 1))]) hE rfl rfl rfl rfl (jargs_V rfl rfl rfl rfl rfl (Nat.le_of_ble_eq_true rfl) (Nat.le_of_ble_eq_true rfl) (Nat.le_of_ble_eq_true rfl)) rfl rfl (jEv.mono h (fun o1 M2 h => ?_))
  obtain ⟨r3, rfl, h⟩ := h
  refine ⟨_, rfl, ?_⟩
  show jEv nX8_leftOf (8, [(0, .ref 67), (1, .int x1), (2, .int x2)], [.long r3], M2) K
  refine e_seg (k := 6) (d := (14, [(0, .ref 67), (1, .int x1), (2, .int x2), (3, .long r3)], [.int x2, .int x1, .ref 67, .long r3, .ref 67], M2)) rfl ?_
  refine e_call (q := 17) (L0 := [(0, .ref 67), (1, .int x1), (2, .int x2)]) hE rfl rfl rfl rfl (jargs_V rfl rfl rfl rfl rfl (Nat.le_of_ble_eq_true rfl) (Nat.le_of_ble_eq_true rfl) (Nat.le_of_ble_eq_true rfl)) rfl rfl (jEv.mono h (fun o4 M5 h => ?_))
  obtain ⟨r6, rfl, h⟩ := h
  refine ⟨_, rfl, ?_⟩
  show jEv nX8_leftOf (17, [(0, .ref 67), (1, .int x1), (2, .int x2), (3, .long r3)], [.long r6, .long r3, .ref 67], M5) K
  refine e_call (q := 20) (L0 := [(0, .ref 67), (1, .long r3), (3, .long r6)]) hE rfl rfl rfl rfl (jargs_V rfl rfl rfl rfl rfl (Nat.le_of_ble_eq_true rfl) (Nat.le_of_ble_eq_true rfl) (Nat.le_of_ble_eq_true rfl)) rfl rfl (jEv.mono h (fun o7 M8 h => ?_))
  obtain ⟨rfl, h⟩ := h
  refine ⟨_, rfl, ?_⟩
  show jEv nX8_leftOf (20, [(0, .ref 67), (1, .int x1), (2, .int x2), (3, .long r3)], [], M8) K
  exact e_ret hE rfl rfl rfl h
set_option maxRecDepth 100000 in
set_option maxHeartbeats 4000000 in
theorem v_X8_plus_0 {K : jK} {M : jM} {x1 : Int64} {x3 : Int64} (h : (jEv nX8_common (0, [(0, .long (M.2 67 4)), (2, .long x3)], [], M) (fun o1 M2 => ∃ r3 : Int64, o1 = some (some (.long r3)) ∧ (¬ r3 = 0 ∧ (¬ r3 = 0 ∧ (¬ r3 = 0 ∧ (jEv nX8_set (0, [(0, .ref 67), (1, .long (((M2.2 67 3) * (x3 / r3)) + (x1 * ((M2.2 67 4) / r3)))), (3, .long (((M2.2 67 4) / r3) * x3))], [], M2) (fun o4 M5 => o4 = some none ∧ K (some none) M5)))))))) : jEv nX8_plus (0, [(0, .ref 67), (1, .long x1), (3, .long x3)], [], M) K := by
  have hE : jMT nX8_plus = some me_X8_plus := rfl
  refine e_seg (k := 3) (d := (5, [(0, .ref 67), (1, .long x1), (3, .long x3)], [.long x3, .long (M.2 67 4)], M)) rfl ?_
  refine e_call (q := 8) (L0 := [(0, .long (M.2 67 4)), (2, .long x3)]) hE rfl rfl rfl rfl (jargs_S rfl rfl rfl rfl (Nat.le_of_ble_eq_true rfl) (Nat.le_of_ble_eq_true rfl) (Nat.le_of_ble_eq_true rfl)) rfl rfl (jEv.mono h (fun o1 M2 h => ?_))
  obtain ⟨r3, rfl, h⟩ := h
  refine ⟨_, rfl, ?_⟩
  show jEv nX8_plus (8, [(0, .ref 67), (1, .long x1), (3, .long x3)], [.long r3], M2) K
  refine e_seg (k := 6) (d := (18, [(0, .ref 67), (1, .long x1), (3, .long x3), (5, .long r3)], [.long r3, .long x3, .long (M2.2 67 3), .ref 67], M2)) rfl ?_
  refine e_ldiv (q := 19) hE rfl rfl rfl h.1 ?_
  replace h := h.2
  refine e_seg (k := 5) (d := (27, [(0, .ref 67), (1, .long x1), (3, .long x3), (5, .long r3)], [.long r3, .long (M2.2 67 4), .long x1, .long ((M2.2 67 3) * (x3 / r3)), .ref 67], M2)) rfl ?_
  refine e_ldiv (q := 28) hE rfl rfl rfl h.1 ?_
  replace h := h.2
  refine e_seg (k := 5) (d := (36, [(0, .ref 67), (1, .long x1), (3, .long x3), (5, .long r3)], [.long r3, .long (M2.2 67 4), .long (((M2.2 67 3) * (x3 / r3)) + (x1 * ((M2.2 67 4) / r3))), .ref 67], M2)) rfl ?_
  refine e_ldiv (q := 37) hE rfl rfl rfl h.1 ?_
  replace h := h.2
  refine e_seg (k := 2) (d := (39, [(0, .ref 67), (1, .long x1), (3, .long x3), (5, .long r3)], [.long (((M2.2 67 4) / r3) * x3), .long (((M2.2 67 3) * (x3 / r3)) + (x1 * ((M2.2 67 4) / r3))), .ref 67], M2)) rfl ?_
  refine e_call (q := 42) (L0 := [(0, .ref 67), (1, .long (((M2.2 67 3) * (x3 / r3)) + (x1 * ((M2.2 67 4) / r3)))), (3, .long (((M2.2 67 4) / r3) * x3))]) hE rfl rfl rfl rfl (jargs_V rfl rfl rfl rfl rfl (Nat.le_of_ble_eq_true rfl) (Nat.le_of_ble_eq_true rfl) (Nat.le_of_ble_eq_true rfl)) rfl rfl (jEv.mono h (fun o4 M5 h => ?_))
  obtain ⟨rfl, h⟩ := h
  refine ⟨_, rfl, ?_⟩
  show jEv nX8_plus (42, [(0, .ref 67), (1, .long x1), (3, .long x3), (5, .long r3)], [], M5) K
  exact e_ret hE rfl rfl rfl h
set_option maxRecDepth 100000 in
set_option maxHeartbeats 4000000 in
theorem v_X8_shareOf_0 {K : jK} {M : jM} {x1 : Int32} {x2 : Int32} {x3 : Int32} (h : (jEv nX8_toeplitz (0, [(0, .ref 67), (1, .int x1), (2, .int x2)], [], M) (fun o1 M2 => o1 = some none ∧ jEv nX8_shareOf (9, [(0, .ref 67), (1, .int x1), (2, .int x2), (3, .int x3), (4, .int 0)], [], M2) K))) : jEv nX8_shareOf (0, [(0, .ref 67), (1, .int x1), (2, .int x2), (3, .int x3)], [], M) K := by
  have hE : jMT nX8_shareOf = some me_X8_shareOf := rfl
  refine e_seg (k := 3) (d := (3, [(0, .ref 67), (1, .int x1), (2, .int x2), (3, .int x3)], [.int x2, .int x1, .ref 67], M)) rfl ?_
  refine e_call (q := 6) (L0 := [(0, .ref 67), (1, .int x1), (2, .int x2)]) hE rfl rfl rfl rfl (jargs_V rfl rfl rfl rfl rfl (Nat.le_of_ble_eq_true rfl) (Nat.le_of_ble_eq_true rfl) (Nat.le_of_ble_eq_true rfl)) rfl rfl (jEv.mono h (fun o1 M2 h => ?_))
  obtain ⟨rfl, h⟩ := h
  refine ⟨_, rfl, ?_⟩
  show jEv nX8_shareOf (6, [(0, .ref 67), (1, .int x1), (2, .int x2), (3, .int x3)], [], M2) K
  refine e_seg (k := 2) (d := (9, [(0, .ref 67), (1, .int x1), (2, .int x2), (3, .int x3), (4, .int 0)], [], M2)) rfl ?_
  refine e_cut (ks := [0, 1, 2, 3, 4]) (L' := [(0, .ref 67), (1, .int x1), (2, .int x2), (3, .int x3), (4, .int 0)]) hE rfl rfl rfl rfl rfl ?_
  exact h
set_option maxRecDepth 100000 in
set_option maxHeartbeats 4000000 in
theorem v_X8_shareOf_9 {K : jK} {M : jM} {x1 : Int32} {x2 : Int32} {x3 : Int32} {x4 : Int32} (h : ((x2 ≤ x4 → (jEv nX8_determinant (0, [(0, .ref 67), (1, .int x2)], [], M) (fun o1 M2 => ∃ r3 : Int64, o1 = some (some (.long r3)) ∧ (jEv nX8_block (0, [(0, .ref 67), (1, .int x1), (2, .int x2)], [], M2) (fun o4 M5 => ∃ r6 : Int64, o4 = some (some (.long r6)) ∧ (jEv nX8_set (0, [(0, .ref 67), (1, .long r3), (3, .long r6)], [], M5) (fun o7 M8 => o7 = some none ∧ K (some none) M8))))))) ∧ (¬ x2 ≤ x4 → (¬ (((5 * x1) + x4) + 1 < 0 ∨ 30 ≤ (((5 * x1) + x4) + 1).toNatClampNeg) ∧ (¬ (((5 * x4) + x3) - 1 < 0 ∨ 25 ≤ (((5 * x4) + x3) - 1).toNatClampNeg) ∧ (∀ M9 : jM, M9 = jsl M 88 ((((5 * x4) + x3) - 1).toNatClampNeg) ((M.1 85 (((5 * x1) + x4) + 1).toNatClampNeg).toInt64) → jEv nX8_shareOf (9, [(0, .ref 67), (1, .int x1), (2, .int x2), (3, .int x3), (4, .int (x4 + 1))], [], M9) K)))))) : jEv nX8_shareOf (9, [(0, .ref 67), (1, .int x1), (2, .int x2), (3, .int x3), (4, .int x4)], [], M) K := by
  have hE : jMT nX8_shareOf = some me_X8_shareOf := rfl
  refine e_seg (k := 2) (d := (12, [(0, .ref 67), (1, .int x1), (2, .int x2), (3, .int x3), (4, .int x4)], [.int x2, .int x4], M)) rfl ?_
  refine e_ic_ge (t := 48) (q := 15) hE rfl rfl rfl rfl (fun hbr => ?_) (fun hbr => ?_)
  · replace h := h.1 hbr
    refine e_seg (k := 2) (d := (50, [(0, .ref 67), (1, .int x1), (2, .int x2), (3, .int x3), (4, .int x4)], [.int x2, .ref 67], M)) rfl ?_
    refine e_call (q := 53) (L0 := [(0, .ref 67), (1, .int x2)]) hE rfl rfl rfl rfl (jargs_V rfl rfl rfl rfl rfl (Nat.le_of_ble_eq_true rfl) (Nat.le_of_ble_eq_true rfl) (Nat.le_of_ble_eq_true rfl)) rfl rfl (jEv.mono h (fun o1 M2 h => ?_))
    obtain ⟨r3, rfl, h⟩ := h
    refine ⟨_, rfl, ?_⟩
    show jEv nX8_shareOf (53, [(0, .ref 67), (1, .int x1), (2, .int x2), (3, .int x3), (4, .int x4)], [.long r3], M2) K
    refine e_seg (k := 6) (d := (61, [(0, .ref 67), (1, .int x1), (2, .int x2), (3, .int x3), (4, .long r3)], [.int x2, .int x1, .ref 67, .long r3, .ref 67], M2)) rfl ?_
    refine e_call (q := 64) (L0 := [(0, .ref 67), (1, .int x1), (2, .int x2)]) hE rfl rfl rfl rfl (jargs_V rfl rfl rfl rfl rfl (Nat.le_of_ble_eq_true rfl) (Nat.le_of_ble_eq_true rfl) (Nat.le_of_ble_eq_true rfl)) rfl rfl (jEv.mono h (fun o4 M5 h => ?_))
    obtain ⟨r6, rfl, h⟩ := h
    refine ⟨_, rfl, ?_⟩
    show jEv nX8_shareOf (64, [(0, .ref 67), (1, .int x1), (2, .int x2), (3, .int x3), (4, .long r3)], [.long r6, .long r3, .ref 67], M5) K
    refine e_call (q := 67) (L0 := [(0, .ref 67), (1, .long r3), (3, .long r6)]) hE rfl rfl rfl rfl (jargs_V rfl rfl rfl rfl rfl (Nat.le_of_ble_eq_true rfl) (Nat.le_of_ble_eq_true rfl) (Nat.le_of_ble_eq_true rfl)) rfl rfl (jEv.mono h (fun o7 M8 h => ?_))
    obtain ⟨rfl, h⟩ := h
    refine ⟨_, rfl, ?_⟩
    show jEv nX8_shareOf (67, [(0, .ref 67), (1, .int x1), (2, .int x2), (3, .int x3), (4, .long r3)], [], M8) K
    exact e_ret hE rfl rfl rfl h
  · replace h := h.2 hbr
    refine e_seg (k := 18) (d := (39, [(0, .ref 67), (1, .int x1), (2, .int x2), (3, .int x3), (4, .int x4)], [.int (((5 * x1) + x4) + 1), .ref 85, .int (((5 * x4) + x3) - 1), .ref 88], M)) rfl ?_
    refine e_iald (q := 40) hE rfl rfl rfl rfl h.1 ?_
    replace h := h.2
    refine e_seg (k := 1) (d := (41, [(0, .ref 67), (1, .int x1), (2, .int x2), (3, .int x3), (4, .int x4)], [.long ((M.1 85 (((5 * x1) + x4) + 1).toNatClampNeg).toInt64), .int (((5 * x4) + x3) - 1), .ref 88], M)) rfl ?_
    refine e_last (q := 42) hE rfl rfl rfl rfl h.1 ?_
    replace h := h.2
    obtain ⟨M9, hM9⟩ : ∃ z : jM, z = jsl M 88 ((((5 * x4) + x3) - 1).toNatClampNeg) ((M.1 85 (((5 * x1) + x4) + 1).toNatClampNeg).toInt64) := ⟨_, rfl⟩
    refine jEv_M hM9 ?_
    replace h := h M9 hM9
    refine e_seg (k := 2) (d := (9, [(0, .ref 67), (1, .int x1), (2, .int x2), (3, .int x3), (4, .int (x4 + 1))], [], M9)) rfl ?_
    refine e_cut (ks := [0, 1, 2, 3, 4]) (L' := [(0, .ref 67), (1, .int x1), (2, .int x2), (3, .int x3), (4, .int (x4 + 1))]) hE rfl rfl rfl rfl rfl ?_
    exact h
set_option maxRecDepth 100000 in
set_option maxHeartbeats 4000000 in
theorem v_X8_squares_0 {K : jK} {M : jM} {x1 : Int32} {x2 : Int32} (h : (jEv nX8_isBare (0, [(0, .ref 67), (1, .int x1)], [], M) (fun o1 M2 => ∃ r3 : Int32, o1 = some (some (.int r3)) ∧ ((r3 = 0 → (jEv nX8_throwsIf (0, [(0, .ref 67), (1, .int 1)], [], M2) (fun o4 M5 => ∃ r6 : Int32, o4 = some (some (.int r6)) ∧ ((r6 = 0 → jEv nX8_squares (36, [(0, .ref 67), (1, .int x1), (2, .int x2), (3, .long 0), (5, .int 0)], [], M5) K) ∧ (¬ r6 = 0 → K (some (some (.long 0))) M5))))) ∧ (¬ r3 = 0 → ((x2 < 0 → (jEv nX8_throwsIf (0, [(0, .ref 67), (1, .int 1)], [], M2) (fun o7 M8 => ∃ r9 : Int32, o7 = some (some (.int r9)) ∧ ((r9 = 0 → jEv nX8_squares (36, [(0, .ref 67), (1, .int x1), (2, .int x2), (3, .long 0), (5, .int 0)], [], M8) K) ∧ (¬ r9 = 0 → K (some (some (.long 0))) M8))))) ∧ (¬ x2 < 0 → ((x2 ≤ 1 → (jEv nX8_throwsIf (0, [(0, .ref 67), (1, .int 0)], [], M2) (fun o10 M11 => ∃ r12 : Int32, o10 = some (some (.int r12)) ∧ ((r12 = 0 → jEv nX8_squares (36, [(0, .ref 67), (1, .int x1), (2, .int x2), (3, .long 0), (5, .int 0)], [], M11) K) ∧ (¬ r12 = 0 → K (some (some (.long 0))) M11))))) ∧ (¬ x2 ≤ 1 → (jEv nX8_throwsIf (0, [(0, .ref 67), (1, .int 1)], [], M2) (fun o13 M14 => ∃ r15 : Int32, o13 = some (some (.int r15)) ∧ ((r15 = 0 → jEv nX8_squares (36, [(0, .ref 67), (1, .int x1), (2, .int x2), (3, .long 0), (5, .int 0)], [], M14) K) ∧ (¬ r15 = 0 → K (some (some (.long 0))) M14))))))))))))) : jEv nX8_squares (0, [(0, .ref 67), (1, .int x1), (2, .int x2)], [], M) K := by
  have hE : jMT nX8_squares = some me_X8_squares := rfl
  refine e_seg (k := 3) (d := (3, [(0, .ref 67), (1, .int x1), (2, .int x2)], [.int x1, .ref 67, .ref 67], M)) rfl ?_
  refine e_call (q := 6) (L0 := [(0, .ref 67), (1, .int x1)]) hE rfl rfl rfl rfl (jargs_V rfl rfl rfl rfl rfl (Nat.le_of_ble_eq_true rfl) (Nat.le_of_ble_eq_true rfl) (Nat.le_of_ble_eq_true rfl)) rfl rfl (jEv.mono h (fun o1 M2 h => ?_))
  obtain ⟨r3, rfl, h⟩ := h
  refine ⟨_, rfl, ?_⟩
  show jEv nX8_squares (6, [(0, .ref 67), (1, .int x1), (2, .int x2)], [.int r3, .ref 67], M2) K
  refine e_if_eq (t := 18) (q := 9) hE rfl rfl rfl rfl (fun hbr => ?_) (fun hbr => ?_)
  · replace h := h.1 hbr
    refine e_seg (k := 2) (d := (23, [(0, .ref 67), (1, .int x1), (2, .int x2)], [.int 1, .ref 67], M2)) rfl ?_
    refine e_call (q := 26) (L0 := [(0, .ref 67), (1, .int 1)]) hE rfl rfl rfl rfl (jargs_V rfl rfl rfl rfl rfl (Nat.le_of_ble_eq_true rfl) (Nat.le_of_ble_eq_true rfl) (Nat.le_of_ble_eq_true rfl)) rfl rfl (jEv.mono h (fun o4 M5 h => ?_))
    obtain ⟨r6, rfl, h⟩ := h
    refine ⟨_, rfl, ?_⟩
    show jEv nX8_squares (26, [(0, .ref 67), (1, .int x1), (2, .int x2)], [.int r6], M5) K
    refine e_if_eq (t := 31) (q := 29) hE rfl rfl rfl rfl (fun hbr => ?_) (fun hbr => ?_)
    · replace h := h.1 hbr
      refine e_seg (k := 4) (d := (36, [(0, .ref 67), (1, .int x1), (2, .int x2), (3, .long 0), (5, .int 0)], [], M5)) rfl ?_
      refine e_cut (ks := [0, 1, 2, 3, 5]) (L' := [(0, .ref 67), (1, .int x1), (2, .int x2), (3, .long 0), (5, .int 0)]) hE rfl rfl rfl rfl rfl ?_
      exact h
    · replace h := h.2 hbr
      refine e_seg (k := 1) (d := (30, [(0, .ref 67), (1, .int x1), (2, .int x2)], [.long 0], M5)) rfl ?_
      exact e_ret hE rfl rfl (jb_l rfl) h
  · replace h := h.2 hbr
    refine e_seg (k := 1) (d := (10, [(0, .ref 67), (1, .int x1), (2, .int x2)], [.int x2, .ref 67], M2)) rfl ?_
    refine e_if_lt (t := 18) (q := 13) hE rfl rfl rfl rfl (fun hbr => ?_) (fun hbr => ?_)
    · replace h := h.1 hbr
      refine e_seg (k := 2) (d := (23, [(0, .ref 67), (1, .int x1), (2, .int x2)], [.int 1, .ref 67], M2)) rfl ?_
      refine e_call (q := 26) (L0 := [(0, .ref 67), (1, .int 1)]) hE rfl rfl rfl rfl (jargs_V rfl rfl rfl rfl rfl (Nat.le_of_ble_eq_true rfl) (Nat.le_of_ble_eq_true rfl) (Nat.le_of_ble_eq_true rfl)) rfl rfl (jEv.mono h (fun o7 M8 h => ?_))
      obtain ⟨r9, rfl, h⟩ := h
      refine ⟨_, rfl, ?_⟩
      show jEv nX8_squares (26, [(0, .ref 67), (1, .int x1), (2, .int x2)], [.int r9], M8) K
      refine e_if_eq (t := 31) (q := 29) hE rfl rfl rfl rfl (fun hbr => ?_) (fun hbr => ?_)
      · replace h := h.1 hbr
        refine e_seg (k := 4) (d := (36, [(0, .ref 67), (1, .int x1), (2, .int x2), (3, .long 0), (5, .int 0)], [], M8)) rfl ?_
        refine e_cut (ks := [0, 1, 2, 3, 5]) (L' := [(0, .ref 67), (1, .int x1), (2, .int x2), (3, .long 0), (5, .int 0)]) hE rfl rfl rfl rfl rfl ?_
        exact h
      · replace h := h.2 hbr
        refine e_seg (k := 1) (d := (30, [(0, .ref 67), (1, .int x1), (2, .int x2)], [.long 0], M8)) rfl ?_
        exact e_ret hE rfl rfl (jb_l rfl) h
    · replace h := h.2 hbr
      refine e_seg (k := 2) (d := (15, [(0, .ref 67), (1, .int x1), (2, .int x2)], [.int 1, .int x2, .ref 67], M2)) rfl ?_
      refine e_ic_le (t := 22) (q := 18) hE rfl rfl rfl rfl (fun hbr => ?_) (fun hbr => ?_)
      · replace h := h.1 hbr
        refine e_seg (k := 1) (d := (23, [(0, .ref 67), (1, .int x1), (2, .int x2)], [.int 0, .ref 67], M2)) rfl ?_
        refine e_call (q := 26) (L0 := [(0, .ref 67), (1, .int 0)]) hE rfl rfl rfl rfl (jargs_V rfl rfl rfl rfl rfl (Nat.le_of_ble_eq_true rfl) (Nat.le_of_ble_eq_true rfl) (Nat.le_of_ble_eq_true rfl)) rfl rfl (jEv.mono h (fun o10 M11 h => ?_))
        obtain ⟨r12, rfl, h⟩ := h
        refine ⟨_, rfl, ?_⟩
        show jEv nX8_squares (26, [(0, .ref 67), (1, .int x1), (2, .int x2)], [.int r12], M11) K
        refine e_if_eq (t := 31) (q := 29) hE rfl rfl rfl rfl (fun hbr => ?_) (fun hbr => ?_)
        · replace h := h.1 hbr
          refine e_seg (k := 4) (d := (36, [(0, .ref 67), (1, .int x1), (2, .int x2), (3, .long 0), (5, .int 0)], [], M11)) rfl ?_
          refine e_cut (ks := [0, 1, 2, 3, 5]) (L' := [(0, .ref 67), (1, .int x1), (2, .int x2), (3, .long 0), (5, .int 0)]) hE rfl rfl rfl rfl rfl ?_
          exact h
        · replace h := h.2 hbr
          refine e_seg (k := 1) (d := (30, [(0, .ref 67), (1, .int x1), (2, .int x2)], [.long 0], M11)) rfl ?_
          exact e_ret hE rfl rfl (jb_l rfl) h
      · replace h := h.2 hbr
        refine e_seg (k := 2) (d := (23, [(0, .ref 67), (1, .int x1), (2, .int x2)], [.int 1, .ref 67], M2)) rfl ?_
        refine e_call (q := 26) (L0 := [(0, .ref 67), (1, .int 1)]) hE rfl rfl rfl rfl (jargs_V rfl rfl rfl rfl rfl (Nat.le_of_ble_eq_true rfl) (Nat.le_of_ble_eq_true rfl) (Nat.le_of_ble_eq_true rfl)) rfl rfl (jEv.mono h (fun o13 M14 h => ?_))
        obtain ⟨r15, rfl, h⟩ := h
        refine ⟨_, rfl, ?_⟩
        show jEv nX8_squares (26, [(0, .ref 67), (1, .int x1), (2, .int x2)], [.int r15], M14) K
        refine e_if_eq (t := 31) (q := 29) hE rfl rfl rfl rfl (fun hbr => ?_) (fun hbr => ?_)
        · replace h := h.1 hbr
          refine e_seg (k := 4) (d := (36, [(0, .ref 67), (1, .int x1), (2, .int x2), (3, .long 0), (5, .int 0)], [], M14)) rfl ?_
          refine e_cut (ks := [0, 1, 2, 3, 5]) (L' := [(0, .ref 67), (1, .int x1), (2, .int x2), (3, .long 0), (5, .int 0)]) hE rfl rfl rfl rfl rfl ?_
          exact h
        · replace h := h.2 hbr
          refine e_seg (k := 1) (d := (30, [(0, .ref 67), (1, .int x1), (2, .int x2)], [.long 0], M14)) rfl ?_
          exact e_ret hE rfl rfl (jb_l rfl) h
set_option maxRecDepth 100000 in
set_option maxHeartbeats 4000000 in
theorem v_X8_squares_36 {K : jK} {M : jM} {x1 : Int32} {x2 : Int32} {x3 : Int64} {x5 : Int32} (h : (((M.1 67 27) ≤ x5 → (¬ (x1 < 0 ∨ 6 ≤ x1.toNatClampNeg) ∧ (¬ (x1 < 0 ∨ 6 ≤ x1.toNatClampNeg) ∧ (jEv nX8_set (0, [(0, .ref 67), (1, .long x3), (3, .long (((M.1 70 x1.toNatClampNeg).toInt64) * ((M.1 70 x1.toNatClampNeg).toInt64)))], [], M) (fun o1 M2 => o1 = some none ∧ (jEv nX8_told (0, [(0, .ref 67), (1, .int x2)], [], M2) (fun o3 M4 => ∃ r5 : Int64, o3 = some (some (.long r5)) ∧ K (some (some (.long r5))) M4))))))) ∧ (¬ (M.1 67 27) ≤ x5 → (jEv nX8_isWhole (0, [(0, .ref 67), (1, .int x1), (2, .int x5)], [], M) (fun o6 M7 => ∃ r8 : Int32, o6 = some (some (.int r8)) ∧ ((r8 = 0 → jEv nX8_squares (36, [(0, .ref 67), (1, .int x1), (2, .int x2), (3, .long (x3 + 0)), (5, .int (x5 + 1))], [], M7) K) ∧ (¬ r8 = 0 → (jEv nX8_missOf (0, [(0, .ref 67), (1, .int x1), (2, .int x5)], [], M7) (fun o9 M10 => ∃ r11 : Int64, o9 = some (some (.long r11)) ∧ (jEv nX8_missOf (0, [(0, .ref 67), (1, .int x1), (2, .int x5)], [], M10) (fun o12 M13 => ∃ r14 : Int64, o12 = some (some (.long r14)) ∧ jEv nX8_squares (36, [(0, .ref 67), (1, .int x1), (2, .int x2), (3, .long (x3 + (r11 * r14))), (5, .int (x5 + 1))], [], M13) K))))))))))) : jEv nX8_squares (36, [(0, .ref 67), (1, .int x1), (2, .int x2), (3, .long x3), (5, .int x5)], [], M) K := by
  have hE : jMT nX8_squares = some me_X8_squares := rfl
  refine e_seg (k := 3) (d := (42, [(0, .ref 67), (1, .int x1), (2, .int x2), (3, .long x3), (5, .int x5)], [.int (M.1 67 27), .int x5], M)) rfl ?_
  refine e_ic_ge (t := 83) (q := 45) hE rfl rfl rfl rfl (fun hbr => ?_) (fun hbr => ?_)
  · replace h := h.1 hbr
    refine e_seg (k := 5) (d := (90, [(0, .ref 67), (1, .int x1), (2, .int x2), (3, .long x3), (5, .int x5)], [.int x1, .ref 70, .long x3, .ref 67], M)) rfl ?_
    refine e_iald (q := 91) hE rfl rfl rfl rfl h.1 ?_
    replace h := h.2
    refine e_seg (k := 4) (d := (97, [(0, .ref 67), (1, .int x1), (2, .int x2), (3, .long x3), (5, .int x5)], [.int x1, .ref 70, .long ((M.1 70 x1.toNatClampNeg).toInt64), .long x3, .ref 67], M)) rfl ?_
    refine e_iald (q := 98) hE rfl rfl rfl rfl h.1 ?_
    replace h := h.2
    refine e_seg (k := 2) (d := (100, [(0, .ref 67), (1, .int x1), (2, .int x2), (3, .long x3), (5, .int x5)], [.long (((M.1 70 x1.toNatClampNeg).toInt64) * ((M.1 70 x1.toNatClampNeg).toInt64)), .long x3, .ref 67], M)) rfl ?_
    refine e_call (q := 103) (L0 := [(0, .ref 67), (1, .long x3), (3, .long (((M.1 70 x1.toNatClampNeg).toInt64) * ((M.1 70 x1.toNatClampNeg).toInt64)))]) hE rfl rfl rfl rfl (jargs_V rfl rfl rfl rfl rfl (Nat.le_of_ble_eq_true rfl) (Nat.le_of_ble_eq_true rfl) (Nat.le_of_ble_eq_true rfl)) rfl rfl (jEv.mono h (fun o1 M2 h => ?_))
    obtain ⟨rfl, h⟩ := h
    refine ⟨_, rfl, ?_⟩
    show jEv nX8_squares (103, [(0, .ref 67), (1, .int x1), (2, .int x2), (3, .long x3), (5, .int x5)], [], M2) K
    refine e_seg (k := 2) (d := (105, [(0, .ref 67), (1, .int x1), (2, .int x2), (3, .long x3), (5, .int x5)], [.int x2, .ref 67], M2)) rfl ?_
    refine e_call (q := 108) (L0 := [(0, .ref 67), (1, .int x2)]) hE rfl rfl rfl rfl (jargs_V rfl rfl rfl rfl rfl (Nat.le_of_ble_eq_true rfl) (Nat.le_of_ble_eq_true rfl) (Nat.le_of_ble_eq_true rfl)) rfl rfl (jEv.mono h (fun o3 M4 h => ?_))
    obtain ⟨r5, rfl, h⟩ := h
    refine ⟨_, rfl, ?_⟩
    show jEv nX8_squares (108, [(0, .ref 67), (1, .int x1), (2, .int x2), (3, .long x3), (5, .int x5)], [.long r5], M4) K
    exact e_ret hE rfl rfl (jb_l rfl) h
  · replace h := h.2 hbr
    refine e_seg (k := 4) (d := (50, [(0, .ref 67), (1, .int x1), (2, .int x2), (3, .long x3), (5, .int x5)], [.int x5, .int x1, .ref 67, .long x3], M)) rfl ?_
    refine e_call (q := 53) (L0 := [(0, .ref 67), (1, .int x1), (2, .int x5)]) hE rfl rfl rfl rfl (jargs_V rfl rfl rfl rfl rfl (Nat.le_of_ble_eq_true rfl) (Nat.le_of_ble_eq_true rfl) (Nat.le_of_ble_eq_true rfl)) rfl rfl (jEv.mono h (fun o6 M7 h => ?_))
    obtain ⟨r8, rfl, h⟩ := h
    refine ⟨_, rfl, ?_⟩
    show jEv nX8_squares (53, [(0, .ref 67), (1, .int x1), (2, .int x2), (3, .long x3), (5, .int x5)], [.int r8, .long x3], M7) K
    refine e_if_eq (t := 74) (q := 56) hE rfl rfl rfl rfl (fun hbr => ?_) (fun hbr => ?_)
    · replace h := h.1 hbr
      refine e_seg (k := 5) (d := (36, [(0, .ref 67), (1, .int x1), (2, .int x2), (3, .long (x3 + 0)), (5, .int (x5 + 1))], [], M7)) rfl ?_
      refine e_cut (ks := [0, 1, 2, 3, 5]) (L' := [(0, .ref 67), (1, .int x1), (2, .int x2), (3, .long (x3 + 0)), (5, .int (x5 + 1))]) hE rfl rfl rfl rfl rfl ?_
      exact h
    · replace h := h.2 hbr
      refine e_seg (k := 3) (d := (60, [(0, .ref 67), (1, .int x1), (2, .int x2), (3, .long x3), (5, .int x5)], [.int x5, .int x1, .ref 67, .long x3], M7)) rfl ?_
      refine e_call (q := 63) (L0 := [(0, .ref 67), (1, .int x1), (2, .int x5)]) hE rfl rfl rfl rfl (jargs_V rfl rfl rfl rfl rfl (Nat.le_of_ble_eq_true rfl) (Nat.le_of_ble_eq_true rfl) (Nat.le_of_ble_eq_true rfl)) rfl rfl (jEv.mono h (fun o9 M10 h => ?_))
      obtain ⟨r11, rfl, h⟩ := h
      refine ⟨_, rfl, ?_⟩
      show jEv nX8_squares (63, [(0, .ref 67), (1, .int x1), (2, .int x2), (3, .long x3), (5, .int x5)], [.long r11, .long x3], M10) K
      refine e_seg (k := 3) (d := (67, [(0, .ref 67), (1, .int x1), (2, .int x2), (3, .long x3), (5, .int x5)], [.int x5, .int x1, .ref 67, .long r11, .long x3], M10)) rfl ?_
      refine e_call (q := 70) (L0 := [(0, .ref 67), (1, .int x1), (2, .int x5)]) hE rfl rfl rfl rfl (jargs_V rfl rfl rfl rfl rfl (Nat.le_of_ble_eq_true rfl) (Nat.le_of_ble_eq_true rfl) (Nat.le_of_ble_eq_true rfl)) rfl rfl (jEv.mono h (fun o12 M13 h => ?_))
      obtain ⟨r14, rfl, h⟩ := h
      refine ⟨_, rfl, ?_⟩
      show jEv nX8_squares (70, [(0, .ref 67), (1, .int x1), (2, .int x2), (3, .long x3), (5, .int x5)], [.long r14, .long r11, .long x3], M13) K
      refine e_seg (k := 6) (d := (36, [(0, .ref 67), (1, .int x1), (2, .int x2), (3, .long (x3 + (r11 * r14))), (5, .int (x5 + 1))], [], M13)) rfl ?_
      refine e_cut (ks := [0, 1, 2, 3, 5]) (L' := [(0, .ref 67), (1, .int x1), (2, .int x2), (3, .long (x3 + (r11 * r14))), (5, .int (x5 + 1))]) hE rfl rfl rfl rfl rfl ?_
      exact h
set_option maxRecDepth 100000 in
set_option maxHeartbeats 4000000 in
theorem v_X8_stepsOf_0 {K : jK} {M : jM} {x1 : Int32} (h : jEv nX8_stepsOf (2, [(0, .ref 67), (1, .int x1), (2, .int 0)], [], M) K) : jEv nX8_stepsOf (0, [(0, .ref 67), (1, .int x1)], [], M) K := by
  have hE : jMT nX8_stepsOf = some me_X8_stepsOf := rfl
  refine e_seg (k := 2) (d := (2, [(0, .ref 67), (1, .int x1), (2, .int 0)], [], M)) rfl ?_
  refine e_cut (ks := [0, 1, 2]) (L' := [(0, .ref 67), (1, .int x1), (2, .int 0)]) hE rfl rfl rfl rfl rfl ?_
  exact h
set_option maxRecDepth 100000 in
set_option maxHeartbeats 4000000 in
theorem v_X8_stepsOf_2 {K : jK} {M : jM} {x1 : Int32} {x2 : Int32} (h : (¬ (x1 < 0 ∨ 6 ≤ x1.toNatClampNeg) ∧ (((M.1 86 x1.toNatClampNeg) ≤ (x2 + 1) → K (some (some (.int x2))) M) ∧ (¬ (M.1 86 x1.toNatClampNeg) ≤ (x2 + 1) → (jEv nX8_block (0, [(0, .ref 67), (1, .int x1), (2, .int (x2 + 1))], [], M) (fun o1 M2 => ∃ r3 : Int64, o1 = some (some (.long r3)) ∧ ((r3 ≤ 0 → K (some (some (.int x2))) M2) ∧ (¬ (r3 ≤ 0) → jEv nX8_stepsOf (2, [(0, .ref 67), (1, .int x1), (2, .int (x2 + 1))], [], M2) K)))))))) : jEv nX8_stepsOf (2, [(0, .ref 67), (1, .int x1), (2, .int x2)], [], M) K := by
  have hE : jMT nX8_stepsOf = some me_X8_stepsOf := rfl
  refine e_seg (k := 6) (d := (10, [(0, .ref 67), (1, .int x1), (2, .int x2)], [.int x1, .ref 86, .int (x2 + 1)], M)) rfl ?_
  refine e_iald (q := 11) hE rfl rfl rfl rfl h.1 ?_
  replace h := h.2
  refine e_ic_ge (t := 33) (q := 14) hE rfl rfl rfl rfl (fun hbr => ?_) (fun hbr => ?_)
  · replace h := h.1 hbr
    refine e_seg (k := 1) (d := (34, [(0, .ref 67), (1, .int x1), (2, .int x2)], [.int x2], M)) rfl ?_
    exact e_ret hE rfl rfl (jb_i rfl) h
  · replace h := h.2 hbr
    refine e_seg (k := 5) (d := (19, [(0, .ref 67), (1, .int x1), (2, .int x2)], [.int (x2 + 1), .int x1, .ref 67], M)) rfl ?_
    refine e_call (q := 22) (L0 := [(0, .ref 67), (1, .int x1), (2, .int (x2 + 1))]) hE rfl rfl rfl rfl (jargs_V rfl rfl rfl rfl rfl (Nat.le_of_ble_eq_true rfl) (Nat.le_of_ble_eq_true rfl) (Nat.le_of_ble_eq_true rfl)) rfl rfl (jEv.mono h (fun o1 M2 h => ?_))
    obtain ⟨r3, rfl, h⟩ := h
    refine ⟨_, rfl, ?_⟩
    show jEv nX8_stepsOf (22, [(0, .ref 67), (1, .int x1), (2, .int x2)], [.long r3], M2) K
    refine e_seg (k := 1) (d := (23, [(0, .ref 67), (1, .int x1), (2, .int x2)], [.long 0, .long r3], M2)) rfl ?_
    refine e_lc (t := 33) (q := 27) (pc1 := 24) hE rfl rfl rfl rfl rfl rfl (lc_le r3 0) rfl rfl (fun hbr => ?_) (fun hbr => ?_)
    · replace h := h.1 hbr
      refine e_seg (k := 1) (d := (34, [(0, .ref 67), (1, .int x1), (2, .int x2)], [.int x2], M2)) rfl ?_
      exact e_ret hE rfl rfl (jb_i rfl) h
    · replace h := h.2 hbr
      refine e_seg (k := 2) (d := (2, [(0, .ref 67), (1, .int x1), (2, .int (x2 + 1))], [], M2)) rfl ?_
      refine e_cut (ks := [0, 1, 2]) (L' := [(0, .ref 67), (1, .int x1), (2, .int (x2 + 1))]) hE rfl rfl rfl rfl rfl ?_
      exact h
set_option maxRecDepth 100000 in
set_option maxHeartbeats 4000000 in
theorem v_X8_times_0 {K : jK} {M : jM} {x1 : Int64} {x3 : Int64} (h : (jEv nX8_common (0, [(0, .long (M.2 67 3)), (2, .long x3)], [], M) (fun o1 M2 => ∃ r3 : Int64, o1 = some (some (.long r3)) ∧ (jEv nX8_common (0, [(0, .long x1), (2, .long (M2.2 67 4))], [], M2) (fun o4 M5 => ∃ r6 : Int64, o4 = some (some (.long r6)) ∧ ((r3 = 0 → ((r6 = 0 → (jEv nX8_set (0, [(0, .ref 67), (1, .long (((M5.2 67 3) / 1) * (x1 / 1))), (3, .long (((M5.2 67 4) / 1) * (x3 / 1)))], [], M5) (fun o13 M14 => o13 = some none ∧ K (some none) M14))) ∧ (¬ r6 = 0 → (¬ r6 = 0 ∧ (¬ r6 = 0 ∧ (jEv nX8_set (0, [(0, .ref 67), (1, .long (((M5.2 67 3) / 1) * (x1 / r6))), (3, .long (((M5.2 67 4) / r6) * (x3 / 1)))], [], M5) (fun o11 M12 => o11 = some none ∧ K (some none) M12))))))) ∧ (¬ r3 = 0 → ((r6 = 0 → (¬ r3 = 0 ∧ (¬ r3 = 0 ∧ (jEv nX8_set (0, [(0, .ref 67), (1, .long (((M5.2 67 3) / r3) * (x1 / 1))), (3, .long (((M5.2 67 4) / 1) * (x3 / r3)))], [], M5) (fun o9 M10 => o9 = some none ∧ K (some none) M10))))) ∧ (¬ r6 = 0 → (¬ r3 = 0 ∧ (¬ r6 = 0 ∧ (¬ r6 = 0 ∧ (¬ r3 = 0 ∧ (jEv nX8_set (0, [(0, .ref 67), (1, .long (((M5.2 67 3) / r3) * (x1 / r6))), (3, .long (((M5.2 67 4) / r6) * (x3 / r3)))], [], M5) (fun o7 M8 => o7 = some none ∧ K (some none) M8))))))))))))))) : jEv nX8_times (0, [(0, .ref 67), (1, .long x1), (3, .long x3)], [], M) K := by
  have hE : jMT nX8_times = some me_X8_times := rfl
  refine e_seg (k := 3) (d := (5, [(0, .ref 67), (1, .long x1), (3, .long x3)], [.long x3, .long (M.2 67 3)], M)) rfl ?_
  refine e_call (q := 8) (L0 := [(0, .long (M.2 67 3)), (2, .long x3)]) hE rfl rfl rfl rfl (jargs_S rfl rfl rfl rfl (Nat.le_of_ble_eq_true rfl) (Nat.le_of_ble_eq_true rfl) (Nat.le_of_ble_eq_true rfl)) rfl rfl (jEv.mono h (fun o1 M2 h => ?_))
  obtain ⟨r3, rfl, h⟩ := h
  refine ⟨_, rfl, ?_⟩
  show jEv nX8_times (8, [(0, .ref 67), (1, .long x1), (3, .long x3)], [.long r3], M2) K
  refine e_seg (k := 4) (d := (15, [(0, .ref 67), (1, .long x1), (3, .long x3), (5, .long r3)], [.long (M2.2 67 4), .long x1], M2)) rfl ?_
  refine e_call (q := 18) (L0 := [(0, .long x1), (2, .long (M2.2 67 4))]) hE rfl rfl rfl rfl (jargs_S rfl rfl rfl rfl (Nat.le_of_ble_eq_true rfl) (Nat.le_of_ble_eq_true rfl) (Nat.le_of_ble_eq_true rfl)) rfl rfl (jEv.mono h (fun o4 M5 h => ?_))
  obtain ⟨r6, rfl, h⟩ := h
  refine ⟨_, rfl, ?_⟩
  show jEv nX8_times (18, [(0, .ref 67), (1, .long x1), (3, .long x3), (5, .long r3)], [.long r6], M5) K
  refine e_seg (k := 3) (d := (23, [(0, .ref 67), (1, .long x1), (3, .long x3), (5, .long r3), (7, .long r6)], [.long 0, .long r3], M5)) rfl ?_
  refine e_lc (t := 30) (q := 27) (pc1 := 24) hE rfl rfl rfl rfl rfl rfl (lc_ne r3 0) rfl rfl (fun hbr => ?_) (fun hbr => ?_)
  · replace h := h.2 hbr
    refine e_seg (k := 2) (d := (33, [(0, .ref 67), (1, .long x1), (3, .long x3), (5, .long r3), (7, .long r6)], [.long 0, .long r6], M5)) rfl ?_
    refine e_lc (t := 40) (q := 37) (pc1 := 34) hE rfl rfl rfl rfl rfl rfl (lc_ne r6 0) rfl rfl (fun hbr => ?_) (fun hbr => ?_)
    · replace h := h.2 hbr
      refine e_seg (k := 4) (d := (47, [(0, .ref 67), (1, .long x1), (3, .long x3), (5, .long r3), (7, .long r6)], [.long r3, .long (M5.2 67 3), .ref 67], M5)) rfl ?_
      refine e_ldiv (q := 48) hE rfl rfl rfl h.1 ?_
      replace h := h.2
      refine e_seg (k := 2) (d := (51, [(0, .ref 67), (1, .long x1), (3, .long x3), (5, .long r3), (7, .long r6)], [.long r6, .long x1, .long ((M5.2 67 3) / r3), .ref 67], M5)) rfl ?_
      refine e_ldiv (q := 52) hE rfl rfl rfl h.1 ?_
      replace h := h.2
      refine e_seg (k := 4) (d := (59, [(0, .ref 67), (1, .long x1), (3, .long x3), (5, .long r3), (7, .long r6)], [.long r6, .long (M5.2 67 4), .long (((M5.2 67 3) / r3) * (x1 / r6)), .ref 67], M5)) rfl ?_
      refine e_ldiv (q := 60) hE rfl rfl rfl h.1 ?_
      replace h := h.2
      refine e_seg (k := 2) (d := (63, [(0, .ref 67), (1, .long x1), (3, .long x3), (5, .long r3), (7, .long r6)], [.long r3, .long x3, .long ((M5.2 67 4) / r6), .long (((M5.2 67 3) / r3) * (x1 / r6)), .ref 67], M5)) rfl ?_
      refine e_ldiv (q := 64) hE rfl rfl rfl h.1 ?_
      replace h := h.2
      refine e_seg (k := 1) (d := (65, [(0, .ref 67), (1, .long x1), (3, .long x3), (5, .long r3), (7, .long r6)], [.long (((M5.2 67 4) / r6) * (x3 / r3)), .long (((M5.2 67 3) / r3) * (x1 / r6)), .ref 67], M5)) rfl ?_
      refine e_call (q := 68) (L0 := [(0, .ref 67), (1, .long (((M5.2 67 3) / r3) * (x1 / r6))), (3, .long (((M5.2 67 4) / r6) * (x3 / r3)))]) hE rfl rfl rfl rfl (jargs_V rfl rfl rfl rfl rfl (Nat.le_of_ble_eq_true rfl) (Nat.le_of_ble_eq_true rfl) (Nat.le_of_ble_eq_true rfl)) rfl rfl (jEv.mono h (fun o7 M8 h => ?_))
      obtain ⟨rfl, h⟩ := h
      refine ⟨_, rfl, ?_⟩
      show jEv nX8_times (68, [(0, .ref 67), (1, .long x1), (3, .long x3), (5, .long r3), (7, .long r6)], [], M8) K
      exact e_ret hE rfl rfl rfl h
    · replace h := h.1 (Classical.byContradiction hbr)
      refine e_seg (k := 6) (d := (47, [(0, .ref 67), (1, .long x1), (3, .long x3), (5, .long r3), (7, .long 1)], [.long r3, .long (M5.2 67 3), .ref 67], M5)) rfl ?_
      refine e_ldiv (q := 48) hE rfl rfl rfl h.1 ?_
      replace h := h.2
      refine e_seg (k := 2) (d := (51, [(0, .ref 67), (1, .long x1), (3, .long x3), (5, .long r3), (7, .long 1)], [.long 1, .long x1, .long ((M5.2 67 3) / r3), .ref 67], M5)) rfl ?_
      refine e_ldiv (q := 52) hE rfl rfl rfl (by decide) ?_
      refine e_seg (k := 4) (d := (59, [(0, .ref 67), (1, .long x1), (3, .long x3), (5, .long r3), (7, .long 1)], [.long 1, .long (M5.2 67 4), .long (((M5.2 67 3) / r3) * (x1 / 1)), .ref 67], M5)) rfl ?_
      refine e_ldiv (q := 60) hE rfl rfl rfl (by decide) ?_
      refine e_seg (k := 2) (d := (63, [(0, .ref 67), (1, .long x1), (3, .long x3), (5, .long r3), (7, .long 1)], [.long r3, .long x3, .long ((M5.2 67 4) / 1), .long (((M5.2 67 3) / r3) * (x1 / 1)), .ref 67], M5)) rfl ?_
      refine e_ldiv (q := 64) hE rfl rfl rfl h.1 ?_
      replace h := h.2
      refine e_seg (k := 1) (d := (65, [(0, .ref 67), (1, .long x1), (3, .long x3), (5, .long r3), (7, .long 1)], [.long (((M5.2 67 4) / 1) * (x3 / r3)), .long (((M5.2 67 3) / r3) * (x1 / 1)), .ref 67], M5)) rfl ?_
      refine e_call (q := 68) (L0 := [(0, .ref 67), (1, .long (((M5.2 67 3) / r3) * (x1 / 1))), (3, .long (((M5.2 67 4) / 1) * (x3 / r3)))]) hE rfl rfl rfl rfl (jargs_V rfl rfl rfl rfl rfl (Nat.le_of_ble_eq_true rfl) (Nat.le_of_ble_eq_true rfl) (Nat.le_of_ble_eq_true rfl)) rfl rfl (jEv.mono h (fun o9 M10 h => ?_))
      obtain ⟨rfl, h⟩ := h
      refine ⟨_, rfl, ?_⟩
      show jEv nX8_times (68, [(0, .ref 67), (1, .long x1), (3, .long x3), (5, .long r3), (7, .long 1)], [], M10) K
      exact e_ret hE rfl rfl rfl h
  · replace h := h.1 (Classical.byContradiction hbr)
    refine e_seg (k := 4) (d := (33, [(0, .ref 67), (1, .long x1), (3, .long x3), (5, .long 1), (7, .long r6)], [.long 0, .long r6], M5)) rfl ?_
    refine e_lc (t := 40) (q := 37) (pc1 := 34) hE rfl rfl rfl rfl rfl rfl (lc_ne r6 0) rfl rfl (fun hbr => ?_) (fun hbr => ?_)
    · replace h := h.2 hbr
      refine e_seg (k := 4) (d := (47, [(0, .ref 67), (1, .long x1), (3, .long x3), (5, .long 1), (7, .long r6)], [.long 1, .long (M5.2 67 3), .ref 67], M5)) rfl ?_
      refine e_ldiv (q := 48) hE rfl rfl rfl (by decide) ?_
      refine e_seg (k := 2) (d := (51, [(0, .ref 67), (1, .long x1), (3, .long x3), (5, .long 1), (7, .long r6)], [.long r6, .long x1, .long ((M5.2 67 3) / 1), .ref 67], M5)) rfl ?_
      refine e_ldiv (q := 52) hE rfl rfl rfl h.1 ?_
      replace h := h.2
      refine e_seg (k := 4) (d := (59, [(0, .ref 67), (1, .long x1), (3, .long x3), (5, .long 1), (7, .long r6)], [.long r6, .long (M5.2 67 4), .long (((M5.2 67 3) / 1) * (x1 / r6)), .ref 67], M5)) rfl ?_
      refine e_ldiv (q := 60) hE rfl rfl rfl h.1 ?_
      replace h := h.2
      refine e_seg (k := 2) (d := (63, [(0, .ref 67), (1, .long x1), (3, .long x3), (5, .long 1), (7, .long r6)], [.long 1, .long x3, .long ((M5.2 67 4) / r6), .long (((M5.2 67 3) / 1) * (x1 / r6)), .ref 67], M5)) rfl ?_
      refine e_ldiv (q := 64) hE rfl rfl rfl (by decide) ?_
      refine e_seg (k := 1) (d := (65, [(0, .ref 67), (1, .long x1), (3, .long x3), (5, .long 1), (7, .long r6)], [.long (((M5.2 67 4) / r6) * (x3 / 1)), .long (((M5.2 67 3) / 1) * (x1 / r6)), .ref 67], M5)) rfl ?_
      refine e_call (q := 68) (L0 := [(0, .ref 67), (1, .long (((M5.2 67 3) / 1) * (x1 / r6))), (3, .long (((M5.2 67 4) / r6) * (x3 / 1)))]) hE rfl rfl rfl rfl (jargs_V rfl rfl rfl rfl rfl (Nat.le_of_ble_eq_true rfl) (Nat.le_of_ble_eq_true rfl) (Nat.le_of_ble_eq_true rfl)) rfl rfl (jEv.mono h (fun o11 M12 h => ?_))
      obtain ⟨rfl, h⟩ := h
      refine ⟨_, rfl, ?_⟩
      show jEv nX8_times (68, [(0, .ref 67), (1, .long x1), (3, .long x3), (5, .long 1), (7, .long r6)], [], M12) K
      exact e_ret hE rfl rfl rfl h
    · replace h := h.1 (Classical.byContradiction hbr)
      refine e_seg (k := 6) (d := (47, [(0, .ref 67), (1, .long x1), (3, .long x3), (5, .long 1), (7, .long 1)], [.long 1, .long (M5.2 67 3), .ref 67], M5)) rfl ?_
      refine e_ldiv (q := 48) hE rfl rfl rfl (by decide) ?_
      refine e_seg (k := 2) (d := (51, [(0, .ref 67), (1, .long x1), (3, .long x3), (5, .long 1), (7, .long 1)], [.long 1, .long x1, .long ((M5.2 67 3) / 1), .ref 67], M5)) rfl ?_
      refine e_ldiv (q := 52) hE rfl rfl rfl (by decide) ?_
      refine e_seg (k := 4) (d := (59, [(0, .ref 67), (1, .long x1), (3, .long x3), (5, .long 1), (7, .long 1)], [.long 1, .long (M5.2 67 4), .long (((M5.2 67 3) / 1) * (x1 / 1)), .ref 67], M5)) rfl ?_
      refine e_ldiv (q := 60) hE rfl rfl rfl (by decide) ?_
      refine e_seg (k := 2) (d := (63, [(0, .ref 67), (1, .long x1), (3, .long x3), (5, .long 1), (7, .long 1)], [.long 1, .long x3, .long ((M5.2 67 4) / 1), .long (((M5.2 67 3) / 1) * (x1 / 1)), .ref 67], M5)) rfl ?_
      refine e_ldiv (q := 64) hE rfl rfl rfl (by decide) ?_
      refine e_seg (k := 1) (d := (65, [(0, .ref 67), (1, .long x1), (3, .long x3), (5, .long 1), (7, .long 1)], [.long (((M5.2 67 4) / 1) * (x3 / 1)), .long (((M5.2 67 3) / 1) * (x1 / 1)), .ref 67], M5)) rfl ?_
      refine e_call (q := 68) (L0 := [(0, .ref 67), (1, .long (((M5.2 67 3) / 1) * (x1 / 1))), (3, .long (((M5.2 67 4) / 1) * (x3 / 1)))]) hE rfl rfl rfl rfl (jargs_V rfl rfl rfl rfl rfl (Nat.le_of_ble_eq_true rfl) (Nat.le_of_ble_eq_true rfl) (Nat.le_of_ble_eq_true rfl)) rfl rfl (jEv.mono h (fun o13 M14 h => ?_))
      obtain ⟨rfl, h⟩ := h
      refine ⟨_, rfl, ?_⟩
      show jEv nX8_times (68, [(0, .ref 67), (1, .long x1), (3, .long x3), (5, .long 1), (7, .long 1)], [], M14) K
      exact e_ret hE rfl rfl rfl h
set_option maxRecDepth 100000 in
set_option maxHeartbeats 4000000 in
theorem v_X8_whole_0 {K : jK} {M : jM} {x1 : Int32} (h : (∀ M1 : jM, M1 = jsi M 67 0 0 → (jEv nX8_isBare (0, [(0, .ref 67), (1, .int x1)], [], M1) (fun o2 M3 => ∃ r4 : Int32, o2 = some (some (.int r4)) ∧ ((r4 = 0 → K (some (some (.int (-1)))) M3) ∧ (¬ r4 = 0 → jEv nX8_whole (19, [(0, .ref 67), (1, .int x1), (2, .int 0), (3, .int 0)], [], M3) K)))))) : jEv nX8_whole (0, [(0, .ref 67), (1, .int x1)], [], M) K := by
  have hE : jMT nX8_whole = some me_X8_whole := rfl
  refine e_seg (k := 2) (d := (2, [(0, .ref 67), (1, .int x1)], [.int 0, .ref 67], M)) rfl ?_
  refine e_put (q := 5) hE rfl rfl rfl rfl rfl rfl rfl ?_
  obtain ⟨M1, hM1⟩ : ∃ z : jM, z = jsi M 67 0 0 := ⟨_, rfl⟩
  refine jEv_M hM1 ?_
  replace h := h M1 hM1
  refine e_seg (k := 2) (d := (7, [(0, .ref 67), (1, .int x1)], [.int x1, .ref 67], M1)) rfl ?_
  refine e_call (q := 10) (L0 := [(0, .ref 67), (1, .int x1)]) hE rfl rfl rfl rfl (jargs_V rfl rfl rfl rfl rfl (Nat.le_of_ble_eq_true rfl) (Nat.le_of_ble_eq_true rfl) (Nat.le_of_ble_eq_true rfl)) rfl rfl (jEv.mono h (fun o2 M3 h => ?_))
  obtain ⟨r4, rfl, h⟩ := h
  refine ⟨_, rfl, ?_⟩
  show jEv nX8_whole (10, [(0, .ref 67), (1, .int x1)], [.int r4], M3) K
  refine e_if_ne (t := 15) (q := 13) hE rfl rfl rfl rfl (fun hbr => ?_) (fun hbr => ?_)
  · replace h := h.2 hbr
    refine e_seg (k := 4) (d := (19, [(0, .ref 67), (1, .int x1), (2, .int 0), (3, .int 0)], [], M3)) rfl ?_
    refine e_cut (ks := [0, 1, 2, 3]) (L' := [(0, .ref 67), (1, .int x1), (2, .int 0), (3, .int 0)]) hE rfl rfl rfl rfl rfl ?_
    exact h
  · replace h := h.1 hbr
    refine e_seg (k := 1) (d := (14, [(0, .ref 67), (1, .int x1)], [.int (-1)], M3)) rfl ?_
    exact e_ret hE rfl rfl (jb_i rfl) h
set_option maxRecDepth 100000 in
set_option maxHeartbeats 4000000 in
theorem v_X8_whole_19 {K : jK} {M : jM} {x1 : Int32} {x2 : Int32} {x3 : Int32} (h : (((M.1 67 27) ≤ x3 → K (some (some (.int x2))) M) ∧ (¬ (M.1 67 27) ≤ x3 → (jEv nX8_isWhole (0, [(0, .ref 67), (1, .int x1), (2, .int x3)], [], M) (fun o1 M2 => ∃ r3 : Int32, o1 = some (some (.int r3)) ∧ ((r3 = 0 → jEv nX8_whole (19, [(0, .ref 67), (1, .int x1), (2, .int (x2 + 0)), (3, .int (x3 + 1))], [], M2) K) ∧ (¬ r3 = 0 → jEv nX8_whole (19, [(0, .ref 67), (1, .int x1), (2, .int (x2 + 1)), (3, .int (x3 + 1))], [], M2) K))))))) : jEv nX8_whole (19, [(0, .ref 67), (1, .int x1), (2, .int x2), (3, .int x3)], [], M) K := by
  have hE : jMT nX8_whole = some me_X8_whole := rfl
  refine e_seg (k := 3) (d := (24, [(0, .ref 67), (1, .int x1), (2, .int x2), (3, .int x3)], [.int (M.1 67 27), .int x3], M)) rfl ?_
  refine e_ic_ge (t := 50) (q := 27) hE rfl rfl rfl rfl (fun hbr => ?_) (fun hbr => ?_)
  · replace h := h.1 hbr
    refine e_seg (k := 1) (d := (51, [(0, .ref 67), (1, .int x1), (2, .int x2), (3, .int x3)], [.int x2], M)) rfl ?_
    exact e_ret hE rfl rfl (jb_i rfl) h
  · replace h := h.2 hbr
    refine e_seg (k := 4) (d := (31, [(0, .ref 67), (1, .int x1), (2, .int x2), (3, .int x3)], [.int x3, .int x1, .ref 67, .int x2], M)) rfl ?_
    refine e_call (q := 34) (L0 := [(0, .ref 67), (1, .int x1), (2, .int x3)]) hE rfl rfl rfl rfl (jargs_V rfl rfl rfl rfl rfl (Nat.le_of_ble_eq_true rfl) (Nat.le_of_ble_eq_true rfl) (Nat.le_of_ble_eq_true rfl)) rfl rfl (jEv.mono h (fun o1 M2 h => ?_))
    obtain ⟨r3, rfl, h⟩ := h
    refine ⟨_, rfl, ?_⟩
    show jEv nX8_whole (34, [(0, .ref 67), (1, .int x1), (2, .int x2), (3, .int x3)], [.int r3, .int x2], M2) K
    refine e_if_eq (t := 41) (q := 37) hE rfl rfl rfl rfl (fun hbr => ?_) (fun hbr => ?_)
    · replace h := h.1 hbr
      refine e_seg (k := 5) (d := (19, [(0, .ref 67), (1, .int x1), (2, .int (x2 + 0)), (3, .int (x3 + 1))], [], M2)) rfl ?_
      refine e_cut (ks := [0, 1, 2, 3]) (L' := [(0, .ref 67), (1, .int x1), (2, .int (x2 + 0)), (3, .int (x3 + 1))]) hE rfl rfl rfl rfl rfl ?_
      exact h
    · replace h := h.2 hbr
      refine e_seg (k := 6) (d := (19, [(0, .ref 67), (1, .int x1), (2, .int (x2 + 1)), (3, .int (x3 + 1))], [], M2)) rfl ?_
      refine e_cut (ks := [0, 1, 2, 3]) (L' := [(0, .ref 67), (1, .int x1), (2, .int (x2 + 1)), (3, .int (x3 + 1))]) hE rfl rfl rfl rfl rfl ?_
      exact h
set_option maxRecDepth 100000 in
set_option maxHeartbeats 4000000 in
theorem v_X8_eliminate_0 {K : jK} {M : jM} {x1 : Int32} {x2 : Int32} (h : jEv nX8_eliminate (2, [(0, .ref 67), (1, .int x1), (2, .int x2), (3, .int x1)], [], M) K) : jEv nX8_eliminate (0, [(0, .ref 67), (1, .int x1), (2, .int x2)], [], M) K := by
  have hE : jMT nX8_eliminate = some me_X8_eliminate := rfl
  refine e_seg (k := 2) (d := (2, [(0, .ref 67), (1, .int x1), (2, .int x2), (3, .int x1)], [], M)) rfl ?_
  refine e_cut (ks := [0, 1, 2, 3]) (L' := [(0, .ref 67), (1, .int x1), (2, .int x2), (3, .int x1)]) hE rfl rfl rfl rfl rfl ?_
  exact h
set_option maxRecDepth 100000 in
set_option maxHeartbeats 4000000 in
theorem v_X8_eliminate_2 {K : jK} {M : jM} {x1 : Int32} {x2 : Int32} {x3 : Int32} (h : (¬ ((5 * x3) + x1 < 0 ∨ 20 ≤ ((5 * x3) + x1).toNatClampNeg) ∧ (((M.2 81 ((5 * x3) + x1).toNatClampNeg) = 0 → jEv nX8_eliminate (2, [(0, .ref 67), (1, .int x1), (2, .int x2), (3, .int (x3 + 1))], [], M) K) ∧ (¬ (M.2 81 ((5 * x3) + x1).toNatClampNeg) = 0 → jEv nX8_eliminate (26, [(0, .ref 67), (1, .int x1), (2, .int x2), (3, .int x3), (4, .int 0)], [], M) K)))) : jEv nX8_eliminate (2, [(0, .ref 67), (1, .int x1), (2, .int x2), (3, .int x3)], [], M) K := by
  have hE : jMT nX8_eliminate = some me_X8_eliminate := rfl
  refine e_seg (k := 7) (d := (11, [(0, .ref 67), (1, .int x1), (2, .int x2), (3, .int x3)], [.int ((5 * x3) + x1), .ref 81], M)) rfl ?_
  refine e_lald (q := 12) hE rfl rfl rfl rfl h.1 ?_
  replace h := h.2
  refine e_seg (k := 1) (d := (13, [(0, .ref 67), (1, .int x1), (2, .int x2), (3, .int x3)], [.long 0, .long (M.2 81 ((5 * x3) + x1).toNatClampNeg)], M)) rfl ?_
  refine e_lc (t := 23) (q := 17) (pc1 := 14) hE rfl rfl rfl rfl rfl rfl (lc_ne (M.2 81 ((5 * x3) + x1).toNatClampNeg) 0) rfl rfl (fun hbr => ?_) (fun hbr => ?_)
  · replace h := h.2 hbr
    refine e_seg (k := 2) (d := (26, [(0, .ref 67), (1, .int x1), (2, .int x2), (3, .int x3), (4, .int 0)], [], M)) rfl ?_
    refine e_cut (ks := [0, 1, 2, 3, 4]) (L' := [(0, .ref 67), (1, .int x1), (2, .int x2), (3, .int x3), (4, .int 0)]) hE rfl rfl rfl rfl rfl ?_
    exact h
  · replace h := h.1 (Classical.byContradiction hbr)
    refine e_seg (k := 2) (d := (2, [(0, .ref 67), (1, .int x1), (2, .int x2), (3, .int (x3 + 1))], [], M)) rfl ?_
    refine e_cut (ks := [0, 1, 2, 3]) (L' := [(0, .ref 67), (1, .int x1), (2, .int x2), (3, .int (x3 + 1))]) hE rfl rfl rfl rfl rfl ?_
    exact h
set_option maxRecDepth 100000 in
set_option maxHeartbeats 4000000 in
theorem v_X8_eliminate_26 {K : jK} {M : jM} {x1 : Int32} {x2 : Int32} {x3 : Int32} {x4 : Int32} (h : ((5 ≤ x4 → jEv nX8_eliminate (137, [(0, .ref 67), (1, .int x1), (2, .int x2), (4, .int 0)], [], M) K) ∧ (¬ 5 ≤ x4 → (¬ ((5 * x1) + x4 < 0 ∨ 20 ≤ ((5 * x1) + x4).toNatClampNeg) ∧ (¬ ((5 * x1) + x4 < 0 ∨ 20 ≤ ((5 * x1) + x4).toNatClampNeg) ∧ (¬ ((5 * x3) + x4 < 0 ∨ 20 ≤ ((5 * x3) + x4).toNatClampNeg) ∧ (¬ ((5 * x1) + x4 < 0 ∨ 20 ≤ ((5 * x1) + x4).toNatClampNeg) ∧ (∀ M1 : jM, M1 = jsl M 81 (((5 * x1) + x4).toNatClampNeg) (M.2 81 ((5 * x3) + x4).toNatClampNeg) → (¬ ((5 * x3) + x4 < 0 ∨ 20 ≤ ((5 * x3) + x4).toNatClampNeg) ∧ (¬ ((5 * x1) + x4 < 0 ∨ 20 ≤ ((5 * x1) + x4).toNatClampNeg) ∧ (∀ M2 : jM, M2 = jsl M1 82 (((5 * x1) + x4).toNatClampNeg) (M1.2 82 ((5 * x3) + x4).toNatClampNeg) → (¬ ((5 * x3) + x4 < 0 ∨ 20 ≤ ((5 * x3) + x4).toNatClampNeg) ∧ (∀ M3 : jM, M3 = jsl M2 81 (((5 * x3) + x4).toNatClampNeg) (M.2 81 ((5 * x1) + x4).toNatClampNeg) → (¬ ((5 * x3) + x4 < 0 ∨ 20 ≤ ((5 * x3) + x4).toNatClampNeg) ∧ (∀ M4 : jM, M4 = jsl M3 82 (((5 * x3) + x4).toNatClampNeg) (M.2 82 ((5 * x1) + x4).toNatClampNeg) → jEv nX8_eliminate (26, [(0, .ref 67), (1, .int x1), (2, .int x2), (3, .int x3), (4, .int (x4 + 1))], [], M4) K))))))))))))))) : jEv nX8_eliminate (26, [(0, .ref 67), (1, .int x1), (2, .int x2), (3, .int x3), (4, .int x4)], [], M) K := by
  have hE : jMT nX8_eliminate = some me_X8_eliminate := rfl
  refine e_seg (k := 2) (d := (29, [(0, .ref 67), (1, .int x1), (2, .int x2), (3, .int x3), (4, .int x4)], [.int 5, .int x4], M)) rfl ?_
  refine e_ic_ge (t := 134) (q := 32) hE rfl rfl rfl rfl (fun hbr => ?_) (fun hbr => ?_)
  · replace h := h.1 hbr
    refine e_seg (k := 2) (d := (137, [(0, .ref 67), (1, .int x1), (2, .int x2), (3, .int x3), (4, .int 0)], [], M)) rfl ?_
    refine e_cut (ks := [0, 1, 2, 4]) (L' := [(0, .ref 67), (1, .int x1), (2, .int x2), (4, .int 0)]) hE rfl rfl rfl rfl rfl ?_
    exact h
  · replace h := h.2 hbr
    refine e_seg (k := 7) (d := (42, [(0, .ref 67), (1, .int x1), (2, .int x2), (3, .int x3), (4, .int x4)], [.int ((5 * x1) + x4), .ref 81], M)) rfl ?_
    refine e_lald (q := 43) hE rfl rfl rfl rfl h.1 ?_
    replace h := h.2
    refine e_seg (k := 8) (d := (55, [(0, .ref 67), (1, .int x1), (2, .int x2), (3, .int x3), (4, .int x4), (5, .long (M.2 81 ((5 * x1) + x4).toNatClampNeg))], [.int ((5 * x1) + x4), .ref 82], M)) rfl ?_
    refine e_lald (q := 56) hE rfl rfl rfl rfl h.1 ?_
    replace h := h.2
    refine e_seg (k := 15) (d := (78, [(0, .ref 67), (1, .int x1), (2, .int x2), (3, .int x3), (4, .int x4), (5, .long (M.2 81 ((5 * x1) + x4).toNatClampNeg)), (7, .long (M.2 82 ((5 * x1) + x4).toNatClampNeg))], [.int ((5 * x3) + x4), .ref 81, .int ((5 * x1) + x4), .ref 81], M)) rfl ?_
    refine e_lald (q := 79) hE rfl rfl rfl rfl h.1 ?_
    replace h := h.2
    refine e_last (q := 80) hE rfl rfl rfl rfl h.1 ?_
    replace h := h.2
    obtain ⟨M1, hM1⟩ : ∃ z : jM, z = jsl M 81 (((5 * x1) + x4).toNatClampNeg) (M.2 81 ((5 * x3) + x4).toNatClampNeg) := ⟨_, rfl⟩
    refine jEv_M hM1 ?_
    replace h := h M1 hM1
    refine e_seg (k := 14) (d := (100, [(0, .ref 67), (1, .int x1), (2, .int x2), (3, .int x3), (4, .int x4), (5, .long (M.2 81 ((5 * x1) + x4).toNatClampNeg)), (7, .long (M.2 82 ((5 * x1) + x4).toNatClampNeg))], [.int ((5 * x3) + x4), .ref 82, .int ((5 * x1) + x4), .ref 82], M1)) rfl ?_
    refine e_lald (q := 101) hE rfl rfl rfl rfl h.1 ?_
    replace h := h.2
    refine e_last (q := 102) hE rfl rfl rfl rfl h.1 ?_
    replace h := h.2
    obtain ⟨M2, hM2⟩ : ∃ z : jM, z = jsl M1 82 (((5 * x1) + x4).toNatClampNeg) (M1.2 82 ((5 * x3) + x4).toNatClampNeg) := ⟨_, rfl⟩
    refine jEv_M hM2 ?_
    replace h := h M2 hM2
    refine e_seg (k := 8) (d := (114, [(0, .ref 67), (1, .int x1), (2, .int x2), (3, .int x3), (4, .int x4), (5, .long (M.2 81 ((5 * x1) + x4).toNatClampNeg)), (7, .long (M.2 82 ((5 * x1) + x4).toNatClampNeg))], [.long (M.2 81 ((5 * x1) + x4).toNatClampNeg), .int ((5 * x3) + x4), .ref 81], M2)) rfl ?_
    refine e_last (q := 115) hE rfl rfl rfl rfl h.1 ?_
    replace h := h.2
    obtain ⟨M3, hM3⟩ : ∃ z : jM, z = jsl M2 81 (((5 * x3) + x4).toNatClampNeg) (M.2 81 ((5 * x1) + x4).toNatClampNeg) := ⟨_, rfl⟩
    refine jEv_M hM3 ?_
    replace h := h M3 hM3
    refine e_seg (k := 8) (d := (127, [(0, .ref 67), (1, .int x1), (2, .int x2), (3, .int x3), (4, .int x4), (5, .long (M.2 81 ((5 * x1) + x4).toNatClampNeg)), (7, .long (M.2 82 ((5 * x1) + x4).toNatClampNeg))], [.long (M.2 82 ((5 * x1) + x4).toNatClampNeg), .int ((5 * x3) + x4), .ref 82], M3)) rfl ?_
    refine e_last (q := 128) hE rfl rfl rfl rfl h.1 ?_
    replace h := h.2
    obtain ⟨M4, hM4⟩ : ∃ z : jM, z = jsl M3 82 (((5 * x3) + x4).toNatClampNeg) (M.2 82 ((5 * x1) + x4).toNatClampNeg) := ⟨_, rfl⟩
    refine jEv_M hM4 ?_
    replace h := h M4 hM4
    refine e_seg (k := 2) (d := (26, [(0, .ref 67), (1, .int x1), (2, .int x2), (3, .int x3), (4, .int (x4 + 1)), (5, .long (M.2 81 ((5 * x1) + x4).toNatClampNeg)), (7, .long (M.2 82 ((5 * x1) + x4).toNatClampNeg))], [], M4)) rfl ?_
    refine e_cut (ks := [0, 1, 2, 3, 4]) (L' := [(0, .ref 67), (1, .int x1), (2, .int x2), (3, .int x3), (4, .int (x4 + 1))]) hE rfl rfl rfl rfl rfl ?_
    exact h
set_option maxRecDepth 100000 in
set_option maxHeartbeats 4000000 in
theorem v_X8_eliminate_137 {K : jK} {M : jM} {x1 : Int32} {x2 : Int32} {x4 : Int32} (h : ((x2 ≤ x4 → K (some none) M) ∧ (¬ x2 ≤ x4 → ((x4 = x1 → jEv nX8_eliminate (137, [(0, .ref 67), (1, .int x1), (2, .int x2), (4, .int (x4 + 1))], [], M) K) ∧ (¬ x4 = x1 → (¬ ((5 * x4) + x1 < 0 ∨ 20 ≤ ((5 * x4) + x1).toNatClampNeg) ∧ (((M.2 81 ((5 * x4) + x1).toNatClampNeg) = 0 → jEv nX8_eliminate (137, [(0, .ref 67), (1, .int x1), (2, .int x2), (4, .int (x4 + 1))], [], M) K) ∧ (¬ (M.2 81 ((5 * x4) + x1).toNatClampNeg) = 0 → (¬ ((5 * x4) + x1 < 0 ∨ 20 ≤ ((5 * x4) + x1).toNatClampNeg) ∧ (¬ ((5 * x4) + x1 < 0 ∨ 20 ≤ ((5 * x4) + x1).toNatClampNeg) ∧ (jEv nX8_set (0, [(0, .ref 67), (1, .long (M.2 81 ((5 * x4) + x1).toNatClampNeg)), (3, .long (M.2 82 ((5 * x4) + x1).toNatClampNeg))], [], M) (fun o1 M2 => o1 = some none ∧ (¬ ((5 * x1) + x1 < 0 ∨ 20 ≤ ((5 * x1) + x1).toNatClampNeg) ∧ (¬ ((5 * x1) + x1 < 0 ∨ 20 ≤ ((5 * x1) + x1).toNatClampNeg) ∧ (jEv nX8_times (0, [(0, .ref 67), (1, .long (M2.2 82 ((5 * x1) + x1).toNatClampNeg)), (3, .long (M2.2 81 ((5 * x1) + x1).toNatClampNeg))], [], M2) (fun o3 M4 => o3 = some none ∧ jEv nX8_eliminate (234, [(0, .ref 67), (1, .int x1), (2, .int x2), (4, .int x4), (5, .long (-(M4.2 67 3))), (7, .long (M4.2 67 4)), (9, .int 0)], [], M4) K)))))))))))))))) : jEv nX8_eliminate (137, [(0, .ref 67), (1, .int x1), (2, .int x2), (4, .int x4)], [], M) K := by
  have hE : jMT nX8_eliminate = some me_X8_eliminate := rfl
  refine e_seg (k := 2) (d := (140, [(0, .ref 67), (1, .int x1), (2, .int x2), (4, .int x4)], [.int x2, .int x4], M)) rfl ?_
  refine e_ic_ge (t := 363) (q := 143) hE rfl rfl rfl rfl (fun hbr => ?_) (fun hbr => ?_)
  · replace h := h.1 hbr
    exact e_ret hE rfl rfl rfl h
  · replace h := h.2 hbr
    refine e_seg (k := 2) (d := (146, [(0, .ref 67), (1, .int x1), (2, .int x2), (4, .int x4)], [.int x1, .int x4], M)) rfl ?_
    refine e_ic_eq (t := 357) (q := 149) hE rfl rfl rfl rfl (fun hbr => ?_) (fun hbr => ?_)
    · replace h := h.1 hbr
      refine e_seg (k := 2) (d := (137, [(0, .ref 67), (1, .int x1), (2, .int x2), (4, .int (x4 + 1))], [], M)) rfl ?_
      refine e_cut (ks := [0, 1, 2, 4]) (L' := [(0, .ref 67), (1, .int x1), (2, .int x2), (4, .int (x4 + 1))]) hE rfl rfl rfl rfl rfl ?_
      exact h
    · replace h := h.2 hbr
      refine e_seg (k := 7) (d := (159, [(0, .ref 67), (1, .int x1), (2, .int x2), (4, .int x4)], [.int ((5 * x4) + x1), .ref 81], M)) rfl ?_
      refine e_lald (q := 160) hE rfl rfl rfl rfl h.1 ?_
      replace h := h.2
      refine e_seg (k := 1) (d := (161, [(0, .ref 67), (1, .int x1), (2, .int x2), (4, .int x4)], [.long 0, .long (M.2 81 ((5 * x4) + x1).toNatClampNeg)], M)) rfl ?_
      refine e_lc (t := 168) (q := 165) (pc1 := 162) hE rfl rfl rfl rfl rfl rfl (lc_ne (M.2 81 ((5 * x4) + x1).toNatClampNeg) 0) rfl rfl (fun hbr => ?_) (fun hbr => ?_)
      · replace h := h.2 hbr
        refine e_seg (k := 8) (d := (179, [(0, .ref 67), (1, .int x1), (2, .int x2), (4, .int x4)], [.int ((5 * x4) + x1), .ref 81, .ref 67], M)) rfl ?_
        refine e_lald (q := 180) hE rfl rfl rfl rfl h.1 ?_
        replace h := h.2
        refine e_seg (k := 7) (d := (190, [(0, .ref 67), (1, .int x1), (2, .int x2), (4, .int x4)], [.int ((5 * x4) + x1), .ref 82, .long (M.2 81 ((5 * x4) + x1).toNatClampNeg), .ref 67], M)) rfl ?_
        refine e_lald (q := 191) hE rfl rfl rfl rfl h.1 ?_
        replace h := h.2
        refine e_call (q := 194) (L0 := [(0, .ref 67), (1, .long (M.2 81 ((5 * x4) + x1).toNatClampNeg)), (3, .long (M.2 82 ((5 * x4) + x1).toNatClampNeg))]) hE rfl rfl rfl rfl (jargs_V rfl rfl rfl rfl rfl (Nat.le_of_ble_eq_true rfl) (Nat.le_of_ble_eq_true rfl) (Nat.le_of_ble_eq_true rfl)) rfl rfl (jEv.mono h (fun o1 M2 h => ?_))
        obtain ⟨rfl, h⟩ := h
        refine ⟨_, rfl, ?_⟩
        show jEv nX8_eliminate (194, [(0, .ref 67), (1, .int x1), (2, .int x2), (4, .int x4)], [], M2) K
        refine e_seg (k := 8) (d := (204, [(0, .ref 67), (1, .int x1), (2, .int x2), (4, .int x4)], [.int ((5 * x1) + x1), .ref 82, .ref 67], M2)) rfl ?_
        refine e_lald (q := 205) hE rfl rfl rfl rfl h.1 ?_
        replace h := h.2
        refine e_seg (k := 7) (d := (214, [(0, .ref 67), (1, .int x1), (2, .int x2), (4, .int x4)], [.int ((5 * x1) + x1), .ref 81, .long (M2.2 82 ((5 * x1) + x1).toNatClampNeg), .ref 67], M2)) rfl ?_
        refine e_lald (q := 215) hE rfl rfl rfl rfl h.1 ?_
        replace h := h.2
        refine e_call (q := 218) (L0 := [(0, .ref 67), (1, .long (M2.2 82 ((5 * x1) + x1).toNatClampNeg)), (3, .long (M2.2 81 ((5 * x1) + x1).toNatClampNeg))]) hE rfl rfl rfl rfl (jargs_V rfl rfl rfl rfl rfl (Nat.le_of_ble_eq_true rfl) (Nat.le_of_ble_eq_true rfl) (Nat.le_of_ble_eq_true rfl)) rfl rfl (jEv.mono h (fun o3 M4 h => ?_))
        obtain ⟨rfl, h⟩ := h
        refine ⟨_, rfl, ?_⟩
        show jEv nX8_eliminate (218, [(0, .ref 67), (1, .int x1), (2, .int x2), (4, .int x4)], [], M4) K
        refine e_seg (k := 9) (d := (234, [(0, .ref 67), (1, .int x1), (2, .int x2), (4, .int x4), (5, .long (-(M4.2 67 3))), (7, .long (M4.2 67 4)), (9, .int 0)], [], M4)) rfl ?_
        refine e_cut (ks := [0, 1, 2, 4, 5, 7, 9]) (L' := [(0, .ref 67), (1, .int x1), (2, .int x2), (4, .int x4), (5, .long (-(M4.2 67 3))), (7, .long (M4.2 67 4)), (9, .int 0)]) hE rfl rfl rfl rfl rfl ?_
        exact h
      · replace h := h.1 (Classical.byContradiction hbr)
        refine e_seg (k := 3) (d := (137, [(0, .ref 67), (1, .int x1), (2, .int x2), (4, .int (x4 + 1))], [], M)) rfl ?_
        refine e_cut (ks := [0, 1, 2, 4]) (L' := [(0, .ref 67), (1, .int x1), (2, .int x2), (4, .int (x4 + 1))]) hE rfl rfl rfl rfl rfl ?_
        exact h
set_option maxRecDepth 100000 in
set_option maxHeartbeats 4000000 in
theorem v_X8_eliminate_234 {K : jK} {M : jM} {x1 : Int32} {x2 : Int32} {x4 : Int32} {x5 : Int64} {x7 : Int64} {x9 : Int32} (h : ((5 ≤ x9 → jEv nX8_eliminate (137, [(0, .ref 67), (1, .int x1), (2, .int x2), (4, .int (x4 + 1))], [], M) K) ∧ (¬ 5 ≤ x9 → ((x9 ≤ (x2 - 1) → (¬ ((5 * x1) + x9 < 0 ∨ 20 ≤ ((5 * x1) + x9).toNatClampNeg) ∧ (¬ ((5 * x1) + x9 < 0 ∨ 20 ≤ ((5 * x1) + x9).toNatClampNeg) ∧ (jEv nX8_set (0, [(0, .ref 67), (1, .long (M.2 81 ((5 * x1) + x9).toNatClampNeg)), (3, .long (M.2 82 ((5 * x1) + x9).toNatClampNeg))], [], M) (fun o1 M2 => o1 = some none ∧ (jEv nX8_times (0, [(0, .ref 67), (1, .long x5), (3, .long x7)], [], M2) (fun o3 M4 => o3 = some none ∧ (¬ ((5 * x4) + x9 < 0 ∨ 20 ≤ ((5 * x4) + x9).toNatClampNeg) ∧ (¬ ((5 * x4) + x9 < 0 ∨ 20 ≤ ((5 * x4) + x9).toNatClampNeg) ∧ (jEv nX8_plus (0, [(0, .ref 67), (1, .long (M4.2 81 ((5 * x4) + x9).toNatClampNeg)), (3, .long (M4.2 82 ((5 * x4) + x9).toNatClampNeg))], [], M4) (fun o5 M6 => o5 = some none ∧ (¬ ((5 * x4) + x9 < 0 ∨ 20 ≤ ((5 * x4) + x9).toNatClampNeg) ∧ (∀ M7 : jM, M7 = jsl M6 81 (((5 * x4) + x9).toNatClampNeg) (M6.2 67 3) → (¬ ((5 * x4) + x9 < 0 ∨ 20 ≤ ((5 * x4) + x9).toNatClampNeg) ∧ (∀ M8 : jM, M8 = jsl M7 82 (((5 * x4) + x9).toNatClampNeg) (M7.2 67 4) → jEv nX8_eliminate (234, [(0, .ref 67), (1, .int x1), (2, .int x2), (4, .int x4), (5, .long x5), (7, .long x7), (9, .int (x9 + 1))], [], M8) K))))))))))))))) ∧ (¬ x9 ≤ (x2 - 1) → ((4 ≤ x9 → (¬ ((5 * x1) + x9 < 0 ∨ 20 ≤ ((5 * x1) + x9).toNatClampNeg) ∧ (¬ ((5 * x1) + x9 < 0 ∨ 20 ≤ ((5 * x1) + x9).toNatClampNeg) ∧ (jEv nX8_set (0, [(0, .ref 67), (1, .long (M.2 81 ((5 * x1) + x9).toNatClampNeg)), (3, .long (M.2 82 ((5 * x1) + x9).toNatClampNeg))], [], M) (fun o9 M10 => o9 = some none ∧ (jEv nX8_times (0, [(0, .ref 67), (1, .long x5), (3, .long x7)], [], M10) (fun o11 M12 => o11 = some none ∧ (¬ ((5 * x4) + x9 < 0 ∨ 20 ≤ ((5 * x4) + x9).toNatClampNeg) ∧ (¬ ((5 * x4) + x9 < 0 ∨ 20 ≤ ((5 * x4) + x9).toNatClampNeg) ∧ (jEv nX8_plus (0, [(0, .ref 67), (1, .long (M12.2 81 ((5 * x4) + x9).toNatClampNeg)), (3, .long (M12.2 82 ((5 * x4) + x9).toNatClampNeg))], [], M12) (fun o13 M14 => o13 = some none ∧ (¬ ((5 * x4) + x9 < 0 ∨ 20 ≤ ((5 * x4) + x9).toNatClampNeg) ∧ (∀ M15 : jM, M15 = jsl M14 81 (((5 * x4) + x9).toNatClampNeg) (M14.2 67 3) → (¬ ((5 * x4) + x9 < 0 ∨ 20 ≤ ((5 * x4) + x9).toNatClampNeg) ∧ (∀ M16 : jM, M16 = jsl M15 82 (((5 * x4) + x9).toNatClampNeg) (M15.2 67 4) → jEv nX8_eliminate (234, [(0, .ref 67), (1, .int x1), (2, .int x2), (4, .int x4), (5, .long x5), (7, .long x7), (9, .int (x9 + 1))], [], M16) K))))))))))))))) ∧ (¬ 4 ≤ x9 → jEv nX8_eliminate (234, [(0, .ref 67), (1, .int x1), (2, .int x2), (4, .int x4), (5, .long x5), (7, .long x7), (9, .int (x9 + 1))], [], M) K))))))) : jEv nX8_eliminate (234, [(0, .ref 67), (1, .int x1), (2, .int x2), (4, .int x4), (5, .long x5), (7, .long x7), (9, .int x9)], [], M) K := by
  have hE : jMT nX8_eliminate = some me_X8_eliminate := rfl
  refine e_seg (k := 2) (d := (237, [(0, .ref 67), (1, .int x1), (2, .int x2), (4, .int x4), (5, .long x5), (7, .long x7), (9, .int x9)], [.int 5, .int x9], M)) rfl ?_
  refine e_ic_ge (t := 357) (q := 240) hE rfl rfl rfl rfl (fun hbr => ?_) (fun hbr => ?_)
  · replace h := h.1 hbr
    refine e_seg (k := 2) (d := (137, [(0, .ref 67), (1, .int x1), (2, .int x2), (4, .int (x4 + 1)), (5, .long x5), (7, .long x7), (9, .int x9)], [], M)) rfl ?_
    refine e_cut (ks := [0, 1, 2, 4]) (L' := [(0, .ref 67), (1, .int x1), (2, .int x2), (4, .int (x4 + 1))]) hE rfl rfl rfl rfl rfl ?_
    exact h
  · replace h := h.2 hbr
    refine e_seg (k := 4) (d := (245, [(0, .ref 67), (1, .int x1), (2, .int x2), (4, .int x4), (5, .long x5), (7, .long x7), (9, .int x9)], [.int (x2 - 1), .int x9], M)) rfl ?_
    refine e_ic_le (t := 257) (q := 248) hE rfl rfl rfl rfl (fun hbr => ?_) (fun hbr => ?_)
    · replace h := h.1 hbr
      refine e_seg (k := 8) (d := (268, [(0, .ref 67), (1, .int x1), (2, .int x2), (4, .int x4), (5, .long x5), (7, .long x7), (9, .int x9)], [.int ((5 * x1) + x9), .ref 81, .ref 67], M)) rfl ?_
      refine e_lald (q := 269) hE rfl rfl rfl rfl h.1 ?_
      replace h := h.2
      refine e_seg (k := 7) (d := (279, [(0, .ref 67), (1, .int x1), (2, .int x2), (4, .int x4), (5, .long x5), (7, .long x7), (9, .int x9)], [.int ((5 * x1) + x9), .ref 82, .long (M.2 81 ((5 * x1) + x9).toNatClampNeg), .ref 67], M)) rfl ?_
      refine e_lald (q := 280) hE rfl rfl rfl rfl h.1 ?_
      replace h := h.2
      refine e_call (q := 283) (L0 := [(0, .ref 67), (1, .long (M.2 81 ((5 * x1) + x9).toNatClampNeg)), (3, .long (M.2 82 ((5 * x1) + x9).toNatClampNeg))]) hE rfl rfl rfl rfl (jargs_V rfl rfl rfl rfl rfl (Nat.le_of_ble_eq_true rfl) (Nat.le_of_ble_eq_true rfl) (Nat.le_of_ble_eq_true rfl)) rfl rfl (jEv.mono h (fun o1 M2 h => ?_))
      obtain ⟨rfl, h⟩ := h
      refine ⟨_, rfl, ?_⟩
      show jEv nX8_eliminate (283, [(0, .ref 67), (1, .int x1), (2, .int x2), (4, .int x4), (5, .long x5), (7, .long x7), (9, .int x9)], [], M2) K
      refine e_seg (k := 3) (d := (288, [(0, .ref 67), (1, .int x1), (2, .int x2), (4, .int x4), (5, .long x5), (7, .long x7), (9, .int x9)], [.long x7, .long x5, .ref 67], M2)) rfl ?_
      refine e_call (q := 291) (L0 := [(0, .ref 67), (1, .long x5), (3, .long x7)]) hE rfl rfl rfl rfl (jargs_V rfl rfl rfl rfl rfl (Nat.le_of_ble_eq_true rfl) (Nat.le_of_ble_eq_true rfl) (Nat.le_of_ble_eq_true rfl)) rfl rfl (jEv.mono h (fun o3 M4 h => ?_))
      obtain ⟨rfl, h⟩ := h
      refine ⟨_, rfl, ?_⟩
      show jEv nX8_eliminate (291, [(0, .ref 67), (1, .int x1), (2, .int x2), (4, .int x4), (5, .long x5), (7, .long x7), (9, .int x9)], [], M4) K
      refine e_seg (k := 8) (d := (303, [(0, .ref 67), (1, .int x1), (2, .int x2), (4, .int x4), (5, .long x5), (7, .long x7), (9, .int x9)], [.int ((5 * x4) + x9), .ref 81, .ref 67], M4)) rfl ?_
      refine e_lald (q := 304) hE rfl rfl rfl rfl h.1 ?_
      replace h := h.2
      refine e_seg (k := 7) (d := (315, [(0, .ref 67), (1, .int x1), (2, .int x2), (4, .int x4), (5, .long x5), (7, .long x7), (9, .int x9)], [.int ((5 * x4) + x9), .ref 82, .long (M4.2 81 ((5 * x4) + x9).toNatClampNeg), .ref 67], M4)) rfl ?_
      refine e_lald (q := 316) hE rfl rfl rfl rfl h.1 ?_
      replace h := h.2
      refine e_call (q := 319) (L0 := [(0, .ref 67), (1, .long (M4.2 81 ((5 * x4) + x9).toNatClampNeg)), (3, .long (M4.2 82 ((5 * x4) + x9).toNatClampNeg))]) hE rfl rfl rfl rfl (jargs_V rfl rfl rfl rfl rfl (Nat.le_of_ble_eq_true rfl) (Nat.le_of_ble_eq_true rfl) (Nat.le_of_ble_eq_true rfl)) rfl rfl (jEv.mono h (fun o5 M6 h => ?_))
      obtain ⟨rfl, h⟩ := h
      refine ⟨_, rfl, ?_⟩
      show jEv nX8_eliminate (319, [(0, .ref 67), (1, .int x1), (2, .int x2), (4, .int x4), (5, .long x5), (7, .long x7), (9, .int x9)], [], M6) K
      refine e_seg (k := 9) (d := (334, [(0, .ref 67), (1, .int x1), (2, .int x2), (4, .int x4), (5, .long x5), (7, .long x7), (9, .int x9)], [.long (M6.2 67 3), .int ((5 * x4) + x9), .ref 81], M6)) rfl ?_
      refine e_last (q := 335) hE rfl rfl rfl rfl h.1 ?_
      replace h := h.2
      obtain ⟨M7, hM7⟩ : ∃ z : jM, z = jsl M6 81 (((5 * x4) + x9).toNatClampNeg) (M6.2 67 3) := ⟨_, rfl⟩
      refine jEv_M hM7 ?_
      replace h := h M7 hM7
      refine e_seg (k := 9) (d := (350, [(0, .ref 67), (1, .int x1), (2, .int x2), (4, .int x4), (5, .long x5), (7, .long x7), (9, .int x9)], [.long (M7.2 67 4), .int ((5 * x4) + x9), .ref 82], M7)) rfl ?_
      refine e_last (q := 351) hE rfl rfl rfl rfl h.1 ?_
      replace h := h.2
      obtain ⟨M8, hM8⟩ : ∃ z : jM, z = jsl M7 82 (((5 * x4) + x9).toNatClampNeg) (M7.2 67 4) := ⟨_, rfl⟩
      refine jEv_M hM8 ?_
      replace h := h M8 hM8
      refine e_seg (k := 2) (d := (234, [(0, .ref 67), (1, .int x1), (2, .int x2), (4, .int x4), (5, .long x5), (7, .long x7), (9, .int (x9 + 1))], [], M8)) rfl ?_
      refine e_cut (ks := [0, 1, 2, 4, 5, 7, 9]) (L' := [(0, .ref 67), (1, .int x1), (2, .int x2), (4, .int x4), (5, .long x5), (7, .long x7), (9, .int (x9 + 1))]) hE rfl rfl rfl rfl rfl ?_
      exact h
    · replace h := h.2 hbr
      refine e_seg (k := 2) (d := (251, [(0, .ref 67), (1, .int x1), (2, .int x2), (4, .int x4), (5, .long x5), (7, .long x7), (9, .int x9)], [.int 4, .int x9], M)) rfl ?_
      refine e_ic_ge (t := 257) (q := 254) hE rfl rfl rfl rfl (fun hbr => ?_) (fun hbr => ?_)
      · replace h := h.1 hbr
        refine e_seg (k := 8) (d := (268, [(0, .ref 67), (1, .int x1), (2, .int x2), (4, .int x4), (5, .long x5), (7, .long x7), (9, .int x9)], [.int ((5 * x1) + x9), .ref 81, .ref 67], M)) rfl ?_
        refine e_lald (q := 269) hE rfl rfl rfl rfl h.1 ?_
        replace h := h.2
        refine e_seg (k := 7) (d := (279, [(0, .ref 67), (1, .int x1), (2, .int x2), (4, .int x4), (5, .long x5), (7, .long x7), (9, .int x9)], [.int ((5 * x1) + x9), .ref 82, .long (M.2 81 ((5 * x1) + x9).toNatClampNeg), .ref 67], M)) rfl ?_
        refine e_lald (q := 280) hE rfl rfl rfl rfl h.1 ?_
        replace h := h.2
        refine e_call (q := 283) (L0 := [(0, .ref 67), (1, .long (M.2 81 ((5 * x1) + x9).toNatClampNeg)), (3, .long (M.2 82 ((5 * x1) + x9).toNatClampNeg))]) hE rfl rfl rfl rfl (jargs_V rfl rfl rfl rfl rfl (Nat.le_of_ble_eq_true rfl) (Nat.le_of_ble_eq_true rfl) (Nat.le_of_ble_eq_true rfl)) rfl rfl (jEv.mono h (fun o9 M10 h => ?_))
        obtain ⟨rfl, h⟩ := h
        refine ⟨_, rfl, ?_⟩
        show jEv nX8_eliminate (283, [(0, .ref 67), (1, .int x1), (2, .int x2), (4, .int x4), (5, .long x5), (7, .long x7), (9, .int x9)], [], M10) K
        refine e_seg (k := 3) (d := (288, [(0, .ref 67), (1, .int x1), (2, .int x2), (4, .int x4), (5, .long x5), (7, .long x7), (9, .int x9)], [.long x7, .long x5, .ref 67], M10)) rfl ?_
        refine e_call (q := 291) (L0 := [(0, .ref 67), (1, .long x5), (3, .long x7)]) hE rfl rfl rfl rfl (jargs_V rfl rfl rfl rfl rfl (Nat.le_of_ble_eq_true rfl) (Nat.le_of_ble_eq_true rfl) (Nat.le_of_ble_eq_true rfl)) rfl rfl (jEv.mono h (fun o11 M12 h => ?_))
        obtain ⟨rfl, h⟩ := h
        refine ⟨_, rfl, ?_⟩
        show jEv nX8_eliminate (291, [(0, .ref 67), (1, .int x1), (2, .int x2), (4, .int x4), (5, .long x5), (7, .long x7), (9, .int x9)], [], M12) K
        refine e_seg (k := 8) (d := (303, [(0, .ref 67), (1, .int x1), (2, .int x2), (4, .int x4), (5, .long x5), (7, .long x7), (9, .int x9)], [.int ((5 * x4) + x9), .ref 81, .ref 67], M12)) rfl ?_
        refine e_lald (q := 304) hE rfl rfl rfl rfl h.1 ?_
        replace h := h.2
        refine e_seg (k := 7) (d := (315, [(0, .ref 67), (1, .int x1), (2, .int x2), (4, .int x4), (5, .long x5), (7, .long x7), (9, .int x9)], [.int ((5 * x4) + x9), .ref 82, .long (M12.2 81 ((5 * x4) + x9).toNatClampNeg), .ref 67], M12)) rfl ?_
        refine e_lald (q := 316) hE rfl rfl rfl rfl h.1 ?_
        replace h := h.2
        refine e_call (q := 319) (L0 := [(0, .ref 67), (1, .long (M12.2 81 ((5 * x4) + x9).toNatClampNeg)), (3, .long (M12.2 82 ((5 * x4) + x9).toNatClampNeg))]) hE rfl rfl rfl rfl (jargs_V rfl rfl rfl rfl rfl (Nat.le_of_ble_eq_true rfl) (Nat.le_of_ble_eq_true rfl) (Nat.le_of_ble_eq_true rfl)) rfl rfl (jEv.mono h (fun o13 M14 h => ?_))
        obtain ⟨rfl, h⟩ := h
        refine ⟨_, rfl, ?_⟩
        show jEv nX8_eliminate (319, [(0, .ref 67), (1, .int x1), (2, .int x2), (4, .int x4), (5, .long x5), (7, .long x7), (9, .int x9)], [], M14) K
        refine e_seg (k := 9) (d := (334, [(0, .ref 67), (1, .int x1), (2, .int x2), (4, .int x4), (5, .long x5), (7, .long x7), (9, .int x9)], [.long (M14.2 67 3), .int ((5 * x4) + x9), .ref 81], M14)) rfl ?_
        refine e_last (q := 335) hE rfl rfl rfl rfl h.1 ?_
        replace h := h.2
        obtain ⟨M15, hM15⟩ : ∃ z : jM, z = jsl M14 81 (((5 * x4) + x9).toNatClampNeg) (M14.2 67 3) := ⟨_, rfl⟩
        refine jEv_M hM15 ?_
        replace h := h M15 hM15
        refine e_seg (k := 9) (d := (350, [(0, .ref 67), (1, .int x1), (2, .int x2), (4, .int x4), (5, .long x5), (7, .long x7), (9, .int x9)], [.long (M15.2 67 4), .int ((5 * x4) + x9), .ref 82], M15)) rfl ?_
        refine e_last (q := 351) hE rfl rfl rfl rfl h.1 ?_
        replace h := h.2
        obtain ⟨M16, hM16⟩ : ∃ z : jM, z = jsl M15 82 (((5 * x4) + x9).toNatClampNeg) (M15.2 67 4) := ⟨_, rfl⟩
        refine jEv_M hM16 ?_
        replace h := h M16 hM16
        refine e_seg (k := 2) (d := (234, [(0, .ref 67), (1, .int x1), (2, .int x2), (4, .int x4), (5, .long x5), (7, .long x7), (9, .int (x9 + 1))], [], M16)) rfl ?_
        refine e_cut (ks := [0, 1, 2, 4, 5, 7, 9]) (L' := [(0, .ref 67), (1, .int x1), (2, .int x2), (4, .int x4), (5, .long x5), (7, .long x7), (9, .int (x9 + 1))]) hE rfl rfl rfl rfl rfl ?_
        exact h
      · replace h := h.2 hbr
        refine e_seg (k := 3) (d := (234, [(0, .ref 67), (1, .int x1), (2, .int x2), (4, .int x4), (5, .long x5), (7, .long x7), (9, .int (x9 + 1))], [], M)) rfl ?_
        refine e_cut (ks := [0, 1, 2, 4, 5, 7, 9]) (L' := [(0, .ref 67), (1, .int x1), (2, .int x2), (4, .int x4), (5, .long x5), (7, .long x7), (9, .int (x9 + 1))]) hE rfl rfl rfl rfl rfl ?_
        exact h
