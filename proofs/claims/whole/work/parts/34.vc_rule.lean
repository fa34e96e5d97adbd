/-! printed by wip/whole/emit.py: what must hold on each way between cut points -/
set_option maxRecDepth 100000 in
set_option maxHeartbeats 4000000 in
theorem v_X5_take_0 {K : jK} {M : jM} {x2 : Int32} {x3 : Int32} {x4 : Int32} {x5 : Int32} {a : Nat} (ha : jRu a) (h : (∀ M1 : jM, M1 = jsi M a 0 1 → (∀ M2 : jM, M2 = jsi M1 a 1 x2 → (∀ M3 : jM, M3 = jsi M2 a 2 x3 → (∀ M4 : jM, M4 = jsi M3 a 3 x4 → (∀ M5 : jM, M5 = jsi M4 a 4 x5 → jEv nX5_take (30, [(0, .ref a), (1, .ref 2), (6, .int 1)], [], M5) K)))))) : jEv nX5_take (0, [(0, .ref a), (1, .ref 2), (2, .int x2), (3, .int x3), (4, .int x4), (5, .int x5)], [], M) K := by
  have hE : jMT nX5_take = some me_X5_take := rfl
  refine e_seg (k := 2) (d := (2, [(0, .ref a), (1, .ref 2), (2, .int x2), (3, .int x3), (4, .int x4), (5, .int x5)], [.int 1, .ref a], M)) rfl ?_
  refine e_put (q := 5) hE rfl rfl rfl rfl (jRu_o ha) rfl rfl ?_
  obtain ⟨M1, hM1⟩ : ∃ z : jM, z = jsi M a 0 1 := ⟨_, rfl⟩
  refine jEv_M hM1 ?_
  replace h := h M1 hM1
  refine e_seg (k := 2) (d := (7, [(0, .ref a), (1, .ref 2), (2, .int x2), (3, .int x3), (4, .int x4), (5, .int x5)], [.int x2, .ref a], M1)) rfl ?_
  refine e_put (q := 10) hE rfl rfl rfl rfl (jRu_o ha) rfl rfl ?_
  obtain ⟨M2, hM2⟩ : ∃ z : jM, z = jsi M1 a 1 x2 := ⟨_, rfl⟩
  refine jEv_M hM2 ?_
  replace h := h M2 hM2
  refine e_seg (k := 2) (d := (12, [(0, .ref a), (1, .ref 2), (2, .int x2), (3, .int x3), (4, .int x4), (5, .int x5)], [.int x3, .ref a], M2)) rfl ?_
  refine e_put (q := 15) hE rfl rfl rfl rfl (jRu_o ha) rfl rfl ?_
  obtain ⟨M3, hM3⟩ : ∃ z : jM, z = jsi M2 a 2 x3 := ⟨_, rfl⟩
  refine jEv_M hM3 ?_
  replace h := h M3 hM3
  refine e_seg (k := 2) (d := (18, [(0, .ref a), (1, .ref 2), (2, .int x2), (3, .int x3), (4, .int x4), (5, .int x5)], [.int x4, .ref a], M3)) rfl ?_
  refine e_put (q := 21) hE rfl rfl rfl rfl (jRu_o ha) rfl rfl ?_
  obtain ⟨M4, hM4⟩ : ∃ z : jM, z = jsi M3 a 3 x4 := ⟨_, rfl⟩
  refine jEv_M hM4 ?_
  replace h := h M4 hM4
  refine e_seg (k := 2) (d := (24, [(0, .ref a), (1, .ref 2), (2, .int x2), (3, .int x3), (4, .int x4), (5, .int x5)], [.int x5, .ref a], M4)) rfl ?_
  refine e_put (q := 27) hE rfl rfl rfl rfl (jRu_o ha) rfl rfl ?_
  obtain ⟨M5, hM5⟩ : ∃ z : jM, z = jsi M4 a 4 x5 := ⟨_, rfl⟩
  refine jEv_M hM5 ?_
  replace h := h M5 hM5
  refine e_seg (k := 2) (d := (30, [(0, .ref a), (1, .ref 2), (2, .int x2), (3, .int x3), (4, .int x4), (5, .int x5), (6, .int 1)], [], M5)) rfl ?_
  refine e_cut (ks := [0, 1, 6]) (L' := [(0, .ref a), (1, .ref 2), (6, .int 1)]) hE rfl rfl rfl rfl rfl ?_
  exact h
set_option maxRecDepth 100000 in
set_option maxHeartbeats 4000000 in
theorem v_X5_take_30 {K : jK} {M : jM} {x6 : Int32} {a : Nat} (ha : jRu a) (h : ((3 < x6 → K (some none) M) ∧ (¬ 3 < x6 → (((M.1 a 2) < x6 → (¬ (x6 < 0 ∨ 4 ≤ x6.toNatClampNeg) ∧ (∀ M1 : jM, M1 = jsi M (a + 1) x6.toNatClampNeg 0 → (((M1.1 a 3) < x6 → (¬ (x6 < 0 ∨ 4 ≤ x6.toNatClampNeg) ∧ (∀ M2 : jM, M2 = jsi M1 (a + 2) x6.toNatClampNeg 0 → jEv nX5_take (30, [(0, .ref a), (1, .ref 2), (6, .int (x6 + 1))], [], M2) K))) ∧ (¬ (M1.1 a 3) < x6 → (¬ (((M1.1 a 2) + x6) - 1 < 0 ∨ 100 ≤ (((M1.1 a 2) + x6) - 1).toNatClampNeg) ∧ (¬ (x6 < 0 ∨ 4 ≤ x6.toNatClampNeg) ∧ (∀ M3 : jM, M3 = jsi M1 (a + 2) x6.toNatClampNeg (M1.1 2 (((M1.1 a 2) + x6) - 1).toNatClampNeg) → jEv nX5_take (30, [(0, .ref a), (1, .ref 2), (6, .int (x6 + 1))], [], M3) K)))))))) ∧ (¬ (M.1 a 2) < x6 → (¬ (x6 - 1 < 0 ∨ 100 ≤ (x6 - 1).toNatClampNeg) ∧ (¬ (x6 < 0 ∨ 4 ≤ x6.toNatClampNeg) ∧ (∀ M4 : jM, M4 = jsi M (a + 1) x6.toNatClampNeg (M.1 2 (x6 - 1).toNatClampNeg) → (((M4.1 a 3) < x6 → (¬ (x6 < 0 ∨ 4 ≤ x6.toNatClampNeg) ∧ (∀ M5 : jM, M5 = jsi M4 (a + 2) x6.toNatClampNeg 0 → jEv nX5_take (30, [(0, .ref a), (1, .ref 2), (6, .int (x6 + 1))], [], M5) K))) ∧ (¬ (M4.1 a 3) < x6 → (¬ (((M4.1 a 2) + x6) - 1 < 0 ∨ 100 ≤ (((M4.1 a 2) + x6) - 1).toNatClampNeg) ∧ (¬ (x6 < 0 ∨ 4 ≤ x6.toNatClampNeg) ∧ (∀ M6 : jM, M6 = jsi M4 (a + 2) x6.toNatClampNeg (M4.1 2 (((M4.1 a 2) + x6) - 1).toNatClampNeg) → jEv nX5_take (30, [(0, .ref a), (1, .ref 2), (6, .int (x6 + 1))], [], M6) K))))))))))))) : jEv nX5_take (30, [(0, .ref a), (1, .ref 2), (6, .int x6)], [], M) K := by
  have hE : jMT nX5_take = some me_X5_take := rfl
  refine e_seg (k := 2) (d := (33, [(0, .ref a), (1, .ref 2), (6, .int x6)], [.int 3, .int x6], M)) rfl ?_
  refine e_ic_gt (t := 99) (q := 36) hE rfl rfl rfl rfl (fun hbr => ?_) (fun hbr => ?_)
  · replace h := h.1 hbr
    exact e_ret hE rfl rfl rfl h
  · replace h := h.2 hbr
    refine e_seg (k := 1) (d := (37, [(0, .ref a), (1, .ref 2), (6, .int x6)], [.ref a], M)) rfl ?_
    refine e_get (v := .ref (a + 1)) (q := 40) hE rfl rfl rfl rfl (jRu_o ha) rfl rfl ?_
    refine e_seg (k := 3) (d := (45, [(0, .ref a), (1, .ref 2), (6, .int x6)], [.ref a, .int x6, .int x6, .ref (a + 1)], M)) rfl ?_
    refine e_get (v := .int (M.1 a 2)) (q := 48) hE rfl rfl rfl rfl (jRu_o ha) rfl rfl ?_
    refine e_ic_gt (t := 60) (q := 51) hE rfl rfl rfl rfl (fun hbr => ?_) (fun hbr => ?_)
    · replace h := h.1 hbr
      refine e_seg (k := 1) (d := (61, [(0, .ref a), (1, .ref 2), (6, .int x6)], [.int 0, .int x6, .ref (a + 1)], M)) rfl ?_
      refine e_iast (q := 62) hE rfl rfl rfl (jRu_1 ha) h.1 ?_
      replace h := h.2
      obtain ⟨M1, hM1⟩ : ∃ z : jM, z = jsi M (a + 1) x6.toNatClampNeg 0 := ⟨_, rfl⟩
      refine jEv_M hM1 ?_
      replace h := h M1 hM1
      refine e_seg (k := 1) (d := (63, [(0, .ref a), (1, .ref 2), (6, .int x6)], [.ref a], M1)) rfl ?_
      refine e_get (v := .ref (a + 2)) (q := 66) hE rfl rfl rfl rfl (jRu_o ha) rfl rfl ?_
      refine e_seg (k := 3) (d := (71, [(0, .ref a), (1, .ref 2), (6, .int x6)], [.ref a, .int x6, .int x6, .ref (a + 2)], M1)) rfl ?_
      refine e_get (v := .int (M1.1 a 3)) (q := 74) hE rfl rfl rfl rfl (jRu_o ha) rfl rfl ?_
      refine e_ic_gt (t := 91) (q := 77) hE rfl rfl rfl rfl (fun hbr => ?_) (fun hbr => ?_)
      · replace h := h.1 hbr
        refine e_seg (k := 1) (d := (92, [(0, .ref a), (1, .ref 2), (6, .int x6)], [.int 0, .int x6, .ref (a + 2)], M1)) rfl ?_
        refine e_iast (q := 93) hE rfl rfl rfl (jRu_2 ha) h.1 ?_
        replace h := h.2
        obtain ⟨M2, hM2⟩ : ∃ z : jM, z = jsi M1 (a + 2) x6.toNatClampNeg 0 := ⟨_, rfl⟩
        refine jEv_M hM2 ?_
        replace h := h M2 hM2
        refine e_seg (k := 2) (d := (30, [(0, .ref a), (1, .ref 2), (6, .int (x6 + 1))], [], M2)) rfl ?_
        refine e_cut (ks := [0, 1, 6]) (L' := [(0, .ref a), (1, .ref 2), (6, .int (x6 + 1))]) hE rfl rfl rfl rfl rfl ?_
        exact h
      · replace h := h.2 hbr
        refine e_seg (k := 2) (d := (79, [(0, .ref a), (1, .ref 2), (6, .int x6)], [.ref a, .ref 2, .int x6, .ref (a + 2)], M1)) rfl ?_
        refine e_get (v := .int (M1.1 a 2)) (q := 82) hE rfl rfl rfl rfl (jRu_o ha) rfl rfl ?_
        refine e_seg (k := 4) (d := (87, [(0, .ref a), (1, .ref 2), (6, .int x6)], [.int (((M1.1 a 2) + x6) - 1), .ref 2, .int x6, .ref (a + 2)], M1)) rfl ?_
        refine e_bald (q := 88) hE rfl rfl rfl rfl h.1 ?_
        replace h := h.2
        refine e_seg (k := 1) (d := (92, [(0, .ref a), (1, .ref 2), (6, .int x6)], [.int (M1.1 2 (((M1.1 a 2) + x6) - 1).toNatClampNeg), .int x6, .ref (a + 2)], M1)) rfl ?_
        refine e_iast (q := 93) hE rfl rfl rfl (jRu_2 ha) h.1 ?_
        replace h := h.2
        obtain ⟨M3, hM3⟩ : ∃ z : jM, z = jsi M1 (a + 2) x6.toNatClampNeg (M1.1 2 (((M1.1 a 2) + x6) - 1).toNatClampNeg) := ⟨_, rfl⟩
        refine jEv_M hM3 ?_
        replace h := h M3 hM3
        refine e_seg (k := 2) (d := (30, [(0, .ref a), (1, .ref 2), (6, .int (x6 + 1))], [], M3)) rfl ?_
        refine e_cut (ks := [0, 1, 6]) (L' := [(0, .ref a), (1, .ref 2), (6, .int (x6 + 1))]) hE rfl rfl rfl rfl rfl ?_
        exact h
    · replace h := h.2 hbr
      refine e_seg (k := 4) (d := (56, [(0, .ref a), (1, .ref 2), (6, .int x6)], [.int (x6 - 1), .ref 2, .int x6, .ref (a + 1)], M)) rfl ?_
      refine e_bald (q := 57) hE rfl rfl rfl rfl h.1 ?_
      replace h := h.2
      refine e_seg (k := 1) (d := (61, [(0, .ref a), (1, .ref 2), (6, .int x6)], [.int (M.1 2 (x6 - 1).toNatClampNeg), .int x6, .ref (a + 1)], M)) rfl ?_
      refine e_iast (q := 62) hE rfl rfl rfl (jRu_1 ha) h.1 ?_
      replace h := h.2
      obtain ⟨M4, hM4⟩ : ∃ z : jM, z = jsi M (a + 1) x6.toNatClampNeg (M.1 2 (x6 - 1).toNatClampNeg) := ⟨_, rfl⟩
      refine jEv_M hM4 ?_
      replace h := h M4 hM4
      refine e_seg (k := 1) (d := (63, [(0, .ref a), (1, .ref 2), (6, .int x6)], [.ref a], M4)) rfl ?_
      refine e_get (v := .ref (a + 2)) (q := 66) hE rfl rfl rfl rfl (jRu_o ha) rfl rfl ?_
      refine e_seg (k := 3) (d := (71, [(0, .ref a), (1, .ref 2), (6, .int x6)], [.ref a, .int x6, .int x6, .ref (a + 2)], M4)) rfl ?_
      refine e_get (v := .int (M4.1 a 3)) (q := 74) hE rfl rfl rfl rfl (jRu_o ha) rfl rfl ?_
      refine e_ic_gt (t := 91) (q := 77) hE rfl rfl rfl rfl (fun hbr => ?_) (fun hbr => ?_)
      · replace h := h.1 hbr
        refine e_seg (k := 1) (d := (92, [(0, .ref a), (1, .ref 2), (6, .int x6)], [.int 0, .int x6, .ref (a + 2)], M4)) rfl ?_
        refine e_iast (q := 93) hE rfl rfl rfl (jRu_2 ha) h.1 ?_
        replace h := h.2
        obtain ⟨M5, hM5⟩ : ∃ z : jM, z = jsi M4 (a + 2) x6.toNatClampNeg 0 := ⟨_, rfl⟩
        refine jEv_M hM5 ?_
        replace h := h M5 hM5
        refine e_seg (k := 2) (d := (30, [(0, .ref a), (1, .ref 2), (6, .int (x6 + 1))], [], M5)) rfl ?_
        refine e_cut (ks := [0, 1, 6]) (L' := [(0, .ref a), (1, .ref 2), (6, .int (x6 + 1))]) hE rfl rfl rfl rfl rfl ?_
        exact h
      · replace h := h.2 hbr
        refine e_seg (k := 2) (d := (79, [(0, .ref a), (1, .ref 2), (6, .int x6)], [.ref a, .ref 2, .int x6, .ref (a + 2)], M4)) rfl ?_
        refine e_get (v := .int (M4.1 a 2)) (q := 82) hE rfl rfl rfl rfl (jRu_o ha) rfl rfl ?_
        refine e_seg (k := 4) (d := (87, [(0, .ref a), (1, .ref 2), (6, .int x6)], [.int (((M4.1 a 2) + x6) - 1), .ref 2, .int x6, .ref (a + 2)], M4)) rfl ?_
        refine e_bald (q := 88) hE rfl rfl rfl rfl h.1 ?_
        replace h := h.2
        refine e_seg (k := 1) (d := (92, [(0, .ref a), (1, .ref 2), (6, .int x6)], [.int (M4.1 2 (((M4.1 a 2) + x6) - 1).toNatClampNeg), .int x6, .ref (a + 2)], M4)) rfl ?_
        refine e_iast (q := 93) hE rfl rfl rfl (jRu_2 ha) h.1 ?_
        replace h := h.2
        obtain ⟨M6, hM6⟩ : ∃ z : jM, z = jsi M4 (a + 2) x6.toNatClampNeg (M4.1 2 (((M4.1 a 2) + x6) - 1).toNatClampNeg) := ⟨_, rfl⟩
        refine jEv_M hM6 ?_
        replace h := h M6 hM6
        refine e_seg (k := 2) (d := (30, [(0, .ref a), (1, .ref 2), (6, .int (x6 + 1))], [], M6)) rfl ?_
        refine e_cut (ks := [0, 1, 6]) (L' := [(0, .ref a), (1, .ref 2), (6, .int (x6 + 1))]) hE rfl rfl rfl rfl rfl ?_
        exact h
set_option maxRecDepth 100000 in
set_option maxHeartbeats 4000000 in
theorem v_X2_missPart_0 {K : jK} {M : jM} {x1 : Int32} {a : Nat} (ha : jRu a) (h : ((x1 = 0 → (jEv nX7_power (0, [(0, .long ((M.1 a 1).toInt64)), (2, .int 3)], [], M) (fun o1 M2 => ∃ r3 : Int64, o1 = some (some (.long r3)) ∧ jEv nX2_missPart (31, [(0, .ref a), (1, .int x1), (2, .ref 57), (3, .long (((M.1 a 1).toInt64) * r3)), (5, .int (if x1 < 1 then 1 else x1))], [], M2) K))) ∧ (¬ x1 = 0 → jEv nX2_missPart (31, [(0, .ref a), (1, .int x1), (2, .ref 57), (3, .long 0), (5, .int (if x1 < 1 then 1 else x1))], [], M) K))) : jEv nX2_missPart (0, [(0, .ref a), (1, .int x1), (2, .ref 57)], [], M) K := by
  have hE : jMT nX2_missPart = some me_X2_missPart := rfl
  refine e_seg (k := 1) (d := (1, [(0, .ref a), (1, .int x1), (2, .ref 57)], [.int x1], M)) rfl ?_
  refine e_if_ne (t := 22) (q := 4) hE rfl rfl rfl rfl (fun hbr => ?_) (fun hbr => ?_)
  · replace h := h.2 hbr
    refine e_seg (k := 6) (d := (31, [(0, .ref a), (1, .int x1), (2, .ref 57), (3, .long 0), (5, .int (if x1 < 1 then 1 else x1))], [], M)) rfl ?_
    refine e_cut (ks := [0, 1, 2, 3, 5]) (L' := [(0, .ref a), (1, .int x1), (2, .ref 57), (3, .long 0), (5, .int (if x1 < 1 then 1 else x1))]) hE rfl rfl rfl rfl rfl ?_
    exact h
  · replace h := h.1 hbr
    refine e_seg (k := 1) (d := (5, [(0, .ref a), (1, .int x1), (2, .ref 57)], [.ref a], M)) rfl ?_
    refine e_get (v := .int (M.1 a 1)) (q := 8) hE rfl rfl rfl rfl (jRu_o ha) rfl rfl ?_
    refine e_seg (k := 2) (d := (10, [(0, .ref a), (1, .int x1), (2, .ref 57)], [.ref a, .long ((M.1 a 1).toInt64)], M)) rfl ?_
    refine e_get (v := .int (M.1 a 1)) (q := 13) hE rfl rfl rfl rfl (jRu_o ha) rfl rfl ?_
    refine e_seg (k := 2) (d := (15, [(0, .ref a), (1, .int x1), (2, .ref 57)], [.int 3, .long ((M.1 a 1).toInt64), .long ((M.1 a 1).toInt64)], M)) rfl ?_
    refine e_call (q := 18) (L0 := [(0, .long ((M.1 a 1).toInt64)), (2, .int 3)]) hE rfl rfl rfl rfl (jargs_S rfl rfl rfl rfl (Nat.le_of_ble_eq_true rfl) (Nat.le_of_ble_eq_true rfl) (Nat.le_of_ble_eq_true rfl)) rfl rfl (jEv.mono h (fun o1 M2 h => ?_))
    obtain ⟨r3, rfl, h⟩ := h
    refine ⟨_, rfl, ?_⟩
    show jEv nX2_missPart (18, [(0, .ref a), (1, .int x1), (2, .ref 57)], [.long r3, .long ((M.1 a 1).toInt64)], M2) K
    refine e_seg (k := 7) (d := (31, [(0, .ref a), (1, .int x1), (2, .ref 57), (3, .long (((M.1 a 1).toInt64) * r3)), (5, .int (if x1 < 1 then 1 else x1))], [], M2)) rfl ?_
    refine e_cut (ks := [0, 1, 2, 3, 5]) (L' := [(0, .ref a), (1, .int x1), (2, .ref 57), (3, .long (((M.1 a 1).toInt64) * r3)), (5, .int (if x1 < 1 then 1 else x1))]) hE rfl rfl rfl rfl rfl ?_
    exact h
set_option maxRecDepth 100000 in
set_option maxHeartbeats 4000000 in
theorem v_X2_missPart_31 {K : jK} {M : jM} {x1 : Int32} {x3 : Int64} {x5 : Int32} {a : Nat} (ha : jRu a) (h : (((M.1 a 3) < x5 → K (some (some (.long (((M.1 a 4).toInt64) * x3)))) M) ∧ (¬ (M.1 a 3) < x5 → (¬ (x5 < 0 ∨ 4 ≤ x5.toNatClampNeg) ∧ (¬ (x5 - x1 < 0 ∨ 9 ≤ (x5 - x1).toNatClampNeg) ∧ (jEv nX7_power (0, [(0, .long ((M.1 a 1).toInt64)), (2, .int (3 - (x5 - x1)))], [], M) (fun o1 M2 => ∃ r3 : Int64, o1 = some (some (.long r3)) ∧ jEv nX2_missPart (31, [(0, .ref a), (1, .int x1), (2, .ref 57), (3, .long (x3 + ((((M.1 (a + 2) x5.toNatClampNeg).toInt64) * (M.2 57 (x5 - x1).toNatClampNeg)) * r3))), (5, .int (x5 + 1))], [], M2) K))))))) : jEv nX2_missPart (31, [(0, .ref a), (1, .int x1), (2, .ref 57), (3, .long x3), (5, .int x5)], [], M) K := by
  have hE : jMT nX2_missPart = some me_X2_missPart := rfl
  refine e_seg (k := 2) (d := (34, [(0, .ref a), (1, .int x1), (2, .ref 57), (3, .long x3), (5, .int x5)], [.ref a, .int x5], M)) rfl ?_
  refine e_get (v := .int (M.1 a 3)) (q := 37) hE rfl rfl rfl rfl (jRu_o ha) rfl rfl ?_
  refine e_ic_gt (t := 79) (q := 40) hE rfl rfl rfl rfl (fun hbr => ?_) (fun hbr => ?_)
  · replace h := h.1 hbr
    refine e_seg (k := 1) (d := (80, [(0, .ref a), (1, .int x1), (2, .ref 57), (3, .long x3), (5, .int x5)], [.ref a], M)) rfl ?_
    refine e_get (v := .int (M.1 a 4)) (q := 83) hE rfl rfl rfl rfl (jRu_o ha) rfl rfl ?_
    refine e_seg (k := 3) (d := (86, [(0, .ref a), (1, .int x1), (2, .ref 57), (3, .long x3), (5, .int x5)], [.long (((M.1 a 4).toInt64) * x3)], M)) rfl ?_
    exact e_ret hE rfl rfl (jb_l rfl) h
  · replace h := h.2 hbr
    refine e_seg (k := 2) (d := (42, [(0, .ref a), (1, .int x1), (2, .ref 57), (3, .long x3), (5, .int x5)], [.ref a, .long x3], M)) rfl ?_
    refine e_get (v := .ref (a + 2)) (q := 45) hE rfl rfl rfl rfl (jRu_o ha) rfl rfl ?_
    refine e_seg (k := 1) (d := (47, [(0, .ref a), (1, .int x1), (2, .ref 57), (3, .long x3), (5, .int x5)], [.int x5, .ref (a + 2), .long x3], M)) rfl ?_
    refine e_iald (q := 48) hE rfl rfl rfl (jRu_2 ha) h.1 ?_
    replace h := h.2
    refine e_seg (k := 5) (d := (54, [(0, .ref a), (1, .int x1), (2, .ref 57), (3, .long x3), (5, .int x5)], [.int (x5 - x1), .ref 57, .long ((M.1 (a + 2) x5.toNatClampNeg).toInt64), .long x3], M)) rfl ?_
    refine e_lald (q := 55) hE rfl rfl rfl rfl h.1 ?_
    replace h := h.2
    refine e_seg (k := 2) (d := (57, [(0, .ref a), (1, .int x1), (2, .ref 57), (3, .long x3), (5, .int x5)], [.ref a, .long (((M.1 (a + 2) x5.toNatClampNeg).toInt64) * (M.2 57 (x5 - x1).toNatClampNeg)), .long x3], M)) rfl ?_
    refine e_get (v := .int (M.1 a 1)) (q := 60) hE rfl rfl rfl rfl (jRu_o ha) rfl rfl ?_
    refine e_seg (k := 6) (d := (67, [(0, .ref a), (1, .int x1), (2, .ref 57), (3, .long x3), (5, .int x5)], [.int (3 - (x5 - x1)), .long ((M.1 a 1).toInt64), .long (((M.1 (a + 2) x5.toNatClampNeg).toInt64) * (M.2 57 (x5 - x1).toNatClampNeg)), .long x3], M)) rfl ?_
    refine e_call (q := 70) (L0 := [(0, .long ((M.1 a 1).toInt64)), (2, .int (3 - (x5 - x1)))]) hE rfl rfl rfl rfl (jargs_S rfl rfl rfl rfl (Nat.le_of_ble_eq_true rfl) (Nat.le_of_ble_eq_true rfl) (Nat.le_of_ble_eq_true rfl)) rfl rfl (jEv.mono h (fun o1 M2 h => ?_))
    obtain ⟨r3, rfl, h⟩ := h
    refine ⟨_, rfl, ?_⟩
    show jEv nX2_missPart (70, [(0, .ref a), (1, .int x1), (2, .ref 57), (3, .long x3), (5, .int x5)], [.long r3, .long (((M.1 (a + 2) x5.toNatClampNeg).toInt64) * (M.2 57 (x5 - x1).toNatClampNeg)), .long x3], M2) K
    refine e_seg (k := 5) (d := (31, [(0, .ref a), (1, .int x1), (2, .ref 57), (3, .long (x3 + ((((M.1 (a + 2) x5.toNatClampNeg).toInt64) * (M.2 57 (x5 - x1).toNatClampNeg)) * r3))), (5, .int (x5 + 1))], [], M2)) rfl ?_
    refine e_cut (ks := [0, 1, 2, 3, 5]) (L' := [(0, .ref a), (1, .int x1), (2, .ref 57), (3, .long (x3 + ((((M.1 (a + 2) x5.toNatClampNeg).toInt64) * (M.2 57 (x5 - x1).toNatClampNeg)) * r3))), (5, .int (x5 + 1))]) hE rfl rfl rfl rfl rfl ?_
    exact h
set_option maxRecDepth 100000 in
set_option maxHeartbeats 4000000 in
theorem v_X5_polyHasNoInnerRoot_0 {K : jK} {M : jM} {a : Nat} (ha : jRu a) (h : jEv nX5_polyHasNoInnerRoot (2, [(0, .ref a), (1, .int 3)], [], M) K) : jEv nX5_polyHasNoInnerRoot (0, [(0, .ref a)], [], M) K := by
  have hE : jMT nX5_polyHasNoInnerRoot = some me_X5_polyHasNoInnerRoot := rfl
  refine e_seg (k := 2) (d := (2, [(0, .ref a), (1, .int 3)], [], M)) rfl ?_
  refine e_cut (ks := [0, 1]) (L' := [(0, .ref a), (1, .int 3)]) hE rfl rfl rfl rfl rfl ?_
  exact h
set_option maxRecDepth 100000 in
set_option maxHeartbeats 4000000 in
theorem v_X5_polyHasNoInnerRoot_2 {K : jK} {M : jM} {x1 : Int32} {a : Nat} (ha : jRu a) (h : ((x1 < 1 → K (some (some (.int 1))) M) ∧ (¬ x1 < 1 → (¬ (x1 < 0 ∨ 4 ≤ x1.toNatClampNeg) ∧ (((if 0 < (M.2 (a + 3) x1.toNatClampNeg) then (M.2 (a + 3) x1.toNatClampNeg) else -(M.2 (a + 3) x1.toNatClampNeg)) < (if 0 < (M.2 (a + 3) 0) then (M.2 (a + 3) 0) else -(M.2 (a + 3) 0)) → jEv nX5_polyHasNoInnerRoot (40, [(0, .ref a), (1, .int x1), (2, .long (M.2 (a + 3) 0)), (4, .long (M.2 (a + 3) x1.toNatClampNeg)), (6, .int 0)], [], M) K) ∧ (¬ ((if 0 < (M.2 (a + 3) x1.toNatClampNeg) then (M.2 (a + 3) x1.toNatClampNeg) else -(M.2 (a + 3) x1.toNatClampNeg)) < (if 0 < (M.2 (a + 3) 0) then (M.2 (a + 3) 0) else -(M.2 (a + 3) 0))) → K (some (some (.int 0))) M)))))) : jEv nX5_polyHasNoInnerRoot (2, [(0, .ref a), (1, .int x1)], [], M) K := by
  have hE : jMT nX5_polyHasNoInnerRoot = some me_X5_polyHasNoInnerRoot := rfl
  refine e_seg (k := 2) (d := (4, [(0, .ref a), (1, .int x1)], [.int 1, .int x1], M)) rfl ?_
  refine e_ic_lt (t := 116) (q := 7) hE rfl rfl rfl rfl (fun hbr => ?_) (fun hbr => ?_)
  · replace h := h.1 hbr
    refine e_seg (k := 1) (d := (117, [(0, .ref a), (1, .int x1)], [.int 1], M)) rfl ?_
    exact e_ret hE rfl rfl (jb_z rfl (by decide)) h
  · replace h := h.2 hbr
    refine e_seg (k := 1) (d := (8, [(0, .ref a), (1, .int x1)], [.ref a], M)) rfl ?_
    refine e_get (v := .ref (a + 3)) (q := 11) hE rfl rfl rfl rfl (jRu_o ha) rfl rfl ?_
    refine e_seg (k := 1) (d := (12, [(0, .ref a), (1, .int x1)], [.int 0, .ref (a + 3)], M)) rfl ?_
    refine e_lald (q := 13) hE rfl rfl rfl (jRu_3 ha) (by decide) ?_
    show jEv nX5_polyHasNoInnerRoot (13, [(0, .ref a), (1, .int x1)], [.long (M.2 (a + 3) 0)], M) K
    refine e_seg (k := 2) (d := (15, [(0, .ref a), (1, .int x1), (2, .long (M.2 (a + 3) 0))], [.ref a], M)) rfl ?_
    refine e_get (v := .ref (a + 3)) (q := 18) hE rfl rfl rfl rfl (jRu_o ha) rfl rfl ?_
    refine e_seg (k := 1) (d := (19, [(0, .ref a), (1, .int x1), (2, .long (M.2 (a + 3) 0))], [.int x1, .ref (a + 3)], M)) rfl ?_
    refine e_lald (q := 20) hE rfl rfl rfl (jRu_3 ha) h.1 ?_
    replace h := h.2
    refine e_seg (k := 5) (d := (31, [(0, .ref a), (1, .int x1), (2, .long (M.2 (a + 3) 0)), (4, .long (M.2 (a + 3) x1.toNatClampNeg))], [.long (if 0 < (M.2 (a + 3) x1.toNatClampNeg) then (M.2 (a + 3) x1.toNatClampNeg) else -(M.2 (a + 3) x1.toNatClampNeg)), .long (if 0 < (M.2 (a + 3) 0) then (M.2 (a + 3) 0) else -(M.2 (a + 3) 0))], M)) rfl ?_
    refine e_lc (t := 37) (q := 35) (pc1 := 32) hE rfl rfl rfl rfl rfl rfl (lc_gt (if 0 < (M.2 (a + 3) 0) then (M.2 (a + 3) 0) else -(M.2 (a + 3) 0)) (if 0 < (M.2 (a + 3) x1.toNatClampNeg) then (M.2 (a + 3) x1.toNatClampNeg) else -(M.2 (a + 3) x1.toNatClampNeg))) rfl rfl (fun hbr => ?_) (fun hbr => ?_)
    · replace h := h.1 hbr
      refine e_seg (k := 2) (d := (40, [(0, .ref a), (1, .int x1), (2, .long (M.2 (a + 3) 0)), (4, .long (M.2 (a + 3) x1.toNatClampNeg)), (6, .int 0)], [], M)) rfl ?_
      refine e_cut (ks := [0, 1, 2, 4, 6]) (L' := [(0, .ref a), (1, .int x1), (2, .long (M.2 (a + 3) 0)), (4, .long (M.2 (a + 3) x1.toNatClampNeg)), (6, .int 0)]) hE rfl rfl rfl rfl rfl ?_
      exact h
    · replace h := h.2 hbr
      refine e_seg (k := 1) (d := (36, [(0, .ref a), (1, .int x1), (2, .long (M.2 (a + 3) 0)), (4, .long (M.2 (a + 3) x1.toNatClampNeg))], [.int 0], M)) rfl ?_
      exact e_ret hE rfl rfl (jb_z rfl (by decide)) h
set_option maxRecDepth 100000 in
set_option maxHeartbeats 4000000 in
theorem v_X5_polyHasNoInnerRoot_40 {K : jK} {M : jM} {x1 : Int32} {x2 : Int64} {x4 : Int64} {x6 : Int32} {a : Nat} (ha : jRu a) (h : ((x1 < (2 * x6) → jEv nX5_polyHasNoInnerRoot (2, [(0, .ref a), (1, .int (x1 + (-1)))], [], M) K) ∧ (¬ x1 < (2 * x6) → (¬ (x6 < 0 ∨ 4 ≤ x6.toNatClampNeg) ∧ (¬ (x1 - x6 < 0 ∨ 4 ≤ (x1 - x6).toNatClampNeg) ∧ (¬ (x6 < 0 ∨ 4 ≤ x6.toNatClampNeg) ∧ (∀ M1 : jM, M1 = jsl M (a + 3) x6.toNatClampNeg ((x2 * (M.2 (a + 3) x6.toNatClampNeg)) - (x4 * (M.2 (a + 3) (x1 - x6).toNatClampNeg))) → (¬ (x1 - x6 < 0 ∨ 4 ≤ (x1 - x6).toNatClampNeg) ∧ (∀ M2 : jM, M2 = jsl M1 (a + 3) ((x1 - x6).toNatClampNeg) ((x2 * (M.2 (a + 3) (x1 - x6).toNatClampNeg)) - (x4 * (M.2 (a + 3) x6.toNatClampNeg))) → jEv nX5_polyHasNoInnerRoot (40, [(0, .ref a), (1, .int x1), (2, .long x2), (4, .long x4), (6, .int (x6 + 1))], [], M2) K))))))))) : jEv nX5_polyHasNoInnerRoot (40, [(0, .ref a), (1, .int x1), (2, .long x2), (4, .long x4), (6, .int x6)], [], M) K := by
  have hE : jMT nX5_polyHasNoInnerRoot = some me_X5_polyHasNoInnerRoot := rfl
  refine e_seg (k := 4) (d := (45, [(0, .ref a), (1, .int x1), (2, .long x2), (4, .long x4), (6, .int x6)], [.int x1, .int (2 * x6)], M)) rfl ?_
  refine e_ic_gt (t := 110) (q := 48) hE rfl rfl rfl rfl (fun hbr => ?_) (fun hbr => ?_)
  · replace h := h.1 hbr
    refine e_seg (k := 2) (d := (2, [(0, .ref a), (1, .int (x1 + (-1))), (2, .long x2), (4, .long x4), (6, .int x6)], [], M)) rfl ?_
    refine e_cut (ks := [0, 1]) (L' := [(0, .ref a), (1, .int (x1 + (-1)))]) hE rfl rfl rfl rfl rfl ?_
    exact h
  · replace h := h.2 hbr
    refine e_seg (k := 1) (d := (49, [(0, .ref a), (1, .int x1), (2, .long x2), (4, .long x4), (6, .int x6)], [.ref a], M)) rfl ?_
    refine e_get (v := .ref (a + 3)) (q := 52) hE rfl rfl rfl rfl (jRu_o ha) rfl rfl ?_
    refine e_seg (k := 1) (d := (54, [(0, .ref a), (1, .int x1), (2, .long x2), (4, .long x4), (6, .int x6)], [.int x6, .ref (a + 3)], M)) rfl ?_
    refine e_lald (q := 55) hE rfl rfl rfl (jRu_3 ha) h.1 ?_
    replace h := h.2
    refine e_seg (k := 2) (d := (58, [(0, .ref a), (1, .int x1), (2, .long x2), (4, .long x4), (6, .int x6), (7, .long (M.2 (a + 3) x6.toNatClampNeg))], [.ref a], M)) rfl ?_
    refine e_get (v := .ref (a + 3)) (q := 61) hE rfl rfl rfl rfl (jRu_o ha) rfl rfl ?_
    refine e_seg (k := 3) (d := (65, [(0, .ref a), (1, .int x1), (2, .long x2), (4, .long x4), (6, .int x6), (7, .long (M.2 (a + 3) x6.toNatClampNeg))], [.int (x1 - x6), .ref (a + 3)], M)) rfl ?_
    refine e_lald (q := 66) hE rfl rfl rfl (jRu_3 ha) h.1 ?_
    replace h := h.2
    refine e_seg (k := 2) (d := (69, [(0, .ref a), (1, .int x1), (2, .long x2), (4, .long x4), (6, .int x6), (7, .long (M.2 (a + 3) x6.toNatClampNeg)), (9, .long (M.2 (a + 3) (x1 - x6).toNatClampNeg))], [.ref a], M)) rfl ?_
    refine e_get (v := .ref (a + 3)) (q := 72) hE rfl rfl rfl rfl (jRu_o ha) rfl rfl ?_
    refine e_seg (k := 8) (d := (84, [(0, .ref a), (1, .int x1), (2, .long x2), (4, .long x4), (6, .int x6), (7, .long (M.2 (a + 3) x6.toNatClampNeg)), (9, .long (M.2 (a + 3) (x1 - x6).toNatClampNeg))], [.long ((x2 * (M.2 (a + 3) x6.toNatClampNeg)) - (x4 * (M.2 (a + 3) (x1 - x6).toNatClampNeg))), .int x6, .ref (a + 3)], M)) rfl ?_
    refine e_last (q := 85) hE rfl rfl rfl (jRu_3 ha) h.1 ?_
    replace h := h.2
    obtain ⟨M1, hM1⟩ : ∃ z : jM, z = jsl M (a + 3) x6.toNatClampNeg ((x2 * (M.2 (a + 3) x6.toNatClampNeg)) - (x4 * (M.2 (a + 3) (x1 - x6).toNatClampNeg))) := ⟨_, rfl⟩
    refine jEv_M hM1 ?_
    replace h := h M1 hM1
    refine e_seg (k := 1) (d := (86, [(0, .ref a), (1, .int x1), (2, .long x2), (4, .long x4), (6, .int x6), (7, .long (M.2 (a + 3) x6.toNatClampNeg)), (9, .long (M.2 (a + 3) (x1 - x6).toNatClampNeg))], [.ref a], M1)) rfl ?_
    refine e_get (v := .ref (a + 3)) (q := 89) hE rfl rfl rfl rfl (jRu_o ha) rfl rfl ?_
    refine e_seg (k := 10) (d := (103, [(0, .ref a), (1, .int x1), (2, .long x2), (4, .long x4), (6, .int x6), (7, .long (M.2 (a + 3) x6.toNatClampNeg)), (9, .long (M.2 (a + 3) (x1 - x6).toNatClampNeg))], [.long ((x2 * (M.2 (a + 3) (x1 - x6).toNatClampNeg)) - (x4 * (M.2 (a + 3) x6.toNatClampNeg))), .int (x1 - x6), .ref (a + 3)], M1)) rfl ?_
    refine e_last (q := 104) hE rfl rfl rfl (jRu_3 ha) h.1 ?_
    replace h := h.2
    obtain ⟨M2, hM2⟩ : ∃ z : jM, z = jsl M1 (a + 3) ((x1 - x6).toNatClampNeg) ((x2 * (M.2 (a + 3) (x1 - x6).toNatClampNeg)) - (x4 * (M.2 (a + 3) x6.toNatClampNeg))) := ⟨_, rfl⟩
    refine jEv_M hM2 ?_
    replace h := h M2 hM2
    refine e_seg (k := 2) (d := (40, [(0, .ref a), (1, .int x1), (2, .long x2), (4, .long x4), (6, .int (x6 + 1)), (7, .long (M.2 (a + 3) x6.toNatClampNeg)), (9, .long (M.2 (a + 3) (x1 - x6).toNatClampNeg))], [], M2)) rfl ?_
    refine e_cut (ks := [0, 1, 2, 4, 6]) (L' := [(0, .ref a), (1, .int x1), (2, .long x2), (4, .long x4), (6, .int (x6 + 1))]) hE rfl rfl rfl rfl rfl ?_
    exact h
set_option maxRecDepth 100000 in
set_option maxHeartbeats 4000000 in
theorem v_X5_pull_0 {K : jK} {M : jM} {x1 : Int32} {a : Nat} (ha : jRu a) (h : ((x1 = 0 → K (some (some (.int (M.1 a 1)))) M) ∧ (¬ x1 = 0 → (jEv nX7_isWithin (0, [(0, .int x1), (1, .int 1), (2, .int 3)], [], M) (fun o1 M2 => ∃ r3 : Int32, o1 = some (some (.int r3)) ∧ ((r3 = 0 → K (some (some (.int 0))) M2) ∧ (¬ r3 = 0 → (¬ (x1 < 0 ∨ 4 ≤ x1.toNatClampNeg) ∧ K (some (some (.int (-(M2.1 (a + 1) x1.toNatClampNeg))))) M2)))))))) : jEv nX5_pull (0, [(0, .ref a), (1, .int x1)], [], M) K := by
  have hE : jMT nX5_pull = some me_X5_pull := rfl
  refine e_seg (k := 1) (d := (1, [(0, .ref a), (1, .int x1)], [.int x1], M)) rfl ?_
  refine e_if_ne (t := 9) (q := 4) hE rfl rfl rfl rfl (fun hbr => ?_) (fun hbr => ?_)
  · replace h := h.2 hbr
    refine e_seg (k := 3) (d := (12, [(0, .ref a), (1, .int x1)], [.int 3, .int 1, .int x1], M)) rfl ?_
    refine e_call (q := 15) (L0 := [(0, .int x1), (1, .int 1), (2, .int 3)]) hE rfl rfl rfl rfl (jargs_S rfl rfl rfl rfl (Nat.le_of_ble_eq_true rfl) (Nat.le_of_ble_eq_true rfl) (Nat.le_of_ble_eq_true rfl)) rfl rfl (jEv.mono h (fun o1 M2 h => ?_))
    obtain ⟨r3, rfl, h⟩ := h
    refine ⟨_, rfl, ?_⟩
    show jEv nX5_pull (15, [(0, .ref a), (1, .int x1)], [.int r3], M2) K
    refine e_if_eq (t := 28) (q := 18) hE rfl rfl rfl rfl (fun hbr => ?_) (fun hbr => ?_)
    · replace h := h.1 hbr
      refine e_seg (k := 1) (d := (29, [(0, .ref a), (1, .int x1)], [.int 0], M2)) rfl ?_
      exact e_ret hE rfl rfl (jb_i rfl) h
    · replace h := h.2 hbr
      refine e_seg (k := 1) (d := (19, [(0, .ref a), (1, .int x1)], [.ref a], M2)) rfl ?_
      refine e_get (v := .ref (a + 1)) (q := 22) hE rfl rfl rfl rfl (jRu_o ha) rfl rfl ?_
      refine e_seg (k := 1) (d := (23, [(0, .ref a), (1, .int x1)], [.int x1, .ref (a + 1)], M2)) rfl ?_
      refine e_iald (q := 24) hE rfl rfl rfl (jRu_1 ha) h.1 ?_
      replace h := h.2
      refine e_seg (k := 2) (d := (29, [(0, .ref a), (1, .int x1)], [.int (-(M2.1 (a + 1) x1.toNatClampNeg))], M2)) rfl ?_
      exact e_ret hE rfl rfl (jb_i rfl) h
  · replace h := h.1 hbr
    refine e_seg (k := 1) (d := (5, [(0, .ref a), (1, .int x1)], [.ref a], M)) rfl ?_
    refine e_get (v := .int (M.1 a 1)) (q := 8) hE rfl rfl rfl rfl (jRu_o ha) rfl rfl ?_
    exact e_ret hE rfl rfl (jb_i rfl) h
set_option maxRecDepth 100000 in
set_option maxHeartbeats 4000000 in
theorem v_X5_weigh_0 {K : jK} {M : jM} {x1 : Int32} {a : Nat} (ha : jRu a) (h : ((x1 = 0 → ((x1 = 0 → ((x1 = 0 → (∀ M1 : jM, M1 = jsl M 57 0 1 → jEv nX5_weigh (53, [(0, .ref a), (2, .ref 57), (3, .ref (a + 2)), (4, .ref (a + 1)), (5, .long 1), (7, .int 1)], [], M1) K)) ∧ (¬ x1 = 0 → (∀ M2 : jM, M2 = jsl M 57 0 1 → jEv nX5_weigh (53, [(0, .ref a), (2, .ref 57), (3, .ref (a + 2)), (4, .ref (a + 1)), (5, .long (-1)), (7, .int 1)], [], M2) K)))) ∧ (¬ x1 = 0 → ((x1 = 0 → (∀ M3 : jM, M3 = jsl M 57 0 1 → jEv nX5_weigh (53, [(0, .ref a), (2, .ref 57), (3, .ref (a + 2)), (4, .ref (a + 2)), (5, .long 1), (7, .int 1)], [], M3) K)) ∧ (¬ x1 = 0 → (∀ M4 : jM, M4 = jsl M 57 0 1 → jEv nX5_weigh (53, [(0, .ref a), (2, .ref 57), (3, .ref (a + 2)), (4, .ref (a + 2)), (5, .long (-1)), (7, .int 1)], [], M4) K)))))) ∧ (¬ x1 = 0 → ((x1 = 0 → ((x1 = 0 → (∀ M5 : jM, M5 = jsl M 57 0 1 → jEv nX5_weigh (53, [(0, .ref a), (2, .ref 57), (3, .ref (a + 1)), (4, .ref (a + 1)), (5, .long 1), (7, .int 1)], [], M5) K)) ∧ (¬ x1 = 0 → (∀ M6 : jM, M6 = jsl M 57 0 1 → jEv nX5_weigh (53, [(0, .ref a), (2, .ref 57), (3, .ref (a + 1)), (4, .ref (a + 1)), (5, .long (-1)), (7, .int 1)], [], M6) K)))) ∧ (¬ x1 = 0 → ((x1 = 0 → (∀ M7 : jM, M7 = jsl M 57 0 1 → jEv nX5_weigh (53, [(0, .ref a), (2, .ref 57), (3, .ref (a + 1)), (4, .ref (a + 2)), (5, .long 1), (7, .int 1)], [], M7) K)) ∧ (¬ x1 = 0 → (∀ M8 : jM, M8 = jsl M 57 0 1 → jEv nX5_weigh (53, [(0, .ref a), (2, .ref 57), (3, .ref (a + 1)), (4, .ref (a + 2)), (5, .long (-1)), (7, .int 1)], [], M8) K)))))))) : jEv nX5_weigh (0, [(0, .ref a), (1, .int x1), (2, .ref 57)], [], M) K := by
  have hE : jMT nX5_weigh = some me_X5_weigh := rfl
  refine e_seg (k := 1) (d := (1, [(0, .ref a), (1, .int x1), (2, .ref 57)], [.int x1], M)) rfl ?_
  refine e_if_eq (t := 11) (q := 4) hE rfl rfl rfl rfl (fun hbr => ?_) (fun hbr => ?_)
  · replace h := h.1 hbr
    refine e_seg (k := 1) (d := (12, [(0, .ref a), (1, .int x1), (2, .ref 57)], [.ref a], M)) rfl ?_
    refine e_get (v := .ref (a + 2)) (q := 15) hE rfl rfl rfl rfl (jRu_o ha) rfl rfl ?_
    refine e_seg (k := 2) (d := (17, [(0, .ref a), (1, .int x1), (2, .ref 57), (3, .ref (a + 2))], [.int x1], M)) rfl ?_
    refine e_if_eq (t := 27) (q := 20) hE rfl rfl rfl rfl (fun hbr => ?_) (fun hbr => ?_)
    · replace h := h.1 hbr
      refine e_seg (k := 1) (d := (28, [(0, .ref a), (1, .int x1), (2, .ref 57), (3, .ref (a + 2))], [.ref a], M)) rfl ?_
      refine e_get (v := .ref (a + 1)) (q := 31) hE rfl rfl rfl rfl (jRu_o ha) rfl rfl ?_
      refine e_seg (k := 2) (d := (34, [(0, .ref a), (1, .int x1), (2, .ref 57), (3, .ref (a + 2)), (4, .ref (a + 1))], [.int x1], M)) rfl ?_
      refine e_if_eq (t := 43) (q := 37) hE rfl rfl rfl rfl (fun hbr => ?_) (fun hbr => ?_)
      · replace h := h.1 hbr
        refine e_seg (k := 5) (d := (49, [(0, .ref a), (1, .int x1), (2, .ref 57), (3, .ref (a + 2)), (4, .ref (a + 1)), (5, .long 1)], [.long 1, .int 0, .ref 57], M)) rfl ?_
        refine e_last (q := 50) hE rfl rfl rfl rfl (by decide) ?_
        obtain ⟨M1, hM1⟩ : ∃ z : jM, z = jsl M 57 0 1 := ⟨_, rfl⟩
        refine jEv_M hM1 ?_
        replace h := h M1 hM1
        refine e_seg (k := 2) (d := (53, [(0, .ref a), (1, .int x1), (2, .ref 57), (3, .ref (a + 2)), (4, .ref (a + 1)), (5, .long 1), (7, .int 1)], [], M1)) rfl ?_
        refine e_cut (ks := [0, 2, 3, 4, 5, 7]) (L' := [(0, .ref a), (2, .ref 57), (3, .ref (a + 2)), (4, .ref (a + 1)), (5, .long 1), (7, .int 1)]) hE rfl rfl rfl rfl rfl ?_
        exact h
      · replace h := h.2 hbr
        refine e_seg (k := 6) (d := (49, [(0, .ref a), (1, .int x1), (2, .ref 57), (3, .ref (a + 2)), (4, .ref (a + 1)), (5, .long (-1))], [.long 1, .int 0, .ref 57], M)) rfl ?_
        refine e_last (q := 50) hE rfl rfl rfl rfl (by decide) ?_
        obtain ⟨M2, hM2⟩ : ∃ z : jM, z = jsl M 57 0 1 := ⟨_, rfl⟩
        refine jEv_M hM2 ?_
        replace h := h M2 hM2
        refine e_seg (k := 2) (d := (53, [(0, .ref a), (1, .int x1), (2, .ref 57), (3, .ref (a + 2)), (4, .ref (a + 1)), (5, .long (-1)), (7, .int 1)], [], M2)) rfl ?_
        refine e_cut (ks := [0, 2, 3, 4, 5, 7]) (L' := [(0, .ref a), (2, .ref 57), (3, .ref (a + 2)), (4, .ref (a + 1)), (5, .long (-1)), (7, .int 1)]) hE rfl rfl rfl rfl rfl ?_
        exact h
    · replace h := h.2 hbr
      refine e_seg (k := 1) (d := (21, [(0, .ref a), (1, .int x1), (2, .ref 57), (3, .ref (a + 2))], [.ref a], M)) rfl ?_
      refine e_get (v := .ref (a + 2)) (q := 24) hE rfl rfl rfl rfl (jRu_o ha) rfl rfl ?_
      refine e_seg (k := 3) (d := (34, [(0, .ref a), (1, .int x1), (2, .ref 57), (3, .ref (a + 2)), (4, .ref (a + 2))], [.int x1], M)) rfl ?_
      refine e_if_eq (t := 43) (q := 37) hE rfl rfl rfl rfl (fun hbr => ?_) (fun hbr => ?_)
      · replace h := h.1 hbr
        refine e_seg (k := 5) (d := (49, [(0, .ref a), (1, .int x1), (2, .ref 57), (3, .ref (a + 2)), (4, .ref (a + 2)), (5, .long 1)], [.long 1, .int 0, .ref 57], M)) rfl ?_
        refine e_last (q := 50) hE rfl rfl rfl rfl (by decide) ?_
        obtain ⟨M3, hM3⟩ : ∃ z : jM, z = jsl M 57 0 1 := ⟨_, rfl⟩
        refine jEv_M hM3 ?_
        replace h := h M3 hM3
        refine e_seg (k := 2) (d := (53, [(0, .ref a), (1, .int x1), (2, .ref 57), (3, .ref (a + 2)), (4, .ref (a + 2)), (5, .long 1), (7, .int 1)], [], M3)) rfl ?_
        refine e_cut (ks := [0, 2, 3, 4, 5, 7]) (L' := [(0, .ref a), (2, .ref 57), (3, .ref (a + 2)), (4, .ref (a + 2)), (5, .long 1), (7, .int 1)]) hE rfl rfl rfl rfl rfl ?_
        exact h
      · replace h := h.2 hbr
        refine e_seg (k := 6) (d := (49, [(0, .ref a), (1, .int x1), (2, .ref 57), (3, .ref (a + 2)), (4, .ref (a + 2)), (5, .long (-1))], [.long 1, .int 0, .ref 57], M)) rfl ?_
        refine e_last (q := 50) hE rfl rfl rfl rfl (by decide) ?_
        obtain ⟨M4, hM4⟩ : ∃ z : jM, z = jsl M 57 0 1 := ⟨_, rfl⟩
        refine jEv_M hM4 ?_
        replace h := h M4 hM4
        refine e_seg (k := 2) (d := (53, [(0, .ref a), (1, .int x1), (2, .ref 57), (3, .ref (a + 2)), (4, .ref (a + 2)), (5, .long (-1)), (7, .int 1)], [], M4)) rfl ?_
        refine e_cut (ks := [0, 2, 3, 4, 5, 7]) (L' := [(0, .ref a), (2, .ref 57), (3, .ref (a + 2)), (4, .ref (a + 2)), (5, .long (-1)), (7, .int 1)]) hE rfl rfl rfl rfl rfl ?_
        exact h
  · replace h := h.2 hbr
    refine e_seg (k := 1) (d := (5, [(0, .ref a), (1, .int x1), (2, .ref 57)], [.ref a], M)) rfl ?_
    refine e_get (v := .ref (a + 1)) (q := 8) hE rfl rfl rfl rfl (jRu_o ha) rfl rfl ?_
    refine e_seg (k := 3) (d := (17, [(0, .ref a), (1, .int x1), (2, .ref 57), (3, .ref (a + 1))], [.int x1], M)) rfl ?_
    refine e_if_eq (t := 27) (q := 20) hE rfl rfl rfl rfl (fun hbr => ?_) (fun hbr => ?_)
    · replace h := h.1 hbr
      refine e_seg (k := 1) (d := (28, [(0, .ref a), (1, .int x1), (2, .ref 57), (3, .ref (a + 1))], [.ref a], M)) rfl ?_
      refine e_get (v := .ref (a + 1)) (q := 31) hE rfl rfl rfl rfl (jRu_o ha) rfl rfl ?_
      refine e_seg (k := 2) (d := (34, [(0, .ref a), (1, .int x1), (2, .ref 57), (3, .ref (a + 1)), (4, .ref (a + 1))], [.int x1], M)) rfl ?_
      refine e_if_eq (t := 43) (q := 37) hE rfl rfl rfl rfl (fun hbr => ?_) (fun hbr => ?_)
      · replace h := h.1 hbr
        refine e_seg (k := 5) (d := (49, [(0, .ref a), (1, .int x1), (2, .ref 57), (3, .ref (a + 1)), (4, .ref (a + 1)), (5, .long 1)], [.long 1, .int 0, .ref 57], M)) rfl ?_
        refine e_last (q := 50) hE rfl rfl rfl rfl (by decide) ?_
        obtain ⟨M5, hM5⟩ : ∃ z : jM, z = jsl M 57 0 1 := ⟨_, rfl⟩
        refine jEv_M hM5 ?_
        replace h := h M5 hM5
        refine e_seg (k := 2) (d := (53, [(0, .ref a), (1, .int x1), (2, .ref 57), (3, .ref (a + 1)), (4, .ref (a + 1)), (5, .long 1), (7, .int 1)], [], M5)) rfl ?_
        refine e_cut (ks := [0, 2, 3, 4, 5, 7]) (L' := [(0, .ref a), (2, .ref 57), (3, .ref (a + 1)), (4, .ref (a + 1)), (5, .long 1), (7, .int 1)]) hE rfl rfl rfl rfl rfl ?_
        exact h
      · replace h := h.2 hbr
        refine e_seg (k := 6) (d := (49, [(0, .ref a), (1, .int x1), (2, .ref 57), (3, .ref (a + 1)), (4, .ref (a + 1)), (5, .long (-1))], [.long 1, .int 0, .ref 57], M)) rfl ?_
        refine e_last (q := 50) hE rfl rfl rfl rfl (by decide) ?_
        obtain ⟨M6, hM6⟩ : ∃ z : jM, z = jsl M 57 0 1 := ⟨_, rfl⟩
        refine jEv_M hM6 ?_
        replace h := h M6 hM6
        refine e_seg (k := 2) (d := (53, [(0, .ref a), (1, .int x1), (2, .ref 57), (3, .ref (a + 1)), (4, .ref (a + 1)), (5, .long (-1)), (7, .int 1)], [], M6)) rfl ?_
        refine e_cut (ks := [0, 2, 3, 4, 5, 7]) (L' := [(0, .ref a), (2, .ref 57), (3, .ref (a + 1)), (4, .ref (a + 1)), (5, .long (-1)), (7, .int 1)]) hE rfl rfl rfl rfl rfl ?_
        exact h
    · replace h := h.2 hbr
      refine e_seg (k := 1) (d := (21, [(0, .ref a), (1, .int x1), (2, .ref 57), (3, .ref (a + 1))], [.ref a], M)) rfl ?_
      refine e_get (v := .ref (a + 2)) (q := 24) hE rfl rfl rfl rfl (jRu_o ha) rfl rfl ?_
      refine e_seg (k := 3) (d := (34, [(0, .ref a), (1, .int x1), (2, .ref 57), (3, .ref (a + 1)), (4, .ref (a + 2))], [.int x1], M)) rfl ?_
      refine e_if_eq (t := 43) (q := 37) hE rfl rfl rfl rfl (fun hbr => ?_) (fun hbr => ?_)
      · replace h := h.1 hbr
        refine e_seg (k := 5) (d := (49, [(0, .ref a), (1, .int x1), (2, .ref 57), (3, .ref (a + 1)), (4, .ref (a + 2)), (5, .long 1)], [.long 1, .int 0, .ref 57], M)) rfl ?_
        refine e_last (q := 50) hE rfl rfl rfl rfl (by decide) ?_
        obtain ⟨M7, hM7⟩ : ∃ z : jM, z = jsl M 57 0 1 := ⟨_, rfl⟩
        refine jEv_M hM7 ?_
        replace h := h M7 hM7
        refine e_seg (k := 2) (d := (53, [(0, .ref a), (1, .int x1), (2, .ref 57), (3, .ref (a + 1)), (4, .ref (a + 2)), (5, .long 1), (7, .int 1)], [], M7)) rfl ?_
        refine e_cut (ks := [0, 2, 3, 4, 5, 7]) (L' := [(0, .ref a), (2, .ref 57), (3, .ref (a + 1)), (4, .ref (a + 2)), (5, .long 1), (7, .int 1)]) hE rfl rfl rfl rfl rfl ?_
        exact h
      · replace h := h.2 hbr
        refine e_seg (k := 6) (d := (49, [(0, .ref a), (1, .int x1), (2, .ref 57), (3, .ref (a + 1)), (4, .ref (a + 2)), (5, .long (-1))], [.long 1, .int 0, .ref 57], M)) rfl ?_
        refine e_last (q := 50) hE rfl rfl rfl rfl (by decide) ?_
        obtain ⟨M8, hM8⟩ : ∃ z : jM, z = jsl M 57 0 1 := ⟨_, rfl⟩
        refine jEv_M hM8 ?_
        replace h := h M8 hM8
        refine e_seg (k := 2) (d := (53, [(0, .ref a), (1, .int x1), (2, .ref 57), (3, .ref (a + 1)), (4, .ref (a + 2)), (5, .long (-1)), (7, .int 1)], [], M8)) rfl ?_
        refine e_cut (ks := [0, 2, 3, 4, 5, 7]) (L' := [(0, .ref a), (2, .ref 57), (3, .ref (a + 1)), (4, .ref (a + 2)), (5, .long (-1)), (7, .int 1)]) hE rfl rfl rfl rfl rfl ?_
        exact h
set_option maxRecDepth 100000 in
set_option maxHeartbeats 4000000 in
theorem v_X5_weigh_53 {K : jK} {M : jM} {x5 : Int64} {x7 : Int32} {a : Nat} (ha : jRu a) {b : Nat} (hb : jSH[b]? = some (Sum.inr (0, 4, []))) {c : Nat} (hc : jSH[c]? = some (Sum.inr (0, 4, []))) (h : ((8 < x7 → K (some none) M) ∧ (¬ 8 < x7 → ((3 < x7 → jEv nX5_weigh (93, [(0, .ref a), (2, .ref 57), (3, .ref b), (4, .ref c), (5, .long x5), (7, .int x7), (8, .long 0), (10, .int 1)], [], M) K) ∧ (¬ 3 < x7 → (¬ (x7 < 0 ∨ 4 ≤ x7.toNatClampNeg) ∧ (jEv nX7_power (0, [(0, .long ((M.1 a 1).toInt64)), (2, .int (x7 - 1))], [], M) (fun o1 M2 => ∃ r3 : Int64, o1 = some (some (.long r3)) ∧ jEv nX5_weigh (93, [(0, .ref a), (2, .ref 57), (3, .ref b), (4, .ref c), (5, .long x5), (7, .int x7), (8, .long (((M.1 b x7.toNatClampNeg).toInt64) * r3)), (10, .int 1)], [], M2) K)))))))) : jEv nX5_weigh (53, [(0, .ref a), (2, .ref 57), (3, .ref b), (4, .ref c), (5, .long x5), (7, .int x7)], [], M) K := by
  have hE : jMT nX5_weigh = some me_X5_weigh := rfl
  refine e_seg (k := 2) (d := (57, [(0, .ref a), (2, .ref 57), (3, .ref b), (4, .ref c), (5, .long x5), (7, .int x7)], [.int 8, .int x7], M)) rfl ?_
  refine e_ic_gt (t := 159) (q := 60) hE rfl rfl rfl rfl (fun hbr => ?_) (fun hbr => ?_)
  · replace h := h.1 hbr
    exact e_ret hE rfl rfl rfl h
  · replace h := h.2 hbr
    refine e_seg (k := 2) (d := (63, [(0, .ref a), (2, .ref 57), (3, .ref b), (4, .ref c), (5, .long x5), (7, .int x7)], [.int 3, .int x7], M)) rfl ?_
    refine e_ic_gt (t := 87) (q := 66) hE rfl rfl rfl rfl (fun hbr => ?_) (fun hbr => ?_)
    · replace h := h.1 hbr
      refine e_seg (k := 4) (d := (93, [(0, .ref a), (2, .ref 57), (3, .ref b), (4, .ref c), (5, .long x5), (7, .int x7), (8, .long 0), (10, .int 1)], [], M)) rfl ?_
      refine e_cut (ks := [0, 2, 3, 4, 5, 7, 8, 10]) (L' := [(0, .ref a), (2, .ref 57), (3, .ref b), (4, .ref c), (5, .long x5), (7, .int x7), (8, .long 0), (10, .int 1)]) hE rfl rfl rfl rfl rfl ?_
      exact h
    · replace h := h.2 hbr
      refine e_seg (k := 2) (d := (69, [(0, .ref a), (2, .ref 57), (3, .ref b), (4, .ref c), (5, .long x5), (7, .int x7)], [.int x7, .ref b], M)) rfl ?_
      refine e_iald (q := 70) hE rfl rfl rfl hb h.1 ?_
      replace h := h.2
      refine e_seg (k := 2) (d := (72, [(0, .ref a), (2, .ref 57), (3, .ref b), (4, .ref c), (5, .long x5), (7, .int x7)], [.ref a, .long ((M.1 b x7.toNatClampNeg).toInt64)], M)) rfl ?_
      refine e_get (v := .int (M.1 a 1)) (q := 75) hE rfl rfl rfl rfl (jRu_o ha) rfl rfl ?_
      refine e_seg (k := 4) (d := (80, [(0, .ref a), (2, .ref 57), (3, .ref b), (4, .ref c), (5, .long x5), (7, .int x7)], [.int (x7 - 1), .long ((M.1 a 1).toInt64), .long ((M.1 b x7.toNatClampNeg).toInt64)], M)) rfl ?_
      refine e_call (q := 83) (L0 := [(0, .long ((M.1 a 1).toInt64)), (2, .int (x7 - 1))]) hE rfl rfl rfl rfl (jargs_S rfl rfl rfl rfl (Nat.le_of_ble_eq_true rfl) (Nat.le_of_ble_eq_true rfl) (Nat.le_of_ble_eq_true rfl)) rfl rfl (jEv.mono h (fun o1 M2 h => ?_))
      obtain ⟨r3, rfl, h⟩ := h
      refine ⟨_, rfl, ?_⟩
      show jEv nX5_weigh (83, [(0, .ref a), (2, .ref 57), (3, .ref b), (4, .ref c), (5, .long x5), (7, .int x7)], [.long r3, .long ((M.1 b x7.toNatClampNeg).toInt64)], M2) K
      refine e_seg (k := 5) (d := (93, [(0, .ref a), (2, .ref 57), (3, .ref b), (4, .ref c), (5, .long x5), (7, .int x7), (8, .long (((M.1 b x7.toNatClampNeg).toInt64) * r3)), (10, .int 1)], [], M2)) rfl ?_
      refine e_cut (ks := [0, 2, 3, 4, 5, 7, 8, 10]) (L' := [(0, .ref a), (2, .ref 57), (3, .ref b), (4, .ref c), (5, .long x5), (7, .int x7), (8, .long (((M.1 b x7.toNatClampNeg).toInt64) * r3)), (10, .int 1)]) hE rfl rfl rfl rfl rfl ?_
      exact h
set_option maxRecDepth 100000 in
set_option maxHeartbeats 4000000 in
theorem v_X5_weigh_93 {K : jK} {M : jM} {x5 : Int64} {x7 : Int32} {x8 : Int64} {x10 : Int32} {a : Nat} (ha : jRu a) {b : Nat} (hb : jSH[b]? = some (Sum.inr (0, 4, []))) {c : Nat} (hc : jSH[c]? = some (Sum.inr (0, 4, []))) (h : ((3 < x10 → (¬ (x7 < 0 ∨ 9 ≤ x7.toNatClampNeg) ∧ (∀ M1 : jM, M1 = jsl M 57 x7.toNatClampNeg (x5 * x8) → jEv nX5_weigh (53, [(0, .ref a), (2, .ref 57), (3, .ref b), (4, .ref c), (5, .long x5), (7, .int (x7 + 1))], [], M1) K))) ∧ (¬ 3 < x10 → ((x7 < x10 → (¬ (x7 < 0 ∨ 9 ≤ x7.toNatClampNeg) ∧ (∀ M2 : jM, M2 = jsl M 57 x7.toNatClampNeg (x5 * x8) → jEv nX5_weigh (53, [(0, .ref a), (2, .ref 57), (3, .ref b), (4, .ref c), (5, .long x5), (7, .int (x7 + 1))], [], M2) K))) ∧ (¬ x7 < x10 → (¬ (x10 < 0 ∨ 4 ≤ x10.toNatClampNeg) ∧ (jEv nX7_power (0, [(0, .long ((M.1 a 1).toInt64)), (2, .int (x10 - 1))], [], M) (fun o3 M4 => ∃ r5 : Int64, o3 = some (some (.long r5)) ∧ (¬ (x7 - x10 < 0 ∨ 9 ≤ (x7 - x10).toNatClampNeg) ∧ jEv nX5_weigh (93, [(0, .ref a), (2, .ref 57), (3, .ref b), (4, .ref c), (5, .long x5), (7, .int x7), (8, .long (x8 + ((((M.1 c x10.toNatClampNeg).toInt64) * r5) * (M4.2 57 (x7 - x10).toNatClampNeg)))), (10, .int (x10 + 1))], [], M4) K))))))))) : jEv nX5_weigh (93, [(0, .ref a), (2, .ref 57), (3, .ref b), (4, .ref c), (5, .long x5), (7, .int x7), (8, .long x8), (10, .int x10)], [], M) K := by
  have hE : jMT nX5_weigh = some me_X5_weigh := rfl
  refine e_seg (k := 2) (d := (96, [(0, .ref a), (2, .ref 57), (3, .ref b), (4, .ref c), (5, .long x5), (7, .int x7), (8, .long x8), (10, .int x10)], [.int 3, .int x10], M)) rfl ?_
  refine e_ic_gt (t := 144) (q := 99) hE rfl rfl rfl rfl (fun hbr => ?_) (fun hbr => ?_)
  · replace h := h.1 hbr
    refine e_seg (k := 5) (d := (152, [(0, .ref a), (2, .ref 57), (3, .ref b), (4, .ref c), (5, .long x5), (7, .int x7), (8, .long x8), (10, .int x10)], [.long (x5 * x8), .int x7, .ref 57], M)) rfl ?_
    refine e_last (q := 153) hE rfl rfl rfl rfl h.1 ?_
    replace h := h.2
    obtain ⟨M1, hM1⟩ : ∃ z : jM, z = jsl M 57 x7.toNatClampNeg (x5 * x8) := ⟨_, rfl⟩
    refine jEv_M hM1 ?_
    replace h := h M1 hM1
    refine e_seg (k := 2) (d := (53, [(0, .ref a), (2, .ref 57), (3, .ref b), (4, .ref c), (5, .long x5), (7, .int (x7 + 1)), (8, .long x8), (10, .int x10)], [], M1)) rfl ?_
    refine e_cut (ks := [0, 2, 3, 4, 5, 7]) (L' := [(0, .ref a), (2, .ref 57), (3, .ref b), (4, .ref c), (5, .long x5), (7, .int (x7 + 1))]) hE rfl rfl rfl rfl rfl ?_
    exact h
  · replace h := h.2 hbr
    refine e_seg (k := 2) (d := (103, [(0, .ref a), (2, .ref 57), (3, .ref b), (4, .ref c), (5, .long x5), (7, .int x7), (8, .long x8), (10, .int x10)], [.int x7, .int x10], M)) rfl ?_
    refine e_ic_gt (t := 144) (q := 106) hE rfl rfl rfl rfl (fun hbr => ?_) (fun hbr => ?_)
    · replace h := h.1 hbr
      refine e_seg (k := 5) (d := (152, [(0, .ref a), (2, .ref 57), (3, .ref b), (4, .ref c), (5, .long x5), (7, .int x7), (8, .long x8), (10, .int x10)], [.long (x5 * x8), .int x7, .ref 57], M)) rfl ?_
      refine e_last (q := 153) hE rfl rfl rfl rfl h.1 ?_
      replace h := h.2
      obtain ⟨M2, hM2⟩ : ∃ z : jM, z = jsl M 57 x7.toNatClampNeg (x5 * x8) := ⟨_, rfl⟩
      refine jEv_M hM2 ?_
      replace h := h M2 hM2
      refine e_seg (k := 2) (d := (53, [(0, .ref a), (2, .ref 57), (3, .ref b), (4, .ref c), (5, .long x5), (7, .int (x7 + 1)), (8, .long x8), (10, .int x10)], [], M2)) rfl ?_
      refine e_cut (ks := [0, 2, 3, 4, 5, 7]) (L' := [(0, .ref a), (2, .ref 57), (3, .ref b), (4, .ref c), (5, .long x5), (7, .int (x7 + 1))]) hE rfl rfl rfl rfl rfl ?_
      exact h
    · replace h := h.2 hbr
      refine e_seg (k := 3) (d := (112, [(0, .ref a), (2, .ref 57), (3, .ref b), (4, .ref c), (5, .long x5), (7, .int x7), (8, .long x8), (10, .int x10)], [.int x10, .ref c, .long x8], M)) rfl ?_
      refine e_iald (q := 113) hE rfl rfl rfl hc h.1 ?_
      replace h := h.2
      refine e_seg (k := 2) (d := (115, [(0, .ref a), (2, .ref 57), (3, .ref b), (4, .ref c), (5, .long x5), (7, .int x7), (8, .long x8), (10, .int x10)], [.ref a, .long ((M.1 c x10.toNatClampNeg).toInt64), .long x8], M)) rfl ?_
      refine e_get (v := .int (M.1 a 1)) (q := 118) hE rfl rfl rfl rfl (jRu_o ha) rfl rfl ?_
      refine e_seg (k := 4) (d := (123, [(0, .ref a), (2, .ref 57), (3, .ref b), (4, .ref c), (5, .long x5), (7, .int x7), (8, .long x8), (10, .int x10)], [.int (x10 - 1), .long ((M.1 a 1).toInt64), .long ((M.1 c x10.toNatClampNeg).toInt64), .long x8], M)) rfl ?_
      refine e_call (q := 126) (L0 := [(0, .long ((M.1 a 1).toInt64)), (2, .int (x10 - 1))]) hE rfl rfl rfl rfl (jargs_S rfl rfl rfl rfl (Nat.le_of_ble_eq_true rfl) (Nat.le_of_ble_eq_true rfl) (Nat.le_of_ble_eq_true rfl)) rfl rfl (jEv.mono h (fun o3 M4 h => ?_))
      obtain ⟨r5, rfl, h⟩ := h
      refine ⟨_, rfl, ?_⟩
      show jEv nX5_weigh (126, [(0, .ref a), (2, .ref 57), (3, .ref b), (4, .ref c), (5, .long x5), (7, .int x7), (8, .long x8), (10, .int x10)], [.long r5, .long ((M.1 c x10.toNatClampNeg).toInt64), .long x8], M4) K
      refine e_seg (k := 5) (d := (133, [(0, .ref a), (2, .ref 57), (3, .ref b), (4, .ref c), (5, .long x5), (7, .int x7), (8, .long x8), (10, .int x10)], [.int (x7 - x10), .ref 57, .long (((M.1 c x10.toNatClampNeg).toInt64) * r5), .long x8], M4)) rfl ?_
      refine e_lald (q := 134) hE rfl rfl rfl rfl h.1 ?_
      replace h := h.2
      refine e_seg (k := 5) (d := (93, [(0, .ref a), (2, .ref 57), (3, .ref b), (4, .ref c), (5, .long x5), (7, .int x7), (8, .long (x8 + ((((M.1 c x10.toNatClampNeg).toInt64) * r5) * (M4.2 57 (x7 - x10).toNatClampNeg)))), (10, .int (x10 + 1))], [], M4)) rfl ?_
      refine e_cut (ks := [0, 2, 3, 4, 5, 7, 8, 10]) (L' := [(0, .ref a), (2, .ref 57), (3, .ref b), (4, .ref c), (5, .long x5), (7, .int x7), (8, .long (x8 + ((((M.1 c x10.toNatClampNeg).toInt64) * r5) * (M4.2 57 (x7 - x10).toNatClampNeg)))), (10, .int (x10 + 1))]) hE rfl rfl rfl rfl rfl ?_
      exact h
set_option maxRecDepth 100000 in
set_option maxHeartbeats 4000000 in
theorem v_X5_diesAway_0 {K : jK} {M : jM} {a : Nat} (ha : jRu a) (h : (∀ M1 : jM, M1 = jsl M (a + 3) 0 ((M.1 a 1).toInt64) → jEv nX5_diesAway (13, [(0, .ref a), (1, .int 1)], [], M1) K)) : jEv nX5_diesAway (0, [(0, .ref a)], [], M) K := by
  have hE : jMT nX5_diesAway = some me_X5_diesAway := rfl
  refine e_seg (k := 1) (d := (1, [(0, .ref a)], [.ref a], M)) rfl ?_
  refine e_get (v := .ref (a + 3)) (q := 4) hE rfl rfl rfl rfl (jRu_o ha) rfl rfl ?_
  refine e_seg (k := 2) (d := (6, [(0, .ref a)], [.ref a, .int 0, .ref (a + 3)], M)) rfl ?_
  refine e_get (v := .int (M.1 a 1)) (q := 9) hE rfl rfl rfl rfl (jRu_o ha) rfl rfl ?_
  refine e_seg (k := 1) (d := (10, [(0, .ref a)], [.long ((M.1 a 1).toInt64), .int 0, .ref (a + 3)], M)) rfl ?_
  refine e_last (q := 11) hE rfl rfl rfl (jRu_3 ha) (by decide) ?_
  obtain ⟨M1, hM1⟩ : ∃ z : jM, z = jsl M (a + 3) 0 ((M.1 a 1).toInt64) := ⟨_, rfl⟩
  refine jEv_M hM1 ?_
  replace h := h M1 hM1
  refine e_seg (k := 2) (d := (13, [(0, .ref a), (1, .int 1)], [], M1)) rfl ?_
  refine e_cut (ks := [0, 1]) (L' := [(0, .ref a), (1, .int 1)]) hE rfl rfl rfl rfl rfl ?_
  exact h
set_option maxRecDepth 100000 in
set_option maxHeartbeats 4000000 in
theorem v_X5_diesAway_13 {K : jK} {M : jM} {x1 : Int32} {a : Nat} (ha : jRu a) (h : ((3 < x1 → (jEv nX5_polyHasNoInnerRoot (0, [(0, .ref a)], [], M) (fun o1 M2 => ∃ r3 : Int32, o1 = some (some (.int r3)) ∧ ((r3 = 0 ∨ r3 = 1) ∧ K (some (some (.int r3))) M2)))) ∧ (¬ 3 < x1 → (¬ (x1 < 0 ∨ 4 ≤ x1.toNatClampNeg) ∧ (¬ (x1 < 0 ∨ 4 ≤ x1.toNatClampNeg) ∧ (∀ M4 : jM, M4 = jsl M (a + 3) x1.toNatClampNeg ((-(M.1 (a + 1) x1.toNatClampNeg)).toInt64) → jEv nX5_diesAway (13, [(0, .ref a), (1, .int (x1 + 1))], [], M4) K)))))) : jEv nX5_diesAway (13, [(0, .ref a), (1, .int x1)], [], M) K := by
  have hE : jMT nX5_diesAway = some me_X5_diesAway := rfl
  refine e_seg (k := 2) (d := (15, [(0, .ref a), (1, .int x1)], [.int 3, .int x1], M)) rfl ?_
  refine e_ic_gt (t := 38) (q := 18) hE rfl rfl rfl rfl (fun hbr => ?_) (fun hbr => ?_)
  · replace h := h.1 hbr
    refine e_seg (k := 1) (d := (39, [(0, .ref a), (1, .int x1)], [.ref a], M)) rfl ?_
    refine e_call (q := 42) (L0 := [(0, .ref a)]) hE rfl rfl rfl rfl (jargs_V (jRu_o ha) rfl rfl rfl rfl (Nat.le_of_ble_eq_true rfl) (Nat.le_of_ble_eq_true rfl) (Nat.le_of_ble_eq_true rfl)) rfl rfl (jEv.mono h (fun o1 M2 h => ?_))
    obtain ⟨r3, rfl, h⟩ := h
    refine ⟨_, rfl, ?_⟩
    show jEv nX5_diesAway (42, [(0, .ref a), (1, .int x1)], [.int r3], M2) K
    exact e_ret hE rfl rfl (jb_z rfl h.1) h.2
  · replace h := h.2 hbr
    refine e_seg (k := 1) (d := (19, [(0, .ref a), (1, .int x1)], [.ref a], M)) rfl ?_
    refine e_get (v := .ref (a + 3)) (q := 22) hE rfl rfl rfl rfl (jRu_o ha) rfl rfl ?_
    refine e_seg (k := 2) (d := (24, [(0, .ref a), (1, .int x1)], [.ref a, .int x1, .ref (a + 3)], M)) rfl ?_
    refine e_get (v := .ref (a + 1)) (q := 27) hE rfl rfl rfl rfl (jRu_o ha) rfl rfl ?_
    refine e_seg (k := 1) (d := (28, [(0, .ref a), (1, .int x1)], [.int x1, .ref (a + 1), .int x1, .ref (a + 3)], M)) rfl ?_
    refine e_iald (q := 29) hE rfl rfl rfl (jRu_1 ha) h.1 ?_
    replace h := h.2
    refine e_seg (k := 2) (d := (31, [(0, .ref a), (1, .int x1)], [.long ((-(M.1 (a + 1) x1.toNatClampNeg)).toInt64), .int x1, .ref (a + 3)], M)) rfl ?_
    refine e_last (q := 32) hE rfl rfl rfl (jRu_3 ha) h.1 ?_
    replace h := h.2
    obtain ⟨M4, hM4⟩ : ∃ z : jM, z = jsl M (a + 3) x1.toNatClampNeg ((-(M.1 (a + 1) x1.toNatClampNeg)).toInt64) := ⟨_, rfl⟩
    refine jEv_M hM4 ?_
    replace h := h M4 hM4
    refine e_seg (k := 2) (d := (13, [(0, .ref a), (1, .int (x1 + 1))], [], M4)) rfl ?_
    refine e_cut (ks := [0, 1]) (L' := [(0, .ref a), (1, .int (x1 + 1))]) hE rfl rfl rfl rfl rfl ?_
    exact h
set_option maxRecDepth 100000 in
set_option maxHeartbeats 4000000 in
theorem v_X5_showsMisses_0 {K : jK} {M : jM} {a : Nat} (ha : jRu a) (h : (∀ M1 : jM, M1 = jsl M (a + 3) 0 ((M.1 a 1).toInt64) → jEv nX5_showsMisses (13, [(0, .ref a), (1, .int 1)], [], M1) K)) : jEv nX5_showsMisses (0, [(0, .ref a)], [], M) K := by
  have hE : jMT nX5_showsMisses = some me_X5_showsMisses := rfl
  refine e_seg (k := 1) (d := (1, [(0, .ref a)], [.ref a], M)) rfl ?_
  refine e_get (v := .ref (a + 3)) (q := 4) hE rfl rfl rfl rfl (jRu_o ha) rfl rfl ?_
  refine e_seg (k := 2) (d := (6, [(0, .ref a)], [.ref a, .int 0, .ref (a + 3)], M)) rfl ?_
  refine e_get (v := .int (M.1 a 1)) (q := 9) hE rfl rfl rfl rfl (jRu_o ha) rfl rfl ?_
  refine e_seg (k := 1) (d := (10, [(0, .ref a)], [.long ((M.1 a 1).toInt64), .int 0, .ref (a + 3)], M)) rfl ?_
  refine e_last (q := 11) hE rfl rfl rfl (jRu_3 ha) (by decide) ?_
  obtain ⟨M1, hM1⟩ : ∃ z : jM, z = jsl M (a + 3) 0 ((M.1 a 1).toInt64) := ⟨_, rfl⟩
  refine jEv_M hM1 ?_
  replace h := h M1 hM1
  refine e_seg (k := 2) (d := (13, [(0, .ref a), (1, .int 1)], [], M1)) rfl ?_
  refine e_cut (ks := [0, 1]) (L' := [(0, .ref a), (1, .int 1)]) hE rfl rfl rfl rfl rfl ?_
  exact h
set_option maxRecDepth 100000 in
set_option maxHeartbeats 4000000 in
theorem v_X5_showsMisses_13 {K : jK} {M : jM} {x1 : Int32} {a : Nat} (ha : jRu a) (h : ((3 < x1 → (jEv nX5_polyHasNoInnerRoot (0, [(0, .ref a)], [], M) (fun o1 M2 => ∃ r3 : Int32, o1 = some (some (.int r3)) ∧ ((r3 = 0 ∨ r3 = 1) ∧ K (some (some (.int r3))) M2)))) ∧ (¬ 3 < x1 → (¬ (x1 < 0 ∨ 4 ≤ x1.toNatClampNeg) ∧ (¬ (x1 < 0 ∨ 4 ≤ x1.toNatClampNeg) ∧ (∀ M4 : jM, M4 = jsl M (a + 3) x1.toNatClampNeg ((M.1 (a + 2) x1.toNatClampNeg).toInt64) → jEv nX5_showsMisses (13, [(0, .ref a), (1, .int (x1 + 1))], [], M4) K)))))) : jEv nX5_showsMisses (13, [(0, .ref a), (1, .int x1)], [], M) K := by
  have hE : jMT nX5_showsMisses = some me_X5_showsMisses := rfl
  refine e_seg (k := 2) (d := (15, [(0, .ref a), (1, .int x1)], [.int 3, .int x1], M)) rfl ?_
  refine e_ic_gt (t := 37) (q := 18) hE rfl rfl rfl rfl (fun hbr => ?_) (fun hbr => ?_)
  · replace h := h.1 hbr
    refine e_seg (k := 1) (d := (38, [(0, .ref a), (1, .int x1)], [.ref a], M)) rfl ?_
    refine e_call (q := 41) (L0 := [(0, .ref a)]) hE rfl rfl rfl rfl (jargs_V (jRu_o ha) rfl rfl rfl rfl (Nat.le_of_ble_eq_true rfl) (Nat.le_of_ble_eq_true rfl) (Nat.le_of_ble_eq_true rfl)) rfl rfl (jEv.mono h (fun o1 M2 h => ?_))
    obtain ⟨r3, rfl, h⟩ := h
    refine ⟨_, rfl, ?_⟩
    show jEv nX5_showsMisses (41, [(0, .ref a), (1, .int x1)], [.int r3], M2) K
    exact e_ret hE rfl rfl (jb_z rfl h.1) h.2
  · replace h := h.2 hbr
    refine e_seg (k := 1) (d := (19, [(0, .ref a), (1, .int x1)], [.ref a], M)) rfl ?_
    refine e_get (v := .ref (a + 3)) (q := 22) hE rfl rfl rfl rfl (jRu_o ha) rfl rfl ?_
    refine e_seg (k := 2) (d := (24, [(0, .ref a), (1, .int x1)], [.ref a, .int x1, .ref (a + 3)], M)) rfl ?_
    refine e_get (v := .ref (a + 2)) (q := 27) hE rfl rfl rfl rfl (jRu_o ha) rfl rfl ?_
    refine e_seg (k := 1) (d := (28, [(0, .ref a), (1, .int x1)], [.int x1, .ref (a + 2), .int x1, .ref (a + 3)], M)) rfl ?_
    refine e_iald (q := 29) hE rfl rfl rfl (jRu_2 ha) h.1 ?_
    replace h := h.2
    refine e_seg (k := 1) (d := (30, [(0, .ref a), (1, .int x1)], [.long ((M.1 (a + 2) x1.toNatClampNeg).toInt64), .int x1, .ref (a + 3)], M)) rfl ?_
    refine e_last (q := 31) hE rfl rfl rfl (jRu_3 ha) h.1 ?_
    replace h := h.2
    obtain ⟨M4, hM4⟩ : ∃ z : jM, z = jsl M (a + 3) x1.toNatClampNeg ((M.1 (a + 2) x1.toNatClampNeg).toInt64) := ⟨_, rfl⟩
    refine jEv_M hM4 ?_
    replace h := h M4 hM4
    refine e_seg (k := 2) (d := (13, [(0, .ref a), (1, .int (x1 + 1))], [], M4)) rfl ?_
    refine e_cut (ks := [0, 1]) (L' := [(0, .ref a), (1, .int (x1 + 1))]) hE rfl rfl rfl rfl rfl ?_
    exact h
set_option maxRecDepth 100000 in
set_option maxHeartbeats 4000000 in
theorem v_X2_find_0 {K : jK} {M : jM} {a : Nat} (ha : jSu a) {b : Nat} (hb : jRu b) (h : (jEv nX5_weigh (0, [(0, .ref b), (1, .int 0), (2, .ref 57)], [], M) (fun o1 M2 => o1 = some none ∧ (jEv nX0_wipeCells (0, [(0, .ref 44)], [], M2) (fun o3 M4 => o3 = some none ∧ jEv nX2_find (13, [(0, .ref a), (1, .ref b), (2, .ref 44), (3, .ref 57), (4, .int 0)], [], M4) K))))) : jEv nX2_find (0, [(0, .ref a), (1, .ref b), (2, .ref 44), (3, .ref 57)], [], M) K := by
  have hE : jMT nX2_find = some me_X2_find := rfl
  refine e_seg (k := 3) (d := (3, [(0, .ref a), (1, .ref b), (2, .ref 44), (3, .ref 57)], [.ref 57, .int 0, .ref b], M)) rfl ?_
  refine e_call (q := 6) (L0 := [(0, .ref b), (1, .int 0), (2, .ref 57)]) hE rfl rfl rfl rfl (jargs_V (jRu_o hb) rfl rfl rfl rfl (Nat.le_of_ble_eq_true rfl) (Nat.le_of_ble_eq_true rfl) (Nat.le_of_ble_eq_true rfl)) rfl rfl (jEv.mono h (fun o1 M2 h => ?_))
  obtain ⟨rfl, h⟩ := h
  refine ⟨_, rfl, ?_⟩
  show jEv nX2_find (6, [(0, .ref a), (1, .ref b), (2, .ref 44), (3, .ref 57)], [], M2) K
  refine e_seg (k := 1) (d := (7, [(0, .ref a), (1, .ref b), (2, .ref 44), (3, .ref 57)], [.ref 44], M2)) rfl ?_
  refine e_call (q := 10) (L0 := [(0, .ref 44)]) hE rfl rfl rfl rfl (jargs_V rfl rfl rfl rfl rfl (Nat.le_of_ble_eq_true rfl) (Nat.le_of_ble_eq_true rfl) (Nat.le_of_ble_eq_true rfl)) rfl rfl (jEv.mono h (fun o3 M4 h => ?_))
  obtain ⟨rfl, h⟩ := h
  refine ⟨_, rfl, ?_⟩
  show jEv nX2_find (10, [(0, .ref a), (1, .ref b), (2, .ref 44), (3, .ref 57)], [], M4) K
  refine e_seg (k := 2) (d := (13, [(0, .ref a), (1, .ref b), (2, .ref 44), (3, .ref 57), (4, .int 0)], [], M4)) rfl ?_
  refine e_cut (ks := [0, 1, 2, 3, 4]) (L' := [(0, .ref a), (1, .ref b), (2, .ref 44), (3, .ref 57), (4, .int 0)]) hE rfl rfl rfl rfl rfl ?_
  exact h
set_option maxRecDepth 100000 in
set_option maxHeartbeats 4000000 in
theorem v_X2_find_13 {K : jK} {M : jM} {x4 : Int32} {a : Nat} (ha : jSu a) {b : Nat} (hb : jRu b) (h : (((M.1 b 2) < x4 → jEv nX2_find (60, [(0, .ref a), (1, .ref b), (2, .ref 44), (3, .ref 57), (4, .int 0)], [], M) K) ∧ (¬ (M.1 b 2) < x4 → (¬ (x4 < 0 ∨ 4 ≤ x4.toNatClampNeg) ∧ (¬ (x4 < 0 ∨ 4 ≤ x4.toNatClampNeg) ∧ (∀ M2 : jM, M2 = jsl M (46 + x4.toNatClampNeg) x4.toNatClampNeg ((M.1 b 1).toInt64) → (jEv nX2_missPart (0, [(0, .ref b), (1, .int x4), (2, .ref 57)], [], M2) (fun o3 M4 => ∃ r5 : Int64, o3 = some (some (.long r5)) ∧ (¬ (x4 < 0 ∨ 4 ≤ x4.toNatClampNeg) ∧ (∀ M6 : jM, M6 = jsl M4 50 x4.toNatClampNeg r5 → jEv nX2_find (13, [(0, .ref a), (1, .ref b), (2, .ref 44), (3, .ref 57), (4, .int (x4 + 1))], [], M6) K)))))))))) : jEv nX2_find (13, [(0, .ref a), (1, .ref b), (2, .ref 44), (3, .ref 57), (4, .int x4)], [], M) K := by
  have hE : jMT nX2_find = some me_X2_find := rfl
  refine e_seg (k := 2) (d := (16, [(0, .ref a), (1, .ref b), (2, .ref 44), (3, .ref 57), (4, .int x4)], [.ref b, .int x4], M)) rfl ?_
  refine e_get (v := .int (M.1 b 2)) (q := 19) hE rfl rfl rfl rfl (jRu_o hb) rfl rfl ?_
  refine e_ic_gt (t := 57) (q := 22) hE rfl rfl rfl rfl (fun hbr => ?_) (fun hbr => ?_)
  · replace h := h.1 hbr
    refine e_seg (k := 2) (d := (60, [(0, .ref a), (1, .ref b), (2, .ref 44), (3, .ref 57), (4, .int 0)], [], M)) rfl ?_
    refine e_cut (ks := [0, 1, 2, 3, 4]) (L' := [(0, .ref a), (1, .ref b), (2, .ref 44), (3, .ref 57), (4, .int 0)]) hE rfl rfl rfl rfl rfl ?_
    exact h
  · replace h := h.2 hbr
    refine e_seg (k := 3) (d := (28, [(0, .ref a), (1, .ref b), (2, .ref 44), (3, .ref 57), (4, .int x4)], [.int x4, .ref 45], M)) rfl ?_
    have hi1 := h.1
    replace h := h.2
    refine e_aald (q := 29) hE rfl rfl rfl rfl (by decide) hi1 (jRw_l hi1) ?_
    refine e_seg (k := 2) (d := (32, [(0, .ref a), (1, .ref b), (2, .ref 44), (3, .ref 57), (4, .int x4)], [.ref b, .int x4, .ref (46 + x4.toNatClampNeg)], M)) rfl ?_
    refine e_get (v := .int (M.1 b 1)) (q := 35) hE rfl rfl rfl rfl (jRu_o hb) rfl rfl ?_
    refine e_seg (k := 1) (d := (36, [(0, .ref a), (1, .ref b), (2, .ref 44), (3, .ref 57), (4, .int x4)], [.long ((M.1 b 1).toInt64), .int x4, .ref (46 + x4.toNatClampNeg)], M)) rfl ?_
    refine e_last (q := 37) hE rfl rfl rfl (jRw_o (jRw_i hi1)) h.1 ?_
    replace h := h.2
    obtain ⟨M2, hM2⟩ : ∃ z : jM, z = jsl M (46 + x4.toNatClampNeg) x4.toNatClampNeg ((M.1 b 1).toInt64) := ⟨_, rfl⟩
    refine jEv_M hM2 ?_
    replace h := h M2 hM2
    refine e_seg (k := 6) (d := (47, [(0, .ref a), (1, .ref b), (2, .ref 44), (3, .ref 57), (4, .int x4)], [.ref 57, .int x4, .ref b, .int x4, .ref 50], M2)) rfl ?_
    refine e_call (q := 50) (L0 := [(0, .ref b), (1, .int x4), (2, .ref 57)]) hE rfl rfl rfl rfl (jargs_S rfl rfl rfl rfl (Nat.le_of_ble_eq_true rfl) (Nat.le_of_ble_eq_true rfl) (Nat.le_of_ble_eq_true rfl)) rfl rfl (jEv.mono h (fun o3 M4 h => ?_))
    obtain ⟨r5, rfl, h⟩ := h
    refine ⟨_, rfl, ?_⟩
    show jEv nX2_find (50, [(0, .ref a), (1, .ref b), (2, .ref 44), (3, .ref 57), (4, .int x4)], [.long r5, .int x4, .ref 50], M4) K
    refine e_last (q := 51) hE rfl rfl rfl rfl h.1 ?_
    replace h := h.2
    obtain ⟨M6, hM6⟩ : ∃ z : jM, z = jsl M4 50 x4.toNatClampNeg r5 := ⟨_, rfl⟩
    refine jEv_M hM6 ?_
    replace h := h M6 hM6
    refine e_seg (k := 2) (d := (13, [(0, .ref a), (1, .ref b), (2, .ref 44), (3, .ref 57), (4, .int (x4 + 1))], [], M6)) rfl ?_
    refine e_cut (ks := [0, 1, 2, 3, 4]) (L' := [(0, .ref a), (1, .ref b), (2, .ref 44), (3, .ref 57), (4, .int (x4 + 1))]) hE rfl rfl rfl rfl rfl ?_
    exact h
set_option maxRecDepth 100000 in
set_option maxHeartbeats 4000000 in
theorem v_X2_find_60 {K : jK} {M : jM} {x4 : Int32} {a : Nat} (ha : jSu a) {b : Nat} (hb : jRu b) (h : (((M.1 b 2) < x4 → (jEv nX0_solve (0, [(0, .ref 44), (1, .int ((M.1 b 2) + 1))], [], M) (fun o1 M2 => ∃ r3 : Int32, o1 = some (some (.int r3)) ∧ (jEv nX7_power (0, [(0, .long ((M2.1 b 1).toInt64)), (2, .int 8)], [], M2) (fun o4 M5 => ∃ r6 : Int64, o4 = some (some (.long r6)) ∧ (jEv nX7_power (0, [(0, .long ((M5.1 b 1).toInt64)), (2, .int 3)], [], M5) (fun o7 M8 => ∃ r9 : Int64, o7 = some (some (.long r9)) ∧ (∀ M10 : jM, M10 = jsl M8 a 1 (((M5.2 44 4) * r9) * r6) → jEv nX2_find (167, [(0, .ref a), (1, .ref b), (2, .ref 44), (3, .ref 57), (4, .long r6), (6, .int 0)], [], M10) K)))))))) ∧ (¬ (M.1 b 2) < x4 → jEv nX2_find (72, [(0, .ref a), (1, .ref b), (2, .ref 44), (3, .ref 57), (4, .int x4), (5, .int 1)], [], M) K))) : jEv nX2_find (60, [(0, .ref a), (1, .ref b), (2, .ref 44), (3, .ref 57), (4, .int x4)], [], M) K := by
  have hE : jMT nX2_find = some me_X2_find := rfl
  refine e_seg (k := 2) (d := (63, [(0, .ref a), (1, .ref b), (2, .ref 44), (3, .ref 57), (4, .int x4)], [.ref b, .int x4], M)) rfl ?_
  refine e_get (v := .int (M.1 b 2)) (q := 66) hE rfl rfl rfl rfl (jRu_o hb) rfl rfl ?_
  refine e_ic_gt (t := 120) (q := 69) hE rfl rfl rfl rfl (fun hbr => ?_) (fun hbr => ?_)
  · replace h := h.1 hbr
    refine e_seg (k := 2) (d := (122, [(0, .ref a), (1, .ref b), (2, .ref 44), (3, .ref 57), (4, .int x4)], [.ref b, .ref 44], M)) rfl ?_
    refine e_get (v := .int (M.1 b 2)) (q := 125) hE rfl rfl rfl rfl (jRu_o hb) rfl rfl ?_
    refine e_seg (k := 2) (d := (127, [(0, .ref a), (1, .ref b), (2, .ref 44), (3, .ref 57), (4, .int x4)], [.int ((M.1 b 2) + 1), .ref 44], M)) rfl ?_
    refine e_call (q := 130) (L0 := [(0, .ref 44), (1, .int ((M.1 b 2) + 1))]) hE rfl rfl rfl rfl (jargs_V rfl rfl rfl rfl rfl (Nat.le_of_ble_eq_true rfl) (Nat.le_of_ble_eq_true rfl) (Nat.le_of_ble_eq_true rfl)) rfl rfl (jEv.mono h (fun o1 M2 h => ?_))
    obtain ⟨r3, rfl, h⟩ := h
    refine ⟨_, rfl, ?_⟩
    show jEv nX2_find (130, [(0, .ref a), (1, .ref b), (2, .ref 44), (3, .ref 57), (4, .int x4)], [.int r3], M2) K
    refine e_seg (k := 2) (d := (132, [(0, .ref a), (1, .ref b), (2, .ref 44), (3, .ref 57), (4, .int x4)], [.ref b], M2)) rfl ?_
    refine e_get (v := .int (M2.1 b 1)) (q := 135) hE rfl rfl rfl rfl (jRu_o hb) rfl rfl ?_
    refine e_seg (k := 2) (d := (138, [(0, .ref a), (1, .ref b), (2, .ref 44), (3, .ref 57), (4, .int x4)], [.int 8, .long ((M2.1 b 1).toInt64)], M2)) rfl ?_
    refine e_call (q := 141) (L0 := [(0, .long ((M2.1 b 1).toInt64)), (2, .int 8)]) hE rfl rfl rfl rfl (jargs_S rfl rfl rfl rfl (Nat.le_of_ble_eq_true rfl) (Nat.le_of_ble_eq_true rfl) (Nat.le_of_ble_eq_true rfl)) rfl rfl (jEv.mono h (fun o4 M5 h => ?_))
    obtain ⟨r6, rfl, h⟩ := h
    refine ⟨_, rfl, ?_⟩
    show jEv nX2_find (141, [(0, .ref a), (1, .ref b), (2, .ref 44), (3, .ref 57), (4, .int x4)], [.long r6], M5) K
    refine e_seg (k := 5) (d := (149, [(0, .ref a), (1, .ref b), (2, .ref 44), (3, .ref 57), (4, .long r6)], [.ref b, .long (M5.2 44 4), .ref a], M5)) rfl ?_
    refine e_get (v := .int (M5.1 b 1)) (q := 152) hE rfl rfl rfl rfl (jRu_o hb) rfl rfl ?_
    refine e_seg (k := 2) (d := (154, [(0, .ref a), (1, .ref b), (2, .ref 44), (3, .ref 57), (4, .long r6)], [.int 3, .long ((M5.1 b 1).toInt64), .long (M5.2 44 4), .ref a], M5)) rfl ?_
    refine e_call (q := 157) (L0 := [(0, .long ((M5.1 b 1).toInt64)), (2, .int 3)]) hE rfl rfl rfl rfl (jargs_S rfl rfl rfl rfl (Nat.le_of_ble_eq_true rfl) (Nat.le_of_ble_eq_true rfl) (Nat.le_of_ble_eq_true rfl)) rfl rfl (jEv.mono h (fun o7 M8 h => ?_))
    obtain ⟨r9, rfl, h⟩ := h
    refine ⟨_, rfl, ?_⟩
    show jEv nX2_find (157, [(0, .ref a), (1, .ref b), (2, .ref 44), (3, .ref 57), (4, .long r6)], [.long r9, .long (M5.2 44 4), .ref a], M8) K
    refine e_seg (k := 3) (d := (161, [(0, .ref a), (1, .ref b), (2, .ref 44), (3, .ref 57), (4, .long r6)], [.long (((M5.2 44 4) * r9) * r6), .ref a], M8)) rfl ?_
    refine e_put (q := 164) hE rfl rfl rfl rfl (jSu_o ha) rfl rfl ?_
    obtain ⟨M10, hM10⟩ : ∃ z : jM, z = jsl M8 a 1 (((M5.2 44 4) * r9) * r6) := ⟨_, rfl⟩
    refine jEv_M hM10 ?_
    replace h := h M10 hM10
    refine e_seg (k := 2) (d := (167, [(0, .ref a), (1, .ref b), (2, .ref 44), (3, .ref 57), (4, .long r6), (6, .int 0)], [], M10)) rfl ?_
    refine e_cut (ks := [0, 1, 2, 3, 4, 6]) (L' := [(0, .ref a), (1, .ref b), (2, .ref 44), (3, .ref 57), (4, .long r6), (6, .int 0)]) hE rfl rfl rfl rfl rfl ?_
    exact h
  · replace h := h.2 hbr
    refine e_seg (k := 2) (d := (72, [(0, .ref a), (1, .ref b), (2, .ref 44), (3, .ref 57), (4, .int x4), (5, .int 1)], [], M)) rfl ?_
    refine e_cut (ks := [0, 1, 2, 3, 4, 5]) (L' := [(0, .ref a), (1, .ref b), (2, .ref 44), (3, .ref 57), (4, .int x4), (5, .int 1)]) hE rfl rfl rfl rfl rfl ?_
    exact h
set_option maxRecDepth 100000 in
set_option maxHeartbeats 4000000 in
theorem v_X2_find_167 {K : jK} {M : jM} {x4 : Int64} {x6 : Int32} {a : Nat} (ha : jSu a) {b : Nat} (hb : jRu b) (h : (((M.1 b 2) < x6 → jEv nX2_find (207, [(0, .ref a), (1, .ref b), (2, .ref 44), (3, .ref 57), (4, .long x4), (6, .int ((M.1 b 2) + 1))], [], M) K) ∧ (¬ (M.1 b 2) < x6 → (¬ (x6 < 0 ∨ 4 ≤ x6.toNatClampNeg) ∧ (¬ (x6 < 0 ∨ 9 ≤ x6.toNatClampNeg) ∧ (∀ M1 : jM, M1 = jsl M (a + 1) x6.toNatClampNeg ((M.2 51 x6.toNatClampNeg) * x4) → jEv nX2_find (167, [(0, .ref a), (1, .ref b), (2, .ref 44), (3, .ref 57), (4, .long x4), (6, .int (x6 + 1))], [], M1) K)))))) : jEv nX2_find (167, [(0, .ref a), (1, .ref b), (2, .ref 44), (3, .ref 57), (4, .long x4), (6, .int x6)], [], M) K := by
  have hE : jMT nX2_find = some me_X2_find := rfl
  refine e_seg (k := 2) (d := (170, [(0, .ref a), (1, .ref b), (2, .ref 44), (3, .ref 57), (4, .long x4), (6, .int x6)], [.ref b, .int x6], M)) rfl ?_
  refine e_get (v := .int (M.1 b 2)) (q := 173) hE rfl rfl rfl rfl (jRu_o hb) rfl rfl ?_
  refine e_ic_gt (t := 199) (q := 176) hE rfl rfl rfl rfl (fun hbr => ?_) (fun hbr => ?_)
  · replace h := h.1 hbr
    refine e_seg (k := 1) (d := (200, [(0, .ref a), (1, .ref b), (2, .ref 44), (3, .ref 57), (4, .long x4), (6, .int x6)], [.ref b], M)) rfl ?_
    refine e_get (v := .int (M.1 b 2)) (q := 203) hE rfl rfl rfl rfl (jRu_o hb) rfl rfl ?_
    refine e_seg (k := 3) (d := (207, [(0, .ref a), (1, .ref b), (2, .ref 44), (3, .ref 57), (4, .long x4), (6, .int ((M.1 b 2) + 1))], [], M)) rfl ?_
    refine e_cut (ks := [0, 1, 2, 3, 4, 6]) (L' := [(0, .ref a), (1, .ref b), (2, .ref 44), (3, .ref 57), (4, .long x4), (6, .int ((M.1 b 2) + 1))]) hE rfl rfl rfl rfl rfl ?_
    exact h
  · replace h := h.2 hbr
    refine e_seg (k := 1) (d := (177, [(0, .ref a), (1, .ref b), (2, .ref 44), (3, .ref 57), (4, .long x4), (6, .int x6)], [.ref a], M)) rfl ?_
    refine e_get (v := .ref (a + 1)) (q := 180) hE rfl rfl rfl rfl (jSu_o ha) rfl rfl ?_
    refine e_seg (k := 4) (d := (188, [(0, .ref a), (1, .ref b), (2, .ref 44), (3, .ref 57), (4, .long x4), (6, .int x6)], [.int x6, .ref 51, .int x6, .ref (a + 1)], M)) rfl ?_
    refine e_lald (q := 189) hE rfl rfl rfl rfl h.1 ?_
    replace h := h.2
    refine e_seg (k := 2) (d := (192, [(0, .ref a), (1, .ref b), (2, .ref 44), (3, .ref 57), (4, .long x4), (6, .int x6)], [.long ((M.2 51 x6.toNatClampNeg) * x4), .int x6, .ref (a + 1)], M)) rfl ?_
    refine e_last (q := 193) hE rfl rfl rfl (jSu_1 ha) h.1 ?_
    replace h := h.2
    obtain ⟨M1, hM1⟩ : ∃ z : jM, z = jsl M (a + 1) x6.toNatClampNeg ((M.2 51 x6.toNatClampNeg) * x4) := ⟨_, rfl⟩
    refine jEv_M hM1 ?_
    replace h := h M1 hM1
    refine e_seg (k := 2) (d := (167, [(0, .ref a), (1, .ref b), (2, .ref 44), (3, .ref 57), (4, .long x4), (6, .int (x6 + 1))], [], M1)) rfl ?_
    refine e_cut (ks := [0, 1, 2, 3, 4, 6]) (L' := [(0, .ref a), (1, .ref b), (2, .ref 44), (3, .ref 57), (4, .long x4), (6, .int (x6 + 1))]) hE rfl rfl rfl rfl rfl ?_
    exact h
set_option maxRecDepth 100000 in
set_option maxHeartbeats 4000000 in
theorem v_X2_find_72 {K : jK} {M : jM} {x4 : Int32} {x5 : Int32} {a : Nat} (ha : jSu a) {b : Nat} (hb : jRu b) (h : (((M.1 b 2) < x5 → jEv nX2_find (60, [(0, .ref a), (1, .ref b), (2, .ref 44), (3, .ref 57), (4, .int (x4 + 1))], [], M) K) ∧ (¬ (M.1 b 2) < x5 → (¬ (x4 < 0 ∨ 4 ≤ x4.toNatClampNeg) ∧ (¬ ((if 0 ≤ (x4 - x5) then (x4 - x5) else 0 - (x4 - x5)) < 0 ∨ 4 ≤ (if 0 ≤ (x4 - x5) then (x4 - x5) else 0 - (x4 - x5)).toNatClampNeg) ∧ (¬ (x5 < 0 ∨ 4 ≤ x5.toNatClampNeg) ∧ (¬ ((if 0 ≤ (x4 - x5) then (x4 - x5) else 0 - (x4 - x5)) < 0 ∨ 4 ≤ (if 0 ≤ (x4 - x5) then (x4 - x5) else 0 - (x4 - x5)).toNatClampNeg) ∧ (∀ M2 : jM, M2 = jsl M (46 + x4.toNatClampNeg) ((if 0 ≤ (x4 - x5) then (x4 - x5) else 0 - (x4 - x5)).toNatClampNeg) ((M.2 (46 + x4.toNatClampNeg) (if 0 ≤ (x4 - x5) then (x4 - x5) else 0 - (x4 - x5)).toNatClampNeg) - ((M.1 (b + 1) x5.toNatClampNeg).toInt64)) → jEv nX2_find (72, [(0, .ref a), (1, .ref b), (2, .ref 44), (3, .ref 57), (4, .int x4), (5, .int (x5 + 1))], [], M2) K)))))))) : jEv nX2_find (72, [(0, .ref a), (1, .ref b), (2, .ref 44), (3, .ref 57), (4, .int x4), (5, .int x5)], [], M) K := by
  have hE : jMT nX2_find = some me_X2_find := rfl
  refine e_seg (k := 2) (d := (75, [(0, .ref a), (1, .ref b), (2, .ref 44), (3, .ref 57), (4, .int x4), (5, .int x5)], [.ref b, .int x5], M)) rfl ?_
  refine e_get (v := .int (M.1 b 2)) (q := 78) hE rfl rfl rfl rfl (jRu_o hb) rfl rfl ?_
  refine e_ic_gt (t := 114) (q := 81) hE rfl rfl rfl rfl (fun hbr => ?_) (fun hbr => ?_)
  · replace h := h.1 hbr
    refine e_seg (k := 2) (d := (60, [(0, .ref a), (1, .ref b), (2, .ref 44), (3, .ref 57), (4, .int (x4 + 1)), (5, .int x5)], [], M)) rfl ?_
    refine e_cut (ks := [0, 1, 2, 3, 4]) (L' := [(0, .ref a), (1, .ref b), (2, .ref 44), (3, .ref 57), (4, .int (x4 + 1))]) hE rfl rfl rfl rfl rfl ?_
    exact h
  · replace h := h.2 hbr
    refine e_seg (k := 3) (d := (87, [(0, .ref a), (1, .ref b), (2, .ref 44), (3, .ref 57), (4, .int x4), (5, .int x5)], [.int x4, .ref 45], M)) rfl ?_
    have hi1 := h.1
    replace h := h.2
    refine e_aald (q := 88) hE rfl rfl rfl rfl (by decide) hi1 (jRw_l hi1) ?_
    refine e_seg (k := 5) (d := (97, [(0, .ref a), (1, .ref b), (2, .ref 44), (3, .ref 57), (4, .int x4), (5, .int x5)], [.int (if 0 ≤ (x4 - x5) then (x4 - x5) else 0 - (x4 - x5)), .ref (46 + x4.toNatClampNeg), .int (if 0 ≤ (x4 - x5) then (x4 - x5) else 0 - (x4 - x5)), .ref (46 + x4.toNatClampNeg)], M)) rfl ?_
    refine e_lald (q := 98) hE rfl rfl rfl (jRw_o (jRw_i hi1)) h.1 ?_
    replace h := h.2
    refine e_seg (k := 1) (d := (99, [(0, .ref a), (1, .ref b), (2, .ref 44), (3, .ref 57), (4, .int x4), (5, .int x5)], [.ref b, .long (M.2 (46 + x4.toNatClampNeg) (if 0 ≤ (x4 - x5) then (x4 - x5) else 0 - (x4 - x5)).toNatClampNeg), .int (if 0 ≤ (x4 - x5) then (x4 - x5) else 0 - (x4 - x5)), .ref (46 + x4.toNatClampNeg)], M)) rfl ?_
    refine e_get (v := .ref (b + 1)) (q := 102) hE rfl rfl rfl rfl (jRu_o hb) rfl rfl ?_
    refine e_seg (k := 1) (d := (104, [(0, .ref a), (1, .ref b), (2, .ref 44), (3, .ref 57), (4, .int x4), (5, .int x5)], [.int x5, .ref (b + 1), .long (M.2 (46 + x4.toNatClampNeg) (if 0 ≤ (x4 - x5) then (x4 - x5) else 0 - (x4 - x5)).toNatClampNeg), .int (if 0 ≤ (x4 - x5) then (x4 - x5) else 0 - (x4 - x5)), .ref (46 + x4.toNatClampNeg)], M)) rfl ?_
    refine e_iald (q := 105) hE rfl rfl rfl (jRu_1 hb) h.1 ?_
    replace h := h.2
    refine e_seg (k := 2) (d := (107, [(0, .ref a), (1, .ref b), (2, .ref 44), (3, .ref 57), (4, .int x4), (5, .int x5)], [.long ((M.2 (46 + x4.toNatClampNeg) (if 0 ≤ (x4 - x5) then (x4 - x5) else 0 - (x4 - x5)).toNatClampNeg) - ((M.1 (b + 1) x5.toNatClampNeg).toInt64)), .int (if 0 ≤ (x4 - x5) then (x4 - x5) else 0 - (x4 - x5)), .ref (46 + x4.toNatClampNeg)], M)) rfl ?_
    refine e_last (q := 108) hE rfl rfl rfl (jRw_o (jRw_i hi1)) h.1 ?_
    replace h := h.2
    obtain ⟨M2, hM2⟩ : ∃ z : jM, z = jsl M (46 + x4.toNatClampNeg) ((if 0 ≤ (x4 - x5) then (x4 - x5) else 0 - (x4 - x5)).toNatClampNeg) ((M.2 (46 + x4.toNatClampNeg) (if 0 ≤ (x4 - x5) then (x4 - x5) else 0 - (x4 - x5)).toNatClampNeg) - ((M.1 (b + 1) x5.toNatClampNeg).toInt64)) := ⟨_, rfl⟩
    refine jEv_M hM2 ?_
    replace h := h M2 hM2
    refine e_seg (k := 2) (d := (72, [(0, .ref a), (1, .ref b), (2, .ref 44), (3, .ref 57), (4, .int x4), (5, .int (x5 + 1))], [], M2)) rfl ?_
    refine e_cut (ks := [0, 1, 2, 3, 4, 5]) (L' := [(0, .ref a), (1, .ref b), (2, .ref 44), (3, .ref 57), (4, .int x4), (5, .int (x5 + 1))]) hE rfl rfl rfl rfl rfl ?_
    exact h
set_option maxRecDepth 100000 in
set_option maxHeartbeats 4000000 in
theorem v_X2_find_207 {K : jK} {M : jM} {x4 : Int64} {x6 : Int32} {a : Nat} (ha : jSu a) {b : Nat} (hb : jRu b) (h : ((8 < x6 → K (some none) M) ∧ (¬ 8 < x6 → (jEv nX2_missPart (0, [(0, .ref b), (1, .int x6), (2, .ref 57)], [], M) (fun o1 M2 => ∃ r3 : Int64, o1 = some (some (.long r3)) ∧ jEv nX2_find (234, [(0, .ref a), (1, .ref b), (2, .ref 44), (3, .ref 57), (4, .long x4), (6, .int x6), (7, .long ((r3 * (M2.2 44 4)) * x4)), (9, .int 1)], [], M2) K))))) : jEv nX2_find (207, [(0, .ref a), (1, .ref b), (2, .ref 44), (3, .ref 57), (4, .long x4), (6, .int x6)], [], M) K := by
  have hE : jMT nX2_find = some me_X2_find := rfl
  refine e_seg (k := 2) (d := (211, [(0, .ref a), (1, .ref b), (2, .ref 44), (3, .ref 57), (4, .long x4), (6, .int x6)], [.int 8, .int x6], M)) rfl ?_
  refine e_ic_gt (t := 305) (q := 214) hE rfl rfl rfl rfl (fun hbr => ?_) (fun hbr => ?_)
  · replace h := h.1 hbr
    exact e_ret hE rfl rfl rfl h
  · replace h := h.2 hbr
    refine e_seg (k := 3) (d := (218, [(0, .ref a), (1, .ref b), (2, .ref 44), (3, .ref 57), (4, .long x4), (6, .int x6)], [.ref 57, .int x6, .ref b], M)) rfl ?_
    refine e_call (q := 221) (L0 := [(0, .ref b), (1, .int x6), (2, .ref 57)]) hE rfl rfl rfl rfl (jargs_S rfl rfl rfl rfl (Nat.le_of_ble_eq_true rfl) (Nat.le_of_ble_eq_true rfl) (Nat.le_of_ble_eq_true rfl)) rfl rfl (jEv.mono h (fun o1 M2 h => ?_))
    obtain ⟨r3, rfl, h⟩ := h
    refine ⟨_, rfl, ?_⟩
    show jEv nX2_find (221, [(0, .ref a), (1, .ref b), (2, .ref 44), (3, .ref 57), (4, .long x4), (6, .int x6)], [.long r3], M2) K
    refine e_seg (k := 8) (d := (234, [(0, .ref a), (1, .ref b), (2, .ref 44), (3, .ref 57), (4, .long x4), (6, .int x6), (7, .long ((r3 * (M2.2 44 4)) * x4)), (9, .int 1)], [], M2)) rfl ?_
    refine e_cut (ks := [0, 1, 2, 3, 4, 6, 7, 9]) (L' := [(0, .ref a), (1, .ref b), (2, .ref 44), (3, .ref 57), (4, .long x4), (6, .int x6), (7, .long ((r3 * (M2.2 44 4)) * x4)), (9, .int 1)]) hE rfl rfl rfl rfl rfl ?_
    exact h
set_option maxRecDepth 100000 in
set_option maxHeartbeats 4000000 in
theorem v_X2_find_234 {K : jK} {M : jM} {x4 : Int64} {x6 : Int32} {x7 : Int64} {x9 : Int32} {a : Nat} (ha : jSu a) {b : Nat} (hb : jRu b) (h : (((M.1 b 2) < x9 → (((M.1 b 1) = 0 → (¬ (x6 < 0 ∨ 9 ≤ x6.toNatClampNeg) ∧ (∀ M2 : jM, M2 = jsl M (a + 1) x6.toNatClampNeg 0 → jEv nX2_find (207, [(0, .ref a), (1, .ref b), (2, .ref 44), (3, .ref 57), (4, .long x4), (6, .int (x6 + 1))], [], M2) K))) ∧ (¬ (M.1 b 1) = 0 → (¬ ((M.1 b 1).toInt64) = 0 ∧ (¬ (x6 < 0 ∨ 9 ≤ x6.toNatClampNeg) ∧ (∀ M1 : jM, M1 = jsl M (a + 1) x6.toNatClampNeg (x7 / ((M.1 b 1).toInt64)) → jEv nX2_find (207, [(0, .ref a), (1, .ref b), (2, .ref 44), (3, .ref 57), (4, .long x4), (6, .int (x6 + 1))], [], M1) K)))))) ∧ (¬ (M.1 b 2) < x9 → (¬ (x9 < 0 ∨ 4 ≤ x9.toNatClampNeg) ∧ (¬ (x6 - x9 < 0 ∨ 9 ≤ (x6 - x9).toNatClampNeg) ∧ jEv nX2_find (234, [(0, .ref a), (1, .ref b), (2, .ref 44), (3, .ref 57), (4, .long x4), (6, .int x6), (7, .long (x7 + (((M.1 (b + 1) x9.toNatClampNeg).toInt64) * (M.2 (a + 1) (x6 - x9).toNatClampNeg)))), (9, .int (x9 + 1))], [], M) K))))) : jEv nX2_find (234, [(0, .ref a), (1, .ref b), (2, .ref 44), (3, .ref 57), (4, .long x4), (6, .int x6), (7, .long x7), (9, .int x9)], [], M) K := by
  have hE : jMT nX2_find = some me_X2_find := rfl
  refine e_seg (k := 2) (d := (237, [(0, .ref a), (1, .ref b), (2, .ref 44), (3, .ref 57), (4, .long x4), (6, .int x6), (7, .long x7), (9, .int x9)], [.ref b, .int x9], M)) rfl ?_
  refine e_get (v := .int (M.1 b 2)) (q := 240) hE rfl rfl rfl rfl (jRu_o hb) rfl rfl ?_
  refine e_ic_gt (t := 273) (q := 243) hE rfl rfl rfl rfl (fun hbr => ?_) (fun hbr => ?_)
  · replace h := h.1 hbr
    refine e_seg (k := 1) (d := (274, [(0, .ref a), (1, .ref b), (2, .ref 44), (3, .ref 57), (4, .long x4), (6, .int x6), (7, .long x7), (9, .int x9)], [.ref a], M)) rfl ?_
    refine e_get (v := .ref (a + 1)) (q := 277) hE rfl rfl rfl rfl (jSu_o ha) rfl rfl ?_
    refine e_seg (k := 2) (d := (280, [(0, .ref a), (1, .ref b), (2, .ref 44), (3, .ref 57), (4, .long x4), (6, .int x6), (7, .long x7), (9, .int x9)], [.ref b, .int x6, .ref (a + 1)], M)) rfl ?_
    refine e_get (v := .int (M.1 b 1)) (q := 283) hE rfl rfl rfl rfl (jRu_o hb) rfl rfl ?_
    refine e_if_ne (t := 290) (q := 286) hE rfl rfl rfl rfl (fun hbr => ?_) (fun hbr => ?_)
    · replace h := h.2 hbr
      refine e_seg (k := 2) (d := (293, [(0, .ref a), (1, .ref b), (2, .ref 44), (3, .ref 57), (4, .long x4), (6, .int x6), (7, .long x7), (9, .int x9)], [.ref b, .long x7, .int x6, .ref (a + 1)], M)) rfl ?_
      refine e_get (v := .int (M.1 b 1)) (q := 296) hE rfl rfl rfl rfl (jRu_o hb) rfl rfl ?_
      refine e_seg (k := 1) (d := (297, [(0, .ref a), (1, .ref b), (2, .ref 44), (3, .ref 57), (4, .long x4), (6, .int x6), (7, .long x7), (9, .int x9)], [.long ((M.1 b 1).toInt64), .long x7, .int x6, .ref (a + 1)], M)) rfl ?_
      refine e_ldiv (q := 298) hE rfl rfl rfl h.1 ?_
      replace h := h.2
      refine e_last (q := 299) hE rfl rfl rfl (jSu_1 ha) h.1 ?_
      replace h := h.2
      obtain ⟨M1, hM1⟩ : ∃ z : jM, z = jsl M (a + 1) x6.toNatClampNeg (x7 / ((M.1 b 1).toInt64)) := ⟨_, rfl⟩
      refine jEv_M hM1 ?_
      replace h := h M1 hM1
      refine e_seg (k := 2) (d := (207, [(0, .ref a), (1, .ref b), (2, .ref 44), (3, .ref 57), (4, .long x4), (6, .int (x6 + 1)), (7, .long x7), (9, .int x9)], [], M1)) rfl ?_
      refine e_cut (ks := [0, 1, 2, 3, 4, 6]) (L' := [(0, .ref a), (1, .ref b), (2, .ref 44), (3, .ref 57), (4, .long x4), (6, .int (x6 + 1))]) hE rfl rfl rfl rfl rfl ?_
      exact h
    · replace h := h.1 hbr
      refine e_seg (k := 2) (d := (298, [(0, .ref a), (1, .ref b), (2, .ref 44), (3, .ref 57), (4, .long x4), (6, .int x6), (7, .long x7), (9, .int x9)], [.long 0, .int x6, .ref (a + 1)], M)) rfl ?_
      refine e_last (q := 299) hE rfl rfl rfl (jSu_1 ha) h.1 ?_
      replace h := h.2
      obtain ⟨M2, hM2⟩ : ∃ z : jM, z = jsl M (a + 1) x6.toNatClampNeg 0 := ⟨_, rfl⟩
      refine jEv_M hM2 ?_
      replace h := h M2 hM2
      refine e_seg (k := 2) (d := (207, [(0, .ref a), (1, .ref b), (2, .ref 44), (3, .ref 57), (4, .long x4), (6, .int (x6 + 1)), (7, .long x7), (9, .int x9)], [], M2)) rfl ?_
      refine e_cut (ks := [0, 1, 2, 3, 4, 6]) (L' := [(0, .ref a), (1, .ref b), (2, .ref 44), (3, .ref 57), (4, .long x4), (6, .int (x6 + 1))]) hE rfl rfl rfl rfl rfl ?_
      exact h
  · replace h := h.2 hbr
    refine e_seg (k := 2) (d := (246, [(0, .ref a), (1, .ref b), (2, .ref 44), (3, .ref 57), (4, .long x4), (6, .int x6), (7, .long x7), (9, .int x9)], [.ref b, .long x7], M)) rfl ?_
    refine e_get (v := .ref (b + 1)) (q := 249) hE rfl rfl rfl rfl (jRu_o hb) rfl rfl ?_
    refine e_seg (k := 1) (d := (251, [(0, .ref a), (1, .ref b), (2, .ref 44), (3, .ref 57), (4, .long x4), (6, .int x6), (7, .long x7), (9, .int x9)], [.int x9, .ref (b + 1), .long x7], M)) rfl ?_
    refine e_iald (q := 252) hE rfl rfl rfl (jRu_1 hb) h.1 ?_
    replace h := h.2
    refine e_seg (k := 2) (d := (254, [(0, .ref a), (1, .ref b), (2, .ref 44), (3, .ref 57), (4, .long x4), (6, .int x6), (7, .long x7), (9, .int x9)], [.ref a, .long ((M.1 (b + 1) x9.toNatClampNeg).toInt64), .long x7], M)) rfl ?_
    refine e_get (v := .ref (a + 1)) (q := 257) hE rfl rfl rfl rfl (jSu_o ha) rfl rfl ?_
    refine e_seg (k := 3) (d := (262, [(0, .ref a), (1, .ref b), (2, .ref 44), (3, .ref 57), (4, .long x4), (6, .int x6), (7, .long x7), (9, .int x9)], [.int (x6 - x9), .ref (a + 1), .long ((M.1 (b + 1) x9.toNatClampNeg).toInt64), .long x7], M)) rfl ?_
    refine e_lald (q := 263) hE rfl rfl rfl (jSu_1 ha) h.1 ?_
    replace h := h.2
    refine e_seg (k := 5) (d := (234, [(0, .ref a), (1, .ref b), (2, .ref 44), (3, .ref 57), (4, .long x4), (6, .int x6), (7, .long (x7 + (((M.1 (b + 1) x9.toNatClampNeg).toInt64) * (M.2 (a + 1) (x6 - x9).toNatClampNeg)))), (9, .int (x9 + 1))], [], M)) rfl ?_
    refine e_cut (ks := [0, 1, 2, 3, 4, 6, 7, 9]) (L' := [(0, .ref a), (1, .ref b), (2, .ref 44), (3, .ref 57), (4, .long x4), (6, .int x6), (7, .long (x7 + (((M.1 (b + 1) x9.toNatClampNeg).toInt64) * (M.2 (a + 1) (x6 - x9).toNatClampNeg)))), (9, .int (x9 + 1))]) hE rfl rfl rfl rfl rfl ?_
    exact h
