/-! printed by wip/whole/emit.py: what must hold on each way between cut points -/
set_option maxRecDepth 100000 in
set_option maxHeartbeats 4000000 in
theorem v_J6_bitCount_0f7a4_0 {K : jK} {M : jM} {x0 : Int32} (h : K (some (some (.int ((((((((x0 - (((x0.toUInt32 >>> ((1 : Int32).toUInt32 &&& Int32.toUInt32 31)).toInt32) &&& 1431655765)) &&& 858993459) + ((((x0 - (((x0.toUInt32 >>> ((1 : Int32).toUInt32 &&& Int32.toUInt32 31)).toInt32) &&& 1431655765)).toUInt32 >>> ((2 : Int32).toUInt32 &&& Int32.toUInt32 31)).toInt32) &&& 858993459)) + (((((x0 - (((x0.toUInt32 >>> ((1 : Int32).toUInt32 &&& Int32.toUInt32 31)).toInt32) &&& 1431655765)) &&& 858993459) + ((((x0 - (((x0.toUInt32 >>> ((1 : Int32).toUInt32 &&& Int32.toUInt32 31)).toInt32) &&& 1431655765)).toUInt32 >>> ((2 : Int32).toUInt32 &&& Int32.toUInt32 31)).toInt32) &&& 858993459)).toUInt32 >>> ((4 : Int32).toUInt32 &&& Int32.toUInt32 31)).toInt32)) &&& 252645135) + (((((((x0 - (((x0.toUInt32 >>> ((1 : Int32).toUInt32 &&& Int32.toUInt32 31)).toInt32) &&& 1431655765)) &&& 858993459) + ((((x0 - (((x0.toUInt32 >>> ((1 : Int32).toUInt32 &&& Int32.toUInt32 31)).toInt32) &&& 1431655765)).toUInt32 >>> ((2 : Int32).toUInt32 &&& Int32.toUInt32 31)).toInt32) &&& 858993459)) + (((((x0 - (((x0.toUInt32 >>> ((1 : Int32).toUInt32 &&& Int32.toUInt32 31)).toInt32) &&& 1431655765)) &&& 858993459) + ((((x0 - (((x0.toUInt32 >>> ((1 : Int32).toUInt32 &&& Int32.toUInt32 31)).toInt32) &&& 1431655765)).toUInt32 >>> ((2 : Int32).toUInt32 &&& Int32.toUInt32 31)).toInt32) &&& 858993459)).toUInt32 >>> ((4 : Int32).toUInt32 &&& Int32.toUInt32 31)).toInt32)) &&& 252645135).toUInt32 >>> ((8 : Int32).toUInt32 &&& Int32.toUInt32 31)).toInt32)) + ((((((((x0 - (((x0.toUInt32 >>> ((1 : Int32).toUInt32 &&& Int32.toUInt32 31)).toInt32) &&& 1431655765)) &&& 858993459) + ((((x0 - (((x0.toUInt32 >>> ((1 : Int32).toUInt32 &&& Int32.toUInt32 31)).toInt32) &&& 1431655765)).toUInt32 >>> ((2 : Int32).toUInt32 &&& Int32.toUInt32 31)).toInt32) &&& 858993459)) + (((((x0 - (((x0.toUInt32 >>> ((1 : Int32).toUInt32 &&& Int32.toUInt32 31)).toInt32) &&& 1431655765)) &&& 858993459) + ((((x0 - (((x0.toUInt32 >>> ((1 : Int32).toUInt32 &&& Int32.toUInt32 31)).toInt32) &&& 1431655765)).toUInt32 >>> ((2 : Int32).toUInt32 &&& Int32.toUInt32 31)).toInt32) &&& 858993459)).toUInt32 >>> ((4 : Int32).toUInt32 &&& Int32.toUInt32 31)).toInt32)) &&& 252645135) + (((((((x0 - (((x0.toUInt32 >>> ((1 : Int32).toUInt32 &&& Int32.toUInt32 31)).toInt32) &&& 1431655765)) &&& 858993459) + ((((x0 - (((x0.toUInt32 >>> ((1 : Int32).toUInt32 &&& Int32.toUInt32 31)).toInt32) &&& 1431655765)).toUInt32 >>> ((2 : Int32).toUInt32 &&& Int32.toUInt32 31)).toInt32) &&& 858993459)) + (((((x0 - (((x0.toUInt32 >>> ((1 : Int32).toUInt32 &&& Int32.toUInt32 31)).toInt32) &&& 1431655765)) &&& 858993459) + ((((x0 - (((x0.toUInt32 >>> ((1 : Int32).toUInt32 &&& Int32.toUInt32 31)).toInt32) &&& 1431655765)).toUInt32 >>> ((2 : Int32).toUInt32 &&& Int32.toUInt32 31)).toInt32) &&& 858993459)).toUInt32 >>> ((4 : Int32).toUInt32 &&& Int32.toUInt32 31)).toInt32)) &&& 252645135).toUInt32 >>> ((8 : Int32).toUInt32 &&& Int32.toUInt32 31)).toInt32)).toUInt32 >>> ((16 : Int32).toUInt32 &&& Int32.toUInt32 31)).toInt32)) &&& 63)))) M) : jEv nJ6_bitCount_0f7a4 (0, [(0, .int x0)], [], M) K := by
  have hE : jMT nJ6_bitCount_0f7a4 = some me_J6_bitCount_0f7a4 := rfl
  refine e_seg (k := 41) (d := (52, [(0, .int (((((((x0 - (((x0.toUInt32 >>> ((1 : Int32).toUInt32 &&& Int32.toUInt32 31)).toInt32) &&& 1431655765)) &&& 858993459) + ((((x0 - (((x0.toUInt32 >>> ((1 : Int32).toUInt32 &&& Int32.toUInt32 31)).toInt32) &&& 1431655765)).toUInt32 >>> ((2 : Int32).toUInt32 &&& Int32.toUInt32 31)).toInt32) &&& 858993459)) + (((((x0 - (((x0.toUInt32 >>> ((1 : Int32).toUInt32 &&& Int32.toUInt32 31)).toInt32) &&& 1431655765)) &&& 858993459) + ((((x0 - (((x0.toUInt32 >>> ((1 : Int32).toUInt32 &&& Int32.toUInt32 31)).toInt32) &&& 1431655765)).toUInt32 >>> ((2 : Int32).toUInt32 &&& Int32.toUInt32 31)).toInt32) &&& 858993459)).toUInt32 >>> ((4 : Int32).toUInt32 &&& Int32.toUInt32 31)).toInt32)) &&& 252645135) + (((((((x0 - (((x0.toUInt32 >>> ((1 : Int32).toUInt32 &&& Int32.toUInt32 31)).toInt32) &&& 1431655765)) &&& 858993459) + ((((x0 - (((x0.toUInt32 >>> ((1 : Int32).toUInt32 &&& Int32.toUInt32 31)).toInt32) &&& 1431655765)).toUInt32 >>> ((2 : Int32).toUInt32 &&& Int32.toUInt32 31)).toInt32) &&& 858993459)) + (((((x0 - (((x0.toUInt32 >>> ((1 : Int32).toUInt32 &&& Int32.toUInt32 31)).toInt32) &&& 1431655765)) &&& 858993459) + ((((x0 - (((x0.toUInt32 >>> ((1 : Int32).toUInt32 &&& Int32.toUInt32 31)).toInt32) &&& 1431655765)).toUInt32 >>> ((2 : Int32).toUInt32 &&& Int32.toUInt32 31)).toInt32) &&& 858993459)).toUInt32 >>> ((4 : Int32).toUInt32 &&& Int32.toUInt32 31)).toInt32)) &&& 252645135).toUInt32 >>> ((8 : Int32).toUInt32 &&& Int32.toUInt32 31)).toInt32)) + ((((((((x0 - (((x0.toUInt32 >>> ((1 : Int32).toUInt32 &&& Int32.toUInt32 31)).toInt32) &&& 1431655765)) &&& 858993459) + ((((x0 - (((x0.toUInt32 >>> ((1 : Int32).toUInt32 &&& Int32.toUInt32 31)).toInt32) &&& 1431655765)).toUInt32 >>> ((2 : Int32).toUInt32 &&& Int32.toUInt32 31)).toInt32) &&& 858993459)) + (((((x0 - (((x0.toUInt32 >>> ((1 : Int32).toUInt32 &&& Int32.toUInt32 31)).toInt32) &&& 1431655765)) &&& 858993459) + ((((x0 - (((x0.toUInt32 >>> ((1 : Int32).toUInt32 &&& Int32.toUInt32 31)).toInt32) &&& 1431655765)).toUInt32 >>> ((2 : Int32).toUInt32 &&& Int32.toUInt32 31)).toInt32) &&& 858993459)).toUInt32 >>> ((4 : Int32).toUInt32 &&& Int32.toUInt32 31)).toInt32)) &&& 252645135) + (((((((x0 - (((x0.toUInt32 >>> ((1 : Int32).toUInt32 &&& Int32.toUInt32 31)).toInt32) &&& 1431655765)) &&& 858993459) + ((((x0 - (((x0.toUInt32 >>> ((1 : Int32).toUInt32 &&& Int32.toUInt32 31)).toInt32) &&& 1431655765)).toUInt32 >>> ((2 : Int32).toUInt32 &&& Int32.toUInt32 31)).toInt32) &&& 858993459)) + (((((x0 - (((x0.toUInt32 >>> ((1 : Int32).toUInt32 &&& Int32.toUInt32 31)).toInt32) &&& 1431655765)) &&& 858993459) + ((((x0 - (((x0.toUInt32 >>> ((1 : Int32).toUInt32 &&& Int32.toUInt32 31)).toInt32) &&& 1431655765)).toUInt32 >>> ((2 : Int32).toUInt32 &&& Int32.toUInt32 31)).toInt32) &&& 858993459)).toUInt32 >>> ((4 : Int32).toUInt32 &&& Int32.toUInt32 31)).toInt32)) &&& 252645135).toUInt32 >>> ((8 : Int32).toUInt32 &&& Int32.toUInt32 31)).toInt32)).toUInt32 >>> ((16 : Int32).toUInt32 &&& Int32.toUInt32 31)).toInt32)))], [.int ((((((((x0 - (((x0.toUInt32 >>> ((1 : Int32).toUInt32 &&& Int32.toUInt32 31)).toInt32) &&& 1431655765)) &&& 858993459) + ((((x0 - (((x0.toUInt32 >>> ((1 : Int32).toUInt32 &&& Int32.toUInt32 31)).toInt32) &&& 1431655765)).toUInt32 >>> ((2 : Int32).toUInt32 &&& Int32.toUInt32 31)).toInt32) &&& 858993459)) + (((((x0 - (((x0.toUInt32 >>> ((1 : Int32).toUInt32 &&& Int32.toUInt32 31)).toInt32) &&& 1431655765)) &&& 858993459) + ((((x0 - (((x0.toUInt32 >>> ((1 : Int32).toUInt32 &&& Int32.toUInt32 31)).toInt32) &&& 1431655765)).toUInt32 >>> ((2 : Int32).toUInt32 &&& Int32.toUInt32 31)).toInt32) &&& 858993459)).toUInt32 >>> ((4 : Int32).toUInt32 &&& Int32.toUInt32 31)).toInt32)) &&& 252645135) + (((((((x0 - (((x0.toUInt32 >>> ((1 : Int32).toUInt32 &&& Int32.toUInt32 31)).toInt32) &&& 1431655765)) &&& 858993459) + ((((x0 - (((x0.toUInt32 >>> ((1 : Int32).toUInt32 &&& Int32.toUInt32 31)).toInt32) &&& 1431655765)).toUInt32 >>> ((2 : Int32).toUInt32 &&& Int32.toUInt32 31)).toInt32) &&& 858993459)) + (((((x0 - (((x0.toUInt32 >>> ((1 : Int32).toUInt32 &&& Int32.toUInt32 31)).toInt32) &&& 1431655765)) &&& 858993459) + ((((x0 - (((x0.toUInt32 >>> ((1 : Int32).toUInt32 &&& Int32.toUInt32 31)).toInt32) &&& 1431655765)).toUInt32 >>> ((2 : Int32).toUInt32 &&& Int32.toUInt32 31)).toInt32) &&& 858993459)).toUInt32 >>> ((4 : Int32).toUInt32 &&& Int32.toUInt32 31)).toInt32)) &&& 252645135).toUInt32 >>> ((8 : Int32).toUInt32 &&& Int32.toUInt32 31)).toInt32)) + ((((((((x0 - (((x0.toUInt32 >>> ((1 : Int32).toUInt32 &&& Int32.toUInt32 31)).toInt32) &&& 1431655765)) &&& 858993459) + ((((x0 - (((x0.toUInt32 >>> ((1 : Int32).toUInt32 &&& Int32.toUInt32 31)).toInt32) &&& 1431655765)).toUInt32 >>> ((2 : Int32).toUInt32 &&& Int32.toUInt32 31)).toInt32) &&& 858993459)) + (((((x0 - (((x0.toUInt32 >>> ((1 : Int32).toUInt32 &&& Int32.toUInt32 31)).toInt32) &&& 1431655765)) &&& 858993459) + ((((x0 - (((x0.toUInt32 >>> ((1 : Int32).toUInt32 &&& Int32.toUInt32 31)).toInt32) &&& 1431655765)).toUInt32 >>> ((2 : Int32).toUInt32 &&& Int32.toUInt32 31)).toInt32) &&& 858993459)).toUInt32 >>> ((4 : Int32).toUInt32 &&& Int32.toUInt32 31)).toInt32)) &&& 252645135) + (((((((x0 - (((x0.toUInt32 >>> ((1 : Int32).toUInt32 &&& Int32.toUInt32 31)).toInt32) &&& 1431655765)) &&& 858993459) + ((((x0 - (((x0.toUInt32 >>> ((1 : Int32).toUInt32 &&& Int32.toUInt32 31)).toInt32) &&& 1431655765)).toUInt32 >>> ((2 : Int32).toUInt32 &&& Int32.toUInt32 31)).toInt32) &&& 858993459)) + (((((x0 - (((x0.toUInt32 >>> ((1 : Int32).toUInt32 &&& Int32.toUInt32 31)).toInt32) &&& 1431655765)) &&& 858993459) + ((((x0 - (((x0.toUInt32 >>> ((1 : Int32).toUInt32 &&& Int32.toUInt32 31)).toInt32) &&& 1431655765)).toUInt32 >>> ((2 : Int32).toUInt32 &&& Int32.toUInt32 31)).toInt32) &&& 858993459)).toUInt32 >>> ((4 : Int32).toUInt32 &&& Int32.toUInt32 31)).toInt32)) &&& 252645135).toUInt32 >>> ((8 : Int32).toUInt32 &&& Int32.toUInt32 31)).toInt32)).toUInt32 >>> ((16 : Int32).toUInt32 &&& Int32.toUInt32 31)).toInt32)) &&& 63)], M)) rfl ?_
  exact e_ret hE rfl rfl (jb_i rfl) h
set_option maxRecDepth 100000 in
set_option maxHeartbeats 4000000 in
theorem v_X1_isLike_0 {K : jK} {M : jM} {a : Nat} (ha : jFr a) {b : Nat} (hb : jFr b) (h : (((M.2 a 0) = (M.2 b 0) → (((M.2 a 1) = (M.2 b 1) → K (some (some (.int 1))) M) ∧ (¬ (M.2 a 1) = (M.2 b 1) → K (some (some (.int 0))) M))) ∧ (¬ (M.2 a 0) = (M.2 b 0) → K (some (some (.int 0))) M))) : jEv nX1_isLike (0, [(0, .ref a), (1, .ref b)], [], M) K := by
  have hE : jMT nX1_isLike = some me_X1_isLike := rfl
  refine e_seg (k := 1) (d := (1, [(0, .ref a), (1, .ref b)], [.ref a], M)) rfl ?_
  refine e_get (v := .long (M.2 a 0)) (q := 4) hE rfl rfl rfl rfl (jFr_o ha) rfl rfl ?_
  refine e_seg (k := 1) (d := (5, [(0, .ref a), (1, .ref b)], [.ref b, .long (M.2 a 0)], M)) rfl ?_
  refine e_get (v := .long (M.2 b 0)) (q := 8) hE rfl rfl rfl rfl (jFr_o hb) rfl rfl ?_
  refine e_lc (t := 28) (q := 12) (pc1 := 9) hE rfl rfl rfl rfl rfl rfl (lc_ne (M.2 a 0) (M.2 b 0)) rfl rfl (fun hbr => ?_) (fun hbr => ?_)
  · replace h := h.2 hbr
    refine e_seg (k := 1) (d := (29, [(0, .ref a), (1, .ref b)], [.int 0], M)) rfl ?_
    exact e_ret hE rfl rfl (jb_z rfl (by decide)) h
  · replace h := h.1 (Classical.byContradiction hbr)
    refine e_seg (k := 1) (d := (13, [(0, .ref a), (1, .ref b)], [.ref a], M)) rfl ?_
    refine e_get (v := .long (M.2 a 1)) (q := 16) hE rfl rfl rfl rfl (jFr_o ha) rfl rfl ?_
    refine e_seg (k := 1) (d := (17, [(0, .ref a), (1, .ref b)], [.ref b, .long (M.2 a 1)], M)) rfl ?_
    refine e_get (v := .long (M.2 b 1)) (q := 20) hE rfl rfl rfl rfl (jFr_o hb) rfl rfl ?_
    refine e_lc (t := 28) (q := 24) (pc1 := 21) hE rfl rfl rfl rfl rfl rfl (lc_ne (M.2 a 1) (M.2 b 1)) rfl rfl (fun hbr => ?_) (fun hbr => ?_)
    · replace h := h.2 hbr
      refine e_seg (k := 1) (d := (29, [(0, .ref a), (1, .ref b)], [.int 0], M)) rfl ?_
      exact e_ret hE rfl rfl (jb_z rfl (by decide)) h
    · replace h := h.1 (Classical.byContradiction hbr)
      refine e_seg (k := 2) (d := (29, [(0, .ref a), (1, .ref b)], [.int 1], M)) rfl ?_
      exact e_ret hE rfl rfl (jb_z rfl (by decide)) h
set_option maxRecDepth 100000 in
set_option maxHeartbeats 4000000 in
theorem v_X1_part_0 {K : jK} {M : jM} {x1 : Int32} {a : Nat} (ha : jFr a) (h : ((x1 = 0 → K (some (some (.long (M.2 a 0)))) M) ∧ (¬ x1 = 0 → K (some (some (.long (M.2 a 1)))) M))) : jEv nX1_part (0, [(0, .ref a), (1, .int x1)], [], M) K := by
  have hE : jMT nX1_part = some me_X1_part := rfl
  refine e_seg (k := 1) (d := (1, [(0, .ref a), (1, .int x1)], [.int x1], M)) rfl ?_
  refine e_if_ne (t := 11) (q := 4) hE rfl rfl rfl rfl (fun hbr => ?_) (fun hbr => ?_)
  · replace h := h.2 hbr
    refine e_seg (k := 1) (d := (12, [(0, .ref a), (1, .int x1)], [.ref a], M)) rfl ?_
    refine e_get (v := .long (M.2 a 1)) (q := 15) hE rfl rfl rfl rfl (jFr_o ha) rfl rfl ?_
    exact e_ret hE rfl rfl (jb_l rfl) h
  · replace h := h.1 hbr
    refine e_seg (k := 1) (d := (5, [(0, .ref a), (1, .int x1)], [.ref a], M)) rfl ?_
    refine e_get (v := .long (M.2 a 0)) (q := 8) hE rfl rfl rfl rfl (jFr_o ha) rfl rfl ?_
    refine e_seg (k := 1) (d := (15, [(0, .ref a), (1, .int x1)], [.long (M.2 a 0)], M)) rfl ?_
    exact e_ret hE rfl rfl (jb_l rfl) h
set_option maxRecDepth 100000 in
set_option maxHeartbeats 4000000 in
theorem v_X6_append_0 {K : jK} {M : jM} {x1 : Int32} (h : jEv nX6_append (3, [(0, .ref 1), (1, .int x1), (2, .int 24)], [], M) K) : jEv nX6_append (0, [(0, .ref 1), (1, .int x1)], [], M) K := by
  have hE : jMT nX6_append = some me_X6_append := rfl
  refine e_seg (k := 2) (d := (3, [(0, .ref 1), (1, .int x1), (2, .int 24)], [], M)) rfl ?_
  refine e_cut (ks := [0, 1, 2]) (L' := [(0, .ref 1), (1, .int x1), (2, .int 24)]) hE rfl rfl rfl rfl rfl ?_
  exact h
set_option maxRecDepth 100000 in
set_option maxHeartbeats 4000000 in
theorem v_X6_append_3 {K : jK} {M : jM} {x1 : Int32} {x2 : Int32} (h : ((x2 < 0 → K (some none) M) ∧ (¬ x2 < 0 → ((100 ≤ (M.1 1 1) → K (some none) M) ∧ (¬ 100 ≤ (M.1 1 1) → (¬ (M.1 1 1 < 0 ∨ 100 ≤ (M.1 1 1).toNatClampNeg) ∧ (∀ M1 : jM, M1 = jsi M 2 ((M.1 1 1).toNatClampNeg) (((x1 >>> (x2 &&& 31)).toInt8.toInt32).toInt8.toInt32) → (∀ M2 : jM, M2 = jsi M1 1 1 ((M1.1 1 1) + 1) → jEv nX6_append (3, [(0, .ref 1), (1, .int x1), (2, .int (x2 + (-8)))], [], M2) K)))))))) : jEv nX6_append (3, [(0, .ref 1), (1, .int x1), (2, .int x2)], [], M) K := by
  have hE : jMT nX6_append = some me_X6_append := rfl
  refine e_seg (k := 1) (d := (4, [(0, .ref 1), (1, .int x1), (2, .int x2)], [.int x2], M)) rfl ?_
  refine e_if_lt (t := 45) (q := 7) hE rfl rfl rfl rfl (fun hbr => ?_) (fun hbr => ?_)
  · replace h := h.1 hbr
    exact e_ret hE rfl rfl rfl h
  · replace h := h.2 hbr
    refine e_seg (k := 3) (d := (13, [(0, .ref 1), (1, .int x1), (2, .int x2)], [.int 100, .int (M.1 1 1)], M)) rfl ?_
    refine e_ic_ge (t := 45) (q := 16) hE rfl rfl rfl rfl (fun hbr => ?_) (fun hbr => ?_)
    · replace h := h.1 hbr
      exact e_ret hE rfl rfl rfl h
    · replace h := h.2 hbr
      refine e_seg (k := 8) (d := (28, [(0, .ref 1), (1, .int x1), (2, .int x2)], [.int ((x1 >>> (x2 &&& 31)).toInt8.toInt32), .int (M.1 1 1), .ref 2], M)) rfl ?_
      refine e_bast (q := 29) hE rfl rfl rfl rfl h.1 ?_
      replace h := h.2
      obtain ⟨M1, hM1⟩ : ∃ z : jM, z = jsi M 2 ((M.1 1 1).toNatClampNeg) (((x1 >>> (x2 &&& 31)).toInt8.toInt32).toInt8.toInt32) := ⟨_, rfl⟩
      refine jEv_M hM1 ?_
      replace h := h M1 hM1
      refine e_seg (k := 5) (d := (36, [(0, .ref 1), (1, .int x1), (2, .int x2)], [.int ((M1.1 1 1) + 1), .ref 1], M1)) rfl ?_
      refine e_put (q := 39) hE rfl rfl rfl rfl rfl rfl rfl ?_
      obtain ⟨M2, hM2⟩ : ∃ z : jM, z = jsi M1 1 1 ((M1.1 1 1) + 1) := ⟨_, rfl⟩
      refine jEv_M hM2 ?_
      replace h := h M2 hM2
      refine e_seg (k := 2) (d := (3, [(0, .ref 1), (1, .int x1), (2, .int (x2 + (-8)))], [], M2)) rfl ?_
      refine e_cut (ks := [0, 1, 2]) (L' := [(0, .ref 1), (1, .int x1), (2, .int (x2 + (-8)))]) hE rfl rfl rfl rfl rfl ?_
      exact h
set_option maxRecDepth 100000 in
set_option maxHeartbeats 4000000 in
theorem v_X6_pair_0 {K : jK} {M : jM} {x1 : Int32} (h : (¬ (2 * x1 < 0 ∨ 100 ≤ (2 * x1).toNatClampNeg) ∧ (¬ ((2 * x1) + 1 < 0 ∨ 100 ≤ ((2 * x1) + 1).toNatClampNeg) ∧ K (some (some (.int (((M.1 2 (2 * x1).toNatClampNeg) * 256) + ((M.1 2 ((2 * x1) + 1).toNatClampNeg) &&& 255))))) M))) : jEv nX6_pair (0, [(0, .ref 1), (1, .int x1)], [], M) K := by
  have hE : jMT nX6_pair = some me_X6_pair := rfl
  refine e_seg (k := 5) (d := (7, [(0, .ref 1), (1, .int x1)], [.int (2 * x1), .ref 2], M)) rfl ?_
  refine e_bald (q := 8) hE rfl rfl rfl rfl h.1 ?_
  replace h := h.2
  refine e_seg (k := 9) (d := (21, [(0, .ref 1), (1, .int x1)], [.int ((2 * x1) + 1), .ref 2, .int ((M.1 2 (2 * x1).toNatClampNeg) * 256)], M)) rfl ?_
  refine e_bald (q := 22) hE rfl rfl rfl rfl h.1 ?_
  replace h := h.2
  refine e_seg (k := 3) (d := (27, [(0, .ref 1), (1, .int x1)], [.int (((M.1 2 (2 * x1).toNatClampNeg) * 256) + ((M.1 2 ((2 * x1) + 1).toNatClampNeg) &&& 255))], M)) rfl ?_
  exact e_ret hE rfl rfl (jb_i rfl) h
set_option maxRecDepth 100000 in
set_option maxHeartbeats 4000000 in
theorem v_X1_commonDivisor_0 {K : jK} {M : jM} {x0 : Int64} {x2 : Int64} (h : jEv nX1_commonDivisor (15, [(4, .long (if 0 < x0 then x0 else -x0)), (6, .long (if 0 < x2 then x2 else -x2)), (8, .int 0)], [], M) K) : jEv nX1_commonDivisor (0, [(0, .long x0), (2, .long x2)], [], M) K := by
  have hE : jMT nX1_commonDivisor = some me_X1_commonDivisor := rfl
  refine e_seg (k := 8) (d := (15, [(0, .long x0), (2, .long x2), (4, .long (if 0 < x0 then x0 else -x0)), (6, .long (if 0 < x2 then x2 else -x2)), (8, .int 0)], [], M)) rfl ?_
  refine e_cut (ks := [4, 6, 8]) (L' := [(4, .long (if 0 < x0 then x0 else -x0)), (6, .long (if 0 < x2 then x2 else -x2)), (8, .int 0)]) hE rfl rfl rfl rfl rfl ?_
  exact h
set_option maxRecDepth 100000 in
set_option maxHeartbeats 4000000 in
theorem v_X1_commonDivisor_15 {K : jK} {M : jM} {x4 : Int64} {x6 : Int64} {x8 : Int32} (h : ((200 ≤ x8 → ((x4 ≤ 0 → K (some (some (.long 1))) M) ∧ (¬ (x4 ≤ 0) → K (some (some (.long x4))) M))) ∧ (¬ 200 ≤ x8 → ((x6 = 0 → ((x4 ≤ 0 → K (some (some (.long 1))) M) ∧ (¬ (x4 ≤ 0) → K (some (some (.long x4))) M))) ∧ (¬ (x6 = 0) → (¬ x6 = 0 ∧ jEv nX1_commonDivisor (15, [(4, .long x6), (6, .long (x4 - x4 / x6 * x6)), (8, .int (x8 + 1))], [], M) K)))))) : jEv nX1_commonDivisor (15, [(4, .long x4), (6, .long x6), (8, .int x8)], [], M) K := by
  have hE : jMT nX1_commonDivisor = some me_X1_commonDivisor := rfl
  refine e_seg (k := 2) (d := (20, [(4, .long x4), (6, .long x6), (8, .int x8)], [.int 200, .int x8], M)) rfl ?_
  refine e_ic_ge (t := 51) (q := 23) hE rfl rfl rfl rfl (fun hbr => ?_) (fun hbr => ?_)
  · replace h := h.1 hbr
    refine e_seg (k := 2) (d := (54, [(4, .long x4), (6, .long x6), (8, .int x8)], [.long 0, .long x4], M)) rfl ?_
    refine e_lc (t := 63) (q := 58) (pc1 := 55) hE rfl rfl rfl rfl rfl rfl (lc_le x4 0) rfl rfl (fun hbr => ?_) (fun hbr => ?_)
    · replace h := h.1 hbr
      refine e_seg (k := 1) (d := (64, [(4, .long x4), (6, .long x6), (8, .int x8)], [.long 1], M)) rfl ?_
      exact e_ret hE rfl rfl (jb_l rfl) h
    · replace h := h.2 hbr
      refine e_seg (k := 2) (d := (64, [(4, .long x4), (6, .long x6), (8, .int x8)], [.long x4], M)) rfl ?_
      exact e_ret hE rfl rfl (jb_l rfl) h
  · replace h := h.2 hbr
    refine e_seg (k := 2) (d := (26, [(4, .long x4), (6, .long x6), (8, .int x8)], [.long 0, .long x6], M)) rfl ?_
    refine e_lc (t := 51) (q := 30) (pc1 := 27) hE rfl rfl rfl rfl rfl rfl (lc_eq x6 0) rfl rfl (fun hbr => ?_) (fun hbr => ?_)
    · replace h := h.1 hbr
      refine e_seg (k := 2) (d := (54, [(4, .long x4), (6, .long x6), (8, .int x8)], [.long 0, .long x4], M)) rfl ?_
      refine e_lc (t := 63) (q := 58) (pc1 := 55) hE rfl rfl rfl rfl rfl rfl (lc_le x4 0) rfl rfl (fun hbr => ?_) (fun hbr => ?_)
      · replace h := h.1 hbr
        refine e_seg (k := 1) (d := (64, [(4, .long x4), (6, .long x6), (8, .int x8)], [.long 1], M)) rfl ?_
        exact e_ret hE rfl rfl (jb_l rfl) h
      · replace h := h.2 hbr
        refine e_seg (k := 2) (d := (64, [(4, .long x4), (6, .long x6), (8, .int x8)], [.long x4], M)) rfl ?_
        exact e_ret hE rfl rfl (jb_l rfl) h
    · replace h := h.2 hbr
      refine e_seg (k := 2) (d := (34, [(4, .long x4), (6, .long x6), (8, .int x8)], [.long x6, .long x4], M)) rfl ?_
      refine e_lrem (q := 35) hE rfl rfl rfl h.1 ?_
      replace h := h.2
      refine e_seg (k := 7) (d := (15, [(4, .long x6), (6, .long (x4 - x4 / x6 * x6)), (8, .int (x8 + 1)), (9, .long (x4 - x4 / x6 * x6))], [], M)) rfl ?_
      refine e_cut (ks := [4, 6, 8]) (L' := [(4, .long x6), (6, .long (x4 - x4 / x6 * x6)), (8, .int (x8 + 1))]) hE rfl rfl rfl rfl rfl ?_
      exact h
set_option maxRecDepth 100000 in
set_option maxHeartbeats 4000000 in
theorem v_X6_isEachPlace_0 {K : jK} {M : jM} {x1 : Int32} (h : jEv nX6_isEachPlace (2, [(0, .ref 1), (1, .int x1), (2, .int 0)], [], M) K) : jEv nX6_isEachPlace (0, [(0, .ref 1), (1, .int x1)], [], M) K := by
  have hE : jMT nX6_isEachPlace = some me_X6_isEachPlace := rfl
  refine e_seg (k := 2) (d := (2, [(0, .ref 1), (1, .int x1), (2, .int 0)], [], M)) rfl ?_
  refine e_cut (ks := [0, 1, 2]) (L' := [(0, .ref 1), (1, .int x1), (2, .int 0)]) hE rfl rfl rfl rfl rfl ?_
  exact h
set_option maxRecDepth 100000 in
set_option maxHeartbeats 4000000 in
theorem v_X6_isEachPlace_2 {K : jK} {M : jM} {x1 : Int32} {x2 : Int32} (h : ((x1 ≤ x2 → K (some (some (.int 1))) M) ∧ (¬ x1 ≤ x2 → (¬ (x2 < 0 ∨ 100 ≤ x2.toNatClampNeg) ∧ (((M.1 2 x2.toNatClampNeg) = (-128) → jEv nX6_isEachPlace (2, [(0, .ref 1), (1, .int x1), (2, .int (x2 + 1))], [], M) K) ∧ (¬ (M.1 2 x2.toNatClampNeg) = (-128) → (¬ (x2 < 0 ∨ 100 ≤ x2.toNatClampNeg) ∧ (jEv nX7_isWithin (0, [(0, .int (M.1 2 x2.toNatClampNeg)), (1, .int (-20)), (2, .int 20)], [], M) (fun o1 M2 => ∃ r3 : Int32, o1 = some (some (.int r3)) ∧ ((r3 = 0 → K (some (some (.int 0))) M2) ∧ (¬ r3 = 0 → jEv nX6_isEachPlace (2, [(0, .ref 1), (1, .int x1), (2, .int (x2 + 1))], [], M2) K))))))))))) : jEv nX6_isEachPlace (2, [(0, .ref 1), (1, .int x1), (2, .int x2)], [], M) K := by
  have hE : jMT nX6_isEachPlace = some me_X6_isEachPlace := rfl
  refine e_seg (k := 2) (d := (4, [(0, .ref 1), (1, .int x1), (2, .int x2)], [.int x1, .int x2], M)) rfl ?_
  refine e_ic_ge (t := 42) (q := 7) hE rfl rfl rfl rfl (fun hbr => ?_) (fun hbr => ?_)
  · replace h := h.1 hbr
    refine e_seg (k := 1) (d := (43, [(0, .ref 1), (1, .int x1), (2, .int x2)], [.int 1], M)) rfl ?_
    exact e_ret hE rfl rfl (jb_z rfl (by decide)) h
  · replace h := h.2 hbr
    refine e_seg (k := 3) (d := (12, [(0, .ref 1), (1, .int x1), (2, .int x2)], [.int x2, .ref 2], M)) rfl ?_
    refine e_bald (q := 13) hE rfl rfl rfl rfl h.1 ?_
    replace h := h.2
    refine e_seg (k := 1) (d := (15, [(0, .ref 1), (1, .int x1), (2, .int x2)], [.int (-128), .int (M.1 2 x2.toNatClampNeg)], M)) rfl ?_
    refine e_ic_eq (t := 36) (q := 18) hE rfl rfl rfl rfl (fun hbr => ?_) (fun hbr => ?_)
    · replace h := h.1 hbr
      refine e_seg (k := 2) (d := (2, [(0, .ref 1), (1, .int x1), (2, .int (x2 + 1))], [], M)) rfl ?_
      refine e_cut (ks := [0, 1, 2]) (L' := [(0, .ref 1), (1, .int x1), (2, .int (x2 + 1))]) hE rfl rfl rfl rfl rfl ?_
      exact h
    · replace h := h.2 hbr
      refine e_seg (k := 3) (d := (23, [(0, .ref 1), (1, .int x1), (2, .int x2)], [.int x2, .ref 2], M)) rfl ?_
      refine e_bald (q := 24) hE rfl rfl rfl rfl h.1 ?_
      replace h := h.2
      refine e_seg (k := 2) (d := (28, [(0, .ref 1), (1, .int x1), (2, .int x2)], [.int 20, .int (-20), .int (M.1 2 x2.toNatClampNeg)], M)) rfl ?_
      refine e_call (q := 31) (L0 := [(0, .int (M.1 2 x2.toNatClampNeg)), (1, .int (-20)), (2, .int 20)]) hE rfl rfl rfl rfl (jargs_S rfl rfl rfl rfl (Nat.le_of_ble_eq_true rfl) (Nat.le_of_ble_eq_true rfl) (Nat.le_of_ble_eq_true rfl)) rfl rfl (jEv.mono h (fun o1 M2 h => ?_))
      obtain ⟨r3, rfl, h⟩ := h
      refine ⟨_, rfl, ?_⟩
      show jEv nX6_isEachPlace (31, [(0, .ref 1), (1, .int x1), (2, .int x2)], [.int r3], M2) K
      refine e_if_ne (t := 36) (q := 34) hE rfl rfl rfl rfl (fun hbr => ?_) (fun hbr => ?_)
      · replace h := h.2 hbr
        refine e_seg (k := 2) (d := (2, [(0, .ref 1), (1, .int x1), (2, .int (x2 + 1))], [], M2)) rfl ?_
        refine e_cut (ks := [0, 1, 2]) (L' := [(0, .ref 1), (1, .int x1), (2, .int (x2 + 1))]) hE rfl rfl rfl rfl rfl ?_
        exact h
      · replace h := h.1 hbr
        refine e_seg (k := 1) (d := (35, [(0, .ref 1), (1, .int x1), (2, .int x2)], [.int 0], M2)) rfl ?_
        exact e_ret hE rfl rfl (jb_z rfl (by decide)) h
set_option maxRecDepth 100000 in
set_option maxHeartbeats 4000000 in
theorem v_X6_isEachWithin_0 {K : jK} {M : jM} {x1 : Int32} {x2 : Int32} (h : jEv nX6_isEachWithin (2, [(0, .ref 1), (1, .int x1), (2, .int x2), (3, .int 0)], [], M) K) : jEv nX6_isEachWithin (0, [(0, .ref 1), (1, .int x1), (2, .int x2)], [], M) K := by
  have hE : jMT nX6_isEachWithin = some me_X6_isEachWithin := rfl
  refine e_seg (k := 2) (d := (2, [(0, .ref 1), (1, .int x1), (2, .int x2), (3, .int 0)], [], M)) rfl ?_
  refine e_cut (ks := [0, 1, 2, 3]) (L' := [(0, .ref 1), (1, .int x1), (2, .int x2), (3, .int 0)]) hE rfl rfl rfl rfl rfl ?_
  exact h
set_option maxRecDepth 100000 in
set_option maxHeartbeats 4000000 in
theorem v_X6_isEachWithin_2 {K : jK} {M : jM} {x1 : Int32} {x2 : Int32} {x3 : Int32} (h : ((x1 ≤ x3 → K (some (some (.int 1))) M) ∧ (¬ x1 ≤ x3 → (¬ (x3 < 0 ∨ 100 ≤ x3.toNatClampNeg) ∧ (jEv nX7_isWithin (0, [(0, .int (M.1 2 x3.toNatClampNeg)), (1, .int (-x2)), (2, .int x2)], [], M) (fun o1 M2 => ∃ r3 : Int32, o1 = some (some (.int r3)) ∧ ((r3 = 0 → K (some (some (.int 0))) M2) ∧ (¬ r3 = 0 → jEv nX6_isEachWithin (2, [(0, .ref 1), (1, .int x1), (2, .int x2), (3, .int (x3 + 1))], [], M2) K)))))))) : jEv nX6_isEachWithin (2, [(0, .ref 1), (1, .int x1), (2, .int x2), (3, .int x3)], [], M) K := by
  have hE : jMT nX6_isEachWithin = some me_X6_isEachWithin := rfl
  refine e_seg (k := 2) (d := (4, [(0, .ref 1), (1, .int x1), (2, .int x2), (3, .int x3)], [.int x1, .int x3], M)) rfl ?_
  refine e_ic_ge (t := 30) (q := 7) hE rfl rfl rfl rfl (fun hbr => ?_) (fun hbr => ?_)
  · replace h := h.1 hbr
    refine e_seg (k := 1) (d := (31, [(0, .ref 1), (1, .int x1), (2, .int x2), (3, .int x3)], [.int 1], M)) rfl ?_
    exact e_ret hE rfl rfl (jb_z rfl (by decide)) h
  · replace h := h.2 hbr
    refine e_seg (k := 3) (d := (12, [(0, .ref 1), (1, .int x1), (2, .int x2), (3, .int x3)], [.int x3, .ref 2], M)) rfl ?_
    refine e_bald (q := 13) hE rfl rfl rfl rfl h.1 ?_
    replace h := h.2
    refine e_seg (k := 3) (d := (16, [(0, .ref 1), (1, .int x1), (2, .int x2), (3, .int x3)], [.int x2, .int (-x2), .int (M.1 2 x3.toNatClampNeg)], M)) rfl ?_
    refine e_call (q := 19) (L0 := [(0, .int (M.1 2 x3.toNatClampNeg)), (1, .int (-x2)), (2, .int x2)]) hE rfl rfl rfl rfl (jargs_S rfl rfl rfl rfl (Nat.le_of_ble_eq_true rfl) (Nat.le_of_ble_eq_true rfl) (Nat.le_of_ble_eq_true rfl)) rfl rfl (jEv.mono h (fun o1 M2 h => ?_))
    obtain ⟨r3, rfl, h⟩ := h
    refine ⟨_, rfl, ?_⟩
    show jEv nX6_isEachWithin (19, [(0, .ref 1), (1, .int x1), (2, .int x2), (3, .int x3)], [.int r3], M2) K
    refine e_if_ne (t := 24) (q := 22) hE rfl rfl rfl rfl (fun hbr => ?_) (fun hbr => ?_)
    · replace h := h.2 hbr
      refine e_seg (k := 2) (d := (2, [(0, .ref 1), (1, .int x1), (2, .int x2), (3, .int (x3 + 1))], [], M2)) rfl ?_
      refine e_cut (ks := [0, 1, 2, 3]) (L' := [(0, .ref 1), (1, .int x1), (2, .int x2), (3, .int (x3 + 1))]) hE rfl rfl rfl rfl rfl ?_
      exact h
    · replace h := h.1 hbr
      refine e_seg (k := 1) (d := (23, [(0, .ref 1), (1, .int x1), (2, .int x2), (3, .int x3)], [.int 0], M2)) rfl ?_
      exact e_ret hE rfl rfl (jb_z rfl (by decide)) h
set_option maxRecDepth 100000 in
set_option maxHeartbeats 4000000 in
theorem v_X1_set_0 {K : jK} {M : jM} {x1 : Int64} {x3 : Int64} {a : Nat} (ha : jFr a) (h : (jEv nX1_commonDivisor (0, [(0, .long x1), (2, .long x3)], [], M) (fun o1 M2 => ∃ r3 : Int64, o1 = some (some (.long r3)) ∧ ((0 ≤ x3 → (¬ r3 = 0 ∧ (∀ M4 : jM, M4 = jsl M2 a 0 (x1 / r3) → (¬ r3 = 0 ∧ (∀ M5 : jM, M5 = jsl M4 a 1 (x3 / r3) → K (some none) M5))))) ∧ (¬ (0 ≤ x3) → (¬ (-r3) = 0 ∧ (∀ M6 : jM, M6 = jsl M2 a 0 (x1 / (-r3)) → (¬ (-r3) = 0 ∧ (∀ M7 : jM, M7 = jsl M6 a 1 (x3 / (-r3)) → K (some none) M7))))))))) : jEv nX1_set (0, [(0, .ref a), (1, .long x1), (3, .long x3)], [], M) K := by
  have hE : jMT nX1_set = some me_X1_set := rfl
  refine e_seg (k := 2) (d := (2, [(0, .ref a), (1, .long x1), (3, .long x3)], [.long x3, .long x1], M)) rfl ?_
  refine e_call (q := 5) (L0 := [(0, .long x1), (2, .long x3)]) hE rfl rfl rfl rfl (jargs_S rfl rfl rfl rfl (Nat.le_of_ble_eq_true rfl) (Nat.le_of_ble_eq_true rfl) (Nat.le_of_ble_eq_true rfl)) rfl rfl (jEv.mono h (fun o1 M2 h => ?_))
  obtain ⟨r3, rfl, h⟩ := h
  refine ⟨_, rfl, ?_⟩
  show jEv nX1_set (5, [(0, .ref a), (1, .long x1), (3, .long x3)], [.long r3], M2) K
  refine e_seg (k := 3) (d := (9, [(0, .ref a), (1, .long x1), (3, .long x3), (5, .long r3)], [.long 0, .long x3], M2)) rfl ?_
  refine e_lc (t := 18) (q := 13) (pc1 := 10) hE rfl rfl rfl rfl rfl rfl (lc_ge x3 0) rfl rfl (fun hbr => ?_) (fun hbr => ?_)
  · replace h := h.1 hbr
    refine e_seg (k := 3) (d := (22, [(0, .ref a), (1, .long x1), (3, .long x3), (5, .long r3)], [.long r3, .long x1, .ref a], M2)) rfl ?_
    refine e_ldiv (q := 23) hE rfl rfl rfl h.1 ?_
    replace h := h.2
    refine e_put (q := 26) hE rfl rfl rfl rfl (jFr_o ha) rfl rfl ?_
    obtain ⟨M4, hM4⟩ : ∃ z : jM, z = jsl M2 a 0 (x1 / r3) := ⟨_, rfl⟩
    refine jEv_M hM4 ?_
    replace h := h M4 hM4
    refine e_seg (k := 3) (d := (30, [(0, .ref a), (1, .long x1), (3, .long x3), (5, .long r3)], [.long r3, .long x3, .ref a], M4)) rfl ?_
    refine e_ldiv (q := 31) hE rfl rfl rfl h.1 ?_
    replace h := h.2
    refine e_put (q := 34) hE rfl rfl rfl rfl (jFr_o ha) rfl rfl ?_
    obtain ⟨M5, hM5⟩ : ∃ z : jM, z = jsl M4 a 1 (x3 / r3) := ⟨_, rfl⟩
    refine jEv_M hM5 ?_
    replace h := h M5 hM5
    exact e_ret hE rfl rfl rfl h
  · replace h := h.2 hbr
    refine e_seg (k := 6) (d := (22, [(0, .ref a), (1, .long x1), (3, .long x3), (5, .long (-r3))], [.long (-r3), .long x1, .ref a], M2)) rfl ?_
    refine e_ldiv (q := 23) hE rfl rfl rfl h.1 ?_
    replace h := h.2
    refine e_put (q := 26) hE rfl rfl rfl rfl (jFr_o ha) rfl rfl ?_
    obtain ⟨M6, hM6⟩ : ∃ z : jM, z = jsl M2 a 0 (x1 / (-r3)) := ⟨_, rfl⟩
    refine jEv_M hM6 ?_
    replace h := h M6 hM6
    refine e_seg (k := 3) (d := (30, [(0, .ref a), (1, .long x1), (3, .long x3), (5, .long (-r3))], [.long (-r3), .long x3, .ref a], M6)) rfl ?_
    refine e_ldiv (q := 31) hE rfl rfl rfl h.1 ?_
    replace h := h.2
    refine e_put (q := 34) hE rfl rfl rfl rfl (jFr_o ha) rfl rfl ?_
    obtain ⟨M7, hM7⟩ : ∃ z : jM, z = jsl M6 a 1 (x3 / (-r3)) := ⟨_, rfl⟩
    refine jEv_M hM7 ?_
    replace h := h M7 hM7
    exact e_ret hE rfl rfl rfl h
