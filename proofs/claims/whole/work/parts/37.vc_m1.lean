/-! printed by wip/whole/emit.py: what must hold on each way between cut points -/
set_option maxRecDepth 100000 in
set_option maxHeartbeats 4000000 in
theorem v_X8_at_0 {K : jK} {M : jM} {x1 : Int32} (h : (∀ M1 : jM, M1 = jsi M 67 0 0 → ((x1 < 0 → K (some (some (.int 101))) M1) ∧ (¬ x1 < 0 → ((x1 < (M1.1 67 27) → (¬ (x1 < 0 ∨ 60 ≤ x1.toNatClampNeg) ∧ K (some (some (.int (M1.1 90 x1.toNatClampNeg)))) M1)) ∧ (¬ x1 < (M1.1 67 27) → K (some (some (.int 101))) M1)))))) : jEv nX8_at (0, [(0, .ref 67), (1, .int x1)], [], M) K := by
  have hE : jMT nX8_at = some me_X8_at := rfl
  refine e_seg (k := 2) (d := (2, [(0, .ref 67), (1, .int x1)], [.int 0, .ref 67], M)) rfl ?_
  refine e_put (q := 5) hE rfl rfl rfl rfl rfl rfl rfl ?_
  obtain ⟨M1, hM1⟩ : ∃ z : jM, z = jsi M 67 0 0 := ⟨_, rfl⟩
  refine jEv_M hM1 ?_
  replace h := h M1 hM1
  refine e_seg (k := 1) (d := (6, [(0, .ref 67), (1, .int x1)], [.int x1], M1)) rfl ?_
  refine e_if_lt (t := 17) (q := 9) hE rfl rfl rfl rfl (fun hbr => ?_) (fun hbr => ?_)
  · replace h := h.1 hbr
    refine e_seg (k := 2) (d := (28, [(0, .ref 67), (1, .int x1)], [.int 101], M1)) rfl ?_
    exact e_ret hE rfl rfl (jb_i rfl) h
  · replace h := h.2 hbr
    refine e_seg (k := 3) (d := (14, [(0, .ref 67), (1, .int x1)], [.int (M1.1 67 27), .int x1], M1)) rfl ?_
    refine e_ic_lt (t := 22) (q := 17) hE rfl rfl rfl rfl (fun hbr => ?_) (fun hbr => ?_)
    · replace h := h.1 hbr
      refine e_seg (k := 3) (d := (27, [(0, .ref 67), (1, .int x1)], [.int x1, .ref 90], M1)) rfl ?_
      refine e_iald (q := 28) hE rfl rfl rfl rfl h.1 ?_
      replace h := h.2
      exact e_ret hE rfl rfl (jb_i rfl) h
    · replace h := h.2 hbr
      refine e_seg (k := 2) (d := (28, [(0, .ref 67), (1, .int x1)], [.int 101], M1)) rfl ?_
      exact e_ret hE rfl rfl (jb_i rfl) h
set_option maxRecDepth 100000 in
set_option maxHeartbeats 4000000 in
theorem v_X8_common_0 {K : jK} {M : jM} {x0 : Int64} {x2 : Int64} (h : ((0 ≤ x0 → ((0 ≤ x2 → jEv nX8_common (28, [(4, .long x0), (6, .long x2)], [], M) K) ∧ (¬ (0 ≤ x2) → jEv nX8_common (28, [(4, .long x0), (6, .long (-x2))], [], M) K))) ∧ (¬ (0 ≤ x0) → ((0 ≤ x2 → jEv nX8_common (28, [(4, .long (-x0)), (6, .long x2)], [], M) K) ∧ (¬ (0 ≤ x2) → jEv nX8_common (28, [(4, .long (-x0)), (6, .long (-x2))], [], M) K))))) : jEv nX8_common (0, [(0, .long x0), (2, .long x2)], [], M) K := by
  have hE : jMT nX8_common = some me_X8_common := rfl
  refine e_seg (k := 2) (d := (2, [(0, .long x0), (2, .long x2)], [.long 0, .long x0], M)) rfl ?_
  refine e_lc (t := 11) (q := 6) (pc1 := 3) hE rfl rfl rfl rfl rfl rfl (lc_ge x0 0) rfl rfl (fun hbr => ?_) (fun hbr => ?_)
  · replace h := h.1 hbr
    refine e_seg (k := 4) (d := (16, [(0, .long x0), (2, .long x2), (4, .long x0)], [.long 0, .long x2], M)) rfl ?_
    refine e_lc (t := 25) (q := 20) (pc1 := 17) hE rfl rfl rfl rfl rfl rfl (lc_ge x2 0) rfl rfl (fun hbr => ?_) (fun hbr => ?_)
    · replace h := h.1 hbr
      refine e_seg (k := 2) (d := (28, [(0, .long x0), (2, .long x2), (4, .long x0), (6, .long x2)], [], M)) rfl ?_
      refine e_cut (ks := [4, 6]) (L' := [(4, .long x0), (6, .long x2)]) hE rfl rfl rfl rfl rfl ?_
      exact h
    · replace h := h.2 hbr
      refine e_seg (k := 4) (d := (28, [(0, .long x0), (2, .long x2), (4, .long x0), (6, .long (-x2))], [], M)) rfl ?_
      refine e_cut (ks := [4, 6]) (L' := [(4, .long x0), (6, .long (-x2))]) hE rfl rfl rfl rfl rfl ?_
      exact h
  · replace h := h.2 hbr
    refine e_seg (k := 6) (d := (16, [(0, .long x0), (2, .long x2), (4, .long (-x0))], [.long 0, .long x2], M)) rfl ?_
    refine e_lc (t := 25) (q := 20) (pc1 := 17) hE rfl rfl rfl rfl rfl rfl (lc_ge x2 0) rfl rfl (fun hbr => ?_) (fun hbr => ?_)
    · replace h := h.1 hbr
      refine e_seg (k := 2) (d := (28, [(0, .long x0), (2, .long x2), (4, .long (-x0)), (6, .long x2)], [], M)) rfl ?_
      refine e_cut (ks := [4, 6]) (L' := [(4, .long (-x0)), (6, .long x2)]) hE rfl rfl rfl rfl rfl ?_
      exact h
    · replace h := h.2 hbr
      refine e_seg (k := 4) (d := (28, [(0, .long x0), (2, .long x2), (4, .long (-x0)), (6, .long (-x2))], [], M)) rfl ?_
      refine e_cut (ks := [4, 6]) (L' := [(4, .long (-x0)), (6, .long (-x2))]) hE rfl rfl rfl rfl rfl ?_
      exact h
set_option maxRecDepth 100000 in
set_option maxHeartbeats 4000000 in
theorem v_X8_common_28 {K : jK} {M : jM} {x4 : Int64} {x6 : Int64} (h : ((x6 = 0 → K (some (some (.long x4))) M) ∧ (¬ (x6 = 0) → (¬ x6 = 0 ∧ jEv nX8_common (28, [(4, .long x6), (6, .long (x4 - x4 / x6 * x6))], [], M) K)))) : jEv nX8_common (28, [(4, .long x4), (6, .long x6)], [], M) K := by
  have hE : jMT nX8_common = some me_X8_common := rfl
  refine e_seg (k := 2) (d := (31, [(4, .long x4), (6, .long x6)], [.long 0, .long x6], M)) rfl ?_
  refine e_lc (t := 53) (q := 35) (pc1 := 32) hE rfl rfl rfl rfl rfl rfl (lc_eq x6 0) rfl rfl (fun hbr => ?_) (fun hbr => ?_)
  · replace h := h.1 hbr
    refine e_seg (k := 1) (d := (55, [(4, .long x4), (6, .long x6)], [.long x4], M)) rfl ?_
    exact e_ret hE rfl rfl (jb_l rfl) h
  · replace h := h.2 hbr
    refine e_seg (k := 2) (d := (39, [(4, .long x4), (6, .long x6)], [.long x6, .long x4], M)) rfl ?_
    refine e_lrem (q := 40) hE rfl rfl rfl h.1 ?_
    replace h := h.2
    refine e_seg (k := 6) (d := (28, [(4, .long x6), (6, .long (x4 - x4 / x6 * x6)), (8, .long (x4 - x4 / x6 * x6))], [], M)) rfl ?_
    refine e_cut (ks := [4, 6]) (L' := [(4, .long x6), (6, .long (x4 - x4 / x6 * x6))]) hE rfl rfl rfl rfl rfl ?_
    exact h
set_option maxRecDepth 100000 in
set_option maxHeartbeats 4000000 in
theorem v_X8_determinant_0 {K : jK} {M : jM} {x1 : Int32} (h : jEv nX8_determinant (4, [(0, .ref 67), (1, .int x1), (2, .int 1), (3, .int 0)], [], M) K) : jEv nX8_determinant (0, [(0, .ref 67), (1, .int x1)], [], M) K := by
  have hE : jMT nX8_determinant = some me_X8_determinant := rfl
  refine e_seg (k := 4) (d := (4, [(0, .ref 67), (1, .int x1), (2, .int 1), (3, .int 0)], [], M)) rfl ?_
  refine e_cut (ks := [0, 1, 2, 3]) (L' := [(0, .ref 67), (1, .int x1), (2, .int 1), (3, .int 0)]) hE rfl rfl rfl rfl rfl ?_
  exact h
set_option maxRecDepth 100000 in
set_option maxHeartbeats 4000000 in
theorem v_X8_determinant_4 {K : jK} {M : jM} {x1 : Int32} {x2 : Int32} {x3 : Int32} (h : ((x1 ≤ x3 → jEv nX8_determinant (24, [(0, .ref 67), (1, .int x1), (2, .int x2), (3, .long 0), (5, .int 0)], [], M) K) ∧ (¬ x1 ≤ x3 → jEv nX8_determinant (4, [(0, .ref 67), (1, .int x1), (2, .int (x2 * x1)), (3, .int (x3 + 1))], [], M) K))) : jEv nX8_determinant (4, [(0, .ref 67), (1, .int x1), (2, .int x2), (3, .int x3)], [], M) K := by
  have hE : jMT nX8_determinant = some me_X8_determinant := rfl
  refine e_seg (k := 2) (d := (6, [(0, .ref 67), (1, .int x1), (2, .int x2), (3, .int x3)], [.int x1, .int x3], M)) rfl ?_
  refine e_ic_ge (t := 19) (q := 9) hE rfl rfl rfl rfl (fun hbr => ?_) (fun hbr => ?_)
  · replace h := h.1 hbr
    refine e_seg (k := 4) (d := (24, [(0, .ref 67), (1, .int x1), (2, .int x2), (3, .long 0), (5, .int 0)], [], M)) rfl ?_
    refine e_cut (ks := [0, 1, 2, 3, 5]) (L' := [(0, .ref 67), (1, .int x1), (2, .int x2), (3, .long 0), (5, .int 0)]) hE rfl rfl rfl rfl rfl ?_
    exact h
  · replace h := h.2 hbr
    refine e_seg (k := 6) (d := (4, [(0, .ref 67), (1, .int x1), (2, .int (x2 * x1)), (3, .int (x3 + 1))], [], M)) rfl ?_
    refine e_cut (ks := [0, 1, 2, 3]) (L' := [(0, .ref 67), (1, .int x1), (2, .int (x2 * x1)), (3, .int (x3 + 1))]) hE rfl rfl rfl rfl rfl ?_
    exact h
set_option maxRecDepth 100000 in
set_option maxHeartbeats 4000000 in
theorem v_X8_determinant_24 {K : jK} {M : jM} {x1 : Int32} {x2 : Int32} {x3 : Int64} {x5 : Int32} (h : ((x2 ≤ x5 → K (some (some (.long x3))) M) ∧ (¬ x2 ≤ x5 → jEv nX8_determinant (40, [(0, .ref 67), (1, .int x1), (2, .int x2), (3, .long x3), (5, .int x5), (6, .int x5), (7, .long 1), (9, .int 0)], [], M) K))) : jEv nX8_determinant (24, [(0, .ref 67), (1, .int x1), (2, .int x2), (3, .long x3), (5, .int x5)], [], M) K := by
  have hE : jMT nX8_determinant = some me_X8_determinant := rfl
  refine e_seg (k := 2) (d := (27, [(0, .ref 67), (1, .int x1), (2, .int x2), (3, .long x3), (5, .int x5)], [.int x2, .int x5], M)) rfl ?_
  refine e_ic_ge (t := 203) (q := 30) hE rfl rfl rfl rfl (fun hbr => ?_) (fun hbr => ?_)
  · replace h := h.1 hbr
    refine e_seg (k := 1) (d := (204, [(0, .ref 67), (1, .int x1), (2, .int x2), (3, .long x3), (5, .int x5)], [.long x3], M)) rfl ?_
    exact e_ret hE rfl rfl (jb_l rfl) h
  · replace h := h.2 hbr
    refine e_seg (k := 6) (d := (40, [(0, .ref 67), (1, .int x1), (2, .int x2), (3, .long x3), (5, .int x5), (6, .int x5), (7, .long 1), (9, .int 0)], [], M)) rfl ?_
    refine e_cut (ks := [0, 1, 2, 3, 5, 6, 7, 9]) (L' := [(0, .ref 67), (1, .int x1), (2, .int x2), (3, .long x3), (5, .int x5), (6, .int x5), (7, .long 1), (9, .int 0)]) hE rfl rfl rfl rfl rfl ?_
    exact h
set_option maxRecDepth 100000 in
set_option maxHeartbeats 4000000 in
theorem v_X8_determinant_40 {K : jK} {M : jM} {x1 : Int32} {x2 : Int32} {x3 : Int64} {x5 : Int32} {x6 : Int32} {x7 : Int64} {x9 : Int32} (h : ((x1 ≤ x9 → jEv nX8_determinant (72, [(0, .ref 67), (1, .int x1), (2, .int x2), (3, .long x3), (5, .int x5), (7, .long x7), (9, .int 0)], [], M) K) ∧ (¬ x1 ≤ x9 → (¬ x1 = 0 ∧ (¬ (x9 < 0 ∨ 5 ≤ x9.toNatClampNeg) ∧ (∀ M1 : jM, M1 = jsi M 89 x9.toNatClampNeg (x6 - x6 / x1 * x1) → (¬ x1 = 0 ∧ jEv nX8_determinant (40, [(0, .ref 67), (1, .int x1), (2, .int x2), (3, .long x3), (5, .int x5), (6, .int (x6 / x1)), (7, .long x7), (9, .int (x9 + 1))], [], M1) K))))))) : jEv nX8_determinant (40, [(0, .ref 67), (1, .int x1), (2, .int x2), (3, .long x3), (5, .int x5), (6, .int x6), (7, .long x7), (9, .int x9)], [], M) K := by
  have hE : jMT nX8_determinant = some me_X8_determinant := rfl
  refine e_seg (k := 2) (d := (43, [(0, .ref 67), (1, .int x1), (2, .int x2), (3, .long x3), (5, .int x5), (6, .int x6), (7, .long x7), (9, .int x9)], [.int x1, .int x9], M)) rfl ?_
  refine e_ic_ge (t := 69) (q := 46) hE rfl rfl rfl rfl (fun hbr => ?_) (fun hbr => ?_)
  · replace h := h.1 hbr
    refine e_seg (k := 2) (d := (72, [(0, .ref 67), (1, .int x1), (2, .int x2), (3, .long x3), (5, .int x5), (6, .int x6), (7, .long x7), (9, .int 0)], [], M)) rfl ?_
    refine e_cut (ks := [0, 1, 2, 3, 5, 7, 9]) (L' := [(0, .ref 67), (1, .int x1), (2, .int x2), (3, .long x3), (5, .int x5), (7, .long x7), (9, .int 0)]) hE rfl rfl rfl rfl rfl ?_
    exact h
  · replace h := h.2 hbr
    refine e_seg (k := 5) (d := (55, [(0, .ref 67), (1, .int x1), (2, .int x2), (3, .long x3), (5, .int x5), (6, .int x6), (7, .long x7), (9, .int x9)], [.int x1, .int x6, .int x9, .ref 89], M)) rfl ?_
    refine e_irem (q := 56) hE rfl rfl rfl h.1 ?_
    replace h := h.2
    refine e_iast (q := 57) hE rfl rfl rfl rfl h.1 ?_
    replace h := h.2
    obtain ⟨M1, hM1⟩ : ∃ z : jM, z = jsi M 89 x9.toNatClampNeg (x6 - x6 / x1 * x1) := ⟨_, rfl⟩
    refine jEv_M hM1 ?_
    replace h := h M1 hM1
    refine e_seg (k := 2) (d := (60, [(0, .ref 67), (1, .int x1), (2, .int x2), (3, .long x3), (5, .int x5), (6, .int x6), (7, .long x7), (9, .int x9)], [.int x1, .int x6], M1)) rfl ?_
    refine e_idiv (q := 61) hE rfl rfl rfl h.1 ?_
    replace h := h.2
    refine e_seg (k := 3) (d := (40, [(0, .ref 67), (1, .int x1), (2, .int x2), (3, .long x3), (5, .int x5), (6, .int (x6 / x1)), (7, .long x7), (9, .int (x9 + 1))], [], M1)) rfl ?_
    refine e_cut (ks := [0, 1, 2, 3, 5, 6, 7, 9]) (L' := [(0, .ref 67), (1, .int x1), (2, .int x2), (3, .long x3), (5, .int x5), (6, .int (x6 / x1)), (7, .long x7), (9, .int (x9 + 1))]) hE rfl rfl rfl rfl rfl ?_
    exact h
set_option maxRecDepth 100000 in
set_option maxHeartbeats 4000000 in
theorem v_X8_determinant_72 {K : jK} {M : jM} {x1 : Int32} {x2 : Int32} {x3 : Int64} {x5 : Int32} {x7 : Int64} {x9 : Int32} (h : ((x1 ≤ x9 → jEv nX8_determinant (151, [(0, .ref 67), (1, .int x1), (2, .int x2), (3, .long x3), (5, .int x5), (7, .long x7), (9, .int 0)], [], M) K) ∧ (¬ x1 ≤ x9 → jEv nX8_determinant (81, [(0, .ref 67), (1, .int x1), (2, .int x2), (3, .long x3), (5, .int x5), (7, .long x7), (9, .int x9), (10, .int 0)], [], M) K))) : jEv nX8_determinant (72, [(0, .ref 67), (1, .int x1), (2, .int x2), (3, .long x3), (5, .int x5), (7, .long x7), (9, .int x9)], [], M) K := by
  have hE : jMT nX8_determinant = some me_X8_determinant := rfl
  refine e_seg (k := 2) (d := (75, [(0, .ref 67), (1, .int x1), (2, .int x2), (3, .long x3), (5, .int x5), (7, .long x7), (9, .int x9)], [.int x1, .int x9], M)) rfl ?_
  refine e_ic_ge (t := 148) (q := 78) hE rfl rfl rfl rfl (fun hbr => ?_) (fun hbr => ?_)
  · replace h := h.1 hbr
    refine e_seg (k := 2) (d := (151, [(0, .ref 67), (1, .int x1), (2, .int x2), (3, .long x3), (5, .int x5), (7, .long x7), (9, .int 0)], [], M)) rfl ?_
    refine e_cut (ks := [0, 1, 2, 3, 5, 7, 9]) (L' := [(0, .ref 67), (1, .int x1), (2, .int x2), (3, .long x3), (5, .int x5), (7, .long x7), (9, .int 0)]) hE rfl rfl rfl rfl rfl ?_
    exact h
  · replace h := h.2 hbr
    refine e_seg (k := 2) (d := (81, [(0, .ref 67), (1, .int x1), (2, .int x2), (3, .long x3), (5, .int x5), (7, .long x7), (9, .int x9), (10, .int 0)], [], M)) rfl ?_
    refine e_cut (ks := [0, 1, 2, 3, 5, 7, 9, 10]) (L' := [(0, .ref 67), (1, .int x1), (2, .int x2), (3, .long x3), (5, .int x5), (7, .long x7), (9, .int x9), (10, .int 0)]) hE rfl rfl rfl rfl rfl ?_
    exact h
set_option maxRecDepth 100000 in
set_option maxHeartbeats 4000000 in
theorem v_X8_determinant_151 {K : jK} {M : jM} {x1 : Int32} {x2 : Int32} {x3 : Int64} {x5 : Int32} {x7 : Int64} {x9 : Int32} (h : ((x1 ≤ x9 → jEv nX8_determinant (24, [(0, .ref 67), (1, .int x1), (2, .int x2), (3, .long (x3 + x7)), (5, .int (x5 + 1))], [], M) K) ∧ (¬ x1 ≤ x9 → ((x7 = 0 → jEv nX8_determinant (24, [(0, .ref 67), (1, .int x1), (2, .int x2), (3, .long (x3 + x7)), (5, .int (x5 + 1))], [], M) K) ∧ (¬ (x7 = 0) → (¬ (x9 < 0 ∨ 5 ≤ x9.toNatClampNeg) ∧ (¬ ((5 * x9) + (M.1 89 x9.toNatClampNeg) < 0 ∨ 25 ≤ ((5 * x9) + (M.1 89 x9.toNatClampNeg)).toNatClampNeg) ∧ jEv nX8_determinant (151, [(0, .ref 67), (1, .int x1), (2, .int x2), (3, .long x3), (5, .int x5), (7, .long (x7 * (M.2 88 ((5 * x9) + (M.1 89 x9.toNatClampNeg)).toNatClampNeg))), (9, .int (x9 + 1))], [], M) K))))))) : jEv nX8_determinant (151, [(0, .ref 67), (1, .int x1), (2, .int x2), (3, .long x3), (5, .int x5), (7, .long x7), (9, .int x9)], [], M) K := by
  have hE : jMT nX8_determinant = some me_X8_determinant := rfl
  refine e_seg (k := 2) (d := (154, [(0, .ref 67), (1, .int x1), (2, .int x2), (3, .long x3), (5, .int x5), (7, .long x7), (9, .int x9)], [.int x1, .int x9], M)) rfl ?_
  refine e_ic_ge (t := 192) (q := 157) hE rfl rfl rfl rfl (fun hbr => ?_) (fun hbr => ?_)
  · replace h := h.1 hbr
    refine e_seg (k := 6) (d := (24, [(0, .ref 67), (1, .int x1), (2, .int x2), (3, .long (x3 + x7)), (5, .int (x5 + 1)), (7, .long x7), (9, .int x9)], [], M)) rfl ?_
    refine e_cut (ks := [0, 1, 2, 3, 5]) (L' := [(0, .ref 67), (1, .int x1), (2, .int x2), (3, .long (x3 + x7)), (5, .int (x5 + 1))]) hE rfl rfl rfl rfl rfl ?_
    exact h
  · replace h := h.2 hbr
    refine e_seg (k := 2) (d := (160, [(0, .ref 67), (1, .int x1), (2, .int x2), (3, .long x3), (5, .int x5), (7, .long x7), (9, .int x9)], [.long 0, .long x7], M)) rfl ?_
    refine e_lc (t := 192) (q := 164) (pc1 := 161) hE rfl rfl rfl rfl rfl rfl (lc_eq x7 0) rfl rfl (fun hbr => ?_) (fun hbr => ?_)
    · replace h := h.1 hbr
      refine e_seg (k := 6) (d := (24, [(0, .ref 67), (1, .int x1), (2, .int x2), (3, .long (x3 + x7)), (5, .int (x5 + 1)), (7, .long x7), (9, .int x9)], [], M)) rfl ?_
      refine e_cut (ks := [0, 1, 2, 3, 5]) (L' := [(0, .ref 67), (1, .int x1), (2, .int x2), (3, .long (x3 + x7)), (5, .int (x5 + 1))]) hE rfl rfl rfl rfl rfl ?_
      exact h
    · replace h := h.2 hbr
      refine e_seg (k := 9) (d := (180, [(0, .ref 67), (1, .int x1), (2, .int x2), (3, .long x3), (5, .int x5), (7, .long x7), (9, .int x9)], [.int x9, .ref 89, .int (5 * x9), .ref 88, .long x7], M)) rfl ?_
      refine e_iald (q := 181) hE rfl rfl rfl rfl h.1 ?_
      replace h := h.2
      refine e_seg (k := 1) (d := (182, [(0, .ref 67), (1, .int x1), (2, .int x2), (3, .long x3), (5, .int x5), (7, .long x7), (9, .int x9)], [.int ((5 * x9) + (M.1 89 x9.toNatClampNeg)), .ref 88, .long x7], M)) rfl ?_
      refine e_lald (q := 183) hE rfl rfl rfl rfl h.1 ?_
      replace h := h.2
      refine e_seg (k := 4) (d := (151, [(0, .ref 67), (1, .int x1), (2, .int x2), (3, .long x3), (5, .int x5), (7, .long (x7 * (M.2 88 ((5 * x9) + (M.1 89 x9.toNatClampNeg)).toNatClampNeg))), (9, .int (x9 + 1))], [], M)) rfl ?_
      refine e_cut (ks := [0, 1, 2, 3, 5, 7, 9]) (L' := [(0, .ref 67), (1, .int x1), (2, .int x2), (3, .long x3), (5, .int x5), (7, .long (x7 * (M.2 88 ((5 * x9) + (M.1 89 x9.toNatClampNeg)).toNatClampNeg))), (9, .int (x9 + 1))]) hE rfl rfl rfl rfl rfl ?_
      exact h
set_option maxRecDepth 100000 in
set_option maxHeartbeats 4000000 in
theorem v_X8_determinant_81 {K : jK} {M : jM} {x1 : Int32} {x2 : Int32} {x3 : Int64} {x5 : Int32} {x7 : Int64} {x9 : Int32} {x10 : Int32} (h : ((x9 ≤ x10 → jEv nX8_determinant (72, [(0, .ref 67), (1, .int x1), (2, .int x2), (3, .long x3), (5, .int x5), (7, .long x7), (9, .int (x9 + 1))], [], M) K) ∧ (¬ x9 ≤ x10 → (¬ (x10 < 0 ∨ 5 ≤ x10.toNatClampNeg) ∧ (¬ (x9 < 0 ∨ 5 ≤ x9.toNatClampNeg) ∧ (((M.1 89 x10.toNatClampNeg) = (M.1 89 x9.toNatClampNeg) → jEv nX8_determinant (81, [(0, .ref 67), (1, .int x1), (2, .int x2), (3, .long x3), (5, .int x5), (7, .long 0), (9, .int x9), (10, .int (x10 + 1))], [], M) K) ∧ (¬ (M.1 89 x10.toNatClampNeg) = (M.1 89 x9.toNatClampNeg) → (¬ (x10 < 0 ∨ 5 ≤ x10.toNatClampNeg) ∧ (¬ (x9 < 0 ∨ 5 ≤ x9.toNatClampNeg) ∧ (((M.1 89 x10.toNatClampNeg) ≤ (M.1 89 x9.toNatClampNeg) → jEv nX8_determinant (81, [(0, .ref 67), (1, .int x1), (2, .int x2), (3, .long x3), (5, .int x5), (7, .long x7), (9, .int x9), (10, .int (x10 + 1))], [], M) K) ∧ (¬ (M.1 89 x10.toNatClampNeg) ≤ (M.1 89 x9.toNatClampNeg) → jEv nX8_determinant (81, [(0, .ref 67), (1, .int x1), (2, .int x2), (3, .long x3), (5, .int x5), (7, .long (-x7)), (9, .int x9), (10, .int (x10 + 1))], [], M) K))))))))))) : jEv nX8_determinant (81, [(0, .ref 67), (1, .int x1), (2, .int x2), (3, .long x3), (5, .int x5), (7, .long x7), (9, .int x9), (10, .int x10)], [], M) K := by
  have hE : jMT nX8_determinant = some me_X8_determinant := rfl
  refine e_seg (k := 2) (d := (85, [(0, .ref 67), (1, .int x1), (2, .int x2), (3, .long x3), (5, .int x5), (7, .long x7), (9, .int x9), (10, .int x10)], [.int x9, .int x10], M)) rfl ?_
  refine e_ic_ge (t := 142) (q := 88) hE rfl rfl rfl rfl (fun hbr => ?_) (fun hbr => ?_)
  · replace h := h.1 hbr
    refine e_seg (k := 2) (d := (72, [(0, .ref 67), (1, .int x1), (2, .int x2), (3, .long x3), (5, .int x5), (7, .long x7), (9, .int (x9 + 1)), (10, .int x10)], [], M)) rfl ?_
    refine e_cut (ks := [0, 1, 2, 3, 5, 7, 9]) (L' := [(0, .ref 67), (1, .int x1), (2, .int x2), (3, .long x3), (5, .int x5), (7, .long x7), (9, .int (x9 + 1))]) hE rfl rfl rfl rfl rfl ?_
    exact h
  · replace h := h.2 hbr
    refine e_seg (k := 3) (d := (94, [(0, .ref 67), (1, .int x1), (2, .int x2), (3, .long x3), (5, .int x5), (7, .long x7), (9, .int x9), (10, .int x10)], [.int x10, .ref 89], M)) rfl ?_
    refine e_iald (q := 95) hE rfl rfl rfl rfl h.1 ?_
    replace h := h.2
    refine e_seg (k := 3) (d := (101, [(0, .ref 67), (1, .int x1), (2, .int x2), (3, .long x3), (5, .int x5), (7, .long x7), (9, .int x9), (10, .int x10)], [.int x9, .ref 89, .int (M.1 89 x10.toNatClampNeg)], M)) rfl ?_
    refine e_iald (q := 102) hE rfl rfl rfl rfl h.1 ?_
    replace h := h.2
    refine e_ic_ne (t := 109) (q := 105) hE rfl rfl rfl rfl (fun hbr => ?_) (fun hbr => ?_)
    · replace h := h.2 hbr
      refine e_seg (k := 3) (d := (115, [(0, .ref 67), (1, .int x1), (2, .int x2), (3, .long x3), (5, .int x5), (7, .long x7), (9, .int x9), (10, .int x10)], [.int x10, .ref 89], M)) rfl ?_
      refine e_iald (q := 116) hE rfl rfl rfl rfl h.1 ?_
      replace h := h.2
      refine e_seg (k := 3) (d := (122, [(0, .ref 67), (1, .int x1), (2, .int x2), (3, .long x3), (5, .int x5), (7, .long x7), (9, .int x9), (10, .int x10)], [.int x9, .ref 89, .int (M.1 89 x10.toNatClampNeg)], M)) rfl ?_
      refine e_iald (q := 123) hE rfl rfl rfl rfl h.1 ?_
      replace h := h.2
      refine e_ic_le (t := 132) (q := 126) hE rfl rfl rfl rfl (fun hbr => ?_) (fun hbr => ?_)
      · replace h := h.1 hbr
        refine e_seg (k := 4) (d := (81, [(0, .ref 67), (1, .int x1), (2, .int x2), (3, .long x3), (5, .int x5), (7, .long x7), (9, .int x9), (10, .int (x10 + 1))], [], M)) rfl ?_
        refine e_cut (ks := [0, 1, 2, 3, 5, 7, 9, 10]) (L' := [(0, .ref 67), (1, .int x1), (2, .int x2), (3, .long x3), (5, .int x5), (7, .long x7), (9, .int x9), (10, .int (x10 + 1))]) hE rfl rfl rfl rfl rfl ?_
        exact h
      · replace h := h.2 hbr
        refine e_seg (k := 6) (d := (81, [(0, .ref 67), (1, .int x1), (2, .int x2), (3, .long x3), (5, .int x5), (7, .long (-x7)), (9, .int x9), (10, .int (x10 + 1))], [], M)) rfl ?_
        refine e_cut (ks := [0, 1, 2, 3, 5, 7, 9, 10]) (L' := [(0, .ref 67), (1, .int x1), (2, .int x2), (3, .long x3), (5, .int x5), (7, .long (-x7)), (9, .int x9), (10, .int (x10 + 1))]) hE rfl rfl rfl rfl rfl ?_
        exact h
    · replace h := h.1 hbr
      refine e_seg (k := 5) (d := (81, [(0, .ref 67), (1, .int x1), (2, .int x2), (3, .long x3), (5, .int x5), (7, .long 0), (9, .int x9), (10, .int (x10 + 1))], [], M)) rfl ?_
      refine e_cut (ks := [0, 1, 2, 3, 5, 7, 9, 10]) (L' := [(0, .ref 67), (1, .int x1), (2, .int x2), (3, .long x3), (5, .int x5), (7, .long 0), (9, .int x9), (10, .int (x10 + 1))]) hE rfl rfl rfl rfl rfl ?_
      exact h
set_option maxRecDepth 100000 in
set_option maxHeartbeats 4000000 in
theorem v_X8_end_0 {K : jK} {M : jM} {x1 : Int32} (h : (∀ M1 : jM, M1 = jsi M 67 0 0 → ((x1 < 0 → K (some (some (.int 0))) M1) ∧ (¬ x1 < 0 → ((x1 ≤ (M1.1 67 2) → (∀ M2 : jM, M2 = jsi M1 67 2 x1 → K (some (some (.int 1))) M2)) ∧ (¬ x1 ≤ (M1.1 67 2) → K (some (some (.int 0))) M1)))))) : jEv nX8_end (0, [(0, .ref 67), (1, .int x1)], [], M) K := by
  have hE : jMT nX8_end = some me_X8_end := rfl
  refine e_seg (k := 2) (d := (2, [(0, .ref 67), (1, .int x1)], [.int 0, .ref 67], M)) rfl ?_
  refine e_put (q := 5) hE rfl rfl rfl rfl rfl rfl rfl ?_
  obtain ⟨M1, hM1⟩ : ∃ z : jM, z = jsi M 67 0 0 := ⟨_, rfl⟩
  refine jEv_M hM1 ?_
  replace h := h M1 hM1
  refine e_seg (k := 1) (d := (6, [(0, .ref 67), (1, .int x1)], [.int x1], M1)) rfl ?_
  refine e_if_lt (t := 17) (q := 9) hE rfl rfl rfl rfl (fun hbr => ?_) (fun hbr => ?_)
  · replace h := h.1 hbr
    refine e_seg (k := 1) (d := (18, [(0, .ref 67), (1, .int x1)], [.int 0], M1)) rfl ?_
    exact e_ret hE rfl rfl (jb_z rfl (by decide)) h
  · replace h := h.2 hbr
    refine e_seg (k := 3) (d := (14, [(0, .ref 67), (1, .int x1)], [.int (M1.1 67 2), .int x1], M1)) rfl ?_
    refine e_ic_le (t := 19) (q := 17) hE rfl rfl rfl rfl (fun hbr => ?_) (fun hbr => ?_)
    · replace h := h.1 hbr
      refine e_seg (k := 2) (d := (21, [(0, .ref 67), (1, .int x1)], [.int x1, .ref 67], M1)) rfl ?_
      refine e_put (q := 24) hE rfl rfl rfl rfl rfl rfl rfl ?_
      obtain ⟨M2, hM2⟩ : ∃ z : jM, z = jsi M1 67 2 x1 := ⟨_, rfl⟩
      refine jEv_M hM2 ?_
      replace h := h M2 hM2
      refine e_seg (k := 1) (d := (25, [(0, .ref 67), (1, .int x1)], [.int 1], M2)) rfl ?_
      exact e_ret hE rfl rfl (jb_z rfl (by decide)) h
    · replace h := h.2 hbr
      refine e_seg (k := 1) (d := (18, [(0, .ref 67), (1, .int x1)], [.int 0], M1)) rfl ?_
      exact e_ret hE rfl rfl (jb_z rfl (by decide)) h
set_option maxRecDepth 100000 in
set_option maxHeartbeats 4000000 in
theorem v_X8_four_0 {K : jK} {M : jM} {x1 : Int32} (h : jEv nX8_four (3, [(0, .ref 67), (1, .int x1), (2, .int 24)], [], M) K) : jEv nX8_four (0, [(0, .ref 67), (1, .int x1)], [], M) K := by
  have hE : jMT nX8_four = some me_X8_four := rfl
  refine e_seg (k := 2) (d := (3, [(0, .ref 67), (1, .int x1), (2, .int 24)], [], M)) rfl ?_
  refine e_cut (ks := [0, 1, 2]) (L' := [(0, .ref 67), (1, .int x1), (2, .int 24)]) hE rfl rfl rfl rfl rfl ?_
  exact h
set_option maxRecDepth 100000 in
set_option maxHeartbeats 4000000 in
theorem v_X8_four_3 {K : jK} {M : jM} {x1 : Int32} {x2 : Int32} (h : ((x2 < 0 → K (some none) M) ∧ (¬ x2 < 0 → (¬ (M.1 67 2 < 0 ∨ 100 ≤ (M.1 67 2).toNatClampNeg) ∧ (∀ M1 : jM, M1 = jsi M 68 ((M.1 67 2).toNatClampNeg) (((x1 >>> (x2 &&& 31)).toInt8.toInt32).toInt8.toInt32) → (∀ M2 : jM, M2 = jsi M1 67 2 ((M1.1 67 2) + 1) → jEv nX8_four (3, [(0, .ref 67), (1, .int x1), (2, .int (x2 + (-8)))], [], M2) K)))))) : jEv nX8_four (3, [(0, .ref 67), (1, .int x1), (2, .int x2)], [], M) K := by
  have hE : jMT nX8_four = some me_X8_four := rfl
  refine e_seg (k := 1) (d := (4, [(0, .ref 67), (1, .int x1), (2, .int x2)], [.int x2], M)) rfl ?_
  refine e_if_lt (t := 36) (q := 7) hE rfl rfl rfl rfl (fun hbr => ?_) (fun hbr => ?_)
  · replace h := h.1 hbr
    exact e_ret hE rfl rfl rfl h
  · replace h := h.2 hbr
    refine e_seg (k := 8) (d := (19, [(0, .ref 67), (1, .int x1), (2, .int x2)], [.int ((x1 >>> (x2 &&& 31)).toInt8.toInt32), .int (M.1 67 2), .ref 68], M)) rfl ?_
    refine e_bast (q := 20) hE rfl rfl rfl rfl h.1 ?_
    replace h := h.2
    obtain ⟨M1, hM1⟩ : ∃ z : jM, z = jsi M 68 ((M.1 67 2).toNatClampNeg) (((x1 >>> (x2 &&& 31)).toInt8.toInt32).toInt8.toInt32) := ⟨_, rfl⟩
    refine jEv_M hM1 ?_
    replace h := h M1 hM1
    refine e_seg (k := 5) (d := (27, [(0, .ref 67), (1, .int x1), (2, .int x2)], [.int ((M1.1 67 2) + 1), .ref 67], M1)) rfl ?_
    refine e_put (q := 30) hE rfl rfl rfl rfl rfl rfl rfl ?_
    obtain ⟨M2, hM2⟩ : ∃ z : jM, z = jsi M1 67 2 ((M1.1 67 2) + 1) := ⟨_, rfl⟩
    refine jEv_M hM2 ?_
    replace h := h M2 hM2
    refine e_seg (k := 2) (d := (3, [(0, .ref 67), (1, .int x1), (2, .int (x2 + (-8)))], [], M2)) rfl ?_
    refine e_cut (ks := [0, 1, 2]) (L' := [(0, .ref 67), (1, .int x1), (2, .int (x2 + (-8)))]) hE rfl rfl rfl rfl rfl ?_
    exact h
set_option maxRecDepth 100000 in
set_option maxHeartbeats 4000000 in
theorem v_X8_gaps_0 {K : jK} {M : jM} (h : jEv nX8_gaps (4, [(0, .ref 67), (1, .int 0), (2, .int 0)], [], M) K) : jEv nX8_gaps (0, [(0, .ref 67)], [], M) K := by
  have hE : jMT nX8_gaps = some me_X8_gaps := rfl
  refine e_seg (k := 4) (d := (4, [(0, .ref 67), (1, .int 0), (2, .int 0)], [], M)) rfl ?_
  refine e_cut (ks := [0, 1, 2]) (L' := [(0, .ref 67), (1, .int 0), (2, .int 0)]) hE rfl rfl rfl rfl rfl ?_
  exact h
set_option maxRecDepth 100000 in
set_option maxHeartbeats 4000000 in
theorem v_X8_gaps_4 {K : jK} {M : jM} {x1 : Int32} {x2 : Int32} (h : (((M.1 67 27) ≤ x2 → K (some (some (.int x1))) M) ∧ (¬ (M.1 67 27) ≤ x2 → (¬ (x2 < 0 ∨ 60 ≤ x2.toNatClampNeg) ∧ (((M.1 90 x2.toNatClampNeg) = 100 → jEv nX8_gaps (4, [(0, .ref 67), (1, .int (x1 + 1)), (2, .int (x2 + 1))], [], M) K) ∧ (¬ (M.1 90 x2.toNatClampNeg) = 100 → jEv nX8_gaps (4, [(0, .ref 67), (1, .int (x1 + 0)), (2, .int (x2 + 1))], [], M) K)))))) : jEv nX8_gaps (4, [(0, .ref 67), (1, .int x1), (2, .int x2)], [], M) K := by
  have hE : jMT nX8_gaps = some me_X8_gaps := rfl
  refine e_seg (k := 3) (d := (9, [(0, .ref 67), (1, .int x1), (2, .int x2)], [.int (M.1 67 27), .int x2], M)) rfl ?_
  refine e_ic_ge (t := 37) (q := 12) hE rfl rfl rfl rfl (fun hbr => ?_) (fun hbr => ?_)
  · replace h := h.1 hbr
    refine e_seg (k := 1) (d := (38, [(0, .ref 67), (1, .int x1), (2, .int x2)], [.int x1], M)) rfl ?_
    exact e_ret hE rfl rfl (jb_i rfl) h
  · replace h := h.2 hbr
    refine e_seg (k := 4) (d := (18, [(0, .ref 67), (1, .int x1), (2, .int x2)], [.int x2, .ref 90, .int x1], M)) rfl ?_
    refine e_iald (q := 19) hE rfl rfl rfl rfl h.1 ?_
    replace h := h.2
    refine e_seg (k := 1) (d := (21, [(0, .ref 67), (1, .int x1), (2, .int x2)], [.int 100, .int (M.1 90 x2.toNatClampNeg), .int x1], M)) rfl ?_
    refine e_ic_ne (t := 28) (q := 24) hE rfl rfl rfl rfl (fun hbr => ?_) (fun hbr => ?_)
    · replace h := h.2 hbr
      refine e_seg (k := 5) (d := (4, [(0, .ref 67), (1, .int (x1 + 0)), (2, .int (x2 + 1))], [], M)) rfl ?_
      refine e_cut (ks := [0, 1, 2]) (L' := [(0, .ref 67), (1, .int (x1 + 0)), (2, .int (x2 + 1))]) hE rfl rfl rfl rfl rfl ?_
      exact h
    · replace h := h.1 hbr
      refine e_seg (k := 6) (d := (4, [(0, .ref 67), (1, .int (x1 + 1)), (2, .int (x2 + 1))], [], M)) rfl ?_
      refine e_cut (ks := [0, 1, 2]) (L' := [(0, .ref 67), (1, .int (x1 + 1)), (2, .int (x2 + 1))]) hE rfl rfl rfl rfl rfl ?_
      exact h
set_option maxRecDepth 100000 in
set_option maxHeartbeats 4000000 in
theorem v_X8_has_0 {K : jK} {M : jM} {x1 : Int32} (h : ((x1 < 0 → K (some (some (.int 0))) M) ∧ (¬ x1 < 0 → ((6 ≤ x1 → K (some (some (.int 0))) M) ∧ (¬ 6 ≤ x1 → (¬ (x1 < 0 ∨ 6 ≤ x1.toNatClampNeg) ∧ (((M.1 86 x1.toNatClampNeg) ≤ 0 → K (some (some (.int 0))) M) ∧ (¬ (M.1 86 x1.toNatClampNeg) ≤ 0 → K (some (some (.int 1))) M)))))))) : jEv nX8_has (0, [(0, .ref 67), (1, .int x1)], [], M) K := by
  have hE : jMT nX8_has = some me_X8_has := rfl
  refine e_seg (k := 1) (d := (1, [(0, .ref 67), (1, .int x1)], [.int x1], M)) rfl ?_
  refine e_if_lt (t := 23) (q := 4) hE rfl rfl rfl rfl (fun hbr => ?_) (fun hbr => ?_)
  · replace h := h.1 hbr
    refine e_seg (k := 1) (d := (24, [(0, .ref 67), (1, .int x1)], [.int 0], M)) rfl ?_
    exact e_ret hE rfl rfl (jb_z rfl (by decide)) h
  · replace h := h.2 hbr
    refine e_seg (k := 2) (d := (7, [(0, .ref 67), (1, .int x1)], [.int 6, .int x1], M)) rfl ?_
    refine e_ic_ge (t := 23) (q := 10) hE rfl rfl rfl rfl (fun hbr => ?_) (fun hbr => ?_)
    · replace h := h.1 hbr
      refine e_seg (k := 1) (d := (24, [(0, .ref 67), (1, .int x1)], [.int 0], M)) rfl ?_
      exact e_ret hE rfl rfl (jb_z rfl (by decide)) h
    · replace h := h.2 hbr
      refine e_seg (k := 3) (d := (15, [(0, .ref 67), (1, .int x1)], [.int x1, .ref 86], M)) rfl ?_
      refine e_iald (q := 16) hE rfl rfl rfl rfl h.1 ?_
      replace h := h.2
      refine e_if_le (t := 23) (q := 19) hE rfl rfl rfl rfl (fun hbr => ?_) (fun hbr => ?_)
      · replace h := h.1 hbr
        refine e_seg (k := 1) (d := (24, [(0, .ref 67), (1, .int x1)], [.int 0], M)) rfl ?_
        exact e_ret hE rfl rfl (jb_z rfl (by decide)) h
      · replace h := h.2 hbr
        refine e_seg (k := 2) (d := (24, [(0, .ref 67), (1, .int x1)], [.int 1], M)) rfl ?_
        exact e_ret hE rfl rfl (jb_z rfl (by decide)) h
set_option maxRecDepth 100000 in
set_option maxHeartbeats 4000000 in
theorem v_X8_hasRule_0 {K : jK} {M : jM} {x1 : Int32} (h : ((x1 < 0 → K (some (some (.int 0))) M) ∧ (¬ x1 < 0 → ((6 ≤ x1 → K (some (some (.int 0))) M) ∧ (¬ 6 ≤ x1 → (¬ (x1 < 0 ∨ 6 ≤ x1.toNatClampNeg) ∧ (((M.1 69 x1.toNatClampNeg) = 0 → K (some (some (.int 0))) M) ∧ (¬ (M.1 69 x1.toNatClampNeg) = 0 → K (some (some (.int 1))) M)))))))) : jEv nX8_hasRule (0, [(0, .ref 67), (1, .int x1)], [], M) K := by
  have hE : jMT nX8_hasRule = some me_X8_hasRule := rfl
  refine e_seg (k := 1) (d := (1, [(0, .ref 67), (1, .int x1)], [.int x1], M)) rfl ?_
  refine e_if_lt (t := 23) (q := 4) hE rfl rfl rfl rfl (fun hbr => ?_) (fun hbr => ?_)
  · replace h := h.1 hbr
    refine e_seg (k := 1) (d := (24, [(0, .ref 67), (1, .int x1)], [.int 0], M)) rfl ?_
    exact e_ret hE rfl rfl (jb_z rfl (by decide)) h
  · replace h := h.2 hbr
    refine e_seg (k := 2) (d := (7, [(0, .ref 67), (1, .int x1)], [.int 6, .int x1], M)) rfl ?_
    refine e_ic_ge (t := 23) (q := 10) hE rfl rfl rfl rfl (fun hbr => ?_) (fun hbr => ?_)
    · replace h := h.1 hbr
      refine e_seg (k := 1) (d := (24, [(0, .ref 67), (1, .int x1)], [.int 0], M)) rfl ?_
      exact e_ret hE rfl rfl (jb_z rfl (by decide)) h
    · replace h := h.2 hbr
      refine e_seg (k := 3) (d := (15, [(0, .ref 67), (1, .int x1)], [.int x1, .ref 69], M)) rfl ?_
      refine e_zald (q := 16) hE rfl rfl rfl rfl h.1 ?_
      replace h := h.2
      refine e_if_eq (t := 23) (q := 19) hE rfl rfl rfl rfl (fun hbr => ?_) (fun hbr => ?_)
      · replace h := h.1 hbr
        refine e_seg (k := 1) (d := (24, [(0, .ref 67), (1, .int x1)], [.int 0], M)) rfl ?_
        exact e_ret hE rfl rfl (jb_z rfl (by decide)) h
      · replace h := h.2 hbr
        refine e_seg (k := 2) (d := (24, [(0, .ref 67), (1, .int x1)], [.int 1], M)) rfl ?_
        exact e_ret hE rfl rfl (jb_z rfl (by decide)) h
set_option maxRecDepth 100000 in
set_option maxHeartbeats 4000000 in
theorem v_X8_isWhole_0 {K : jK} {M : jM} {x1 : Int32} {x2 : Int32} (h : (¬ (x1 < 0 ∨ 6 ≤ x1.toNatClampNeg) ∧ ((x2 < (M.1 71 x1.toNatClampNeg) → jEv nX8_isWhole (19, [(0, .ref 67), (1, .int x1), (2, .int x2), (3, .int 0), (4, .int 0)], [], M) K) ∧ (¬ x2 < (M.1 71 x1.toNatClampNeg) → jEv nX8_isWhole (19, [(0, .ref 67), (1, .int x1), (2, .int x2), (3, .int 1), (4, .int 0)], [], M) K)))) : jEv nX8_isWhole (0, [(0, .ref 67), (1, .int x1), (2, .int x2)], [], M) K := by
  have hE : jMT nX8_isWhole = some me_X8_isWhole := rfl
  refine e_seg (k := 4) (d := (6, [(0, .ref 67), (1, .int x1), (2, .int x2)], [.int x1, .ref 71, .int x2], M)) rfl ?_
  refine e_iald (q := 7) hE rfl rfl rfl rfl h.1 ?_
  replace h := h.2
  refine e_ic_lt (t := 14) (q := 10) hE rfl rfl rfl rfl (fun hbr => ?_) (fun hbr => ?_)
  · replace h := h.1 hbr
    refine e_seg (k := 4) (d := (19, [(0, .ref 67), (1, .int x1), (2, .int x2), (3, .int 0), (4, .int 0)], [], M)) rfl ?_
    refine e_cut (ks := [0, 1, 2, 3, 4]) (L' := [(0, .ref 67), (1, .int x1), (2, .int x2), (3, .int 0), (4, .int 0)]) hE rfl rfl rfl rfl rfl ?_
    exact h
  · replace h := h.2 hbr
    refine e_seg (k := 5) (d := (19, [(0, .ref 67), (1, .int x1), (2, .int x2), (3, .int 1), (4, .int 0)], [], M)) rfl ?_
    refine e_cut (ks := [0, 1, 2, 3, 4]) (L' := [(0, .ref 67), (1, .int x1), (2, .int x2), (3, .int 1), (4, .int 0)]) hE rfl rfl rfl rfl rfl ?_
    exact h
set_option maxRecDepth 100000 in
set_option maxHeartbeats 4000000 in
theorem v_X8_isWhole_19 {K : jK} {M : jM} {x1 : Int32} {x2 : Int32} {x3 : Int32} {x4 : Int32} (h : (¬ (x1 < 0 ∨ 6 ≤ x1.toNatClampNeg) ∧ (((M.1 71 x1.toNatClampNeg) < x4 → ((x3 = 0 ∨ x3 = 1) ∧ K (some (some (.int x3))) M)) ∧ (¬ (M.1 71 x1.toNatClampNeg) < x4 → ((x3 = 0 → ((x3 = 0 ∨ x3 = 1) ∧ K (some (some (.int x3))) M)) ∧ (¬ x3 = 0 → (¬ (x2 - x4 < 0 ∨ 60 ≤ (x2 - x4).toNatClampNeg) ∧ (((M.1 90 (x2 - x4).toNatClampNeg) = 100 → jEv nX8_isWhole (19, [(0, .ref 67), (1, .int x1), (2, .int x2), (3, .int 0), (4, .int (x4 + 1))], [], M) K) ∧ (¬ (M.1 90 (x2 - x4).toNatClampNeg) = 100 → jEv nX8_isWhole (19, [(0, .ref 67), (1, .int x1), (2, .int x2), (3, .int 1), (4, .int (x4 + 1))], [], M) K))))))))) : jEv nX8_isWhole (19, [(0, .ref 67), (1, .int x1), (2, .int x2), (3, .int x3), (4, .int x4)], [], M) K := by
  have hE : jMT nX8_isWhole = some me_X8_isWhole := rfl
  refine e_seg (k := 4) (d := (26, [(0, .ref 67), (1, .int x1), (2, .int x2), (3, .int x3), (4, .int x4)], [.int x1, .ref 71, .int x4], M)) rfl ?_
  refine e_iald (q := 27) hE rfl rfl rfl rfl h.1 ?_
  replace h := h.2
  refine e_ic_gt (t := 60) (q := 30) hE rfl rfl rfl rfl (fun hbr => ?_) (fun hbr => ?_)
  · replace h := h.1 hbr
    refine e_seg (k := 1) (d := (61, [(0, .ref 67), (1, .int x1), (2, .int x2), (3, .int x3), (4, .int x4)], [.int x3], M)) rfl ?_
    exact e_ret hE rfl rfl (jb_z rfl h.1) h.2
  · replace h := h.2 hbr
    refine e_seg (k := 1) (d := (31, [(0, .ref 67), (1, .int x1), (2, .int x2), (3, .int x3), (4, .int x4)], [.int x3], M)) rfl ?_
    refine e_if_eq (t := 60) (q := 34) hE rfl rfl rfl rfl (fun hbr => ?_) (fun hbr => ?_)
    · replace h := h.1 hbr
      refine e_seg (k := 1) (d := (61, [(0, .ref 67), (1, .int x1), (2, .int x2), (3, .int x3), (4, .int x4)], [.int x3], M)) rfl ?_
      exact e_ret hE rfl rfl (jb_z rfl h.1) h.2
    · replace h := h.2 hbr
      refine e_seg (k := 5) (d := (42, [(0, .ref 67), (1, .int x1), (2, .int x2), (3, .int x3), (4, .int x4)], [.int (x2 - x4), .ref 90], M)) rfl ?_
      refine e_iald (q := 43) hE rfl rfl rfl rfl h.1 ?_
      replace h := h.2
      refine e_seg (k := 1) (d := (45, [(0, .ref 67), (1, .int x1), (2, .int x2), (3, .int x3), (4, .int x4)], [.int 100, .int (M.1 90 (x2 - x4).toNatClampNeg)], M)) rfl ?_
      refine e_ic_eq (t := 52) (q := 48) hE rfl rfl rfl rfl (fun hbr => ?_) (fun hbr => ?_)
      · replace h := h.1 hbr
        refine e_seg (k := 4) (d := (19, [(0, .ref 67), (1, .int x1), (2, .int x2), (3, .int 0), (4, .int (x4 + 1))], [], M)) rfl ?_
        refine e_cut (ks := [0, 1, 2, 3, 4]) (L' := [(0, .ref 67), (1, .int x1), (2, .int x2), (3, .int 0), (4, .int (x4 + 1))]) hE rfl rfl rfl rfl rfl ?_
        exact h
      · replace h := h.2 hbr
        refine e_seg (k := 5) (d := (19, [(0, .ref 67), (1, .int x1), (2, .int x2), (3, .int 1), (4, .int (x4 + 1))], [], M)) rfl ?_
        refine e_cut (ks := [0, 1, 2, 3, 4]) (L' := [(0, .ref 67), (1, .int x1), (2, .int x2), (3, .int 1), (4, .int (x4 + 1))]) hE rfl rfl rfl rfl rfl ?_
        exact h
set_option maxRecDepth 100000 in
set_option maxHeartbeats 4000000 in
theorem v_X8_part_0 {K : jK} {M : jM} {x1 : Int32} {x2 : Int32} {x3 : Int32} (h : (((x2 - x3) = 0 → (¬ (x1 < 0 ∨ 6 ≤ x1.toNatClampNeg) ∧ K (some (some (.long ((M.1 70 x1.toNatClampNeg).toInt64)))) M)) ∧ (¬ (x2 - x3) = 0 → (((x2 - x3) ≤ 0 → K (some (some (.long 0))) M) ∧ (¬ (x2 - x3) ≤ 0 → (¬ (x1 < 0 ∨ 6 ≤ x1.toNatClampNeg) ∧ (((M.1 71 x1.toNatClampNeg) < (x2 - x3) → K (some (some (.long 0))) M) ∧ (¬ (M.1 71 x1.toNatClampNeg) < (x2 - x3) → (¬ ((4 * x1) + (x2 - x3) < 0 ∨ 24 ≤ ((4 * x1) + (x2 - x3)).toNatClampNeg) ∧ K (some (some (.long ((-(M.1 74 ((4 * x1) + (x2 - x3)).toNatClampNeg)).toInt64)))) M))))))))) : jEv nX8_part (0, [(0, .ref 67), (1, .int x1), (2, .int x2), (3, .int x3)], [], M) K := by
  have hE : jMT nX8_part = some me_X8_part := rfl
  refine e_seg (k := 5) (d := (7, [(0, .ref 67), (1, .int x1), (2, .int x2), (3, .int x3), (4, .int (x2 - x3))], [.int (x2 - x3)], M)) rfl ?_
  refine e_if_ne (t := 20) (q := 10) hE rfl rfl rfl rfl (fun hbr => ?_) (fun hbr => ?_)
  · replace h := h.2 hbr
    refine e_seg (k := 1) (d := (22, [(0, .ref 67), (1, .int x1), (2, .int x2), (3, .int x3), (4, .int (x2 - x3))], [.int (x2 - x3)], M)) rfl ?_
    refine e_if_le (t := 52) (q := 25) hE rfl rfl rfl rfl (fun hbr => ?_) (fun hbr => ?_)
    · replace h := h.1 hbr
      refine e_seg (k := 1) (d := (53, [(0, .ref 67), (1, .int x1), (2, .int x2), (3, .int x3), (4, .int (x2 - x3))], [.long 0], M)) rfl ?_
      exact e_ret hE rfl rfl (jb_l rfl) h
    · replace h := h.2 hbr
      refine e_seg (k := 4) (d := (32, [(0, .ref 67), (1, .int x1), (2, .int x2), (3, .int x3), (4, .int (x2 - x3))], [.int x1, .ref 71, .int (x2 - x3)], M)) rfl ?_
      refine e_iald (q := 33) hE rfl rfl rfl rfl h.1 ?_
      replace h := h.2
      refine e_ic_gt (t := 52) (q := 36) hE rfl rfl rfl rfl (fun hbr => ?_) (fun hbr => ?_)
      · replace h := h.1 hbr
        refine e_seg (k := 1) (d := (53, [(0, .ref 67), (1, .int x1), (2, .int x2), (3, .int x3), (4, .int (x2 - x3))], [.long 0], M)) rfl ?_
        exact e_ret hE rfl rfl (jb_l rfl) h
      · replace h := h.2 hbr
        refine e_seg (k := 7) (d := (46, [(0, .ref 67), (1, .int x1), (2, .int x2), (3, .int x3), (4, .int (x2 - x3))], [.int ((4 * x1) + (x2 - x3)), .ref 74], M)) rfl ?_
        refine e_iald (q := 47) hE rfl rfl rfl rfl h.1 ?_
        replace h := h.2
        refine e_seg (k := 3) (d := (53, [(0, .ref 67), (1, .int x1), (2, .int x2), (3, .int x3), (4, .int (x2 - x3))], [.long ((-(M.1 74 ((4 * x1) + (x2 - x3)).toNatClampNeg)).toInt64)], M)) rfl ?_
        exact e_ret hE rfl rfl (jb_l rfl) h
  · replace h := h.1 hbr
    refine e_seg (k := 3) (d := (15, [(0, .ref 67), (1, .int x1), (2, .int x2), (3, .int x3), (4, .int (x2 - x3))], [.int x1, .ref 70], M)) rfl ?_
    refine e_iald (q := 16) hE rfl rfl rfl rfl h.1 ?_
    replace h := h.2
    refine e_seg (k := 2) (d := (53, [(0, .ref 67), (1, .int x1), (2, .int x2), (3, .int x3), (4, .int (x2 - x3))], [.long ((M.1 70 x1.toNatClampNeg).toInt64)], M)) rfl ?_
    exact e_ret hE rfl rfl (jb_l rfl) h
set_option maxRecDepth 100000 in
set_option maxHeartbeats 4000000 in
theorem v_X8_put_0 {K : jK} {M : jM} {x1 : Int32} {x2 : Int32} (h : (∀ M1 : jM, M1 = jsi M 67 0 0 → ((x1 < 0 → K (some (some (.int 0))) M1) ∧ (¬ x1 < 0 → ((60 ≤ x1 → K (some (some (.int 0))) M1) ∧ (¬ 60 ≤ x1 → (((M1.1 67 27) < x1 → K (some (some (.int 0))) M1) ∧ (¬ (M1.1 67 27) < x1 → ((x2 = 100 → (¬ (x1 < 0 ∨ 60 ≤ x1.toNatClampNeg) ∧ (∀ M2 : jM, M2 = jsi M1 90 x1.toNatClampNeg x2 → ((x1 = (M2.1 67 27) → (∀ M4 : jM, M4 = jsi M2 67 27 ((M2.1 67 27) + 1) → (∀ M5 : jM, M5 = jsi M4 67 30 0 → K (some (some (.int 1))) M5))) ∧ (¬ x1 = (M2.1 67 27) → (∀ M3 : jM, M3 = jsi M2 67 30 0 → K (some (some (.int 1))) M3)))))) ∧ (¬ x2 = 100 → ((x2 < (-20) → K (some (some (.int 0))) M1) ∧ (¬ x2 < (-20) → ((x2 ≤ 20 → (¬ (x1 < 0 ∨ 60 ≤ x1.toNatClampNeg) ∧ (∀ M6 : jM, M6 = jsi M1 90 x1.toNatClampNeg x2 → ((x1 = (M6.1 67 27) → (∀ M8 : jM, M8 = jsi M6 67 27 ((M6.1 67 27) + 1) → (∀ M9 : jM, M9 = jsi M8 67 30 0 → K (some (some (.int 1))) M9))) ∧ (¬ x1 = (M6.1 67 27) → (∀ M7 : jM, M7 = jsi M6 67 30 0 → K (some (some (.int 1))) M7)))))) ∧ (¬ x2 ≤ 20 → K (some (some (.int 0))) M1)))))))))))))) : jEv nX8_put (0, [(0, .ref 67), (1, .int x1), (2, .int x2)], [], M) K := by
  have hE : jMT nX8_put = some me_X8_put := rfl
  refine e_seg (k := 2) (d := (2, [(0, .ref 67), (1, .int x1), (2, .int x2)], [.int 0, .ref 67], M)) rfl ?_
  refine e_put (q := 5) hE rfl rfl rfl rfl rfl rfl rfl ?_
  obtain ⟨M1, hM1⟩ : ∃ z : jM, z = jsi M 67 0 0 := ⟨_, rfl⟩
  refine jEv_M hM1 ?_
  replace h := h M1 hM1
  refine e_seg (k := 1) (d := (6, [(0, .ref 67), (1, .int x1), (2, .int x2)], [.int x1], M1)) rfl ?_
  refine e_if_lt (t := 41) (q := 9) hE rfl rfl rfl rfl (fun hbr => ?_) (fun hbr => ?_)
  · replace h := h.1 hbr
    refine e_seg (k := 1) (d := (42, [(0, .ref 67), (1, .int x1), (2, .int x2)], [.int 0], M1)) rfl ?_
    exact e_ret hE rfl rfl (jb_z rfl (by decide)) h
  · replace h := h.2 hbr
    refine e_seg (k := 2) (d := (12, [(0, .ref 67), (1, .int x1), (2, .int x2)], [.int 60, .int x1], M1)) rfl ?_
    refine e_ic_ge (t := 41) (q := 15) hE rfl rfl rfl rfl (fun hbr => ?_) (fun hbr => ?_)
    · replace h := h.1 hbr
      refine e_seg (k := 1) (d := (42, [(0, .ref 67), (1, .int x1), (2, .int x2)], [.int 0], M1)) rfl ?_
      exact e_ret hE rfl rfl (jb_z rfl (by decide)) h
    · replace h := h.2 hbr
      refine e_seg (k := 3) (d := (20, [(0, .ref 67), (1, .int x1), (2, .int x2)], [.int (M1.1 67 27), .int x1], M1)) rfl ?_
      refine e_ic_gt (t := 41) (q := 23) hE rfl rfl rfl rfl (fun hbr => ?_) (fun hbr => ?_)
      · replace h := h.1 hbr
        refine e_seg (k := 1) (d := (42, [(0, .ref 67), (1, .int x1), (2, .int x2)], [.int 0], M1)) rfl ?_
        exact e_ret hE rfl rfl (jb_z rfl (by decide)) h
      · replace h := h.2 hbr
        refine e_seg (k := 2) (d := (26, [(0, .ref 67), (1, .int x1), (2, .int x2)], [.int 100, .int x2], M1)) rfl ?_
        refine e_ic_eq (t := 43) (q := 29) hE rfl rfl rfl rfl (fun hbr => ?_) (fun hbr => ?_)
        · replace h := h.1 hbr
          refine e_seg (k := 4) (d := (49, [(0, .ref 67), (1, .int x1), (2, .int x2)], [.int x2, .int x1, .ref 90], M1)) rfl ?_
          refine e_iast (q := 50) hE rfl rfl rfl rfl h.1 ?_
          replace h := h.2
          obtain ⟨M2, hM2⟩ : ∃ z : jM, z = jsi M1 90 x1.toNatClampNeg x2 := ⟨_, rfl⟩
          refine jEv_M hM2 ?_
          replace h := h M2 hM2
          refine e_seg (k := 3) (d := (55, [(0, .ref 67), (1, .int x1), (2, .int x2)], [.int (M2.1 67 27), .int x1], M2)) rfl ?_
          refine e_ic_ne (t := 68) (q := 58) hE rfl rfl rfl rfl (fun hbr => ?_) (fun hbr => ?_)
          · replace h := h.2 hbr
            refine e_seg (k := 2) (d := (70, [(0, .ref 67), (1, .int x1), (2, .int x2)], [.int 0, .ref 67], M2)) rfl ?_
            refine e_put (q := 73) hE rfl rfl rfl rfl rfl rfl rfl ?_
            obtain ⟨M3, hM3⟩ : ∃ z : jM, z = jsi M2 67 30 0 := ⟨_, rfl⟩
            refine jEv_M hM3 ?_
            replace h := h M3 hM3
            refine e_seg (k := 1) (d := (74, [(0, .ref 67), (1, .int x1), (2, .int x2)], [.int 1], M3)) rfl ?_
            exact e_ret hE rfl rfl (jb_z rfl (by decide)) h
          · replace h := h.1 hbr
            refine e_seg (k := 5) (d := (65, [(0, .ref 67), (1, .int x1), (2, .int x2)], [.int ((M2.1 67 27) + 1), .ref 67], M2)) rfl ?_
            refine e_put (q := 68) hE rfl rfl rfl rfl rfl rfl rfl ?_
            obtain ⟨M4, hM4⟩ : ∃ z : jM, z = jsi M2 67 27 ((M2.1 67 27) + 1) := ⟨_, rfl⟩
            refine jEv_M hM4 ?_
            replace h := h M4 hM4
            refine e_seg (k := 2) (d := (70, [(0, .ref 67), (1, .int x1), (2, .int x2)], [.int 0, .ref 67], M4)) rfl ?_
            refine e_put (q := 73) hE rfl rfl rfl rfl rfl rfl rfl ?_
            obtain ⟨M5, hM5⟩ : ∃ z : jM, z = jsi M4 67 30 0 := ⟨_, rfl⟩
            refine jEv_M hM5 ?_
            replace h := h M5 hM5
            refine e_seg (k := 1) (d := (74, [(0, .ref 67), (1, .int x1), (2, .int x2)], [.int 1], M5)) rfl ?_
            exact e_ret hE rfl rfl (jb_z rfl (by decide)) h
        · replace h := h.2 hbr
          refine e_seg (k := 2) (d := (32, [(0, .ref 67), (1, .int x1), (2, .int x2)], [.int (-20), .int x2], M1)) rfl ?_
          refine e_ic_lt (t := 41) (q := 35) hE rfl rfl rfl rfl (fun hbr => ?_) (fun hbr => ?_)
          · replace h := h.1 hbr
            refine e_seg (k := 1) (d := (42, [(0, .ref 67), (1, .int x1), (2, .int x2)], [.int 0], M1)) rfl ?_
            exact e_ret hE rfl rfl (jb_z rfl (by decide)) h
          · replace h := h.2 hbr
            refine e_seg (k := 2) (d := (38, [(0, .ref 67), (1, .int x1), (2, .int x2)], [.int 20, .int x2], M1)) rfl ?_
            refine e_ic_le (t := 43) (q := 41) hE rfl rfl rfl rfl (fun hbr => ?_) (fun hbr => ?_)
            · replace h := h.1 hbr
              refine e_seg (k := 4) (d := (49, [(0, .ref 67), (1, .int x1), (2, .int x2)], [.int x2, .int x1, .ref 90], M1)) rfl ?_
              refine e_iast (q := 50) hE rfl rfl rfl rfl h.1 ?_
              replace h := h.2
              obtain ⟨M6, hM6⟩ : ∃ z : jM, z = jsi M1 90 x1.toNatClampNeg x2 := ⟨_, rfl⟩
              refine jEv_M hM6 ?_
              replace h := h M6 hM6
              refine e_seg (k := 3) (d := (55, [(0, .ref 67), (1, .int x1), (2, .int x2)], [.int (M6.1 67 27), .int x1], M6)) rfl ?_
              refine e_ic_ne (t := 68) (q := 58) hE rfl rfl rfl rfl (fun hbr => ?_) (fun hbr => ?_)
              · replace h := h.2 hbr
                refine e_seg (k := 2) (d := (70, [(0, .ref 67), (1, .int x1), (2, .int x2)], [.int 0, .ref 67], M6)) rfl ?_
                refine e_put (q := 73) hE rfl rfl rfl rfl rfl rfl rfl ?_
                obtain ⟨M7, hM7⟩ : ∃ z : jM, z = jsi M6 67 30 0 := ⟨_, rfl⟩
                refine jEv_M hM7 ?_
                replace h := h M7 hM7
                refine e_seg (k := 1) (d := (74, [(0, .ref 67), (1, .int x1), (2, .int x2)], [.int 1], M7)) rfl ?_
                exact e_ret hE rfl rfl (jb_z rfl (by decide)) h
              · replace h := h.1 hbr
                refine e_seg (k := 5) (d := (65, [(0, .ref 67), (1, .int x1), (2, .int x2)], [.int ((M6.1 67 27) + 1), .ref 67], M6)) rfl ?_
                refine e_put (q := 68) hE rfl rfl rfl rfl rfl rfl rfl ?_
                obtain ⟨M8, hM8⟩ : ∃ z : jM, z = jsi M6 67 27 ((M6.1 67 27) + 1) := ⟨_, rfl⟩
                refine jEv_M hM8 ?_
                replace h := h M8 hM8
                refine e_seg (k := 2) (d := (70, [(0, .ref 67), (1, .int x1), (2, .int x2)], [.int 0, .ref 67], M8)) rfl ?_
                refine e_put (q := 73) hE rfl rfl rfl rfl rfl rfl rfl ?_
                obtain ⟨M9, hM9⟩ : ∃ z : jM, z = jsi M8 67 30 0 := ⟨_, rfl⟩
                refine jEv_M hM9 ?_
                replace h := h M9 hM9
                refine e_seg (k := 1) (d := (74, [(0, .ref 67), (1, .int x1), (2, .int x2)], [.int 1], M9)) rfl ?_
                exact e_ret hE rfl rfl (jb_z rfl (by decide)) h
            · replace h := h.2 hbr
              refine e_seg (k := 1) (d := (42, [(0, .ref 67), (1, .int x1), (2, .int x2)], [.int 0], M1)) rfl ?_
              exact e_ret hE rfl rfl (jb_z rfl (by decide)) h
set_option maxRecDepth 100000 in
set_option maxHeartbeats 4000000 in
theorem v_X8_puts_0 {K : jK} {M : jM} {x1 : Int32} {x2 : Int32} (h : ((x1 < 0 → K (some (some (.int 0))) M) ∧ (¬ x1 < 0 → ((6 ≤ x1 → K (some (some (.int 0))) M) ∧ (¬ 6 ≤ x1 → ((x2 < 1 → K (some (some (.int 0))) M) ∧ (¬ x2 < 1 → ((5 < x2 → K (some (some (.int 0))) M) ∧ (¬ 5 < x2 → (((M.1 87 0) < 1 → K (some (some (.int 0))) M) ∧ (¬ (M.1 87 0) < 1 → (((M.1 87 0) ≤ 1000 → jEv nX8_puts (46, [(0, .ref 67), (1, .int x1), (2, .int x2), (3, .int 1)], [], M) K) ∧ (¬ (M.1 87 0) ≤ 1000 → K (some (some (.int 0))) M))))))))))))) : jEv nX8_puts (0, [(0, .ref 67), (1, .int x1), (2, .int x2)], [], M) K := by
  have hE : jMT nX8_puts = some me_X8_puts := rfl
  refine e_seg (k := 1) (d := (1, [(0, .ref 67), (1, .int x1), (2, .int x2)], [.int x1], M)) rfl ?_
  refine e_if_lt (t := 42) (q := 4) hE rfl rfl rfl rfl (fun hbr => ?_) (fun hbr => ?_)
  · replace h := h.1 hbr
    refine e_seg (k := 1) (d := (43, [(0, .ref 67), (1, .int x1), (2, .int x2)], [.int 0], M)) rfl ?_
    exact e_ret hE rfl rfl (jb_z rfl (by decide)) h
  · replace h := h.2 hbr
    refine e_seg (k := 2) (d := (7, [(0, .ref 67), (1, .int x1), (2, .int x2)], [.int 6, .int x1], M)) rfl ?_
    refine e_ic_ge (t := 42) (q := 10) hE rfl rfl rfl rfl (fun hbr => ?_) (fun hbr => ?_)
    · replace h := h.1 hbr
      refine e_seg (k := 1) (d := (43, [(0, .ref 67), (1, .int x1), (2, .int x2)], [.int 0], M)) rfl ?_
      exact e_ret hE rfl rfl (jb_z rfl (by decide)) h
    · replace h := h.2 hbr
      refine e_seg (k := 2) (d := (12, [(0, .ref 67), (1, .int x1), (2, .int x2)], [.int 1, .int x2], M)) rfl ?_
      refine e_ic_lt (t := 42) (q := 15) hE rfl rfl rfl rfl (fun hbr => ?_) (fun hbr => ?_)
      · replace h := h.1 hbr
        refine e_seg (k := 1) (d := (43, [(0, .ref 67), (1, .int x1), (2, .int x2)], [.int 0], M)) rfl ?_
        exact e_ret hE rfl rfl (jb_z rfl (by decide)) h
      · replace h := h.2 hbr
        refine e_seg (k := 2) (d := (17, [(0, .ref 67), (1, .int x1), (2, .int x2)], [.int 5, .int x2], M)) rfl ?_
        refine e_ic_gt (t := 42) (q := 20) hE rfl rfl rfl rfl (fun hbr => ?_) (fun hbr => ?_)
        · replace h := h.1 hbr
          refine e_seg (k := 1) (d := (43, [(0, .ref 67), (1, .int x1), (2, .int x2)], [.int 0], M)) rfl ?_
          exact e_ret hE rfl rfl (jb_z rfl (by decide)) h
        · replace h := h.2 hbr
          refine e_seg (k := 3) (d := (25, [(0, .ref 67), (1, .int x1), (2, .int x2)], [.int 0, .ref 87], M)) rfl ?_
          refine e_iald (q := 26) hE rfl rfl rfl rfl (by decide) ?_
          show jEv nX8_puts (26, [(0, .ref 67), (1, .int x1), (2, .int x2)], [.int (M.1 87 0)], M) K
          refine e_seg (k := 1) (d := (27, [(0, .ref 67), (1, .int x1), (2, .int x2)], [.int 1, .int (M.1 87 0)], M)) rfl ?_
          refine e_ic_lt (t := 42) (q := 30) hE rfl rfl rfl rfl (fun hbr => ?_) (fun hbr => ?_)
          · replace h := h.1 hbr
            refine e_seg (k := 1) (d := (43, [(0, .ref 67), (1, .int x1), (2, .int x2)], [.int 0], M)) rfl ?_
            exact e_ret hE rfl rfl (jb_z rfl (by decide)) h
          · replace h := h.2 hbr
            refine e_seg (k := 3) (d := (35, [(0, .ref 67), (1, .int x1), (2, .int x2)], [.int 0, .ref 87], M)) rfl ?_
            refine e_iald (q := 36) hE rfl rfl rfl rfl (by decide) ?_
            show jEv nX8_puts (36, [(0, .ref 67), (1, .int x1), (2, .int x2)], [.int (M.1 87 0)], M) K
            refine e_seg (k := 1) (d := (39, [(0, .ref 67), (1, .int x1), (2, .int x2)], [.int 1000, .int (M.1 87 0)], M)) rfl ?_
            refine e_ic_le (t := 44) (q := 42) hE rfl rfl rfl rfl (fun hbr => ?_) (fun hbr => ?_)
            · replace h := h.1 hbr
              refine e_seg (k := 2) (d := (46, [(0, .ref 67), (1, .int x1), (2, .int x2), (3, .int 1)], [], M)) rfl ?_
              refine e_cut (ks := [0, 1, 2, 3]) (L' := [(0, .ref 67), (1, .int x1), (2, .int x2), (3, .int 1)]) hE rfl rfl rfl rfl rfl ?_
              exact h
            · replace h := h.2 hbr
              refine e_seg (k := 1) (d := (43, [(0, .ref 67), (1, .int x1), (2, .int x2)], [.int 0], M)) rfl ?_
              exact e_ret hE rfl rfl (jb_z rfl (by decide)) h
set_option maxRecDepth 100000 in
set_option maxHeartbeats 4000000 in
theorem v_X8_puts_46 {K : jK} {M : jM} {x1 : Int32} {x2 : Int32} {x3 : Int32} (h : ((x2 ≤ x3 → (¬ (x1 < 0 ∨ 6 ≤ x1.toNatClampNeg) ∧ (∀ M1 : jM, M1 = jsi M 86 x1.toNatClampNeg x2 → jEv nX8_puts (99, [(0, .ref 67), (1, .int x1), (2, .int x2), (3, .int 0)], [], M1) K))) ∧ (¬ x2 ≤ x3 → (¬ (x3 < 0 ∨ 5 ≤ x3.toNatClampNeg) ∧ (((M.1 87 0) < (M.1 87 x3.toNatClampNeg) → K (some (some (.int 0))) M) ∧ (¬ (M.1 87 0) < (M.1 87 x3.toNatClampNeg) → (¬ (x3 < 0 ∨ 5 ≤ x3.toNatClampNeg) ∧ (((-(M.1 87 0)) ≤ (M.1 87 x3.toNatClampNeg) → jEv nX8_puts (46, [(0, .ref 67), (1, .int x1), (2, .int x2), (3, .int (x3 + 1))], [], M) K) ∧ (¬ (-(M.1 87 0)) ≤ (M.1 87 x3.toNatClampNeg) → K (some (some (.int 0))) M))))))))) : jEv nX8_puts (46, [(0, .ref 67), (1, .int x1), (2, .int x2), (3, .int x3)], [], M) K := by
  have hE : jMT nX8_puts = some me_X8_puts := rfl
  refine e_seg (k := 2) (d := (48, [(0, .ref 67), (1, .int x1), (2, .int x2), (3, .int x3)], [.int x2, .int x3], M)) rfl ?_
  refine e_ic_ge (t := 90) (q := 51) hE rfl rfl rfl rfl (fun hbr => ?_) (fun hbr => ?_)
  · replace h := h.1 hbr
    refine e_seg (k := 4) (d := (96, [(0, .ref 67), (1, .int x1), (2, .int x2), (3, .int x3)], [.int x2, .int x1, .ref 86], M)) rfl ?_
    refine e_iast (q := 97) hE rfl rfl rfl rfl h.1 ?_
    replace h := h.2
    obtain ⟨M1, hM1⟩ : ∃ z : jM, z = jsi M 86 x1.toNatClampNeg x2 := ⟨_, rfl⟩
    refine jEv_M hM1 ?_
    replace h := h M1 hM1
    refine e_seg (k := 2) (d := (99, [(0, .ref 67), (1, .int x1), (2, .int x2), (3, .int 0)], [], M1)) rfl ?_
    refine e_cut (ks := [0, 1, 2, 3]) (L' := [(0, .ref 67), (1, .int x1), (2, .int x2), (3, .int 0)]) hE rfl rfl rfl rfl rfl ?_
    exact h
  · replace h := h.2 hbr
    refine e_seg (k := 3) (d := (56, [(0, .ref 67), (1, .int x1), (2, .int x2), (3, .int x3)], [.int x3, .ref 87], M)) rfl ?_
    refine e_iald (q := 57) hE rfl rfl rfl rfl h.1 ?_
    replace h := h.2
    refine e_seg (k := 3) (d := (62, [(0, .ref 67), (1, .int x1), (2, .int x2), (3, .int x3)], [.int 0, .ref 87, .int (M.1 87 x3.toNatClampNeg)], M)) rfl ?_
    refine e_iald (q := 63) hE rfl rfl rfl rfl (by decide) ?_
    show jEv nX8_puts (63, [(0, .ref 67), (1, .int x1), (2, .int x2), (3, .int x3)], [.int (M.1 87 0), .int (M.1 87 x3.toNatClampNeg)], M) K
    refine e_ic_gt (t := 82) (q := 66) hE rfl rfl rfl rfl (fun hbr => ?_) (fun hbr => ?_)
    · replace h := h.1 hbr
      refine e_seg (k := 1) (d := (83, [(0, .ref 67), (1, .int x1), (2, .int x2), (3, .int x3)], [.int 0], M)) rfl ?_
      exact e_ret hE rfl rfl (jb_z rfl (by decide)) h
    · replace h := h.2 hbr
      refine e_seg (k := 3) (d := (71, [(0, .ref 67), (1, .int x1), (2, .int x2), (3, .int x3)], [.int x3, .ref 87], M)) rfl ?_
      refine e_iald (q := 72) hE rfl rfl rfl rfl h.1 ?_
      replace h := h.2
      refine e_seg (k := 3) (d := (77, [(0, .ref 67), (1, .int x1), (2, .int x2), (3, .int x3)], [.int 0, .ref 87, .int (M.1 87 x3.toNatClampNeg)], M)) rfl ?_
      refine e_iald (q := 78) hE rfl rfl rfl rfl (by decide) ?_
      show jEv nX8_puts (78, [(0, .ref 67), (1, .int x1), (2, .int x2), (3, .int x3)], [.int (M.1 87 0), .int (M.1 87 x3.toNatClampNeg)], M) K
      refine e_seg (k := 1) (d := (79, [(0, .ref 67), (1, .int x1), (2, .int x2), (3, .int x3)], [.int (-(M.1 87 0)), .int (M.1 87 x3.toNatClampNeg)], M)) rfl ?_
      refine e_ic_ge (t := 84) (q := 82) hE rfl rfl rfl rfl (fun hbr => ?_) (fun hbr => ?_)
      · replace h := h.1 hbr
        refine e_seg (k := 2) (d := (46, [(0, .ref 67), (1, .int x1), (2, .int x2), (3, .int (x3 + 1))], [], M)) rfl ?_
        refine e_cut (ks := [0, 1, 2, 3]) (L' := [(0, .ref 67), (1, .int x1), (2, .int x2), (3, .int (x3 + 1))]) hE rfl rfl rfl rfl rfl ?_
        exact h
      · replace h := h.2 hbr
        refine e_seg (k := 1) (d := (83, [(0, .ref 67), (1, .int x1), (2, .int x2), (3, .int x3)], [.int 0], M)) rfl ?_
        exact e_ret hE rfl rfl (jb_z rfl (by decide)) h
set_option maxRecDepth 100000 in
set_option maxHeartbeats 4000000 in
theorem v_X8_puts_99 {K : jK} {M : jM} {x1 : Int32} {x2 : Int32} {x3 : Int32} (h : ((x2 ≤ x3 → K (some (some (.int 1))) M) ∧ (¬ x2 ≤ x3 → (¬ (x3 < 0 ∨ 5 ≤ x3.toNatClampNeg) ∧ (¬ ((5 * x1) + x3 < 0 ∨ 30 ≤ ((5 * x1) + x3).toNatClampNeg) ∧ (∀ M1 : jM, M1 = jsi M 85 (((5 * x1) + x3).toNatClampNeg) (M.1 87 x3.toNatClampNeg) → jEv nX8_puts (99, [(0, .ref 67), (1, .int x1), (2, .int x2), (3, .int (x3 + 1))], [], M1) K)))))) : jEv nX8_puts (99, [(0, .ref 67), (1, .int x1), (2, .int x2), (3, .int x3)], [], M) K := by
  have hE : jMT nX8_puts = some me_X8_puts := rfl
  refine e_seg (k := 2) (d := (101, [(0, .ref 67), (1, .int x1), (2, .int x2), (3, .int x3)], [.int x2, .int x3], M)) rfl ?_
  refine e_ic_ge (t := 126) (q := 104) hE rfl rfl rfl rfl (fun hbr => ?_) (fun hbr => ?_)
  · replace h := h.1 hbr
    refine e_seg (k := 1) (d := (127, [(0, .ref 67), (1, .int x1), (2, .int x2), (3, .int x3)], [.int 1], M)) rfl ?_
    exact e_ret hE rfl rfl (jb_z rfl (by decide)) h
  · replace h := h.2 hbr
    refine e_seg (k := 10) (d := (118, [(0, .ref 67), (1, .int x1), (2, .int x2), (3, .int x3)], [.int x3, .ref 87, .int ((5 * x1) + x3), .ref 85], M)) rfl ?_
    refine e_iald (q := 119) hE rfl rfl rfl rfl h.1 ?_
    replace h := h.2
    refine e_iast (q := 120) hE rfl rfl rfl rfl h.1 ?_
    replace h := h.2
    obtain ⟨M1, hM1⟩ : ∃ z : jM, z = jsi M 85 (((5 * x1) + x3).toNatClampNeg) (M.1 87 x3.toNatClampNeg) := ⟨_, rfl⟩
    refine jEv_M hM1 ?_
    replace h := h M1 hM1
    refine e_seg (k := 2) (d := (99, [(0, .ref 67), (1, .int x1), (2, .int x2), (3, .int (x3 + 1))], [], M1)) rfl ?_
    refine e_cut (ks := [0, 1, 2, 3]) (L' := [(0, .ref 67), (1, .int x1), (2, .int x2), (3, .int (x3 + 1))]) hE rfl rfl rfl rfl rfl ?_
    exact h
set_option maxRecDepth 100000 in
set_option maxHeartbeats 4000000 in
theorem v_X8_taken_0 {K : jK} {M : jM} (h : (∀ M1 : jM, M1 = jsi M 67 2 0 → K (some (some (.int (M.1 67 2)))) M1)) : jEv nX8_taken (0, [(0, .ref 67)], [], M) K := by
  have hE : jMT nX8_taken = some me_X8_taken := rfl
  refine e_seg (k := 5) (d := (7, [(0, .ref 67), (1, .int (M.1 67 2))], [.int 0, .ref 67], M)) rfl ?_
  refine e_put (q := 10) hE rfl rfl rfl rfl rfl rfl rfl ?_
  obtain ⟨M1, hM1⟩ : ∃ z : jM, z = jsi M 67 2 0 := ⟨_, rfl⟩
  refine jEv_M hM1 ?_
  replace h := h M1 hM1
  refine e_seg (k := 1) (d := (11, [(0, .ref 67), (1, .int (M.1 67 2))], [.int (M.1 67 2)], M1)) rfl ?_
  exact e_ret hE rfl rfl (jb_i rfl) h
set_option maxRecDepth 100000 in
set_option maxHeartbeats 4000000 in
theorem v_X8_thrown_0 {K : jK} {M : jM} (h : K (some (some (.int (M.1 67 0)))) M) : jEv nX8_thrown (0, [(0, .ref 67)], [], M) K := by
  have hE : jMT nX8_thrown = some me_X8_thrown := rfl
  refine e_seg (k := 2) (d := (4, [(0, .ref 67)], [.int (M.1 67 0)], M)) rfl ?_
  exact e_ret hE rfl rfl (jb_i rfl) h
set_option maxRecDepth 100000 in
set_option maxHeartbeats 4000000 in
theorem v_X8_throwsIf_0 {K : jK} {M : jM} {x1 : Int32} (h : ((x1 = 0 → (∀ M1 : jM, M1 = jsi M 67 0 0 → ((x1 = 0 ∨ x1 = 1) ∧ K (some (some (.int x1))) M1))) ∧ (¬ x1 = 0 → (∀ M2 : jM, M2 = jsi M 67 0 1 → ((x1 = 0 ∨ x1 = 1) ∧ K (some (some (.int x1))) M2))))) : jEv nX8_throwsIf (0, [(0, .ref 67), (1, .int x1)], [], M) K := by
  have hE : jMT nX8_throwsIf = some me_X8_throwsIf := rfl
  refine e_seg (k := 2) (d := (2, [(0, .ref 67), (1, .int x1)], [.int x1, .ref 67], M)) rfl ?_
  refine e_if_eq (t := 9) (q := 5) hE rfl rfl rfl rfl (fun hbr => ?_) (fun hbr => ?_)
  · replace h := h.1 hbr
    refine e_seg (k := 1) (d := (10, [(0, .ref 67), (1, .int x1)], [.int 0, .ref 67], M)) rfl ?_
    refine e_put (q := 13) hE rfl rfl rfl rfl rfl rfl rfl ?_
    obtain ⟨M1, hM1⟩ : ∃ z : jM, z = jsi M 67 0 0 := ⟨_, rfl⟩
    refine jEv_M hM1 ?_
    replace h := h M1 hM1
    refine e_seg (k := 1) (d := (14, [(0, .ref 67), (1, .int x1)], [.int x1], M1)) rfl ?_
    exact e_ret hE rfl rfl (jb_z rfl h.1) h.2
  · replace h := h.2 hbr
    refine e_seg (k := 2) (d := (10, [(0, .ref 67), (1, .int x1)], [.int 1, .ref 67], M)) rfl ?_
    refine e_put (q := 13) hE rfl rfl rfl rfl rfl rfl rfl ?_
    obtain ⟨M2, hM2⟩ : ∃ z : jM, z = jsi M 67 0 1 := ⟨_, rfl⟩
    refine jEv_M hM2 ?_
    replace h := h M2 hM2
    refine e_seg (k := 1) (d := (14, [(0, .ref 67), (1, .int x1)], [.int x1], M2)) rfl ?_
    exact e_ret hE rfl rfl (jb_z rfl h.1) h.2
set_option maxRecDepth 100000 in
set_option maxHeartbeats 4000000 in
theorem v_X8_toeplitz_0 {K : jK} {M : jM} {x1 : Int32} {x2 : Int32} (h : jEv nX8_toeplitz (2, [(0, .ref 67), (1, .int x1), (2, .int x2), (3, .int 0)], [], M) K) : jEv nX8_toeplitz (0, [(0, .ref 67), (1, .int x1), (2, .int x2)], [], M) K := by
  have hE : jMT nX8_toeplitz = some me_X8_toeplitz := rfl
  refine e_seg (k := 2) (d := (2, [(0, .ref 67), (1, .int x1), (2, .int x2), (3, .int 0)], [], M)) rfl ?_
  refine e_cut (ks := [0, 1, 2, 3]) (L' := [(0, .ref 67), (1, .int x1), (2, .int x2), (3, .int 0)]) hE rfl rfl rfl rfl rfl ?_
  exact h
set_option maxRecDepth 100000 in
set_option maxHeartbeats 4000000 in
theorem v_X8_toeplitz_2 {K : jK} {M : jM} {x1 : Int32} {x2 : Int32} {x3 : Int32} (h : ((x2 ≤ x3 → K (some none) M) ∧ (¬ x2 ≤ x3 → jEv nX8_toeplitz (10, [(0, .ref 67), (1, .int x1), (2, .int x2), (3, .int x3), (4, .int 0)], [], M) K))) : jEv nX8_toeplitz (2, [(0, .ref 67), (1, .int x1), (2, .int x2), (3, .int x3)], [], M) K := by
  have hE : jMT nX8_toeplitz = some me_X8_toeplitz := rfl
  refine e_seg (k := 2) (d := (4, [(0, .ref 67), (1, .int x1), (2, .int x2), (3, .int x3)], [.int x2, .int x3], M)) rfl ?_
  refine e_ic_ge (t := 66) (q := 7) hE rfl rfl rfl rfl (fun hbr => ?_) (fun hbr => ?_)
  · replace h := h.1 hbr
    exact e_ret hE rfl rfl rfl h
  · replace h := h.2 hbr
    refine e_seg (k := 2) (d := (10, [(0, .ref 67), (1, .int x1), (2, .int x2), (3, .int x3), (4, .int 0)], [], M)) rfl ?_
    refine e_cut (ks := [0, 1, 2, 3, 4]) (L' := [(0, .ref 67), (1, .int x1), (2, .int x2), (3, .int x3), (4, .int 0)]) hE rfl rfl rfl rfl rfl ?_
    exact h
set_option maxRecDepth 100000 in
set_option maxHeartbeats 4000000 in
theorem v_X8_toeplitz_10 {K : jK} {M : jM} {x1 : Int32} {x2 : Int32} {x3 : Int32} {x4 : Int32} (h : ((x2 ≤ x4 → jEv nX8_toeplitz (2, [(0, .ref 67), (1, .int x1), (2, .int x2), (3, .int (x3 + 1))], [], M) K) ∧ (¬ x2 ≤ x4 → ((x3 ≤ x4 → (¬ ((5 * x1) + (x4 - x3) < 0 ∨ 30 ≤ ((5 * x1) + (x4 - x3)).toNatClampNeg) ∧ (¬ ((5 * x3) + x4 < 0 ∨ 25 ≤ ((5 * x3) + x4).toNatClampNeg) ∧ (∀ M1 : jM, M1 = jsl M 88 (((5 * x3) + x4).toNatClampNeg) ((M.1 85 ((5 * x1) + (x4 - x3)).toNatClampNeg).toInt64) → jEv nX8_toeplitz (10, [(0, .ref 67), (1, .int x1), (2, .int x2), (3, .int x3), (4, .int (x4 + 1))], [], M1) K)))) ∧ (¬ x3 ≤ x4 → (¬ ((5 * x1) + (x3 - x4) < 0 ∨ 30 ≤ ((5 * x1) + (x3 - x4)).toNatClampNeg) ∧ (¬ ((5 * x3) + x4 < 0 ∨ 25 ≤ ((5 * x3) + x4).toNatClampNeg) ∧ (∀ M2 : jM, M2 = jsl M 88 (((5 * x3) + x4).toNatClampNeg) ((M.1 85 ((5 * x1) + (x3 - x4)).toNatClampNeg).toInt64) → jEv nX8_toeplitz (10, [(0, .ref 67), (1, .int x1), (2, .int x2), (3, .int x3), (4, .int (x4 + 1))], [], M2) K)))))))) : jEv nX8_toeplitz (10, [(0, .ref 67), (1, .int x1), (2, .int x2), (3, .int x3), (4, .int x4)], [], M) K := by
  have hE : jMT nX8_toeplitz = some me_X8_toeplitz := rfl
  refine e_seg (k := 2) (d := (13, [(0, .ref 67), (1, .int x1), (2, .int x2), (3, .int x3), (4, .int x4)], [.int x2, .int x4], M)) rfl ?_
  refine e_ic_ge (t := 60) (q := 16) hE rfl rfl rfl rfl (fun hbr => ?_) (fun hbr => ?_)
  · replace h := h.1 hbr
    refine e_seg (k := 2) (d := (2, [(0, .ref 67), (1, .int x1), (2, .int x2), (3, .int (x3 + 1)), (4, .int x4)], [], M)) rfl ?_
    refine e_cut (ks := [0, 1, 2, 3]) (L' := [(0, .ref 67), (1, .int x1), (2, .int x2), (3, .int (x3 + 1))]) hE rfl rfl rfl rfl rfl ?_
    exact h
  · replace h := h.2 hbr
    refine e_seg (k := 14) (d := (36, [(0, .ref 67), (1, .int x1), (2, .int x2), (3, .int x3), (4, .int x4)], [.int x4, .int x3, .int (5 * x1), .ref 85, .int ((5 * x3) + x4), .ref 88], M)) rfl ?_
    refine e_ic_le (t := 46) (q := 39) hE rfl rfl rfl rfl (fun hbr => ?_) (fun hbr => ?_)
    · replace h := h.1 hbr
      refine e_seg (k := 4) (d := (51, [(0, .ref 67), (1, .int x1), (2, .int x2), (3, .int x3), (4, .int x4)], [.int ((5 * x1) + (x4 - x3)), .ref 85, .int ((5 * x3) + x4), .ref 88], M)) rfl ?_
      refine e_iald (q := 52) hE rfl rfl rfl rfl h.1 ?_
      replace h := h.2
      refine e_seg (k := 1) (d := (53, [(0, .ref 67), (1, .int x1), (2, .int x2), (3, .int x3), (4, .int x4)], [.long ((M.1 85 ((5 * x1) + (x4 - x3)).toNatClampNeg).toInt64), .int ((5 * x3) + x4), .ref 88], M)) rfl ?_
      refine e_last (q := 54) hE rfl rfl rfl rfl h.1 ?_
      replace h := h.2
      obtain ⟨M1, hM1⟩ : ∃ z : jM, z = jsl M 88 (((5 * x3) + x4).toNatClampNeg) ((M.1 85 ((5 * x1) + (x4 - x3)).toNatClampNeg).toInt64) := ⟨_, rfl⟩
      refine jEv_M hM1 ?_
      replace h := h M1 hM1
      refine e_seg (k := 2) (d := (10, [(0, .ref 67), (1, .int x1), (2, .int x2), (3, .int x3), (4, .int (x4 + 1))], [], M1)) rfl ?_
      refine e_cut (ks := [0, 1, 2, 3, 4]) (L' := [(0, .ref 67), (1, .int x1), (2, .int x2), (3, .int x3), (4, .int (x4 + 1))]) hE rfl rfl rfl rfl rfl ?_
      exact h
    · replace h := h.2 hbr
      refine e_seg (k := 5) (d := (51, [(0, .ref 67), (1, .int x1), (2, .int x2), (3, .int x3), (4, .int x4)], [.int ((5 * x1) + (x3 - x4)), .ref 85, .int ((5 * x3) + x4), .ref 88], M)) rfl ?_
      refine e_iald (q := 52) hE rfl rfl rfl rfl h.1 ?_
      replace h := h.2
      refine e_seg (k := 1) (d := (53, [(0, .ref 67), (1, .int x1), (2, .int x2), (3, .int x3), (4, .int x4)], [.long ((M.1 85 ((5 * x1) + (x3 - x4)).toNatClampNeg).toInt64), .int ((5 * x3) + x4), .ref 88], M)) rfl ?_
      refine e_last (q := 54) hE rfl rfl rfl rfl h.1 ?_
      replace h := h.2
      obtain ⟨M2, hM2⟩ : ∃ z : jM, z = jsl M 88 (((5 * x3) + x4).toNatClampNeg) ((M.1 85 ((5 * x1) + (x3 - x4)).toNatClampNeg).toInt64) := ⟨_, rfl⟩
      refine jEv_M hM2 ?_
      replace h := h M2 hM2
      refine e_seg (k := 2) (d := (10, [(0, .ref 67), (1, .int x1), (2, .int x2), (3, .int x3), (4, .int (x4 + 1))], [], M2)) rfl ?_
      refine e_cut (ks := [0, 1, 2, 3, 4]) (L' := [(0, .ref 67), (1, .int x1), (2, .int x2), (3, .int x3), (4, .int (x4 + 1))]) hE rfl rfl rfl rfl rfl ?_
      exact h
set_option maxRecDepth 100000 in
set_option maxHeartbeats 4000000 in
theorem v_X8_told_0 {K : jK} {M : jM} {x1 : Int32} (h : ((x1 = 0 → K (some (some (.long (M.2 67 3)))) M) ∧ (¬ x1 = 0 → K (some (some (.long (M.2 67 4)))) M))) : jEv nX8_told (0, [(0, .ref 67), (1, .int x1)], [], M) K := by
  have hE : jMT nX8_told = some me_X8_told := rfl
  refine e_seg (k := 1) (d := (1, [(0, .ref 67), (1, .int x1)], [.int x1], M)) rfl ?_
  refine e_if_ne (t := 11) (q := 4) hE rfl rfl rfl rfl (fun hbr => ?_) (fun hbr => ?_)
  · replace h := h.2 hbr
    refine e_seg (k := 2) (d := (15, [(0, .ref 67), (1, .int x1)], [.long (M.2 67 4)], M)) rfl ?_
    exact e_ret hE rfl rfl (jb_l rfl) h
  · replace h := h.1 hbr
    refine e_seg (k := 3) (d := (15, [(0, .ref 67), (1, .int x1)], [.long (M.2 67 3)], M)) rfl ?_
    exact e_ret hE rfl rfl (jb_l rfl) h
set_option maxRecDepth 100000 in
set_option maxHeartbeats 4000000 in
theorem v_X8_block_0 {K : jK} {M : jM} {x1 : Int32} {x2 : Int32} (h : (jEv nX8_toeplitz (0, [(0, .ref 67), (1, .int x1), (2, .int x2)], [], M) (fun o1 M2 => o1 = some none ∧ (jEv nX8_determinant (0, [(0, .ref 67), (1, .int x2)], [], M2) (fun o3 M4 => ∃ r5 : Int64, o3 = some (some (.long r5)) ∧ K (some (some (.long r5))) M4))))) : jEv nX8_block (0, [(0, .ref 67), (1, .int x1), (2, .int x2)], [], M) K := by
  have hE : jMT nX8_block = some me_X8_block := rfl
  refine e_seg (k := 3) (d := (3, [(0, .ref 67), (1, .int x1), (2, .int x2)], [.int x2, .int x1, .ref 67], M)) rfl ?_
  refine e_call (q := 6) (L0 := [(0, .ref 67), (1, .int x1), (2, .int x2)]) hE rfl rfl rfl rfl (jargs_V rfl rfl rfl rfl rfl (Nat.le_of_ble_eq_true rfl) (Nat.le_of_ble_eq_true rfl) (Nat.le_of_ble_eq_true rfl)) rfl rfl (jEv.mono h (fun o1 M2 h => ?_))
  obtain ⟨rfl, h⟩ := h
  refine ⟨_, rfl, ?_⟩
  show jEv nX8_block (6, [(0, .ref 67), (1, .int x1), (2, .int x2)], [], M2) K
  refine e_seg (k := 2) (d := (8, [(0, .ref 67), (1, .int x1), (2, .int x2)], [.int x2, .ref 67], M2)) rfl ?_
  refine e_call (q := 11) (L0 := [(0, .ref 67), (1, .int x2)]) hE rfl rfl rfl rfl (jargs_V rfl rfl rfl rfl rfl (Nat.le_of_ble_eq_true rfl) (Nat.le_of_ble_eq_true rfl) (Nat.le_of_ble_eq_true rfl)) rfl rfl (jEv.mono h (fun o3 M4 h => ?_))
  obtain ⟨r5, rfl, h⟩ := h
  refine ⟨_, rfl, ?_⟩
  show jEv nX8_block (11, [(0, .ref 67), (1, .int x1), (2, .int x2)], [.long r5], M4) K
  exact e_ret hE rfl rfl (jb_l rfl) h
set_option maxRecDepth 100000 in
set_option maxHeartbeats 4000000 in
theorem v_X8_count_0 {K : jK} {M : jM} {x1 : Int32} (h : (∀ M1 : jM, M1 = jsi M 67 0 0 → ((x1 = 0 → jEv nX8_count (46, [(0, .ref 67), (2, .int 0), (3, .int 0)], [], M1) K) ∧ (x1 = 1 → jEv nX8_count (79, [(0, .ref 67), (2, .int 0), (3, .int 0)], [], M1) K) ∧ (x1 = 2 → K (some (some (.int (M1.1 67 27)))) M1) ∧ (x1 = 3 → (jEv nX8_gaps (0, [(0, .ref 67)], [], M1) (fun o2 M3 => ∃ r4 : Int32, o2 = some (some (.int r4)) ∧ K (some (some (.int r4))) M3))) ∧ (x1 = 4 → K (some (some (.int (M1.1 67 2)))) M1) ∧ ((¬ x1 = 0 ∧ ¬ x1 = 1 ∧ ¬ x1 = 2 ∧ ¬ x1 = 3 ∧ ¬ x1 = 4) → K (some (some (.int (-1)))) M1)))) : jEv nX8_count (0, [(0, .ref 67), (1, .int x1)], [], M) K := by
  have hE : jMT nX8_count = some me_X8_count := rfl
  refine e_seg (k := 2) (d := (2, [(0, .ref 67), (1, .int x1)], [.int 0, .ref 67], M)) rfl ?_
  refine e_put (q := 5) hE rfl rfl rfl rfl rfl rfl rfl ?_
  obtain ⟨M1, hM1⟩ : ∃ z : jM, z = jsi M 67 0 0 := ⟨_, rfl⟩
  refine jEv_M hM1 ?_
  replace h := h M1 hM1
  refine e_seg (k := 3) (d := (8, [(0, .ref 67), (1, .int x1), (2, .int 0)], [.int x1], M1)) rfl ?_
  refine e_tsw5 (td := 125) (t0 := 44) (t1 := 77) (t2 := 110) (t3 := 115) (t4 := 120) hE rfl rfl rfl rfl rfl rfl rfl rfl (fun hbr => ?_) (fun hbr => ?_) (fun hbr => ?_) (fun hbr => ?_) (fun hbr => ?_) (fun hbr => ?_)
  · replace h := h.1 hbr
    refine e_seg (k := 2) (d := (46, [(0, .ref 67), (1, .int x1), (2, .int 0), (3, .int 0)], [], M1)) rfl ?_
    refine e_cut (ks := [0, 2, 3]) (L' := [(0, .ref 67), (2, .int 0), (3, .int 0)]) hE rfl rfl rfl rfl rfl ?_
    exact h
  · replace h := h.2.1 hbr
    refine e_seg (k := 2) (d := (79, [(0, .ref 67), (1, .int x1), (2, .int 0), (3, .int 0)], [], M1)) rfl ?_
    refine e_cut (ks := [0, 2, 3]) (L' := [(0, .ref 67), (2, .int 0), (3, .int 0)]) hE rfl rfl rfl rfl rfl ?_
    exact h
  · replace h := h.2.2.1 hbr
    refine e_seg (k := 2) (d := (114, [(0, .ref 67), (1, .int x1), (2, .int 0)], [.int (M1.1 67 27)], M1)) rfl ?_
    exact e_ret hE rfl rfl (jb_i rfl) h
  · replace h := h.2.2.2.1 hbr
    refine e_seg (k := 1) (d := (116, [(0, .ref 67), (1, .int x1), (2, .int 0)], [.ref 67], M1)) rfl ?_
    refine e_call (q := 119) (L0 := [(0, .ref 67)]) hE rfl rfl rfl rfl (jargs_V rfl rfl rfl rfl rfl (Nat.le_of_ble_eq_true rfl) (Nat.le_of_ble_eq_true rfl) (Nat.le_of_ble_eq_true rfl)) rfl rfl (jEv.mono h (fun o2 M3 h => ?_))
    obtain ⟨r4, rfl, h⟩ := h
    refine ⟨_, rfl, ?_⟩
    show jEv nX8_count (119, [(0, .ref 67), (1, .int x1), (2, .int 0)], [.int r4], M3) K
    exact e_ret hE rfl rfl (jb_i rfl) h
  · replace h := h.2.2.2.2.1 hbr
    refine e_seg (k := 2) (d := (124, [(0, .ref 67), (1, .int x1), (2, .int 0)], [.int (M1.1 67 2)], M1)) rfl ?_
    exact e_ret hE rfl rfl (jb_i rfl) h
  · replace h := h.2.2.2.2.2 hbr
    refine e_seg (k := 1) (d := (126, [(0, .ref 67), (1, .int x1), (2, .int 0)], [.int (-1)], M1)) rfl ?_
    exact e_ret hE rfl rfl (jb_i rfl) h
set_option maxRecDepth 100000 in
set_option maxHeartbeats 4000000 in
theorem v_X8_count_46 {K : jK} {M : jM} {x2 : Int32} {x3 : Int32} (h : ((6 ≤ x3 → K (some (some (.int x2))) M) ∧ (¬ 6 ≤ x3 → (¬ (x3 < 0 ∨ 6 ≤ x3.toNatClampNeg) ∧ (((M.1 69 x3.toNatClampNeg) = 0 → jEv nX8_count (46, [(0, .ref 67), (2, .int (x2 + 0)), (3, .int (x3 + 1))], [], M) K) ∧ (¬ (M.1 69 x3.toNatClampNeg) = 0 → jEv nX8_count (46, [(0, .ref 67), (2, .int (x2 + 1)), (3, .int (x3 + 1))], [], M) K)))))) : jEv nX8_count (46, [(0, .ref 67), (2, .int x2), (3, .int x3)], [], M) K := by
  have hE : jMT nX8_count = some me_X8_count := rfl
  refine e_seg (k := 2) (d := (49, [(0, .ref 67), (2, .int x2), (3, .int x3)], [.int 6, .int x3], M)) rfl ?_
  refine e_ic_ge (t := 75) (q := 52) hE rfl rfl rfl rfl (fun hbr => ?_) (fun hbr => ?_)
  · replace h := h.1 hbr
    refine e_seg (k := 1) (d := (76, [(0, .ref 67), (2, .int x2), (3, .int x3)], [.int x2], M)) rfl ?_
    exact e_ret hE rfl rfl (jb_i rfl) h
  · replace h := h.2 hbr
    refine e_seg (k := 4) (d := (58, [(0, .ref 67), (2, .int x2), (3, .int x3)], [.int x3, .ref 69, .int x2], M)) rfl ?_
    refine e_zald (q := 59) hE rfl rfl rfl rfl h.1 ?_
    replace h := h.2
    refine e_if_eq (t := 66) (q := 62) hE rfl rfl rfl rfl (fun hbr => ?_) (fun hbr => ?_)
    · replace h := h.1 hbr
      refine e_seg (k := 5) (d := (46, [(0, .ref 67), (2, .int (x2 + 0)), (3, .int (x3 + 1))], [], M)) rfl ?_
      refine e_cut (ks := [0, 2, 3]) (L' := [(0, .ref 67), (2, .int (x2 + 0)), (3, .int (x3 + 1))]) hE rfl rfl rfl rfl rfl ?_
      exact h
    · replace h := h.2 hbr
      refine e_seg (k := 6) (d := (46, [(0, .ref 67), (2, .int (x2 + 1)), (3, .int (x3 + 1))], [], M)) rfl ?_
      refine e_cut (ks := [0, 2, 3]) (L' := [(0, .ref 67), (2, .int (x2 + 1)), (3, .int (x3 + 1))]) hE rfl rfl rfl rfl rfl ?_
      exact h
set_option maxRecDepth 100000 in
set_option maxHeartbeats 4000000 in
theorem v_X8_count_79 {K : jK} {M : jM} {x2 : Int32} {x3 : Int32} (h : ((6 ≤ x3 → K (some (some (.int x2))) M) ∧ (¬ 6 ≤ x3 → (¬ (x3 < 0 ∨ 6 ≤ x3.toNatClampNeg) ∧ (((M.1 86 x3.toNatClampNeg) ≤ 0 → jEv nX8_count (79, [(0, .ref 67), (2, .int (x2 + 0)), (3, .int (x3 + 1))], [], M) K) ∧ (¬ (M.1 86 x3.toNatClampNeg) ≤ 0 → jEv nX8_count (79, [(0, .ref 67), (2, .int (x2 + 1)), (3, .int (x3 + 1))], [], M) K)))))) : jEv nX8_count (79, [(0, .ref 67), (2, .int x2), (3, .int x3)], [], M) K := by
  have hE : jMT nX8_count = some me_X8_count := rfl
  refine e_seg (k := 2) (d := (82, [(0, .ref 67), (2, .int x2), (3, .int x3)], [.int 6, .int x3], M)) rfl ?_
  refine e_ic_ge (t := 108) (q := 85) hE rfl rfl rfl rfl (fun hbr => ?_) (fun hbr => ?_)
  · replace h := h.1 hbr
    refine e_seg (k := 1) (d := (109, [(0, .ref 67), (2, .int x2), (3, .int x3)], [.int x2], M)) rfl ?_
    exact e_ret hE rfl rfl (jb_i rfl) h
  · replace h := h.2 hbr
    refine e_seg (k := 4) (d := (91, [(0, .ref 67), (2, .int x2), (3, .int x3)], [.int x3, .ref 86, .int x2], M)) rfl ?_
    refine e_iald (q := 92) hE rfl rfl rfl rfl h.1 ?_
    replace h := h.2
    refine e_if_le (t := 99) (q := 95) hE rfl rfl rfl rfl (fun hbr => ?_) (fun hbr => ?_)
    · replace h := h.1 hbr
      refine e_seg (k := 5) (d := (79, [(0, .ref 67), (2, .int (x2 + 0)), (3, .int (x3 + 1))], [], M)) rfl ?_
      refine e_cut (ks := [0, 2, 3]) (L' := [(0, .ref 67), (2, .int (x2 + 0)), (3, .int (x3 + 1))]) hE rfl rfl rfl rfl rfl ?_
      exact h
    · replace h := h.2 hbr
      refine e_seg (k := 6) (d := (79, [(0, .ref 67), (2, .int (x2 + 1)), (3, .int (x3 + 1))], [], M)) rfl ?_
      refine e_cut (ks := [0, 2, 3]) (L' := [(0, .ref 67), (2, .int (x2 + 1)), (3, .int (x3 + 1))]) hE rfl rfl rfl rfl rfl ?_
      exact h
set_option maxRecDepth 100000 in
set_option maxHeartbeats 4000000 in
theorem v_X8_counted_0 {K : jK} {M : jM} {x1 : Int32} {x2 : Int32} (h : (∀ M1 : jM, M1 = jsi M 67 0 0 → ((x2 < 0 → K (some (some (.int 0))) M1) ∧ (¬ x2 < 0 → ((4 < x2 → K (some (some (.int 0))) M1) ∧ (¬ 4 < x2 → (jEv nX8_gaps (0, [(0, .ref 67)], [], M1) (fun o2 M3 => ∃ r4 : Int32, o2 = some (some (.int r4)) ∧ ((r4 ≤ 0 → jEv nX8_counted (25, [(0, .ref 67), (1, .int x1), (2, .int x2), (3, .int 0)], [], M3) K) ∧ (¬ r4 ≤ 0 → K (some (some (.int 0))) M3)))))))))) : jEv nX8_counted (0, [(0, .ref 67), (1, .int x1), (2, .int x2)], [], M) K := by
  have hE : jMT nX8_counted = some me_X8_counted := rfl
  refine e_seg (k := 2) (d := (2, [(0, .ref 67), (1, .int x1), (2, .int x2)], [.int 0, .ref 67], M)) rfl ?_
  refine e_put (q := 5) hE rfl rfl rfl rfl rfl rfl rfl ?_
  obtain ⟨M1, hM1⟩ : ∃ z : jM, z = jsi M 67 0 0 := ⟨_, rfl⟩
  refine jEv_M hM1 ?_
  replace h := h M1 hM1
  refine e_seg (k := 1) (d := (6, [(0, .ref 67), (1, .int x1), (2, .int x2)], [.int x2], M1)) rfl ?_
  refine e_if_lt (t := 21) (q := 9) hE rfl rfl rfl rfl (fun hbr => ?_) (fun hbr => ?_)
  · replace h := h.1 hbr
    refine e_seg (k := 1) (d := (22, [(0, .ref 67), (1, .int x1), (2, .int x2)], [.int 0], M1)) rfl ?_
    exact e_ret hE rfl rfl (jb_z rfl (by decide)) h
  · replace h := h.2 hbr
    refine e_seg (k := 2) (d := (11, [(0, .ref 67), (1, .int x1), (2, .int x2)], [.int 4, .int x2], M1)) rfl ?_
    refine e_ic_gt (t := 21) (q := 14) hE rfl rfl rfl rfl (fun hbr => ?_) (fun hbr => ?_)
    · replace h := h.1 hbr
      refine e_seg (k := 1) (d := (22, [(0, .ref 67), (1, .int x1), (2, .int x2)], [.int 0], M1)) rfl ?_
      exact e_ret hE rfl rfl (jb_z rfl (by decide)) h
    · replace h := h.2 hbr
      refine e_seg (k := 1) (d := (15, [(0, .ref 67), (1, .int x1), (2, .int x2)], [.ref 67], M1)) rfl ?_
      refine e_call (q := 18) (L0 := [(0, .ref 67)]) hE rfl rfl rfl rfl (jargs_V rfl rfl rfl rfl rfl (Nat.le_of_ble_eq_true rfl) (Nat.le_of_ble_eq_true rfl) (Nat.le_of_ble_eq_true rfl)) rfl rfl (jEv.mono h (fun o2 M3 h => ?_))
      obtain ⟨r4, rfl, h⟩ := h
      refine ⟨_, rfl, ?_⟩
      show jEv nX8_counted (18, [(0, .ref 67), (1, .int x1), (2, .int x2)], [.int r4], M3) K
      refine e_if_le (t := 23) (q := 21) hE rfl rfl rfl rfl (fun hbr => ?_) (fun hbr => ?_)
      · replace h := h.1 hbr
        refine e_seg (k := 2) (d := (25, [(0, .ref 67), (1, .int x1), (2, .int x2), (3, .int 0)], [], M3)) rfl ?_
        refine e_cut (ks := [0, 1, 2, 3]) (L' := [(0, .ref 67), (1, .int x1), (2, .int x2), (3, .int 0)]) hE rfl rfl rfl rfl rfl ?_
        exact h
      · replace h := h.2 hbr
        refine e_seg (k := 1) (d := (22, [(0, .ref 67), (1, .int x1), (2, .int x2)], [.int 0], M3)) rfl ?_
        exact e_ret hE rfl rfl (jb_z rfl (by decide)) h
set_option maxRecDepth 100000 in
set_option maxHeartbeats 4000000 in
theorem v_X8_counted_25 {K : jK} {M : jM} {x1 : Int32} {x2 : Int32} {x3 : Int32} (h : ((x2 < x3 → (jEv nX8_puts (0, [(0, .ref 67), (1, .int x1), (2, .int (x2 + 1))], [], M) (fun o1 M2 => ∃ r3 : Int32, o1 = some (some (.int r3)) ∧ ((r3 = 0 ∨ r3 = 1) ∧ K (some (some (.int r3))) M2)))) ∧ (¬ x2 < x3 → (¬ (x3 < 0 ∨ 5 ≤ x3.toNatClampNeg) ∧ (∀ M4 : jM, M4 = jsi M 87 x3.toNatClampNeg 0 → jEv nX8_counted (40, [(0, .ref 67), (1, .int x1), (2, .int x2), (3, .int x3), (4, .int x3)], [], M4) K))))) : jEv nX8_counted (25, [(0, .ref 67), (1, .int x1), (2, .int x2), (3, .int x3)], [], M) K := by
  have hE : jMT nX8_counted = some me_X8_counted := rfl
  refine e_seg (k := 2) (d := (27, [(0, .ref 67), (1, .int x1), (2, .int x2), (3, .int x3)], [.int x2, .int x3], M)) rfl ?_
  refine e_ic_gt (t := 87) (q := 30) hE rfl rfl rfl rfl (fun hbr => ?_) (fun hbr => ?_)
  · replace h := h.1 hbr
    refine e_seg (k := 5) (d := (92, [(0, .ref 67), (1, .int x1), (2, .int x2), (3, .int x3)], [.int (x2 + 1), .int x1, .ref 67], M)) rfl ?_
    refine e_call (q := 95) (L0 := [(0, .ref 67), (1, .int x1), (2, .int (x2 + 1))]) hE rfl rfl rfl rfl (jargs_V rfl rfl rfl rfl rfl (Nat.le_of_ble_eq_true rfl) (Nat.le_of_ble_eq_true rfl) (Nat.le_of_ble_eq_true rfl)) rfl rfl (jEv.mono h (fun o1 M2 h => ?_))
    obtain ⟨r3, rfl, h⟩ := h
    refine ⟨_, rfl, ?_⟩
    show jEv nX8_counted (95, [(0, .ref 67), (1, .int x1), (2, .int x2), (3, .int x3)], [.int r3], M2) K
    exact e_ret hE rfl rfl (jb_z rfl h.1) h.2
  · replace h := h.2 hbr
    refine e_seg (k := 4) (d := (36, [(0, .ref 67), (1, .int x1), (2, .int x2), (3, .int x3)], [.int 0, .int x3, .ref 87], M)) rfl ?_
    refine e_iast (q := 37) hE rfl rfl rfl rfl h.1 ?_
    replace h := h.2
    obtain ⟨M4, hM4⟩ : ∃ z : jM, z = jsi M 87 x3.toNatClampNeg 0 := ⟨_, rfl⟩
    refine jEv_M hM4 ?_
    replace h := h M4 hM4
    refine e_seg (k := 2) (d := (40, [(0, .ref 67), (1, .int x1), (2, .int x2), (3, .int x3), (4, .int x3)], [], M4)) rfl ?_
    refine e_cut (ks := [0, 1, 2, 3, 4]) (L' := [(0, .ref 67), (1, .int x1), (2, .int x2), (3, .int x3), (4, .int x3)]) hE rfl rfl rfl rfl rfl ?_
    exact h
set_option maxRecDepth 100000 in
set_option maxHeartbeats 4000000 in
theorem v_X8_counted_40 {K : jK} {M : jM} {x1 : Int32} {x2 : Int32} {x3 : Int32} {x4 : Int32} (h : (((M.1 67 27) ≤ x4 → jEv nX8_counted (25, [(0, .ref 67), (1, .int x1), (2, .int x2), (3, .int (x3 + 1))], [], M) K) ∧ (¬ (M.1 67 27) ≤ x4 → (¬ (x3 < 0 ∨ 5 ≤ x3.toNatClampNeg) ∧ (¬ (x4 < 0 ∨ 60 ≤ x4.toNatClampNeg) ∧ (¬ (x4 - x3 < 0 ∨ 60 ≤ (x4 - x3).toNatClampNeg) ∧ (¬ (x3 < 0 ∨ 5 ≤ x3.toNatClampNeg) ∧ (∀ M1 : jM, M1 = jsi M 87 x3.toNatClampNeg ((M.1 87 x3.toNatClampNeg) + ((M.1 90 x4.toNatClampNeg) * (M.1 90 (x4 - x3).toNatClampNeg))) → jEv nX8_counted (40, [(0, .ref 67), (1, .int x1), (2, .int x2), (3, .int x3), (4, .int (x4 + 1))], [], M1) K)))))))) : jEv nX8_counted (40, [(0, .ref 67), (1, .int x1), (2, .int x2), (3, .int x3), (4, .int x4)], [], M) K := by
  have hE : jMT nX8_counted = some me_X8_counted := rfl
  refine e_seg (k := 3) (d := (46, [(0, .ref 67), (1, .int x1), (2, .int x2), (3, .int x3), (4, .int x4)], [.int (M.1 67 27), .int x4], M)) rfl ?_
  refine e_ic_ge (t := 81) (q := 49) hE rfl rfl rfl rfl (fun hbr => ?_) (fun hbr => ?_)
  · replace h := h.1 hbr
    refine e_seg (k := 2) (d := (25, [(0, .ref 67), (1, .int x1), (2, .int x2), (3, .int (x3 + 1)), (4, .int x4)], [], M)) rfl ?_
    refine e_cut (ks := [0, 1, 2, 3]) (L' := [(0, .ref 67), (1, .int x1), (2, .int x2), (3, .int (x3 + 1))]) hE rfl rfl rfl rfl rfl ?_
    exact h
  · replace h := h.2 hbr
    refine e_seg (k := 4) (d := (55, [(0, .ref 67), (1, .int x1), (2, .int x2), (3, .int x3), (4, .int x4)], [.int x3, .ref 87, .int x3, .ref 87], M)) rfl ?_
    refine e_iald (q := 56) hE rfl rfl rfl rfl h.1 ?_
    replace h := h.2
    refine e_seg (k := 3) (d := (62, [(0, .ref 67), (1, .int x1), (2, .int x2), (3, .int x3), (4, .int x4)], [.int x4, .ref 90, .int (M.1 87 x3.toNatClampNeg), .int x3, .ref 87], M)) rfl ?_
    refine e_iald (q := 63) hE rfl rfl rfl rfl h.1 ?_
    replace h := h.2
    refine e_seg (k := 5) (d := (71, [(0, .ref 67), (1, .int x1), (2, .int x2), (3, .int x3), (4, .int x4)], [.int (x4 - x3), .ref 90, .int (M.1 90 x4.toNatClampNeg), .int (M.1 87 x3.toNatClampNeg), .int x3, .ref 87], M)) rfl ?_
    refine e_iald (q := 72) hE rfl rfl rfl rfl h.1 ?_
    replace h := h.2
    refine e_seg (k := 2) (d := (74, [(0, .ref 67), (1, .int x1), (2, .int x2), (3, .int x3), (4, .int x4)], [.int ((M.1 87 x3.toNatClampNeg) + ((M.1 90 x4.toNatClampNeg) * (M.1 90 (x4 - x3).toNatClampNeg))), .int x3, .ref 87], M)) rfl ?_
    refine e_iast (q := 75) hE rfl rfl rfl rfl h.1 ?_
    replace h := h.2
    obtain ⟨M1, hM1⟩ : ∃ z : jM, z = jsi M 87 x3.toNatClampNeg ((M.1 87 x3.toNatClampNeg) + ((M.1 90 x4.toNatClampNeg) * (M.1 90 (x4 - x3).toNatClampNeg))) := ⟨_, rfl⟩
    refine jEv_M hM1 ?_
    replace h := h M1 hM1
    refine e_seg (k := 2) (d := (40, [(0, .ref 67), (1, .int x1), (2, .int x2), (3, .int x3), (4, .int (x4 + 1))], [], M1)) rfl ?_
    refine e_cut (ks := [0, 1, 2, 3, 4]) (L' := [(0, .ref 67), (1, .int x1), (2, .int x2), (3, .int x3), (4, .int (x4 + 1))]) hE rfl rfl rfl rfl rfl ?_
    exact h
set_option maxRecDepth 100000 in
set_option maxHeartbeats 4000000 in
theorem v_X8_cramer_0 {K : jK} {M : jM} {x1 : Int32} {x2 : Int32} (h : jEv nX8_cramer (2, [(0, .ref 67), (1, .int x1), (2, .int x2), (3, .int 0)], [], M) K) : jEv nX8_cramer (0, [(0, .ref 67), (1, .int x1), (2, .int x2)], [], M) K := by
  have hE : jMT nX8_cramer = some me_X8_cramer := rfl
  refine e_seg (k := 2) (d := (2, [(0, .ref 67), (1, .int x1), (2, .int x2), (3, .int 0)], [], M)) rfl ?_
  refine e_cut (ks := [0, 1, 2, 3]) (L' := [(0, .ref 67), (1, .int x1), (2, .int x2), (3, .int 0)]) hE rfl rfl rfl rfl rfl ?_
  exact h
set_option maxRecDepth 100000 in
set_option maxHeartbeats 4000000 in
theorem v_X8_cramer_2 {K : jK} {M : jM} {x1 : Int32} {x2 : Int32} {x3 : Int32} (h : ((x1 ≤ x3 → (jEv nX8_determinant (0, [(0, .ref 67), (1, .int x1)], [], M) (fun o1 M2 => ∃ r3 : Int64, o1 = some (some (.long r3)) ∧ K (some (some (.long r3))) M2))) ∧ (¬ x1 ≤ x3 → jEv nX8_cramer (10, [(0, .ref 67), (1, .int x1), (2, .int x2), (3, .int x3), (4, .int 0)], [], M) K))) : jEv nX8_cramer (2, [(0, .ref 67), (1, .int x1), (2, .int x2), (3, .int x3)], [], M) K := by
  have hE : jMT nX8_cramer = some me_X8_cramer := rfl
  refine e_seg (k := 2) (d := (4, [(0, .ref 67), (1, .int x1), (2, .int x2), (3, .int x3)], [.int x1, .int x3], M)) rfl ?_
  refine e_ic_ge (t := 60) (q := 7) hE rfl rfl rfl rfl (fun hbr => ?_) (fun hbr => ?_)
  · replace h := h.1 hbr
    refine e_seg (k := 2) (d := (62, [(0, .ref 67), (1, .int x1), (2, .int x2), (3, .int x3)], [.int x1, .ref 67], M)) rfl ?_
    refine e_call (q := 65) (L0 := [(0, .ref 67), (1, .int x1)]) hE rfl rfl rfl rfl (jargs_V rfl rfl rfl rfl rfl (Nat.le_of_ble_eq_true rfl) (Nat.le_of_ble_eq_true rfl) (Nat.le_of_ble_eq_true rfl)) rfl rfl (jEv.mono h (fun o1 M2 h => ?_))
    obtain ⟨r3, rfl, h⟩ := h
    refine ⟨_, rfl, ?_⟩
    show jEv nX8_cramer (65, [(0, .ref 67), (1, .int x1), (2, .int x2), (3, .int x3)], [.long r3], M2) K
    exact e_ret hE rfl rfl (jb_l rfl) h
  · replace h := h.2 hbr
    refine e_seg (k := 2) (d := (10, [(0, .ref 67), (1, .int x1), (2, .int x2), (3, .int x3), (4, .int 0)], [], M)) rfl ?_
    refine e_cut (ks := [0, 1, 2, 3, 4]) (L' := [(0, .ref 67), (1, .int x1), (2, .int x2), (3, .int x3), (4, .int 0)]) hE rfl rfl rfl rfl rfl ?_
    exact h
set_option maxRecDepth 100000 in
set_option maxHeartbeats 4000000 in
theorem v_X8_cramer_10 {K : jK} {M : jM} {x1 : Int32} {x2 : Int32} {x3 : Int32} {x4 : Int32} (h : ((x1 ≤ x4 → jEv nX8_cramer (2, [(0, .ref 67), (1, .int x1), (2, .int x2), (3, .int (x3 + 1))], [], M) K) ∧ (¬ x1 ≤ x4 → ((x4 = x2 → (¬ ((4 * x3) + x1 < 0 ∨ 12 ≤ ((4 * x3) + x1).toNatClampNeg) ∧ (¬ ((5 * x3) + x4 < 0 ∨ 25 ≤ ((5 * x3) + x4).toNatClampNeg) ∧ (∀ M2 : jM, M2 = jsl M 88 (((5 * x3) + x4).toNatClampNeg) (M.2 96 ((4 * x3) + x1).toNatClampNeg) → jEv nX8_cramer (10, [(0, .ref 67), (1, .int x1), (2, .int x2), (3, .int x3), (4, .int (x4 + 1))], [], M2) K)))) ∧ (¬ x4 = x2 → (¬ ((4 * x3) + x4 < 0 ∨ 12 ≤ ((4 * x3) + x4).toNatClampNeg) ∧ (¬ ((5 * x3) + x4 < 0 ∨ 25 ≤ ((5 * x3) + x4).toNatClampNeg) ∧ (∀ M1 : jM, M1 = jsl M 88 (((5 * x3) + x4).toNatClampNeg) (M.2 96 ((4 * x3) + x4).toNatClampNeg) → jEv nX8_cramer (10, [(0, .ref 67), (1, .int x1), (2, .int x2), (3, .int x3), (4, .int (x4 + 1))], [], M1) K)))))))) : jEv nX8_cramer (10, [(0, .ref 67), (1, .int x1), (2, .int x2), (3, .int x3), (4, .int x4)], [], M) K := by
  have hE : jMT nX8_cramer = some me_X8_cramer := rfl
  refine e_seg (k := 2) (d := (13, [(0, .ref 67), (1, .int x1), (2, .int x2), (3, .int x3), (4, .int x4)], [.int x1, .int x4], M)) rfl ?_
  refine e_ic_ge (t := 54) (q := 16) hE rfl rfl rfl rfl (fun hbr => ?_) (fun hbr => ?_)
  · replace h := h.1 hbr
    refine e_seg (k := 2) (d := (2, [(0, .ref 67), (1, .int x1), (2, .int x2), (3, .int (x3 + 1)), (4, .int x4)], [], M)) rfl ?_
    refine e_cut (ks := [0, 1, 2, 3]) (L' := [(0, .ref 67), (1, .int x1), (2, .int x2), (3, .int (x3 + 1))]) hE rfl rfl rfl rfl rfl ?_
    exact h
  · replace h := h.2 hbr
    refine e_seg (k := 14) (d := (36, [(0, .ref 67), (1, .int x1), (2, .int x2), (3, .int x3), (4, .int x4)], [.int x2, .int x4, .int (4 * x3), .ref 96, .int ((5 * x3) + x4), .ref 88], M)) rfl ?_
    refine e_ic_ne (t := 43) (q := 39) hE rfl rfl rfl rfl (fun hbr => ?_) (fun hbr => ?_)
    · replace h := h.2 hbr
      refine e_seg (k := 2) (d := (46, [(0, .ref 67), (1, .int x1), (2, .int x2), (3, .int x3), (4, .int x4)], [.int ((4 * x3) + x4), .ref 96, .int ((5 * x3) + x4), .ref 88], M)) rfl ?_
      refine e_lald (q := 47) hE rfl rfl rfl rfl h.1 ?_
      replace h := h.2
      refine e_last (q := 48) hE rfl rfl rfl rfl h.1 ?_
      replace h := h.2
      obtain ⟨M1, hM1⟩ : ∃ z : jM, z = jsl M 88 (((5 * x3) + x4).toNatClampNeg) (M.2 96 ((4 * x3) + x4).toNatClampNeg) := ⟨_, rfl⟩
      refine jEv_M hM1 ?_
      replace h := h M1 hM1
      refine e_seg (k := 2) (d := (10, [(0, .ref 67), (1, .int x1), (2, .int x2), (3, .int x3), (4, .int (x4 + 1))], [], M1)) rfl ?_
      refine e_cut (ks := [0, 1, 2, 3, 4]) (L' := [(0, .ref 67), (1, .int x1), (2, .int x2), (3, .int x3), (4, .int (x4 + 1))]) hE rfl rfl rfl rfl rfl ?_
      exact h
    · replace h := h.1 hbr
      refine e_seg (k := 3) (d := (46, [(0, .ref 67), (1, .int x1), (2, .int x2), (3, .int x3), (4, .int x4)], [.int ((4 * x3) + x1), .ref 96, .int ((5 * x3) + x4), .ref 88], M)) rfl ?_
      refine e_lald (q := 47) hE rfl rfl rfl rfl h.1 ?_
      replace h := h.2
      refine e_last (q := 48) hE rfl rfl rfl rfl h.1 ?_
      replace h := h.2
      obtain ⟨M2, hM2⟩ : ∃ z : jM, z = jsl M 88 (((5 * x3) + x4).toNatClampNeg) (M.2 96 ((4 * x3) + x1).toNatClampNeg) := ⟨_, rfl⟩
      refine jEv_M hM2 ?_
      replace h := h M2 hM2
      refine e_seg (k := 2) (d := (10, [(0, .ref 67), (1, .int x1), (2, .int x2), (3, .int x3), (4, .int (x4 + 1))], [], M2)) rfl ?_
      refine e_cut (ks := [0, 1, 2, 3, 4]) (L' := [(0, .ref 67), (1, .int x1), (2, .int x2), (3, .int x3), (4, .int (x4 + 1))]) hE rfl rfl rfl rfl rfl ?_
      exact h
set_option maxRecDepth 100000 in
set_option maxHeartbeats 4000000 in
theorem v_X8_even_0 {K : jK} {M : jM} {x1 : Int32} (h : (∀ M1 : jM, M1 = jsi M 67 0 0 → (jEv nX8_has (0, [(0, .ref 67), (1, .int x1)], [], M1) (fun o2 M3 => ∃ r4 : Int32, o2 = some (some (.int r4)) ∧ ((r4 = 0 → K (some (some (.int (-1)))) M3) ∧ (¬ r4 = 0 → (¬ (x1 < 0 ∨ 6 ≤ x1.toNatClampNeg) ∧ (((M3.1 86 x1.toNatClampNeg) ≤ 3 → (¬ (5 * x1 < 0 ∨ 30 ≤ (5 * x1).toNatClampNeg) ∧ (¬ (x1 < 0 ∨ 6 ≤ x1.toNatClampNeg) ∧ (((M3.1 86 x1.toNatClampNeg) ≤ 1 → (¬ (x1 < 0 ∨ 6 ≤ x1.toNatClampNeg) ∧ (((M3.1 86 x1.toNatClampNeg) ≤ 2 → ((((((M3.1 85 (5 * x1).toNatClampNeg).toInt64) + (2 * 0)) + (2 * 0)) < 0 → K (some (some (.int 0))) M3) ∧ (¬ (((((M3.1 85 (5 * x1).toNatClampNeg).toInt64) + (2 * 0)) + (2 * 0)) < 0) → ((0 ≤ ((((M3.1 85 (5 * x1).toNatClampNeg).toInt64) - (2 * 0)) + (2 * 0)) → (((0 : Int64) ≤ 0 → K (some (some (.int 1))) M3) ∧ (¬ ((0 : Int64) ≤ 0) → (((4 * 0) < (0 : Int64) → K (some (some (.int 1))) M3) ∧ (¬ ((4 * 0) < (0 : Int64)) → (((0 : Int64) < ((-4) * 0) → K (some (some (.int 1))) M3) ∧ (¬ ((0 : Int64) < ((-4) * 0)) → (((0 * 0) ≤ ((4 * 0) * (((M3.1 85 (5 * x1).toNatClampNeg).toInt64) - (2 * 0))) → K (some (some (.int 1))) M3) ∧ (¬ ((0 * 0) ≤ ((4 * 0) * (((M3.1 85 (5 * x1).toNatClampNeg).toInt64) - (2 * 0)))) → K (some (some (.int 0))) M3))))))))) ∧ (¬ (0 ≤ ((((M3.1 85 (5 * x1).toNatClampNeg).toInt64) - (2 * 0)) + (2 * 0))) → K (some (some (.int 0))) M3))))) ∧ (¬ (M3.1 86 x1.toNatClampNeg) ≤ 2 → (¬ ((5 * x1) + 2 < 0 ∨ 30 ≤ ((5 * x1) + 2).toNatClampNeg) ∧ ((((((M3.1 85 (5 * x1).toNatClampNeg).toInt64) + (2 * 0)) + (2 * ((M3.1 85 ((5 * x1) + 2).toNatClampNeg).toInt64))) < 0 → K (some (some (.int 0))) M3) ∧ (¬ (((((M3.1 85 (5 * x1).toNatClampNeg).toInt64) + (2 * 0)) + (2 * ((M3.1 85 ((5 * x1) + 2).toNatClampNeg).toInt64))) < 0) → ((0 ≤ ((((M3.1 85 (5 * x1).toNatClampNeg).toInt64) - (2 * 0)) + (2 * ((M3.1 85 ((5 * x1) + 2).toNatClampNeg).toInt64))) → ((((M3.1 85 ((5 * x1) + 2).toNatClampNeg).toInt64) ≤ 0 → K (some (some (.int 1))) M3) ∧ (¬ (((M3.1 85 ((5 * x1) + 2).toNatClampNeg).toInt64) ≤ 0) → (((4 * ((M3.1 85 ((5 * x1) + 2).toNatClampNeg).toInt64)) < 0 → K (some (some (.int 1))) M3) ∧ (¬ ((4 * ((M3.1 85 ((5 * x1) + 2).toNatClampNeg).toInt64)) < 0) → ((0 < ((-4) * ((M3.1 85 ((5 * x1) + 2).toNatClampNeg).toInt64)) → K (some (some (.int 1))) M3) ∧ (¬ (0 < ((-4) * ((M3.1 85 ((5 * x1) + 2).toNatClampNeg).toInt64))) → (((0 * 0) ≤ ((4 * ((M3.1 85 ((5 * x1) + 2).toNatClampNeg).toInt64)) * (((M3.1 85 (5 * x1).toNatClampNeg).toInt64) - (2 * ((M3.1 85 ((5 * x1) + 2).toNatClampNeg).toInt64)))) → K (some (some (.int 1))) M3) ∧ (¬ ((0 * 0) ≤ ((4 * ((M3.1 85 ((5 * x1) + 2).toNatClampNeg).toInt64)) * (((M3.1 85 (5 * x1).toNatClampNeg).toInt64) - (2 * ((M3.1 85 ((5 * x1) + 2).toNatClampNeg).toInt64))))) → K (some (some (.int 0))) M3))))))))) ∧ (¬ (0 ≤ ((((M3.1 85 (5 * x1).toNatClampNeg).toInt64) - (2 * 0)) + (2 * ((M3.1 85 ((5 * x1) + 2).toNatClampNeg).toInt64)))) → K (some (some (.int 0))) M3))))))))) ∧ (¬ (M3.1 86 x1.toNatClampNeg) ≤ 1 → (¬ ((5 * x1) + 1 < 0 ∨ 30 ≤ ((5 * x1) + 1).toNatClampNeg) ∧ (¬ (x1 < 0 ∨ 6 ≤ x1.toNatClampNeg) ∧ (((M3.1 86 x1.toNatClampNeg) ≤ 2 → ((((((M3.1 85 (5 * x1).toNatClampNeg).toInt64) + (2 * ((M3.1 85 ((5 * x1) + 1).toNatClampNeg).toInt64))) + (2 * 0)) < 0 → K (some (some (.int 0))) M3) ∧ (¬ (((((M3.1 85 (5 * x1).toNatClampNeg).toInt64) + (2 * ((M3.1 85 ((5 * x1) + 1).toNatClampNeg).toInt64))) + (2 * 0)) < 0) → ((0 ≤ ((((M3.1 85 (5 * x1).toNatClampNeg).toInt64) - (2 * ((M3.1 85 ((5 * x1) + 1).toNatClampNeg).toInt64))) + (2 * 0)) → (((0 : Int64) ≤ 0 → K (some (some (.int 1))) M3) ∧ (¬ ((0 : Int64) ≤ 0) → (((4 * 0) < ((M3.1 85 ((5 * x1) + 1).toNatClampNeg).toInt64) → K (some (some (.int 1))) M3) ∧ (¬ ((4 * 0) < ((M3.1 85 ((5 * x1) + 1).toNatClampNeg).toInt64)) → ((((M3.1 85 ((5 * x1) + 1).toNatClampNeg).toInt64) < ((-4) * 0) → K (some (some (.int 1))) M3) ∧ (¬ (((M3.1 85 ((5 * x1) + 1).toNatClampNeg).toInt64) < ((-4) * 0)) → (((((M3.1 85 ((5 * x1) + 1).toNatClampNeg).toInt64) * ((M3.1 85 ((5 * x1) + 1).toNatClampNeg).toInt64)) ≤ ((4 * 0) * (((M3.1 85 (5 * x1).toNatClampNeg).toInt64) - (2 * 0))) → K (some (some (.int 1))) M3) ∧ (¬ ((((M3.1 85 ((5 * x1) + 1).toNatClampNeg).toInt64) * ((M3.1 85 ((5 * x1) + 1).toNatClampNeg).toInt64)) ≤ ((4 * 0) * (((M3.1 85 (5 * x1).toNatClampNeg).toInt64) - (2 * 0)))) → K (some (some (.int 0))) M3))))))))) ∧ (¬ (0 ≤ ((((M3.1 85 (5 * x1).toNatClampNeg).toInt64) - (2 * ((M3.1 85 ((5 * x1) + 1).toNatClampNeg).toInt64))) + (2 * 0))) → K (some (some (.int 0))) M3))))) ∧ (¬ (M3.1 86 x1.toNatClampNeg) ≤ 2 → (¬ ((5 * x1) + 2 < 0 ∨ 30 ≤ ((5 * x1) + 2).toNatClampNeg) ∧ ((((((M3.1 85 (5 * x1).toNatClampNeg).toInt64) + (2 * ((M3.1 85 ((5 * x1) + 1).toNatClampNeg).toInt64))) + (2 * ((M3.1 85 ((5 * x1) + 2).toNatClampNeg).toInt64))) < 0 → K (some (some (.int 0))) M3) ∧ (¬ (((((M3.1 85 (5 * x1).toNatClampNeg).toInt64) + (2 * ((M3.1 85 ((5 * x1) + 1).toNatClampNeg).toInt64))) + (2 * ((M3.1 85 ((5 * x1) + 2).toNatClampNeg).toInt64))) < 0) → ((0 ≤ ((((M3.1 85 (5 * x1).toNatClampNeg).toInt64) - (2 * ((M3.1 85 ((5 * x1) + 1).toNatClampNeg).toInt64))) + (2 * ((M3.1 85 ((5 * x1) + 2).toNatClampNeg).toInt64))) → ((((M3.1 85 ((5 * x1) + 2).toNatClampNeg).toInt64) ≤ 0 → K (some (some (.int 1))) M3) ∧ (¬ (((M3.1 85 ((5 * x1) + 2).toNatClampNeg).toInt64) ≤ 0) → (((4 * ((M3.1 85 ((5 * x1) + 2).toNatClampNeg).toInt64)) < ((M3.1 85 ((5 * x1) + 1).toNatClampNeg).toInt64) → K (some (some (.int 1))) M3) ∧ (¬ ((4 * ((M3.1 85 ((5 * x1) + 2).toNatClampNeg).toInt64)) < ((M3.1 85 ((5 * x1) + 1).toNatClampNeg).toInt64)) → ((((M3.1 85 ((5 * x1) + 1).toNatClampNeg).toInt64) < ((-4) * ((M3.1 85 ((5 * x1) + 2).toNatClampNeg).toInt64)) → K (some (some (.int 1))) M3) ∧ (¬ (((M3.1 85 ((5 * x1) + 1).toNatClampNeg).toInt64) < ((-4) * ((M3.1 85 ((5 * x1) + 2).toNatClampNeg).toInt64))) → (((((M3.1 85 ((5 * x1) + 1).toNatClampNeg).toInt64) * ((M3.1 85 ((5 * x1) + 1).toNatClampNeg).toInt64)) ≤ ((4 * ((M3.1 85 ((5 * x1) + 2).toNatClampNeg).toInt64)) * (((M3.1 85 (5 * x1).toNatClampNeg).toInt64) - (2 * ((M3.1 85 ((5 * x1) + 2).toNatClampNeg).toInt64)))) → K (some (some (.int 1))) M3) ∧ (¬ ((((M3.1 85 ((5 * x1) + 1).toNatClampNeg).toInt64) * ((M3.1 85 ((5 * x1) + 1).toNatClampNeg).toInt64)) ≤ ((4 * ((M3.1 85 ((5 * x1) + 2).toNatClampNeg).toInt64)) * (((M3.1 85 (5 * x1).toNatClampNeg).toInt64) - (2 * ((M3.1 85 ((5 * x1) + 2).toNatClampNeg).toInt64))))) → K (some (some (.int 0))) M3))))))))) ∧ (¬ (0 ≤ ((((M3.1 85 (5 * x1).toNatClampNeg).toInt64) - (2 * ((M3.1 85 ((5 * x1) + 1).toNatClampNeg).toInt64))) + (2 * ((M3.1 85 ((5 * x1) + 2).toNatClampNeg).toInt64)))) → K (some (some (.int 0))) M3)))))))))))))) ∧ (¬ (M3.1 86 x1.toNatClampNeg) ≤ 3 → K (some (some (.int (-1)))) M3))))))))) : jEv nX8_even (0, [(0, .ref 67), (1, .int x1)], [], M) K := by
  have hE : jMT nX8_even = some me_X8_even := rfl
  refine e_seg (k := 2) (d := (2, [(0, .ref 67), (1, .int x1)], [.int 0, .ref 67], M)) rfl ?_
  refine e_put (q := 5) hE rfl rfl rfl rfl rfl rfl rfl ?_
  obtain ⟨M1, hM1⟩ : ∃ z : jM, z = jsi M 67 0 0 := ⟨_, rfl⟩
  refine jEv_M hM1 ?_
  replace h := h M1 hM1
  refine e_seg (k := 2) (d := (7, [(0, .ref 67), (1, .int x1)], [.int x1, .ref 67], M1)) rfl ?_
  refine e_call (q := 10) (L0 := [(0, .ref 67), (1, .int x1)]) hE rfl rfl rfl rfl (jargs_V rfl rfl rfl rfl rfl (Nat.le_of_ble_eq_true rfl) (Nat.le_of_ble_eq_true rfl) (Nat.le_of_ble_eq_true rfl)) rfl rfl (jEv.mono h (fun o2 M3 h => ?_))
  obtain ⟨r4, rfl, h⟩ := h
  refine ⟨_, rfl, ?_⟩
  show jEv nX8_even (10, [(0, .ref 67), (1, .int x1)], [.int r4], M3) K
  refine e_if_eq (t := 23) (q := 13) hE rfl rfl rfl rfl (fun hbr => ?_) (fun hbr => ?_)
  · replace h := h.1 hbr
    refine e_seg (k := 1) (d := (24, [(0, .ref 67), (1, .int x1)], [.int (-1)], M3)) rfl ?_
    exact e_ret hE rfl rfl (jb_i rfl) h
  · replace h := h.2 hbr
    refine e_seg (k := 3) (d := (18, [(0, .ref 67), (1, .int x1)], [.int x1, .ref 86], M3)) rfl ?_
    refine e_iald (q := 19) hE rfl rfl rfl rfl h.1 ?_
    replace h := h.2
    refine e_seg (k := 1) (d := (20, [(0, .ref 67), (1, .int x1)], [.int 3, .int (M3.1 86 x1.toNatClampNeg)], M3)) rfl ?_
    refine e_ic_le (t := 25) (q := 23) hE rfl rfl rfl rfl (fun hbr => ?_) (fun hbr => ?_)
    · replace h := h.1 hbr
      refine e_seg (k := 5) (d := (32, [(0, .ref 67), (1, .int x1)], [.int (5 * x1), .ref 85], M3)) rfl ?_
      refine e_iald (q := 33) hE rfl rfl rfl rfl h.1 ?_
      replace h := h.2
      refine e_seg (k := 5) (d := (40, [(0, .ref 67), (1, .int x1), (2, .long ((M3.1 85 (5 * x1).toNatClampNeg).toInt64))], [.int x1, .ref 86], M3)) rfl ?_
      refine e_iald (q := 41) hE rfl rfl rfl rfl h.1 ?_
      replace h := h.2
      refine e_seg (k := 1) (d := (42, [(0, .ref 67), (1, .int x1), (2, .long ((M3.1 85 (5 * x1).toNatClampNeg).toInt64))], [.int 1, .int (M3.1 86 x1.toNatClampNeg)], M3)) rfl ?_
      refine e_ic_le (t := 59) (q := 45) hE rfl rfl rfl rfl (fun hbr => ?_) (fun hbr => ?_)
      · replace h := h.1 hbr
        refine e_seg (k := 5) (d := (67, [(0, .ref 67), (1, .int x1), (2, .long ((M3.1 85 (5 * x1).toNatClampNeg).toInt64)), (4, .long 0)], [.int x1, .ref 86], M3)) rfl ?_
        refine e_iald (q := 68) hE rfl rfl rfl rfl h.1 ?_
        replace h := h.2
        refine e_seg (k := 1) (d := (69, [(0, .ref 67), (1, .int x1), (2, .long ((M3.1 85 (5 * x1).toNatClampNeg).toInt64)), (4, .long 0)], [.int 2, .int (M3.1 86 x1.toNatClampNeg)], M3)) rfl ?_
        refine e_ic_le (t := 86) (q := 72) hE rfl rfl rfl rfl (fun hbr => ?_) (fun hbr => ?_)
        · replace h := h.1 hbr
          refine e_seg (k := 12) (d := (105, [(0, .ref 67), (1, .int x1), (2, .long ((M3.1 85 (5 * x1).toNatClampNeg).toInt64)), (4, .long 0), (6, .long 0)], [.long 0, .long ((((M3.1 85 (5 * x1).toNatClampNeg).toInt64) + (2 * 0)) + (2 * 0))], M3)) rfl ?_
          refine e_lc (t := 129) (q := 109) (pc1 := 106) hE rfl rfl rfl rfl rfl rfl (lc_lt ((((M3.1 85 (5 * x1).toNatClampNeg).toInt64) + (2 * 0)) + (2 * 0)) 0) rfl rfl (fun hbr => ?_) (fun hbr => ?_)
          · replace h := h.1 hbr
            refine e_seg (k := 1) (d := (130, [(0, .ref 67), (1, .int x1), (2, .long ((M3.1 85 (5 * x1).toNatClampNeg).toInt64)), (4, .long 0), (6, .long 0)], [.int 0], M3)) rfl ?_
            exact e_ret hE rfl rfl (jb_i rfl) h
          · replace h := h.2 hbr
            refine e_seg (k := 10) (d := (125, [(0, .ref 67), (1, .int x1), (2, .long ((M3.1 85 (5 * x1).toNatClampNeg).toInt64)), (4, .long 0), (6, .long 0)], [.long 0, .long ((((M3.1 85 (5 * x1).toNatClampNeg).toInt64) - (2 * 0)) + (2 * 0))], M3)) rfl ?_
            refine e_lc (t := 131) (q := 129) (pc1 := 126) hE rfl rfl rfl rfl rfl rfl (lc_ge ((((M3.1 85 (5 * x1).toNatClampNeg).toInt64) - (2 * 0)) + (2 * 0)) 0) rfl rfl (fun hbr => ?_) (fun hbr => ?_)
            · replace h := h.1 hbr
              refine e_seg (k := 2) (d := (134, [(0, .ref 67), (1, .int x1), (2, .long ((M3.1 85 (5 * x1).toNatClampNeg).toInt64)), (4, .long 0), (6, .long 0)], [.long 0, .long 0], M3)) rfl ?_
              refine e_lc (t := 166) (q := 138) (pc1 := 135) hE rfl rfl rfl rfl rfl rfl (lc_le (0 : Int64) 0) rfl rfl (fun hbr => ?_) (fun hbr => ?_)
              · replace h := h.1 hbr
                refine e_seg (k := 3) (d := (171, [(0, .ref 67), (1, .int x1), (2, .long ((M3.1 85 (5 * x1).toNatClampNeg).toInt64)), (4, .long 0), (6, .long 0), (8, .int 0)], [.int 0], M3)) rfl ?_
                refine e_if_eq (t := 202) (q := 174) hE rfl rfl rfl rfl (fun hbr => ?_) (fun hbr => ?_)
                · clear hbr
                  refine e_seg (k := 1) (d := (203, [(0, .ref 67), (1, .int x1), (2, .long ((M3.1 85 (5 * x1).toNatClampNeg).toInt64)), (4, .long 0), (6, .long 0), (8, .int 0)], [.int 1], M3)) rfl ?_
                  exact e_ret hE rfl rfl (jb_i rfl) h
                · exact absurd hbr (by decide)
              · replace h := h.2 hbr
                refine e_seg (k := 4) (d := (146, [(0, .ref 67), (1, .int x1), (2, .long ((M3.1 85 (5 * x1).toNatClampNeg).toInt64)), (4, .long 0), (6, .long 0)], [.long (4 * 0), .long 0], M3)) rfl ?_
                refine e_lc (t := 166) (q := 150) (pc1 := 147) hE rfl rfl rfl rfl rfl rfl (lc_gt (0 : Int64) (4 * 0)) rfl rfl (fun hbr => ?_) (fun hbr => ?_)
                · replace h := h.1 hbr
                  refine e_seg (k := 3) (d := (171, [(0, .ref 67), (1, .int x1), (2, .long ((M3.1 85 (5 * x1).toNatClampNeg).toInt64)), (4, .long 0), (6, .long 0), (8, .int 0)], [.int 0], M3)) rfl ?_
                  refine e_if_eq (t := 202) (q := 174) hE rfl rfl rfl rfl (fun hbr => ?_) (fun hbr => ?_)
                  · clear hbr
                    refine e_seg (k := 1) (d := (203, [(0, .ref 67), (1, .int x1), (2, .long ((M3.1 85 (5 * x1).toNatClampNeg).toInt64)), (4, .long 0), (6, .long 0), (8, .int 0)], [.int 1], M3)) rfl ?_
                    exact e_ret hE rfl rfl (jb_i rfl) h
                  · exact absurd hbr (by decide)
                · replace h := h.2 hbr
                  refine e_seg (k := 4) (d := (158, [(0, .ref 67), (1, .int x1), (2, .long ((M3.1 85 (5 * x1).toNatClampNeg).toInt64)), (4, .long 0), (6, .long 0)], [.long ((-4) * 0), .long 0], M3)) rfl ?_
                  refine e_lc (t := 166) (q := 162) (pc1 := 159) hE rfl rfl rfl rfl rfl rfl (lc_lt (0 : Int64) ((-4) * 0)) rfl rfl (fun hbr => ?_) (fun hbr => ?_)
                  · replace h := h.1 hbr
                    refine e_seg (k := 3) (d := (171, [(0, .ref 67), (1, .int x1), (2, .long ((M3.1 85 (5 * x1).toNatClampNeg).toInt64)), (4, .long 0), (6, .long 0), (8, .int 0)], [.int 0], M3)) rfl ?_
                    refine e_if_eq (t := 202) (q := 174) hE rfl rfl rfl rfl (fun hbr => ?_) (fun hbr => ?_)
                    · clear hbr
                      refine e_seg (k := 1) (d := (203, [(0, .ref 67), (1, .int x1), (2, .long ((M3.1 85 (5 * x1).toNatClampNeg).toInt64)), (4, .long 0), (6, .long 0), (8, .int 0)], [.int 1], M3)) rfl ?_
                      exact e_ret hE rfl rfl (jb_i rfl) h
                    · exact absurd hbr (by decide)
                  · replace h := h.2 hbr
                    refine e_seg (k := 4) (d := (171, [(0, .ref 67), (1, .int x1), (2, .long ((M3.1 85 (5 * x1).toNatClampNeg).toInt64)), (4, .long 0), (6, .long 0), (8, .int 1)], [.int 1], M3)) rfl ?_
                    refine e_if_eq (t := 202) (q := 174) hE rfl rfl rfl rfl (fun hbr => ?_) (fun hbr => ?_)
                    · exact absurd hbr (by decide)
                    · clear hbr
                      refine e_seg (k := 12) (d := (194, [(0, .ref 67), (1, .int x1), (2, .long ((M3.1 85 (5 * x1).toNatClampNeg).toInt64)), (4, .long 0), (6, .long 0), (8, .int 1)], [.long (0 * 0), .long ((4 * 0) * (((M3.1 85 (5 * x1).toNatClampNeg).toInt64) - (2 * 0)))], M3)) rfl ?_
                      refine e_lc (t := 202) (q := 198) (pc1 := 195) hE rfl rfl rfl rfl rfl rfl (lc_ge ((4 * 0) * (((M3.1 85 (5 * x1).toNatClampNeg).toInt64) - (2 * 0))) (0 * 0)) rfl rfl (fun hbr => ?_) (fun hbr => ?_)
                      · replace h := h.1 hbr
                        refine e_seg (k := 1) (d := (203, [(0, .ref 67), (1, .int x1), (2, .long ((M3.1 85 (5 * x1).toNatClampNeg).toInt64)), (4, .long 0), (6, .long 0), (8, .int 1)], [.int 1], M3)) rfl ?_
                        exact e_ret hE rfl rfl (jb_i rfl) h
                      · replace h := h.2 hbr
                        refine e_seg (k := 2) (d := (203, [(0, .ref 67), (1, .int x1), (2, .long ((M3.1 85 (5 * x1).toNatClampNeg).toInt64)), (4, .long 0), (6, .long 0), (8, .int 1)], [.int 0], M3)) rfl ?_
                        exact e_ret hE rfl rfl (jb_i rfl) h
            · replace h := h.2 hbr
              refine e_seg (k := 1) (d := (130, [(0, .ref 67), (1, .int x1), (2, .long ((M3.1 85 (5 * x1).toNatClampNeg).toInt64)), (4, .long 0), (6, .long 0)], [.int 0], M3)) rfl ?_
              exact e_ret hE rfl rfl (jb_i rfl) h
        · replace h := h.2 hbr
          refine e_seg (k := 7) (d := (81, [(0, .ref 67), (1, .int x1), (2, .long ((M3.1 85 (5 * x1).toNatClampNeg).toInt64)), (4, .long 0)], [.int ((5 * x1) + 2), .ref 85], M3)) rfl ?_
          refine e_iald (q := 82) hE rfl rfl rfl rfl h.1 ?_
          replace h := h.2
          refine e_seg (k := 13) (d := (105, [(0, .ref 67), (1, .int x1), (2, .long ((M3.1 85 (5 * x1).toNatClampNeg).toInt64)), (4, .long 0), (6, .long ((M3.1 85 ((5 * x1) + 2).toNatClampNeg).toInt64))], [.long 0, .long ((((M3.1 85 (5 * x1).toNatClampNeg).toInt64) + (2 * 0)) + (2 * ((M3.1 85 ((5 * x1) + 2).toNatClampNeg).toInt64)))], M3)) rfl ?_
          refine e_lc (t := 129) (q := 109) (pc1 := 106) hE rfl rfl rfl rfl rfl rfl (lc_lt ((((M3.1 85 (5 * x1).toNatClampNeg).toInt64) + (2 * 0)) + (2 * ((M3.1 85 ((5 * x1) + 2).toNatClampNeg).toInt64))) 0) rfl rfl (fun hbr => ?_) (fun hbr => ?_)
          · replace h := h.1 hbr
            refine e_seg (k := 1) (d := (130, [(0, .ref 67), (1, .int x1), (2, .long ((M3.1 85 (5 * x1).toNatClampNeg).toInt64)), (4, .long 0), (6, .long ((M3.1 85 ((5 * x1) + 2).toNatClampNeg).toInt64))], [.int 0], M3)) rfl ?_
            exact e_ret hE rfl rfl (jb_i rfl) h
          · replace h := h.2 hbr
            refine e_seg (k := 10) (d := (125, [(0, .ref 67), (1, .int x1), (2, .long ((M3.1 85 (5 * x1).toNatClampNeg).toInt64)), (4, .long 0), (6, .long ((M3.1 85 ((5 * x1) + 2).toNatClampNeg).toInt64))], [.long 0, .long ((((M3.1 85 (5 * x1).toNatClampNeg).toInt64) - (2 * 0)) + (2 * ((M3.1 85 ((5 * x1) + 2).toNatClampNeg).toInt64)))], M3)) rfl ?_
            refine e_lc (t := 131) (q := 129) (pc1 := 126) hE rfl rfl rfl rfl rfl rfl (lc_ge ((((M3.1 85 (5 * x1).toNatClampNeg).toInt64) - (2 * 0)) + (2 * ((M3.1 85 ((5 * x1) + 2).toNatClampNeg).toInt64))) 0) rfl rfl (fun hbr => ?_) (fun hbr => ?_)
            · replace h := h.1 hbr
              refine e_seg (k := 2) (d := (134, [(0, .ref 67), (1, .int x1), (2, .long ((M3.1 85 (5 * x1).toNatClampNeg).toInt64)), (4, .long 0), (6, .long ((M3.1 85 ((5 * x1) + 2).toNatClampNeg).toInt64))], [.long 0, .long ((M3.1 85 ((5 * x1) + 2).toNatClampNeg).toInt64)], M3)) rfl ?_
              refine e_lc (t := 166) (q := 138) (pc1 := 135) hE rfl rfl rfl rfl rfl rfl (lc_le ((M3.1 85 ((5 * x1) + 2).toNatClampNeg).toInt64) 0) rfl rfl (fun hbr => ?_) (fun hbr => ?_)
              · replace h := h.1 hbr
                refine e_seg (k := 3) (d := (171, [(0, .ref 67), (1, .int x1), (2, .long ((M3.1 85 (5 * x1).toNatClampNeg).toInt64)), (4, .long 0), (6, .long ((M3.1 85 ((5 * x1) + 2).toNatClampNeg).toInt64)), (8, .int 0)], [.int 0], M3)) rfl ?_
                refine e_if_eq (t := 202) (q := 174) hE rfl rfl rfl rfl (fun hbr => ?_) (fun hbr => ?_)
                · clear hbr
                  refine e_seg (k := 1) (d := (203, [(0, .ref 67), (1, .int x1), (2, .long ((M3.1 85 (5 * x1).toNatClampNeg).toInt64)), (4, .long 0), (6, .long ((M3.1 85 ((5 * x1) + 2).toNatClampNeg).toInt64)), (8, .int 0)], [.int 1], M3)) rfl ?_
                  exact e_ret hE rfl rfl (jb_i rfl) h
                · exact absurd hbr (by decide)
              · replace h := h.2 hbr
                refine e_seg (k := 4) (d := (146, [(0, .ref 67), (1, .int x1), (2, .long ((M3.1 85 (5 * x1).toNatClampNeg).toInt64)), (4, .long 0), (6, .long ((M3.1 85 ((5 * x1) + 2).toNatClampNeg).toInt64))], [.long (4 * ((M3.1 85 ((5 * x1) + 2).toNatClampNeg).toInt64)), .long 0], M3)) rfl ?_
                refine e_lc (t := 166) (q := 150) (pc1 := 147) hE rfl rfl rfl rfl rfl rfl (lc_gt 0 (4 * ((M3.1 85 ((5 * x1) + 2).toNatClampNeg).toInt64))) rfl rfl (fun hbr => ?_) (fun hbr => ?_)
                · replace h := h.1 hbr
                  refine e_seg (k := 3) (d := (171, [(0, .ref 67), (1, .int x1), (2, .long ((M3.1 85 (5 * x1).toNatClampNeg).toInt64)), (4, .long 0), (6, .long ((M3.1 85 ((5 * x1) + 2).toNatClampNeg).toInt64)), (8, .int 0)], [.int 0], M3)) rfl ?_
                  refine e_if_eq (t := 202) (q := 174) hE rfl rfl rfl rfl (fun hbr => ?_) (fun hbr => ?_)
                  · clear hbr
                    refine e_seg (k := 1) (d := (203, [(0, .ref 67), (1, .int x1), (2, .long ((M3.1 85 (5 * x1).toNatClampNeg).toInt64)), (4, .long 0), (6, .long ((M3.1 85 ((5 * x1) + 2).toNatClampNeg).toInt64)), (8, .int 0)], [.int 1], M3)) rfl ?_
                    exact e_ret hE rfl rfl (jb_i rfl) h
                  · exact absurd hbr (by decide)
                · replace h := h.2 hbr
                  refine e_seg (k := 4) (d := (158, [(0, .ref 67), (1, .int x1), (2, .long ((M3.1 85 (5 * x1).toNatClampNeg).toInt64)), (4, .long 0), (6, .long ((M3.1 85 ((5 * x1) + 2).toNatClampNeg).toInt64))], [.long ((-4) * ((M3.1 85 ((5 * x1) + 2).toNatClampNeg).toInt64)), .long 0], M3)) rfl ?_
                  refine e_lc (t := 166) (q := 162) (pc1 := 159) hE rfl rfl rfl rfl rfl rfl (lc_lt 0 ((-4) * ((M3.1 85 ((5 * x1) + 2).toNatClampNeg).toInt64))) rfl rfl (fun hbr => ?_) (fun hbr => ?_)
                  · replace h := h.1 hbr
                    refine e_seg (k := 3) (d := (171, [(0, .ref 67), (1, .int x1), (2, .long ((M3.1 85 (5 * x1).toNatClampNeg).toInt64)), (4, .long 0), (6, .long ((M3.1 85 ((5 * x1) + 2).toNatClampNeg).toInt64)), (8, .int 0)], [.int 0], M3)) rfl ?_
                    refine e_if_eq (t := 202) (q := 174) hE rfl rfl rfl rfl (fun hbr => ?_) (fun hbr => ?_)
                    · clear hbr
                      refine e_seg (k := 1) (d := (203, [(0, .ref 67), (1, .int x1), (2, .long ((M3.1 85 (5 * x1).toNatClampNeg).toInt64)), (4, .long 0), (6, .long ((M3.1 85 ((5 * x1) + 2).toNatClampNeg).toInt64)), (8, .int 0)], [.int 1], M3)) rfl ?_
                      exact e_ret hE rfl rfl (jb_i rfl) h
                    · exact absurd hbr (by decide)
                  · replace h := h.2 hbr
                    refine e_seg (k := 4) (d := (171, [(0, .ref 67), (1, .int x1), (2, .long ((M3.1 85 (5 * x1).toNatClampNeg).toInt64)), (4, .long 0), (6, .long ((M3.1 85 ((5 * x1) + 2).toNatClampNeg).toInt64)), (8, .int 1)], [.int 1], M3)) rfl ?_
                    refine e_if_eq (t := 202) (q := 174) hE rfl rfl rfl rfl (fun hbr => ?_) (fun hbr => ?_)
                    · exact absurd hbr (by decide)
                    · clear hbr
                      refine e_seg (k := 12) (d := (194, [(0, .ref 67), (1, .int x1), (2, .long ((M3.1 85 (5 * x1).toNatClampNeg).toInt64)), (4, .long 0), (6, .long ((M3.1 85 ((5 * x1) + 2).toNatClampNeg).toInt64)), (8, .int 1)], [.long (0 * 0), .long ((4 * ((M3.1 85 ((5 * x1) + 2).toNatClampNeg).toInt64)) * (((M3.1 85 (5 * x1).toNatClampNeg).toInt64) - (2 * ((M3.1 85 ((5 * x1) + 2).toNatClampNeg).toInt64))))], M3)) rfl ?_
                      refine e_lc (t := 202) (q := 198) (pc1 := 195) hE rfl rfl rfl rfl rfl rfl (lc_ge ((4 * ((M3.1 85 ((5 * x1) + 2).toNatClampNeg).toInt64)) * (((M3.1 85 (5 * x1).toNatClampNeg).toInt64) - (2 * ((M3.1 85 ((5 * x1) + 2).toNatClampNeg).toInt64)))) (0 * 0)) rfl rfl (fun hbr => ?_) (fun hbr => ?_)
                      · replace h := h.1 hbr
                        refine e_seg (k := 1) (d := (203, [(0, .ref 67), (1, .int x1), (2, .long ((M3.1 85 (5 * x1).toNatClampNeg).toInt64)), (4, .long 0), (6, .long ((M3.1 85 ((5 * x1) + 2).toNatClampNeg).toInt64)), (8, .int 1)], [.int 1], M3)) rfl ?_
                        exact e_ret hE rfl rfl (jb_i rfl) h
                      · replace h := h.2 hbr
                        refine e_seg (k := 2) (d := (203, [(0, .ref 67), (1, .int x1), (2, .long ((M3.1 85 (5 * x1).toNatClampNeg).toInt64)), (4, .long 0), (6, .long ((M3.1 85 ((5 * x1) + 2).toNatClampNeg).toInt64)), (8, .int 1)], [.int 0], M3)) rfl ?_
                        exact e_ret hE rfl rfl (jb_i rfl) h
            · replace h := h.2 hbr
              refine e_seg (k := 1) (d := (130, [(0, .ref 67), (1, .int x1), (2, .long ((M3.1 85 (5 * x1).toNatClampNeg).toInt64)), (4, .long 0), (6, .long ((M3.1 85 ((5 * x1) + 2).toNatClampNeg).toInt64))], [.int 0], M3)) rfl ?_
              exact e_ret hE rfl rfl (jb_i rfl) h
      · replace h := h.2 hbr
        refine e_seg (k := 7) (d := (54, [(0, .ref 67), (1, .int x1), (2, .long ((M3.1 85 (5 * x1).toNatClampNeg).toInt64))], [.int ((5 * x1) + 1), .ref 85], M3)) rfl ?_
        refine e_iald (q := 55) hE rfl rfl rfl rfl h.1 ?_
        replace h := h.2
        refine e_seg (k := 6) (d := (67, [(0, .ref 67), (1, .int x1), (2, .long ((M3.1 85 (5 * x1).toNatClampNeg).toInt64)), (4, .long ((M3.1 85 ((5 * x1) + 1).toNatClampNeg).toInt64))], [.int x1, .ref 86], M3)) rfl ?_
        refine e_iald (q := 68) hE rfl rfl rfl rfl h.1 ?_
        replace h := h.2
        refine e_seg (k := 1) (d := (69, [(0, .ref 67), (1, .int x1), (2, .long ((M3.1 85 (5 * x1).toNatClampNeg).toInt64)), (4, .long ((M3.1 85 ((5 * x1) + 1).toNatClampNeg).toInt64))], [.int 2, .int (M3.1 86 x1.toNatClampNeg)], M3)) rfl ?_
        refine e_ic_le (t := 86) (q := 72) hE rfl rfl rfl rfl (fun hbr => ?_) (fun hbr => ?_)
        · replace h := h.1 hbr
          refine e_seg (k := 12) (d := (105, [(0, .ref 67), (1, .int x1), (2, .long ((M3.1 85 (5 * x1).toNatClampNeg).toInt64)), (4, .long ((M3.1 85 ((5 * x1) + 1).toNatClampNeg).toInt64)), (6, .long 0)], [.long 0, .long ((((M3.1 85 (5 * x1).toNatClampNeg).toInt64) + (2 * ((M3.1 85 ((5 * x1) + 1).toNatClampNeg).toInt64))) + (2 * 0))], M3)) rfl ?_
          refine e_lc (t := 129) (q := 109) (pc1 := 106) hE rfl rfl rfl rfl rfl rfl (lc_lt ((((M3.1 85 (5 * x1).toNatClampNeg).toInt64) + (2 * ((M3.1 85 ((5 * x1) + 1).toNatClampNeg).toInt64))) + (2 * 0)) 0) rfl rfl (fun hbr => ?_) (fun hbr => ?_)
          · replace h := h.1 hbr
            refine e_seg (k := 1) (d := (130, [(0, .ref 67), (1, .int x1), (2, .long ((M3.1 85 (5 * x1).toNatClampNeg).toInt64)), (4, .long ((M3.1 85 ((5 * x1) + 1).toNatClampNeg).toInt64)), (6, .long 0)], [.int 0], M3)) rfl ?_
            exact e_ret hE rfl rfl (jb_i rfl) h
          · replace h := h.2 hbr
            refine e_seg (k := 10) (d := (125, [(0, .ref 67), (1, .int x1), (2, .long ((M3.1 85 (5 * x1).toNatClampNeg).toInt64)), (4, .long ((M3.1 85 ((5 * x1) + 1).toNatClampNeg).toInt64)), (6, .long 0)], [.long 0, .long ((((M3.1 85 (5 * x1).toNatClampNeg).toInt64) - (2 * ((M3.1 85 ((5 * x1) + 1).toNatClampNeg).toInt64))) + (2 * 0))], M3)) rfl ?_
            refine e_lc (t := 131) (q := 129) (pc1 := 126) hE rfl rfl rfl rfl rfl rfl (lc_ge ((((M3.1 85 (5 * x1).toNatClampNeg).toInt64) - (2 * ((M3.1 85 ((5 * x1) + 1).toNatClampNeg).toInt64))) + (2 * 0)) 0) rfl rfl (fun hbr => ?_) (fun hbr => ?_)
            · replace h := h.1 hbr
              refine e_seg (k := 2) (d := (134, [(0, .ref 67), (1, .int x1), (2, .long ((M3.1 85 (5 * x1).toNatClampNeg).toInt64)), (4, .long ((M3.1 85 ((5 * x1) + 1).toNatClampNeg).toInt64)), (6, .long 0)], [.long 0, .long 0], M3)) rfl ?_
              refine e_lc (t := 166) (q := 138) (pc1 := 135) hE rfl rfl rfl rfl rfl rfl (lc_le (0 : Int64) 0) rfl rfl (fun hbr => ?_) (fun hbr => ?_)
              · replace h := h.1 hbr
                refine e_seg (k := 3) (d := (171, [(0, .ref 67), (1, .int x1), (2, .long ((M3.1 85 (5 * x1).toNatClampNeg).toInt64)), (4, .long ((M3.1 85 ((5 * x1) + 1).toNatClampNeg).toInt64)), (6, .long 0), (8, .int 0)], [.int 0], M3)) rfl ?_
                refine e_if_eq (t := 202) (q := 174) hE rfl rfl rfl rfl (fun hbr => ?_) (fun hbr => ?_)
                · clear hbr
                  refine e_seg (k := 1) (d := (203, [(0, .ref 67), (1, .int x1), (2, .long ((M3.1 85 (5 * x1).toNatClampNeg).toInt64)), (4, .long ((M3.1 85 ((5 * x1) + 1).toNatClampNeg).toInt64)), (6, .long 0), (8, .int 0)], [.int 1], M3)) rfl ?_
                  exact e_ret hE rfl rfl (jb_i rfl) h
                · exact absurd hbr (by decide)
              · replace h := h.2 hbr
                refine e_seg (k := 4) (d := (146, [(0, .ref 67), (1, .int x1), (2, .long ((M3.1 85 (5 * x1).toNatClampNeg).toInt64)), (4, .long ((M3.1 85 ((5 * x1) + 1).toNatClampNeg).toInt64)), (6, .long 0)], [.long (4 * 0), .long ((M3.1 85 ((5 * x1) + 1).toNatClampNeg).toInt64)], M3)) rfl ?_
                refine e_lc (t := 166) (q := 150) (pc1 := 147) hE rfl rfl rfl rfl rfl rfl (lc_gt ((M3.1 85 ((5 * x1) + 1).toNatClampNeg).toInt64) (4 * 0)) rfl rfl (fun hbr => ?_) (fun hbr => ?_)
                · replace h := h.1 hbr
                  refine e_seg (k := 3) (d := (171, [(0, .ref 67), (1, .int x1), (2, .long ((M3.1 85 (5 * x1).toNatClampNeg).toInt64)), (4, .long ((M3.1 85 ((5 * x1) + 1).toNatClampNeg).toInt64)), (6, .long 0), (8, .int 0)], [.int 0], M3)) rfl ?_
                  refine e_if_eq (t := 202) (q := 174) hE rfl rfl rfl rfl (fun hbr => ?_) (fun hbr => ?_)
                  · clear hbr
                    refine e_seg (k := 1) (d := (203, [(0, .ref 67), (1, .int x1), (2, .long ((M3.1 85 (5 * x1).toNatClampNeg).toInt64)), (4, .long ((M3.1 85 ((5 * x1) + 1).toNatClampNeg).toInt64)), (6, .long 0), (8, .int 0)], [.int 1], M3)) rfl ?_
                    exact e_ret hE rfl rfl (jb_i rfl) h
                  · exact absurd hbr (by decide)
                · replace h := h.2 hbr
                  refine e_seg (k := 4) (d := (158, [(0, .ref 67), (1, .int x1), (2, .long ((M3.1 85 (5 * x1).toNatClampNeg).toInt64)), (4, .long ((M3.1 85 ((5 * x1) + 1).toNatClampNeg).toInt64)), (6, .long 0)], [.long ((-4) * 0), .long ((M3.1 85 ((5 * x1) + 1).toNatClampNeg).toInt64)], M3)) rfl ?_
                  refine e_lc (t := 166) (q := 162) (pc1 := 159) hE rfl rfl rfl rfl rfl rfl (lc_lt ((M3.1 85 ((5 * x1) + 1).toNatClampNeg).toInt64) ((-4) * 0)) rfl rfl (fun hbr => ?_) (fun hbr => ?_)
                  · replace h := h.1 hbr
                    refine e_seg (k := 3) (d := (171, [(0, .ref 67), (1, .int x1), (2, .long ((M3.1 85 (5 * x1).toNatClampNeg).toInt64)), (4, .long ((M3.1 85 ((5 * x1) + 1).toNatClampNeg).toInt64)), (6, .long 0), (8, .int 0)], [.int 0], M3)) rfl ?_
                    refine e_if_eq (t := 202) (q := 174) hE rfl rfl rfl rfl (fun hbr => ?_) (fun hbr => ?_)
                    · clear hbr
                      refine e_seg (k := 1) (d := (203, [(0, .ref 67), (1, .int x1), (2, .long ((M3.1 85 (5 * x1).toNatClampNeg).toInt64)), (4, .long ((M3.1 85 ((5 * x1) + 1).toNatClampNeg).toInt64)), (6, .long 0), (8, .int 0)], [.int 1], M3)) rfl ?_
                      exact e_ret hE rfl rfl (jb_i rfl) h
                    · exact absurd hbr (by decide)
                  · replace h := h.2 hbr
                    refine e_seg (k := 4) (d := (171, [(0, .ref 67), (1, .int x1), (2, .long ((M3.1 85 (5 * x1).toNatClampNeg).toInt64)), (4, .long ((M3.1 85 ((5 * x1) + 1).toNatClampNeg).toInt64)), (6, .long 0), (8, .int 1)], [.int 1], M3)) rfl ?_
                    refine e_if_eq (t := 202) (q := 174) hE rfl rfl rfl rfl (fun hbr => ?_) (fun hbr => ?_)
                    · exact absurd hbr (by decide)
                    · clear hbr
                      refine e_seg (k := 12) (d := (194, [(0, .ref 67), (1, .int x1), (2, .long ((M3.1 85 (5 * x1).toNatClampNeg).toInt64)), (4, .long ((M3.1 85 ((5 * x1) + 1).toNatClampNeg).toInt64)), (6, .long 0), (8, .int 1)], [.long (((M3.1 85 ((5 * x1) + 1).toNatClampNeg).toInt64) * ((M3.1 85 ((5 * x1) + 1).toNatClampNeg).toInt64)), .long ((4 * 0) * (((M3.1 85 (5 * x1).toNatClampNeg).toInt64) - (2 * 0)))], M3)) rfl ?_
                      refine e_lc (t := 202) (q := 198) (pc1 := 195) hE rfl rfl rfl rfl rfl rfl (lc_ge ((4 * 0) * (((M3.1 85 (5 * x1).toNatClampNeg).toInt64) - (2 * 0))) (((M3.1 85 ((5 * x1) + 1).toNatClampNeg).toInt64) * ((M3.1 85 ((5 * x1) + 1).toNatClampNeg).toInt64))) rfl rfl (fun hbr => ?_) (fun hbr => ?_)
                      · replace h := h.1 hbr
                        refine e_seg (k := 1) (d := (203, [(0, .ref 67), (1, .int x1), (2, .long ((M3.1 85 (5 * x1).toNatClampNeg).toInt64)), (4, .long ((M3.1 85 ((5 * x1) + 1).toNatClampNeg).toInt64)), (6, .long 0), (8, .int 1)], [.int 1], M3)) rfl ?_
                        exact e_ret hE rfl rfl (jb_i rfl) h
                      · replace h := h.2 hbr
                        refine e_seg (k := 2) (d := (203, [(0, .ref 67), (1, .int x1), (2, .long ((M3.1 85 (5 * x1).toNatClampNeg).toInt64)), (4, .long ((M3.1 85 ((5 * x1) + 1).toNatClampNeg).toInt64)), (6, .long 0), (8, .int 1)], [.int 0], M3)) rfl ?_
                        exact e_ret hE rfl rfl (jb_i rfl) h
            · replace h := h.2 hbr
              refine e_seg (k := 1) (d := (130, [(0, .ref 67), (1, .int x1), (2, .long ((M3.1 85 (5 * x1).toNatClampNeg).toInt64)), (4, .long ((M3.1 85 ((5 * x1) + 1).toNatClampNeg).toInt64)), (6, .long 0)], [.int 0], M3)) rfl ?_
              exact e_ret hE rfl rfl (jb_i rfl) h
        · replace h := h.2 hbr
          refine e_seg (k := 7) (d := (81, [(0, .ref 67), (1, .int x1), (2, .long ((M3.1 85 (5 * x1).toNatClampNeg).toInt64)), (4, .long ((M3.1 85 ((5 * x1) + 1).toNatClampNeg).toInt64))], [.int ((5 * x1) + 2), .ref 85], M3)) rfl ?_
          refine e_iald (q := 82) hE rfl rfl rfl rfl h.1 ?_
          replace h := h.2
          refine e_seg (k := 13) (d := (105, [(0, .ref 67), (1, .int x1), (2, .long ((M3.1 85 (5 * x1).toNatClampNeg).toInt64)), (4, .long ((M3.1 85 ((5 * x1) + 1).toNatClampNeg).toInt64)), (6, .long ((M3.1 85 ((5 * x1) + 2).toNatClampNeg).toInt64))], [.long 0, .long ((((M3.1 85 (5 * x1).toNatClampNeg).toInt64) + (2 * ((M3.1 85 ((5 * x1) + 1).toNatClampNeg).toInt64))) + (2 * ((M3.1 85 ((5 * x1) + 2).toNatClampNeg).toInt64)))], M3)) rfl ?_
          refine e_lc (t := 129) (q := 109) (pc1 := 106) hE rfl rfl rfl rfl rfl rfl (lc_lt ((((M3.1 85 (5 * x1).toNatClampNeg).toInt64) + (2 * ((M3.1 85 ((5 * x1) + 1).toNatClampNeg).toInt64))) + (2 * ((M3.1 85 ((5 * x1) + 2).toNatClampNeg).toInt64))) 0) rfl rfl (fun hbr => ?_) (fun hbr => ?_)
          · replace h := h.1 hbr
            refine e_seg (k := 1) (d := (130, [(0, .ref 67), (1, .int x1), (2, .long ((M3.1 85 (5 * x1).toNatClampNeg).toInt64)), (4, .long ((M3.1 85 ((5 * x1) + 1).toNatClampNeg).toInt64)), (6, .long ((M3.1 85 ((5 * x1) + 2).toNatClampNeg).toInt64))], [.int 0], M3)) rfl ?_
            exact e_ret hE rfl rfl (jb_i rfl) h
          · replace h := h.2 hbr
            refine e_seg (k := 10) (d := (125, [(0, .ref 67), (1, .int x1), (2, .long ((M3.1 85 (5 * x1).toNatClampNeg).toInt64)), (4, .long ((M3.1 85 ((5 * x1) + 1).toNatClampNeg).toInt64)), (6, .long ((M3.1 85 ((5 * x1) + 2).toNatClampNeg).toInt64))], [.long 0, .long ((((M3.1 85 (5 * x1).toNatClampNeg).toInt64) - (2 * ((M3.1 85 ((5 * x1) + 1).toNatClampNeg).toInt64))) + (2 * ((M3.1 85 ((5 * x1) + 2).toNatClampNeg).toInt64)))], M3)) rfl ?_
            refine e_lc (t := 131) (q := 129) (pc1 := 126) hE rfl rfl rfl rfl rfl rfl (lc_ge ((((M3.1 85 (5 * x1).toNatClampNeg).toInt64) - (2 * ((M3.1 85 ((5 * x1) + 1).toNatClampNeg).toInt64))) + (2 * ((M3.1 85 ((5 * x1) + 2).toNatClampNeg).toInt64))) 0) rfl rfl (fun hbr => ?_) (fun hbr => ?_)
            · replace h := h.1 hbr
              refine e_seg (k := 2) (d := (134, [(0, .ref 67), (1, .int x1), (2, .long ((M3.1 85 (5 * x1).toNatClampNeg).toInt64)), (4, .long ((M3.1 85 ((5 * x1) + 1).toNatClampNeg).toInt64)), (6, .long ((M3.1 85 ((5 * x1) + 2).toNatClampNeg).toInt64))], [.long 0, .long ((M3.1 85 ((5 * x1) + 2).toNatClampNeg).toInt64)], M3)) rfl ?_
              refine e_lc (t := 166) (q := 138) (pc1 := 135) hE rfl rfl rfl rfl rfl rfl (lc_le ((M3.1 85 ((5 * x1) + 2).toNatClampNeg).toInt64) 0) rfl rfl (fun hbr => ?_) (fun hbr => ?_)
              · replace h := h.1 hbr
                refine e_seg (k := 3) (d := (171, [(0, .ref 67), (1, .int x1), (2, .long ((M3.1 85 (5 * x1).toNatClampNeg).toInt64)), (4, .long ((M3.1 85 ((5 * x1) + 1).toNatClampNeg).toInt64)), (6, .long ((M3.1 85 ((5 * x1) + 2).toNatClampNeg).toInt64)), (8, .int 0)], [.int 0], M3)) rfl ?_
                refine e_if_eq (t := 202) (q := 174) hE rfl rfl rfl rfl (fun hbr => ?_) (fun hbr => ?_)
                · clear hbr
                  refine e_seg (k := 1) (d := (203, [(0, .ref 67), (1, .int x1), (2, .long ((M3.1 85 (5 * x1).toNatClampNeg).toInt64)), (4, .long ((M3.1 85 ((5 * x1) + 1).toNatClampNeg).toInt64)), (6, .long ((M3.1 85 ((5 * x1) + 2).toNatClampNeg).toInt64)), (8, .int 0)], [.int 1], M3)) rfl ?_
                  exact e_ret hE rfl rfl (jb_i rfl) h
                · exact absurd hbr (by decide)
              · replace h := h.2 hbr
                refine e_seg (k := 4) (d := (146, [(0, .ref 67), (1, .int x1), (2, .long ((M3.1 85 (5 * x1).toNatClampNeg).toInt64)), (4, .long ((M3.1 85 ((5 * x1) + 1).toNatClampNeg).toInt64)), (6, .long ((M3.1 85 ((5 * x1) + 2).toNatClampNeg).toInt64))], [.long (4 * ((M3.1 85 ((5 * x1) + 2).toNatClampNeg).toInt64)), .long ((M3.1 85 ((5 * x1) + 1).toNatClampNeg).toInt64)], M3)) rfl ?_
                refine e_lc (t := 166) (q := 150) (pc1 := 147) hE rfl rfl rfl rfl rfl rfl (lc_gt ((M3.1 85 ((5 * x1) + 1).toNatClampNeg).toInt64) (4 * ((M3.1 85 ((5 * x1) + 2).toNatClampNeg).toInt64))) rfl rfl (fun hbr => ?_) (fun hbr => ?_)
                · replace h := h.1 hbr
                  refine e_seg (k := 3) (d := (171, [(0, .ref 67), (1, .int x1), (2, .long ((M3.1 85 (5 * x1).toNatClampNeg).toInt64)), (4, .long ((M3.1 85 ((5 * x1) + 1).toNatClampNeg).toInt64)), (6, .long ((M3.1 85 ((5 * x1) + 2).toNatClampNeg).toInt64)), (8, .int 0)], [.int 0], M3)) rfl ?_
                  refine e_if_eq (t := 202) (q := 174) hE rfl rfl rfl rfl (fun hbr => ?_) (fun hbr => ?_)
                  · clear hbr
                    refine e_seg (k := 1) (d := (203, [(0, .ref 67), (1, .int x1), (2, .long ((M3.1 85 (5 * x1).toNatClampNeg).toInt64)), (4, .long ((M3.1 85 ((5 * x1) + 1).toNatClampNeg).toInt64)), (6, .long ((M3.1 85 ((5 * x1) + 2).toNatClampNeg).toInt64)), (8, .int 0)], [.int 1], M3)) rfl ?_
                    exact e_ret hE rfl rfl (jb_i rfl) h
                  · exact absurd hbr (by decide)
                · replace h := h.2 hbr
                  refine e_seg (k := 4) (d := (158, [(0, .ref 67), (1, .int x1), (2, .long ((M3.1 85 (5 * x1).toNatClampNeg).toInt64)), (4, .long ((M3.1 85 ((5 * x1) + 1).toNatClampNeg).toInt64)), (6, .long ((M3.1 85 ((5 * x1) + 2).toNatClampNeg).toInt64))], [.long ((-4) * ((M3.1 85 ((5 * x1) + 2).toNatClampNeg).toInt64)), .long ((M3.1 85 ((5 * x1) + 1).toNatClampNeg).toInt64)], M3)) rfl ?_
                  refine e_lc (t := 166) (q := 162) (pc1 := 159) hE rfl rfl rfl rfl rfl rfl (lc_lt ((M3.1 85 ((5 * x1) + 1).toNatClampNeg).toInt64) ((-4) * ((M3.1 85 ((5 * x1) + 2).toNatClampNeg).toInt64))) rfl rfl (fun hbr => ?_) (fun hbr => ?_)
                  · replace h := h.1 hbr
                    refine e_seg (k := 3) (d := (171, [(0, .ref 67), (1, .int x1), (2, .long ((M3.1 85 (5 * x1).toNatClampNeg).toInt64)), (4, .long ((M3.1 85 ((5 * x1) + 1).toNatClampNeg).toInt64)), (6, .long ((M3.1 85 ((5 * x1) + 2).toNatClampNeg).toInt64)), (8, .int 0)], [.int 0], M3)) rfl ?_
                    refine e_if_eq (t := 202) (q := 174) hE rfl rfl rfl rfl (fun hbr => ?_) (fun hbr => ?_)
                    · clear hbr
                      refine e_seg (k := 1) (d := (203, [(0, .ref 67), (1, .int x1), (2, .long ((M3.1 85 (5 * x1).toNatClampNeg).toInt64)), (4, .long ((M3.1 85 ((5 * x1) + 1).toNatClampNeg).toInt64)), (6, .long ((M3.1 85 ((5 * x1) + 2).toNatClampNeg).toInt64)), (8, .int 0)], [.int 1], M3)) rfl ?_
                      exact e_ret hE rfl rfl (jb_i rfl) h
                    · exact absurd hbr (by decide)
                  · replace h := h.2 hbr
                    refine e_seg (k := 4) (d := (171, [(0, .ref 67), (1, .int x1), (2, .long ((M3.1 85 (5 * x1).toNatClampNeg).toInt64)), (4, .long ((M3.1 85 ((5 * x1) + 1).toNatClampNeg).toInt64)), (6, .long ((M3.1 85 ((5 * x1) + 2).toNatClampNeg).toInt64)), (8, .int 1)], [.int 1], M3)) rfl ?_
                    refine e_if_eq (t := 202) (q := 174) hE rfl rfl rfl rfl (fun hbr => ?_) (fun hbr => ?_)
                    · exact absurd hbr (by decide)
                    · clear hbr
                      refine e_seg (k := 12) (d := (194, [(0, .ref 67), (1, .int x1), (2, .long ((M3.1 85 (5 * x1).toNatClampNeg).toInt64)), (4, .long ((M3.1 85 ((5 * x1) + 1).toNatClampNeg).toInt64)), (6, .long ((M3.1 85 ((5 * x1) + 2).toNatClampNeg).toInt64)), (8, .int 1)], [.long (((M3.1 85 ((5 * x1) + 1).toNatClampNeg).toInt64) * ((M3.1 85 ((5 * x1) + 1).toNatClampNeg).toInt64)), .long ((4 * ((M3.1 85 ((5 * x1) + 2).toNatClampNeg).toInt64)) * (((M3.1 85 (5 * x1).toNatClampNeg).toInt64) - (2 * ((M3.1 85 ((5 * x1) + 2).toNatClampNeg).toInt64))))], M3)) rfl ?_
                      refine e_lc (t := 202) (q := 198) (pc1 := 195) hE rfl rfl rfl rfl rfl rfl (lc_ge ((4 * ((M3.1 85 ((5 * x1) + 2).toNatClampNeg).toInt64)) * (((M3.1 85 (5 * x1).toNatClampNeg).toInt64) - (2 * ((M3.1 85 ((5 * x1) + 2).toNatClampNeg).toInt64)))) (((M3.1 85 ((5 * x1) + 1).toNatClampNeg).toInt64) * ((M3.1 85 ((5 * x1) + 1).toNatClampNeg).toInt64))) rfl rfl (fun hbr => ?_) (fun hbr => ?_)
                      · replace h := h.1 hbr
                        refine e_seg (k := 1) (d := (203, [(0, .ref 67), (1, .int x1), (2, .long ((M3.1 85 (5 * x1).toNatClampNeg).toInt64)), (4, .long ((M3.1 85 ((5 * x1) + 1).toNatClampNeg).toInt64)), (6, .long ((M3.1 85 ((5 * x1) + 2).toNatClampNeg).toInt64)), (8, .int 1)], [.int 1], M3)) rfl ?_
                        exact e_ret hE rfl rfl (jb_i rfl) h
                      · replace h := h.2 hbr
                        refine e_seg (k := 2) (d := (203, [(0, .ref 67), (1, .int x1), (2, .long ((M3.1 85 (5 * x1).toNatClampNeg).toInt64)), (4, .long ((M3.1 85 ((5 * x1) + 1).toNatClampNeg).toInt64)), (6, .long ((M3.1 85 ((5 * x1) + 2).toNatClampNeg).toInt64)), (8, .int 1)], [.int 0], M3)) rfl ?_
                        exact e_ret hE rfl rfl (jb_i rfl) h
            · replace h := h.2 hbr
              refine e_seg (k := 1) (d := (130, [(0, .ref 67), (1, .int x1), (2, .long ((M3.1 85 (5 * x1).toNatClampNeg).toInt64)), (4, .long ((M3.1 85 ((5 * x1) + 1).toNatClampNeg).toInt64)), (6, .long ((M3.1 85 ((5 * x1) + 2).toNatClampNeg).toInt64))], [.int 0], M3)) rfl ?_
              exact e_ret hE rfl rfl (jb_i rfl) h
    · replace h := h.2 hbr
      refine e_seg (k := 1) (d := (24, [(0, .ref 67), (1, .int x1)], [.int (-1)], M3)) rfl ?_
      exact e_ret hE rfl rfl (jb_i rfl) h
set_option maxRecDepth 100000 in
set_option maxHeartbeats 4000000 in
theorem v_X8_feed_0 {K : jK} {M : jM} {x1 : Int32} {x2 : Int32} {x3 : Int32} {x4 : Int32} {x5 : Int32} (h : (∀ M1 : jM, M1 = jsi M 67 0 0 → ((((M1.1 67 2) + 20) ≤ 100 → (jEv nX8_four (0, [(0, .ref 67), (1, .int x1)], [], M1) (fun o2 M3 => o2 = some none ∧ (jEv nX8_four (0, [(0, .ref 67), (1, .int x2)], [], M3) (fun o4 M5 => o4 = some none ∧ (jEv nX8_four (0, [(0, .ref 67), (1, .int x3)], [], M5) (fun o6 M7 => o6 = some none ∧ (jEv nX8_four (0, [(0, .ref 67), (1, .int x4)], [], M7) (fun o8 M9 => o8 = some none ∧ (jEv nX8_four (0, [(0, .ref 67), (1, .int x5)], [], M9) (fun o10 M11 => o10 = some none ∧ K (some (some (.int (M11.1 67 2)))) M11))))))))))) ∧ (¬ ((M1.1 67 2) + 20) ≤ 100 → K (some (some (.int (-1)))) M1)))) : jEv nX8_feed (0, [(0, .ref 67), (1, .int x1), (2, .int x2), (3, .int x3), (4, .int x4), (5, .int x5)], [], M) K := by
  have hE : jMT nX8_feed = some me_X8_feed := rfl
  refine e_seg (k := 2) (d := (2, [(0, .ref 67), (1, .int x1), (2, .int x2), (3, .int x3), (4, .int x4), (5, .int x5)], [.int 0, .ref 67], M)) rfl ?_
  refine e_put (q := 5) hE rfl rfl rfl rfl rfl rfl rfl ?_
  obtain ⟨M1, hM1⟩ : ∃ z : jM, z = jsi M 67 0 0 := ⟨_, rfl⟩
  refine jEv_M hM1 ?_
  replace h := h M1 hM1
  refine e_seg (k := 5) (d := (14, [(0, .ref 67), (1, .int x1), (2, .int x2), (3, .int x3), (4, .int x4), (5, .int x5)], [.int 100, .int ((M1.1 67 2) + 20)], M1)) rfl ?_
  refine e_ic_le (t := 19) (q := 17) hE rfl rfl rfl rfl (fun hbr => ?_) (fun hbr => ?_)
  · replace h := h.1 hbr
    refine e_seg (k := 2) (d := (21, [(0, .ref 67), (1, .int x1), (2, .int x2), (3, .int x3), (4, .int x4), (5, .int x5)], [.int x1, .ref 67], M1)) rfl ?_
    refine e_call (q := 24) (L0 := [(0, .ref 67), (1, .int x1)]) hE rfl rfl rfl rfl (jargs_V rfl rfl rfl rfl rfl (Nat.le_of_ble_eq_true rfl) (Nat.le_of_ble_eq_true rfl) (Nat.le_of_ble_eq_true rfl)) rfl rfl (jEv.mono h (fun o2 M3 h => ?_))
    obtain ⟨rfl, h⟩ := h
    refine ⟨_, rfl, ?_⟩
    show jEv nX8_feed (24, [(0, .ref 67), (1, .int x1), (2, .int x2), (3, .int x3), (4, .int x4), (5, .int x5)], [], M3) K
    refine e_seg (k := 2) (d := (26, [(0, .ref 67), (1, .int x1), (2, .int x2), (3, .int x3), (4, .int x4), (5, .int x5)], [.int x2, .ref 67], M3)) rfl ?_
    refine e_call (q := 29) (L0 := [(0, .ref 67), (1, .int x2)]) hE rfl rfl rfl rfl (jargs_V rfl rfl rfl rfl rfl (Nat.le_of_ble_eq_true rfl) (Nat.le_of_ble_eq_true rfl) (Nat.le_of_ble_eq_true rfl)) rfl rfl (jEv.mono h (fun o4 M5 h => ?_))
    obtain ⟨rfl, h⟩ := h
    refine ⟨_, rfl, ?_⟩
    show jEv nX8_feed (29, [(0, .ref 67), (1, .int x1), (2, .int x2), (3, .int x3), (4, .int x4), (5, .int x5)], [], M5) K
    refine e_seg (k := 2) (d := (31, [(0, .ref 67), (1, .int x1), (2, .int x2), (3, .int x3), (4, .int x4), (5, .int x5)], [.int x3, .ref 67], M5)) rfl ?_
    refine e_call (q := 34) (L0 := [(0, .ref 67), (1, .int x3)]) hE rfl rfl rfl rfl (jargs_V rfl rfl rfl rfl rfl (Nat.le_of_ble_eq_true rfl) (Nat.le_of_ble_eq_true rfl) (Nat.le_of_ble_eq_true rfl)) rfl rfl (jEv.mono h (fun o6 M7 h => ?_))
    obtain ⟨rfl, h⟩ := h
    refine ⟨_, rfl, ?_⟩
    show jEv nX8_feed (34, [(0, .ref 67), (1, .int x1), (2, .int x2), (3, .int x3), (4, .int x4), (5, .int x5)], [], M7) K
    refine e_seg (k := 2) (d := (37, [(0, .ref 67), (1, .int x1), (2, .int x2), (3, .int x3), (4, .int x4), (5, .int x5)], [.int x4, .ref 67], M7)) rfl ?_
    refine e_call (q := 40) (L0 := [(0, .ref 67), (1, .int x4)]) hE rfl rfl rfl rfl (jargs_V rfl rfl rfl rfl rfl (Nat.le_of_ble_eq_true rfl) (Nat.le_of_ble_eq_true rfl) (Nat.le_of_ble_eq_true rfl)) rfl rfl (jEv.mono h (fun o8 M9 h => ?_))
    obtain ⟨rfl, h⟩ := h
    refine ⟨_, rfl, ?_⟩
    show jEv nX8_feed (40, [(0, .ref 67), (1, .int x1), (2, .int x2), (3, .int x3), (4, .int x4), (5, .int x5)], [], M9) K
    refine e_seg (k := 2) (d := (43, [(0, .ref 67), (1, .int x1), (2, .int x2), (3, .int x3), (4, .int x4), (5, .int x5)], [.int x5, .ref 67], M9)) rfl ?_
    refine e_call (q := 46) (L0 := [(0, .ref 67), (1, .int x5)]) hE rfl rfl rfl rfl (jargs_V rfl rfl rfl rfl rfl (Nat.le_of_ble_eq_true rfl) (Nat.le_of_ble_eq_true rfl) (Nat.le_of_ble_eq_true rfl)) rfl rfl (jEv.mono h (fun o10 M11 h => ?_))
    obtain ⟨rfl, h⟩ := h
    refine ⟨_, rfl, ?_⟩
    show jEv nX8_feed (46, [(0, .ref 67), (1, .int x1), (2, .int x2), (3, .int x3), (4, .int x4), (5, .int x5)], [], M11) K
    refine e_seg (k := 2) (d := (50, [(0, .ref 67), (1, .int x1), (2, .int x2), (3, .int x3), (4, .int x4), (5, .int x5)], [.int (M11.1 67 2)], M11)) rfl ?_
    exact e_ret hE rfl rfl (jb_i rfl) h
  · replace h := h.2 hbr
    refine e_seg (k := 1) (d := (18, [(0, .ref 67), (1, .int x1), (2, .int x2), (3, .int x3), (4, .int x4), (5, .int x5)], [.int (-1)], M1)) rfl ?_
    exact e_ret hE rfl rfl (jb_i rfl) h
set_option maxRecDepth 100000 in
set_option maxHeartbeats 4000000 in
theorem v_X8_filled_0 {K : jK} {M : jM} {x1 : Int32} {x2 : Int32} (h : (((M.1 67 30) = 0 → (jEv nX8_throwsIf (0, [(0, .ref 67), (1, .int 1)], [], M) (fun o1 M2 => ∃ r3 : Int32, o1 = some (some (.int r3)) ∧ ((r3 = 0 → ((x2 = 0 → (¬ (x1 < 0 ∨ 3 ≤ x1.toNatClampNeg) ∧ K (some (some (.long (M2.2 94 x1.toNatClampNeg)))) M2)) ∧ (¬ x2 = 0 → (¬ (x1 < 0 ∨ 3 ≤ x1.toNatClampNeg) ∧ K (some (some (.long (M2.2 95 x1.toNatClampNeg)))) M2)))) ∧ (¬ r3 = 0 → K (some (some (.long 0))) M2))))) ∧ (¬ (M.1 67 30) = 0 → ((x1 < 0 → (jEv nX8_throwsIf (0, [(0, .ref 67), (1, .int 1)], [], M) (fun o4 M5 => ∃ r6 : Int32, o4 = some (some (.int r6)) ∧ ((r6 = 0 → ((x2 = 0 → (¬ (x1 < 0 ∨ 3 ≤ x1.toNatClampNeg) ∧ K (some (some (.long (M5.2 94 x1.toNatClampNeg)))) M5)) ∧ (¬ x2 = 0 → (¬ (x1 < 0 ∨ 3 ≤ x1.toNatClampNeg) ∧ K (some (some (.long (M5.2 95 x1.toNatClampNeg)))) M5)))) ∧ (¬ r6 = 0 → K (some (some (.long 0))) M5))))) ∧ (¬ x1 < 0 → (((M.1 67 31) ≤ x1 → (jEv nX8_throwsIf (0, [(0, .ref 67), (1, .int 1)], [], M) (fun o7 M8 => ∃ r9 : Int32, o7 = some (some (.int r9)) ∧ ((r9 = 0 → ((x2 = 0 → (¬ (x1 < 0 ∨ 3 ≤ x1.toNatClampNeg) ∧ K (some (some (.long (M8.2 94 x1.toNatClampNeg)))) M8)) ∧ (¬ x2 = 0 → (¬ (x1 < 0 ∨ 3 ≤ x1.toNatClampNeg) ∧ K (some (some (.long (M8.2 95 x1.toNatClampNeg)))) M8)))) ∧ (¬ r9 = 0 → K (some (some (.long 0))) M8))))) ∧ (¬ (M.1 67 31) ≤ x1 → ((x2 < 0 → (jEv nX8_throwsIf (0, [(0, .ref 67), (1, .int 1)], [], M) (fun o10 M11 => ∃ r12 : Int32, o10 = some (some (.int r12)) ∧ ((r12 = 0 → ((x2 = 0 → (¬ (x1 < 0 ∨ 3 ≤ x1.toNatClampNeg) ∧ K (some (some (.long (M11.2 94 x1.toNatClampNeg)))) M11)) ∧ (¬ x2 = 0 → (¬ (x1 < 0 ∨ 3 ≤ x1.toNatClampNeg) ∧ K (some (some (.long (M11.2 95 x1.toNatClampNeg)))) M11)))) ∧ (¬ r12 = 0 → K (some (some (.long 0))) M11))))) ∧ (¬ x2 < 0 → ((x2 ≤ 1 → (jEv nX8_throwsIf (0, [(0, .ref 67), (1, .int 0)], [], M) (fun o13 M14 => ∃ r15 : Int32, o13 = some (some (.int r15)) ∧ ((r15 = 0 → ((x2 = 0 → (¬ (x1 < 0 ∨ 3 ≤ x1.toNatClampNeg) ∧ K (some (some (.long (M14.2 94 x1.toNatClampNeg)))) M14)) ∧ (¬ x2 = 0 → (¬ (x1 < 0 ∨ 3 ≤ x1.toNatClampNeg) ∧ K (some (some (.long (M14.2 95 x1.toNatClampNeg)))) M14)))) ∧ (¬ r15 = 0 → K (some (some (.long 0))) M14))))) ∧ (¬ x2 ≤ 1 → (jEv nX8_throwsIf (0, [(0, .ref 67), (1, .int 1)], [], M) (fun o16 M17 => ∃ r18 : Int32, o16 = some (some (.int r18)) ∧ ((r18 = 0 → ((x2 = 0 → (¬ (x1 < 0 ∨ 3 ≤ x1.toNatClampNeg) ∧ K (some (some (.long (M17.2 94 x1.toNatClampNeg)))) M17)) ∧ (¬ x2 = 0 → (¬ (x1 < 0 ∨ 3 ≤ x1.toNatClampNeg) ∧ K (some (some (.long (M17.2 95 x1.toNatClampNeg)))) M17)))) ∧ (¬ r18 = 0 → K (some (some (.long 0))) M17))))))))))))))) : jEv nX8_filled (0, [(0, .ref 67), (1, .int x1), (2, .int x2)], [], M) K := by
  have hE : jMT nX8_filled = some me_X8_filled := rfl
  refine e_seg (k := 3) (d := (5, [(0, .ref 67), (1, .int x1), (2, .int x2)], [.int (M.1 67 30), .ref 67], M)) rfl ?_
  refine e_if_eq (t := 29) (q := 8) hE rfl rfl rfl rfl (fun hbr => ?_) (fun hbr => ?_)
  · replace h := h.1 hbr
    refine e_seg (k := 2) (d := (34, [(0, .ref 67), (1, .int x1), (2, .int x2)], [.int 1, .ref 67], M)) rfl ?_
    refine e_call (q := 37) (L0 := [(0, .ref 67), (1, .int 1)]) hE rfl rfl rfl rfl (jargs_V rfl rfl rfl rfl rfl (Nat.le_of_ble_eq_true rfl) (Nat.le_of_ble_eq_true rfl) (Nat.le_of_ble_eq_true rfl)) rfl rfl (jEv.mono h (fun o1 M2 h => ?_))
    obtain ⟨r3, rfl, h⟩ := h
    refine ⟨_, rfl, ?_⟩
    show jEv nX8_filled (37, [(0, .ref 67), (1, .int x1), (2, .int x2)], [.int r3], M2) K
    refine e_if_eq (t := 42) (q := 40) hE rfl rfl rfl rfl (fun hbr => ?_) (fun hbr => ?_)
    · replace h := h.1 hbr
      refine e_seg (k := 1) (d := (43, [(0, .ref 67), (1, .int x1), (2, .int x2)], [.int x2], M2)) rfl ?_
      refine e_if_ne (t := 55) (q := 46) hE rfl rfl rfl rfl (fun hbr => ?_) (fun hbr => ?_)
      · replace h := h.2 hbr
        refine e_seg (k := 3) (d := (60, [(0, .ref 67), (1, .int x1), (2, .int x2)], [.int x1, .ref 95], M2)) rfl ?_
        refine e_lald (q := 61) hE rfl rfl rfl rfl h.1 ?_
        replace h := h.2
        exact e_ret hE rfl rfl (jb_l rfl) h
      · replace h := h.1 hbr
        refine e_seg (k := 3) (d := (51, [(0, .ref 67), (1, .int x1), (2, .int x2)], [.int x1, .ref 94], M2)) rfl ?_
        refine e_lald (q := 52) hE rfl rfl rfl rfl h.1 ?_
        replace h := h.2
        refine e_seg (k := 1) (d := (61, [(0, .ref 67), (1, .int x1), (2, .int x2)], [.long (M2.2 94 x1.toNatClampNeg)], M2)) rfl ?_
        exact e_ret hE rfl rfl (jb_l rfl) h
    · replace h := h.2 hbr
      refine e_seg (k := 1) (d := (41, [(0, .ref 67), (1, .int x1), (2, .int x2)], [.long 0], M2)) rfl ?_
      exact e_ret hE rfl rfl (jb_l rfl) h
  · replace h := h.2 hbr
    refine e_seg (k := 1) (d := (9, [(0, .ref 67), (1, .int x1), (2, .int x2)], [.int x1, .ref 67], M)) rfl ?_
    refine e_if_lt (t := 29) (q := 12) hE rfl rfl rfl rfl (fun hbr => ?_) (fun hbr => ?_)
    · replace h := h.1 hbr
      refine e_seg (k := 2) (d := (34, [(0, .ref 67), (1, .int x1), (2, .int x2)], [.int 1, .ref 67], M)) rfl ?_
      refine e_call (q := 37) (L0 := [(0, .ref 67), (1, .int 1)]) hE rfl rfl rfl rfl (jargs_V rfl rfl rfl rfl rfl (Nat.le_of_ble_eq_true rfl) (Nat.le_of_ble_eq_true rfl) (Nat.le_of_ble_eq_true rfl)) rfl rfl (jEv.mono h (fun o4 M5 h => ?_))
      obtain ⟨r6, rfl, h⟩ := h
      refine ⟨_, rfl, ?_⟩
      show jEv nX8_filled (37, [(0, .ref 67), (1, .int x1), (2, .int x2)], [.int r6], M5) K
      refine e_if_eq (t := 42) (q := 40) hE rfl rfl rfl rfl (fun hbr => ?_) (fun hbr => ?_)
      · replace h := h.1 hbr
        refine e_seg (k := 1) (d := (43, [(0, .ref 67), (1, .int x1), (2, .int x2)], [.int x2], M5)) rfl ?_
        refine e_if_ne (t := 55) (q := 46) hE rfl rfl rfl rfl (fun hbr => ?_) (fun hbr => ?_)
        · replace h := h.2 hbr
          refine e_seg (k := 3) (d := (60, [(0, .ref 67), (1, .int x1), (2, .int x2)], [.int x1, .ref 95], M5)) rfl ?_
          refine e_lald (q := 61) hE rfl rfl rfl rfl h.1 ?_
          replace h := h.2
          exact e_ret hE rfl rfl (jb_l rfl) h
        · replace h := h.1 hbr
          refine e_seg (k := 3) (d := (51, [(0, .ref 67), (1, .int x1), (2, .int x2)], [.int x1, .ref 94], M5)) rfl ?_
          refine e_lald (q := 52) hE rfl rfl rfl rfl h.1 ?_
          replace h := h.2
          refine e_seg (k := 1) (d := (61, [(0, .ref 67), (1, .int x1), (2, .int x2)], [.long (M5.2 94 x1.toNatClampNeg)], M5)) rfl ?_
          exact e_ret hE rfl rfl (jb_l rfl) h
      · replace h := h.2 hbr
        refine e_seg (k := 1) (d := (41, [(0, .ref 67), (1, .int x1), (2, .int x2)], [.long 0], M5)) rfl ?_
        exact e_ret hE rfl rfl (jb_l rfl) h
    · replace h := h.2 hbr
      refine e_seg (k := 3) (d := (17, [(0, .ref 67), (1, .int x1), (2, .int x2)], [.int (M.1 67 31), .int x1, .ref 67], M)) rfl ?_
      refine e_ic_ge (t := 29) (q := 20) hE rfl rfl rfl rfl (fun hbr => ?_) (fun hbr => ?_)
      · replace h := h.1 hbr
        refine e_seg (k := 2) (d := (34, [(0, .ref 67), (1, .int x1), (2, .int x2)], [.int 1, .ref 67], M)) rfl ?_
        refine e_call (q := 37) (L0 := [(0, .ref 67), (1, .int 1)]) hE rfl rfl rfl rfl (jargs_V rfl rfl rfl rfl rfl (Nat.le_of_ble_eq_true rfl) (Nat.le_of_ble_eq_true rfl) (Nat.le_of_ble_eq_true rfl)) rfl rfl (jEv.mono h (fun o7 M8 h => ?_))
        obtain ⟨r9, rfl, h⟩ := h
        refine ⟨_, rfl, ?_⟩
        show jEv nX8_filled (37, [(0, .ref 67), (1, .int x1), (2, .int x2)], [.int r9], M8) K
        refine e_if_eq (t := 42) (q := 40) hE rfl rfl rfl rfl (fun hbr => ?_) (fun hbr => ?_)
        · replace h := h.1 hbr
          refine e_seg (k := 1) (d := (43, [(0, .ref 67), (1, .int x1), (2, .int x2)], [.int x2], M8)) rfl ?_
          refine e_if_ne (t := 55) (q := 46) hE rfl rfl rfl rfl (fun hbr => ?_) (fun hbr => ?_)
          · replace h := h.2 hbr
            refine e_seg (k := 3) (d := (60, [(0, .ref 67), (1, .int x1), (2, .int x2)], [.int x1, .ref 95], M8)) rfl ?_
            refine e_lald (q := 61) hE rfl rfl rfl rfl h.1 ?_
            replace h := h.2
            exact e_ret hE rfl rfl (jb_l rfl) h
          · replace h := h.1 hbr
            refine e_seg (k := 3) (d := (51, [(0, .ref 67), (1, .int x1), (2, .int x2)], [.int x1, .ref 94], M8)) rfl ?_
            refine e_lald (q := 52) hE rfl rfl rfl rfl h.1 ?_
            replace h := h.2
            refine e_seg (k := 1) (d := (61, [(0, .ref 67), (1, .int x1), (2, .int x2)], [.long (M8.2 94 x1.toNatClampNeg)], M8)) rfl ?_
            exact e_ret hE rfl rfl (jb_l rfl) h
        · replace h := h.2 hbr
          refine e_seg (k := 1) (d := (41, [(0, .ref 67), (1, .int x1), (2, .int x2)], [.long 0], M8)) rfl ?_
          exact e_ret hE rfl rfl (jb_l rfl) h
      · replace h := h.2 hbr
        refine e_seg (k := 1) (d := (21, [(0, .ref 67), (1, .int x1), (2, .int x2)], [.int x2, .ref 67], M)) rfl ?_
        refine e_if_lt (t := 29) (q := 24) hE rfl rfl rfl rfl (fun hbr => ?_) (fun hbr => ?_)
        · replace h := h.1 hbr
          refine e_seg (k := 2) (d := (34, [(0, .ref 67), (1, .int x1), (2, .int x2)], [.int 1, .ref 67], M)) rfl ?_
          refine e_call (q := 37) (L0 := [(0, .ref 67), (1, .int 1)]) hE rfl rfl rfl rfl (jargs_V rfl rfl rfl rfl rfl (Nat.le_of_ble_eq_true rfl) (Nat.le_of_ble_eq_true rfl) (Nat.le_of_ble_eq_true rfl)) rfl rfl (jEv.mono h (fun o10 M11 h => ?_))
          obtain ⟨r12, rfl, h⟩ := h
          refine ⟨_, rfl, ?_⟩
          show jEv nX8_filled (37, [(0, .ref 67), (1, .int x1), (2, .int x2)], [.int r12], M11) K
          refine e_if_eq (t := 42) (q := 40) hE rfl rfl rfl rfl (fun hbr => ?_) (fun hbr => ?_)
          · replace h := h.1 hbr
            refine e_seg (k := 1) (d := (43, [(0, .ref 67), (1, .int x1), (2, .int x2)], [.int x2], M11)) rfl ?_
            refine e_if_ne (t := 55) (q := 46) hE rfl rfl rfl rfl (fun hbr => ?_) (fun hbr => ?_)
            · replace h := h.2 hbr
              refine e_seg (k := 3) (d := (60, [(0, .ref 67), (1, .int x1), (2, .int x2)], [.int x1, .ref 95], M11)) rfl ?_
              refine e_lald (q := 61) hE rfl rfl rfl rfl h.1 ?_
              replace h := h.2
              exact e_ret hE rfl rfl (jb_l rfl) h
            · replace h := h.1 hbr
              refine e_seg (k := 3) (d := (51, [(0, .ref 67), (1, .int x1), (2, .int x2)], [.int x1, .ref 94], M11)) rfl ?_
              refine e_lald (q := 52) hE rfl rfl rfl rfl h.1 ?_
              replace h := h.2
              refine e_seg (k := 1) (d := (61, [(0, .ref 67), (1, .int x1), (2, .int x2)], [.long (M11.2 94 x1.toNatClampNeg)], M11)) rfl ?_
              exact e_ret hE rfl rfl (jb_l rfl) h
          · replace h := h.2 hbr
            refine e_seg (k := 1) (d := (41, [(0, .ref 67), (1, .int x1), (2, .int x2)], [.long 0], M11)) rfl ?_
            exact e_ret hE rfl rfl (jb_l rfl) h
        · replace h := h.2 hbr
          refine e_seg (k := 2) (d := (26, [(0, .ref 67), (1, .int x1), (2, .int x2)], [.int 1, .int x2, .ref 67], M)) rfl ?_
          refine e_ic_le (t := 33) (q := 29) hE rfl rfl rfl rfl (fun hbr => ?_) (fun hbr => ?_)
          · replace h := h.1 hbr
            refine e_seg (k := 1) (d := (34, [(0, .ref 67), (1, .int x1), (2, .int x2)], [.int 0, .ref 67], M)) rfl ?_
            refine e_call (q := 37) (L0 := [(0, .ref 67), (1, .int 0)]) hE rfl rfl rfl rfl (jargs_V rfl rfl rfl rfl rfl (Nat.le_of_ble_eq_true rfl) (Nat.le_of_ble_eq_true rfl) (Nat.le_of_ble_eq_true rfl)) rfl rfl (jEv.mono h (fun o13 M14 h => ?_))
            obtain ⟨r15, rfl, h⟩ := h
            refine ⟨_, rfl, ?_⟩
            show jEv nX8_filled (37, [(0, .ref 67), (1, .int x1), (2, .int x2)], [.int r15], M14) K
            refine e_if_eq (t := 42) (q := 40) hE rfl rfl rfl rfl (fun hbr => ?_) (fun hbr => ?_)
            · replace h := h.1 hbr
              refine e_seg (k := 1) (d := (43, [(0, .ref 67), (1, .int x1), (2, .int x2)], [.int x2], M14)) rfl ?_
              refine e_if_ne (t := 55) (q := 46) hE rfl rfl rfl rfl (fun hbr => ?_) (fun hbr => ?_)
              · replace h := h.2 hbr
                refine e_seg (k := 3) (d := (60, [(0, .ref 67), (1, .int x1), (2, .int x2)], [.int x1, .ref 95], M14)) rfl ?_
                refine e_lald (q := 61) hE rfl rfl rfl rfl h.1 ?_
                replace h := h.2
                exact e_ret hE rfl rfl (jb_l rfl) h
              · replace h := h.1 hbr
                refine e_seg (k := 3) (d := (51, [(0, .ref 67), (1, .int x1), (2, .int x2)], [.int x1, .ref 94], M14)) rfl ?_
                refine e_lald (q := 52) hE rfl rfl rfl rfl h.1 ?_
                replace h := h.2
                refine e_seg (k := 1) (d := (61, [(0, .ref 67), (1, .int x1), (2, .int x2)], [.long (M14.2 94 x1.toNatClampNeg)], M14)) rfl ?_
                exact e_ret hE rfl rfl (jb_l rfl) h
            · replace h := h.2 hbr
              refine e_seg (k := 1) (d := (41, [(0, .ref 67), (1, .int x1), (2, .int x2)], [.long 0], M14)) rfl ?_
              exact e_ret hE rfl rfl (jb_l rfl) h
          · replace h := h.2 hbr
            refine e_seg (k := 2) (d := (34, [(0, .ref 67), (1, .int x1), (2, .int x2)], [.int 1, .ref 67], M)) rfl ?_
            refine e_call (q := 37) (L0 := [(0, .ref 67), (1, .int 1)]) hE rfl rfl rfl rfl (jargs_V rfl rfl rfl rfl rfl (Nat.le_of_ble_eq_true rfl) (Nat.le_of_ble_eq_true rfl) (Nat.le_of_ble_eq_true rfl)) rfl rfl (jEv.mono h (fun o16 M17 h => ?_))
            obtain ⟨r18, rfl, h⟩ := h
            refine ⟨_, rfl, ?_⟩
            show jEv nX8_filled (37, [(0, .ref 67), (1, .int x1), (2, .int x2)], [.int r18], M17) K
            refine e_if_eq (t := 42) (q := 40) hE rfl rfl rfl rfl (fun hbr => ?_) (fun hbr => ?_)
            · replace h := h.1 hbr
              refine e_seg (k := 1) (d := (43, [(0, .ref 67), (1, .int x1), (2, .int x2)], [.int x2], M17)) rfl ?_
              refine e_if_ne (t := 55) (q := 46) hE rfl rfl rfl rfl (fun hbr => ?_) (fun hbr => ?_)
              · replace h := h.2 hbr
                refine e_seg (k := 3) (d := (60, [(0, .ref 67), (1, .int x1), (2, .int x2)], [.int x1, .ref 95], M17)) rfl ?_
                refine e_lald (q := 61) hE rfl rfl rfl rfl h.1 ?_
                replace h := h.2
                exact e_ret hE rfl rfl (jb_l rfl) h
              · replace h := h.1 hbr
                refine e_seg (k := 3) (d := (51, [(0, .ref 67), (1, .int x1), (2, .int x2)], [.int x1, .ref 94], M17)) rfl ?_
                refine e_lald (q := 52) hE rfl rfl rfl rfl h.1 ?_
                replace h := h.2
                refine e_seg (k := 1) (d := (61, [(0, .ref 67), (1, .int x1), (2, .int x2)], [.long (M17.2 94 x1.toNatClampNeg)], M17)) rfl ?_
                exact e_ret hE rfl rfl (jb_l rfl) h
            · replace h := h.2 hbr
              refine e_seg (k := 1) (d := (41, [(0, .ref 67), (1, .int x1), (2, .int x2)], [.long 0], M17)) rfl ?_
              exact e_ret hE rfl rfl (jb_l rfl) h
set_option maxRecDepth 100000 in
set_option maxHeartbeats 4000000 in
theorem v_X8_given_0 {K : jK} {M : jM} {x1 : Int32} (h : (∀ M1 : jM, M1 = jsi M 67 0 0 → (jEv nX8_taken (0, [(0, .ref 67)], [], M1) (fun o2 M3 => ∃ r4 : Int32, o2 = some (some (.int r4)) ∧ ((r4 < 2 → K (some (some (.int 0))) M3) ∧ (¬ r4 < 2 → ((10 < r4 → K (some (some (.int 0))) M3) ∧ (¬ 10 < r4 → (((r4 - r4 / 2 * 2) = 1 → K (some (some (.int 0))) M3) ∧ (¬ (r4 - r4 / 2 * 2) = 1 → jEv nX8_given (32, [(0, .ref 67), (1, .int x1), (2, .int r4), (3, .int 0)], [], M3) K)))))))))) : jEv nX8_given (0, [(0, .ref 67), (1, .int x1)], [], M) K := by
  have hE : jMT nX8_given = some me_X8_given := rfl
  refine e_seg (k := 2) (d := (2, [(0, .ref 67), (1, .int x1)], [.int 0, .ref 67], M)) rfl ?_
  refine e_put (q := 5) hE rfl rfl rfl rfl rfl rfl rfl ?_
  obtain ⟨M1, hM1⟩ : ∃ z : jM, z = jsi M 67 0 0 := ⟨_, rfl⟩
  refine jEv_M hM1 ?_
  replace h := h M1 hM1
  refine e_seg (k := 1) (d := (6, [(0, .ref 67), (1, .int x1)], [.ref 67], M1)) rfl ?_
  refine e_call (q := 9) (L0 := [(0, .ref 67)]) hE rfl rfl rfl rfl (jargs_V rfl rfl rfl rfl rfl (Nat.le_of_ble_eq_true rfl) (Nat.le_of_ble_eq_true rfl) (Nat.le_of_ble_eq_true rfl)) rfl rfl (jEv.mono h (fun o2 M3 h => ?_))
  obtain ⟨r4, rfl, h⟩ := h
  refine ⟨_, rfl, ?_⟩
  show jEv nX8_given (9, [(0, .ref 67), (1, .int x1)], [.int r4], M3) K
  refine e_seg (k := 3) (d := (12, [(0, .ref 67), (1, .int x1), (2, .int r4)], [.int 2, .int r4], M3)) rfl ?_
  refine e_ic_lt (t := 28) (q := 15) hE rfl rfl rfl rfl (fun hbr => ?_) (fun hbr => ?_)
  · replace h := h.1 hbr
    refine e_seg (k := 1) (d := (29, [(0, .ref 67), (1, .int x1), (2, .int r4)], [.int 0], M3)) rfl ?_
    exact e_ret hE rfl rfl (jb_z rfl (by decide)) h
  · replace h := h.2 hbr
    refine e_seg (k := 2) (d := (18, [(0, .ref 67), (1, .int x1), (2, .int r4)], [.int 10, .int r4], M3)) rfl ?_
    refine e_ic_gt (t := 28) (q := 21) hE rfl rfl rfl rfl (fun hbr => ?_) (fun hbr => ?_)
    · replace h := h.1 hbr
      refine e_seg (k := 1) (d := (29, [(0, .ref 67), (1, .int x1), (2, .int r4)], [.int 0], M3)) rfl ?_
      exact e_ret hE rfl rfl (jb_z rfl (by decide)) h
    · replace h := h.2 hbr
      refine e_seg (k := 2) (d := (23, [(0, .ref 67), (1, .int x1), (2, .int r4)], [.int 2, .int r4], M3)) rfl ?_
      refine e_irem (q := 24) hE rfl rfl rfl (by decide) ?_
      refine e_seg (k := 1) (d := (25, [(0, .ref 67), (1, .int x1), (2, .int r4)], [.int 1, .int (r4 - r4 / 2 * 2)], M3)) rfl ?_
      refine e_ic_ne (t := 30) (q := 28) hE rfl rfl rfl rfl (fun hbr => ?_) (fun hbr => ?_)
      · replace h := h.2 hbr
        refine e_seg (k := 2) (d := (32, [(0, .ref 67), (1, .int x1), (2, .int r4), (3, .int 0)], [], M3)) rfl ?_
        refine e_cut (ks := [0, 1, 2, 3]) (L' := [(0, .ref 67), (1, .int x1), (2, .int r4), (3, .int 0)]) hE rfl rfl rfl rfl rfl ?_
        exact h
      · replace h := h.1 hbr
        refine e_seg (k := 1) (d := (29, [(0, .ref 67), (1, .int x1), (2, .int r4)], [.int 0], M3)) rfl ?_
        exact e_ret hE rfl rfl (jb_z rfl (by decide)) h
set_option maxRecDepth 100000 in
set_option maxHeartbeats 4000000 in
theorem v_X8_given_32 {K : jK} {M : jM} {x1 : Int32} {x2 : Int32} {x3 : Int32} (h : (((x2 / 2) ≤ x3 → (jEv nX8_puts (0, [(0, .ref 67), (1, .int x1), (2, .int (x2 / 2))], [], M) (fun o1 M2 => ∃ r3 : Int32, o1 = some (some (.int r3)) ∧ ((r3 = 0 ∨ r3 = 1) ∧ K (some (some (.int r3))) M2)))) ∧ (¬ (x2 / 2) ≤ x3 → (¬ (2 * x3 < 0 ∨ 100 ≤ (2 * x3).toNatClampNeg) ∧ (¬ ((2 * x3) + 1 < 0 ∨ 100 ≤ ((2 * x3) + 1).toNatClampNeg) ∧ (¬ (x3 < 0 ∨ 5 ≤ x3.toNatClampNeg) ∧ (∀ M4 : jM, M4 = jsi M 87 x3.toNatClampNeg (((M.1 68 (2 * x3).toNatClampNeg) <<< (8 &&& 31)) ||| ((M.1 68 ((2 * x3) + 1).toNatClampNeg) &&& 255)) → jEv nX8_given (32, [(0, .ref 67), (1, .int x1), (2, .int x2), (3, .int (x3 + 1))], [], M4) K))))))) : jEv nX8_given (32, [(0, .ref 67), (1, .int x1), (2, .int x2), (3, .int x3)], [], M) K := by
  have hE : jMT nX8_given = some me_X8_given := rfl
  refine e_seg (k := 3) (d := (35, [(0, .ref 67), (1, .int x1), (2, .int x2), (3, .int x3)], [.int 2, .int x2, .int x3], M)) rfl ?_
  refine e_idiv (q := 36) hE rfl rfl rfl (by decide) ?_
  refine e_ic_ge (t := 77) (q := 39) hE rfl rfl rfl rfl (fun hbr => ?_) (fun hbr => ?_)
  · replace h := h.1 hbr
    refine e_seg (k := 4) (d := (81, [(0, .ref 67), (1, .int x1), (2, .int x2), (3, .int x3)], [.int 2, .int x2, .int x1, .ref 67], M)) rfl ?_
    refine e_idiv (q := 82) hE rfl rfl rfl (by decide) ?_
    refine e_call (q := 85) (L0 := [(0, .ref 67), (1, .int x1), (2, .int (x2 / 2))]) hE rfl rfl rfl rfl (jargs_V rfl rfl rfl rfl rfl (Nat.le_of_ble_eq_true rfl) (Nat.le_of_ble_eq_true rfl) (Nat.le_of_ble_eq_true rfl)) rfl rfl (jEv.mono h (fun o1 M2 h => ?_))
    obtain ⟨r3, rfl, h⟩ := h
    refine ⟨_, rfl, ?_⟩
    show jEv nX8_given (85, [(0, .ref 67), (1, .int x1), (2, .int x2), (3, .int x3)], [.int r3], M2) K
    exact e_ret hE rfl rfl (jb_z rfl h.1) h.2
  · replace h := h.2 hbr
    refine e_seg (k := 8) (d := (51, [(0, .ref 67), (1, .int x1), (2, .int x2), (3, .int x3)], [.int (2 * x3), .ref 68, .int x3, .ref 87], M)) rfl ?_
    refine e_bald (q := 52) hE rfl rfl rfl rfl h.1 ?_
    replace h := h.2
    refine e_seg (k := 9) (d := (64, [(0, .ref 67), (1, .int x1), (2, .int x2), (3, .int x3)], [.int ((2 * x3) + 1), .ref 68, .int ((M.1 68 (2 * x3).toNatClampNeg) <<< (8 &&& 31)), .int x3, .ref 87], M)) rfl ?_
    refine e_bald (q := 65) hE rfl rfl rfl rfl h.1 ?_
    replace h := h.2
    refine e_seg (k := 3) (d := (70, [(0, .ref 67), (1, .int x1), (2, .int x2), (3, .int x3)], [.int (((M.1 68 (2 * x3).toNatClampNeg) <<< (8 &&& 31)) ||| ((M.1 68 ((2 * x3) + 1).toNatClampNeg) &&& 255)), .int x3, .ref 87], M)) rfl ?_
    refine e_iast (q := 71) hE rfl rfl rfl rfl h.1 ?_
    replace h := h.2
    obtain ⟨M4, hM4⟩ : ∃ z : jM, z = jsi M 87 x3.toNatClampNeg (((M.1 68 (2 * x3).toNatClampNeg) <<< (8 &&& 31)) ||| ((M.1 68 ((2 * x3) + 1).toNatClampNeg) &&& 255)) := ⟨_, rfl⟩
    refine jEv_M hM4 ?_
    replace h := h M4 hM4
    refine e_seg (k := 2) (d := (32, [(0, .ref 67), (1, .int x1), (2, .int x2), (3, .int (x3 + 1))], [], M4)) rfl ?_
    refine e_cut (ks := [0, 1, 2, 3]) (L' := [(0, .ref 67), (1, .int x1), (2, .int x2), (3, .int (x3 + 1))]) hE rfl rfl rfl rfl rfl ?_
    exact h
set_option maxRecDepth 100000 in
set_option maxHeartbeats 4000000 in
theorem v_X8_isBare_0 {K : jK} {M : jM} {x1 : Int32} (h : (jEv nX8_hasRule (0, [(0, .ref 67), (1, .int x1)], [], M) (fun o1 M2 => ∃ r3 : Int32, o1 = some (some (.int r3)) ∧ ((r3 = 0 → K (some (some (.int 0))) M2) ∧ (¬ r3 = 0 → (¬ (x1 < 0 ∨ 6 ≤ x1.toNatClampNeg) ∧ (((M2.1 72 x1.toNatClampNeg) = 0 → K (some (some (.int 1))) M2) ∧ (¬ (M2.1 72 x1.toNatClampNeg) = 0 → K (some (some (.int 0))) M2)))))))) : jEv nX8_isBare (0, [(0, .ref 67), (1, .int x1)], [], M) K := by
  have hE : jMT nX8_isBare = some me_X8_isBare := rfl
  refine e_seg (k := 2) (d := (2, [(0, .ref 67), (1, .int x1)], [.int x1, .ref 67], M)) rfl ?_
  refine e_call (q := 5) (L0 := [(0, .ref 67), (1, .int x1)]) hE rfl rfl rfl rfl (jargs_V rfl rfl rfl rfl rfl (Nat.le_of_ble_eq_true rfl) (Nat.le_of_ble_eq_true rfl) (Nat.le_of_ble_eq_true rfl)) rfl rfl (jEv.mono h (fun o1 M2 h => ?_))
  obtain ⟨r3, rfl, h⟩ := h
  refine ⟨_, rfl, ?_⟩
  show jEv nX8_isBare (5, [(0, .ref 67), (1, .int x1)], [.int r3], M2) K
  refine e_if_eq (t := 21) (q := 8) hE rfl rfl rfl rfl (fun hbr => ?_) (fun hbr => ?_)
  · replace h := h.1 hbr
    refine e_seg (k := 1) (d := (22, [(0, .ref 67), (1, .int x1)], [.int 0], M2)) rfl ?_
    exact e_ret hE rfl rfl (jb_z rfl (by decide)) h
  · replace h := h.2 hbr
    refine e_seg (k := 3) (d := (13, [(0, .ref 67), (1, .int x1)], [.int x1, .ref 72], M2)) rfl ?_
    refine e_iald (q := 14) hE rfl rfl rfl rfl h.1 ?_
    replace h := h.2
    refine e_if_ne (t := 21) (q := 17) hE rfl rfl rfl rfl (fun hbr => ?_) (fun hbr => ?_)
    · replace h := h.2 hbr
      refine e_seg (k := 1) (d := (22, [(0, .ref 67), (1, .int x1)], [.int 0], M2)) rfl ?_
      exact e_ret hE rfl rfl (jb_z rfl (by decide)) h
    · replace h := h.1 hbr
      refine e_seg (k := 2) (d := (22, [(0, .ref 67), (1, .int x1)], [.int 1], M2)) rfl ?_
      exact e_ret hE rfl rfl (jb_z rfl (by decide)) h
set_option maxRecDepth 100000 in
set_option maxHeartbeats 4000000 in
theorem v_X8_isFree_0 {K : jK} {M : jM} (h : jEv nX8_isFree (2, [(0, .ref 67), (1, .int 3)], [], M) K) : jEv nX8_isFree (0, [(0, .ref 67)], [], M) K := by
  have hE : jMT nX8_isFree = some me_X8_isFree := rfl
  refine e_seg (k := 2) (d := (2, [(0, .ref 67), (1, .int 3)], [], M)) rfl ?_
  refine e_cut (ks := [0, 1]) (L' := [(0, .ref 67), (1, .int 3)]) hE rfl rfl rfl rfl rfl ?_
  exact h
set_option maxRecDepth 100000 in
set_option maxHeartbeats 4000000 in
theorem v_X8_isFree_2 {K : jK} {M : jM} {x1 : Int32} (h : ((x1 ≤ 0 → (((M.2 76 0) = 0 → K (some (some (.int 0))) M) ∧ (¬ ((M.2 76 0) = 0) → K (some (some (.int 1))) M))) ∧ (¬ x1 ≤ 0 → (¬ (x1 < 0 ∨ 4 ≤ x1.toNatClampNeg) ∧ ((0 ≤ (M.2 76 0) → ((0 ≤ (M.2 76 x1.toNatClampNeg) → (((M.2 76 x1.toNatClampNeg) < (M.2 76 0) → (∀ M1 : jM, M1 = jsl M 76 0 (((M.2 76 0) * (M.2 76 0)) - ((M.2 76 x1.toNatClampNeg) * (M.2 76 x1.toNatClampNeg))) → ((x1 = 3 → (∀ M15 : jM, M15 = jsl M1 76 1 (((M.2 76 0) * (M.2 76 1)) - ((M.2 76 x1.toNatClampNeg) * (M.2 76 2))) → (∀ M16 : jM, M16 = jsl M15 76 2 (((M.2 76 0) * (M.2 76 2)) - ((M.2 76 x1.toNatClampNeg) * (M.2 76 1))) → (jEv nX8_common (0, [(0, .long (M16.2 76 0)), (2, .long (M16.2 76 1))], [], M16) (fun o17 M18 => ∃ r19 : Int64, o17 = some (some (.long r19)) ∧ (jEv nX8_common (0, [(0, .long r19), (2, .long (M18.2 76 2))], [], M18) (fun o20 M21 => ∃ r22 : Int64, o20 = some (some (.long r22)) ∧ jEv nX8_isFree (175, [(0, .ref 67), (1, .int x1), (10, .long r22), (12, .int 0)], [], M21) K))))))) ∧ (¬ x1 = 3 → ((x1 = 2 → (∀ M8 : jM, M8 = jsl M1 76 1 (((M.2 76 0) * (M.2 76 1)) - ((M.2 76 x1.toNatClampNeg) * (M.2 76 1))) → (jEv nX8_common (0, [(0, .long (M8.2 76 0)), (2, .long (M8.2 76 1))], [], M8) (fun o9 M10 => ∃ r11 : Int64, o9 = some (some (.long r11)) ∧ (jEv nX8_common (0, [(0, .long r11), (2, .long (M10.2 76 2))], [], M10) (fun o12 M13 => ∃ r14 : Int64, o12 = some (some (.long r14)) ∧ jEv nX8_isFree (175, [(0, .ref 67), (1, .int x1), (10, .long r14), (12, .int 0)], [], M13) K)))))) ∧ (¬ x1 = 2 → (jEv nX8_common (0, [(0, .long (M1.2 76 0)), (2, .long (M1.2 76 1))], [], M1) (fun o2 M3 => ∃ r4 : Int64, o2 = some (some (.long r4)) ∧ (jEv nX8_common (0, [(0, .long r4), (2, .long (M3.2 76 2))], [], M3) (fun o5 M6 => ∃ r7 : Int64, o5 = some (some (.long r7)) ∧ jEv nX8_isFree (175, [(0, .ref 67), (1, .int x1), (10, .long r7), (12, .int 0)], [], M6) K)))))))))) ∧ (¬ ((M.2 76 x1.toNatClampNeg) < (M.2 76 0)) → K (some (some (.int 0))) M))) ∧ (¬ (0 ≤ (M.2 76 x1.toNatClampNeg)) → (((-(M.2 76 x1.toNatClampNeg)) < (M.2 76 0) → (∀ M23 : jM, M23 = jsl M 76 0 (((M.2 76 0) * (M.2 76 0)) - ((M.2 76 x1.toNatClampNeg) * (M.2 76 x1.toNatClampNeg))) → ((x1 = 3 → (∀ M37 : jM, M37 = jsl M23 76 1 (((M.2 76 0) * (M.2 76 1)) - ((M.2 76 x1.toNatClampNeg) * (M.2 76 2))) → (∀ M38 : jM, M38 = jsl M37 76 2 (((M.2 76 0) * (M.2 76 2)) - ((M.2 76 x1.toNatClampNeg) * (M.2 76 1))) → (jEv nX8_common (0, [(0, .long (M38.2 76 0)), (2, .long (M38.2 76 1))], [], M38) (fun o39 M40 => ∃ r41 : Int64, o39 = some (some (.long r41)) ∧ (jEv nX8_common (0, [(0, .long r41), (2, .long (M40.2 76 2))], [], M40) (fun o42 M43 => ∃ r44 : Int64, o42 = some (some (.long r44)) ∧ jEv nX8_isFree (175, [(0, .ref 67), (1, .int x1), (10, .long r44), (12, .int 0)], [], M43) K))))))) ∧ (¬ x1 = 3 → ((x1 = 2 → (∀ M30 : jM, M30 = jsl M23 76 1 (((M.2 76 0) * (M.2 76 1)) - ((M.2 76 x1.toNatClampNeg) * (M.2 76 1))) → (jEv nX8_common (0, [(0, .long (M30.2 76 0)), (2, .long (M30.2 76 1))], [], M30) (fun o31 M32 => ∃ r33 : Int64, o31 = some (some (.long r33)) ∧ (jEv nX8_common (0, [(0, .long r33), (2, .long (M32.2 76 2))], [], M32) (fun o34 M35 => ∃ r36 : Int64, o34 = some (some (.long r36)) ∧ jEv nX8_isFree (175, [(0, .ref 67), (1, .int x1), (10, .long r36), (12, .int 0)], [], M35) K)))))) ∧ (¬ x1 = 2 → (jEv nX8_common (0, [(0, .long (M23.2 76 0)), (2, .long (M23.2 76 1))], [], M23) (fun o24 M25 => ∃ r26 : Int64, o24 = some (some (.long r26)) ∧ (jEv nX8_common (0, [(0, .long r26), (2, .long (M25.2 76 2))], [], M25) (fun o27 M28 => ∃ r29 : Int64, o27 = some (some (.long r29)) ∧ jEv nX8_isFree (175, [(0, .ref 67), (1, .int x1), (10, .long r29), (12, .int 0)], [], M28) K)))))))))) ∧ (¬ ((-(M.2 76 x1.toNatClampNeg)) < (M.2 76 0)) → K (some (some (.int 0))) M))))) ∧ (¬ (0 ≤ (M.2 76 0)) → ((0 ≤ (M.2 76 x1.toNatClampNeg) → (((M.2 76 x1.toNatClampNeg) < (-(M.2 76 0)) → (∀ M45 : jM, M45 = jsl M 76 0 (((M.2 76 0) * (M.2 76 0)) - ((M.2 76 x1.toNatClampNeg) * (M.2 76 x1.toNatClampNeg))) → ((x1 = 3 → (∀ M59 : jM, M59 = jsl M45 76 1 (((M.2 76 0) * (M.2 76 1)) - ((M.2 76 x1.toNatClampNeg) * (M.2 76 2))) → (∀ M60 : jM, M60 = jsl M59 76 2 (((M.2 76 0) * (M.2 76 2)) - ((M.2 76 x1.toNatClampNeg) * (M.2 76 1))) → (jEv nX8_common (0, [(0, .long (M60.2 76 0)), (2, .long (M60.2 76 1))], [], M60) (fun o61 M62 => ∃ r63 : Int64, o61 = some (some (.long r63)) ∧ (jEv nX8_common (0, [(0, .long r63), (2, .long (M62.2 76 2))], [], M62) (fun o64 M65 => ∃ r66 : Int64, o64 = some (some (.long r66)) ∧ jEv nX8_isFree (175, [(0, .ref 67), (1, .int x1), (10, .long r66), (12, .int 0)], [], M65) K))))))) ∧ (¬ x1 = 3 → ((x1 = 2 → (∀ M52 : jM, M52 = jsl M45 76 1 (((M.2 76 0) * (M.2 76 1)) - ((M.2 76 x1.toNatClampNeg) * (M.2 76 1))) → (jEv nX8_common (0, [(0, .long (M52.2 76 0)), (2, .long (M52.2 76 1))], [], M52) (fun o53 M54 => ∃ r55 : Int64, o53 = some (some (.long r55)) ∧ (jEv nX8_common (0, [(0, .long r55), (2, .long (M54.2 76 2))], [], M54) (fun o56 M57 => ∃ r58 : Int64, o56 = some (some (.long r58)) ∧ jEv nX8_isFree (175, [(0, .ref 67), (1, .int x1), (10, .long r58), (12, .int 0)], [], M57) K)))))) ∧ (¬ x1 = 2 → (jEv nX8_common (0, [(0, .long (M45.2 76 0)), (2, .long (M45.2 76 1))], [], M45) (fun o46 M47 => ∃ r48 : Int64, o46 = some (some (.long r48)) ∧ (jEv nX8_common (0, [(0, .long r48), (2, .long (M47.2 76 2))], [], M47) (fun o49 M50 => ∃ r51 : Int64, o49 = some (some (.long r51)) ∧ jEv nX8_isFree (175, [(0, .ref 67), (1, .int x1), (10, .long r51), (12, .int 0)], [], M50) K)))))))))) ∧ (¬ ((M.2 76 x1.toNatClampNeg) < (-(M.2 76 0))) → K (some (some (.int 0))) M))) ∧ (¬ (0 ≤ (M.2 76 x1.toNatClampNeg)) → (((-(M.2 76 x1.toNatClampNeg)) < (-(M.2 76 0)) → (∀ M67 : jM, M67 = jsl M 76 0 (((M.2 76 0) * (M.2 76 0)) - ((M.2 76 x1.toNatClampNeg) * (M.2 76 x1.toNatClampNeg))) → ((x1 = 3 → (∀ M81 : jM, M81 = jsl M67 76 1 (((M.2 76 0) * (M.2 76 1)) - ((M.2 76 x1.toNatClampNeg) * (M.2 76 2))) → (∀ M82 : jM, M82 = jsl M81 76 2 (((M.2 76 0) * (M.2 76 2)) - ((M.2 76 x1.toNatClampNeg) * (M.2 76 1))) → (jEv nX8_common (0, [(0, .long (M82.2 76 0)), (2, .long (M82.2 76 1))], [], M82) (fun o83 M84 => ∃ r85 : Int64, o83 = some (some (.long r85)) ∧ (jEv nX8_common (0, [(0, .long r85), (2, .long (M84.2 76 2))], [], M84) (fun o86 M87 => ∃ r88 : Int64, o86 = some (some (.long r88)) ∧ jEv nX8_isFree (175, [(0, .ref 67), (1, .int x1), (10, .long r88), (12, .int 0)], [], M87) K))))))) ∧ (¬ x1 = 3 → ((x1 = 2 → (∀ M74 : jM, M74 = jsl M67 76 1 (((M.2 76 0) * (M.2 76 1)) - ((M.2 76 x1.toNatClampNeg) * (M.2 76 1))) → (jEv nX8_common (0, [(0, .long (M74.2 76 0)), (2, .long (M74.2 76 1))], [], M74) (fun o75 M76 => ∃ r77 : Int64, o75 = some (some (.long r77)) ∧ (jEv nX8_common (0, [(0, .long r77), (2, .long (M76.2 76 2))], [], M76) (fun o78 M79 => ∃ r80 : Int64, o78 = some (some (.long r80)) ∧ jEv nX8_isFree (175, [(0, .ref 67), (1, .int x1), (10, .long r80), (12, .int 0)], [], M79) K)))))) ∧ (¬ x1 = 2 → (jEv nX8_common (0, [(0, .long (M67.2 76 0)), (2, .long (M67.2 76 1))], [], M67) (fun o68 M69 => ∃ r70 : Int64, o68 = some (some (.long r70)) ∧ (jEv nX8_common (0, [(0, .long r70), (2, .long (M69.2 76 2))], [], M69) (fun o71 M72 => ∃ r73 : Int64, o71 = some (some (.long r73)) ∧ jEv nX8_isFree (175, [(0, .ref 67), (1, .int x1), (10, .long r73), (12, .int 0)], [], M72) K)))))))))) ∧ (¬ ((-(M.2 76 x1.toNatClampNeg)) < (-(M.2 76 0))) → K (some (some (.int 0))) M)))))))))) : jEv nX8_isFree (2, [(0, .ref 67), (1, .int x1)], [], M) K := by
  have hE : jMT nX8_isFree = some me_X8_isFree := rfl
  refine e_seg (k := 1) (d := (3, [(0, .ref 67), (1, .int x1)], [.int x1], M)) rfl ?_
  refine e_if_le (t := 217) (q := 6) hE rfl rfl rfl rfl (fun hbr => ?_) (fun hbr => ?_)
  · replace h := h.1 hbr
    refine e_seg (k := 3) (d := (222, [(0, .ref 67), (1, .int x1)], [.int 0, .ref 76], M)) rfl ?_
    refine e_lald (q := 223) hE rfl rfl rfl rfl (by decide) ?_
    show jEv nX8_isFree (223, [(0, .ref 67), (1, .int x1)], [.long (M.2 76 0)], M) K
    refine e_seg (k := 1) (d := (224, [(0, .ref 67), (1, .int x1)], [.long 0, .long (M.2 76 0)], M)) rfl ?_
    refine e_lc (t := 232) (q := 228) (pc1 := 225) hE rfl rfl rfl rfl rfl rfl (lc_eq (M.2 76 0) 0) rfl rfl (fun hbr => ?_) (fun hbr => ?_)
    · replace h := h.1 hbr
      refine e_seg (k := 1) (d := (233, [(0, .ref 67), (1, .int x1)], [.int 0], M)) rfl ?_
      exact e_ret hE rfl rfl (jb_z rfl (by decide)) h
    · replace h := h.2 hbr
      refine e_seg (k := 2) (d := (233, [(0, .ref 67), (1, .int x1)], [.int 1], M)) rfl ?_
      exact e_ret hE rfl rfl (jb_z rfl (by decide)) h
  · replace h := h.2 hbr
    refine e_seg (k := 3) (d := (11, [(0, .ref 67), (1, .int x1)], [.int 0, .ref 76], M)) rfl ?_
    refine e_lald (q := 12) hE rfl rfl rfl rfl (by decide) ?_
    show jEv nX8_isFree (12, [(0, .ref 67), (1, .int x1)], [.long (M.2 76 0)], M) K
    refine e_seg (k := 4) (d := (18, [(0, .ref 67), (1, .int x1), (2, .long (M.2 76 0))], [.int x1, .ref 76], M)) rfl ?_
    refine e_lald (q := 19) hE rfl rfl rfl rfl h.1 ?_
    replace h := h.2
    refine e_seg (k := 3) (d := (23, [(0, .ref 67), (1, .int x1), (2, .long (M.2 76 0)), (4, .long (M.2 76 x1.toNatClampNeg))], [.long 0, .long (M.2 76 0)], M)) rfl ?_
    refine e_lc (t := 32) (q := 27) (pc1 := 24) hE rfl rfl rfl rfl rfl rfl (lc_ge (M.2 76 0) 0) rfl rfl (fun hbr => ?_) (fun hbr => ?_)
    · replace h := h.1 hbr
      refine e_seg (k := 3) (d := (36, [(0, .ref 67), (1, .int x1), (2, .long (M.2 76 0)), (4, .long (M.2 76 x1.toNatClampNeg))], [.long 0, .long (M.2 76 x1.toNatClampNeg), .long (M.2 76 0)], M)) rfl ?_
      refine e_lc (t := 46) (q := 40) (pc1 := 37) hE rfl rfl rfl rfl rfl rfl (lc_ge (M.2 76 x1.toNatClampNeg) 0) rfl rfl (fun hbr => ?_) (fun hbr => ?_)
      · replace h := h.1 hbr
        refine e_seg (k := 1) (d := (48, [(0, .ref 67), (1, .int x1), (2, .long (M.2 76 0)), (4, .long (M.2 76 x1.toNatClampNeg))], [.long (M.2 76 x1.toNatClampNeg), .long (M.2 76 0)], M)) rfl ?_
        refine e_lc (t := 54) (q := 52) (pc1 := 49) hE rfl rfl rfl rfl rfl rfl (lc_gt (M.2 76 0) (M.2 76 x1.toNatClampNeg)) rfl rfl (fun hbr => ?_) (fun hbr => ?_)
        · replace h := h.1 hbr
          refine e_seg (k := 3) (d := (59, [(0, .ref 67), (1, .int x1), (2, .long (M.2 76 0)), (4, .long (M.2 76 x1.toNatClampNeg))], [.int 1, .ref 76], M)) rfl ?_
          refine e_lald (q := 60) hE rfl rfl rfl rfl (by decide) ?_
          show jEv nX8_isFree (60, [(0, .ref 67), (1, .int x1), (2, .long (M.2 76 0)), (4, .long (M.2 76 x1.toNatClampNeg))], [.long (M.2 76 1)], M) K
          refine e_seg (k := 4) (d := (67, [(0, .ref 67), (1, .int x1), (2, .long (M.2 76 0)), (4, .long (M.2 76 x1.toNatClampNeg)), (6, .long (M.2 76 1))], [.int 2, .ref 76], M)) rfl ?_
          refine e_lald (q := 68) hE rfl rfl rfl rfl (by decide) ?_
          show jEv nX8_isFree (68, [(0, .ref 67), (1, .int x1), (2, .long (M.2 76 0)), (4, .long (M.2 76 x1.toNatClampNeg)), (6, .long (M.2 76 1))], [.long (M.2 76 2)], M) K
          refine e_seg (k := 11) (d := (84, [(0, .ref 67), (1, .int x1), (2, .long (M.2 76 0)), (4, .long (M.2 76 x1.toNatClampNeg)), (6, .long (M.2 76 1)), (8, .long (M.2 76 2))], [.long (((M.2 76 0) * (M.2 76 0)) - ((M.2 76 x1.toNatClampNeg) * (M.2 76 x1.toNatClampNeg))), .int 0, .ref 76], M)) rfl ?_
          refine e_last (q := 85) hE rfl rfl rfl rfl (by decide) ?_
          obtain ⟨M1, hM1⟩ : ∃ z : jM, z = jsl M 76 0 (((M.2 76 0) * (M.2 76 0)) - ((M.2 76 x1.toNatClampNeg) * (M.2 76 x1.toNatClampNeg))) := ⟨_, rfl⟩
          refine jEv_M hM1 ?_
          replace h := h M1 hM1
          refine e_seg (k := 2) (d := (87, [(0, .ref 67), (1, .int x1), (2, .long (M.2 76 0)), (4, .long (M.2 76 x1.toNatClampNeg)), (6, .long (M.2 76 1)), (8, .long (M.2 76 2))], [.int 3, .int x1], M1)) rfl ?_
          refine e_ic_ne (t := 125) (q := 90) hE rfl rfl rfl rfl (fun hbr => ?_) (fun hbr => ?_)
          · replace h := h.2 hbr
            refine e_seg (k := 2) (d := (127, [(0, .ref 67), (1, .int x1), (2, .long (M.2 76 0)), (4, .long (M.2 76 x1.toNatClampNeg)), (6, .long (M.2 76 1)), (8, .long (M.2 76 2))], [.int 2, .int x1], M1)) rfl ?_
            refine e_ic_ne (t := 146) (q := 130) hE rfl rfl rfl rfl (fun hbr => ?_) (fun hbr => ?_)
            · replace h := h.2 hbr
              refine e_seg (k := 3) (d := (151, [(0, .ref 67), (1, .int x1), (2, .long (M.2 76 0)), (4, .long (M.2 76 x1.toNatClampNeg)), (6, .long (M.2 76 1)), (8, .long (M.2 76 2))], [.int 0, .ref 76], M1)) rfl ?_
              refine e_lald (q := 152) hE rfl rfl rfl rfl (by decide) ?_
              show jEv nX8_isFree (152, [(0, .ref 67), (1, .int x1), (2, .long (M.2 76 0)), (4, .long (M.2 76 x1.toNatClampNeg)), (6, .long (M.2 76 1)), (8, .long (M.2 76 2))], [.long (M1.2 76 0)], M1) K
              refine e_seg (k := 3) (d := (157, [(0, .ref 67), (1, .int x1), (2, .long (M.2 76 0)), (4, .long (M.2 76 x1.toNatClampNeg)), (6, .long (M.2 76 1)), (8, .long (M.2 76 2))], [.int 1, .ref 76, .long (M1.2 76 0)], M1)) rfl ?_
              refine e_lald (q := 158) hE rfl rfl rfl rfl (by decide) ?_
              show jEv nX8_isFree (158, [(0, .ref 67), (1, .int x1), (2, .long (M.2 76 0)), (4, .long (M.2 76 x1.toNatClampNeg)), (6, .long (M.2 76 1)), (8, .long (M.2 76 2))], [.long (M1.2 76 1), .long (M1.2 76 0)], M1) K
              refine e_call (q := 161) (L0 := [(0, .long (M1.2 76 0)), (2, .long (M1.2 76 1))]) hE rfl rfl rfl rfl (jargs_S rfl rfl rfl rfl (Nat.le_of_ble_eq_true rfl) (Nat.le_of_ble_eq_true rfl) (Nat.le_of_ble_eq_true rfl)) rfl rfl (jEv.mono h (fun o2 M3 h => ?_))
              obtain ⟨r4, rfl, h⟩ := h
              refine ⟨_, rfl, ?_⟩
              show jEv nX8_isFree (161, [(0, .ref 67), (1, .int x1), (2, .long (M.2 76 0)), (4, .long (M.2 76 x1.toNatClampNeg)), (6, .long (M.2 76 1)), (8, .long (M.2 76 2))], [.long r4], M3) K
              refine e_seg (k := 3) (d := (166, [(0, .ref 67), (1, .int x1), (2, .long (M.2 76 0)), (4, .long (M.2 76 x1.toNatClampNeg)), (6, .long (M.2 76 1)), (8, .long (M.2 76 2))], [.int 2, .ref 76, .long r4], M3)) rfl ?_
              refine e_lald (q := 167) hE rfl rfl rfl rfl (by decide) ?_
              show jEv nX8_isFree (167, [(0, .ref 67), (1, .int x1), (2, .long (M.2 76 0)), (4, .long (M.2 76 x1.toNatClampNeg)), (6, .long (M.2 76 1)), (8, .long (M.2 76 2))], [.long (M3.2 76 2), .long r4], M3) K
              refine e_call (q := 170) (L0 := [(0, .long r4), (2, .long (M3.2 76 2))]) hE rfl rfl rfl rfl (jargs_S rfl rfl rfl rfl (Nat.le_of_ble_eq_true rfl) (Nat.le_of_ble_eq_true rfl) (Nat.le_of_ble_eq_true rfl)) rfl rfl (jEv.mono h (fun o5 M6 h => ?_))
              obtain ⟨r7, rfl, h⟩ := h
              refine ⟨_, rfl, ?_⟩
              show jEv nX8_isFree (170, [(0, .ref 67), (1, .int x1), (2, .long (M.2 76 0)), (4, .long (M.2 76 x1.toNatClampNeg)), (6, .long (M.2 76 1)), (8, .long (M.2 76 2))], [.long r7], M6) K
              refine e_seg (k := 3) (d := (175, [(0, .ref 67), (1, .int x1), (2, .long (M.2 76 0)), (4, .long (M.2 76 x1.toNatClampNeg)), (6, .long (M.2 76 1)), (8, .long (M.2 76 2)), (10, .long r7), (12, .int 0)], [], M6)) rfl ?_
              refine e_cut (ks := [0, 1, 10, 12]) (L' := [(0, .ref 67), (1, .int x1), (10, .long r7), (12, .int 0)]) hE rfl rfl rfl rfl rfl ?_
              exact h
            · replace h := h.1 hbr
              refine e_seg (k := 10) (d := (145, [(0, .ref 67), (1, .int x1), (2, .long (M.2 76 0)), (4, .long (M.2 76 x1.toNatClampNeg)), (6, .long (M.2 76 1)), (8, .long (M.2 76 2))], [.long (((M.2 76 0) * (M.2 76 1)) - ((M.2 76 x1.toNatClampNeg) * (M.2 76 1))), .int 1, .ref 76], M1)) rfl ?_
              refine e_last (q := 146) hE rfl rfl rfl rfl (by decide) ?_
              obtain ⟨M8, hM8⟩ : ∃ z : jM, z = jsl M1 76 1 (((M.2 76 0) * (M.2 76 1)) - ((M.2 76 x1.toNatClampNeg) * (M.2 76 1))) := ⟨_, rfl⟩
              refine jEv_M hM8 ?_
              replace h := h M8 hM8
              refine e_seg (k := 3) (d := (151, [(0, .ref 67), (1, .int x1), (2, .long (M.2 76 0)), (4, .long (M.2 76 x1.toNatClampNeg)), (6, .long (M.2 76 1)), (8, .long (M.2 76 2))], [.int 0, .ref 76], M8)) rfl ?_
              refine e_lald (q := 152) hE rfl rfl rfl rfl (by decide) ?_
              show jEv nX8_isFree (152, [(0, .ref 67), (1, .int x1), (2, .long (M.2 76 0)), (4, .long (M.2 76 x1.toNatClampNeg)), (6, .long (M.2 76 1)), (8, .long (M.2 76 2))], [.long (M8.2 76 0)], M8) K
              refine e_seg (k := 3) (d := (157, [(0, .ref 67), (1, .int x1), (2, .long (M.2 76 0)), (4, .long (M.2 76 x1.toNatClampNeg)), (6, .long (M.2 76 1)), (8, .long (M.2 76 2))], [.int 1, .ref 76, .long (M8.2 76 0)], M8)) rfl ?_
              refine e_lald (q := 158) hE rfl rfl rfl rfl (by decide) ?_
              show jEv nX8_isFree (158, [(0, .ref 67), (1, .int x1), (2, .long (M.2 76 0)), (4, .long (M.2 76 x1.toNatClampNeg)), (6, .long (M.2 76 1)), (8, .long (M.2 76 2))], [.long (M8.2 76 1), .long (M8.2 76 0)], M8) K
              refine e_call (q := 161) (L0 := [(0, .long (M8.2 76 0)), (2, .long (M8.2 76 1))]) hE rfl rfl rfl rfl (jargs_S rfl rfl rfl rfl (Nat.le_of_ble_eq_true rfl) (Nat.le_of_ble_eq_true rfl) (Nat.le_of_ble_eq_true rfl)) rfl rfl (jEv.mono h (fun o9 M10 h => ?_))
              obtain ⟨r11, rfl, h⟩ := h
              refine ⟨_, rfl, ?_⟩
              show jEv nX8_isFree (161, [(0, .ref 67), (1, .int x1), (2, .long (M.2 76 0)), (4, .long (M.2 76 x1.toNatClampNeg)), (6, .long (M.2 76 1)), (8, .long (M.2 76 2))], [.long r11], M10) K
              refine e_seg (k := 3) (d := (166, [(0, .ref 67), (1, .int x1), (2, .long (M.2 76 0)), (4, .long (M.2 76 x1.toNatClampNeg)), (6, .long (M.2 76 1)), (8, .long (M.2 76 2))], [.int 2, .ref 76, .long r11], M10)) rfl ?_
              refine e_lald (q := 167) hE rfl rfl rfl rfl (by decide) ?_
              show jEv nX8_isFree (167, [(0, .ref 67), (1, .int x1), (2, .long (M.2 76 0)), (4, .long (M.2 76 x1.toNatClampNeg)), (6, .long (M.2 76 1)), (8, .long (M.2 76 2))], [.long (M10.2 76 2), .long r11], M10) K
              refine e_call (q := 170) (L0 := [(0, .long r11), (2, .long (M10.2 76 2))]) hE rfl rfl rfl rfl (jargs_S rfl rfl rfl rfl (Nat.le_of_ble_eq_true rfl) (Nat.le_of_ble_eq_true rfl) (Nat.le_of_ble_eq_true rfl)) rfl rfl (jEv.mono h (fun o12 M13 h => ?_))
              obtain ⟨r14, rfl, h⟩ := h
              refine ⟨_, rfl, ?_⟩
              show jEv nX8_isFree (170, [(0, .ref 67), (1, .int x1), (2, .long (M.2 76 0)), (4, .long (M.2 76 x1.toNatClampNeg)), (6, .long (M.2 76 1)), (8, .long (M.2 76 2))], [.long r14], M13) K
              refine e_seg (k := 3) (d := (175, [(0, .ref 67), (1, .int x1), (2, .long (M.2 76 0)), (4, .long (M.2 76 x1.toNatClampNeg)), (6, .long (M.2 76 1)), (8, .long (M.2 76 2)), (10, .long r14), (12, .int 0)], [], M13)) rfl ?_
              refine e_cut (ks := [0, 1, 10, 12]) (L' := [(0, .ref 67), (1, .int x1), (10, .long r14), (12, .int 0)]) hE rfl rfl rfl rfl rfl ?_
              exact h
          · replace h := h.1 hbr
            refine e_seg (k := 10) (d := (105, [(0, .ref 67), (1, .int x1), (2, .long (M.2 76 0)), (4, .long (M.2 76 x1.toNatClampNeg)), (6, .long (M.2 76 1)), (8, .long (M.2 76 2))], [.long (((M.2 76 0) * (M.2 76 1)) - ((M.2 76 x1.toNatClampNeg) * (M.2 76 2))), .int 1, .ref 76], M1)) rfl ?_
            refine e_last (q := 106) hE rfl rfl rfl rfl (by decide) ?_
            obtain ⟨M15, hM15⟩ : ∃ z : jM, z = jsl M1 76 1 (((M.2 76 0) * (M.2 76 1)) - ((M.2 76 x1.toNatClampNeg) * (M.2 76 2))) := ⟨_, rfl⟩
            refine jEv_M hM15 ?_
            replace h := h M15 hM15
            refine e_seg (k := 10) (d := (121, [(0, .ref 67), (1, .int x1), (2, .long (M.2 76 0)), (4, .long (M.2 76 x1.toNatClampNeg)), (6, .long (M.2 76 1)), (8, .long (M.2 76 2))], [.long (((M.2 76 0) * (M.2 76 2)) - ((M.2 76 x1.toNatClampNeg) * (M.2 76 1))), .int 2, .ref 76], M15)) rfl ?_
            refine e_last (q := 122) hE rfl rfl rfl rfl (by decide) ?_
            obtain ⟨M16, hM16⟩ : ∃ z : jM, z = jsl M15 76 2 (((M.2 76 0) * (M.2 76 2)) - ((M.2 76 x1.toNatClampNeg) * (M.2 76 1))) := ⟨_, rfl⟩
            refine jEv_M hM16 ?_
            replace h := h M16 hM16
            refine e_seg (k := 4) (d := (151, [(0, .ref 67), (1, .int x1), (2, .long (M.2 76 0)), (4, .long (M.2 76 x1.toNatClampNeg)), (6, .long (M.2 76 1)), (8, .long (M.2 76 2))], [.int 0, .ref 76], M16)) rfl ?_
            refine e_lald (q := 152) hE rfl rfl rfl rfl (by decide) ?_
            show jEv nX8_isFree (152, [(0, .ref 67), (1, .int x1), (2, .long (M.2 76 0)), (4, .long (M.2 76 x1.toNatClampNeg)), (6, .long (M.2 76 1)), (8, .long (M.2 76 2))], [.long (M16.2 76 0)], M16) K
            refine e_seg (k := 3) (d := (157, [(0, .ref 67), (1, .int x1), (2, .long (M.2 76 0)), (4, .long (M.2 76 x1.toNatClampNeg)), (6, .long (M.2 76 1)), (8, .long (M.2 76 2))], [.int 1, .ref 76, .long (M16.2 76 0)], M16)) rfl ?_
            refine e_lald (q := 158) hE rfl rfl rfl rfl (by decide) ?_
            show jEv nX8_isFree (158, [(0, .ref 67), (1, .int x1), (2, .long (M.2 76 0)), (4, .long (M.2 76 x1.toNatClampNeg)), (6, .long (M.2 76 1)), (8, .long (M.2 76 2))], [.long (M16.2 76 1), .long (M16.2 76 0)], M16) K
            refine e_call (q := 161) (L0 := [(0, .long (M16.2 76 0)), (2, .long (M16.2 76 1))]) hE rfl rfl rfl rfl (jargs_S rfl rfl rfl rfl (Nat.le_of_ble_eq_true rfl) (Nat.le_of_ble_eq_true rfl) (Nat.le_of_ble_eq_true rfl)) rfl rfl (jEv.mono h (fun o17 M18 h => ?_))
            obtain ⟨r19, rfl, h⟩ := h
            refine ⟨_, rfl, ?_⟩
            show jEv nX8_isFree (161, [(0, .ref 67), (1, .int x1), (2, .long (M.2 76 0)), (4, .long (M.2 76 x1.toNatClampNeg)), (6, .long (M.2 76 1)), (8, .long (M.2 76 2))], [.long r19], M18) K
            refine e_seg (k := 3) (d := (166, [(0, .ref 67), (1, .int x1), (2, .long (M.2 76 0)), (4, .long (M.2 76 x1.toNatClampNeg)), (6, .long (M.2 76 1)), (8, .long (M.2 76 2))], [.int 2, .ref 76, .long r19], M18)) rfl ?_
            refine e_lald (q := 167) hE rfl rfl rfl rfl (by decide) ?_
            show jEv nX8_isFree (167, [(0, .ref 67), (1, .int x1), (2, .long (M.2 76 0)), (4, .long (M.2 76 x1.toNatClampNeg)), (6, .long (M.2 76 1)), (8, .long (M.2 76 2))], [.long (M18.2 76 2), .long r19], M18) K
            refine e_call (q := 170) (L0 := [(0, .long r19), (2, .long (M18.2 76 2))]) hE rfl rfl rfl rfl (jargs_S rfl rfl rfl rfl (Nat.le_of_ble_eq_true rfl) (Nat.le_of_ble_eq_true rfl) (Nat.le_of_ble_eq_true rfl)) rfl rfl (jEv.mono h (fun o20 M21 h => ?_))
            obtain ⟨r22, rfl, h⟩ := h
            refine ⟨_, rfl, ?_⟩
            show jEv nX8_isFree (170, [(0, .ref 67), (1, .int x1), (2, .long (M.2 76 0)), (4, .long (M.2 76 x1.toNatClampNeg)), (6, .long (M.2 76 1)), (8, .long (M.2 76 2))], [.long r22], M21) K
            refine e_seg (k := 3) (d := (175, [(0, .ref 67), (1, .int x1), (2, .long (M.2 76 0)), (4, .long (M.2 76 x1.toNatClampNeg)), (6, .long (M.2 76 1)), (8, .long (M.2 76 2)), (10, .long r22), (12, .int 0)], [], M21)) rfl ?_
            refine e_cut (ks := [0, 1, 10, 12]) (L' := [(0, .ref 67), (1, .int x1), (10, .long r22), (12, .int 0)]) hE rfl rfl rfl rfl rfl ?_
            exact h
        · replace h := h.2 hbr
          refine e_seg (k := 1) (d := (53, [(0, .ref 67), (1, .int x1), (2, .long (M.2 76 0)), (4, .long (M.2 76 x1.toNatClampNeg))], [.int 0], M)) rfl ?_
          exact e_ret hE rfl rfl (jb_z rfl (by decide)) h
      · replace h := h.2 hbr
        refine e_seg (k := 3) (d := (48, [(0, .ref 67), (1, .int x1), (2, .long (M.2 76 0)), (4, .long (M.2 76 x1.toNatClampNeg))], [.long (-(M.2 76 x1.toNatClampNeg)), .long (M.2 76 0)], M)) rfl ?_
        refine e_lc (t := 54) (q := 52) (pc1 := 49) hE rfl rfl rfl rfl rfl rfl (lc_gt (M.2 76 0) (-(M.2 76 x1.toNatClampNeg))) rfl rfl (fun hbr => ?_) (fun hbr => ?_)
        · replace h := h.1 hbr
          refine e_seg (k := 3) (d := (59, [(0, .ref 67), (1, .int x1), (2, .long (M.2 76 0)), (4, .long (M.2 76 x1.toNatClampNeg))], [.int 1, .ref 76], M)) rfl ?_
          refine e_lald (q := 60) hE rfl rfl rfl rfl (by decide) ?_
          show jEv nX8_isFree (60, [(0, .ref 67), (1, .int x1), (2, .long (M.2 76 0)), (4, .long (M.2 76 x1.toNatClampNeg))], [.long (M.2 76 1)], M) K
          refine e_seg (k := 4) (d := (67, [(0, .ref 67), (1, .int x1), (2, .long (M.2 76 0)), (4, .long (M.2 76 x1.toNatClampNeg)), (6, .long (M.2 76 1))], [.int 2, .ref 76], M)) rfl ?_
          refine e_lald (q := 68) hE rfl rfl rfl rfl (by decide) ?_
          show jEv nX8_isFree (68, [(0, .ref 67), (1, .int x1), (2, .long (M.2 76 0)), (4, .long (M.2 76 x1.toNatClampNeg)), (6, .long (M.2 76 1))], [.long (M.2 76 2)], M) K
          refine e_seg (k := 11) (d := (84, [(0, .ref 67), (1, .int x1), (2, .long (M.2 76 0)), (4, .long (M.2 76 x1.toNatClampNeg)), (6, .long (M.2 76 1)), (8, .long (M.2 76 2))], [.long (((M.2 76 0) * (M.2 76 0)) - ((M.2 76 x1.toNatClampNeg) * (M.2 76 x1.toNatClampNeg))), .int 0, .ref 76], M)) rfl ?_
          refine e_last (q := 85) hE rfl rfl rfl rfl (by decide) ?_
          obtain ⟨M23, hM23⟩ : ∃ z : jM, z = jsl M 76 0 (((M.2 76 0) * (M.2 76 0)) - ((M.2 76 x1.toNatClampNeg) * (M.2 76 x1.toNatClampNeg))) := ⟨_, rfl⟩
          refine jEv_M hM23 ?_
          replace h := h M23 hM23
          refine e_seg (k := 2) (d := (87, [(0, .ref 67), (1, .int x1), (2, .long (M.2 76 0)), (4, .long (M.2 76 x1.toNatClampNeg)), (6, .long (M.2 76 1)), (8, .long (M.2 76 2))], [.int 3, .int x1], M23)) rfl ?_
          refine e_ic_ne (t := 125) (q := 90) hE rfl rfl rfl rfl (fun hbr => ?_) (fun hbr => ?_)
          · replace h := h.2 hbr
            refine e_seg (k := 2) (d := (127, [(0, .ref 67), (1, .int x1), (2, .long (M.2 76 0)), (4, .long (M.2 76 x1.toNatClampNeg)), (6, .long (M.2 76 1)), (8, .long (M.2 76 2))], [.int 2, .int x1], M23)) rfl ?_
            refine e_ic_ne (t := 146) (q := 130) hE rfl rfl rfl rfl (fun hbr => ?_) (fun hbr => ?_)
            · replace h := h.2 hbr
              refine e_seg (k := 3) (d := (151, [(0, .ref 67), (1, .int x1), (2, .long (M.2 76 0)), (4, .long (M.2 76 x1.toNatClampNeg)), (6, .long (M.2 76 1)), (8, .long (M.2 76 2))], [.int 0, .ref 76], M23)) rfl ?_
              refine e_lald (q := 152) hE rfl rfl rfl rfl (by decide) ?_
              show jEv nX8_isFree (152, [(0, .ref 67), (1, .int x1), (2, .long (M.2 76 0)), (4, .long (M.2 76 x1.toNatClampNeg)), (6, .long (M.2 76 1)), (8, .long (M.2 76 2))], [.long (M23.2 76 0)], M23) K
              refine e_seg (k := 3) (d := (157, [(0, .ref 67), (1, .int x1), (2, .long (M.2 76 0)), (4, .long (M.2 76 x1.toNatClampNeg)), (6, .long (M.2 76 1)), (8, .long (M.2 76 2))], [.int 1, .ref 76, .long (M23.2 76 0)], M23)) rfl ?_
              refine e_lald (q := 158) hE rfl rfl rfl rfl (by decide) ?_
              show jEv nX8_isFree (158, [(0, .ref 67), (1, .int x1), (2, .long (M.2 76 0)), (4, .long (M.2 76 x1.toNatClampNeg)), (6, .long (M.2 76 1)), (8, .long (M.2 76 2))], [.long (M23.2 76 1), .long (M23.2 76 0)], M23) K
              refine e_call (q := 161) (L0 := [(0, .long (M23.2 76 0)), (2, .long (M23.2 76 1))]) hE rfl rfl rfl rfl (jargs_S rfl rfl rfl rfl (Nat.le_of_ble_eq_true rfl) (Nat.le_of_ble_eq_true rfl) (Nat.le_of_ble_eq_true rfl)) rfl rfl (jEv.mono h (fun o24 M25 h => ?_))
              obtain ⟨r26, rfl, h⟩ := h
              refine ⟨_, rfl, ?_⟩
              show jEv nX8_isFree (161, [(0, .ref 67), (1, .int x1), (2, .long (M.2 76 0)), (4, .long (M.2 76 x1.toNatClampNeg)), (6, .long (M.2 76 1)), (8, .long (M.2 76 2))], [.long r26], M25) K
              refine e_seg (k := 3) (d := (166, [(0, .ref 67), (1, .int x1), (2, .long (M.2 76 0)), (4, .long (M.2 76 x1.toNatClampNeg)), (6, .long (M.2 76 1)), (8, .long (M.2 76 2))], [.int 2, .ref 76, .long r26], M25)) rfl ?_
              refine e_lald (q := 167) hE rfl rfl rfl rfl (by decide) ?_
              show jEv nX8_isFree (167, [(0, .ref 67), (1, .int x1), (2, .long (M.2 76 0)), (4, .long (M.2 76 x1.toNatClampNeg)), (6, .long (M.2 76 1)), (8, .long (M.2 76 2))], [.long (M25.2 76 2), .long r26], M25) K
              refine e_call (q := 170) (L0 := [(0, .long r26), (2, .long (M25.2 76 2))]) hE rfl rfl rfl rfl (jargs_S rfl rfl rfl rfl (Nat.le_of_ble_eq_true rfl) (Nat.le_of_ble_eq_true rfl) (Nat.le_of_ble_eq_true rfl)) rfl rfl (jEv.mono h (fun o27 M28 h => ?_))
              obtain ⟨r29, rfl, h⟩ := h
              refine ⟨_, rfl, ?_⟩
              show jEv nX8_isFree (170, [(0, .ref 67), (1, .int x1), (2, .long (M.2 76 0)), (4, .long (M.2 76 x1.toNatClampNeg)), (6, .long (M.2 76 1)), (8, .long (M.2 76 2))], [.long r29], M28) K
              refine e_seg (k := 3) (d := (175, [(0, .ref 67), (1, .int x1), (2, .long (M.2 76 0)), (4, .long (M.2 76 x1.toNatClampNeg)), (6, .long (M.2 76 1)), (8, .long (M.2 76 2)), (10, .long r29), (12, .int 0)], [], M28)) rfl ?_
              refine e_cut (ks := [0, 1, 10, 12]) (L' := [(0, .ref 67), (1, .int x1), (10, .long r29), (12, .int 0)]) hE rfl rfl rfl rfl rfl ?_
              exact h
            · replace h := h.1 hbr
              refine e_seg (k := 10) (d := (145, [(0, .ref 67), (1, .int x1), (2, .long (M.2 76 0)), (4, .long (M.2 76 x1.toNatClampNeg)), (6, .long (M.2 76 1)), (8, .long (M.2 76 2))], [.long (((M.2 76 0) * (M.2 76 1)) - ((M.2 76 x1.toNatClampNeg) * (M.2 76 1))), .int 1, .ref 76], M23)) rfl ?_
              refine e_last (q := 146) hE rfl rfl rfl rfl (by decide) ?_
              obtain ⟨M30, hM30⟩ : ∃ z : jM, z = jsl M23 76 1 (((M.2 76 0) * (M.2 76 1)) - ((M.2 76 x1.toNatClampNeg) * (M.2 76 1))) := ⟨_, rfl⟩
              refine jEv_M hM30 ?_
              replace h := h M30 hM30
              refine e_seg (k := 3) (d := (151, [(0, .ref 67), (1, .int x1), (2, .long (M.2 76 0)), (4, .long (M.2 76 x1.toNatClampNeg)), (6, .long (M.2 76 1)), (8, .long (M.2 76 2))], [.int 0, .ref 76], M30)) rfl ?_
              refine e_lald (q := 152) hE rfl rfl rfl rfl (by decide) ?_
              show jEv nX8_isFree (152, [(0, .ref 67), (1, .int x1), (2, .long (M.2 76 0)), (4, .long (M.2 76 x1.toNatClampNeg)), (6, .long (M.2 76 1)), (8, .long (M.2 76 2))], [.long (M30.2 76 0)], M30) K
              refine e_seg (k := 3) (d := (157, [(0, .ref 67), (1, .int x1), (2, .long (M.2 76 0)), (4, .long (M.2 76 x1.toNatClampNeg)), (6, .long (M.2 76 1)), (8, .long (M.2 76 2))], [.int 1, .ref 76, .long (M30.2 76 0)], M30)) rfl ?_
              refine e_lald (q := 158) hE rfl rfl rfl rfl (by decide) ?_
              show jEv nX8_isFree (158, [(0, .ref 67), (1, .int x1), (2, .long (M.2 76 0)), (4, .long (M.2 76 x1.toNatClampNeg)), (6, .long (M.2 76 1)), (8, .long (M.2 76 2))], [.long (M30.2 76 1), .long (M30.2 76 0)], M30) K
              refine e_call (q := 161) (L0 := [(0, .long (M30.2 76 0)), (2, .long (M30.2 76 1))]) hE rfl rfl rfl rfl (jargs_S rfl rfl rfl rfl (Nat.le_of_ble_eq_true rfl) (Nat.le_of_ble_eq_true rfl) (Nat.le_of_ble_eq_true rfl)) rfl rfl (jEv.mono h (fun o31 M32 h => ?_))
              obtain ⟨r33, rfl, h⟩ := h
              refine ⟨_, rfl, ?_⟩
              show jEv nX8_isFree (161, [(0, .ref 67), (1, .int x1), (2, .long (M.2 76 0)), (4, .long (M.2 76 x1.toNatClampNeg)), (6, .long (M.2 76 1)), (8, .long (M.2 76 2))], [.long r33], M32) K
              refine e_seg (k := 3) (d := (166, [(0, .ref 67), (1, .int x1), (2, .long (M.2 76 0)), (4, .long (M.2 76 x1.toNatClampNeg)), (6, .long (M.2 76 1)), (8, .long (M.2 76 2))], [.int 2, .ref 76, .long r33], M32)) rfl ?_
              refine e_lald (q := 167) hE rfl rfl rfl rfl (by decide) ?_
              show jEv nX8_isFree (167, [(0, .ref 67), (1, .int x1), (2, .long (M.2 76 0)), (4, .long (M.2 76 x1.toNatClampNeg)), (6, .long (M.2 76 1)), (8, .long (M.2 76 2))], [.long (M32.2 76 2), .long r33], M32) K
              refine e_call (q := 170) (L0 := [(0, .long r33), (2, .long (M32.2 76 2))]) hE rfl rfl rfl rfl (jargs_S rfl rfl rfl rfl (Nat.le_of_ble_eq_true rfl) (Nat.le_of_ble_eq_true rfl) (Nat.le_of_ble_eq_true rfl)) rfl rfl (jEv.mono h (fun o34 M35 h => ?_))
              obtain ⟨r36, rfl, h⟩ := h
              refine ⟨_, rfl, ?_⟩
              show jEv nX8_isFree (170, [(0, .ref 67), (1, .int x1), (2, .long (M.2 76 0)), (4, .long (M.2 76 x1.toNatClampNeg)), (6, .long (M.2 76 1)), (8, .long (M.2 76 2))], [.long r36], M35) K
              refine e_seg (k := 3) (d := (175, [(0, .ref 67), (1, .int x1), (2, .long (M.2 76 0)), (4, .long (M.2 76 x1.toNatClampNeg)), (6, .long (M.2 76 1)), (8, .long (M.2 76 2)), (10, .long r36), (12, .int 0)], [], M35)) rfl ?_
              refine e_cut (ks := [0, 1, 10, 12]) (L' := [(0, .ref 67), (1, .int x1), (10, .long r36), (12, .int 0)]) hE rfl rfl rfl rfl rfl ?_
              exact h
          · replace h := h.1 hbr
            refine e_seg (k := 10) (d := (105, [(0, .ref 67), (1, .int x1), (2, .long (M.2 76 0)), (4, .long (M.2 76 x1.toNatClampNeg)), (6, .long (M.2 76 1)), (8, .long (M.2 76 2))], [.long (((M.2 76 0) * (M.2 76 1)) - ((M.2 76 x1.toNatClampNeg) * (M.2 76 2))), .int 1, .ref 76], M23)) rfl ?_
            refine e_last (q := 106) hE rfl rfl rfl rfl (by decide) ?_
            obtain ⟨M37, hM37⟩ : ∃ z : jM, z = jsl M23 76 1 (((M.2 76 0) * (M.2 76 1)) - ((M.2 76 x1.toNatClampNeg) * (M.2 76 2))) := ⟨_, rfl⟩
            refine jEv_M hM37 ?_
            replace h := h M37 hM37
            refine e_seg (k := 10) (d := (121, [(0, .ref 67), (1, .int x1), (2, .long (M.2 76 0)), (4, .long (M.2 76 x1.toNatClampNeg)), (6, .long (M.2 76 1)), (8, .long (M.2 76 2))], [.long (((M.2 76 0) * (M.2 76 2)) - ((M.2 76 x1.toNatClampNeg) * (M.2 76 1))), .int 2, .ref 76], M37)) rfl ?_
            refine e_last (q := 122) hE rfl rfl rfl rfl (by decide) ?_
            obtain ⟨M38, hM38⟩ : ∃ z : jM, z = jsl M37 76 2 (((M.2 76 0) * (M.2 76 2)) - ((M.2 76 x1.toNatClampNeg) * (M.2 76 1))) := ⟨_, rfl⟩
            refine jEv_M hM38 ?_
            replace h := h M38 hM38
            refine e_seg (k := 4) (d := (151, [(0, .ref 67), (1, .int x1), (2, .long (M.2 76 0)), (4, .long (M.2 76 x1.toNatClampNeg)), (6, .long (M.2 76 1)), (8, .long (M.2 76 2))], [.int 0, .ref 76], M38)) rfl ?_
            refine e_lald (q := 152) hE rfl rfl rfl rfl (by decide) ?_
            show jEv nX8_isFree (152, [(0, .ref 67), (1, .int x1), (2, .long (M.2 76 0)), (4, .long (M.2 76 x1.toNatClampNeg)), (6, .long (M.2 76 1)), (8, .long (M.2 76 2))], [.long (M38.2 76 0)], M38) K
            refine e_seg (k := 3) (d := (157, [(0, .ref 67), (1, .int x1), (2, .long (M.2 76 0)), (4, .long (M.2 76 x1.toNatClampNeg)), (6, .long (M.2 76 1)), (8, .long (M.2 76 2))], [.int 1, .ref 76, .long (M38.2 76 0)], M38)) rfl ?_
            refine e_lald (q := 158) hE rfl rfl rfl rfl (by decide) ?_
            show jEv nX8_isFree (158, [(0, .ref 67), (1, .int x1), (2, .long (M.2 76 0)), (4, .long (M.2 76 x1.toNatClampNeg)), (6, .long (M.2 76 1)), (8, .long (M.2 76 2))], [.long (M38.2 76 1), .long (M38.2 76 0)], M38) K
            refine e_call (q := 161) (L0 := [(0, .long (M38.2 76 0)), (2, .long (M38.2 76 1))]) hE rfl rfl rfl rfl (jargs_S rfl rfl rfl rfl (Nat.le_of_ble_eq_true rfl) (Nat.le_of_ble_eq_true rfl) (Nat.le_of_ble_eq_true rfl)) rfl rfl (jEv.mono h (fun o39 M40 h => ?_))
            obtain ⟨r41, rfl, h⟩ := h
            refine ⟨_, rfl, ?_⟩
            show jEv nX8_isFree (161, [(0, .ref 67), (1, .int x1), (2, .long (M.2 76 0)), (4, .long (M.2 76 x1.toNatClampNeg)), (6, .long (M.2 76 1)), (8, .long (M.2 76 2))], [.long r41], M40) K
            refine e_seg (k := 3) (d := (166, [(0, .ref 67), (1, .int x1), (2, .long (M.2 76 0)), (4, .long (M.2 76 x1.toNatClampNeg)), (6, .long (M.2 76 1)), (8, .long (M.2 76 2))], [.int 2, .ref 76, .long r41], M40)) rfl ?_
            refine e_lald (q := 167) hE rfl rfl rfl rfl (by decide) ?_
            show jEv nX8_isFree (167, [(0, .ref 67), (1, .int x1), (2, .long (M.2 76 0)), (4, .long (M.2 76 x1.toNatClampNeg)), (6, .long (M.2 76 1)), (8, .long (M.2 76 2))], [.long (M40.2 76 2), .long r41], M40) K
            refine e_call (q := 170) (L0 := [(0, .long r41), (2, .long (M40.2 76 2))]) hE rfl rfl rfl rfl (jargs_S rfl rfl rfl rfl (Nat.le_of_ble_eq_true rfl) (Nat.le_of_ble_eq_true rfl) (Nat.le_of_ble_eq_true rfl)) rfl rfl (jEv.mono h (fun o42 M43 h => ?_))
            obtain ⟨r44, rfl, h⟩ := h
            refine ⟨_, rfl, ?_⟩
            show jEv nX8_isFree (170, [(0, .ref 67), (1, .int x1), (2, .long (M.2 76 0)), (4, .long (M.2 76 x1.toNatClampNeg)), (6, .long (M.2 76 1)), (8, .long (M.2 76 2))], [.long r44], M43) K
            refine e_seg (k := 3) (d := (175, [(0, .ref 67), (1, .int x1), (2, .long (M.2 76 0)), (4, .long (M.2 76 x1.toNatClampNeg)), (6, .long (M.2 76 1)), (8, .long (M.2 76 2)), (10, .long r44), (12, .int 0)], [], M43)) rfl ?_
            refine e_cut (ks := [0, 1, 10, 12]) (L' := [(0, .ref 67), (1, .int x1), (10, .long r44), (12, .int 0)]) hE rfl rfl rfl rfl rfl ?_
            exact h
        · replace h := h.2 hbr
          refine e_seg (k := 1) (d := (53, [(0, .ref 67), (1, .int x1), (2, .long (M.2 76 0)), (4, .long (M.2 76 x1.toNatClampNeg))], [.int 0], M)) rfl ?_
          exact e_ret hE rfl rfl (jb_z rfl (by decide)) h
    · replace h := h.2 hbr
      refine e_seg (k := 5) (d := (36, [(0, .ref 67), (1, .int x1), (2, .long (M.2 76 0)), (4, .long (M.2 76 x1.toNatClampNeg))], [.long 0, .long (M.2 76 x1.toNatClampNeg), .long (-(M.2 76 0))], M)) rfl ?_
      refine e_lc (t := 46) (q := 40) (pc1 := 37) hE rfl rfl rfl rfl rfl rfl (lc_ge (M.2 76 x1.toNatClampNeg) 0) rfl rfl (fun hbr => ?_) (fun hbr => ?_)
      · replace h := h.1 hbr
        refine e_seg (k := 1) (d := (48, [(0, .ref 67), (1, .int x1), (2, .long (M.2 76 0)), (4, .long (M.2 76 x1.toNatClampNeg))], [.long (M.2 76 x1.toNatClampNeg), .long (-(M.2 76 0))], M)) rfl ?_
        refine e_lc (t := 54) (q := 52) (pc1 := 49) hE rfl rfl rfl rfl rfl rfl (lc_gt (-(M.2 76 0)) (M.2 76 x1.toNatClampNeg)) rfl rfl (fun hbr => ?_) (fun hbr => ?_)
        · replace h := h.1 hbr
          refine e_seg (k := 3) (d := (59, [(0, .ref 67), (1, .int x1), (2, .long (M.2 76 0)), (4, .long (M.2 76 x1.toNatClampNeg))], [.int 1, .ref 76], M)) rfl ?_
          refine e_lald (q := 60) hE rfl rfl rfl rfl (by decide) ?_
          show jEv nX8_isFree (60, [(0, .ref 67), (1, .int x1), (2, .long (M.2 76 0)), (4, .long (M.2 76 x1.toNatClampNeg))], [.long (M.2 76 1)], M) K
          refine e_seg (k := 4) (d := (67, [(0, .ref 67), (1, .int x1), (2, .long (M.2 76 0)), (4, .long (M.2 76 x1.toNatClampNeg)), (6, .long (M.2 76 1))], [.int 2, .ref 76], M)) rfl ?_
          refine e_lald (q := 68) hE rfl rfl rfl rfl (by decide) ?_
          show jEv nX8_isFree (68, [(0, .ref 67), (1, .int x1), (2, .long (M.2 76 0)), (4, .long (M.2 76 x1.toNatClampNeg)), (6, .long (M.2 76 1))], [.long (M.2 76 2)], M) K
          refine e_seg (k := 11) (d := (84, [(0, .ref 67), (1, .int x1), (2, .long (M.2 76 0)), (4, .long (M.2 76 x1.toNatClampNeg)), (6, .long (M.2 76 1)), (8, .long (M.2 76 2))], [.long (((M.2 76 0) * (M.2 76 0)) - ((M.2 76 x1.toNatClampNeg) * (M.2 76 x1.toNatClampNeg))), .int 0, .ref 76], M)) rfl ?_
          refine e_last (q := 85) hE rfl rfl rfl rfl (by decide) ?_
          obtain ⟨M45, hM45⟩ : ∃ z : jM, z = jsl M 76 0 (((M.2 76 0) * (M.2 76 0)) - ((M.2 76 x1.toNatClampNeg) * (M.2 76 x1.toNatClampNeg))) := ⟨_, rfl⟩
          refine jEv_M hM45 ?_
          replace h := h M45 hM45
          refine e_seg (k := 2) (d := (87, [(0, .ref 67), (1, .int x1), (2, .long (M.2 76 0)), (4, .long (M.2 76 x1.toNatClampNeg)), (6, .long (M.2 76 1)), (8, .long (M.2 76 2))], [.int 3, .int x1], M45)) rfl ?_
          refine e_ic_ne (t := 125) (q := 90) hE rfl rfl rfl rfl (fun hbr => ?_) (fun hbr => ?_)
          · replace h := h.2 hbr
            refine e_seg (k := 2) (d := (127, [(0, .ref 67), (1, .int x1), (2, .long (M.2 76 0)), (4, .long (M.2 76 x1.toNatClampNeg)), (6, .long (M.2 76 1)), (8, .long (M.2 76 2))], [.int 2, .int x1], M45)) rfl ?_
            refine e_ic_ne (t := 146) (q := 130) hE rfl rfl rfl rfl (fun hbr => ?_) (fun hbr => ?_)
            · replace h := h.2 hbr
              refine e_seg (k := 3) (d := (151, [(0, .ref 67), (1, .int x1), (2, .long (M.2 76 0)), (4, .long (M.2 76 x1.toNatClampNeg)), (6, .long (M.2 76 1)), (8, .long (M.2 76 2))], [.int 0, .ref 76], M45)) rfl ?_
              refine e_lald (q := 152) hE rfl rfl rfl rfl (by decide) ?_
              show jEv nX8_isFree (152, [(0, .ref 67), (1, .int x1), (2, .long (M.2 76 0)), (4, .long (M.2 76 x1.toNatClampNeg)), (6, .long (M.2 76 1)), (8, .long (M.2 76 2))], [.long (M45.2 76 0)], M45) K
              refine e_seg (k := 3) (d := (157, [(0, .ref 67), (1, .int x1), (2, .long (M.2 76 0)), (4, .long (M.2 76 x1.toNatClampNeg)), (6, .long (M.2 76 1)), (8, .long (M.2 76 2))], [.int 1, .ref 76, .long (M45.2 76 0)], M45)) rfl ?_
              refine e_lald (q := 158) hE rfl rfl rfl rfl (by decide) ?_
              show jEv nX8_isFree (158, [(0, .ref 67), (1, .int x1), (2, .long (M.2 76 0)), (4, .long (M.2 76 x1.toNatClampNeg)), (6, .long (M.2 76 1)), (8, .long (M.2 76 2))], [.long (M45.2 76 1), .long (M45.2 76 0)], M45) K
              refine e_call (q := 161) (L0 := [(0, .long (M45.2 76 0)), (2, .long (M45.2 76 1))]) hE rfl rfl rfl rfl (jargs_S rfl rfl rfl rfl (Nat.le_of_ble_eq_true rfl) (Nat.le_of_ble_eq_true rfl) (Nat.le_of_ble_eq_true rfl)) rfl rfl (jEv.mono h (fun o46 M47 h => ?_))
              obtain ⟨r48, rfl, h⟩ := h
              refine ⟨_, rfl, ?_⟩
              show jEv nX8_isFree (161, [(0, .ref 67), (1, .int x1), (2, .long (M.2 76 0)), (4, .long (M.2 76 x1.toNatClampNeg)), (6, .long (M.2 76 1)), (8, .long (M.2 76 2))], [.long r48], M47) K
              refine e_seg (k := 3) (d := (166, [(0, .ref 67), (1, .int x1), (2, .long (M.2 76 0)), (4, .long (M.2 76 x1.toNatClampNeg)), (6, .long (M.2 76 1)), (8, .long (M.2 76 2))], [.int 2, .ref 76, .long r48], M47)) rfl ?_
              refine e_lald (q := 167) hE rfl rfl rfl rfl (by decide) ?_
              show jEv nX8_isFree (167, [(0, .ref 67), (1, .int x1), (2, .long (M.2 76 0)), (4, .long (M.2 76 x1.toNatClampNeg)), (6, .long (M.2 76 1)), (8, .long (M.2 76 2))], [.long (M47.2 76 2), .long r48], M47) K
              refine e_call (q := 170) (L0 := [(0, .long r48), (2, .long (M47.2 76 2))]) hE rfl rfl rfl rfl (jargs_S rfl rfl rfl rfl (Nat.le_of_ble_eq_true rfl) (Nat.le_of_ble_eq_true rfl) (Nat.le_of_ble_eq_true rfl)) rfl rfl (jEv.mono h (fun o49 M50 h => ?_))
              obtain ⟨r51, rfl, h⟩ := h
              refine ⟨_, rfl, ?_⟩
              show jEv nX8_isFree (170, [(0, .ref 67), (1, .int x1), (2, .long (M.2 76 0)), (4, .long (M.2 76 x1.toNatClampNeg)), (6, .long (M.2 76 1)), (8, .long (M.2 76 2))], [.long r51], M50) K
              refine e_seg (k := 3) (d := (175, [(0, .ref 67), (1, .int x1), (2, .long (M.2 76 0)), (4, .long (M.2 76 x1.toNatClampNeg)), (6, .long (M.2 76 1)), (8, .long (M.2 76 2)), (10, .long r51), (12, .int 0)], [], M50)) rfl ?_
              refine e_cut (ks := [0, 1, 10, 12]) (L' := [(0, .ref 67), (1, .int x1), (10, .long r51), (12, .int 0)]) hE rfl rfl rfl rfl rfl ?_
              exact h
            · replace h := h.1 hbr
              refine e_seg (k := 10) (d := (145, [(0, .ref 67), (1, .int x1), (2, .long (M.2 76 0)), (4, .long (M.2 76 x1.toNatClampNeg)), (6, .long (M.2 76 1)), (8, .long (M.2 76 2))], [.long (((M.2 76 0) * (M.2 76 1)) - ((M.2 76 x1.toNatClampNeg) * (M.2 76 1))), .int 1, .ref 76], M45)) rfl ?_
              refine e_last (q := 146) hE rfl rfl rfl rfl (by decide) ?_
              obtain ⟨M52, hM52⟩ : ∃ z : jM, z = jsl M45 76 1 (((M.2 76 0) * (M.2 76 1)) - ((M.2 76 x1.toNatClampNeg) * (M.2 76 1))) := ⟨_, rfl⟩
              refine jEv_M hM52 ?_
              replace h := h M52 hM52
              refine e_seg (k := 3) (d := (151, [(0, .ref 67), (1, .int x1), (2, .long (M.2 76 0)), (4, .long (M.2 76 x1.toNatClampNeg)), (6, .long (M.2 76 1)), (8, .long (M.2 76 2))], [.int 0, .ref 76], M52)) rfl ?_
              refine e_lald (q := 152) hE rfl rfl rfl rfl (by decide) ?_
              show jEv nX8_isFree (152, [(0, .ref 67), (1, .int x1), (2, .long (M.2 76 0)), (4, .long (M.2 76 x1.toNatClampNeg)), (6, .long (M.2 76 1)), (8, .long (M.2 76 2))], [.long (M52.2 76 0)], M52) K
              refine e_seg (k := 3) (d := (157, [(0, .ref 67), (1, .int x1), (2, .long (M.2 76 0)), (4, .long (M.2 76 x1.toNatClampNeg)), (6, .long (M.2 76 1)), (8, .long (M.2 76 2))], [.int 1, .ref 76, .long (M52.2 76 0)], M52)) rfl ?_
              refine e_lald (q := 158) hE rfl rfl rfl rfl (by decide) ?_
              show jEv nX8_isFree (158, [(0, .ref 67), (1, .int x1), (2, .long (M.2 76 0)), (4, .long (M.2 76 x1.toNatClampNeg)), (6, .long (M.2 76 1)), (8, .long (M.2 76 2))], [.long (M52.2 76 1), .long (M52.2 76 0)], M52) K
              refine e_call (q := 161) (L0 := [(0, .long (M52.2 76 0)), (2, .long (M52.2 76 1))]) hE rfl rfl rfl rfl (jargs_S rfl rfl rfl rfl (Nat.le_of_ble_eq_true rfl) (Nat.le_of_ble_eq_true rfl) (Nat.le_of_ble_eq_true rfl)) rfl rfl (jEv.mono h (fun o53 M54 h => ?_))
              obtain ⟨r55, rfl, h⟩ := h
              refine ⟨_, rfl, ?_⟩
              show jEv nX8_isFree (161, [(0, .ref 67), (1, .int x1), (2, .long (M.2 76 0)), (4, .long (M.2 76 x1.toNatClampNeg)), (6, .long (M.2 76 1)), (8, .long (M.2 76 2))], [.long r55], M54) K
              refine e_seg (k := 3) (d := (166, [(0, .ref 67), (1, .int x1), (2, .long (M.2 76 0)), (4, .long (M.2 76 x1.toNatClampNeg)), (6, .long (M.2 76 1)), (8, .long (M.2 76 2))], [.int 2, .ref 76, .long r55], M54)) rfl ?_
              refine e_lald (q := 167) hE rfl rfl rfl rfl (by decide) ?_
              show jEv nX8_isFree (167, [(0, .ref 67), (1, .int x1), (2, .long (M.2 76 0)), (4, .long (M.2 76 x1.toNatClampNeg)), (6, .long (M.2 76 1)), (8, .long (M.2 76 2))], [.long (M54.2 76 2), .long r55], M54) K
              refine e_call (q := 170) (L0 := [(0, .long r55), (2, .long (M54.2 76 2))]) hE rfl rfl rfl rfl (jargs_S rfl rfl rfl rfl (Nat.le_of_ble_eq_true rfl) (Nat.le_of_ble_eq_true rfl) (Nat.le_of_ble_eq_true rfl)) rfl rfl (jEv.mono h (fun o56 M57 h => ?_))
              obtain ⟨r58, rfl, h⟩ := h
              refine ⟨_, rfl, ?_⟩
              show jEv nX8_isFree (170, [(0, .ref 67), (1, .int x1), (2, .long (M.2 76 0)), (4, .long (M.2 76 x1.toNatClampNeg)), (6, .long (M.2 76 1)), (8, .long (M.2 76 2))], [.long r58], M57) K
              refine e_seg (k := 3) (d := (175, [(0, .ref 67), (1, .int x1), (2, .long (M.2 76 0)), (4, .long (M.2 76 x1.toNatClampNeg)), (6, .long (M.2 76 1)), (8, .long (M.2 76 2)), (10, .long r58), (12, .int 0)], [], M57)) rfl ?_
              refine e_cut (ks := [0, 1, 10, 12]) (L' := [(0, .ref 67), (1, .int x1), (10, .long r58), (12, .int 0)]) hE rfl rfl rfl rfl rfl ?_
              exact h
          · replace h := h.1 hbr
            refine e_seg (k := 10) (d := (105, [(0, .ref 67), (1, .int x1), (2, .long (M.2 76 0)), (4, .long (M.2 76 x1.toNatClampNeg)), (6, .long (M.2 76 1)), (8, .long (M.2 76 2))], [.long (((M.2 76 0) * (M.2 76 1)) - ((M.2 76 x1.toNatClampNeg) * (M.2 76 2))), .int 1, .ref 76], M45)) rfl ?_
            refine e_last (q := 106) hE rfl rfl rfl rfl (by decide) ?_
            obtain ⟨M59, hM59⟩ : ∃ z : jM, z = jsl M45 76 1 (((M.2 76 0) * (M.2 76 1)) - ((M.2 76 x1.toNatClampNeg) * (M.2 76 2))) := ⟨_, rfl⟩
            refine jEv_M hM59 ?_
            replace h := h M59 hM59
            refine e_seg (k := 10) (d := (121, [(0, .ref 67), (1, .int x1), (2, .long (M.2 76 0)), (4, .long (M.2 76 x1.toNatClampNeg)), (6, .long (M.2 76 1)), (8, .long (M.2 76 2))], [.long (((M.2 76 0) * (M.2 76 2)) - ((M.2 76 x1.toNatClampNeg) * (M.2 76 1))), .int 2, .ref 76], M59)) rfl ?_
            refine e_last (q := 122) hE rfl rfl rfl rfl (by decide) ?_
            obtain ⟨M60, hM60⟩ : ∃ z : jM, z = jsl M59 76 2 (((M.2 76 0) * (M.2 76 2)) - ((M.2 76 x1.toNatClampNeg) * (M.2 76 1))) := ⟨_, rfl⟩
            refine jEv_M hM60 ?_
            replace h := h M60 hM60
            refine e_seg (k := 4) (d := (151, [(0, .ref 67), (1, .int x1), (2, .long (M.2 76 0)), (4, .long (M.2 76 x1.toNatClampNeg)), (6, .long (M.2 76 1)), (8, .long (M.2 76 2))], [.int 0, .ref 76], M60)) rfl ?_
            refine e_lald (q := 152) hE rfl rfl rfl rfl (by decide) ?_
            show jEv nX8_isFree (152, [(0, .ref 67), (1, .int x1), (2, .long (M.2 76 0)), (4, .long (M.2 76 x1.toNatClampNeg)), (6, .long (M.2 76 1)), (8, .long (M.2 76 2))], [.long (M60.2 76 0)], M60) K
            refine e_seg (k := 3) (d := (157, [(0, .ref 67), (1, .int x1), (2, .long (M.2 76 0)), (4, .long (M.2 76 x1.toNatClampNeg)), (6, .long (M.2 76 1)), (8, .long (M.2 76 2))], [.int 1, .ref 76, .long (M60.2 76 0)], M60)) rfl ?_
            refine e_lald (q := 158) hE rfl rfl rfl rfl (by decide) ?_
            show jEv nX8_isFree (158, [(0, .ref 67), (1, .int x1), (2, .long (M.2 76 0)), (4, .long (M.2 76 x1.toNatClampNeg)), (6, .long (M.2 76 1)), (8, .long (M.2 76 2))], [.long (M60.2 76 1), .long (M60.2 76 0)], M60) K
            refine e_call (q := 161) (L0 := [(0, .long (M60.2 76 0)), (2, .long (M60.2 76 1))]) hE rfl rfl rfl rfl (jargs_S rfl rfl rfl rfl (Nat.le_of_ble_eq_true rfl) (Nat.le_of_ble_eq_true rfl) (Nat.le_of_ble_eq_true rfl)) rfl rfl (jEv.mono h (fun o61 M62 h => ?_))
            obtain ⟨r63, rfl, h⟩ := h
            refine ⟨_, rfl, ?_⟩
            show jEv nX8_isFree (161, [(0, .ref 67), (1, .int x1), (2, .long (M.2 76 0)), (4, .long (M.2 76 x1.toNatClampNeg)), (6, .long (M.2 76 1)), (8, .long (M.2 76 2))], [.long r63], M62) K
            refine e_seg (k := 3) (d := (166, [(0, .ref 67), (1, .int x1), (2, .long (M.2 76 0)), (4, .long (M.2 76 x1.toNatClampNeg)), (6, .long (M.2 76 1)), (8, .long (M.2 76 2))], [.int 2, .ref 76, .long r63], M62)) rfl ?_
            refine e_lald (q := 167) hE rfl rfl rfl rfl (by decide) ?_
            show jEv nX8_isFree (167, [(0, .ref 67), (1, .int x1), (2, .long (M.2 76 0)), (4, .long (M.2 76 x1.toNatClampNeg)), (6, .long (M.2 76 1)), (8, .long (M.2 76 2))], [.long (M62.2 76 2), .long r63], M62) K
            refine e_call (q := 170) (L0 := [(0, .long r63), (2, .long (M62.2 76 2))]) hE rfl rfl rfl rfl (jargs_S rfl rfl rfl rfl (Nat.le_of_ble_eq_true rfl) (Nat.le_of_ble_eq_true rfl) (Nat.le_of_ble_eq_true rfl)) rfl rfl (jEv.mono h (fun o64 M65 h => ?_))
            obtain ⟨r66, rfl, h⟩ := h
            refine ⟨_, rfl, ?_⟩
            show jEv nX8_isFree (170, [(0, .ref 67), (1, .int x1), (2, .long (M.2 76 0)), (4, .long (M.2 76 x1.toNatClampNeg)), (6, .long (M.2 76 1)), (8, .long (M.2 76 2))], [.long r66], M65) K
            refine e_seg (k := 3) (d := (175, [(0, .ref 67), (1, .int x1), (2, .long (M.2 76 0)), (4, .long (M.2 76 x1.toNatClampNeg)), (6, .long (M.2 76 1)), (8, .long (M.2 76 2)), (10, .long r66), (12, .int 0)], [], M65)) rfl ?_
            refine e_cut (ks := [0, 1, 10, 12]) (L' := [(0, .ref 67), (1, .int x1), (10, .long r66), (12, .int 0)]) hE rfl rfl rfl rfl rfl ?_
            exact h
        · replace h := h.2 hbr
          refine e_seg (k := 1) (d := (53, [(0, .ref 67), (1, .int x1), (2, .long (M.2 76 0)), (4, .long (M.2 76 x1.toNatClampNeg))], [.int 0], M)) rfl ?_
          exact e_ret hE rfl rfl (jb_z rfl (by decide)) h
      · replace h := h.2 hbr
        refine e_seg (k := 3) (d := (48, [(0, .ref 67), (1, .int x1), (2, .long (M.2 76 0)), (4, .long (M.2 76 x1.toNatClampNeg))], [.long (-(M.2 76 x1.toNatClampNeg)), .long (-(M.2 76 0))], M)) rfl ?_
        refine e_lc (t := 54) (q := 52) (pc1 := 49) hE rfl rfl rfl rfl rfl rfl (lc_gt (-(M.2 76 0)) (-(M.2 76 x1.toNatClampNeg))) rfl rfl (fun hbr => ?_) (fun hbr => ?_)
        · replace h := h.1 hbr
          refine e_seg (k := 3) (d := (59, [(0, .ref 67), (1, .int x1), (2, .long (M.2 76 0)), (4, .long (M.2 76 x1.toNatClampNeg))], [.int 1, .ref 76], M)) rfl ?_
          refine e_lald (q := 60) hE rfl rfl rfl rfl (by decide) ?_
          show jEv nX8_isFree (60, [(0, .ref 67), (1, .int x1), (2, .long (M.2 76 0)), (4, .long (M.2 76 x1.toNatClampNeg))], [.long (M.2 76 1)], M) K
          refine e_seg (k := 4) (d := (67, [(0, .ref 67), (1, .int x1), (2, .long (M.2 76 0)), (4, .long (M.2 76 x1.toNatClampNeg)), (6, .long (M.2 76 1))], [.int 2, .ref 76], M)) rfl ?_
          refine e_lald (q := 68) hE rfl rfl rfl rfl (by decide) ?_
          show jEv nX8_isFree (68, [(0, .ref 67), (1, .int x1), (2, .long (M.2 76 0)), (4, .long (M.2 76 x1.toNatClampNeg)), (6, .long (M.2 76 1))], [.long (M.2 76 2)], M) K
          refine e_seg (k := 11) (d := (84, [(0, .ref 67), (1, .int x1), (2, .long (M.2 76 0)), (4, .long (M.2 76 x1.toNatClampNeg)), (6, .long (M.2 76 1)), (8, .long (M.2 76 2))], [.long (((M.2 76 0) * (M.2 76 0)) - ((M.2 76 x1.toNatClampNeg) * (M.2 76 x1.toNatClampNeg))), .int 0, .ref 76], M)) rfl ?_
          refine e_last (q := 85) hE rfl rfl rfl rfl (by decide) ?_
          obtain ⟨M67, hM67⟩ : ∃ z : jM, z = jsl M 76 0 (((M.2 76 0) * (M.2 76 0)) - ((M.2 76 x1.toNatClampNeg) * (M.2 76 x1.toNatClampNeg))) := ⟨_, rfl⟩
          refine jEv_M hM67 ?_
          replace h := h M67 hM67
          refine e_seg (k := 2) (d := (87, [(0, .ref 67), (1, .int x1), (2, .long (M.2 76 0)), (4, .long (M.2 76 x1.toNatClampNeg)), (6, .long (M.2 76 1)), (8, .long (M.2 76 2))], [.int 3, .int x1], M67)) rfl ?_
          refine e_ic_ne (t := 125) (q := 90) hE rfl rfl rfl rfl (fun hbr => ?_) (fun hbr => ?_)
          · replace h := h.2 hbr
            refine e_seg (k := 2) (d := (127, [(0, .ref 67), (1, .int x1), (2, .long (M.2 76 0)), (4, .long (M.2 76 x1.toNatClampNeg)), (6, .long (M.2 76 1)), (8, .long (M.2 76 2))], [.int 2, .int x1], M67)) rfl ?_
            refine e_ic_ne (t := 146) (q := 130) hE rfl rfl rfl rfl (fun hbr => ?_) (fun hbr => ?_)
            · replace h := h.2 hbr
              refine e_seg (k := 3) (d := (151, [(0, .ref 67), (1, .int x1), (2, .long (M.2 76 0)), (4, .long (M.2 76 x1.toNatClampNeg)), (6, .long (M.2 76 1)), (8, .long (M.2 76 2))], [.int 0, .ref 76], M67)) rfl ?_
              refine e_lald (q := 152) hE rfl rfl rfl rfl (by decide) ?_
              show jEv nX8_isFree (152, [(0, .ref 67), (1, .int x1), (2, .long (M.2 76 0)), (4, .long (M.2 76 x1.toNatClampNeg)), (6, .long (M.2 76 1)), (8, .long (M.2 76 2))], [.long (M67.2 76 0)], M67) K
              refine e_seg (k := 3) (d := (157, [(0, .ref 67), (1, .int x1), (2, .long (M.2 76 0)), (4, .long (M.2 76 x1.toNatClampNeg)), (6, .long (M.2 76 1)), (8, .long (M.2 76 2))], [.int 1, .ref 76, .long (M67.2 76 0)], M67)) rfl ?_
              refine e_lald (q := 158) hE rfl rfl rfl rfl (by decide) ?_
              show jEv nX8_isFree (158, [(0, .ref 67), (1, .int x1), (2, .long (M.2 76 0)), (4, .long (M.2 76 x1.toNatClampNeg)), (6, .long (M.2 76 1)), (8, .long (M.2 76 2))], [.long (M67.2 76 1), .long (M67.2 76 0)], M67) K
              refine e_call (q := 161) (L0 := [(0, .long (M67.2 76 0)), (2, .long (M67.2 76 1))]) hE rfl rfl rfl rfl (jargs_S rfl rfl rfl rfl (Nat.le_of_ble_eq_true rfl) (Nat.le_of_ble_eq_true rfl) (Nat.le_of_ble_eq_true rfl)) rfl rfl (jEv.mono h (fun o68 M69 h => ?_))
              obtain ⟨r70, rfl, h⟩ := h
              refine ⟨_, rfl, ?_⟩
              show jEv nX8_isFree (161, [(0, .ref 67), (1, .int x1), (2, .long (M.2 76 0)), (4, .long (M.2 76 x1.toNatClampNeg)), (6, .long (M.2 76 1)), (8, .long (M.2 76 2))], [.long r70], M69) K
              refine e_seg (k := 3) (d := (166, [(0, .ref 67), (1, .int x1), (2, .long (M.2 76 0)), (4, .long (M.2 76 x1.toNatClampNeg)), (6, .long (M.2 76 1)), (8, .long (M.2 76 2))], [.int 2, .ref 76, .long r70], M69)) rfl ?_
              refine e_lald (q := 167) hE rfl rfl rfl rfl (by decide) ?_
              show jEv nX8_isFree (167, [(0, .ref 67), (1, .int x1), (2, .long (M.2 76 0)), (4, .long (M.2 76 x1.toNatClampNeg)), (6, .long (M.2 76 1)), (8, .long (M.2 76 2))], [.long (M69.2 76 2), .long r70], M69) K
              refine e_call (q := 170) (L0 := [(0, .long r70), (2, .long (M69.2 76 2))]) hE rfl rfl rfl rfl (jargs_S rfl rfl rfl rfl (Nat.le_of_ble_eq_true rfl) (Nat.le_of_ble_eq_true rfl) (Nat.le_of_ble_eq_true rfl)) rfl rfl (jEv.mono h (fun o71 M72 h => ?_))
              obtain ⟨r73, rfl, h⟩ := h
              refine ⟨_, rfl, ?_⟩
              show jEv nX8_isFree (170, [(0, .ref 67), (1, .int x1), (2, .long (M.2 76 0)), (4, .long (M.2 76 x1.toNatClampNeg)), (6, .long (M.2 76 1)), (8, .long (M.2 76 2))], [.long r73], M72) K
              refine e_seg (k := 3) (d := (175, [(0, .ref 67), (1, .int x1), (2, .long (M.2 76 0)), (4, .long (M.2 76 x1.toNatClampNeg)), (6, .long (M.2 76 1)), (8, .long (M.2 76 2)), (10, .long r73), (12, .int 0)], [], M72)) rfl ?_
              refine e_cut (ks := [0, 1, 10, 12]) (L' := [(0, .ref 67), (1, .int x1), (10, .long r73), (12, .int 0)]) hE rfl rfl rfl rfl rfl ?_
              exact h
            · replace h := h.1 hbr
              refine e_seg (k := 10) (d := (145, [(0, .ref 67), (1, .int x1), (2, .long (M.2 76 0)), (4, .long (M.2 76 x1.toNatClampNeg)), (6, .long (M.2 76 1)), (8, .long (M.2 76 2))], [.long (((M.2 76 0) * (M.2 76 1)) - ((M.2 76 x1.toNatClampNeg) * (M.2 76 1))), .int 1, .ref 76], M67)) rfl ?_
              refine e_last (q := 146) hE rfl rfl rfl rfl (by decide) ?_
              obtain ⟨M74, hM74⟩ : ∃ z : jM, z = jsl M67 76 1 (((M.2 76 0) * (M.2 76 1)) - ((M.2 76 x1.toNatClampNeg) * (M.2 76 1))) := ⟨_, rfl⟩
              refine jEv_M hM74 ?_
              replace h := h M74 hM74
              refine e_seg (k := 3) (d := (151, [(0, .ref 67), (1, .int x1), (2, .long (M.2 76 0)), (4, .long (M.2 76 x1.toNatClampNeg)), (6, .long (M.2 76 1)), (8, .long (M.2 76 2))], [.int 0, .ref 76], M74)) rfl ?_
              refine e_lald (q := 152) hE rfl rfl rfl rfl (by decide) ?_
              show jEv nX8_isFree (152, [(0, .ref 67), (1, .int x1), (2, .long (M.2 76 0)), (4, .long (M.2 76 x1.toNatClampNeg)), (6, .long (M.2 76 1)), (8, .long (M.2 76 2))], [.long (M74.2 76 0)], M74) K
              refine e_seg (k := 3) (d := (157, [(0, .ref 67), (1, .int x1), (2, .long (M.2 76 0)), (4, .long (M.2 76 x1.toNatClampNeg)), (6, .long (M.2 76 1)), (8, .long (M.2 76 2))], [.int 1, .ref 76, .long (M74.2 76 0)], M74)) rfl ?_
              refine e_lald (q := 158) hE rfl rfl rfl rfl (by decide) ?_
              show jEv nX8_isFree (158, [(0, .ref 67), (1, .int x1), (2, .long (M.2 76 0)), (4, .long (M.2 76 x1.toNatClampNeg)), (6, .long (M.2 76 1)), (8, .long (M.2 76 2))], [.long (M74.2 76 1), .long (M74.2 76 0)], M74) K
              refine e_call (q := 161) (L0 := [(0, .long (M74.2 76 0)), (2, .long (M74.2 76 1))]) hE rfl rfl rfl rfl (jargs_S rfl rfl rfl rfl (Nat.le_of_ble_eq_true rfl) (Nat.le_of_ble_eq_true rfl) (Nat.le_of_ble_eq_true rfl)) rfl rfl (jEv.mono h (fun o75 M76 h => ?_))
              obtain ⟨r77, rfl, h⟩ := h
              refine ⟨_, rfl, ?_⟩
              show jEv nX8_isFree (161, [(0, .ref 67), (1, .int x1), (2, .long (M.2 76 0)), (4, .long (M.2 76 x1.toNatClampNeg)), (6, .long (M.2 76 1)), (8, .long (M.2 76 2))], [.long r77], M76) K
              refine e_seg (k := 3) (d := (166, [(0, .ref 67), (1, .int x1), (2, .long (M.2 76 0)), (4, .long (M.2 76 x1.toNatClampNeg)), (6, .long (M.2 76 1)), (8, .long (M.2 76 2))], [.int 2, .ref 76, .long r77], M76)) rfl ?_
              refine e_lald (q := 167) hE rfl rfl rfl rfl (by decide) ?_
              show jEv nX8_isFree (167, [(0, .ref 67), (1, .int x1), (2, .long (M.2 76 0)), (4, .long (M.2 76 x1.toNatClampNeg)), (6, .long (M.2 76 1)), (8, .long (M.2 76 2))], [.long (M76.2 76 2), .long r77], M76) K
              refine e_call (q := 170) (L0 := [(0, .long r77), (2, .long (M76.2 76 2))]) hE rfl rfl rfl rfl (jargs_S rfl rfl rfl rfl (Nat.le_of_ble_eq_true rfl) (Nat.le_of_ble_eq_true rfl) (Nat.le_of_ble_eq_true rfl)) rfl rfl (jEv.mono h (fun o78 M79 h => ?_))
              obtain ⟨r80, rfl, h⟩ := h
              refine ⟨_, rfl, ?_⟩
              show jEv nX8_isFree (170, [(0, .ref 67), (1, .int x1), (2, .long (M.2 76 0)), (4, .long (M.2 76 x1.toNatClampNeg)), (6, .long (M.2 76 1)), (8, .long (M.2 76 2))], [.long r80], M79) K
              refine e_seg (k := 3) (d := (175, [(0, .ref 67), (1, .int x1), (2, .long (M.2 76 0)), (4, .long (M.2 76 x1.toNatClampNeg)), (6, .long (M.2 76 1)), (8, .long (M.2 76 2)), (10, .long r80), (12, .int 0)], [], M79)) rfl ?_
              refine e_cut (ks := [0, 1, 10, 12]) (L' := [(0, .ref 67), (1, .int x1), (10, .long r80), (12, .int 0)]) hE rfl rfl rfl rfl rfl ?_
              exact h
          · replace h := h.1 hbr
            refine e_seg (k := 10) (d := (105, [(0, .ref 67), (1, .int x1), (2, .long (M.2 76 0)), (4, .long (M.2 76 x1.toNatClampNeg)), (6, .long (M.2 76 1)), (8, .long (M.2 76 2))], [.long (((M.2 76 0) * (M.2 76 1)) - ((M.2 76 x1.toNatClampNeg) * (M.2 76 2))), .int 1, .ref 76], M67)) rfl ?_
            refine e_last (q := 106) hE rfl rfl rfl rfl (by decide) ?_
            obtain ⟨M81, hM81⟩ : ∃ z : jM, z = jsl M67 76 1 (((M.2 76 0) * (M.2 76 1)) - ((M.2 76 x1.toNatClampNeg) * (M.2 76 2))) := ⟨_, rfl⟩
            refine jEv_M hM81 ?_
            replace h := h M81 hM81
            refine e_seg (k := 10) (d := (121, [(0, .ref 67), (1, .int x1), (2, .long (M.2 76 0)), (4, .long (M.2 76 x1.toNatClampNeg)), (6, .long (M.2 76 1)), (8, .long (M.2 76 2))], [.long (((M.2 76 0) * (M.2 76 2)) - ((M.2 76 x1.toNatClampNeg) * (M.2 76 1))), .int 2, .ref 76], M81)) rfl ?_
            refine e_last (q := 122) hE rfl rfl rfl rfl (by decide) ?_
            obtain ⟨M82, hM82⟩ : ∃ z : jM, z = jsl M81 76 2 (((M.2 76 0) * (M.2 76 2)) - ((M.2 76 x1.toNatClampNeg) * (M.2 76 1))) := ⟨_, rfl⟩
            refine jEv_M hM82 ?_
            replace h := h M82 hM82
            refine e_seg (k := 4) (d := (151, [(0, .ref 67), (1, .int x1), (2, .long (M.2 76 0)), (4, .long (M.2 76 x1.toNatClampNeg)), (6, .long (M.2 76 1)), (8, .long (M.2 76 2))], [.int 0, .ref 76], M82)) rfl ?_
            refine e_lald (q := 152) hE rfl rfl rfl rfl (by decide) ?_
            show jEv nX8_isFree (152, [(0, .ref 67), (1, .int x1), (2, .long (M.2 76 0)), (4, .long (M.2 76 x1.toNatClampNeg)), (6, .long (M.2 76 1)), (8, .long (M.2 76 2))], [.long (M82.2 76 0)], M82) K
            refine e_seg (k := 3) (d := (157, [(0, .ref 67), (1, .int x1), (2, .long (M.2 76 0)), (4, .long (M.2 76 x1.toNatClampNeg)), (6, .long (M.2 76 1)), (8, .long (M.2 76 2))], [.int 1, .ref 76, .long (M82.2 76 0)], M82)) rfl ?_
            refine e_lald (q := 158) hE rfl rfl rfl rfl (by decide) ?_
            show jEv nX8_isFree (158, [(0, .ref 67), (1, .int x1), (2, .long (M.2 76 0)), (4, .long (M.2 76 x1.toNatClampNeg)), (6, .long (M.2 76 1)), (8, .long (M.2 76 2))], [.long (M82.2 76 1), .long (M82.2 76 0)], M82) K
            refine e_call (q := 161) (L0 := [(0, .long (M82.2 76 0)), (2, .long (M82.2 76 1))]) hE rfl rfl rfl rfl (jargs_S rfl rfl rfl rfl (Nat.le_of_ble_eq_true rfl) (Nat.le_of_ble_eq_true rfl) (Nat.le_of_ble_eq_true rfl)) rfl rfl (jEv.mono h (fun o83 M84 h => ?_))
            obtain ⟨r85, rfl, h⟩ := h
            refine ⟨_, rfl, ?_⟩
            show jEv nX8_isFree (161, [(0, .ref 67), (1, .int x1), (2, .long (M.2 76 0)), (4, .long (M.2 76 x1.toNatClampNeg)), (6, .long (M.2 76 1)), (8, .long (M.2 76 2))], [.long r85], M84) K
            refine e_seg (k := 3) (d := (166, [(0, .ref 67), (1, .int x1), (2, .long (M.2 76 0)), (4, .long (M.2 76 x1.toNatClampNeg)), (6, .long (M.2 76 1)), (8, .long (M.2 76 2))], [.int 2, .ref 76, .long r85], M84)) rfl ?_
            refine e_lald (q := 167) hE rfl rfl rfl rfl (by decide) ?_
            show jEv nX8_isFree (167, [(0, .ref 67), (1, .int x1), (2, .long (M.2 76 0)), (4, .long (M.2 76 x1.toNatClampNeg)), (6, .long (M.2 76 1)), (8, .long (M.2 76 2))], [.long (M84.2 76 2), .long r85], M84) K
            refine e_call (q := 170) (L0 := [(0, .long r85), (2, .long (M84.2 76 2))]) hE rfl rfl rfl rfl (jargs_S rfl rfl rfl rfl (Nat.le_of_ble_eq_true rfl) (Nat.le_of_ble_eq_true rfl) (Nat.le_of_ble_eq_true rfl)) rfl rfl (jEv.mono h (fun o86 M87 h => ?_))
            obtain ⟨r88, rfl, h⟩ := h
            refine ⟨_, rfl, ?_⟩
            show jEv nX8_isFree (170, [(0, .ref 67), (1, .int x1), (2, .long (M.2 76 0)), (4, .long (M.2 76 x1.toNatClampNeg)), (6, .long (M.2 76 1)), (8, .long (M.2 76 2))], [.long r88], M87) K
            refine e_seg (k := 3) (d := (175, [(0, .ref 67), (1, .int x1), (2, .long (M.2 76 0)), (4, .long (M.2 76 x1.toNatClampNeg)), (6, .long (M.2 76 1)), (8, .long (M.2 76 2)), (10, .long r88), (12, .int 0)], [], M87)) rfl ?_
            refine e_cut (ks := [0, 1, 10, 12]) (L' := [(0, .ref 67), (1, .int x1), (10, .long r88), (12, .int 0)]) hE rfl rfl rfl rfl rfl ?_
            exact h
        · replace h := h.2 hbr
          refine e_seg (k := 1) (d := (53, [(0, .ref 67), (1, .int x1), (2, .long (M.2 76 0)), (4, .long (M.2 76 x1.toNatClampNeg))], [.int 0], M)) rfl ?_
          exact e_ret hE rfl rfl (jb_z rfl (by decide)) h
