/-! printed by wip/whole/emit.py: what must hold on each way between cut points -/
set_option maxRecDepth 100000 in
set_option maxHeartbeats 4000000 in
theorem v_X4_findGaps_0 {K : jK} {M : jM} {x1 : Int32} (h : jEv nX4_findGaps (4, [(0, .ref 41), (1, .int x1), (2, .int 0), (3, .int 0)], [], M) K) : jEv nX4_findGaps (0, [(0, .ref 41), (1, .int x1)], [], M) K := by
  have hE : jMT nX4_findGaps = some me_X4_findGaps := rfl
  refine e_seg (k := 4) (d := (4, [(0, .ref 41), (1, .int x1), (2, .int 0), (3, .int 0)], [], M)) rfl ?_
  refine e_cut (ks := [0, 1, 2, 3]) (L' := [(0, .ref 41), (1, .int x1), (2, .int 0), (3, .int 0)]) hE rfl rfl rfl rfl rfl ?_
  exact h
set_option maxRecDepth 100000 in
set_option maxHeartbeats 4000000 in
theorem v_X4_findGaps_4 {K : jK} {M : jM} {x1 : Int32} {x2 : Int32} {x3 : Int32} (h : (((M.1 41 2) ≤ x3 → K (some none) M) ∧ (¬ (M.1 41 2) ≤ x3 → ((x1 ≤ x2 → K (some none) M) ∧ (¬ x1 ≤ x2 → (¬ (x3 < 0 ∨ 60 ≤ x3.toNatClampNeg) ∧ (((M.1 42 x3.toNatClampNeg) = 100 → (¬ (x2 < 0 ∨ 3 ≤ x2.toNatClampNeg) ∧ (∀ M1 : jM, M1 = jsi M 43 x2.toNatClampNeg x3 → jEv nX4_findGaps (4, [(0, .ref 41), (1, .int x1), (2, .int (x2 + 1)), (3, .int (x3 + 1))], [], M1) K))) ∧ (¬ (M.1 42 x3.toNatClampNeg) = 100 → jEv nX4_findGaps (4, [(0, .ref 41), (1, .int x1), (2, .int x2), (3, .int (x3 + 1))], [], M) K)))))))) : jEv nX4_findGaps (4, [(0, .ref 41), (1, .int x1), (2, .int x2), (3, .int x3)], [], M) K := by
  have hE : jMT nX4_findGaps = some me_X4_findGaps := rfl
  refine e_seg (k := 3) (d := (9, [(0, .ref 41), (1, .int x1), (2, .int x2), (3, .int x3)], [.int (M.1 41 2), .int x3], M)) rfl ?_
  refine e_ic_ge (t := 44) (q := 12) hE rfl rfl rfl rfl (fun hbr => ?_) (fun hbr => ?_)
  · replace h := h.1 hbr
    exact e_ret hE rfl rfl rfl h
  · replace h := h.2 hbr
    refine e_seg (k := 2) (d := (14, [(0, .ref 41), (1, .int x1), (2, .int x2), (3, .int x3)], [.int x1, .int x2], M)) rfl ?_
    refine e_ic_ge (t := 44) (q := 17) hE rfl rfl rfl rfl (fun hbr => ?_) (fun hbr => ?_)
    · replace h := h.1 hbr
      exact e_ret hE rfl rfl rfl h
    · replace h := h.2 hbr
      refine e_seg (k := 3) (d := (22, [(0, .ref 41), (1, .int x1), (2, .int x2), (3, .int x3)], [.int x3, .ref 42], M)) rfl ?_
      refine e_iald (q := 23) hE rfl rfl rfl rfl h.1 ?_
      replace h := h.2
      refine e_seg (k := 1) (d := (25, [(0, .ref 41), (1, .int x1), (2, .int x2), (3, .int x3)], [.int 100, .int (M.1 42 x3.toNatClampNeg)], M)) rfl ?_
      refine e_ic_ne (t := 38) (q := 28) hE rfl rfl rfl rfl (fun hbr => ?_) (fun hbr => ?_)
      · replace h := h.2 hbr
        refine e_seg (k := 2) (d := (4, [(0, .ref 41), (1, .int x1), (2, .int x2), (3, .int (x3 + 1))], [], M)) rfl ?_
        refine e_cut (ks := [0, 1, 2, 3]) (L' := [(0, .ref 41), (1, .int x1), (2, .int x2), (3, .int (x3 + 1))]) hE rfl rfl rfl rfl rfl ?_
        exact h
      · replace h := h.1 hbr
        refine e_seg (k := 4) (d := (34, [(0, .ref 41), (1, .int x1), (2, .int x2), (3, .int x3)], [.int x3, .int x2, .ref 43], M)) rfl ?_
        refine e_iast (q := 35) hE rfl rfl rfl rfl h.1 ?_
        replace h := h.2
        obtain ⟨M1, hM1⟩ : ∃ z : jM, z = jsi M 43 x2.toNatClampNeg x3 := ⟨_, rfl⟩
        refine jEv_M hM1 ?_
        replace h := h M1 hM1
        refine e_seg (k := 3) (d := (4, [(0, .ref 41), (1, .int x1), (2, .int (x2 + 1)), (3, .int (x3 + 1))], [], M1)) rfl ?_
        refine e_cut (ks := [0, 1, 2, 3]) (L' := [(0, .ref 41), (1, .int x1), (2, .int (x2 + 1)), (3, .int (x3 + 1))]) hE rfl rfl rfl rfl rfl ?_
        exact h
set_option maxRecDepth 100000 in
set_option maxHeartbeats 4000000 in
theorem v_X4_gapCount_0 {K : jK} {M : jM} (h : jEv nX4_gapCount (4, [(0, .ref 41), (1, .int 0), (2, .int 0)], [], M) K) : jEv nX4_gapCount (0, [(0, .ref 41)], [], M) K := by
  have hE : jMT nX4_gapCount = some me_X4_gapCount := rfl
  refine e_seg (k := 4) (d := (4, [(0, .ref 41), (1, .int 0), (2, .int 0)], [], M)) rfl ?_
  refine e_cut (ks := [0, 1, 2]) (L' := [(0, .ref 41), (1, .int 0), (2, .int 0)]) hE rfl rfl rfl rfl rfl ?_
  exact h
set_option maxRecDepth 100000 in
set_option maxHeartbeats 4000000 in
theorem v_X4_gapCount_4 {K : jK} {M : jM} {x1 : Int32} {x2 : Int32} (h : (((M.1 41 2) ≤ x2 → K (some (some (.int x1))) M) ∧ (¬ (M.1 41 2) ≤ x2 → (¬ (x2 < 0 ∨ 60 ≤ x2.toNatClampNeg) ∧ (((M.1 42 x2.toNatClampNeg) = 100 → jEv nX4_gapCount (4, [(0, .ref 41), (1, .int (x1 + 1)), (2, .int (x2 + 1))], [], M) K) ∧ (¬ (M.1 42 x2.toNatClampNeg) = 100 → jEv nX4_gapCount (4, [(0, .ref 41), (1, .int (x1 + 0)), (2, .int (x2 + 1))], [], M) K)))))) : jEv nX4_gapCount (4, [(0, .ref 41), (1, .int x1), (2, .int x2)], [], M) K := by
  have hE : jMT nX4_gapCount = some me_X4_gapCount := rfl
  refine e_seg (k := 3) (d := (9, [(0, .ref 41), (1, .int x1), (2, .int x2)], [.int (M.1 41 2), .int x2], M)) rfl ?_
  refine e_ic_ge (t := 37) (q := 12) hE rfl rfl rfl rfl (fun hbr => ?_) (fun hbr => ?_)
  · replace h := h.1 hbr
    refine e_seg (k := 1) (d := (38, [(0, .ref 41), (1, .int x1), (2, .int x2)], [.int x1], M)) rfl ?_
    exact e_ret hE rfl rfl (jb_i rfl) h
  · replace h := h.2 hbr
    refine e_seg (k := 4) (d := (18, [(0, .ref 41), (1, .int x1), (2, .int x2)], [.int x2, .ref 42, .int x1], M)) rfl ?_
    refine e_iald (q := 19) hE rfl rfl rfl rfl h.1 ?_
    replace h := h.2
    refine e_seg (k := 1) (d := (21, [(0, .ref 41), (1, .int x1), (2, .int x2)], [.int 100, .int (M.1 42 x2.toNatClampNeg), .int x1], M)) rfl ?_
    refine e_ic_ne (t := 28) (q := 24) hE rfl rfl rfl rfl (fun hbr => ?_) (fun hbr => ?_)
    · replace h := h.2 hbr
      refine e_seg (k := 5) (d := (4, [(0, .ref 41), (1, .int (x1 + 0)), (2, .int (x2 + 1))], [], M)) rfl ?_
      refine e_cut (ks := [0, 1, 2]) (L' := [(0, .ref 41), (1, .int (x1 + 0)), (2, .int (x2 + 1))]) hE rfl rfl rfl rfl rfl ?_
      exact h
    · replace h := h.1 hbr
      refine e_seg (k := 6) (d := (4, [(0, .ref 41), (1, .int (x1 + 1)), (2, .int (x2 + 1))], [], M)) rfl ?_
      refine e_cut (ks := [0, 1, 2]) (L' := [(0, .ref 41), (1, .int (x1 + 1)), (2, .int (x2 + 1))]) hE rfl rfl rfl rfl rfl ?_
      exact h
set_option maxRecDepth 100000 in
set_option maxHeartbeats 4000000 in
theorem v_X4_isGapless_0 {K : jK} {M : jM} {x1 : Int32} {x2 : Int32} (h : ((x1 < 0 → K (some (some (.int 0))) M) ∧ (¬ x1 < 0 → ((x2 ≤ (M.1 41 2) → jEv nX4_isGapless (16, [(0, .ref 41), (2, .int x2), (3, .int x1)], [], M) K) ∧ (¬ x2 ≤ (M.1 41 2) → K (some (some (.int 0))) M))))) : jEv nX4_isGapless (0, [(0, .ref 41), (1, .int x1), (2, .int x2)], [], M) K := by
  have hE : jMT nX4_isGapless = some me_X4_isGapless := rfl
  refine e_seg (k := 1) (d := (1, [(0, .ref 41), (1, .int x1), (2, .int x2)], [.int x1], M)) rfl ?_
  refine e_if_lt (t := 12) (q := 4) hE rfl rfl rfl rfl (fun hbr => ?_) (fun hbr => ?_)
  · replace h := h.1 hbr
    refine e_seg (k := 1) (d := (13, [(0, .ref 41), (1, .int x1), (2, .int x2)], [.int 0], M)) rfl ?_
    exact e_ret hE rfl rfl (jb_z rfl (by decide)) h
  · replace h := h.2 hbr
    refine e_seg (k := 3) (d := (9, [(0, .ref 41), (1, .int x1), (2, .int x2)], [.int (M.1 41 2), .int x2], M)) rfl ?_
    refine e_ic_le (t := 14) (q := 12) hE rfl rfl rfl rfl (fun hbr => ?_) (fun hbr => ?_)
    · replace h := h.1 hbr
      refine e_seg (k := 2) (d := (16, [(0, .ref 41), (1, .int x1), (2, .int x2), (3, .int x1)], [], M)) rfl ?_
      refine e_cut (ks := [0, 2, 3]) (L' := [(0, .ref 41), (2, .int x2), (3, .int x1)]) hE rfl rfl rfl rfl rfl ?_
      exact h
    · replace h := h.2 hbr
      refine e_seg (k := 1) (d := (13, [(0, .ref 41), (1, .int x1), (2, .int x2)], [.int 0], M)) rfl ?_
      exact e_ret hE rfl rfl (jb_z rfl (by decide)) h
set_option maxRecDepth 100000 in
set_option maxHeartbeats 4000000 in
theorem v_X4_isGapless_16 {K : jK} {M : jM} {x2 : Int32} {x3 : Int32} (h : ((x2 ≤ x3 → K (some (some (.int 1))) M) ∧ (¬ x2 ≤ x3 → (¬ (x3 < 0 ∨ 60 ≤ x3.toNatClampNeg) ∧ (((M.1 42 x3.toNatClampNeg) = 100 → K (some (some (.int 0))) M) ∧ (¬ (M.1 42 x3.toNatClampNeg) = 100 → jEv nX4_isGapless (16, [(0, .ref 41), (2, .int x2), (3, .int (x3 + 1))], [], M) K)))))) : jEv nX4_isGapless (16, [(0, .ref 41), (2, .int x2), (3, .int x3)], [], M) K := by
  have hE : jMT nX4_isGapless = some me_X4_isGapless := rfl
  refine e_seg (k := 2) (d := (18, [(0, .ref 41), (2, .int x2), (3, .int x3)], [.int x2, .int x3], M)) rfl ?_
  refine e_ic_ge (t := 40) (q := 21) hE rfl rfl rfl rfl (fun hbr => ?_) (fun hbr => ?_)
  · replace h := h.1 hbr
    refine e_seg (k := 1) (d := (41, [(0, .ref 41), (2, .int x2), (3, .int x3)], [.int 1], M)) rfl ?_
    exact e_ret hE rfl rfl (jb_z rfl (by decide)) h
  · replace h := h.2 hbr
    refine e_seg (k := 3) (d := (26, [(0, .ref 41), (2, .int x2), (3, .int x3)], [.int x3, .ref 42], M)) rfl ?_
    refine e_iald (q := 27) hE rfl rfl rfl rfl h.1 ?_
    replace h := h.2
    refine e_seg (k := 1) (d := (29, [(0, .ref 41), (2, .int x2), (3, .int x3)], [.int 100, .int (M.1 42 x3.toNatClampNeg)], M)) rfl ?_
    refine e_ic_ne (t := 34) (q := 32) hE rfl rfl rfl rfl (fun hbr => ?_) (fun hbr => ?_)
    · replace h := h.2 hbr
      refine e_seg (k := 2) (d := (16, [(0, .ref 41), (2, .int x2), (3, .int (x3 + 1))], [], M)) rfl ?_
      refine e_cut (ks := [0, 2, 3]) (L' := [(0, .ref 41), (2, .int x2), (3, .int (x3 + 1))]) hE rfl rfl rfl rfl rfl ?_
      exact h
    · replace h := h.1 hbr
      refine e_seg (k := 1) (d := (33, [(0, .ref 41), (2, .int x2), (3, .int x3)], [.int 0], M)) rfl ?_
      exact e_ret hE rfl rfl (jb_z rfl (by decide)) h
set_option maxRecDepth 100000 in
set_option maxHeartbeats 4000000 in
theorem v_X4_productsAt_0 {K : jK} {M : jM} {x1 : Int32} (h : jEv nX4_productsAt (4, [(0, .ref 41), (1, .int x1), (2, .int 0), (3, .int x1)], [], M) K) : jEv nX4_productsAt (0, [(0, .ref 41), (1, .int x1)], [], M) K := by
  have hE : jMT nX4_productsAt = some me_X4_productsAt := rfl
  refine e_seg (k := 4) (d := (4, [(0, .ref 41), (1, .int x1), (2, .int 0), (3, .int x1)], [], M)) rfl ?_
  refine e_cut (ks := [0, 1, 2, 3]) (L' := [(0, .ref 41), (1, .int x1), (2, .int 0), (3, .int x1)]) hE rfl rfl rfl rfl rfl ?_
  exact h
set_option maxRecDepth 100000 in
set_option maxHeartbeats 4000000 in
theorem v_X4_productsAt_4 {K : jK} {M : jM} {x1 : Int32} {x2 : Int32} {x3 : Int32} (h : (((M.1 41 2) ≤ x3 → K (some (some (.int x2))) M) ∧ (¬ (M.1 41 2) ≤ x3 → (¬ (x3 < 0 ∨ 60 ≤ x3.toNatClampNeg) ∧ (¬ (x3 - x1 < 0 ∨ 60 ≤ (x3 - x1).toNatClampNeg) ∧ jEv nX4_productsAt (4, [(0, .ref 41), (1, .int x1), (2, .int (x2 + ((M.1 42 x3.toNatClampNeg) * (M.1 42 (x3 - x1).toNatClampNeg)))), (3, .int (x3 + 1))], [], M) K))))) : jEv nX4_productsAt (4, [(0, .ref 41), (1, .int x1), (2, .int x2), (3, .int x3)], [], M) K := by
  have hE : jMT nX4_productsAt = some me_X4_productsAt := rfl
  refine e_seg (k := 3) (d := (9, [(0, .ref 41), (1, .int x1), (2, .int x2), (3, .int x3)], [.int (M.1 41 2), .int x3], M)) rfl ?_
  refine e_ic_ge (t := 36) (q := 12) hE rfl rfl rfl rfl (fun hbr => ?_) (fun hbr => ?_)
  · replace h := h.1 hbr
    refine e_seg (k := 1) (d := (37, [(0, .ref 41), (1, .int x1), (2, .int x2), (3, .int x3)], [.int x2], M)) rfl ?_
    exact e_ret hE rfl rfl (jb_i rfl) h
  · replace h := h.2 hbr
    refine e_seg (k := 4) (d := (18, [(0, .ref 41), (1, .int x1), (2, .int x2), (3, .int x3)], [.int x3, .ref 42, .int x2], M)) rfl ?_
    refine e_iald (q := 19) hE rfl rfl rfl rfl h.1 ?_
    replace h := h.2
    refine e_seg (k := 5) (d := (26, [(0, .ref 41), (1, .int x1), (2, .int x2), (3, .int x3)], [.int (x3 - x1), .ref 42, .int (M.1 42 x3.toNatClampNeg), .int x2], M)) rfl ?_
    refine e_iald (q := 27) hE rfl rfl rfl rfl h.1 ?_
    replace h := h.2
    refine e_seg (k := 5) (d := (4, [(0, .ref 41), (1, .int x1), (2, .int (x2 + ((M.1 42 x3.toNatClampNeg) * (M.1 42 (x3 - x1).toNatClampNeg)))), (3, .int (x3 + 1))], [], M)) rfl ?_
    refine e_cut (ks := [0, 1, 2, 3]) (L' := [(0, .ref 41), (1, .int x1), (2, .int (x2 + ((M.1 42 x3.toNatClampNeg) * (M.1 42 (x3 - x1).toNatClampNeg)))), (3, .int (x3 + 1))]) hE rfl rfl rfl rfl rfl ?_
    exact h
set_option maxRecDepth 100000 in
set_option maxHeartbeats 4000000 in
theorem v_X4_take_0 {K : jK} {M : jM} {x2 : Int32} (h : (∀ M1 : jM, M1 = jsi M 41 2 x2 → jEv nX4_take (7, [(0, .ref 41), (1, .ref 2), (2, .int x2), (3, .int 0)], [], M1) K)) : jEv nX4_take (0, [(0, .ref 41), (1, .ref 2), (2, .int x2)], [], M) K := by
  have hE : jMT nX4_take = some me_X4_take := rfl
  refine e_seg (k := 2) (d := (2, [(0, .ref 41), (1, .ref 2), (2, .int x2)], [.int x2, .ref 41], M)) rfl ?_
  refine e_put (q := 5) hE rfl rfl rfl rfl rfl rfl rfl ?_
  obtain ⟨M1, hM1⟩ : ∃ z : jM, z = jsi M 41 2 x2 := ⟨_, rfl⟩
  refine jEv_M hM1 ?_
  replace h := h M1 hM1
  refine e_seg (k := 2) (d := (7, [(0, .ref 41), (1, .ref 2), (2, .int x2), (3, .int 0)], [], M1)) rfl ?_
  refine e_cut (ks := [0, 1, 2, 3]) (L' := [(0, .ref 41), (1, .ref 2), (2, .int x2), (3, .int 0)]) hE rfl rfl rfl rfl rfl ?_
  exact h
set_option maxRecDepth 100000 in
set_option maxHeartbeats 4000000 in
theorem v_X4_take_7 {K : jK} {M : jM} {x2 : Int32} {x3 : Int32} (h : ((x2 ≤ x3 → K (some none) M) ∧ (¬ x2 ≤ x3 → (¬ (x3 < 0 ∨ 100 ≤ x3.toNatClampNeg) ∧ (((M.1 2 x3.toNatClampNeg) = (-128) → (¬ (x3 < 0 ∨ 60 ≤ x3.toNatClampNeg) ∧ (∀ M2 : jM, M2 = jsi M 42 x3.toNatClampNeg 100 → jEv nX4_take (7, [(0, .ref 41), (1, .ref 2), (2, .int x2), (3, .int (x3 + 1))], [], M2) K))) ∧ (¬ (M.1 2 x3.toNatClampNeg) = (-128) → (¬ (x3 < 0 ∨ 100 ≤ x3.toNatClampNeg) ∧ (¬ (x3 < 0 ∨ 60 ≤ x3.toNatClampNeg) ∧ (∀ M1 : jM, M1 = jsi M 42 x3.toNatClampNeg (M.1 2 x3.toNatClampNeg) → jEv nX4_take (7, [(0, .ref 41), (1, .ref 2), (2, .int x2), (3, .int (x3 + 1))], [], M1) K))))))))) : jEv nX4_take (7, [(0, .ref 41), (1, .ref 2), (2, .int x2), (3, .int x3)], [], M) K := by
  have hE : jMT nX4_take = some me_X4_take := rfl
  refine e_seg (k := 2) (d := (9, [(0, .ref 41), (1, .ref 2), (2, .int x2), (3, .int x3)], [.int x2, .int x3], M)) rfl ?_
  refine e_ic_ge (t := 40) (q := 12) hE rfl rfl rfl rfl (fun hbr => ?_) (fun hbr => ?_)
  · replace h := h.1 hbr
    exact e_ret hE rfl rfl rfl h
  · replace h := h.2 hbr
    refine e_seg (k := 5) (d := (19, [(0, .ref 41), (1, .ref 2), (2, .int x2), (3, .int x3)], [.int x3, .ref 2, .int x3, .ref 42], M)) rfl ?_
    refine e_bald (q := 20) hE rfl rfl rfl rfl h.1 ?_
    replace h := h.2
    refine e_seg (k := 1) (d := (22, [(0, .ref 41), (1, .ref 2), (2, .int x2), (3, .int x3)], [.int (-128), .int (M.1 2 x3.toNatClampNeg), .int x3, .ref 42], M)) rfl ?_
    refine e_ic_ne (t := 30) (q := 25) hE rfl rfl rfl rfl (fun hbr => ?_) (fun hbr => ?_)
    · replace h := h.2 hbr
      refine e_seg (k := 2) (d := (32, [(0, .ref 41), (1, .ref 2), (2, .int x2), (3, .int x3)], [.int x3, .ref 2, .int x3, .ref 42], M)) rfl ?_
      refine e_bald (q := 33) hE rfl rfl rfl rfl h.1 ?_
      replace h := h.2
      refine e_iast (q := 34) hE rfl rfl rfl rfl h.1 ?_
      replace h := h.2
      obtain ⟨M1, hM1⟩ : ∃ z : jM, z = jsi M 42 x3.toNatClampNeg (M.1 2 x3.toNatClampNeg) := ⟨_, rfl⟩
      refine jEv_M hM1 ?_
      replace h := h M1 hM1
      refine e_seg (k := 2) (d := (7, [(0, .ref 41), (1, .ref 2), (2, .int x2), (3, .int (x3 + 1))], [], M1)) rfl ?_
      refine e_cut (ks := [0, 1, 2, 3]) (L' := [(0, .ref 41), (1, .ref 2), (2, .int x2), (3, .int (x3 + 1))]) hE rfl rfl rfl rfl rfl ?_
      exact h
    · replace h := h.1 hbr
      refine e_seg (k := 2) (d := (33, [(0, .ref 41), (1, .ref 2), (2, .int x2), (3, .int x3)], [.int 100, .int x3, .ref 42], M)) rfl ?_
      refine e_iast (q := 34) hE rfl rfl rfl rfl h.1 ?_
      replace h := h.2
      obtain ⟨M2, hM2⟩ : ∃ z : jM, z = jsi M 42 x3.toNatClampNeg 100 := ⟨_, rfl⟩
      refine jEv_M hM2 ?_
      replace h := h M2 hM2
      refine e_seg (k := 2) (d := (7, [(0, .ref 41), (1, .ref 2), (2, .int x2), (3, .int (x3 + 1))], [], M2)) rfl ?_
      refine e_cut (ks := [0, 1, 2, 3]) (L' := [(0, .ref 41), (1, .ref 2), (2, .int x2), (3, .int (x3 + 1))]) hE rfl rfl rfl rfl rfl ?_
      exact h
set_option maxRecDepth 100000 in
set_option maxHeartbeats 4000000 in
theorem v_X4_endsWhole_0 {K : jK} {M : jM} {x1 : Int32} (h : (jEv nX4_isGapless (0, [(0, .ref 41), (1, .int ((M.1 41 2) - x1)), (2, .int (M.1 41 2))], [], M) (fun o1 M2 => ∃ r3 : Int32, o1 = some (some (.int r3)) ∧ ((r3 = 0 ∨ r3 = 1) ∧ K (some (some (.int r3))) M2)))) : jEv nX4_endsWhole (0, [(0, .ref 41), (1, .int x1)], [], M) K := by
  have hE : jMT nX4_endsWhole = some me_X4_endsWhole := rfl
  refine e_seg (k := 7) (d := (11, [(0, .ref 41), (1, .int x1)], [.int (M.1 41 2), .int ((M.1 41 2) - x1), .ref 41], M)) rfl ?_
  refine e_call (q := 14) (L0 := [(0, .ref 41), (1, .int ((M.1 41 2) - x1)), (2, .int (M.1 41 2))]) hE rfl rfl rfl rfl (jargs_V rfl rfl rfl rfl rfl (Nat.le_of_ble_eq_true rfl) (Nat.le_of_ble_eq_true rfl) (Nat.le_of_ble_eq_true rfl)) rfl rfl (jEv.mono h (fun o1 M2 h => ?_))
  obtain ⟨r3, rfl, h⟩ := h
  refine ⟨_, rfl, ?_⟩
  show jEv nX4_endsWhole (14, [(0, .ref 41), (1, .int x1)], [.int r3], M2) K
  exact e_ret hE rfl rfl (jb_z rfl h.1) h.2
set_option maxRecDepth 100000 in
set_option maxHeartbeats 4000000 in
theorem v_X4_guessOn_0 {K : jK} {M : jM} {a : Nat} (ha : jRu a) (h : (jEv nX7_power (0, [(0, .long ((M.1 a 1).toInt64)), (2, .int 5)], [], M) (fun o1 M2 => ∃ r3 : Int64, o1 = some (some (.long r3)) ∧ jEv nX4_guessOn (13, [(0, .ref 41), (1, .ref a), (2, .ref 58), (3, .long r3), (5, .int 0)], [], M2) K))) : jEv nX4_guessOn (0, [(0, .ref 41), (1, .ref a), (2, .ref 58)], [], M) K := by
  have hE : jMT nX4_guessOn = some me_X4_guessOn := rfl
  refine e_seg (k := 1) (d := (1, [(0, .ref 41), (1, .ref a), (2, .ref 58)], [.ref a], M)) rfl ?_
  refine e_get (v := .int (M.1 a 1)) (q := 4) hE rfl rfl rfl rfl (jRu_o ha) rfl rfl ?_
  refine e_seg (k := 2) (d := (6, [(0, .ref 41), (1, .ref a), (2, .ref 58)], [.int 5, .long ((M.1 a 1).toInt64)], M)) rfl ?_
  refine e_call (q := 9) (L0 := [(0, .long ((M.1 a 1).toInt64)), (2, .int 5)]) hE rfl rfl rfl rfl (jargs_S rfl rfl rfl rfl (Nat.le_of_ble_eq_true rfl) (Nat.le_of_ble_eq_true rfl) (Nat.le_of_ble_eq_true rfl)) rfl rfl (jEv.mono h (fun o1 M2 h => ?_))
  obtain ⟨r3, rfl, h⟩ := h
  refine ⟨_, rfl, ?_⟩
  show jEv nX4_guessOn (9, [(0, .ref 41), (1, .ref a), (2, .ref 58)], [.long r3], M2) K
  refine e_seg (k := 3) (d := (13, [(0, .ref 41), (1, .ref a), (2, .ref 58), (3, .long r3), (5, .int 0)], [], M2)) rfl ?_
  refine e_cut (ks := [0, 1, 2, 3, 5]) (L' := [(0, .ref 41), (1, .ref a), (2, .ref 58), (3, .long r3), (5, .int 0)]) hE rfl rfl rfl rfl rfl ?_
  exact h
set_option maxRecDepth 100000 in
set_option maxHeartbeats 4000000 in
theorem v_X4_guessOn_13 {K : jK} {M : jM} {x3 : Int64} {x5 : Int32} {a : Nat} (ha : jRu a) (h : (((M.1 a 2) ≤ x5 → jEv nX4_guessOn (58, [(1, .ref a), (2, .ref 58), (5, .int (M.1 a 2))], [], M) K) ∧ (¬ (M.1 a 2) ≤ x5 → (¬ (((M.1 41 2) - (M.1 a 2)) + x5 < 0 ∨ 60 ≤ (((M.1 41 2) - (M.1 a 2)) + x5).toNatClampNeg) ∧ (¬ (x5 < 0 ∨ 8 ≤ x5.toNatClampNeg) ∧ (∀ M1 : jM, M1 = jsl M 58 x5.toNatClampNeg (((M.1 42 (((M.1 41 2) - (M.1 a 2)) + x5).toNatClampNeg).toInt64) * x3) → jEv nX4_guessOn (13, [(0, .ref 41), (1, .ref a), (2, .ref 58), (3, .long x3), (5, .int (x5 + 1))], [], M1) K)))))) : jEv nX4_guessOn (13, [(0, .ref 41), (1, .ref a), (2, .ref 58), (3, .long x3), (5, .int x5)], [], M) K := by
  have hE : jMT nX4_guessOn = some me_X4_guessOn := rfl
  refine e_seg (k := 2) (d := (16, [(0, .ref 41), (1, .ref a), (2, .ref 58), (3, .long x3), (5, .int x5)], [.ref a, .int x5], M)) rfl ?_
  refine e_get (v := .int (M.1 a 2)) (q := 19) hE rfl rfl rfl rfl (jRu_o ha) rfl rfl ?_
  refine e_ic_ge (t := 52) (q := 22) hE rfl rfl rfl rfl (fun hbr => ?_) (fun hbr => ?_)
  · replace h := h.1 hbr
    refine e_seg (k := 1) (d := (53, [(0, .ref 41), (1, .ref a), (2, .ref 58), (3, .long x3), (5, .int x5)], [.ref a], M)) rfl ?_
    refine e_get (v := .int (M.1 a 2)) (q := 56) hE rfl rfl rfl rfl (jRu_o ha) rfl rfl ?_
    refine e_seg (k := 1) (d := (58, [(0, .ref 41), (1, .ref a), (2, .ref 58), (3, .long x3), (5, .int (M.1 a 2))], [], M)) rfl ?_
    refine e_cut (ks := [1, 2, 5]) (L' := [(1, .ref a), (2, .ref 58), (5, .int (M.1 a 2))]) hE rfl rfl rfl rfl rfl ?_
    exact h
  · replace h := h.2 hbr
    refine e_seg (k := 7) (d := (34, [(0, .ref 41), (1, .ref a), (2, .ref 58), (3, .long x3), (5, .int x5)], [.ref a, .int (M.1 41 2), .ref 42, .int x5, .ref 58], M)) rfl ?_
    refine e_get (v := .int (M.1 a 2)) (q := 37) hE rfl rfl rfl rfl (jRu_o ha) rfl rfl ?_
    refine e_seg (k := 3) (d := (41, [(0, .ref 41), (1, .ref a), (2, .ref 58), (3, .long x3), (5, .int x5)], [.int (((M.1 41 2) - (M.1 a 2)) + x5), .ref 42, .int x5, .ref 58], M)) rfl ?_
    refine e_iald (q := 42) hE rfl rfl rfl rfl h.1 ?_
    replace h := h.2
    refine e_seg (k := 3) (d := (45, [(0, .ref 41), (1, .ref a), (2, .ref 58), (3, .long x3), (5, .int x5)], [.long (((M.1 42 (((M.1 41 2) - (M.1 a 2)) + x5).toNatClampNeg).toInt64) * x3), .int x5, .ref 58], M)) rfl ?_
    refine e_last (q := 46) hE rfl rfl rfl rfl h.1 ?_
    replace h := h.2
    obtain ⟨M1, hM1⟩ : ∃ z : jM, z = jsl M 58 x5.toNatClampNeg (((M.1 42 (((M.1 41 2) - (M.1 a 2)) + x5).toNatClampNeg).toInt64) * x3) := ⟨_, rfl⟩
    refine jEv_M hM1 ?_
    replace h := h M1 hM1
    refine e_seg (k := 2) (d := (13, [(0, .ref 41), (1, .ref a), (2, .ref 58), (3, .long x3), (5, .int (x5 + 1))], [], M1)) rfl ?_
    refine e_cut (ks := [0, 1, 2, 3, 5]) (L' := [(0, .ref 41), (1, .ref a), (2, .ref 58), (3, .long x3), (5, .int (x5 + 1))]) hE rfl rfl rfl rfl rfl ?_
    exact h
set_option maxRecDepth 100000 in
set_option maxHeartbeats 4000000 in
theorem v_X4_guessOn_58 {K : jK} {M : jM} {x5 : Int32} {a : Nat} (ha : jRu a) (h : ((((M.1 a 2) + 5) ≤ x5 → K (some none) M) ∧ (¬ ((M.1 a 2) + 5) ≤ x5 → jEv nX4_guessOn (75, [(1, .ref a), (2, .ref 58), (5, .int x5), (6, .long 0), (8, .int 1)], [], M) K))) : jEv nX4_guessOn (58, [(1, .ref a), (2, .ref 58), (5, .int x5)], [], M) K := by
  have hE : jMT nX4_guessOn = some me_X4_guessOn := rfl
  refine e_seg (k := 2) (d := (61, [(1, .ref a), (2, .ref 58), (5, .int x5)], [.ref a, .int x5], M)) rfl ?_
  refine e_get (v := .int (M.1 a 2)) (q := 64) hE rfl rfl rfl rfl (jRu_o ha) rfl rfl ?_
  refine e_seg (k := 2) (d := (66, [(1, .ref a), (2, .ref 58), (5, .int x5)], [.int ((M.1 a 2) + 5), .int x5], M)) rfl ?_
  refine e_ic_ge (t := 140) (q := 69) hE rfl rfl rfl rfl (fun hbr => ?_) (fun hbr => ?_)
  · replace h := h.1 hbr
    exact e_ret hE rfl rfl rfl h
  · replace h := h.2 hbr
    refine e_seg (k := 4) (d := (75, [(1, .ref a), (2, .ref 58), (5, .int x5), (6, .long 0), (8, .int 1)], [], M)) rfl ?_
    refine e_cut (ks := [1, 2, 5, 6, 8]) (L' := [(1, .ref a), (2, .ref 58), (5, .int x5), (6, .long 0), (8, .int 1)]) hE rfl rfl rfl rfl rfl ?_
    exact h
set_option maxRecDepth 100000 in
set_option maxHeartbeats 4000000 in
theorem v_X4_guessOn_75 {K : jK} {M : jM} {x5 : Int32} {x6 : Int64} {x8 : Int32} {a : Nat} (ha : jRu a) (h : (((M.1 a 2) < x8 → (((M.1 a 1) = 0 → (¬ (x5 < 0 ∨ 8 ≤ x5.toNatClampNeg) ∧ (∀ M2 : jM, M2 = jsl M 58 x5.toNatClampNeg 0 → jEv nX4_guessOn (58, [(1, .ref a), (2, .ref 58), (5, .int (x5 + 1))], [], M2) K))) ∧ (¬ (M.1 a 1) = 0 → (¬ ((M.1 a 1).toInt64) = 0 ∧ (¬ (x5 < 0 ∨ 8 ≤ x5.toNatClampNeg) ∧ (∀ M1 : jM, M1 = jsl M 58 x5.toNatClampNeg (x6 / ((M.1 a 1).toInt64)) → jEv nX4_guessOn (58, [(1, .ref a), (2, .ref 58), (5, .int (x5 + 1))], [], M1) K)))))) ∧ (¬ (M.1 a 2) < x8 → (¬ (x8 < 0 ∨ 4 ≤ x8.toNatClampNeg) ∧ (¬ (x5 - x8 < 0 ∨ 8 ≤ (x5 - x8).toNatClampNeg) ∧ jEv nX4_guessOn (75, [(1, .ref a), (2, .ref 58), (5, .int x5), (6, .long (x6 + (((M.1 (a + 1) x8.toNatClampNeg).toInt64) * (M.2 58 (x5 - x8).toNatClampNeg)))), (8, .int (x8 + 1))], [], M) K))))) : jEv nX4_guessOn (75, [(1, .ref a), (2, .ref 58), (5, .int x5), (6, .long x6), (8, .int x8)], [], M) K := by
  have hE : jMT nX4_guessOn = some me_X4_guessOn := rfl
  refine e_seg (k := 2) (d := (78, [(1, .ref a), (2, .ref 58), (5, .int x5), (6, .long x6), (8, .int x8)], [.ref a, .int x8], M)) rfl ?_
  refine e_get (v := .int (M.1 a 2)) (q := 81) hE rfl rfl rfl rfl (jRu_o ha) rfl rfl ?_
  refine e_ic_gt (t := 111) (q := 84) hE rfl rfl rfl rfl (fun hbr => ?_) (fun hbr => ?_)
  · replace h := h.1 hbr
    refine e_seg (k := 3) (d := (115, [(1, .ref a), (2, .ref 58), (5, .int x5), (6, .long x6), (8, .int x8)], [.ref a, .int x5, .ref 58], M)) rfl ?_
    refine e_get (v := .int (M.1 a 1)) (q := 118) hE rfl rfl rfl rfl (jRu_o ha) rfl rfl ?_
    refine e_if_ne (t := 125) (q := 121) hE rfl rfl rfl rfl (fun hbr => ?_) (fun hbr => ?_)
    · replace h := h.2 hbr
      refine e_seg (k := 2) (d := (128, [(1, .ref a), (2, .ref 58), (5, .int x5), (6, .long x6), (8, .int x8)], [.ref a, .long x6, .int x5, .ref 58], M)) rfl ?_
      refine e_get (v := .int (M.1 a 1)) (q := 131) hE rfl rfl rfl rfl (jRu_o ha) rfl rfl ?_
      refine e_seg (k := 1) (d := (132, [(1, .ref a), (2, .ref 58), (5, .int x5), (6, .long x6), (8, .int x8)], [.long ((M.1 a 1).toInt64), .long x6, .int x5, .ref 58], M)) rfl ?_
      refine e_ldiv (q := 133) hE rfl rfl rfl h.1 ?_
      replace h := h.2
      refine e_last (q := 134) hE rfl rfl rfl rfl h.1 ?_
      replace h := h.2
      obtain ⟨M1, hM1⟩ : ∃ z : jM, z = jsl M 58 x5.toNatClampNeg (x6 / ((M.1 a 1).toInt64)) := ⟨_, rfl⟩
      refine jEv_M hM1 ?_
      replace h := h M1 hM1
      refine e_seg (k := 2) (d := (58, [(1, .ref a), (2, .ref 58), (5, .int (x5 + 1)), (6, .long x6), (8, .int x8)], [], M1)) rfl ?_
      refine e_cut (ks := [1, 2, 5]) (L' := [(1, .ref a), (2, .ref 58), (5, .int (x5 + 1))]) hE rfl rfl rfl rfl rfl ?_
      exact h
    · replace h := h.1 hbr
      refine e_seg (k := 2) (d := (133, [(1, .ref a), (2, .ref 58), (5, .int x5), (6, .long x6), (8, .int x8)], [.long 0, .int x5, .ref 58], M)) rfl ?_
      refine e_last (q := 134) hE rfl rfl rfl rfl h.1 ?_
      replace h := h.2
      obtain ⟨M2, hM2⟩ : ∃ z : jM, z = jsl M 58 x5.toNatClampNeg 0 := ⟨_, rfl⟩
      refine jEv_M hM2 ?_
      replace h := h M2 hM2
      refine e_seg (k := 2) (d := (58, [(1, .ref a), (2, .ref 58), (5, .int (x5 + 1)), (6, .long x6), (8, .int x8)], [], M2)) rfl ?_
      refine e_cut (ks := [1, 2, 5]) (L' := [(1, .ref a), (2, .ref 58), (5, .int (x5 + 1))]) hE rfl rfl rfl rfl rfl ?_
      exact h
  · replace h := h.2 hbr
    refine e_seg (k := 2) (d := (87, [(1, .ref a), (2, .ref 58), (5, .int x5), (6, .long x6), (8, .int x8)], [.ref a, .long x6], M)) rfl ?_
    refine e_get (v := .ref (a + 1)) (q := 90) hE rfl rfl rfl rfl (jRu_o ha) rfl rfl ?_
    refine e_seg (k := 1) (d := (92, [(1, .ref a), (2, .ref 58), (5, .int x5), (6, .long x6), (8, .int x8)], [.int x8, .ref (a + 1), .long x6], M)) rfl ?_
    refine e_iald (q := 93) hE rfl rfl rfl (jRu_1 ha) h.1 ?_
    replace h := h.2
    refine e_seg (k := 5) (d := (100, [(1, .ref a), (2, .ref 58), (5, .int x5), (6, .long x6), (8, .int x8)], [.int (x5 - x8), .ref 58, .long ((M.1 (a + 1) x8.toNatClampNeg).toInt64), .long x6], M)) rfl ?_
    refine e_lald (q := 101) hE rfl rfl rfl rfl h.1 ?_
    replace h := h.2
    refine e_seg (k := 5) (d := (75, [(1, .ref a), (2, .ref 58), (5, .int x5), (6, .long (x6 + (((M.1 (a + 1) x8.toNatClampNeg).toInt64) * (M.2 58 (x5 - x8).toNatClampNeg)))), (8, .int (x8 + 1))], [], M)) rfl ?_
    refine e_cut (ks := [1, 2, 5, 6, 8]) (L' := [(1, .ref a), (2, .ref 58), (5, .int x5), (6, .long (x6 + (((M.1 (a + 1) x8.toNatClampNeg).toInt64) * (M.2 58 (x5 - x8).toNatClampNeg)))), (8, .int (x8 + 1))]) hE rfl rfl rfl rfl rfl ?_
    exact h
set_option maxRecDepth 100000 in
set_option maxHeartbeats 4000000 in
theorem v_X4_wholeCount_0 {K : jK} {M : jM} {a : Nat} (ha : jRu a) (h : jEv nX4_wholeCount (7, [(0, .ref 41), (1, .ref a), (2, .int 0), (3, .int (M.1 a 2))], [], M) K) : jEv nX4_wholeCount (0, [(0, .ref 41), (1, .ref a)], [], M) K := by
  have hE : jMT nX4_wholeCount = some me_X4_wholeCount := rfl
  refine e_seg (k := 3) (d := (3, [(0, .ref 41), (1, .ref a), (2, .int 0)], [.ref a], M)) rfl ?_
  refine e_get (v := .int (M.1 a 2)) (q := 6) hE rfl rfl rfl rfl (jRu_o ha) rfl rfl ?_
  refine e_seg (k := 1) (d := (7, [(0, .ref 41), (1, .ref a), (2, .int 0), (3, .int (M.1 a 2))], [], M)) rfl ?_
  refine e_cut (ks := [0, 1, 2, 3]) (L' := [(0, .ref 41), (1, .ref a), (2, .int 0), (3, .int (M.1 a 2))]) hE rfl rfl rfl rfl rfl ?_
  exact h
set_option maxRecDepth 100000 in
set_option maxHeartbeats 4000000 in
theorem v_X4_wholeCount_7 {K : jK} {M : jM} {x2 : Int32} {x3 : Int32} {a : Nat} (ha : jRu a) (h : (((M.1 41 2) ≤ x3 → K (some (some (.int x2))) M) ∧ (¬ (M.1 41 2) ≤ x3 → (jEv nX4_isGapless (0, [(0, .ref 41), (1, .int (x3 - (M.1 a 2))), (2, .int (x3 + 1))], [], M) (fun o1 M2 => ∃ r3 : Int32, o1 = some (some (.int r3)) ∧ ((r3 = 0 → jEv nX4_wholeCount (7, [(0, .ref 41), (1, .ref a), (2, .int (x2 + 0)), (3, .int (x3 + 1))], [], M2) K) ∧ (¬ r3 = 0 → jEv nX4_wholeCount (7, [(0, .ref 41), (1, .ref a), (2, .int (x2 + 1)), (3, .int (x3 + 1))], [], M2) K))))))) : jEv nX4_wholeCount (7, [(0, .ref 41), (1, .ref a), (2, .int x2), (3, .int x3)], [], M) K := by
  have hE : jMT nX4_wholeCount = some me_X4_wholeCount := rfl
  refine e_seg (k := 3) (d := (12, [(0, .ref 41), (1, .ref a), (2, .int x2), (3, .int x3)], [.int (M.1 41 2), .int x3], M)) rfl ?_
  refine e_ic_ge (t := 45) (q := 15) hE rfl rfl rfl rfl (fun hbr => ?_) (fun hbr => ?_)
  · replace h := h.1 hbr
    refine e_seg (k := 1) (d := (46, [(0, .ref 41), (1, .ref a), (2, .int x2), (3, .int x3)], [.int x2], M)) rfl ?_
    exact e_ret hE rfl rfl (jb_i rfl) h
  · replace h := h.2 hbr
    refine e_seg (k := 4) (d := (19, [(0, .ref 41), (1, .ref a), (2, .int x2), (3, .int x3)], [.ref a, .int x3, .ref 41, .int x2], M)) rfl ?_
    refine e_get (v := .int (M.1 a 2)) (q := 22) hE rfl rfl rfl rfl (jRu_o ha) rfl rfl ?_
    refine e_seg (k := 4) (d := (26, [(0, .ref 41), (1, .ref a), (2, .int x2), (3, .int x3)], [.int (x3 + 1), .int (x3 - (M.1 a 2)), .ref 41, .int x2], M)) rfl ?_
    refine e_call (q := 29) (L0 := [(0, .ref 41), (1, .int (x3 - (M.1 a 2))), (2, .int (x3 + 1))]) hE rfl rfl rfl rfl (jargs_V rfl rfl rfl rfl rfl (Nat.le_of_ble_eq_true rfl) (Nat.le_of_ble_eq_true rfl) (Nat.le_of_ble_eq_true rfl)) rfl rfl (jEv.mono h (fun o1 M2 h => ?_))
    obtain ⟨r3, rfl, h⟩ := h
    refine ⟨_, rfl, ?_⟩
    show jEv nX4_wholeCount (29, [(0, .ref 41), (1, .ref a), (2, .int x2), (3, .int x3)], [.int r3, .int x2], M2) K
    refine e_if_eq (t := 36) (q := 32) hE rfl rfl rfl rfl (fun hbr => ?_) (fun hbr => ?_)
    · replace h := h.1 hbr
      refine e_seg (k := 5) (d := (7, [(0, .ref 41), (1, .ref a), (2, .int (x2 + 0)), (3, .int (x3 + 1))], [], M2)) rfl ?_
      refine e_cut (ks := [0, 1, 2, 3]) (L' := [(0, .ref 41), (1, .ref a), (2, .int (x2 + 0)), (3, .int (x3 + 1))]) hE rfl rfl rfl rfl rfl ?_
      exact h
    · replace h := h.2 hbr
      refine e_seg (k := 6) (d := (7, [(0, .ref 41), (1, .ref a), (2, .int (x2 + 1)), (3, .int (x3 + 1))], [], M2)) rfl ?_
      refine e_cut (ks := [0, 1, 2, 3]) (L' := [(0, .ref 41), (1, .ref a), (2, .int (x2 + 1)), (3, .int (x3 + 1))]) hE rfl rfl rfl rfl rfl ?_
      exact h
set_option maxRecDepth 100000 in
set_option maxHeartbeats 4000000 in
theorem v_X4_write_0 {K : jK} {M : jM} {x1 : Int32} {x2 : Int32} (h : (¬ (x1 < 0 ∨ 60 ≤ x1.toNatClampNeg) ∧ (∀ M1 : jM, M1 = jsi M 42 x1.toNatClampNeg x2 → (∀ M2 : jM, M2 = jsi M1 41 2 (if (M1.1 41 2) < (x1 + 1) then (x1 + 1) else (M1.1 41 2)) → K (some none) M2)))) : jEv nX4_write (0, [(0, .ref 41), (1, .int x1), (2, .int x2)], [], M) K := by
  have hE : jMT nX4_write = some me_X4_write := rfl
  refine e_seg (k := 4) (d := (6, [(0, .ref 41), (1, .int x1), (2, .int x2)], [.int x2, .int x1, .ref 42], M)) rfl ?_
  refine e_iast (q := 7) hE rfl rfl rfl rfl h.1 ?_
  replace h := h.2
  obtain ⟨M1, hM1⟩ : ∃ z : jM, z = jsi M 42 x1.toNatClampNeg x2 := ⟨_, rfl⟩
  refine jEv_M hM1 ?_
  replace h := h M1 hM1
  refine e_seg (k := 7) (d := (18, [(0, .ref 41), (1, .int x1), (2, .int x2)], [.int (if (M1.1 41 2) < (x1 + 1) then (x1 + 1) else (M1.1 41 2)), .ref 41], M1)) rfl ?_
  refine e_put (q := 21) hE rfl rfl rfl rfl rfl rfl rfl ?_
  obtain ⟨M2, hM2⟩ : ∃ z : jM, z = jsi M1 41 2 (if (M1.1 41 2) < (x1 + 1) then (x1 + 1) else (M1.1 41 2)) := ⟨_, rfl⟩
  refine jEv_M hM2 ?_
  replace h := h M2 hM2
  exact e_ret hE rfl rfl rfl h
set_option maxRecDepth 100000 in
set_option maxHeartbeats 4000000 in
theorem v_X4_jointPulls_0 {K : jK} {M : jM} {x2 : Int32} {x3 : Int32} {a : Nat} (ha : jRu a) (h : jEv nX4_jointPulls (13, [(0, .ref 41), (1, .ref a), (2, .int x2), (3, .int x3), (4, .long 0), (6, .int (if (M.1 a 2) < x2 then x2 else (M.1 a 2)))], [], M) K) : jEv nX4_jointPulls (0, [(0, .ref 41), (1, .ref a), (2, .int x2), (3, .int x3)], [], M) K := by
  have hE : jMT nX4_jointPulls = some me_X4_jointPulls := rfl
  refine e_seg (k := 3) (d := (4, [(0, .ref 41), (1, .ref a), (2, .int x2), (3, .int x3), (4, .long 0)], [.ref a], M)) rfl ?_
  refine e_get (v := .int (M.1 a 2)) (q := 7) hE rfl rfl rfl rfl (jRu_o ha) rfl rfl ?_
  refine e_seg (k := 3) (d := (13, [(0, .ref 41), (1, .ref a), (2, .int x2), (3, .int x3), (4, .long 0), (6, .int (if (M.1 a 2) < x2 then x2 else (M.1 a 2)))], [], M)) rfl ?_
  refine e_cut (ks := [0, 1, 2, 3, 4, 6]) (L' := [(0, .ref 41), (1, .ref a), (2, .int x2), (3, .int x3), (4, .long 0), (6, .int (if (M.1 a 2) < x2 then x2 else (M.1 a 2)))]) hE rfl rfl rfl rfl rfl ?_
  exact h
set_option maxRecDepth 100000 in
set_option maxHeartbeats 4000000 in
theorem v_X4_jointPulls_13 {K : jK} {M : jM} {x2 : Int32} {x3 : Int32} {x4 : Int64} {x6 : Int32} {a : Nat} (ha : jRu a) (h : (((M.1 41 2) ≤ x6 → K (some (some (.long x4))) M) ∧ (¬ (M.1 41 2) ≤ x6 → (((x2 + (M.1 a 2)) < x6 → K (some (some (.long x4))) M) ∧ (¬ (x2 + (M.1 a 2)) < x6 → (jEv nX5_pull (0, [(0, .ref a), (1, .int (x6 - x2))], [], M) (fun o1 M2 => ∃ r3 : Int32, o1 = some (some (.int r3)) ∧ (jEv nX5_pull (0, [(0, .ref a), (1, .int (x6 - x3))], [], M2) (fun o4 M5 => ∃ r6 : Int32, o4 = some (some (.int r6)) ∧ jEv nX4_jointPulls (13, [(0, .ref 41), (1, .ref a), (2, .int x2), (3, .int x3), (4, .long (x4 + ((r3 * r6).toInt64))), (6, .int (x6 + 1))], [], M5) K))))))))) : jEv nX4_jointPulls (13, [(0, .ref 41), (1, .ref a), (2, .int x2), (3, .int x3), (4, .long x4), (6, .int x6)], [], M) K := by
  have hE : jMT nX4_jointPulls = some me_X4_jointPulls := rfl
  refine e_seg (k := 3) (d := (19, [(0, .ref 41), (1, .ref a), (2, .int x2), (3, .int x3), (4, .long x4), (6, .int x6)], [.int (M.1 41 2), .int x6], M)) rfl ?_
  refine e_ic_ge (t := 62) (q := 22) hE rfl rfl rfl rfl (fun hbr => ?_) (fun hbr => ?_)
  · replace h := h.1 hbr
    refine e_seg (k := 1) (d := (64, [(0, .ref 41), (1, .ref a), (2, .int x2), (3, .int x3), (4, .long x4), (6, .int x6)], [.long x4], M)) rfl ?_
    exact e_ret hE rfl rfl (jb_l rfl) h
  · replace h := h.2 hbr
    refine e_seg (k := 3) (d := (26, [(0, .ref 41), (1, .ref a), (2, .int x2), (3, .int x3), (4, .long x4), (6, .int x6)], [.ref a, .int x2, .int x6], M)) rfl ?_
    refine e_get (v := .int (M.1 a 2)) (q := 29) hE rfl rfl rfl rfl (jRu_o ha) rfl rfl ?_
    refine e_seg (k := 1) (d := (30, [(0, .ref 41), (1, .ref a), (2, .int x2), (3, .int x3), (4, .long x4), (6, .int x6)], [.int (x2 + (M.1 a 2)), .int x6], M)) rfl ?_
    refine e_ic_gt (t := 62) (q := 33) hE rfl rfl rfl rfl (fun hbr => ?_) (fun hbr => ?_)
    · replace h := h.1 hbr
      refine e_seg (k := 1) (d := (64, [(0, .ref 41), (1, .ref a), (2, .int x2), (3, .int x3), (4, .long x4), (6, .int x6)], [.long x4], M)) rfl ?_
      exact e_ret hE rfl rfl (jb_l rfl) h
    · replace h := h.2 hbr
      refine e_seg (k := 5) (d := (40, [(0, .ref 41), (1, .ref a), (2, .int x2), (3, .int x3), (4, .long x4), (6, .int x6)], [.int (x6 - x2), .ref a, .long x4], M)) rfl ?_
      refine e_call (q := 43) (L0 := [(0, .ref a), (1, .int (x6 - x2))]) hE rfl rfl rfl rfl (jargs_V (jRu_o ha) rfl rfl rfl rfl (Nat.le_of_ble_eq_true rfl) (Nat.le_of_ble_eq_true rfl) (Nat.le_of_ble_eq_true rfl)) rfl rfl (jEv.mono h (fun o1 M2 h => ?_))
      obtain ⟨r3, rfl, h⟩ := h
      refine ⟨_, rfl, ?_⟩
      show jEv nX4_jointPulls (43, [(0, .ref 41), (1, .ref a), (2, .int x2), (3, .int x3), (4, .long x4), (6, .int x6)], [.int r3, .long x4], M2) K
      refine e_seg (k := 4) (d := (48, [(0, .ref 41), (1, .ref a), (2, .int x2), (3, .int x3), (4, .long x4), (6, .int x6)], [.int (x6 - x3), .ref a, .int r3, .long x4], M2)) rfl ?_
      refine e_call (q := 51) (L0 := [(0, .ref a), (1, .int (x6 - x3))]) hE rfl rfl rfl rfl (jargs_V (jRu_o ha) rfl rfl rfl rfl (Nat.le_of_ble_eq_true rfl) (Nat.le_of_ble_eq_true rfl) (Nat.le_of_ble_eq_true rfl)) rfl rfl (jEv.mono h (fun o4 M5 h => ?_))
      obtain ⟨r6, rfl, h⟩ := h
      refine ⟨_, rfl, ?_⟩
      show jEv nX4_jointPulls (51, [(0, .ref 41), (1, .ref a), (2, .int x2), (3, .int x3), (4, .long x4), (6, .int x6)], [.int r6, .int r3, .long x4], M5) K
      refine e_seg (k := 6) (d := (13, [(0, .ref 41), (1, .ref a), (2, .int x2), (3, .int x3), (4, .long (x4 + ((r3 * r6).toInt64))), (6, .int (x6 + 1))], [], M5)) rfl ?_
      refine e_cut (ks := [0, 1, 2, 3, 4, 6]) (L' := [(0, .ref 41), (1, .ref a), (2, .int x2), (3, .int x3), (4, .long (x4 + ((r3 * r6).toInt64))), (6, .int (x6 + 1))]) hE rfl rfl rfl rfl rfl ?_
      exact h
set_option maxRecDepth 100000 in
set_option maxHeartbeats 4000000 in
theorem v_X4_missAt_0 {K : jK} {M : jM} {x2 : Int32} {a : Nat} (ha : jRu a) (h : jEv nX4_missAt (5, [(0, .ref 41), (1, .ref a), (2, .int x2), (3, .long 0), (5, .int 0)], [], M) K) : jEv nX4_missAt (0, [(0, .ref 41), (1, .ref a), (2, .int x2)], [], M) K := by
  have hE : jMT nX4_missAt = some me_X4_missAt := rfl
  refine e_seg (k := 4) (d := (5, [(0, .ref 41), (1, .ref a), (2, .int x2), (3, .long 0), (5, .int 0)], [], M)) rfl ?_
  refine e_cut (ks := [0, 1, 2, 3, 5]) (L' := [(0, .ref 41), (1, .ref a), (2, .int x2), (3, .long 0), (5, .int 0)]) hE rfl rfl rfl rfl rfl ?_
  exact h
set_option maxRecDepth 100000 in
set_option maxHeartbeats 4000000 in
theorem v_X4_missAt_5 {K : jK} {M : jM} {x2 : Int32} {x3 : Int64} {x5 : Int32} {a : Nat} (ha : jRu a) (h : (((M.1 a 2) < x5 → K (some (some (.long x3))) M) ∧ (¬ (M.1 a 2) < x5 → (¬ (x2 - x5 < 0 ∨ 60 ≤ (x2 - x5).toNatClampNeg) ∧ (((M.1 42 (x2 - x5).toNatClampNeg) = 100 → jEv nX4_missAt (5, [(0, .ref 41), (1, .ref a), (2, .int x2), (3, .long (x3 + 0)), (5, .int (x5 + 1))], [], M) K) ∧ (¬ (M.1 42 (x2 - x5).toNatClampNeg) = 100 → (jEv nX5_pull (0, [(0, .ref a), (1, .int x5)], [], M) (fun o1 M2 => ∃ r3 : Int32, o1 = some (some (.int r3)) ∧ jEv nX4_missAt (5, [(0, .ref 41), (1, .ref a), (2, .int x2), (3, .long (x3 + ((r3 * (M.1 42 (x2 - x5).toNatClampNeg)).toInt64))), (5, .int (x5 + 1))], [], M2) K)))))))) : jEv nX4_missAt (5, [(0, .ref 41), (1, .ref a), (2, .int x2), (3, .long x3), (5, .int x5)], [], M) K := by
  have hE : jMT nX4_missAt = some me_X4_missAt := rfl
  refine e_seg (k := 2) (d := (8, [(0, .ref 41), (1, .ref a), (2, .int x2), (3, .long x3), (5, .int x5)], [.ref a, .int x5], M)) rfl ?_
  refine e_get (v := .int (M.1 a 2)) (q := 11) hE rfl rfl rfl rfl (jRu_o ha) rfl rfl ?_
  refine e_ic_gt (t := 55) (q := 14) hE rfl rfl rfl rfl (fun hbr => ?_) (fun hbr => ?_)
  · replace h := h.1 hbr
    refine e_seg (k := 1) (d := (56, [(0, .ref 41), (1, .ref a), (2, .int x2), (3, .long x3), (5, .int x5)], [.long x3], M)) rfl ?_
    exact e_ret hE rfl rfl (jb_l rfl) h
  · replace h := h.2 hbr
    refine e_seg (k := 5) (d := (22, [(0, .ref 41), (1, .ref a), (2, .int x2), (3, .long x3), (5, .int x5)], [.int (x2 - x5), .ref 42], M)) rfl ?_
    refine e_iald (q := 23) hE rfl rfl rfl rfl h.1 ?_
    replace h := h.2
    refine e_seg (k := 4) (d := (30, [(0, .ref 41), (1, .ref a), (2, .int x2), (3, .long x3), (5, .int x5), (6, .int (M.1 42 (x2 - x5).toNatClampNeg))], [.int 100, .int (M.1 42 (x2 - x5).toNatClampNeg), .long x3], M)) rfl ?_
    refine e_ic_ne (t := 37) (q := 33) hE rfl rfl rfl rfl (fun hbr => ?_) (fun hbr => ?_)
    · replace h := h.2 hbr
      refine e_seg (k := 2) (d := (40, [(0, .ref 41), (1, .ref a), (2, .int x2), (3, .long x3), (5, .int x5), (6, .int (M.1 42 (x2 - x5).toNatClampNeg))], [.int x5, .ref a, .long x3], M)) rfl ?_
      refine e_call (q := 43) (L0 := [(0, .ref a), (1, .int x5)]) hE rfl rfl rfl rfl (jargs_V (jRu_o ha) rfl rfl rfl rfl (Nat.le_of_ble_eq_true rfl) (Nat.le_of_ble_eq_true rfl) (Nat.le_of_ble_eq_true rfl)) rfl rfl (jEv.mono h (fun o1 M2 h => ?_))
      obtain ⟨r3, rfl, h⟩ := h
      refine ⟨_, rfl, ?_⟩
      show jEv nX4_missAt (43, [(0, .ref 41), (1, .ref a), (2, .int x2), (3, .long x3), (5, .int x5), (6, .int (M.1 42 (x2 - x5).toNatClampNeg))], [.int r3, .long x3], M2) K
      refine e_seg (k := 7) (d := (5, [(0, .ref 41), (1, .ref a), (2, .int x2), (3, .long (x3 + ((r3 * (M.1 42 (x2 - x5).toNatClampNeg)).toInt64))), (5, .int (x5 + 1)), (6, .int (M.1 42 (x2 - x5).toNatClampNeg))], [], M2)) rfl ?_
      refine e_cut (ks := [0, 1, 2, 3, 5]) (L' := [(0, .ref 41), (1, .ref a), (2, .int x2), (3, .long (x3 + ((r3 * (M.1 42 (x2 - x5).toNatClampNeg)).toInt64))), (5, .int (x5 + 1))]) hE rfl rfl rfl rfl rfl ?_
      exact h
    · replace h := h.1 hbr
      refine e_seg (k := 6) (d := (5, [(0, .ref 41), (1, .ref a), (2, .int x2), (3, .long (x3 + 0)), (5, .int (x5 + 1)), (6, .int (M.1 42 (x2 - x5).toNatClampNeg))], [], M)) rfl ?_
      refine e_cut (ks := [0, 1, 2, 3, 5]) (L' := [(0, .ref 41), (1, .ref a), (2, .int x2), (3, .long (x3 + 0)), (5, .int (x5 + 1))]) hE rfl rfl rfl rfl rfl ?_
      exact h
set_option maxRecDepth 100000 in
set_option maxHeartbeats 4000000 in
theorem v_X4_pulledMisses_0 {K : jK} {M : jM} {x2 : Int32} {a : Nat} (ha : jRu a) (h : jEv nX4_pulledMisses (12, [(0, .ref 41), (1, .ref a), (2, .int x2), (3, .long 0), (5, .int (if (M.1 a 2) < x2 then x2 else (M.1 a 2)))], [], M) K) : jEv nX4_pulledMisses (0, [(0, .ref 41), (1, .ref a), (2, .int x2)], [], M) K := by
  have hE : jMT nX4_pulledMisses = some me_X4_pulledMisses := rfl
  refine e_seg (k := 3) (d := (3, [(0, .ref 41), (1, .ref a), (2, .int x2), (3, .long 0)], [.ref a], M)) rfl ?_
  refine e_get (v := .int (M.1 a 2)) (q := 6) hE rfl rfl rfl rfl (jRu_o ha) rfl rfl ?_
  refine e_seg (k := 3) (d := (12, [(0, .ref 41), (1, .ref a), (2, .int x2), (3, .long 0), (5, .int (if (M.1 a 2) < x2 then x2 else (M.1 a 2)))], [], M)) rfl ?_
  refine e_cut (ks := [0, 1, 2, 3, 5]) (L' := [(0, .ref 41), (1, .ref a), (2, .int x2), (3, .long 0), (5, .int (if (M.1 a 2) < x2 then x2 else (M.1 a 2)))]) hE rfl rfl rfl rfl rfl ?_
  exact h
set_option maxRecDepth 100000 in
set_option maxHeartbeats 4000000 in
theorem v_X4_pulledMisses_12 {K : jK} {M : jM} {x2 : Int32} {x3 : Int64} {x5 : Int32} {a : Nat} (ha : jRu a) (h : (((M.1 41 2) ≤ x5 → K (some (some (.long x3))) M) ∧ (¬ (M.1 41 2) ≤ x5 → (((x2 + (M.1 a 2)) < x5 → K (some (some (.long x3))) M) ∧ (¬ (x2 + (M.1 a 2)) < x5 → (jEv nX5_pull (0, [(0, .ref a), (1, .int (x5 - x2))], [], M) (fun o1 M2 => ∃ r3 : Int32, o1 = some (some (.int r3)) ∧ (jEv nX4_missAt (0, [(0, .ref 41), (1, .ref a), (2, .int x5)], [], M2) (fun o4 M5 => ∃ r6 : Int64, o4 = some (some (.long r6)) ∧ jEv nX4_pulledMisses (12, [(0, .ref 41), (1, .ref a), (2, .int x2), (3, .long (x3 + (r3.toInt64 * r6))), (5, .int (x5 + 1))], [], M5) K))))))))) : jEv nX4_pulledMisses (12, [(0, .ref 41), (1, .ref a), (2, .int x2), (3, .long x3), (5, .int x5)], [], M) K := by
  have hE : jMT nX4_pulledMisses = some me_X4_pulledMisses := rfl
  refine e_seg (k := 3) (d := (18, [(0, .ref 41), (1, .ref a), (2, .int x2), (3, .long x3), (5, .int x5)], [.int (M.1 41 2), .int x5], M)) rfl ?_
  refine e_ic_ge (t := 58) (q := 21) hE rfl rfl rfl rfl (fun hbr => ?_) (fun hbr => ?_)
  · replace h := h.1 hbr
    refine e_seg (k := 1) (d := (59, [(0, .ref 41), (1, .ref a), (2, .int x2), (3, .long x3), (5, .int x5)], [.long x3], M)) rfl ?_
    exact e_ret hE rfl rfl (jb_l rfl) h
  · replace h := h.2 hbr
    refine e_seg (k := 3) (d := (25, [(0, .ref 41), (1, .ref a), (2, .int x2), (3, .long x3), (5, .int x5)], [.ref a, .int x2, .int x5], M)) rfl ?_
    refine e_get (v := .int (M.1 a 2)) (q := 28) hE rfl rfl rfl rfl (jRu_o ha) rfl rfl ?_
    refine e_seg (k := 1) (d := (29, [(0, .ref 41), (1, .ref a), (2, .int x2), (3, .long x3), (5, .int x5)], [.int (x2 + (M.1 a 2)), .int x5], M)) rfl ?_
    refine e_ic_gt (t := 58) (q := 32) hE rfl rfl rfl rfl (fun hbr => ?_) (fun hbr => ?_)
    · replace h := h.1 hbr
      refine e_seg (k := 1) (d := (59, [(0, .ref 41), (1, .ref a), (2, .int x2), (3, .long x3), (5, .int x5)], [.long x3], M)) rfl ?_
      exact e_ret hE rfl rfl (jb_l rfl) h
    · replace h := h.2 hbr
      refine e_seg (k := 5) (d := (38, [(0, .ref 41), (1, .ref a), (2, .int x2), (3, .long x3), (5, .int x5)], [.int (x5 - x2), .ref a, .long x3], M)) rfl ?_
      refine e_call (q := 41) (L0 := [(0, .ref a), (1, .int (x5 - x2))]) hE rfl rfl rfl rfl (jargs_V (jRu_o ha) rfl rfl rfl rfl (Nat.le_of_ble_eq_true rfl) (Nat.le_of_ble_eq_true rfl) (Nat.le_of_ble_eq_true rfl)) rfl rfl (jEv.mono h (fun o1 M2 h => ?_))
      obtain ⟨r3, rfl, h⟩ := h
      refine ⟨_, rfl, ?_⟩
      show jEv nX4_pulledMisses (41, [(0, .ref 41), (1, .ref a), (2, .int x2), (3, .long x3), (5, .int x5)], [.int r3, .long x3], M2) K
      refine e_seg (k := 4) (d := (46, [(0, .ref 41), (1, .ref a), (2, .int x2), (3, .long x3), (5, .int x5)], [.int x5, .ref a, .ref 41, .long r3.toInt64, .long x3], M2)) rfl ?_
      refine e_call (q := 49) (L0 := [(0, .ref 41), (1, .ref a), (2, .int x5)]) hE rfl rfl rfl rfl (jargs_V rfl rfl rfl rfl rfl (Nat.le_of_ble_eq_true rfl) (Nat.le_of_ble_eq_true rfl) (Nat.le_of_ble_eq_true rfl)) rfl rfl (jEv.mono h (fun o4 M5 h => ?_))
      obtain ⟨r6, rfl, h⟩ := h
      refine ⟨_, rfl, ?_⟩
      show jEv nX4_pulledMisses (49, [(0, .ref 41), (1, .ref a), (2, .int x2), (3, .long x3), (5, .int x5)], [.long r6, .long r3.toInt64, .long x3], M5) K
      refine e_seg (k := 5) (d := (12, [(0, .ref 41), (1, .ref a), (2, .int x2), (3, .long (x3 + (r3.toInt64 * r6))), (5, .int (x5 + 1))], [], M5)) rfl ?_
      refine e_cut (ks := [0, 1, 2, 3, 5]) (L' := [(0, .ref 41), (1, .ref a), (2, .int x2), (3, .long (x3 + (r3.toInt64 * r6))), (5, .int (x5 + 1))]) hE rfl rfl rfl rfl rfl ?_
      exact h
set_option maxRecDepth 100000 in
set_option maxHeartbeats 4000000 in
theorem v_X4_squaredPulls_0 {K : jK} {M : jM} {x2 : Int32} {a : Nat} (ha : jRu a) (h : (jEv nX4_jointPulls (0, [(0, .ref 41), (1, .ref a), (2, .int x2), (3, .int x2)], [], M) (fun o1 M2 => ∃ r3 : Int64, o1 = some (some (.long r3)) ∧ K (some (some (.long r3))) M2))) : jEv nX4_squaredPulls (0, [(0, .ref 41), (1, .ref a), (2, .int x2)], [], M) K := by
  have hE : jMT nX4_squaredPulls = some me_X4_squaredPulls := rfl
  refine e_seg (k := 4) (d := (4, [(0, .ref 41), (1, .ref a), (2, .int x2)], [.int x2, .int x2, .ref a, .ref 41], M)) rfl ?_
  refine e_call (q := 7) (L0 := [(0, .ref 41), (1, .ref a), (2, .int x2), (3, .int x2)]) hE rfl rfl rfl rfl (jargs_V rfl rfl rfl rfl rfl (Nat.le_of_ble_eq_true rfl) (Nat.le_of_ble_eq_true rfl) (Nat.le_of_ble_eq_true rfl)) rfl rfl (jEv.mono h (fun o1 M2 h => ?_))
  obtain ⟨r3, rfl, h⟩ := h
  refine ⟨_, rfl, ?_⟩
  show jEv nX4_squaredPulls (7, [(0, .ref 41), (1, .ref a), (2, .int x2)], [.long r3], M2) K
  exact e_ret hE rfl rfl (jb_l rfl) h
set_option maxRecDepth 100000 in
set_option maxHeartbeats 4000000 in
theorem v_X4_squaresTop_0 {K : jK} {M : jM} {a : Nat} (ha : jRu a) (h : jEv nX4_squaresTop (8, [(0, .ref 41), (1, .ref a), (2, .long 0), (4, .int (M.1 a 2))], [], M) K) : jEv nX4_squaresTop (0, [(0, .ref 41), (1, .ref a)], [], M) K := by
  have hE : jMT nX4_squaresTop = some me_X4_squaresTop := rfl
  refine e_seg (k := 3) (d := (3, [(0, .ref 41), (1, .ref a), (2, .long 0)], [.ref a], M)) rfl ?_
  refine e_get (v := .int (M.1 a 2)) (q := 6) hE rfl rfl rfl rfl (jRu_o ha) rfl rfl ?_
  refine e_seg (k := 1) (d := (8, [(0, .ref 41), (1, .ref a), (2, .long 0), (4, .int (M.1 a 2))], [], M)) rfl ?_
  refine e_cut (ks := [0, 1, 2, 4]) (L' := [(0, .ref 41), (1, .ref a), (2, .long 0), (4, .int (M.1 a 2))]) hE rfl rfl rfl rfl rfl ?_
  exact h
set_option maxRecDepth 100000 in
set_option maxHeartbeats 4000000 in
theorem v_X4_squaresTop_8 {K : jK} {M : jM} {x2 : Int64} {x4 : Int32} {a : Nat} (ha : jRu a) (h : (((M.1 41 2) ≤ x4 → K (some (some (.long x2))) M) ∧ (¬ (M.1 41 2) ≤ x4 → (jEv nX4_isGapless (0, [(0, .ref 41), (1, .int (x4 - (M.1 a 2))), (2, .int (x4 + 1))], [], M) (fun o1 M2 => ∃ r3 : Int32, o1 = some (some (.int r3)) ∧ ((r3 = 0 → jEv nX4_squaresTop (8, [(0, .ref 41), (1, .ref a), (2, .long x2), (4, .int (x4 + 1))], [], M2) K) ∧ (¬ r3 = 0 → (jEv nX4_missAt (0, [(0, .ref 41), (1, .ref a), (2, .int x4)], [], M2) (fun o4 M5 => ∃ r6 : Int64, o4 = some (some (.long r6)) ∧ jEv nX4_squaresTop (8, [(0, .ref 41), (1, .ref a), (2, .long (x2 + (r6 * r6))), (4, .int (x4 + 1))], [], M5) K))))))))) : jEv nX4_squaresTop (8, [(0, .ref 41), (1, .ref a), (2, .long x2), (4, .int x4)], [], M) K := by
  have hE : jMT nX4_squaresTop = some me_X4_squaresTop := rfl
  refine e_seg (k := 3) (d := (14, [(0, .ref 41), (1, .ref a), (2, .long x2), (4, .int x4)], [.int (M.1 41 2), .int x4], M)) rfl ?_
  refine e_ic_ge (t := 58) (q := 17) hE rfl rfl rfl rfl (fun hbr => ?_) (fun hbr => ?_)
  · replace h := h.1 hbr
    refine e_seg (k := 1) (d := (59, [(0, .ref 41), (1, .ref a), (2, .long x2), (4, .int x4)], [.long x2], M)) rfl ?_
    exact e_ret hE rfl rfl (jb_l rfl) h
  · replace h := h.2 hbr
    refine e_seg (k := 3) (d := (21, [(0, .ref 41), (1, .ref a), (2, .long x2), (4, .int x4)], [.ref a, .int x4, .ref 41], M)) rfl ?_
    refine e_get (v := .int (M.1 a 2)) (q := 24) hE rfl rfl rfl rfl (jRu_o ha) rfl rfl ?_
    refine e_seg (k := 4) (d := (29, [(0, .ref 41), (1, .ref a), (2, .long x2), (4, .int x4)], [.int (x4 + 1), .int (x4 - (M.1 a 2)), .ref 41], M)) rfl ?_
    refine e_call (q := 32) (L0 := [(0, .ref 41), (1, .int (x4 - (M.1 a 2))), (2, .int (x4 + 1))]) hE rfl rfl rfl rfl (jargs_V rfl rfl rfl rfl rfl (Nat.le_of_ble_eq_true rfl) (Nat.le_of_ble_eq_true rfl) (Nat.le_of_ble_eq_true rfl)) rfl rfl (jEv.mono h (fun o1 M2 h => ?_))
    obtain ⟨r3, rfl, h⟩ := h
    refine ⟨_, rfl, ?_⟩
    show jEv nX4_squaresTop (32, [(0, .ref 41), (1, .ref a), (2, .long x2), (4, .int x4)], [.int r3], M2) K
    refine e_if_eq (t := 52) (q := 35) hE rfl rfl rfl rfl (fun hbr => ?_) (fun hbr => ?_)
    · replace h := h.1 hbr
      refine e_seg (k := 2) (d := (8, [(0, .ref 41), (1, .ref a), (2, .long x2), (4, .int (x4 + 1))], [], M2)) rfl ?_
      refine e_cut (ks := [0, 1, 2, 4]) (L' := [(0, .ref 41), (1, .ref a), (2, .long x2), (4, .int (x4 + 1))]) hE rfl rfl rfl rfl rfl ?_
      exact h
    · replace h := h.2 hbr
      refine e_seg (k := 3) (d := (39, [(0, .ref 41), (1, .ref a), (2, .long x2), (4, .int x4)], [.int x4, .ref a, .ref 41], M2)) rfl ?_
      refine e_call (q := 42) (L0 := [(0, .ref 41), (1, .ref a), (2, .int x4)]) hE rfl rfl rfl rfl (jargs_V rfl rfl rfl rfl rfl (Nat.le_of_ble_eq_true rfl) (Nat.le_of_ble_eq_true rfl) (Nat.le_of_ble_eq_true rfl)) rfl rfl (jEv.mono h (fun o4 M5 h => ?_))
      obtain ⟨r6, rfl, h⟩ := h
      refine ⟨_, rfl, ?_⟩
      show jEv nX4_squaresTop (42, [(0, .ref 41), (1, .ref a), (2, .long x2), (4, .int x4)], [.long r6], M5) K
      refine e_seg (k := 9) (d := (8, [(0, .ref 41), (1, .ref a), (2, .long (x2 + (r6 * r6))), (4, .int (x4 + 1)), (5, .long r6)], [], M5)) rfl ?_
      refine e_cut (ks := [0, 1, 2, 4]) (L' := [(0, .ref 41), (1, .ref a), (2, .long (x2 + (r6 * r6))), (4, .int (x4 + 1))]) hE rfl rfl rfl rfl rfl ?_
      exact h
set_option maxRecDepth 100000 in
set_option maxHeartbeats 4000000 in
theorem v_X4_askForGaps_0 {K : jK} {M : jM} {x2 : Int32} {a : Nat} (ha : jRu a) (h : (jEv nX4_findGaps (0, [(0, .ref 41), (1, .int x2)], [], M) (fun o1 M2 => o1 = some none ∧ jEv nX4_askForGaps (8, [(0, .ref 41), (1, .ref a), (2, .int x2), (3, .ref 44), (4, .int 0)], [], M2) K))) : jEv nX4_askForGaps (0, [(0, .ref 41), (1, .ref a), (2, .int x2), (3, .ref 44)], [], M) K := by
  have hE : jMT nX4_askForGaps = some me_X4_askForGaps := rfl
  refine e_seg (k := 2) (d := (2, [(0, .ref 41), (1, .ref a), (2, .int x2), (3, .ref 44)], [.int x2, .ref 41], M)) rfl ?_
  refine e_call (q := 5) (L0 := [(0, .ref 41), (1, .int x2)]) hE rfl rfl rfl rfl (jargs_V rfl rfl rfl rfl rfl (Nat.le_of_ble_eq_true rfl) (Nat.le_of_ble_eq_true rfl) (Nat.le_of_ble_eq_true rfl)) rfl rfl (jEv.mono h (fun o1 M2 h => ?_))
  obtain ⟨rfl, h⟩ := h
  refine ⟨_, rfl, ?_⟩
  show jEv nX4_askForGaps (5, [(0, .ref 41), (1, .ref a), (2, .int x2), (3, .ref 44)], [], M2) K
  refine e_seg (k := 2) (d := (8, [(0, .ref 41), (1, .ref a), (2, .int x2), (3, .ref 44), (4, .int 0)], [], M2)) rfl ?_
  refine e_cut (ks := [0, 1, 2, 3, 4]) (L' := [(0, .ref 41), (1, .ref a), (2, .int x2), (3, .ref 44), (4, .int 0)]) hE rfl rfl rfl rfl rfl ?_
  exact h
set_option maxRecDepth 100000 in
set_option maxHeartbeats 4000000 in
theorem v_X4_askForGaps_8 {K : jK} {M : jM} {x2 : Int32} {x4 : Int32} {a : Nat} (ha : jRu a) (h : ((x2 ≤ x4 → K (some none) M) ∧ (¬ x2 ≤ x4 → (¬ (x4 < 0 ∨ 3 ≤ x4.toNatClampNeg) ∧ (jEv nX4_pulledMisses (0, [(0, .ref 41), (1, .ref a), (2, .int (M.1 43 x4.toNatClampNeg))], [], M) (fun o1 M2 => ∃ r3 : Int64, o1 = some (some (.long r3)) ∧ (¬ (x4 < 0 ∨ 4 ≤ x4.toNatClampNeg) ∧ (∀ M4 : jM, M4 = jsl M2 50 x4.toNatClampNeg (-r3) → jEv nX4_askForGaps (37, [(0, .ref 41), (1, .ref a), (2, .int x2), (3, .ref 44), (4, .int x4), (5, .int 0)], [], M4) K)))))))) : jEv nX4_askForGaps (8, [(0, .ref 41), (1, .ref a), (2, .int x2), (3, .ref 44), (4, .int x4)], [], M) K := by
  have hE : jMT nX4_askForGaps = some me_X4_askForGaps := rfl
  refine e_seg (k := 2) (d := (11, [(0, .ref 41), (1, .ref a), (2, .int x2), (3, .ref 44), (4, .int x4)], [.int x2, .int x4], M)) rfl ?_
  refine e_ic_ge (t := 84) (q := 14) hE rfl rfl rfl rfl (fun hbr => ?_) (fun hbr => ?_)
  · replace h := h.1 hbr
    exact e_ret hE rfl rfl rfl h
  · replace h := h.2 hbr
    refine e_seg (k := 8) (d := (28, [(0, .ref 41), (1, .ref a), (2, .int x2), (3, .ref 44), (4, .int x4)], [.int x4, .ref 43, .ref a, .ref 41, .int x4, .ref 50], M)) rfl ?_
    refine e_iald (q := 29) hE rfl rfl rfl rfl h.1 ?_
    replace h := h.2
    refine e_call (q := 32) (L0 := [(0, .ref 41), (1, .ref a), (2, .int (M.1 43 x4.toNatClampNeg))]) hE rfl rfl rfl rfl (jargs_V rfl rfl rfl rfl rfl (Nat.le_of_ble_eq_true rfl) (Nat.le_of_ble_eq_true rfl) (Nat.le_of_ble_eq_true rfl)) rfl rfl (jEv.mono h (fun o1 M2 h => ?_))
    obtain ⟨r3, rfl, h⟩ := h
    refine ⟨_, rfl, ?_⟩
    show jEv nX4_askForGaps (32, [(0, .ref 41), (1, .ref a), (2, .int x2), (3, .ref 44), (4, .int x4)], [.long r3, .int x4, .ref 50], M2) K
    refine e_seg (k := 1) (d := (33, [(0, .ref 41), (1, .ref a), (2, .int x2), (3, .ref 44), (4, .int x4)], [.long (-r3), .int x4, .ref 50], M2)) rfl ?_
    refine e_last (q := 34) hE rfl rfl rfl rfl h.1 ?_
    replace h := h.2
    obtain ⟨M4, hM4⟩ : ∃ z : jM, z = jsl M2 50 x4.toNatClampNeg (-r3) := ⟨_, rfl⟩
    refine jEv_M hM4 ?_
    replace h := h M4 hM4
    refine e_seg (k := 2) (d := (37, [(0, .ref 41), (1, .ref a), (2, .int x2), (3, .ref 44), (4, .int x4), (5, .int 0)], [], M4)) rfl ?_
    refine e_cut (ks := [0, 1, 2, 3, 4, 5]) (L' := [(0, .ref 41), (1, .ref a), (2, .int x2), (3, .ref 44), (4, .int x4), (5, .int 0)]) hE rfl rfl rfl rfl rfl ?_
    exact h
set_option maxRecDepth 100000 in
set_option maxHeartbeats 4000000 in
theorem v_X4_askForGaps_37 {K : jK} {M : jM} {x2 : Int32} {x4 : Int32} {x5 : Int32} {a : Nat} (ha : jRu a) (h : ((x2 ≤ x5 → jEv nX4_askForGaps (8, [(0, .ref 41), (1, .ref a), (2, .int x2), (3, .ref 44), (4, .int (x4 + 1))], [], M) K) ∧ (¬ x2 ≤ x5 → (¬ (x4 < 0 ∨ 4 ≤ x4.toNatClampNeg) ∧ (¬ (x4 < 0 ∨ 3 ≤ x4.toNatClampNeg) ∧ (¬ (x5 < 0 ∨ 3 ≤ x5.toNatClampNeg) ∧ (jEv nX4_jointPulls (0, [(0, .ref 41), (1, .ref a), (2, .int (M.1 43 x4.toNatClampNeg)), (3, .int (M.1 43 x5.toNatClampNeg))], [], M) (fun o2 M3 => ∃ r4 : Int64, o2 = some (some (.long r4)) ∧ (¬ (x5 < 0 ∨ 4 ≤ x5.toNatClampNeg) ∧ (∀ M5 : jM, M5 = jsl M3 (46 + x4.toNatClampNeg) x5.toNatClampNeg r4 → jEv nX4_askForGaps (37, [(0, .ref 41), (1, .ref a), (2, .int x2), (3, .ref 44), (4, .int x4), (5, .int (x5 + 1))], [], M5) K)))))))))) : jEv nX4_askForGaps (37, [(0, .ref 41), (1, .ref a), (2, .int x2), (3, .ref 44), (4, .int x4), (5, .int x5)], [], M) K := by
  have hE : jMT nX4_askForGaps = some me_X4_askForGaps := rfl
  refine e_seg (k := 2) (d := (40, [(0, .ref 41), (1, .ref a), (2, .int x2), (3, .ref 44), (4, .int x4), (5, .int x5)], [.int x2, .int x5], M)) rfl ?_
  refine e_ic_ge (t := 78) (q := 43) hE rfl rfl rfl rfl (fun hbr => ?_) (fun hbr => ?_)
  · replace h := h.1 hbr
    refine e_seg (k := 2) (d := (8, [(0, .ref 41), (1, .ref a), (2, .int x2), (3, .ref 44), (4, .int (x4 + 1)), (5, .int x5)], [], M)) rfl ?_
    refine e_cut (ks := [0, 1, 2, 3, 4]) (L' := [(0, .ref 41), (1, .ref a), (2, .int x2), (3, .ref 44), (4, .int (x4 + 1))]) hE rfl rfl rfl rfl rfl ?_
    exact h
  · replace h := h.2 hbr
    refine e_seg (k := 3) (d := (49, [(0, .ref 41), (1, .ref a), (2, .int x2), (3, .ref 44), (4, .int x4), (5, .int x5)], [.int x4, .ref 45], M)) rfl ?_
    have hi1 := h.1
    replace h := h.2
    refine e_aald (q := 50) hE rfl rfl rfl rfl (by decide) hi1 (jRw_l hi1) ?_
    refine e_seg (k := 6) (d := (60, [(0, .ref 41), (1, .ref a), (2, .int x2), (3, .ref 44), (4, .int x4), (5, .int x5)], [.int x4, .ref 43, .ref a, .ref 41, .int x5, .ref (46 + x4.toNatClampNeg)], M)) rfl ?_
    refine e_iald (q := 61) hE rfl rfl rfl rfl h.1 ?_
    replace h := h.2
    refine e_seg (k := 3) (d := (67, [(0, .ref 41), (1, .ref a), (2, .int x2), (3, .ref 44), (4, .int x4), (5, .int x5)], [.int x5, .ref 43, .int (M.1 43 x4.toNatClampNeg), .ref a, .ref 41, .int x5, .ref (46 + x4.toNatClampNeg)], M)) rfl ?_
    refine e_iald (q := 68) hE rfl rfl rfl rfl h.1 ?_
    replace h := h.2
    refine e_call (q := 71) (L0 := [(0, .ref 41), (1, .ref a), (2, .int (M.1 43 x4.toNatClampNeg)), (3, .int (M.1 43 x5.toNatClampNeg))]) hE rfl rfl rfl rfl (jargs_V rfl rfl rfl rfl rfl (Nat.le_of_ble_eq_true rfl) (Nat.le_of_ble_eq_true rfl) (Nat.le_of_ble_eq_true rfl)) rfl rfl (jEv.mono h (fun o2 M3 h => ?_))
    obtain ⟨r4, rfl, h⟩ := h
    refine ⟨_, rfl, ?_⟩
    show jEv nX4_askForGaps (71, [(0, .ref 41), (1, .ref a), (2, .int x2), (3, .ref 44), (4, .int x4), (5, .int x5)], [.long r4, .int x5, .ref (46 + x4.toNatClampNeg)], M3) K
    refine e_last (q := 72) hE rfl rfl rfl (jRw_o (jRw_i hi1)) h.1 ?_
    replace h := h.2
    obtain ⟨M5, hM5⟩ : ∃ z : jM, z = jsl M3 (46 + x4.toNatClampNeg) x5.toNatClampNeg r4 := ⟨_, rfl⟩
    refine jEv_M hM5 ?_
    replace h := h M5 hM5
    refine e_seg (k := 2) (d := (37, [(0, .ref 41), (1, .ref a), (2, .int x2), (3, .ref 44), (4, .int x4), (5, .int (x5 + 1))], [], M5)) rfl ?_
    refine e_cut (ks := [0, 1, 2, 3, 4, 5]) (L' := [(0, .ref 41), (1, .ref a), (2, .int x2), (3, .ref 44), (4, .int x4), (5, .int (x5 + 1))]) hE rfl rfl rfl rfl rfl ?_
    exact h
set_option maxRecDepth 100000 in
set_option maxHeartbeats 4000000 in
theorem v_X4_worstPlace_0 {K : jK} {M : jM} {a : Nat} (ha : jRu a) (h : jEv nX4_worstPlace (10, [(0, .ref 41), (1, .ref a), (2, .int 0), (3, .long 0), (5, .long 1), (7, .int 0)], [], M) K) : jEv nX4_worstPlace (0, [(0, .ref 41), (1, .ref a)], [], M) K := by
  have hE : jMT nX4_worstPlace = some me_X4_worstPlace := rfl
  refine e_seg (k := 8) (d := (10, [(0, .ref 41), (1, .ref a), (2, .int 0), (3, .long 0), (5, .long 1), (7, .int 0)], [], M)) rfl ?_
  refine e_cut (ks := [0, 1, 2, 3, 5, 7]) (L' := [(0, .ref 41), (1, .ref a), (2, .int 0), (3, .long 0), (5, .long 1), (7, .int 0)]) hE rfl rfl rfl rfl rfl ?_
  exact h
set_option maxRecDepth 100000 in
set_option maxHeartbeats 4000000 in
theorem v_X4_worstPlace_10 {K : jK} {M : jM} {x2 : Int32} {x3 : Int64} {x5 : Int64} {x7 : Int32} {a : Nat} (ha : jRu a) (h : (((M.1 41 2) ≤ x7 → K (some (some (.int x2))) M) ∧ (¬ (M.1 41 2) ≤ x7 → (jEv nX4_pulledMisses (0, [(0, .ref 41), (1, .ref a), (2, .int x7)], [], M) (fun o1 M2 => ∃ r3 : Int64, o1 = some (some (.long r3)) ∧ (jEv nX4_squaredPulls (0, [(0, .ref 41), (1, .ref a), (2, .int x7)], [], M2) (fun o4 M5 => ∃ r6 : Int64, o4 = some (some (.long r6)) ∧ ((((r3 * r3) * x5) ≤ (x3 * r6) → jEv nX4_worstPlace (10, [(0, .ref 41), (1, .ref a), (2, .int x2), (3, .long x3), (5, .long x5), (7, .int (x7 + 1))], [], M5) K) ∧ (¬ (((r3 * r3) * x5) ≤ (x3 * r6)) → jEv nX4_worstPlace (10, [(0, .ref 41), (1, .ref a), (2, .int x7), (3, .long (r3 * r3)), (5, .long r6), (7, .int (x7 + 1))], [], M5) K))))))))) : jEv nX4_worstPlace (10, [(0, .ref 41), (1, .ref a), (2, .int x2), (3, .long x3), (5, .long x5), (7, .int x7)], [], M) K := by
  have hE : jMT nX4_worstPlace = some me_X4_worstPlace := rfl
  refine e_seg (k := 3) (d := (16, [(0, .ref 41), (1, .ref a), (2, .int x2), (3, .long x3), (5, .long x5), (7, .int x7)], [.int (M.1 41 2), .int x7], M)) rfl ?_
  refine e_ic_ge (t := 72) (q := 19) hE rfl rfl rfl rfl (fun hbr => ?_) (fun hbr => ?_)
  · replace h := h.1 hbr
    refine e_seg (k := 1) (d := (73, [(0, .ref 41), (1, .ref a), (2, .int x2), (3, .long x3), (5, .long x5), (7, .int x7)], [.int x2], M)) rfl ?_
    exact e_ret hE rfl rfl (jb_i rfl) h
  · replace h := h.2 hbr
    refine e_seg (k := 3) (d := (23, [(0, .ref 41), (1, .ref a), (2, .int x2), (3, .long x3), (5, .long x5), (7, .int x7)], [.int x7, .ref a, .ref 41], M)) rfl ?_
    refine e_call (q := 26) (L0 := [(0, .ref 41), (1, .ref a), (2, .int x7)]) hE rfl rfl rfl rfl (jargs_V rfl rfl rfl rfl rfl (Nat.le_of_ble_eq_true rfl) (Nat.le_of_ble_eq_true rfl) (Nat.le_of_ble_eq_true rfl)) rfl rfl (jEv.mono h (fun o1 M2 h => ?_))
    obtain ⟨r3, rfl, h⟩ := h
    refine ⟨_, rfl, ?_⟩
    show jEv nX4_worstPlace (26, [(0, .ref 41), (1, .ref a), (2, .int x2), (3, .long x3), (5, .long x5), (7, .int x7)], [.long r3], M2) K
    refine e_seg (k := 4) (d := (32, [(0, .ref 41), (1, .ref a), (2, .int x2), (3, .long x3), (5, .long x5), (7, .int x7), (8, .long r3)], [.int x7, .ref a, .ref 41], M2)) rfl ?_
    refine e_call (q := 35) (L0 := [(0, .ref 41), (1, .ref a), (2, .int x7)]) hE rfl rfl rfl rfl (jargs_V rfl rfl rfl rfl rfl (Nat.le_of_ble_eq_true rfl) (Nat.le_of_ble_eq_true rfl) (Nat.le_of_ble_eq_true rfl)) rfl rfl (jEv.mono h (fun o4 M5 h => ?_))
    obtain ⟨r6, rfl, h⟩ := h
    refine ⟨_, rfl, ?_⟩
    show jEv nX4_worstPlace (35, [(0, .ref 41), (1, .ref a), (2, .int x2), (3, .long x3), (5, .long x5), (7, .int x7), (8, .long r3)], [.long r6], M5) K
    refine e_seg (k := 9) (d := (49, [(0, .ref 41), (1, .ref a), (2, .int x2), (3, .long x3), (5, .long x5), (7, .int x7), (8, .long r3), (10, .long r6)], [.long (x3 * r6), .long ((r3 * r3) * x5)], M5)) rfl ?_
    refine e_lc (t := 66) (q := 53) (pc1 := 50) hE rfl rfl rfl rfl rfl rfl (lc_le ((r3 * r3) * x5) (x3 * r6)) rfl rfl (fun hbr => ?_) (fun hbr => ?_)
    · replace h := h.1 hbr
      refine e_seg (k := 2) (d := (10, [(0, .ref 41), (1, .ref a), (2, .int x2), (3, .long x3), (5, .long x5), (7, .int (x7 + 1)), (8, .long r3), (10, .long r6)], [], M5)) rfl ?_
      refine e_cut (ks := [0, 1, 2, 3, 5, 7]) (L' := [(0, .ref 41), (1, .ref a), (2, .int x2), (3, .long x3), (5, .long x5), (7, .int (x7 + 1))]) hE rfl rfl rfl rfl rfl ?_
      exact h
    · replace h := h.2 hbr
      refine e_seg (k := 10) (d := (10, [(0, .ref 41), (1, .ref a), (2, .int x7), (3, .long (r3 * r3)), (5, .long r6), (7, .int (x7 + 1)), (8, .long r3), (10, .long r6)], [], M5)) rfl ?_
      refine e_cut (ks := [0, 1, 2, 3, 5, 7]) (L' := [(0, .ref 41), (1, .ref a), (2, .int x7), (3, .long (r3 * r3)), (5, .long r6), (7, .int (x7 + 1))]) hE rfl rfl rfl rfl rfl ?_
      exact h
