/-! printed by wip/whole/emit.py: what must hold on each way between cut points -/
set_option maxRecDepth 100000 in
set_option maxHeartbeats 4000000 in
theorem v_X7_at_0 {K : jK} {M : jM} {x1 : Int32} (h : ((x1 < 0 → K (some (some (.int 101))) M) ∧ (¬ x1 < 0 → ((x1 < (M.1 41 2) → (¬ (x1 < 0 ∨ 60 ≤ x1.toNatClampNeg) ∧ K (some (some (.int (M.1 42 x1.toNatClampNeg)))) M)) ∧ (¬ x1 < (M.1 41 2) → K (some (some (.int 101))) M))))) : jEv nX7_at (0, [(0, .ref 0), (1, .int x1)], [], M) K := by
  have hE : jMT nX7_at = some me_X7_at := rfl
  refine e_seg (k := 1) (d := (1, [(0, .ref 0), (1, .int x1)], [.int x1], M)) rfl ?_
  refine e_if_lt (t := 15) (q := 4) hE rfl rfl rfl rfl (fun hbr => ?_) (fun hbr => ?_)
  · replace h := h.1 hbr
    refine e_seg (k := 1) (d := (17, [(0, .ref 0), (1, .int x1)], [.int 101], M)) rfl ?_
    exact e_ret hE rfl rfl (jb_i rfl) h
  · replace h := h.2 hbr
    refine e_seg (k := 4) (d := (12, [(0, .ref 0), (1, .int x1)], [.int (M.1 41 2), .int x1], M)) rfl ?_
    refine e_ic_lt (t := 18) (q := 15) hE rfl rfl rfl rfl (fun hbr => ?_) (fun hbr => ?_)
    · replace h := h.1 hbr
      refine e_seg (k := 4) (d := (26, [(0, .ref 0), (1, .int x1)], [.int x1, .ref 42], M)) rfl ?_
      refine e_iald (q := 27) hE rfl rfl rfl rfl h.1 ?_
      replace h := h.2
      exact e_ret hE rfl rfl (jb_i rfl) h
    · replace h := h.2 hbr
      refine e_seg (k := 1) (d := (17, [(0, .ref 0), (1, .int x1)], [.int 101], M)) rfl ?_
      exact e_ret hE rfl rfl (jb_i rfl) h
set_option maxRecDepth 100000 in
set_option maxHeartbeats 4000000 in
theorem v_X7_end_0 {K : jK} {M : jM} {x1 : Int32} (h : ((x1 < 0 → K (some (some (.int 0))) M) ∧ (¬ x1 < 0 → ((x1 ≤ (M.1 1 1) → (∀ M1 : jM, M1 = jsi M 1 1 x1 → K (some (some (.int 1))) M1)) ∧ (¬ x1 ≤ (M.1 1 1) → K (some (some (.int 0))) M))))) : jEv nX7_end (0, [(0, .ref 0), (1, .int x1)], [], M) K := by
  have hE : jMT nX7_end = some me_X7_end := rfl
  refine e_seg (k := 1) (d := (1, [(0, .ref 0), (1, .int x1)], [.int x1], M)) rfl ?_
  refine e_if_lt (t := 15) (q := 4) hE rfl rfl rfl rfl (fun hbr => ?_) (fun hbr => ?_)
  · replace h := h.1 hbr
    refine e_seg (k := 1) (d := (16, [(0, .ref 0), (1, .int x1)], [.int 0], M)) rfl ?_
    exact e_ret hE rfl rfl (jb_z rfl (by decide)) h
  · replace h := h.2 hbr
    refine e_seg (k := 4) (d := (12, [(0, .ref 0), (1, .int x1)], [.int (M.1 1 1), .int x1], M)) rfl ?_
    refine e_ic_le (t := 17) (q := 15) hE rfl rfl rfl rfl (fun hbr => ?_) (fun hbr => ?_)
    · replace h := h.1 hbr
      refine e_seg (k := 3) (d := (22, [(0, .ref 0), (1, .int x1)], [.int x1, .ref 1], M)) rfl ?_
      refine e_put (q := 25) hE rfl rfl rfl rfl rfl rfl rfl ?_
      obtain ⟨M1, hM1⟩ : ∃ z : jM, z = jsi M 1 1 x1 := ⟨_, rfl⟩
      refine jEv_M hM1 ?_
      replace h := h M1 hM1
      refine e_seg (k := 1) (d := (26, [(0, .ref 0), (1, .int x1)], [.int 1], M1)) rfl ?_
      exact e_ret hE rfl rfl (jb_z rfl (by decide)) h
    · replace h := h.2 hbr
      refine e_seg (k := 1) (d := (16, [(0, .ref 0), (1, .int x1)], [.int 0], M)) rfl ?_
      exact e_ret hE rfl rfl (jb_z rfl (by decide)) h
set_option maxRecDepth 100000 in
set_option maxHeartbeats 4000000 in
theorem v_X7_isPart_0 {K : jK} {M : jM} {x0 : Int32} (h : ((x0 = 0 → K (some (some (.int 1))) M) ∧ (¬ x0 = 0 → ((x0 = 1 → K (some (some (.int 1))) M) ∧ (¬ x0 = 1 → K (some (some (.int 0))) M))))) : jEv nX7_isPart (0, [(0, .int x0)], [], M) K := by
  have hE : jMT nX7_isPart = some me_X7_isPart := rfl
  refine e_seg (k := 1) (d := (1, [(0, .int x0)], [.int x0], M)) rfl ?_
  refine e_if_eq (t := 9) (q := 4) hE rfl rfl rfl rfl (fun hbr => ?_) (fun hbr => ?_)
  · replace h := h.1 hbr
    refine e_seg (k := 2) (d := (14, [(0, .int x0)], [.int 1], M)) rfl ?_
    exact e_ret hE rfl rfl (jb_z rfl (by decide)) h
  · replace h := h.2 hbr
    refine e_seg (k := 2) (d := (6, [(0, .int x0)], [.int 1, .int x0], M)) rfl ?_
    refine e_ic_ne (t := 13) (q := 9) hE rfl rfl rfl rfl (fun hbr => ?_) (fun hbr => ?_)
    · replace h := h.2 hbr
      refine e_seg (k := 1) (d := (14, [(0, .int x0)], [.int 0], M)) rfl ?_
      exact e_ret hE rfl rfl (jb_z rfl (by decide)) h
    · replace h := h.1 hbr
      refine e_seg (k := 2) (d := (14, [(0, .int x0)], [.int 1], M)) rfl ?_
      exact e_ret hE rfl rfl (jb_z rfl (by decide)) h
set_option maxRecDepth 100000 in
set_option maxHeartbeats 4000000 in
theorem v_X7_isWithin_0 {K : jK} {M : jM} {x0 : Int32} {x1 : Int32} {x2 : Int32} (h : ((x0 < x1 → K (some (some (.int 0))) M) ∧ (¬ x0 < x1 → ((x2 < x0 → K (some (some (.int 0))) M) ∧ (¬ x2 < x0 → K (some (some (.int 1))) M))))) : jEv nX7_isWithin (0, [(0, .int x0), (1, .int x1), (2, .int x2)], [], M) K := by
  have hE : jMT nX7_isWithin = some me_X7_isWithin := rfl
  refine e_seg (k := 2) (d := (2, [(0, .int x0), (1, .int x1), (2, .int x2)], [.int x1, .int x0], M)) rfl ?_
  refine e_ic_lt (t := 14) (q := 5) hE rfl rfl rfl rfl (fun hbr => ?_) (fun hbr => ?_)
  · replace h := h.1 hbr
    refine e_seg (k := 1) (d := (15, [(0, .int x0), (1, .int x1), (2, .int x2)], [.int 0], M)) rfl ?_
    exact e_ret hE rfl rfl (jb_z rfl (by decide)) h
  · replace h := h.2 hbr
    refine e_seg (k := 2) (d := (7, [(0, .int x0), (1, .int x1), (2, .int x2)], [.int x2, .int x0], M)) rfl ?_
    refine e_ic_gt (t := 14) (q := 10) hE rfl rfl rfl rfl (fun hbr => ?_) (fun hbr => ?_)
    · replace h := h.1 hbr
      refine e_seg (k := 1) (d := (15, [(0, .int x0), (1, .int x1), (2, .int x2)], [.int 0], M)) rfl ?_
      exact e_ret hE rfl rfl (jb_z rfl (by decide)) h
    · replace h := h.2 hbr
      refine e_seg (k := 2) (d := (15, [(0, .int x0), (1, .int x1), (2, .int x2)], [.int 1], M)) rfl ?_
      exact e_ret hE rfl rfl (jb_z rfl (by decide)) h
set_option maxRecDepth 100000 in
set_option maxHeartbeats 4000000 in
theorem v_X7_likenessesCount_0 {K : jK} {M : jM} (h : jEv nX7_likenessesCount (4, [(0, .ref 0), (1, .int 0), (2, .int 0)], [], M) K) : jEv nX7_likenessesCount (0, [(0, .ref 0)], [], M) K := by
  have hE : jMT nX7_likenessesCount = some me_X7_likenessesCount := rfl
  refine e_seg (k := 4) (d := (4, [(0, .ref 0), (1, .int 0), (2, .int 0)], [], M)) rfl ?_
  refine e_cut (ks := [0, 1, 2]) (L' := [(0, .ref 0), (1, .int 0), (2, .int 0)]) hE rfl rfl rfl rfl rfl ?_
  exact h
set_option maxRecDepth 100000 in
set_option maxHeartbeats 4000000 in
theorem v_X7_likenessesCount_4 {K : jK} {M : jM} {x1 : Int32} {x2 : Int32} (h : ((6 ≤ x2 → K (some (some (.int x1))) M) ∧ (¬ 6 ≤ x2 → (¬ (x2 < 0 ∨ 6 ≤ x2.toNatClampNeg) ∧ (((M.1 (29 + 2 * x2.toNatClampNeg) 1) ≤ 0 → jEv nX7_likenessesCount (4, [(0, .ref 0), (1, .int (x1 + 0)), (2, .int (x2 + 1))], [], M) K) ∧ (¬ (M.1 (29 + 2 * x2.toNatClampNeg) 1) ≤ 0 → jEv nX7_likenessesCount (4, [(0, .ref 0), (1, .int (x1 + 1)), (2, .int (x2 + 1))], [], M) K)))))) : jEv nX7_likenessesCount (4, [(0, .ref 0), (1, .int x1), (2, .int x2)], [], M) K := by
  have hE : jMT nX7_likenessesCount = some me_X7_likenessesCount := rfl
  refine e_seg (k := 2) (d := (7, [(0, .ref 0), (1, .int x1), (2, .int x2)], [.int 6, .int x2], M)) rfl ?_
  refine e_ic_ge (t := 36) (q := 10) hE rfl rfl rfl rfl (fun hbr => ?_) (fun hbr => ?_)
  · replace h := h.1 hbr
    refine e_seg (k := 1) (d := (37, [(0, .ref 0), (1, .int x1), (2, .int x2)], [.int x1], M)) rfl ?_
    exact e_ret hE rfl rfl (jb_i rfl) h
  · replace h := h.2 hbr
    refine e_seg (k := 4) (d := (16, [(0, .ref 0), (1, .int x1), (2, .int x2)], [.int x2, .ref 28, .int x1], M)) rfl ?_
    have hi1 := h.1
    replace h := h.2
    refine e_aald (q := 17) hE rfl rfl rfl rfl (by decide) hi1 (jLi_l hi1) ?_
    refine e_get (v := .int (M.1 (29 + 2 * x2.toNatClampNeg) 1)) (q := 20) hE rfl rfl rfl rfl (jLi_o (jLi_i hi1)) rfl rfl ?_
    refine e_if_le (t := 27) (q := 23) hE rfl rfl rfl rfl (fun hbr => ?_) (fun hbr => ?_)
    · replace h := h.1 hbr
      refine e_seg (k := 5) (d := (4, [(0, .ref 0), (1, .int (x1 + 0)), (2, .int (x2 + 1))], [], M)) rfl ?_
      refine e_cut (ks := [0, 1, 2]) (L' := [(0, .ref 0), (1, .int (x1 + 0)), (2, .int (x2 + 1))]) hE rfl rfl rfl rfl rfl ?_
      exact h
    · replace h := h.2 hbr
      refine e_seg (k := 6) (d := (4, [(0, .ref 0), (1, .int (x1 + 1)), (2, .int (x2 + 1))], [], M)) rfl ?_
      refine e_cut (ks := [0, 1, 2]) (L' := [(0, .ref 0), (1, .int (x1 + 1)), (2, .int (x2 + 1))]) hE rfl rfl rfl rfl rfl ?_
      exact h
set_option maxRecDepth 100000 in
set_option maxHeartbeats 4000000 in
theorem v_X7_power_0 {K : jK} {M : jM} {x0 : Int64} {x2 : Int32} (h : jEv nX7_power (5, [(0, .long x0), (2, .int x2), (3, .long 1), (5, .int 0)], [], M) K) : jEv nX7_power (0, [(0, .long x0), (2, .int x2)], [], M) K := by
  have hE : jMT nX7_power = some me_X7_power := rfl
  refine e_seg (k := 4) (d := (5, [(0, .long x0), (2, .int x2), (3, .long 1), (5, .int 0)], [], M)) rfl ?_
  refine e_cut (ks := [0, 2, 3, 5]) (L' := [(0, .long x0), (2, .int x2), (3, .long 1), (5, .int 0)]) hE rfl rfl rfl rfl rfl ?_
  exact h
set_option maxRecDepth 100000 in
set_option maxHeartbeats 4000000 in
theorem v_X7_power_5 {K : jK} {M : jM} {x0 : Int64} {x2 : Int32} {x3 : Int64} {x5 : Int32} (h : ((x2 ≤ x5 → K (some (some (.long x3))) M) ∧ (¬ x2 ≤ x5 → jEv nX7_power (5, [(0, .long x0), (2, .int x2), (3, .long (x3 * x0)), (5, .int (x5 + 1))], [], M) K))) : jEv nX7_power (5, [(0, .long x0), (2, .int x2), (3, .long x3), (5, .int x5)], [], M) K := by
  have hE : jMT nX7_power = some me_X7_power := rfl
  refine e_seg (k := 2) (d := (8, [(0, .long x0), (2, .int x2), (3, .long x3), (5, .int x5)], [.int x2, .int x5], M)) rfl ?_
  refine e_ic_ge (t := 21) (q := 11) hE rfl rfl rfl rfl (fun hbr => ?_) (fun hbr => ?_)
  · replace h := h.1 hbr
    refine e_seg (k := 1) (d := (22, [(0, .long x0), (2, .int x2), (3, .long x3), (5, .int x5)], [.long x3], M)) rfl ?_
    exact e_ret hE rfl rfl (jb_l rfl) h
  · replace h := h.2 hbr
    refine e_seg (k := 6) (d := (5, [(0, .long x0), (2, .int x2), (3, .long (x3 * x0)), (5, .int (x5 + 1))], [], M)) rfl ?_
    refine e_cut (ks := [0, 2, 3, 5]) (L' := [(0, .long x0), (2, .int x2), (3, .long (x3 * x0)), (5, .int (x5 + 1))]) hE rfl rfl rfl rfl rfl ?_
    exact h
set_option maxRecDepth 100000 in
set_option maxHeartbeats 4000000 in
theorem v_X7_ruleCount_0 {K : jK} {M : jM} (h : jEv nX7_ruleCount (4, [(0, .ref 0), (1, .int 0), (2, .int 0)], [], M) K) : jEv nX7_ruleCount (0, [(0, .ref 0)], [], M) K := by
  have hE : jMT nX7_ruleCount = some me_X7_ruleCount := rfl
  refine e_seg (k := 4) (d := (4, [(0, .ref 0), (1, .int 0), (2, .int 0)], [], M)) rfl ?_
  refine e_cut (ks := [0, 1, 2]) (L' := [(0, .ref 0), (1, .int 0), (2, .int 0)]) hE rfl rfl rfl rfl rfl ?_
  exact h
set_option maxRecDepth 100000 in
set_option maxHeartbeats 4000000 in
theorem v_X7_ruleCount_4 {K : jK} {M : jM} {x1 : Int32} {x2 : Int32} (h : ((6 ≤ x2 → K (some (some (.int x1))) M) ∧ (¬ 6 ≤ x2 → (¬ (x2 < 0 ∨ 6 ≤ x2.toNatClampNeg) ∧ (((M.1 (4 + 4 * x2.toNatClampNeg) 0) = 0 → jEv nX7_ruleCount (4, [(0, .ref 0), (1, .int (x1 + 0)), (2, .int (x2 + 1))], [], M) K) ∧ (¬ (M.1 (4 + 4 * x2.toNatClampNeg) 0) = 0 → jEv nX7_ruleCount (4, [(0, .ref 0), (1, .int (x1 + 1)), (2, .int (x2 + 1))], [], M) K)))))) : jEv nX7_ruleCount (4, [(0, .ref 0), (1, .int x1), (2, .int x2)], [], M) K := by
  have hE : jMT nX7_ruleCount = some me_X7_ruleCount := rfl
  refine e_seg (k := 2) (d := (7, [(0, .ref 0), (1, .int x1), (2, .int x2)], [.int 6, .int x2], M)) rfl ?_
  refine e_ic_ge (t := 36) (q := 10) hE rfl rfl rfl rfl (fun hbr => ?_) (fun hbr => ?_)
  · replace h := h.1 hbr
    refine e_seg (k := 1) (d := (37, [(0, .ref 0), (1, .int x1), (2, .int x2)], [.int x1], M)) rfl ?_
    exact e_ret hE rfl rfl (jb_i rfl) h
  · replace h := h.2 hbr
    refine e_seg (k := 4) (d := (16, [(0, .ref 0), (1, .int x1), (2, .int x2)], [.int x2, .ref 3, .int x1], M)) rfl ?_
    have hi1 := h.1
    replace h := h.2
    refine e_aald (q := 17) hE rfl rfl rfl rfl (by decide) hi1 (jRu_l hi1) ?_
    refine e_get (v := .int (M.1 (4 + 4 * x2.toNatClampNeg) 0)) (q := 20) hE rfl rfl rfl rfl (jRu_o (jRu_i hi1)) rfl rfl ?_
    refine e_if_eq (t := 27) (q := 23) hE rfl rfl rfl rfl (fun hbr => ?_) (fun hbr => ?_)
    · replace h := h.1 hbr
      refine e_seg (k := 5) (d := (4, [(0, .ref 0), (1, .int (x1 + 0)), (2, .int (x2 + 1))], [], M)) rfl ?_
      refine e_cut (ks := [0, 1, 2]) (L' := [(0, .ref 0), (1, .int (x1 + 0)), (2, .int (x2 + 1))]) hE rfl rfl rfl rfl rfl ?_
      exact h
    · replace h := h.2 hbr
      refine e_seg (k := 6) (d := (4, [(0, .ref 0), (1, .int (x1 + 1)), (2, .int (x2 + 1))], [], M)) rfl ?_
      refine e_cut (ks := [0, 1, 2]) (L' := [(0, .ref 0), (1, .int (x1 + 1)), (2, .int (x2 + 1))]) hE rfl rfl rfl rfl rfl ?_
      exact h
set_option maxRecDepth 100000 in
set_option maxHeartbeats 4000000 in
theorem v_X7_areLikenesses_0 {K : jK} {M : jM} {x1 : Int32} (h : ((x1 < 1 → K (some (some (.int 0))) M) ∧ (¬ x1 < 1 → (jEv nX7_isWithin (0, [(0, .int (M.1 59 0)), (1, .int 1), (2, .int 1000)], [], M) (fun o1 M2 => ∃ r3 : Int32, o1 = some (some (.int r3)) ∧ ((r3 = 0 → K (some (some (.int 0))) M2) ∧ (¬ r3 = 0 → jEv nX7_areLikenesses (22, [(0, .ref 59), (1, .int x1), (2, .int 1)], [], M2) K))))))) : jEv nX7_areLikenesses (0, [(0, .ref 59), (1, .int x1)], [], M) K := by
  have hE : jMT nX7_areLikenesses = some me_X7_areLikenesses := rfl
  refine e_seg (k := 2) (d := (2, [(0, .ref 59), (1, .int x1)], [.int 1, .int x1], M)) rfl ?_
  refine e_ic_lt (t := 18) (q := 5) hE rfl rfl rfl rfl (fun hbr => ?_) (fun hbr => ?_)
  · replace h := h.1 hbr
    refine e_seg (k := 1) (d := (19, [(0, .ref 59), (1, .int x1)], [.int 0], M)) rfl ?_
    exact e_ret hE rfl rfl (jb_z rfl (by decide)) h
  · replace h := h.2 hbr
    refine e_seg (k := 2) (d := (7, [(0, .ref 59), (1, .int x1)], [.int 0, .ref 59], M)) rfl ?_
    refine e_iald (q := 8) hE rfl rfl rfl rfl (by decide) ?_
    show jEv nX7_areLikenesses (8, [(0, .ref 59), (1, .int x1)], [.int (M.1 59 0)], M) K
    refine e_seg (k := 2) (d := (12, [(0, .ref 59), (1, .int x1)], [.int 1000, .int 1, .int (M.1 59 0)], M)) rfl ?_
    refine e_call (q := 15) (L0 := [(0, .int (M.1 59 0)), (1, .int 1), (2, .int 1000)]) hE rfl rfl rfl rfl (jargs_S rfl rfl rfl rfl (Nat.le_of_ble_eq_true rfl) (Nat.le_of_ble_eq_true rfl) (Nat.le_of_ble_eq_true rfl)) rfl rfl (jEv.mono h (fun o1 M2 h => ?_))
    obtain ⟨r3, rfl, h⟩ := h
    refine ⟨_, rfl, ?_⟩
    show jEv nX7_areLikenesses (15, [(0, .ref 59), (1, .int x1)], [.int r3], M2) K
    refine e_if_ne (t := 20) (q := 18) hE rfl rfl rfl rfl (fun hbr => ?_) (fun hbr => ?_)
    · replace h := h.2 hbr
      refine e_seg (k := 2) (d := (22, [(0, .ref 59), (1, .int x1), (2, .int 1)], [], M2)) rfl ?_
      refine e_cut (ks := [0, 1, 2]) (L' := [(0, .ref 59), (1, .int x1), (2, .int 1)]) hE rfl rfl rfl rfl rfl ?_
      exact h
    · replace h := h.1 hbr
      refine e_seg (k := 1) (d := (19, [(0, .ref 59), (1, .int x1)], [.int 0], M2)) rfl ?_
      exact e_ret hE rfl rfl (jb_z rfl (by decide)) h
set_option maxRecDepth 100000 in
set_option maxHeartbeats 4000000 in
theorem v_X7_areLikenesses_22 {K : jK} {M : jM} {x1 : Int32} {x2 : Int32} (h : ((x1 ≤ x2 → K (some (some (.int 1))) M) ∧ (¬ x1 ≤ x2 → (¬ (x2 < 0 ∨ 5 ≤ x2.toNatClampNeg) ∧ (jEv nX7_isWithin (0, [(0, .int (M.1 59 x2.toNatClampNeg)), (1, .int (-(M.1 59 0))), (2, .int (M.1 59 0))], [], M) (fun o1 M2 => ∃ r3 : Int32, o1 = some (some (.int r3)) ∧ ((r3 = 0 → K (some (some (.int 0))) M2) ∧ (¬ r3 = 0 → jEv nX7_areLikenesses (22, [(0, .ref 59), (1, .int x1), (2, .int (x2 + 1))], [], M2) K)))))))) : jEv nX7_areLikenesses (22, [(0, .ref 59), (1, .int x1), (2, .int x2)], [], M) K := by
  have hE : jMT nX7_areLikenesses = some me_X7_areLikenesses := rfl
  refine e_seg (k := 2) (d := (24, [(0, .ref 59), (1, .int x1), (2, .int x2)], [.int x1, .int x2], M)) rfl ?_
  refine e_ic_ge (t := 51) (q := 27) hE rfl rfl rfl rfl (fun hbr => ?_) (fun hbr => ?_)
  · replace h := h.1 hbr
    refine e_seg (k := 1) (d := (52, [(0, .ref 59), (1, .int x1), (2, .int x2)], [.int 1], M)) rfl ?_
    exact e_ret hE rfl rfl (jb_z rfl (by decide)) h
  · replace h := h.2 hbr
    refine e_seg (k := 2) (d := (29, [(0, .ref 59), (1, .int x1), (2, .int x2)], [.int x2, .ref 59], M)) rfl ?_
    refine e_iald (q := 30) hE rfl rfl rfl rfl h.1 ?_
    replace h := h.2
    refine e_seg (k := 2) (d := (32, [(0, .ref 59), (1, .int x1), (2, .int x2)], [.int 0, .ref 59, .int (M.1 59 x2.toNatClampNeg)], M)) rfl ?_
    refine e_iald (q := 33) hE rfl rfl rfl rfl (by decide) ?_
    show jEv nX7_areLikenesses (33, [(0, .ref 59), (1, .int x1), (2, .int x2)], [.int (M.1 59 0), .int (M.1 59 x2.toNatClampNeg)], M) K
    refine e_seg (k := 3) (d := (36, [(0, .ref 59), (1, .int x1), (2, .int x2)], [.int 0, .ref 59, .int (-(M.1 59 0)), .int (M.1 59 x2.toNatClampNeg)], M)) rfl ?_
    refine e_iald (q := 37) hE rfl rfl rfl rfl (by decide) ?_
    show jEv nX7_areLikenesses (37, [(0, .ref 59), (1, .int x1), (2, .int x2)], [.int (M.1 59 0), .int (-(M.1 59 0)), .int (M.1 59 x2.toNatClampNeg)], M) K
    refine e_call (q := 40) (L0 := [(0, .int (M.1 59 x2.toNatClampNeg)), (1, .int (-(M.1 59 0))), (2, .int (M.1 59 0))]) hE rfl rfl rfl rfl (jargs_S rfl rfl rfl rfl (Nat.le_of_ble_eq_true rfl) (Nat.le_of_ble_eq_true rfl) (Nat.le_of_ble_eq_true rfl)) rfl rfl (jEv.mono h (fun o1 M2 h => ?_))
    obtain ⟨r3, rfl, h⟩ := h
    refine ⟨_, rfl, ?_⟩
    show jEv nX7_areLikenesses (40, [(0, .ref 59), (1, .int x1), (2, .int x2)], [.int r3], M2) K
    refine e_if_ne (t := 45) (q := 43) hE rfl rfl rfl rfl (fun hbr => ?_) (fun hbr => ?_)
    · replace h := h.2 hbr
      refine e_seg (k := 2) (d := (22, [(0, .ref 59), (1, .int x1), (2, .int (x2 + 1))], [], M2)) rfl ?_
      refine e_cut (ks := [0, 1, 2]) (L' := [(0, .ref 59), (1, .int x1), (2, .int (x2 + 1))]) hE rfl rfl rfl rfl rfl ?_
      exact h
    · replace h := h.1 hbr
      refine e_seg (k := 1) (d := (44, [(0, .ref 59), (1, .int x1), (2, .int x2)], [.int 0], M2)) rfl ?_
      exact e_ret hE rfl rfl (jb_z rfl (by decide)) h
set_option maxRecDepth 100000 in
set_option maxHeartbeats 4000000 in
theorem v_X7_count_0 {K : jK} {M : jM} {x1 : Int32} (h : ((x1 = 0 → (jEv nX7_ruleCount (0, [(0, .ref 0)], [], M) (fun o1 M2 => ∃ r3 : Int32, o1 = some (some (.int r3)) ∧ K (some (some (.int r3))) M2))) ∧ (x1 = 1 → (jEv nX7_likenessesCount (0, [(0, .ref 0)], [], M) (fun o4 M5 => ∃ r6 : Int32, o4 = some (some (.int r6)) ∧ K (some (some (.int r6))) M5))) ∧ (x1 = 2 → K (some (some (.int (M.1 41 2)))) M) ∧ (x1 = 3 → (jEv nX4_gapCount (0, [(0, .ref 41)], [], M) (fun o7 M8 => ∃ r9 : Int32, o7 = some (some (.int r9)) ∧ K (some (some (.int r9))) M8))) ∧ (x1 = 4 → K (some (some (.int (M.1 1 1)))) M) ∧ ((¬ x1 = 0 ∧ ¬ x1 = 1 ∧ ¬ x1 = 2 ∧ ¬ x1 = 3 ∧ ¬ x1 = 4) → K (some (some (.int (-1)))) M))) : jEv nX7_count (0, [(0, .ref 0), (1, .int x1)], [], M) K := by
  have hE : jMT nX7_count = some me_X7_count := rfl
  refine e_seg (k := 1) (d := (1, [(0, .ref 0), (1, .int x1)], [.int x1], M)) rfl ?_
  refine e_tsw5 (td := 70) (t0 := 36) (t1 := 41) (t2 := 46) (t3 := 54) (t4 := 62) hE rfl rfl rfl rfl rfl rfl rfl rfl (fun hbr => ?_) (fun hbr => ?_) (fun hbr => ?_) (fun hbr => ?_) (fun hbr => ?_) (fun hbr => ?_)
  · replace h := h.1 hbr
    refine e_seg (k := 1) (d := (37, [(0, .ref 0), (1, .int x1)], [.ref 0], M)) rfl ?_
    refine e_call (q := 40) (L0 := [(0, .ref 0)]) hE rfl rfl rfl rfl (jargs_V rfl rfl rfl rfl rfl (Nat.le_of_ble_eq_true rfl) (Nat.le_of_ble_eq_true rfl) (Nat.le_of_ble_eq_true rfl)) rfl rfl (jEv.mono h (fun o1 M2 h => ?_))
    obtain ⟨r3, rfl, h⟩ := h
    refine ⟨_, rfl, ?_⟩
    show jEv nX7_count (40, [(0, .ref 0), (1, .int x1)], [.int r3], M2) K
    exact e_ret hE rfl rfl (jb_i rfl) h
  · replace h := h.2.1 hbr
    refine e_seg (k := 1) (d := (42, [(0, .ref 0), (1, .int x1)], [.ref 0], M)) rfl ?_
    refine e_call (q := 45) (L0 := [(0, .ref 0)]) hE rfl rfl rfl rfl (jargs_V rfl rfl rfl rfl rfl (Nat.le_of_ble_eq_true rfl) (Nat.le_of_ble_eq_true rfl) (Nat.le_of_ble_eq_true rfl)) rfl rfl (jEv.mono h (fun o4 M5 h => ?_))
    obtain ⟨r6, rfl, h⟩ := h
    refine ⟨_, rfl, ?_⟩
    show jEv nX7_count (45, [(0, .ref 0), (1, .int x1)], [.int r6], M5) K
    exact e_ret hE rfl rfl (jb_i rfl) h
  · replace h := h.2.2.1 hbr
    refine e_seg (k := 3) (d := (53, [(0, .ref 0), (1, .int x1)], [.int (M.1 41 2)], M)) rfl ?_
    exact e_ret hE rfl rfl (jb_i rfl) h
  · replace h := h.2.2.2.1 hbr
    refine e_seg (k := 2) (d := (58, [(0, .ref 0), (1, .int x1)], [.ref 41], M)) rfl ?_
    refine e_call (q := 61) (L0 := [(0, .ref 41)]) hE rfl rfl rfl rfl (jargs_V rfl rfl rfl rfl rfl (Nat.le_of_ble_eq_true rfl) (Nat.le_of_ble_eq_true rfl) (Nat.le_of_ble_eq_true rfl)) rfl rfl (jEv.mono h (fun o7 M8 h => ?_))
    obtain ⟨r9, rfl, h⟩ := h
    refine ⟨_, rfl, ?_⟩
    show jEv nX7_count (61, [(0, .ref 0), (1, .int x1)], [.int r9], M8) K
    exact e_ret hE rfl rfl (jb_i rfl) h
  · replace h := h.2.2.2.2.1 hbr
    refine e_seg (k := 3) (d := (69, [(0, .ref 0), (1, .int x1)], [.int (M.1 1 1)], M)) rfl ?_
    exact e_ret hE rfl rfl (jb_i rfl) h
  · replace h := h.2.2.2.2.2 hbr
    refine e_seg (k := 1) (d := (71, [(0, .ref 0), (1, .int x1)], [.int (-1)], M)) rfl ?_
    exact e_ret hE rfl rfl (jb_i rfl) h
set_option maxRecDepth 100000 in
set_option maxHeartbeats 4000000 in
theorem v_X7_feed_0 {K : jK} {M : jM} {x1 : Int32} {x2 : Int32} {x3 : Int32} {x4 : Int32} {x5 : Int32} (h : ((((M.1 1 1) + 20) ≤ 100 → (jEv nX6_append (0, [(0, .ref 1), (1, .int x1)], [], M) (fun o1 M2 => o1 = some none ∧ (jEv nX6_append (0, [(0, .ref 1), (1, .int x2)], [], M2) (fun o3 M4 => o3 = some none ∧ (jEv nX6_append (0, [(0, .ref 1), (1, .int x3)], [], M4) (fun o5 M6 => o5 = some none ∧ (jEv nX6_append (0, [(0, .ref 1), (1, .int x4)], [], M6) (fun o7 M8 => o7 = some none ∧ (jEv nX6_append (0, [(0, .ref 1), (1, .int x5)], [], M8) (fun o9 M10 => o9 = some none ∧ K (some (some (.int (M10.1 1 1)))) M10))))))))))) ∧ (¬ ((M.1 1 1) + 20) ≤ 100 → K (some (some (.int (-1)))) M))) : jEv nX7_feed (0, [(0, .ref 0), (1, .int x1), (2, .int x2), (3, .int x3), (4, .int x4), (5, .int x5)], [], M) K := by
  have hE : jMT nX7_feed = some me_X7_feed := rfl
  refine e_seg (k := 6) (d := (12, [(0, .ref 0), (1, .int x1), (2, .int x2), (3, .int x3), (4, .int x4), (5, .int x5)], [.int 100, .int ((M.1 1 1) + 20)], M)) rfl ?_
  refine e_ic_le (t := 17) (q := 15) hE rfl rfl rfl rfl (fun hbr => ?_) (fun hbr => ?_)
  · replace h := h.1 hbr
    refine e_seg (k := 3) (d := (22, [(0, .ref 0), (1, .int x1), (2, .int x2), (3, .int x3), (4, .int x4), (5, .int x5)], [.int x1, .ref 1], M)) rfl ?_
    refine e_call (q := 25) (L0 := [(0, .ref 1), (1, .int x1)]) hE rfl rfl rfl rfl (jargs_V rfl rfl rfl rfl rfl (Nat.le_of_ble_eq_true rfl) (Nat.le_of_ble_eq_true rfl) (Nat.le_of_ble_eq_true rfl)) rfl rfl (jEv.mono h (fun o1 M2 h => ?_))
    obtain ⟨rfl, h⟩ := h
    refine ⟨_, rfl, ?_⟩
    show jEv nX7_feed (25, [(0, .ref 0), (1, .int x1), (2, .int x2), (3, .int x3), (4, .int x4), (5, .int x5)], [], M2) K
    refine e_seg (k := 3) (d := (30, [(0, .ref 0), (1, .int x1), (2, .int x2), (3, .int x3), (4, .int x4), (5, .int x5)], [.int x2, .ref 1], M2)) rfl ?_
    refine e_call (q := 33) (L0 := [(0, .ref 1), (1, .int x2)]) hE rfl rfl rfl rfl (jargs_V rfl rfl rfl rfl rfl (Nat.le_of_ble_eq_true rfl) (Nat.le_of_ble_eq_true rfl) (Nat.le_of_ble_eq_true rfl)) rfl rfl (jEv.mono h (fun o3 M4 h => ?_))
    obtain ⟨rfl, h⟩ := h
    refine ⟨_, rfl, ?_⟩
    show jEv nX7_feed (33, [(0, .ref 0), (1, .int x1), (2, .int x2), (3, .int x3), (4, .int x4), (5, .int x5)], [], M4) K
    refine e_seg (k := 3) (d := (38, [(0, .ref 0), (1, .int x1), (2, .int x2), (3, .int x3), (4, .int x4), (5, .int x5)], [.int x3, .ref 1], M4)) rfl ?_
    refine e_call (q := 41) (L0 := [(0, .ref 1), (1, .int x3)]) hE rfl rfl rfl rfl (jargs_V rfl rfl rfl rfl rfl (Nat.le_of_ble_eq_true rfl) (Nat.le_of_ble_eq_true rfl) (Nat.le_of_ble_eq_true rfl)) rfl rfl (jEv.mono h (fun o5 M6 h => ?_))
    obtain ⟨rfl, h⟩ := h
    refine ⟨_, rfl, ?_⟩
    show jEv nX7_feed (41, [(0, .ref 0), (1, .int x1), (2, .int x2), (3, .int x3), (4, .int x4), (5, .int x5)], [], M6) K
    refine e_seg (k := 3) (d := (47, [(0, .ref 0), (1, .int x1), (2, .int x2), (3, .int x3), (4, .int x4), (5, .int x5)], [.int x4, .ref 1], M6)) rfl ?_
    refine e_call (q := 50) (L0 := [(0, .ref 1), (1, .int x4)]) hE rfl rfl rfl rfl (jargs_V rfl rfl rfl rfl rfl (Nat.le_of_ble_eq_true rfl) (Nat.le_of_ble_eq_true rfl) (Nat.le_of_ble_eq_true rfl)) rfl rfl (jEv.mono h (fun o7 M8 h => ?_))
    obtain ⟨rfl, h⟩ := h
    refine ⟨_, rfl, ?_⟩
    show jEv nX7_feed (50, [(0, .ref 0), (1, .int x1), (2, .int x2), (3, .int x3), (4, .int x4), (5, .int x5)], [], M8) K
    refine e_seg (k := 3) (d := (56, [(0, .ref 0), (1, .int x1), (2, .int x2), (3, .int x3), (4, .int x4), (5, .int x5)], [.int x5, .ref 1], M8)) rfl ?_
    refine e_call (q := 59) (L0 := [(0, .ref 1), (1, .int x5)]) hE rfl rfl rfl rfl (jargs_V rfl rfl rfl rfl rfl (Nat.le_of_ble_eq_true rfl) (Nat.le_of_ble_eq_true rfl) (Nat.le_of_ble_eq_true rfl)) rfl rfl (jEv.mono h (fun o9 M10 h => ?_))
    obtain ⟨rfl, h⟩ := h
    refine ⟨_, rfl, ?_⟩
    show jEv nX7_feed (59, [(0, .ref 0), (1, .int x1), (2, .int x2), (3, .int x3), (4, .int x4), (5, .int x5)], [], M10) K
    refine e_seg (k := 3) (d := (66, [(0, .ref 0), (1, .int x1), (2, .int x2), (3, .int x3), (4, .int x4), (5, .int x5)], [.int (M10.1 1 1)], M10)) rfl ?_
    exact e_ret hE rfl rfl (jb_i rfl) h
  · replace h := h.2 hbr
    refine e_seg (k := 1) (d := (16, [(0, .ref 0), (1, .int x1), (2, .int x2), (3, .int x3), (4, .int x4), (5, .int x5)], [.int (-1)], M)) rfl ?_
    exact e_ret hE rfl rfl (jb_i rfl) h
set_option maxRecDepth 100000 in
set_option maxHeartbeats 4000000 in
theorem v_X7_filled_0 {K : jK} {M : jM} {x1 : Int32} {x2 : Int32} (h : ((x1 < 0 → K none M) ∧ (¬ x1 < 0 → (((M.1 0 13) ≤ x1 → K none M) ∧ (¬ (M.1 0 13) ≤ x1 → (jEv nX7_isPart (0, [(0, .int x2)], [], M) (fun o1 M2 => ∃ r3 : Int32, o1 = some (some (.int r3)) ∧ ((r3 = 0 → K none M2) ∧ (¬ r3 = 0 → (¬ (x1 < 0 ∨ 3 ≤ x1.toNatClampNeg) ∧ (jEv nX1_part (0, [(0, .ref (63 + x1.toNatClampNeg)), (1, .int x2)], [], M2) (fun o5 M6 => ∃ r7 : Int64, o5 = some (some (.long r7)) ∧ K (some (some (.long r7))) M6)))))))))))) : jEv nX7_filled (0, [(0, .ref 0), (1, .int x1), (2, .int x2)], [], M) K := by
  have hE : jMT nX7_filled = some me_X7_filled := rfl
  refine e_seg (k := 1) (d := (1, [(0, .ref 0), (1, .int x1), (2, .int x2)], [.int x1], M)) rfl ?_
  refine e_if_lt (t := 19) (q := 4) hE rfl rfl rfl rfl (fun hbr => ?_) (fun hbr => ?_)
  · replace h := h.1 hbr
    exact e_new hE rfl rfl h
  · replace h := h.2 hbr
    refine e_seg (k := 3) (d := (9, [(0, .ref 0), (1, .int x1), (2, .int x2)], [.int (M.1 0 13), .int x1], M)) rfl ?_
    refine e_ic_ge (t := 19) (q := 12) hE rfl rfl rfl rfl (fun hbr => ?_) (fun hbr => ?_)
    · replace h := h.1 hbr
      exact e_new hE rfl rfl h
    · replace h := h.2 hbr
      refine e_seg (k := 1) (d := (13, [(0, .ref 0), (1, .int x1), (2, .int x2)], [.int x2], M)) rfl ?_
      refine e_call (q := 16) (L0 := [(0, .int x2)]) hE rfl rfl rfl rfl (jargs_S rfl rfl rfl rfl (Nat.le_of_ble_eq_true rfl) (Nat.le_of_ble_eq_true rfl) (Nat.le_of_ble_eq_true rfl)) rfl rfl (jEv.mono h (fun o1 M2 h => ?_))
      obtain ⟨r3, rfl, h⟩ := h
      refine ⟨_, rfl, ?_⟩
      show jEv nX7_filled (16, [(0, .ref 0), (1, .int x1), (2, .int x2)], [.int r3], M2) K
      refine e_if_ne (t := 30) (q := 19) hE rfl rfl rfl rfl (fun hbr => ?_) (fun hbr => ?_)
      · replace h := h.2 hbr
        refine e_seg (k := 3) (d := (35, [(0, .ref 0), (1, .int x1), (2, .int x2)], [.int x1, .ref 62], M2)) rfl ?_
        have hi4 := h.1
        replace h := h.2
        refine e_aald (q := 36) hE rfl rfl rfl rfl (by decide) hi4 (jFr_l hi4) ?_
        refine e_seg (k := 1) (d := (37, [(0, .ref 0), (1, .int x1), (2, .int x2)], [.int x2, .ref (63 + x1.toNatClampNeg)], M2)) rfl ?_
        refine e_call (q := 40) (L0 := [(0, .ref (63 + x1.toNatClampNeg)), (1, .int x2)]) hE rfl rfl rfl rfl (jargs_V (jFr_o (jFr_i hi4)) rfl rfl rfl rfl (Nat.le_of_ble_eq_true rfl) (Nat.le_of_ble_eq_true rfl) (Nat.le_of_ble_eq_true rfl)) rfl rfl (jEv.mono h (fun o5 M6 h => ?_))
        obtain ⟨r7, rfl, h⟩ := h
        refine ⟨_, rfl, ?_⟩
        show jEv nX7_filled (40, [(0, .ref 0), (1, .int x1), (2, .int x2)], [.long r7], M6) K
        exact e_ret hE rfl rfl (jb_l rfl) h
      · replace h := h.1 hbr
        exact e_new hE rfl rfl h
set_option maxRecDepth 100000 in
set_option maxHeartbeats 4000000 in
theorem v_X7_isSlot_0 {K : jK} {M : jM} {x0 : Int32} (h : (jEv nX7_isWithin (0, [(0, .int x0), (1, .int 0), (2, .int 5)], [], M) (fun o1 M2 => ∃ r3 : Int32, o1 = some (some (.int r3)) ∧ ((r3 = 0 ∨ r3 = 1) ∧ K (some (some (.int r3))) M2)))) : jEv nX7_isSlot (0, [(0, .int x0)], [], M) K := by
  have hE : jMT nX7_isSlot = some me_X7_isSlot := rfl
  refine e_seg (k := 3) (d := (3, [(0, .int x0)], [.int 5, .int 0, .int x0], M)) rfl ?_
  refine e_call (q := 6) (L0 := [(0, .int x0), (1, .int 0), (2, .int 5)]) hE rfl rfl rfl rfl (jargs_S rfl rfl rfl rfl (Nat.le_of_ble_eq_true rfl) (Nat.le_of_ble_eq_true rfl) (Nat.le_of_ble_eq_true rfl)) rfl rfl (jEv.mono h (fun o1 M2 h => ?_))
  obtain ⟨r3, rfl, h⟩ := h
  refine ⟨_, rfl, ?_⟩
  show jEv nX7_isSlot (6, [(0, .int x0)], [.int r3], M2) K
  exact e_ret hE rfl rfl (jb_z rfl h.1) h.2
set_option maxRecDepth 100000 in
set_option maxHeartbeats 4000000 in
theorem v_X7_lower_0 {K : jK} {M : jM} {x1 : Int32} (h : (((M.1 0 15) = 0 → K none M) ∧ (¬ (M.1 0 15) = 0 → (jEv nX7_isPart (0, [(0, .int x1)], [], M) (fun o1 M2 => ∃ r3 : Int32, o1 = some (some (.int r3)) ∧ ((r3 = 0 → K none M2) ∧ (¬ r3 = 0 → (jEv nX1_part (0, [(0, .ref 66), (1, .int x1)], [], M2) (fun o4 M5 => ∃ r6 : Int64, o4 = some (some (.long r6)) ∧ K (some (some (.long r6))) M5))))))))) : jEv nX7_lower (0, [(0, .ref 0), (1, .int x1)], [], M) K := by
  have hE : jMT nX7_lower = some me_X7_lower := rfl
  refine e_seg (k := 2) (d := (4, [(0, .ref 0), (1, .int x1)], [.int (M.1 0 15)], M)) rfl ?_
  refine e_if_eq (t := 14) (q := 7) hE rfl rfl rfl rfl (fun hbr => ?_) (fun hbr => ?_)
  · replace h := h.1 hbr
    exact e_new hE rfl rfl h
  · replace h := h.2 hbr
    refine e_seg (k := 1) (d := (8, [(0, .ref 0), (1, .int x1)], [.int x1], M)) rfl ?_
    refine e_call (q := 11) (L0 := [(0, .int x1)]) hE rfl rfl rfl rfl (jargs_S rfl rfl rfl rfl (Nat.le_of_ble_eq_true rfl) (Nat.le_of_ble_eq_true rfl) (Nat.le_of_ble_eq_true rfl)) rfl rfl (jEv.mono h (fun o1 M2 h => ?_))
    obtain ⟨r3, rfl, h⟩ := h
    refine ⟨_, rfl, ?_⟩
    show jEv nX7_lower (11, [(0, .ref 0), (1, .int x1)], [.int r3], M2) K
    refine e_if_ne (t := 25) (q := 14) hE rfl rfl rfl rfl (fun hbr => ?_) (fun hbr => ?_)
    · replace h := h.2 hbr
      refine e_seg (k := 3) (d := (30, [(0, .ref 0), (1, .int x1)], [.int x1, .ref 66], M2)) rfl ?_
      refine e_call (q := 33) (L0 := [(0, .ref 66), (1, .int x1)]) hE rfl rfl rfl rfl (jargs_V rfl rfl rfl rfl rfl (Nat.le_of_ble_eq_true rfl) (Nat.le_of_ble_eq_true rfl) (Nat.le_of_ble_eq_true rfl)) rfl rfl (jEv.mono h (fun o4 M5 h => ?_))
      obtain ⟨r6, rfl, h⟩ := h
      refine ⟨_, rfl, ?_⟩
      show jEv nX7_lower (33, [(0, .ref 0), (1, .int x1)], [.long r6], M5) K
      exact e_ret hE rfl rfl (jb_l rfl) h
    · replace h := h.1 hbr
      exact e_new hE rfl rfl h
set_option maxRecDepth 100000 in
set_option maxHeartbeats 4000000 in
theorem v_X7_put_0 {K : jK} {M : jM} {x1 : Int32} {x2 : Int32} (h : (jEv nX7_isWithin (0, [(0, .int x1), (1, .int 0), (2, .int 59)], [], M) (fun o1 M2 => ∃ r3 : Int32, o1 = some (some (.int r3)) ∧ ((r3 = 0 → K (some (some (.int 0))) M2) ∧ (¬ r3 = 0 → ((x1 ≤ (M2.1 41 2) → ((x2 = 100 → (jEv nX4_write (0, [(0, .ref 41), (1, .int x1), (2, .int x2)], [], M2) (fun o4 M5 => o4 = some none ∧ (∀ M6 : jM, M6 = jsi M5 0 13 0 → K (some (some (.int 1))) M6)))) ∧ (¬ x2 = 100 → (jEv nX7_isWithin (0, [(0, .int x2), (1, .int (-20)), (2, .int 20)], [], M2) (fun o7 M8 => ∃ r9 : Int32, o7 = some (some (.int r9)) ∧ ((r9 = 0 → K (some (some (.int 0))) M8) ∧ (¬ r9 = 0 → (jEv nX4_write (0, [(0, .ref 41), (1, .int x1), (2, .int x2)], [], M8) (fun o10 M11 => o10 = some none ∧ (∀ M12 : jM, M12 = jsi M11 0 13 0 → K (some (some (.int 1))) M12)))))))))) ∧ (¬ x1 ≤ (M2.1 41 2) → K (some (some (.int 0))) M2))))))) : jEv nX7_put (0, [(0, .ref 0), (1, .int x1), (2, .int x2)], [], M) K := by
  have hE : jMT nX7_put = some me_X7_put := rfl
  refine e_seg (k := 3) (d := (4, [(0, .ref 0), (1, .int x1), (2, .int x2)], [.int 59, .int 0, .int x1], M)) rfl ?_
  refine e_call (q := 7) (L0 := [(0, .int x1), (1, .int 0), (2, .int 59)]) hE rfl rfl rfl rfl (jargs_S rfl rfl rfl rfl (Nat.le_of_ble_eq_true rfl) (Nat.le_of_ble_eq_true rfl) (Nat.le_of_ble_eq_true rfl)) rfl rfl (jEv.mono h (fun o1 M2 h => ?_))
  obtain ⟨r3, rfl, h⟩ := h
  refine ⟨_, rfl, ?_⟩
  show jEv nX7_put (7, [(0, .ref 0), (1, .int x1), (2, .int x2)], [.int r3], M2) K
  refine e_if_eq (t := 21) (q := 10) hE rfl rfl rfl rfl (fun hbr => ?_) (fun hbr => ?_)
  · replace h := h.1 hbr
    refine e_seg (k := 1) (d := (22, [(0, .ref 0), (1, .int x1), (2, .int x2)], [.int 0], M2)) rfl ?_
    exact e_ret hE rfl rfl (jb_z rfl (by decide)) h
  · replace h := h.2 hbr
    refine e_seg (k := 4) (d := (18, [(0, .ref 0), (1, .int x1), (2, .int x2)], [.int (M2.1 41 2), .int x1], M2)) rfl ?_
    refine e_ic_le (t := 23) (q := 21) hE rfl rfl rfl rfl (fun hbr => ?_) (fun hbr => ?_)
    · replace h := h.1 hbr
      refine e_seg (k := 2) (d := (26, [(0, .ref 0), (1, .int x1), (2, .int x2)], [.int 100, .int x2], M2)) rfl ?_
      refine e_ic_eq (t := 42) (q := 29) hE rfl rfl rfl rfl (fun hbr => ?_) (fun hbr => ?_)
      · replace h := h.1 hbr
        refine e_seg (k := 4) (d := (48, [(0, .ref 0), (1, .int x1), (2, .int x2)], [.int x2, .int x1, .ref 41], M2)) rfl ?_
        refine e_call (q := 51) (L0 := [(0, .ref 41), (1, .int x1), (2, .int x2)]) hE rfl rfl rfl rfl (jargs_V rfl rfl rfl rfl rfl (Nat.le_of_ble_eq_true rfl) (Nat.le_of_ble_eq_true rfl) (Nat.le_of_ble_eq_true rfl)) rfl rfl (jEv.mono h (fun o4 M5 h => ?_))
        obtain ⟨rfl, h⟩ := h
        refine ⟨_, rfl, ?_⟩
        show jEv nX7_put (51, [(0, .ref 0), (1, .int x1), (2, .int x2)], [], M5) K
        refine e_seg (k := 2) (d := (53, [(0, .ref 0), (1, .int x1), (2, .int x2)], [.int 0, .ref 0], M5)) rfl ?_
        refine e_put (q := 56) hE rfl rfl rfl rfl rfl rfl rfl ?_
        obtain ⟨M6, hM6⟩ : ∃ z : jM, z = jsi M5 0 13 0 := ⟨_, rfl⟩
        refine jEv_M hM6 ?_
        replace h := h M6 hM6
        refine e_seg (k := 1) (d := (57, [(0, .ref 0), (1, .int x1), (2, .int x2)], [.int 1], M6)) rfl ?_
        exact e_ret hE rfl rfl (jb_z rfl (by decide)) h
      · replace h := h.2 hbr
        refine e_seg (k := 3) (d := (34, [(0, .ref 0), (1, .int x1), (2, .int x2)], [.int 20, .int (-20), .int x2], M2)) rfl ?_
        refine e_call (q := 37) (L0 := [(0, .int x2), (1, .int (-20)), (2, .int 20)]) hE rfl rfl rfl rfl (jargs_S rfl rfl rfl rfl (Nat.le_of_ble_eq_true rfl) (Nat.le_of_ble_eq_true rfl) (Nat.le_of_ble_eq_true rfl)) rfl rfl (jEv.mono h (fun o7 M8 h => ?_))
        obtain ⟨r9, rfl, h⟩ := h
        refine ⟨_, rfl, ?_⟩
        show jEv nX7_put (37, [(0, .ref 0), (1, .int x1), (2, .int x2)], [.int r9], M8) K
        refine e_if_ne (t := 42) (q := 40) hE rfl rfl rfl rfl (fun hbr => ?_) (fun hbr => ?_)
        · replace h := h.2 hbr
          refine e_seg (k := 4) (d := (48, [(0, .ref 0), (1, .int x1), (2, .int x2)], [.int x2, .int x1, .ref 41], M8)) rfl ?_
          refine e_call (q := 51) (L0 := [(0, .ref 41), (1, .int x1), (2, .int x2)]) hE rfl rfl rfl rfl (jargs_V rfl rfl rfl rfl rfl (Nat.le_of_ble_eq_true rfl) (Nat.le_of_ble_eq_true rfl) (Nat.le_of_ble_eq_true rfl)) rfl rfl (jEv.mono h (fun o10 M11 h => ?_))
          obtain ⟨rfl, h⟩ := h
          refine ⟨_, rfl, ?_⟩
          show jEv nX7_put (51, [(0, .ref 0), (1, .int x1), (2, .int x2)], [], M11) K
          refine e_seg (k := 2) (d := (53, [(0, .ref 0), (1, .int x1), (2, .int x2)], [.int 0, .ref 0], M11)) rfl ?_
          refine e_put (q := 56) hE rfl rfl rfl rfl rfl rfl rfl ?_
          obtain ⟨M12, hM12⟩ : ∃ z : jM, z = jsi M11 0 13 0 := ⟨_, rfl⟩
          refine jEv_M hM12 ?_
          replace h := h M12 hM12
          refine e_seg (k := 1) (d := (57, [(0, .ref 0), (1, .int x1), (2, .int x2)], [.int 1], M12)) rfl ?_
          exact e_ret hE rfl rfl (jb_z rfl (by decide)) h
        · replace h := h.1 hbr
          refine e_seg (k := 1) (d := (41, [(0, .ref 0), (1, .int x1), (2, .int x2)], [.int 0], M8)) rfl ?_
          exact e_ret hE rfl rfl (jb_z rfl (by decide)) h
    · replace h := h.2 hbr
      refine e_seg (k := 1) (d := (22, [(0, .ref 0), (1, .int x1), (2, .int x2)], [.int 0], M2)) rfl ?_
      exact e_ret hE rfl rfl (jb_z rfl (by decide)) h
set_option maxRecDepth 100000 in
set_option maxHeartbeats 4000000 in
theorem v_X7_row_0 {K : jK} {M : jM} (h : (∀ M1 : jM, M1 = jsi M 1 1 0 → ((60 < (M.1 1 1) → K (some (some (.int (-1)))) M1) ∧ (¬ 60 < (M.1 1 1) → (jEv nX6_isEachPlace (0, [(0, .ref 1), (1, .int (M.1 1 1))], [], M1) (fun o2 M3 => ∃ r4 : Int32, o2 = some (some (.int r4)) ∧ ((r4 = 0 → K (some (some (.int (-1)))) M3) ∧ (¬ r4 = 0 → (jEv nX4_take (0, [(0, .ref 41), (1, .ref 2), (2, .int (M.1 1 1))], [], M3) (fun o5 M6 => o5 = some none ∧ (∀ M7 : jM, M7 = jsi M6 0 13 0 → K (some (some (.int (M.1 1 1)))) M7))))))))))) : jEv nX7_row (0, [(0, .ref 0)], [], M) K := by
  have hE : jMT nX7_row = some me_X7_row := rfl
  refine e_seg (k := 7) (d := (13, [(0, .ref 0), (1, .int (M.1 1 1))], [.int 0, .ref 1], M)) rfl ?_
  refine e_put (q := 16) hE rfl rfl rfl rfl rfl rfl rfl ?_
  obtain ⟨M1, hM1⟩ : ∃ z : jM, z = jsi M 1 1 0 := ⟨_, rfl⟩
  refine jEv_M hM1 ?_
  replace h := h M1 hM1
  refine e_seg (k := 2) (d := (19, [(0, .ref 0), (1, .int (M.1 1 1))], [.int 60, .int (M.1 1 1)], M1)) rfl ?_
  refine e_ic_gt (t := 33) (q := 22) hE rfl rfl rfl rfl (fun hbr => ?_) (fun hbr => ?_)
  · replace h := h.1 hbr
    refine e_seg (k := 1) (d := (34, [(0, .ref 0), (1, .int (M.1 1 1))], [.int (-1)], M1)) rfl ?_
    exact e_ret hE rfl rfl (jb_i rfl) h
  · replace h := h.2 hbr
    refine e_seg (k := 3) (d := (27, [(0, .ref 0), (1, .int (M.1 1 1))], [.int (M.1 1 1), .ref 1], M1)) rfl ?_
    refine e_call (q := 30) (L0 := [(0, .ref 1), (1, .int (M.1 1 1))]) hE rfl rfl rfl rfl (jargs_V rfl rfl rfl rfl rfl (Nat.le_of_ble_eq_true rfl) (Nat.le_of_ble_eq_true rfl) (Nat.le_of_ble_eq_true rfl)) rfl rfl (jEv.mono h (fun o2 M3 h => ?_))
    obtain ⟨r4, rfl, h⟩ := h
    refine ⟨_, rfl, ?_⟩
    show jEv nX7_row (30, [(0, .ref 0), (1, .int (M.1 1 1))], [.int r4], M3) K
    refine e_if_ne (t := 35) (q := 33) hE rfl rfl rfl rfl (fun hbr => ?_) (fun hbr => ?_)
    · replace h := h.2 hbr
      refine e_seg (k := 6) (d := (47, [(0, .ref 0), (1, .int (M.1 1 1))], [.int (M.1 1 1), .ref 2, .ref 41], M3)) rfl ?_
      refine e_call (q := 50) (L0 := [(0, .ref 41), (1, .ref 2), (2, .int (M.1 1 1))]) hE rfl rfl rfl rfl (jargs_V rfl rfl rfl rfl rfl (Nat.le_of_ble_eq_true rfl) (Nat.le_of_ble_eq_true rfl) (Nat.le_of_ble_eq_true rfl)) rfl rfl (jEv.mono h (fun o5 M6 h => ?_))
      obtain ⟨rfl, h⟩ := h
      refine ⟨_, rfl, ?_⟩
      show jEv nX7_row (50, [(0, .ref 0), (1, .int (M.1 1 1))], [], M6) K
      refine e_seg (k := 2) (d := (52, [(0, .ref 0), (1, .int (M.1 1 1))], [.int 0, .ref 0], M6)) rfl ?_
      refine e_put (q := 55) hE rfl rfl rfl rfl rfl rfl rfl ?_
      obtain ⟨M7, hM7⟩ : ∃ z : jM, z = jsi M6 0 13 0 := ⟨_, rfl⟩
      refine jEv_M hM7 ?_
      replace h := h M7 hM7
      refine e_seg (k := 1) (d := (56, [(0, .ref 0), (1, .int (M.1 1 1))], [.int (M.1 1 1)], M7)) rfl ?_
      exact e_ret hE rfl rfl (jb_i rfl) h
    · replace h := h.1 hbr
      refine e_seg (k := 1) (d := (34, [(0, .ref 0), (1, .int (M.1 1 1))], [.int (-1)], M3)) rfl ?_
      exact e_ret hE rfl rfl (jb_i rfl) h
set_option maxRecDepth 100000 in
set_option maxHeartbeats 4000000 in
theorem v_X7_rule_0 {K : jK} {M : jM} {x1 : Int32} {x2 : Int32} {x3 : Int32} {x4 : Int32} {x5 : Int32} (h : (∀ M1 : jM, M1 = jsi M 1 1 0 → (jEv nX7_isSlot (0, [(0, .int x1)], [], M1) (fun o2 M3 => ∃ r4 : Int32, o2 = some (some (.int r4)) ∧ ((r4 = 0 → K (some (some (.int 0))) M3) ∧ (¬ r4 = 0 → (jEv nX7_isWithin (0, [(0, .int x2), (1, .int 1), (2, .int 4)], [], M3) (fun o5 M6 => ∃ r7 : Int32, o5 = some (some (.int r7)) ∧ ((r7 = 0 → K (some (some (.int 0))) M6) ∧ (¬ r7 = 0 → (jEv nX7_isWithin (0, [(0, .int x5), (1, .int 1), (2, .int 20)], [], M6) (fun o8 M9 => ∃ r10 : Int32, o8 = some (some (.int r10)) ∧ ((r10 = 0 → K (some (some (.int 0))) M9) ∧ (¬ r10 = 0 → (jEv nX7_isWithin (0, [(0, .int x3), (1, .int 0), (2, .int 3)], [], M9) (fun o11 M12 => ∃ r13 : Int32, o11 = some (some (.int r13)) ∧ ((r13 = 0 → K (some (some (.int 0))) M12) ∧ (¬ r13 = 0 → (jEv nX7_isWithin (0, [(0, .int x4), (1, .int 0), (2, .int 3)], [], M12) (fun o14 M15 => ∃ r16 : Int32, o14 = some (some (.int r16)) ∧ ((r16 = 0 → K (some (some (.int 0))) M15) ∧ (¬ r16 = 0 → (((M.1 1 1) = (x3 + x4) → (jEv nX6_isEachWithin (0, [(0, .ref 1), (1, .int (M.1 1 1)), (2, .int 8)], [], M15) (fun o17 M18 => ∃ r19 : Int32, o17 = some (some (.int r19)) ∧ ((r19 = 0 → K (some (some (.int 0))) M18) ∧ (¬ r19 = 0 → (¬ (x1 < 0 ∨ 6 ≤ x1.toNatClampNeg) ∧ (jEv nX5_take (0, [(0, .ref (4 + 4 * x1.toNatClampNeg)), (1, .ref 2), (2, .int x2), (3, .int x3), (4, .int x4), (5, .int x5)], [], M18) (fun o21 M22 => o21 = some none ∧ K (some (some (.int 1))) M22)))))))) ∧ (¬ (M.1 1 1) = (x3 + x4) → K (some (some (.int 0))) M15)))))))))))))))))))))))) : jEv nX7_rule (0, [(0, .ref 0), (1, .int x1), (2, .int x2), (3, .int x3), (4, .int x4), (5, .int x5)], [], M) K := by
  have hE : jMT nX7_rule = some me_X7_rule := rfl
  refine e_seg (k := 7) (d := (14, [(0, .ref 0), (1, .int x1), (2, .int x2), (3, .int x3), (4, .int x4), (5, .int x5), (6, .int (M.1 1 1))], [.int 0, .ref 1], M)) rfl ?_
  refine e_put (q := 17) hE rfl rfl rfl rfl rfl rfl rfl ?_
  obtain ⟨M1, hM1⟩ : ∃ z : jM, z = jsi M 1 1 0 := ⟨_, rfl⟩
  refine jEv_M hM1 ?_
  replace h := h M1 hM1
  refine e_seg (k := 1) (d := (18, [(0, .ref 0), (1, .int x1), (2, .int x2), (3, .int x3), (4, .int x4), (5, .int x5), (6, .int (M.1 1 1))], [.int x1], M1)) rfl ?_
  refine e_call (q := 21) (L0 := [(0, .int x1)]) hE rfl rfl rfl rfl (jargs_S rfl rfl rfl rfl (Nat.le_of_ble_eq_true rfl) (Nat.le_of_ble_eq_true rfl) (Nat.le_of_ble_eq_true rfl)) rfl rfl (jEv.mono h (fun o2 M3 h => ?_))
  obtain ⟨r4, rfl, h⟩ := h
  refine ⟨_, rfl, ?_⟩
  show jEv nX7_rule (21, [(0, .ref 0), (1, .int x1), (2, .int x2), (3, .int x3), (4, .int x4), (5, .int x5), (6, .int (M.1 1 1))], [.int r4], M3) K
  refine e_if_eq (t := 44) (q := 24) hE rfl rfl rfl rfl (fun hbr => ?_) (fun hbr => ?_)
  · replace h := h.1 hbr
    refine e_seg (k := 1) (d := (45, [(0, .ref 0), (1, .int x1), (2, .int x2), (3, .int x3), (4, .int x4), (5, .int x5), (6, .int (M.1 1 1))], [.int 0], M3)) rfl ?_
    exact e_ret hE rfl rfl (jb_z rfl (by decide)) h
  · replace h := h.2 hbr
    refine e_seg (k := 3) (d := (27, [(0, .ref 0), (1, .int x1), (2, .int x2), (3, .int x3), (4, .int x4), (5, .int x5), (6, .int (M.1 1 1))], [.int 4, .int 1, .int x2], M3)) rfl ?_
    refine e_call (q := 30) (L0 := [(0, .int x2), (1, .int 1), (2, .int 4)]) hE rfl rfl rfl rfl (jargs_S rfl rfl rfl rfl (Nat.le_of_ble_eq_true rfl) (Nat.le_of_ble_eq_true rfl) (Nat.le_of_ble_eq_true rfl)) rfl rfl (jEv.mono h (fun o5 M6 h => ?_))
    obtain ⟨r7, rfl, h⟩ := h
    refine ⟨_, rfl, ?_⟩
    show jEv nX7_rule (30, [(0, .ref 0), (1, .int x1), (2, .int x2), (3, .int x3), (4, .int x4), (5, .int x5), (6, .int (M.1 1 1))], [.int r7], M6) K
    refine e_if_eq (t := 44) (q := 33) hE rfl rfl rfl rfl (fun hbr => ?_) (fun hbr => ?_)
    · replace h := h.1 hbr
      refine e_seg (k := 1) (d := (45, [(0, .ref 0), (1, .int x1), (2, .int x2), (3, .int x3), (4, .int x4), (5, .int x5), (6, .int (M.1 1 1))], [.int 0], M6)) rfl ?_
      exact e_ret hE rfl rfl (jb_z rfl (by decide)) h
    · replace h := h.2 hbr
      refine e_seg (k := 3) (d := (38, [(0, .ref 0), (1, .int x1), (2, .int x2), (3, .int x3), (4, .int x4), (5, .int x5), (6, .int (M.1 1 1))], [.int 20, .int 1, .int x5], M6)) rfl ?_
      refine e_call (q := 41) (L0 := [(0, .int x5), (1, .int 1), (2, .int 20)]) hE rfl rfl rfl rfl (jargs_S rfl rfl rfl rfl (Nat.le_of_ble_eq_true rfl) (Nat.le_of_ble_eq_true rfl) (Nat.le_of_ble_eq_true rfl)) rfl rfl (jEv.mono h (fun o8 M9 h => ?_))
      obtain ⟨r10, rfl, h⟩ := h
      refine ⟨_, rfl, ?_⟩
      show jEv nX7_rule (41, [(0, .ref 0), (1, .int x1), (2, .int x2), (3, .int x3), (4, .int x4), (5, .int x5), (6, .int (M.1 1 1))], [.int r10], M9) K
      refine e_if_ne (t := 46) (q := 44) hE rfl rfl rfl rfl (fun hbr => ?_) (fun hbr => ?_)
      · replace h := h.2 hbr
        refine e_seg (k := 3) (d := (49, [(0, .ref 0), (1, .int x1), (2, .int x2), (3, .int x3), (4, .int x4), (5, .int x5), (6, .int (M.1 1 1))], [.int 3, .int 0, .int x3], M9)) rfl ?_
        refine e_call (q := 52) (L0 := [(0, .int x3), (1, .int 0), (2, .int 3)]) hE rfl rfl rfl rfl (jargs_S rfl rfl rfl rfl (Nat.le_of_ble_eq_true rfl) (Nat.le_of_ble_eq_true rfl) (Nat.le_of_ble_eq_true rfl)) rfl rfl (jEv.mono h (fun o11 M12 h => ?_))
        obtain ⟨r13, rfl, h⟩ := h
        refine ⟨_, rfl, ?_⟩
        show jEv nX7_rule (52, [(0, .ref 0), (1, .int x1), (2, .int x2), (3, .int x3), (4, .int x4), (5, .int x5), (6, .int (M.1 1 1))], [.int r13], M12) K
        refine e_if_eq (t := 74) (q := 55) hE rfl rfl rfl rfl (fun hbr => ?_) (fun hbr => ?_)
        · replace h := h.1 hbr
          refine e_seg (k := 1) (d := (75, [(0, .ref 0), (1, .int x1), (2, .int x2), (3, .int x3), (4, .int x4), (5, .int x5), (6, .int (M.1 1 1))], [.int 0], M12)) rfl ?_
          exact e_ret hE rfl rfl (jb_z rfl (by decide)) h
        · replace h := h.2 hbr
          refine e_seg (k := 3) (d := (59, [(0, .ref 0), (1, .int x1), (2, .int x2), (3, .int x3), (4, .int x4), (5, .int x5), (6, .int (M.1 1 1))], [.int 3, .int 0, .int x4], M12)) rfl ?_
          refine e_call (q := 62) (L0 := [(0, .int x4), (1, .int 0), (2, .int 3)]) hE rfl rfl rfl rfl (jargs_S rfl rfl rfl rfl (Nat.le_of_ble_eq_true rfl) (Nat.le_of_ble_eq_true rfl) (Nat.le_of_ble_eq_true rfl)) rfl rfl (jEv.mono h (fun o14 M15 h => ?_))
          obtain ⟨r16, rfl, h⟩ := h
          refine ⟨_, rfl, ?_⟩
          show jEv nX7_rule (62, [(0, .ref 0), (1, .int x1), (2, .int x2), (3, .int x3), (4, .int x4), (5, .int x5), (6, .int (M.1 1 1))], [.int r16], M15) K
          refine e_if_eq (t := 74) (q := 65) hE rfl rfl rfl rfl (fun hbr => ?_) (fun hbr => ?_)
          · replace h := h.1 hbr
            refine e_seg (k := 1) (d := (75, [(0, .ref 0), (1, .int x1), (2, .int x2), (3, .int x3), (4, .int x4), (5, .int x5), (6, .int (M.1 1 1))], [.int 0], M15)) rfl ?_
            exact e_ret hE rfl rfl (jb_z rfl (by decide)) h
          · replace h := h.2 hbr
            refine e_seg (k := 4) (d := (71, [(0, .ref 0), (1, .int x1), (2, .int x2), (3, .int x3), (4, .int x4), (5, .int x5), (6, .int (M.1 1 1))], [.int (x3 + x4), .int (M.1 1 1)], M15)) rfl ?_
            refine e_ic_eq (t := 76) (q := 74) hE rfl rfl rfl rfl (fun hbr => ?_) (fun hbr => ?_)
            · replace h := h.1 hbr
              refine e_seg (k := 4) (d := (84, [(0, .ref 0), (1, .int x1), (2, .int x2), (3, .int x3), (4, .int x4), (5, .int x5), (6, .int (M.1 1 1))], [.int 8, .int (M.1 1 1), .ref 1], M15)) rfl ?_
              refine e_call (q := 87) (L0 := [(0, .ref 1), (1, .int (M.1 1 1)), (2, .int 8)]) hE rfl rfl rfl rfl (jargs_V rfl rfl rfl rfl rfl (Nat.le_of_ble_eq_true rfl) (Nat.le_of_ble_eq_true rfl) (Nat.le_of_ble_eq_true rfl)) rfl rfl (jEv.mono h (fun o17 M18 h => ?_))
              obtain ⟨r19, rfl, h⟩ := h
              refine ⟨_, rfl, ?_⟩
              show jEv nX7_rule (87, [(0, .ref 0), (1, .int x1), (2, .int x2), (3, .int x3), (4, .int x4), (5, .int x5), (6, .int (M.1 1 1))], [.int r19], M18) K
              refine e_if_ne (t := 92) (q := 90) hE rfl rfl rfl rfl (fun hbr => ?_) (fun hbr => ?_)
              · replace h := h.2 hbr
                refine e_seg (k := 3) (d := (97, [(0, .ref 0), (1, .int x1), (2, .int x2), (3, .int x3), (4, .int x4), (5, .int x5), (6, .int (M.1 1 1))], [.int x1, .ref 3], M18)) rfl ?_
                have hi20 := h.1
                replace h := h.2
                refine e_aald (q := 98) hE rfl rfl rfl rfl (by decide) hi20 (jRu_l hi20) ?_
                refine e_seg (k := 7) (d := (111, [(0, .ref 0), (1, .int x1), (2, .int x2), (3, .int x3), (4, .int x4), (5, .int x5), (6, .int (M.1 1 1))], [.int x5, .int x4, .int x3, .int x2, .ref 2, .ref (4 + 4 * x1.toNatClampNeg)], M18)) rfl ?_
                refine e_call (q := 114) (L0 := [(0, .ref (4 + 4 * x1.toNatClampNeg)), (1, .ref 2), (2, .int x2), (3, .int x3), (4, .int x4), (5, .int x5)]) hE rfl rfl rfl rfl (jargs_V (jRu_o (jRu_i hi20)) rfl rfl rfl rfl (Nat.le_of_ble_eq_true rfl) (Nat.le_of_ble_eq_true rfl) (Nat.le_of_ble_eq_true rfl)) rfl rfl (jEv.mono h (fun o21 M22 h => ?_))
                obtain ⟨rfl, h⟩ := h
                refine ⟨_, rfl, ?_⟩
                show jEv nX7_rule (114, [(0, .ref 0), (1, .int x1), (2, .int x2), (3, .int x3), (4, .int x4), (5, .int x5), (6, .int (M.1 1 1))], [], M22) K
                refine e_seg (k := 1) (d := (115, [(0, .ref 0), (1, .int x1), (2, .int x2), (3, .int x3), (4, .int x4), (5, .int x5), (6, .int (M.1 1 1))], [.int 1], M22)) rfl ?_
                exact e_ret hE rfl rfl (jb_z rfl (by decide)) h
              · replace h := h.1 hbr
                refine e_seg (k := 1) (d := (91, [(0, .ref 0), (1, .int x1), (2, .int x2), (3, .int x3), (4, .int x4), (5, .int x5), (6, .int (M.1 1 1))], [.int 0], M18)) rfl ?_
                exact e_ret hE rfl rfl (jb_z rfl (by decide)) h
            · replace h := h.2 hbr
              refine e_seg (k := 1) (d := (75, [(0, .ref 0), (1, .int x1), (2, .int x2), (3, .int x3), (4, .int x4), (5, .int x5), (6, .int (M.1 1 1))], [.int 0], M15)) rfl ?_
              exact e_ret hE rfl rfl (jb_z rfl (by decide)) h
      · replace h := h.1 hbr
        refine e_seg (k := 1) (d := (45, [(0, .ref 0), (1, .int x1), (2, .int x2), (3, .int x3), (4, .int x4), (5, .int x5), (6, .int (M.1 1 1))], [.int 0], M9)) rfl ?_
        exact e_ret hE rfl rfl (jb_z rfl (by decide)) h
set_option maxRecDepth 100000 in
set_option maxHeartbeats 4000000 in
theorem v_X7_takeDrawn_0 {K : jK} {M : jM} {x1 : Int32} {x2 : Int32} (h : (jEv nX7_areLikenesses (0, [(0, .ref 59), (1, .int x2)], [], M) (fun o1 M2 => ∃ r3 : Int32, o1 = some (some (.int r3)) ∧ ((r3 = 0 → K (some (some (.int 0))) M2) ∧ (¬ r3 = 0 → (¬ (x1 < 0 ∨ 6 ≤ x1.toNatClampNeg) ∧ (jEv nX3_take (0, [(0, .ref (29 + 2 * x1.toNatClampNeg)), (1, .ref 59), (2, .int x2)], [], M2) (fun o5 M6 => o5 = some none ∧ K (some (some (.int 1))) M6)))))))) : jEv nX7_takeDrawn (0, [(0, .ref 0), (1, .int x1), (2, .int x2)], [], M) K := by
  have hE : jMT nX7_takeDrawn = some me_X7_takeDrawn := rfl
  refine e_seg (k := 3) (d := (5, [(0, .ref 0), (1, .int x1), (2, .int x2)], [.int x2, .ref 59], M)) rfl ?_
  refine e_call (q := 8) (L0 := [(0, .ref 59), (1, .int x2)]) hE rfl rfl rfl rfl (jargs_S rfl rfl rfl rfl (Nat.le_of_ble_eq_true rfl) (Nat.le_of_ble_eq_true rfl) (Nat.le_of_ble_eq_true rfl)) rfl rfl (jEv.mono h (fun o1 M2 h => ?_))
  obtain ⟨r3, rfl, h⟩ := h
  refine ⟨_, rfl, ?_⟩
  show jEv nX7_takeDrawn (8, [(0, .ref 0), (1, .int x1), (2, .int x2)], [.int r3], M2) K
  refine e_if_ne (t := 13) (q := 11) hE rfl rfl rfl rfl (fun hbr => ?_) (fun hbr => ?_)
  · replace h := h.2 hbr
    refine e_seg (k := 3) (d := (18, [(0, .ref 0), (1, .int x1), (2, .int x2)], [.int x1, .ref 28], M2)) rfl ?_
    have hi4 := h.1
    replace h := h.2
    refine e_aald (q := 19) hE rfl rfl rfl rfl (by decide) hi4 (jLi_l hi4) ?_
    refine e_seg (k := 3) (d := (24, [(0, .ref 0), (1, .int x1), (2, .int x2)], [.int x2, .ref 59, .ref (29 + 2 * x1.toNatClampNeg)], M2)) rfl ?_
    refine e_call (q := 27) (L0 := [(0, .ref (29 + 2 * x1.toNatClampNeg)), (1, .ref 59), (2, .int x2)]) hE rfl rfl rfl rfl (jargs_V (jLi_o (jLi_i hi4)) rfl rfl rfl rfl (Nat.le_of_ble_eq_true rfl) (Nat.le_of_ble_eq_true rfl) (Nat.le_of_ble_eq_true rfl)) rfl rfl (jEv.mono h (fun o5 M6 h => ?_))
    obtain ⟨rfl, h⟩ := h
    refine ⟨_, rfl, ?_⟩
    show jEv nX7_takeDrawn (27, [(0, .ref 0), (1, .int x1), (2, .int x2)], [], M6) K
    refine e_seg (k := 1) (d := (28, [(0, .ref 0), (1, .int x1), (2, .int x2)], [.int 1], M6)) rfl ?_
    exact e_ret hE rfl rfl (jb_z rfl (by decide)) h
  · replace h := h.1 hbr
    refine e_seg (k := 1) (d := (12, [(0, .ref 0), (1, .int x1), (2, .int x2)], [.int 0], M2)) rfl ?_
    exact e_ret hE rfl rfl (jb_z rfl (by decide)) h
set_option maxRecDepth 100000 in
set_option maxHeartbeats 4000000 in
theorem v_X7_toldLikenesses_0 {K : jK} {M : jM} {x1 : Int32} (h : (jEv nX7_isSlot (0, [(0, .int x1)], [], M) (fun o1 M2 => ∃ r3 : Int32, o1 = some (some (.int r3)) ∧ ((r3 = 0 → K (some (some (.null))) M2) ∧ (¬ r3 = 0 → (¬ (x1 < 0 ∨ 6 ≤ x1.toNatClampNeg) ∧ (((M2.1 (29 + 2 * x1.toNatClampNeg) 1) = 0 → K (some (some (.null))) M2) ∧ (¬ (M2.1 (29 + 2 * x1.toNatClampNeg) 1) = 0 → (¬ (x1 < 0 ∨ 6 ≤ x1.toNatClampNeg) ∧ K (some (some (.ref (29 + 2 * x1.toNatClampNeg)))) M2))))))))) : jEv nX7_toldLikenesses (0, [(0, .ref 0), (1, .int x1)], [], M) K := by
  have hE : jMT nX7_toldLikenesses = some me_X7_toldLikenesses := rfl
  refine e_seg (k := 1) (d := (1, [(0, .ref 0), (1, .int x1)], [.int x1], M)) rfl ?_
  refine e_call (q := 4) (L0 := [(0, .int x1)]) hE rfl rfl rfl rfl (jargs_S rfl rfl rfl rfl (Nat.le_of_ble_eq_true rfl) (Nat.le_of_ble_eq_true rfl) (Nat.le_of_ble_eq_true rfl)) rfl rfl (jEv.mono h (fun o1 M2 h => ?_))
  obtain ⟨r3, rfl, h⟩ := h
  refine ⟨_, rfl, ?_⟩
  show jEv nX7_toldLikenesses (4, [(0, .ref 0), (1, .int x1)], [.int r3], M2) K
  refine e_if_eq (t := 19) (q := 7) hE rfl rfl rfl rfl (fun hbr => ?_) (fun hbr => ?_)
  · replace h := h.1 hbr
    refine e_seg (k := 1) (d := (20, [(0, .ref 0), (1, .int x1)], [.null], M2)) rfl ?_
    exact e_ret hE rfl rfl rfl h
  · replace h := h.2 hbr
    refine e_seg (k := 3) (d := (12, [(0, .ref 0), (1, .int x1)], [.int x1, .ref 28], M2)) rfl ?_
    have hi4 := h.1
    replace h := h.2
    refine e_aald (q := 13) hE rfl rfl rfl rfl (by decide) hi4 (jLi_l hi4) ?_
    refine e_get (v := .int (M2.1 (29 + 2 * x1.toNatClampNeg) 1)) (q := 16) hE rfl rfl rfl rfl (jLi_o (jLi_i hi4)) rfl rfl ?_
    refine e_if_ne (t := 21) (q := 19) hE rfl rfl rfl rfl (fun hbr => ?_) (fun hbr => ?_)
    · replace h := h.2 hbr
      refine e_seg (k := 3) (d := (26, [(0, .ref 0), (1, .int x1)], [.int x1, .ref 28], M2)) rfl ?_
      have hi5 := h.1
      replace h := h.2
      refine e_aald (q := 27) hE rfl rfl rfl rfl (by decide) hi5 (jLi_l hi5) ?_
      exact e_ret hE rfl rfl rfl h
    · replace h := h.1 hbr
      refine e_seg (k := 1) (d := (20, [(0, .ref 0), (1, .int x1)], [.null], M2)) rfl ?_
      exact e_ret hE rfl rfl rfl h
set_option maxRecDepth 100000 in
set_option maxHeartbeats 4000000 in
theorem v_X7_toldRule_0 {K : jK} {M : jM} {x1 : Int32} (h : (jEv nX7_isSlot (0, [(0, .int x1)], [], M) (fun o1 M2 => ∃ r3 : Int32, o1 = some (some (.int r3)) ∧ ((r3 = 0 → K (some (some (.null))) M2) ∧ (¬ r3 = 0 → (¬ (x1 < 0 ∨ 6 ≤ x1.toNatClampNeg) ∧ (((M2.1 (4 + 4 * x1.toNatClampNeg) 0) = 0 → K (some (some (.null))) M2) ∧ (¬ (M2.1 (4 + 4 * x1.toNatClampNeg) 0) = 0 → (¬ (x1 < 0 ∨ 6 ≤ x1.toNatClampNeg) ∧ K (some (some (.ref (4 + 4 * x1.toNatClampNeg)))) M2))))))))) : jEv nX7_toldRule (0, [(0, .ref 0), (1, .int x1)], [], M) K := by
  have hE : jMT nX7_toldRule = some me_X7_toldRule := rfl
  refine e_seg (k := 1) (d := (1, [(0, .ref 0), (1, .int x1)], [.int x1], M)) rfl ?_
  refine e_call (q := 4) (L0 := [(0, .int x1)]) hE rfl rfl rfl rfl (jargs_S rfl rfl rfl rfl (Nat.le_of_ble_eq_true rfl) (Nat.le_of_ble_eq_true rfl) (Nat.le_of_ble_eq_true rfl)) rfl rfl (jEv.mono h (fun o1 M2 h => ?_))
  obtain ⟨r3, rfl, h⟩ := h
  refine ⟨_, rfl, ?_⟩
  show jEv nX7_toldRule (4, [(0, .ref 0), (1, .int x1)], [.int r3], M2) K
  refine e_if_eq (t := 19) (q := 7) hE rfl rfl rfl rfl (fun hbr => ?_) (fun hbr => ?_)
  · replace h := h.1 hbr
    refine e_seg (k := 1) (d := (20, [(0, .ref 0), (1, .int x1)], [.null], M2)) rfl ?_
    exact e_ret hE rfl rfl rfl h
  · replace h := h.2 hbr
    refine e_seg (k := 3) (d := (12, [(0, .ref 0), (1, .int x1)], [.int x1, .ref 3], M2)) rfl ?_
    have hi4 := h.1
    replace h := h.2
    refine e_aald (q := 13) hE rfl rfl rfl rfl (by decide) hi4 (jRu_l hi4) ?_
    refine e_get (v := .int (M2.1 (4 + 4 * x1.toNatClampNeg) 0)) (q := 16) hE rfl rfl rfl rfl (jRu_o (jRu_i hi4)) rfl rfl ?_
    refine e_if_ne (t := 21) (q := 19) hE rfl rfl rfl rfl (fun hbr => ?_) (fun hbr => ?_)
    · replace h := h.2 hbr
      refine e_seg (k := 3) (d := (26, [(0, .ref 0), (1, .int x1)], [.int x1, .ref 3], M2)) rfl ?_
      have hi5 := h.1
      replace h := h.2
      refine e_aald (q := 27) hE rfl rfl rfl rfl (by decide) hi5 (jRu_l hi5) ?_
      exact e_ret hE rfl rfl rfl h
    · replace h := h.1 hbr
      refine e_seg (k := 1) (d := (20, [(0, .ref 0), (1, .int x1)], [.null], M2)) rfl ?_
      exact e_ret hE rfl rfl rfl h
set_option maxRecDepth 100000 in
set_option maxHeartbeats 4000000 in
theorem v_X7_clear_0 {K : jK} {M : jM} {x1 : Int32} (h : (jEv nX7_toldRule (0, [(0, .ref 0), (1, .int x1)], [], M) (fun o1 M2 => (o1 = some (some .null) ∧ K (some (some (.int (-1)))) M2) ∨ (∃ p3 : Nat, jRu p3 ∧ o1 = some (some (.ref p3)) ∧ (jEv nX5_showsMisses (0, [(0, .ref p3)], [], M2) (fun o4 M5 => ∃ r6 : Int32, o4 = some (some (.int r6)) ∧ ((r6 = 0 → K (some (some (.int 0))) M5) ∧ (¬ r6 = 0 → K (some (some (.int 1))) M5)))))))) : jEv nX7_clear (0, [(0, .ref 0), (1, .int x1)], [], M) K := by
  have hE : jMT nX7_clear = some me_X7_clear := rfl
  refine e_seg (k := 2) (d := (2, [(0, .ref 0), (1, .int x1)], [.int x1, .ref 0], M)) rfl ?_
  refine e_call (q := 5) (L0 := [(0, .ref 0), (1, .int x1)]) hE rfl rfl rfl rfl (jargs_V rfl rfl rfl rfl rfl (Nat.le_of_ble_eq_true rfl) (Nat.le_of_ble_eq_true rfl) (Nat.le_of_ble_eq_true rfl)) rfl rfl (jEv.mono h (fun o1 M2 h => ?_))
  rcases h with ⟨rfl, h⟩ | ⟨p3, hp3, rfl, h⟩
  · refine ⟨_, rfl, ?_⟩
    show jEv nX7_clear (5, [(0, .ref 0), (1, .int x1)], [.null], M2) K
    refine e_seg (k := 4) (d := (11, [(0, .ref 0), (1, .int x1), (2, .null)], [.int (-1)], M2)) rfl ?_
    exact e_ret hE rfl rfl (jb_i rfl) h
  · refine ⟨_, rfl, ?_⟩
    show jEv nX7_clear (5, [(0, .ref 0), (1, .int x1)], [.ref p3], M2) K
    refine e_seg (k := 4) (d := (13, [(0, .ref 0), (1, .int x1), (2, .ref p3)], [.ref p3], M2)) rfl ?_
    refine e_call (q := 16) (L0 := [(0, .ref p3)]) hE rfl rfl rfl rfl (jargs_V (jRu_o hp3) rfl rfl rfl rfl (Nat.le_of_ble_eq_true rfl) (Nat.le_of_ble_eq_true rfl) (Nat.le_of_ble_eq_true rfl)) rfl rfl (jEv.mono h (fun o4 M5 h => ?_))
    obtain ⟨r6, rfl, h⟩ := h
    refine ⟨_, rfl, ?_⟩
    show jEv nX7_clear (16, [(0, .ref 0), (1, .int x1), (2, .ref p3)], [.int r6], M5) K
    refine e_if_eq (t := 23) (q := 19) hE rfl rfl rfl rfl (fun hbr => ?_) (fun hbr => ?_)
    · replace h := h.1 hbr
      refine e_seg (k := 1) (d := (24, [(0, .ref 0), (1, .int x1), (2, .ref p3)], [.int 0], M5)) rfl ?_
      exact e_ret hE rfl rfl (jb_i rfl) h
    · replace h := h.2 hbr
      refine e_seg (k := 2) (d := (24, [(0, .ref 0), (1, .int x1), (2, .ref p3)], [.int 1], M5)) rfl ?_
      exact e_ret hE rfl rfl (jb_i rfl) h
set_option maxRecDepth 100000 in
set_option maxHeartbeats 4000000 in
theorem v_X7_counted_0 {K : jK} {M : jM} {x1 : Int32} {x2 : Int32} (h : (jEv nX7_isSlot (0, [(0, .int x1)], [], M) (fun o1 M2 => ∃ r3 : Int32, o1 = some (some (.int r3)) ∧ ((r3 = 0 → K (some (some (.int 0))) M2) ∧ (¬ r3 = 0 → (jEv nX7_isWithin (0, [(0, .int x2), (1, .int 0), (2, .int 4)], [], M2) (fun o4 M5 => ∃ r6 : Int32, o4 = some (some (.int r6)) ∧ ((r6 = 0 → K (some (some (.int 0))) M5) ∧ (¬ r6 = 0 → (jEv nX4_gapCount (0, [(0, .ref 41)], [], M5) (fun o7 M8 => ∃ r9 : Int32, o7 = some (some (.int r9)) ∧ ((r9 ≤ 0 → jEv nX7_counted (30, [(0, .ref 0), (1, .int x1), (2, .int x2), (3, .int 0)], [], M8) K) ∧ (¬ r9 ≤ 0 → K (some (some (.int 0))) M8))))))))))))) : jEv nX7_counted (0, [(0, .ref 0), (1, .int x1), (2, .int x2)], [], M) K := by
  have hE : jMT nX7_counted = some me_X7_counted := rfl
  refine e_seg (k := 1) (d := (1, [(0, .ref 0), (1, .int x1), (2, .int x2)], [.int x1], M)) rfl ?_
  refine e_call (q := 4) (L0 := [(0, .int x1)]) hE rfl rfl rfl rfl (jargs_S rfl rfl rfl rfl (Nat.le_of_ble_eq_true rfl) (Nat.le_of_ble_eq_true rfl) (Nat.le_of_ble_eq_true rfl)) rfl rfl (jEv.mono h (fun o1 M2 h => ?_))
  obtain ⟨r3, rfl, h⟩ := h
  refine ⟨_, rfl, ?_⟩
  show jEv nX7_counted (4, [(0, .ref 0), (1, .int x1), (2, .int x2)], [.int r3], M2) K
  refine e_if_eq (t := 26) (q := 7) hE rfl rfl rfl rfl (fun hbr => ?_) (fun hbr => ?_)
  · replace h := h.1 hbr
    refine e_seg (k := 1) (d := (27, [(0, .ref 0), (1, .int x1), (2, .int x2)], [.int 0], M2)) rfl ?_
    exact e_ret hE rfl rfl (jb_z rfl (by decide)) h
  · replace h := h.2 hbr
    refine e_seg (k := 3) (d := (10, [(0, .ref 0), (1, .int x1), (2, .int x2)], [.int 4, .int 0, .int x2], M2)) rfl ?_
    refine e_call (q := 13) (L0 := [(0, .int x2), (1, .int 0), (2, .int 4)]) hE rfl rfl rfl rfl (jargs_S rfl rfl rfl rfl (Nat.le_of_ble_eq_true rfl) (Nat.le_of_ble_eq_true rfl) (Nat.le_of_ble_eq_true rfl)) rfl rfl (jEv.mono h (fun o4 M5 h => ?_))
    obtain ⟨r6, rfl, h⟩ := h
    refine ⟨_, rfl, ?_⟩
    show jEv nX7_counted (13, [(0, .ref 0), (1, .int x1), (2, .int x2)], [.int r6], M5) K
    refine e_if_eq (t := 26) (q := 16) hE rfl rfl rfl rfl (fun hbr => ?_) (fun hbr => ?_)
    · replace h := h.1 hbr
      refine e_seg (k := 1) (d := (27, [(0, .ref 0), (1, .int x1), (2, .int x2)], [.int 0], M5)) rfl ?_
      exact e_ret hE rfl rfl (jb_z rfl (by decide)) h
    · replace h := h.2 hbr
      refine e_seg (k := 2) (d := (20, [(0, .ref 0), (1, .int x1), (2, .int x2)], [.ref 41], M5)) rfl ?_
      refine e_call (q := 23) (L0 := [(0, .ref 41)]) hE rfl rfl rfl rfl (jargs_V rfl rfl rfl rfl rfl (Nat.le_of_ble_eq_true rfl) (Nat.le_of_ble_eq_true rfl) (Nat.le_of_ble_eq_true rfl)) rfl rfl (jEv.mono h (fun o7 M8 h => ?_))
      obtain ⟨r9, rfl, h⟩ := h
      refine ⟨_, rfl, ?_⟩
      show jEv nX7_counted (23, [(0, .ref 0), (1, .int x1), (2, .int x2)], [.int r9], M8) K
      refine e_if_le (t := 28) (q := 26) hE rfl rfl rfl rfl (fun hbr => ?_) (fun hbr => ?_)
      · replace h := h.1 hbr
        refine e_seg (k := 2) (d := (30, [(0, .ref 0), (1, .int x1), (2, .int x2), (3, .int 0)], [], M8)) rfl ?_
        refine e_cut (ks := [0, 1, 2, 3]) (L' := [(0, .ref 0), (1, .int x1), (2, .int x2), (3, .int 0)]) hE rfl rfl rfl rfl rfl ?_
        exact h
      · replace h := h.2 hbr
        refine e_seg (k := 1) (d := (27, [(0, .ref 0), (1, .int x1), (2, .int x2)], [.int 0], M8)) rfl ?_
        exact e_ret hE rfl rfl (jb_z rfl (by decide)) h
set_option maxRecDepth 100000 in
set_option maxHeartbeats 4000000 in
theorem v_X7_counted_30 {K : jK} {M : jM} {x1 : Int32} {x2 : Int32} {x3 : Int32} (h : ((x2 < x3 → (jEv nX7_takeDrawn (0, [(0, .ref 0), (1, .int x1), (2, .int (x2 + 1))], [], M) (fun o1 M2 => ∃ r3 : Int32, o1 = some (some (.int r3)) ∧ ((r3 = 0 ∨ r3 = 1) ∧ K (some (some (.int r3))) M2)))) ∧ (¬ x2 < x3 → (jEv nX4_productsAt (0, [(0, .ref 41), (1, .int x3)], [], M) (fun o4 M5 => ∃ r6 : Int32, o4 = some (some (.int r6)) ∧ (¬ (x3 < 0 ∨ 5 ≤ x3.toNatClampNeg) ∧ (∀ M7 : jM, M7 = jsi M5 59 x3.toNatClampNeg r6 → jEv nX7_counted (30, [(0, .ref 0), (1, .int x1), (2, .int x2), (3, .int (x3 + 1))], [], M7) K))))))) : jEv nX7_counted (30, [(0, .ref 0), (1, .int x1), (2, .int x2), (3, .int x3)], [], M) K := by
  have hE : jMT nX7_counted = some me_X7_counted := rfl
  refine e_seg (k := 2) (d := (32, [(0, .ref 0), (1, .int x1), (2, .int x2), (3, .int x3)], [.int x2, .int x3], M)) rfl ?_
  refine e_ic_gt (t := 55) (q := 35) hE rfl rfl rfl rfl (fun hbr => ?_) (fun hbr => ?_)
  · replace h := h.1 hbr
    refine e_seg (k := 5) (d := (60, [(0, .ref 0), (1, .int x1), (2, .int x2), (3, .int x3)], [.int (x2 + 1), .int x1, .ref 0], M)) rfl ?_
    refine e_call (q := 63) (L0 := [(0, .ref 0), (1, .int x1), (2, .int (x2 + 1))]) hE rfl rfl rfl rfl (jargs_V rfl rfl rfl rfl rfl (Nat.le_of_ble_eq_true rfl) (Nat.le_of_ble_eq_true rfl) (Nat.le_of_ble_eq_true rfl)) rfl rfl (jEv.mono h (fun o1 M2 h => ?_))
    obtain ⟨r3, rfl, h⟩ := h
    refine ⟨_, rfl, ?_⟩
    show jEv nX7_counted (63, [(0, .ref 0), (1, .int x1), (2, .int x2), (3, .int x3)], [.int r3], M2) K
    exact e_ret hE rfl rfl (jb_z rfl h.1) h.2
  · replace h := h.2 hbr
    refine e_seg (k := 6) (d := (45, [(0, .ref 0), (1, .int x1), (2, .int x2), (3, .int x3)], [.int x3, .ref 41, .int x3, .ref 59], M)) rfl ?_
    refine e_call (q := 48) (L0 := [(0, .ref 41), (1, .int x3)]) hE rfl rfl rfl rfl (jargs_V rfl rfl rfl rfl rfl (Nat.le_of_ble_eq_true rfl) (Nat.le_of_ble_eq_true rfl) (Nat.le_of_ble_eq_true rfl)) rfl rfl (jEv.mono h (fun o4 M5 h => ?_))
    obtain ⟨r6, rfl, h⟩ := h
    refine ⟨_, rfl, ?_⟩
    show jEv nX7_counted (48, [(0, .ref 0), (1, .int x1), (2, .int x2), (3, .int x3)], [.int r6, .int x3, .ref 59], M5) K
    refine e_iast (q := 49) hE rfl rfl rfl rfl h.1 ?_
    replace h := h.2
    obtain ⟨M7, hM7⟩ : ∃ z : jM, z = jsi M5 59 x3.toNatClampNeg r6 := ⟨_, rfl⟩
    refine jEv_M hM7 ?_
    replace h := h M7 hM7
    refine e_seg (k := 2) (d := (30, [(0, .ref 0), (1, .int x1), (2, .int x2), (3, .int (x3 + 1))], [], M7)) rfl ?_
    refine e_cut (ks := [0, 1, 2, 3]) (L' := [(0, .ref 0), (1, .int x1), (2, .int x2), (3, .int (x3 + 1))]) hE rfl rfl rfl rfl rfl ?_
    exact h
set_option maxRecDepth 100000 in
set_option maxHeartbeats 4000000 in
theorem v_X7_even_0 {K : jK} {M : jM} {x1 : Int32} (h : (jEv nX7_toldLikenesses (0, [(0, .ref 0), (1, .int x1)], [], M) (fun o1 M2 => (o1 = some (some .null) ∧ K (some (some (.int (-1)))) M2) ∨ (∃ p3 : Nat, jLi p3 ∧ o1 = some (some (.ref p3)) ∧ (((M2.1 p3 1) ≤ 3 → (jEv nX3_isNowhereBelowZero (0, [(0, .ref p3)], [], M2) (fun o4 M5 => ∃ r6 : Int32, o4 = some (some (.int r6)) ∧ ((r6 = 0 → K (some (some (.int 0))) M5) ∧ (¬ r6 = 0 → K (some (some (.int 1))) M5))))) ∧ (¬ (M2.1 p3 1) ≤ 3 → K (some (some (.int (-1)))) M2)))))) : jEv nX7_even (0, [(0, .ref 0), (1, .int x1)], [], M) K := by
  have hE : jMT nX7_even = some me_X7_even := rfl
  refine e_seg (k := 2) (d := (2, [(0, .ref 0), (1, .int x1)], [.int x1, .ref 0], M)) rfl ?_
  refine e_call (q := 5) (L0 := [(0, .ref 0), (1, .int x1)]) hE rfl rfl rfl rfl (jargs_V rfl rfl rfl rfl rfl (Nat.le_of_ble_eq_true rfl) (Nat.le_of_ble_eq_true rfl) (Nat.le_of_ble_eq_true rfl)) rfl rfl (jEv.mono h (fun o1 M2 h => ?_))
  rcases h with ⟨rfl, h⟩ | ⟨p3, hp3, rfl, h⟩
  · refine ⟨_, rfl, ?_⟩
    show jEv nX7_even (5, [(0, .ref 0), (1, .int x1)], [.null], M2) K
    refine e_seg (k := 4) (d := (19, [(0, .ref 0), (1, .int x1), (2, .null)], [.int (-1)], M2)) rfl ?_
    exact e_ret hE rfl rfl (jb_i rfl) h
  · refine ⟨_, rfl, ?_⟩
    show jEv nX7_even (5, [(0, .ref 0), (1, .int x1)], [.ref p3], M2) K
    refine e_seg (k := 4) (d := (11, [(0, .ref 0), (1, .int x1), (2, .ref p3)], [.ref p3], M2)) rfl ?_
    refine e_get (v := .int (M2.1 p3 1)) (q := 14) hE rfl rfl rfl rfl (jLi_o hp3) rfl rfl ?_
    refine e_seg (k := 1) (d := (15, [(0, .ref 0), (1, .int x1), (2, .ref p3)], [.int 3, .int (M2.1 p3 1)], M2)) rfl ?_
    refine e_ic_le (t := 20) (q := 18) hE rfl rfl rfl rfl (fun hbr => ?_) (fun hbr => ?_)
    · replace h := h.1 hbr
      refine e_seg (k := 1) (d := (21, [(0, .ref 0), (1, .int x1), (2, .ref p3)], [.ref p3], M2)) rfl ?_
      refine e_call (q := 24) (L0 := [(0, .ref p3)]) hE rfl rfl rfl rfl (jargs_V (jLi_o hp3) rfl rfl rfl rfl (Nat.le_of_ble_eq_true rfl) (Nat.le_of_ble_eq_true rfl) (Nat.le_of_ble_eq_true rfl)) rfl rfl (jEv.mono h (fun o4 M5 h => ?_))
      obtain ⟨r6, rfl, h⟩ := h
      refine ⟨_, rfl, ?_⟩
      show jEv nX7_even (24, [(0, .ref 0), (1, .int x1), (2, .ref p3)], [.int r6], M5) K
      refine e_if_eq (t := 31) (q := 27) hE rfl rfl rfl rfl (fun hbr => ?_) (fun hbr => ?_)
      · replace h := h.1 hbr
        refine e_seg (k := 1) (d := (32, [(0, .ref 0), (1, .int x1), (2, .ref p3)], [.int 0], M5)) rfl ?_
        exact e_ret hE rfl rfl (jb_i rfl) h
      · replace h := h.2 hbr
        refine e_seg (k := 2) (d := (32, [(0, .ref 0), (1, .int x1), (2, .ref p3)], [.int 1], M5)) rfl ?_
        exact e_ret hE rfl rfl (jb_i rfl) h
    · replace h := h.2 hbr
      refine e_seg (k := 1) (d := (19, [(0, .ref 0), (1, .int x1), (2, .ref p3)], [.int (-1)], M2)) rfl ?_
      exact e_ret hE rfl rfl (jb_i rfl) h
set_option maxRecDepth 100000 in
set_option maxHeartbeats 4000000 in
theorem v_X7_given_0 {K : jK} {M : jM} {x1 : Int32} (h : (∀ M1 : jM, M1 = jsi M 1 1 0 → (jEv nX7_isSlot (0, [(0, .int x1)], [], M1) (fun o2 M3 => ∃ r4 : Int32, o2 = some (some (.int r4)) ∧ ((r4 = 0 → K (some (some (.int 0))) M3) ∧ (¬ r4 = 0 → ((((M.1 1 1) - (M.1 1 1) / 2 * 2) = 0 → ((((M.1 1 1) / 2) ≤ 5 → jEv nX7_given (45, [(0, .ref 0), (1, .int x1), (3, .int ((M.1 1 1) / 2)), (4, .int 0)], [], M3) K) ∧ (¬ ((M.1 1 1) / 2) ≤ 5 → K (some (some (.int 0))) M3))) ∧ (¬ ((M.1 1 1) - (M.1 1 1) / 2 * 2) = 0 → K (some (some (.int 0))) M3)))))))) : jEv nX7_given (0, [(0, .ref 0), (1, .int x1)], [], M) K := by
  have hE : jMT nX7_given = some me_X7_given := rfl
  refine e_seg (k := 7) (d := (13, [(0, .ref 0), (1, .int x1), (2, .int (M.1 1 1))], [.int 0, .ref 1], M)) rfl ?_
  refine e_put (q := 16) hE rfl rfl rfl rfl rfl rfl rfl ?_
  obtain ⟨M1, hM1⟩ : ∃ z : jM, z = jsi M 1 1 0 := ⟨_, rfl⟩
  refine jEv_M hM1 ?_
  replace h := h M1 hM1
  refine e_seg (k := 1) (d := (17, [(0, .ref 0), (1, .int x1), (2, .int (M.1 1 1))], [.int x1], M1)) rfl ?_
  refine e_call (q := 20) (L0 := [(0, .int x1)]) hE rfl rfl rfl rfl (jargs_S rfl rfl rfl rfl (Nat.le_of_ble_eq_true rfl) (Nat.le_of_ble_eq_true rfl) (Nat.le_of_ble_eq_true rfl)) rfl rfl (jEv.mono h (fun o2 M3 h => ?_))
  obtain ⟨r4, rfl, h⟩ := h
  refine ⟨_, rfl, ?_⟩
  show jEv nX7_given (20, [(0, .ref 0), (1, .int x1), (2, .int (M.1 1 1))], [.int r4], M3) K
  refine e_if_eq (t := 36) (q := 23) hE rfl rfl rfl rfl (fun hbr => ?_) (fun hbr => ?_)
  · replace h := h.1 hbr
    refine e_seg (k := 1) (d := (37, [(0, .ref 0), (1, .int x1), (2, .int (M.1 1 1))], [.int 0], M3)) rfl ?_
    exact e_ret hE rfl rfl (jb_z rfl (by decide)) h
  · replace h := h.2 hbr
    refine e_seg (k := 2) (d := (25, [(0, .ref 0), (1, .int x1), (2, .int (M.1 1 1))], [.int 2, .int (M.1 1 1)], M3)) rfl ?_
    refine e_irem (q := 26) hE rfl rfl rfl (by decide) ?_
    refine e_if_ne (t := 36) (q := 29) hE rfl rfl rfl rfl (fun hbr => ?_) (fun hbr => ?_)
    · replace h := h.2 hbr
      refine e_seg (k := 1) (d := (37, [(0, .ref 0), (1, .int x1), (2, .int (M.1 1 1))], [.int 0], M3)) rfl ?_
      exact e_ret hE rfl rfl (jb_z rfl (by decide)) h
    · replace h := h.1 hbr
      refine e_seg (k := 2) (d := (31, [(0, .ref 0), (1, .int x1), (2, .int (M.1 1 1))], [.int 2, .int (M.1 1 1)], M3)) rfl ?_
      refine e_idiv (q := 32) hE rfl rfl rfl (by decide) ?_
      refine e_seg (k := 1) (d := (33, [(0, .ref 0), (1, .int x1), (2, .int (M.1 1 1))], [.int 5, .int ((M.1 1 1) / 2)], M3)) rfl ?_
      refine e_ic_le (t := 38) (q := 36) hE rfl rfl rfl rfl (fun hbr => ?_) (fun hbr => ?_)
      · replace h := h.1 hbr
        refine e_seg (k := 2) (d := (40, [(0, .ref 0), (1, .int x1), (2, .int (M.1 1 1))], [.int 2, .int (M.1 1 1)], M3)) rfl ?_
        refine e_idiv (q := 41) hE rfl rfl rfl (by decide) ?_
        refine e_seg (k := 3) (d := (45, [(0, .ref 0), (1, .int x1), (2, .int (M.1 1 1)), (3, .int ((M.1 1 1) / 2)), (4, .int 0)], [], M3)) rfl ?_
        refine e_cut (ks := [0, 1, 3, 4]) (L' := [(0, .ref 0), (1, .int x1), (3, .int ((M.1 1 1) / 2)), (4, .int 0)]) hE rfl rfl rfl rfl rfl ?_
        exact h
      · replace h := h.2 hbr
        refine e_seg (k := 1) (d := (37, [(0, .ref 0), (1, .int x1), (2, .int (M.1 1 1))], [.int 0], M3)) rfl ?_
        exact e_ret hE rfl rfl (jb_z rfl (by decide)) h
set_option maxRecDepth 100000 in
set_option maxHeartbeats 4000000 in
theorem v_X7_given_45 {K : jK} {M : jM} {x1 : Int32} {x3 : Int32} {x4 : Int32} (h : ((x3 ≤ x4 → (jEv nX7_takeDrawn (0, [(0, .ref 0), (1, .int x1), (2, .int x3)], [], M) (fun o1 M2 => ∃ r3 : Int32, o1 = some (some (.int r3)) ∧ ((r3 = 0 ∨ r3 = 1) ∧ K (some (some (.int r3))) M2)))) ∧ (¬ x3 ≤ x4 → (jEv nX6_pair (0, [(0, .ref 1), (1, .int x4)], [], M) (fun o4 M5 => ∃ r6 : Int32, o4 = some (some (.int r6)) ∧ (¬ (x4 < 0 ∨ 5 ≤ x4.toNatClampNeg) ∧ (∀ M7 : jM, M7 = jsi M5 59 x4.toNatClampNeg r6 → jEv nX7_given (45, [(0, .ref 0), (1, .int x1), (3, .int x3), (4, .int (x4 + 1))], [], M7) K))))))) : jEv nX7_given (45, [(0, .ref 0), (1, .int x1), (3, .int x3), (4, .int x4)], [], M) K := by
  have hE : jMT nX7_given = some me_X7_given := rfl
  refine e_seg (k := 2) (d := (48, [(0, .ref 0), (1, .int x1), (3, .int x3), (4, .int x4)], [.int x3, .int x4], M)) rfl ?_
  refine e_ic_ge (t := 73) (q := 51) hE rfl rfl rfl rfl (fun hbr => ?_) (fun hbr => ?_)
  · replace h := h.1 hbr
    refine e_seg (k := 3) (d := (76, [(0, .ref 0), (1, .int x1), (3, .int x3), (4, .int x4)], [.int x3, .int x1, .ref 0], M)) rfl ?_
    refine e_call (q := 79) (L0 := [(0, .ref 0), (1, .int x1), (2, .int x3)]) hE rfl rfl rfl rfl (jargs_V rfl rfl rfl rfl rfl (Nat.le_of_ble_eq_true rfl) (Nat.le_of_ble_eq_true rfl) (Nat.le_of_ble_eq_true rfl)) rfl rfl (jEv.mono h (fun o1 M2 h => ?_))
    obtain ⟨r3, rfl, h⟩ := h
    refine ⟨_, rfl, ?_⟩
    show jEv nX7_given (79, [(0, .ref 0), (1, .int x1), (3, .int x3), (4, .int x4)], [.int r3], M2) K
    exact e_ret hE rfl rfl (jb_z rfl h.1) h.2
  · replace h := h.2 hbr
    refine e_seg (k := 6) (d := (63, [(0, .ref 0), (1, .int x1), (3, .int x3), (4, .int x4)], [.int x4, .ref 1, .int x4, .ref 59], M)) rfl ?_
    refine e_call (q := 66) (L0 := [(0, .ref 1), (1, .int x4)]) hE rfl rfl rfl rfl (jargs_V rfl rfl rfl rfl rfl (Nat.le_of_ble_eq_true rfl) (Nat.le_of_ble_eq_true rfl) (Nat.le_of_ble_eq_true rfl)) rfl rfl (jEv.mono h (fun o4 M5 h => ?_))
    obtain ⟨r6, rfl, h⟩ := h
    refine ⟨_, rfl, ?_⟩
    show jEv nX7_given (66, [(0, .ref 0), (1, .int x1), (3, .int x3), (4, .int x4)], [.int r6, .int x4, .ref 59], M5) K
    refine e_iast (q := 67) hE rfl rfl rfl rfl h.1 ?_
    replace h := h.2
    obtain ⟨M7, hM7⟩ : ∃ z : jM, z = jsi M5 59 x4.toNatClampNeg r6 := ⟨_, rfl⟩
    refine jEv_M hM7 ?_
    replace h := h M7 hM7
    refine e_seg (k := 2) (d := (45, [(0, .ref 0), (1, .int x1), (3, .int x3), (4, .int (x4 + 1))], [], M7)) rfl ?_
    refine e_cut (ks := [0, 1, 3, 4]) (L' := [(0, .ref 0), (1, .int x1), (3, .int x3), (4, .int (x4 + 1))]) hE rfl rfl rfl rfl rfl ?_
    exact h
set_option maxRecDepth 100000 in
set_option maxHeartbeats 4000000 in
theorem v_X7_joined_0 {K : jK} {M : jM} {x1 : Int32} {x2 : Int32} {x3 : Int32} (h : (jEv nX7_toldLikenesses (0, [(0, .ref 0), (1, .int x2)], [], M) (fun o1 M2 => (o1 = some (some .null) ∧ (jEv nX7_toldLikenesses (0, [(0, .ref 0), (1, .int x3)], [], M2) (fun o4 M5 => (o4 = some (some .null) ∧ (jEv nX7_isSlot (0, [(0, .int x1)], [], M5) (fun o7 M8 => ∃ r9 : Int32, o7 = some (some (.int r9)) ∧ ((r9 = 0 → K (some (some (.int 0))) M8) ∧ (¬ r9 = 0 → K (some (some (.int 0))) M8))))) ∨ (∃ p6 : Nat, jLi p6 ∧ o4 = some (some (.ref p6)) ∧ (jEv nX7_isSlot (0, [(0, .int x1)], [], M5) (fun o10 M11 => ∃ r12 : Int32, o10 = some (some (.int r12)) ∧ ((r12 = 0 → K (some (some (.int 0))) M11) ∧ (¬ r12 = 0 → K (some (some (.int 0))) M11)))))))) ∨ (∃ p3 : Nat, jLi p3 ∧ o1 = some (some (.ref p3)) ∧ (jEv nX7_toldLikenesses (0, [(0, .ref 0), (1, .int x3)], [], M2) (fun o13 M14 => (o13 = some (some .null) ∧ (jEv nX7_isSlot (0, [(0, .int x1)], [], M14) (fun o16 M17 => ∃ r18 : Int32, o16 = some (some (.int r18)) ∧ ((r18 = 0 → K (some (some (.int 0))) M17) ∧ (¬ r18 = 0 → K (some (some (.int 0))) M17))))) ∨ (∃ p15 : Nat, jLi p15 ∧ o13 = some (some (.ref p15)) ∧ (jEv nX7_isSlot (0, [(0, .int x1)], [], M14) (fun o19 M20 => ∃ r21 : Int32, o19 = some (some (.int r21)) ∧ ((r21 = 0 → K (some (some (.int 0))) M20) ∧ (¬ r21 = 0 → jEv nX7_joined (51, [(0, .ref 0), (1, .int x1), (4, .ref p3), (5, .ref p15), (6, .int (if (M20.1 p15 1) < (M20.1 p3 1) then (M20.1 p15 1) else (M20.1 p3 1))), (7, .int 0)], [], M20) K))))))))))) : jEv nX7_joined (0, [(0, .ref 0), (1, .int x1), (2, .int x2), (3, .int x3)], [], M) K := by
  have hE : jMT nX7_joined = some me_X7_joined := rfl
  refine e_seg (k := 2) (d := (2, [(0, .ref 0), (1, .int x1), (2, .int x2), (3, .int x3)], [.int x2, .ref 0], M)) rfl ?_
  refine e_call (q := 5) (L0 := [(0, .ref 0), (1, .int x2)]) hE rfl rfl rfl rfl (jargs_V rfl rfl rfl rfl rfl (Nat.le_of_ble_eq_true rfl) (Nat.le_of_ble_eq_true rfl) (Nat.le_of_ble_eq_true rfl)) rfl rfl (jEv.mono h (fun o1 M2 h => ?_))
  rcases h with ⟨rfl, h⟩ | ⟨p3, hp3, rfl, h⟩
  · refine ⟨_, rfl, ?_⟩
    show jEv nX7_joined (5, [(0, .ref 0), (1, .int x1), (2, .int x2), (3, .int x3)], [.null], M2) K
    refine e_seg (k := 3) (d := (9, [(0, .ref 0), (1, .int x1), (2, .int x2), (3, .int x3), (4, .null)], [.int x3, .ref 0], M2)) rfl ?_
    refine e_call (q := 12) (L0 := [(0, .ref 0), (1, .int x3)]) hE rfl rfl rfl rfl (jargs_V rfl rfl rfl rfl rfl (Nat.le_of_ble_eq_true rfl) (Nat.le_of_ble_eq_true rfl) (Nat.le_of_ble_eq_true rfl)) rfl rfl (jEv.mono h (fun o4 M5 h => ?_))
    rcases h with ⟨rfl, h⟩ | ⟨p6, hp6, rfl, h⟩
    · refine ⟨_, rfl, ?_⟩
      show jEv nX7_joined (12, [(0, .ref 0), (1, .int x1), (2, .int x2), (3, .int x3), (4, .null)], [.null], M5) K
      refine e_seg (k := 2) (d := (15, [(0, .ref 0), (1, .int x1), (2, .int x2), (3, .int x3), (4, .null), (5, .null)], [.int x1], M5)) rfl ?_
      refine e_call (q := 18) (L0 := [(0, .int x1)]) hE rfl rfl rfl rfl (jargs_S rfl rfl rfl rfl (Nat.le_of_ble_eq_true rfl) (Nat.le_of_ble_eq_true rfl) (Nat.le_of_ble_eq_true rfl)) rfl rfl (jEv.mono h (fun o7 M8 h => ?_))
      obtain ⟨r9, rfl, h⟩ := h
      refine ⟨_, rfl, ?_⟩
      show jEv nX7_joined (18, [(0, .ref 0), (1, .int x1), (2, .int x2), (3, .int x3), (4, .null), (5, .null)], [.int r9], M8) K
      refine e_if_eq (t := 31) (q := 21) hE rfl rfl rfl rfl (fun hbr => ?_) (fun hbr => ?_)
      · replace h := h.1 hbr
        refine e_seg (k := 1) (d := (32, [(0, .ref 0), (1, .int x1), (2, .int x2), (3, .int x3), (4, .null), (5, .null)], [.int 0], M8)) rfl ?_
        exact e_ret hE rfl rfl (jb_z rfl (by decide)) h
      · replace h := h.2 hbr
        refine e_seg (k := 3) (d := (32, [(0, .ref 0), (1, .int x1), (2, .int x2), (3, .int x3), (4, .null), (5, .null)], [.int 0], M8)) rfl ?_
        exact e_ret hE rfl rfl (jb_z rfl (by decide)) h
    · refine ⟨_, rfl, ?_⟩
      show jEv nX7_joined (12, [(0, .ref 0), (1, .int x1), (2, .int x2), (3, .int x3), (4, .null)], [.ref p6], M5) K
      refine e_seg (k := 2) (d := (15, [(0, .ref 0), (1, .int x1), (2, .int x2), (3, .int x3), (4, .null), (5, .ref p6)], [.int x1], M5)) rfl ?_
      refine e_call (q := 18) (L0 := [(0, .int x1)]) hE rfl rfl rfl rfl (jargs_S rfl rfl rfl rfl (Nat.le_of_ble_eq_true rfl) (Nat.le_of_ble_eq_true rfl) (Nat.le_of_ble_eq_true rfl)) rfl rfl (jEv.mono h (fun o10 M11 h => ?_))
      obtain ⟨r12, rfl, h⟩ := h
      refine ⟨_, rfl, ?_⟩
      show jEv nX7_joined (18, [(0, .ref 0), (1, .int x1), (2, .int x2), (3, .int x3), (4, .null), (5, .ref p6)], [.int r12], M11) K
      refine e_if_eq (t := 31) (q := 21) hE rfl rfl rfl rfl (fun hbr => ?_) (fun hbr => ?_)
      · replace h := h.1 hbr
        refine e_seg (k := 1) (d := (32, [(0, .ref 0), (1, .int x1), (2, .int x2), (3, .int x3), (4, .null), (5, .ref p6)], [.int 0], M11)) rfl ?_
        exact e_ret hE rfl rfl (jb_z rfl (by decide)) h
      · replace h := h.2 hbr
        refine e_seg (k := 3) (d := (32, [(0, .ref 0), (1, .int x1), (2, .int x2), (3, .int x3), (4, .null), (5, .ref p6)], [.int 0], M11)) rfl ?_
        exact e_ret hE rfl rfl (jb_z rfl (by decide)) h
  · refine ⟨_, rfl, ?_⟩
    show jEv nX7_joined (5, [(0, .ref 0), (1, .int x1), (2, .int x2), (3, .int x3)], [.ref p3], M2) K
    refine e_seg (k := 3) (d := (9, [(0, .ref 0), (1, .int x1), (2, .int x2), (3, .int x3), (4, .ref p3)], [.int x3, .ref 0], M2)) rfl ?_
    refine e_call (q := 12) (L0 := [(0, .ref 0), (1, .int x3)]) hE rfl rfl rfl rfl (jargs_V rfl rfl rfl rfl rfl (Nat.le_of_ble_eq_true rfl) (Nat.le_of_ble_eq_true rfl) (Nat.le_of_ble_eq_true rfl)) rfl rfl (jEv.mono h (fun o13 M14 h => ?_))
    rcases h with ⟨rfl, h⟩ | ⟨p15, hp15, rfl, h⟩
    · refine ⟨_, rfl, ?_⟩
      show jEv nX7_joined (12, [(0, .ref 0), (1, .int x1), (2, .int x2), (3, .int x3), (4, .ref p3)], [.null], M14) K
      refine e_seg (k := 2) (d := (15, [(0, .ref 0), (1, .int x1), (2, .int x2), (3, .int x3), (4, .ref p3), (5, .null)], [.int x1], M14)) rfl ?_
      refine e_call (q := 18) (L0 := [(0, .int x1)]) hE rfl rfl rfl rfl (jargs_S rfl rfl rfl rfl (Nat.le_of_ble_eq_true rfl) (Nat.le_of_ble_eq_true rfl) (Nat.le_of_ble_eq_true rfl)) rfl rfl (jEv.mono h (fun o16 M17 h => ?_))
      obtain ⟨r18, rfl, h⟩ := h
      refine ⟨_, rfl, ?_⟩
      show jEv nX7_joined (18, [(0, .ref 0), (1, .int x1), (2, .int x2), (3, .int x3), (4, .ref p3), (5, .null)], [.int r18], M17) K
      refine e_if_eq (t := 31) (q := 21) hE rfl rfl rfl rfl (fun hbr => ?_) (fun hbr => ?_)
      · replace h := h.1 hbr
        refine e_seg (k := 1) (d := (32, [(0, .ref 0), (1, .int x1), (2, .int x2), (3, .int x3), (4, .ref p3), (5, .null)], [.int 0], M17)) rfl ?_
        exact e_ret hE rfl rfl (jb_z rfl (by decide)) h
      · replace h := h.2 hbr
        refine e_seg (k := 5) (d := (32, [(0, .ref 0), (1, .int x1), (2, .int x2), (3, .int x3), (4, .ref p3), (5, .null)], [.int 0], M17)) rfl ?_
        exact e_ret hE rfl rfl (jb_z rfl (by decide)) h
    · refine ⟨_, rfl, ?_⟩
      show jEv nX7_joined (12, [(0, .ref 0), (1, .int x1), (2, .int x2), (3, .int x3), (4, .ref p3)], [.ref p15], M14) K
      refine e_seg (k := 2) (d := (15, [(0, .ref 0), (1, .int x1), (2, .int x2), (3, .int x3), (4, .ref p3), (5, .ref p15)], [.int x1], M14)) rfl ?_
      refine e_call (q := 18) (L0 := [(0, .int x1)]) hE rfl rfl rfl rfl (jargs_S rfl rfl rfl rfl (Nat.le_of_ble_eq_true rfl) (Nat.le_of_ble_eq_true rfl) (Nat.le_of_ble_eq_true rfl)) rfl rfl (jEv.mono h (fun o19 M20 h => ?_))
      obtain ⟨r21, rfl, h⟩ := h
      refine ⟨_, rfl, ?_⟩
      show jEv nX7_joined (18, [(0, .ref 0), (1, .int x1), (2, .int x2), (3, .int x3), (4, .ref p3), (5, .ref p15)], [.int r21], M20) K
      refine e_if_eq (t := 31) (q := 21) hE rfl rfl rfl rfl (fun hbr => ?_) (fun hbr => ?_)
      · replace h := h.1 hbr
        refine e_seg (k := 1) (d := (32, [(0, .ref 0), (1, .int x1), (2, .int x2), (3, .int x3), (4, .ref p3), (5, .ref p15)], [.int 0], M20)) rfl ?_
        exact e_ret hE rfl rfl (jb_z rfl (by decide)) h
      · replace h := h.2 hbr
        refine e_seg (k := 5) (d := (35, [(0, .ref 0), (1, .int x1), (2, .int x2), (3, .int x3), (4, .ref p3), (5, .ref p15)], [.ref p3], M20)) rfl ?_
        refine e_get (v := .int (M20.1 p3 1)) (q := 38) hE rfl rfl rfl rfl (jLi_o hp3) rfl rfl ?_
        refine e_seg (k := 1) (d := (40, [(0, .ref 0), (1, .int x1), (2, .int x2), (3, .int x3), (4, .ref p3), (5, .ref p15)], [.ref p15, .int (M20.1 p3 1)], M20)) rfl ?_
        refine e_get (v := .int (M20.1 p15 1)) (q := 43) hE rfl rfl rfl rfl (jLi_o hp15) rfl rfl ?_
        refine e_seg (k := 4) (d := (51, [(0, .ref 0), (1, .int x1), (2, .int x2), (3, .int x3), (4, .ref p3), (5, .ref p15), (6, .int (if (M20.1 p15 1) < (M20.1 p3 1) then (M20.1 p15 1) else (M20.1 p3 1))), (7, .int 0)], [], M20)) rfl ?_
        refine e_cut (ks := [0, 1, 4, 5, 6, 7]) (L' := [(0, .ref 0), (1, .int x1), (4, .ref p3), (5, .ref p15), (6, .int (if (M20.1 p15 1) < (M20.1 p3 1) then (M20.1 p15 1) else (M20.1 p3 1))), (7, .int 0)]) hE rfl rfl rfl rfl rfl ?_
        exact h
set_option maxRecDepth 100000 in
set_option maxHeartbeats 4000000 in
theorem v_X7_joined_51 {K : jK} {M : jM} {x1 : Int32} {x6 : Int32} {x7 : Int32} {a : Nat} (ha : jLi a) {b : Nat} (hb : jLi b) (h : ((x6 ≤ x7 → (jEv nX7_takeDrawn (0, [(0, .ref 0), (1, .int x1), (2, .int x6)], [], M) (fun o1 M2 => ∃ r3 : Int32, o1 = some (some (.int r3)) ∧ ((r3 = 0 ∨ r3 = 1) ∧ K (some (some (.int r3))) M2)))) ∧ (¬ x6 ≤ x7 → (¬ (x7 < 0 ∨ 5 ≤ x7.toNatClampNeg) ∧ (¬ (x7 < 0 ∨ 5 ≤ x7.toNatClampNeg) ∧ (¬ (x7 < 0 ∨ 5 ≤ x7.toNatClampNeg) ∧ (∀ M4 : jM, M4 = jsi M 59 x7.toNatClampNeg ((M.1 (a + 1) x7.toNatClampNeg) + (M.1 (b + 1) x7.toNatClampNeg)) → jEv nX7_joined (51, [(0, .ref 0), (1, .int x1), (4, .ref a), (5, .ref b), (6, .int x6), (7, .int (x7 + 1))], [], M4) K))))))) : jEv nX7_joined (51, [(0, .ref 0), (1, .int x1), (4, .ref a), (5, .ref b), (6, .int x6), (7, .int x7)], [], M) K := by
  have hE : jMT nX7_joined = some me_X7_joined := rfl
  refine e_seg (k := 2) (d := (55, [(0, .ref 0), (1, .int x1), (4, .ref a), (5, .ref b), (6, .int x6), (7, .int x7)], [.int x6, .int x7], M)) rfl ?_
  refine e_ic_ge (t := 88) (q := 58) hE rfl rfl rfl rfl (fun hbr => ?_) (fun hbr => ?_)
  · replace h := h.1 hbr
    refine e_seg (k := 3) (d := (92, [(0, .ref 0), (1, .int x1), (4, .ref a), (5, .ref b), (6, .int x6), (7, .int x7)], [.int x6, .int x1, .ref 0], M)) rfl ?_
    refine e_call (q := 95) (L0 := [(0, .ref 0), (1, .int x1), (2, .int x6)]) hE rfl rfl rfl rfl (jargs_V rfl rfl rfl rfl rfl (Nat.le_of_ble_eq_true rfl) (Nat.le_of_ble_eq_true rfl) (Nat.le_of_ble_eq_true rfl)) rfl rfl (jEv.mono h (fun o1 M2 h => ?_))
    obtain ⟨r3, rfl, h⟩ := h
    refine ⟨_, rfl, ?_⟩
    show jEv nX7_joined (95, [(0, .ref 0), (1, .int x1), (4, .ref a), (5, .ref b), (6, .int x6), (7, .int x7)], [.int r3], M2) K
    exact e_ret hE rfl rfl (jb_z rfl h.1) h.2
  · replace h := h.2 hbr
    refine e_seg (k := 4) (d := (66, [(0, .ref 0), (1, .int x1), (4, .ref a), (5, .ref b), (6, .int x6), (7, .int x7)], [.ref a, .int x7, .ref 59], M)) rfl ?_
    refine e_get (v := .ref (a + 1)) (q := 69) hE rfl rfl rfl rfl (jLi_o ha) rfl rfl ?_
    refine e_seg (k := 1) (d := (71, [(0, .ref 0), (1, .int x1), (4, .ref a), (5, .ref b), (6, .int x6), (7, .int x7)], [.int x7, .ref (a + 1), .int x7, .ref 59], M)) rfl ?_
    refine e_iald (q := 72) hE rfl rfl rfl (jLi_1 ha) h.1 ?_
    replace h := h.2
    refine e_seg (k := 1) (d := (74, [(0, .ref 0), (1, .int x1), (4, .ref a), (5, .ref b), (6, .int x6), (7, .int x7)], [.ref b, .int (M.1 (a + 1) x7.toNatClampNeg), .int x7, .ref 59], M)) rfl ?_
    refine e_get (v := .ref (b + 1)) (q := 77) hE rfl rfl rfl rfl (jLi_o hb) rfl rfl ?_
    refine e_seg (k := 1) (d := (79, [(0, .ref 0), (1, .int x1), (4, .ref a), (5, .ref b), (6, .int x6), (7, .int x7)], [.int x7, .ref (b + 1), .int (M.1 (a + 1) x7.toNatClampNeg), .int x7, .ref 59], M)) rfl ?_
    refine e_iald (q := 80) hE rfl rfl rfl (jLi_1 hb) h.1 ?_
    replace h := h.2
    refine e_seg (k := 1) (d := (81, [(0, .ref 0), (1, .int x1), (4, .ref a), (5, .ref b), (6, .int x6), (7, .int x7)], [.int ((M.1 (a + 1) x7.toNatClampNeg) + (M.1 (b + 1) x7.toNatClampNeg)), .int x7, .ref 59], M)) rfl ?_
    refine e_iast (q := 82) hE rfl rfl rfl rfl h.1 ?_
    replace h := h.2
    obtain ⟨M4, hM4⟩ : ∃ z : jM, z = jsi M 59 x7.toNatClampNeg ((M.1 (a + 1) x7.toNatClampNeg) + (M.1 (b + 1) x7.toNatClampNeg)) := ⟨_, rfl⟩
    refine jEv_M hM4 ?_
    replace h := h M4 hM4
    refine e_seg (k := 2) (d := (51, [(0, .ref 0), (1, .int x1), (4, .ref a), (5, .ref b), (6, .int x6), (7, .int (x7 + 1))], [], M4)) rfl ?_
    refine e_cut (ks := [0, 1, 4, 5, 6, 7]) (L' := [(0, .ref 0), (1, .int x1), (4, .ref a), (5, .ref b), (6, .int x6), (7, .int (x7 + 1))]) hE rfl rfl rfl rfl rfl ?_
    exact h
set_option maxRecDepth 100000 in
set_option maxHeartbeats 4000000 in
theorem v_X7_likeness_0 {K : jK} {M : jM} {x1 : Int32} {x2 : Int32} (h : (jEv nX7_toldLikenesses (0, [(0, .ref 0), (1, .int x1)], [], M) (fun o1 M2 => (o1 = some (some .null) ∧ K none M2) ∨ (∃ p3 : Nat, jLi p3 ∧ o1 = some (some (.ref p3)) ∧ ((x2 < 0 → K none M2) ∧ (¬ x2 < 0 → ((x2 < (M2.1 p3 1) → (¬ (x2 < 0 ∨ 5 ≤ x2.toNatClampNeg) ∧ K (some (some (.int (M2.1 (p3 + 1) x2.toNatClampNeg)))) M2)) ∧ (¬ x2 < (M2.1 p3 1) → K none M2)))))))) : jEv nX7_likeness (0, [(0, .ref 0), (1, .int x1), (2, .int x2)], [], M) K := by
  have hE : jMT nX7_likeness = some me_X7_likeness := rfl
  refine e_seg (k := 2) (d := (2, [(0, .ref 0), (1, .int x1), (2, .int x2)], [.int x1, .ref 0], M)) rfl ?_
  refine e_call (q := 5) (L0 := [(0, .ref 0), (1, .int x1)]) hE rfl rfl rfl rfl (jargs_V rfl rfl rfl rfl rfl (Nat.le_of_ble_eq_true rfl) (Nat.le_of_ble_eq_true rfl) (Nat.le_of_ble_eq_true rfl)) rfl rfl (jEv.mono h (fun o1 M2 h => ?_))
  rcases h with ⟨rfl, h⟩ | ⟨p3, hp3, rfl, h⟩
  · refine ⟨_, rfl, ?_⟩
    show jEv nX7_likeness (5, [(0, .ref 0), (1, .int x1), (2, .int x2)], [.null], M2) K
    refine e_seg (k := 3) (d := (22, [(0, .ref 0), (1, .int x1), (2, .int x2), (3, .null)], [], M2)) rfl ?_
    exact e_new hE rfl rfl h
  · refine ⟨_, rfl, ?_⟩
    show jEv nX7_likeness (5, [(0, .ref 0), (1, .int x1), (2, .int x2)], [.ref p3], M2) K
    refine e_seg (k := 4) (d := (11, [(0, .ref 0), (1, .int x1), (2, .int x2), (3, .ref p3)], [.int x2], M2)) rfl ?_
    refine e_if_lt (t := 22) (q := 14) hE rfl rfl rfl rfl (fun hbr => ?_) (fun hbr => ?_)
    · replace h := h.1 hbr
      exact e_new hE rfl rfl h
    · replace h := h.2 hbr
      refine e_seg (k := 2) (d := (16, [(0, .ref 0), (1, .int x1), (2, .int x2), (3, .ref p3)], [.ref p3, .int x2], M2)) rfl ?_
      refine e_get (v := .int (M2.1 p3 1)) (q := 19) hE rfl rfl rfl rfl (jLi_o hp3) rfl rfl ?_
      refine e_ic_lt (t := 32) (q := 22) hE rfl rfl rfl rfl (fun hbr => ?_) (fun hbr => ?_)
      · replace h := h.1 hbr
        refine e_seg (k := 1) (d := (33, [(0, .ref 0), (1, .int x1), (2, .int x2), (3, .ref p3)], [.ref p3], M2)) rfl ?_
        refine e_get (v := .ref (p3 + 1)) (q := 36) hE rfl rfl rfl rfl (jLi_o hp3) rfl rfl ?_
        refine e_seg (k := 1) (d := (37, [(0, .ref 0), (1, .int x1), (2, .int x2), (3, .ref p3)], [.int x2, .ref (p3 + 1)], M2)) rfl ?_
        refine e_iald (q := 38) hE rfl rfl rfl (jLi_1 hp3) h.1 ?_
        replace h := h.2
        exact e_ret hE rfl rfl (jb_i rfl) h
      · replace h := h.2 hbr
        exact e_new hE rfl rfl h
set_option maxRecDepth 100000 in
set_option maxHeartbeats 4000000 in
theorem v_X7_plainRule_0 {K : jK} {M : jM} {x1 : Int32} (h : (jEv nX7_toldRule (0, [(0, .ref 0), (1, .int x1)], [], M) (fun o1 M2 => (o1 = some (some .null) ∧ K (some (some (.null))) M2) ∨ (∃ p3 : Nat, jRu p3 ∧ o1 = some (some (.ref p3)) ∧ (((M2.1 p3 3) ≤ 0 → K (some (some (.ref p3))) M2) ∧ (¬ (M2.1 p3 3) ≤ 0 → K (some (some (.null))) M2)))))) : jEv nX7_plainRule (0, [(0, .ref 0), (1, .int x1)], [], M) K := by
  have hE : jMT nX7_plainRule = some me_X7_plainRule := rfl
  refine e_seg (k := 2) (d := (2, [(0, .ref 0), (1, .int x1)], [.int x1, .ref 0], M)) rfl ?_
  refine e_call (q := 5) (L0 := [(0, .ref 0), (1, .int x1)]) hE rfl rfl rfl rfl (jargs_V rfl rfl rfl rfl rfl (Nat.le_of_ble_eq_true rfl) (Nat.le_of_ble_eq_true rfl) (Nat.le_of_ble_eq_true rfl)) rfl rfl (jEv.mono h (fun o1 M2 h => ?_))
  rcases h with ⟨rfl, h⟩ | ⟨p3, hp3, rfl, h⟩
  · refine ⟨_, rfl, ?_⟩
    show jEv nX7_plainRule (5, [(0, .ref 0), (1, .int x1)], [.null], M2) K
    refine e_seg (k := 4) (d := (18, [(0, .ref 0), (1, .int x1), (2, .null)], [.null], M2)) rfl ?_
    exact e_ret hE rfl rfl rfl h
  · refine ⟨_, rfl, ?_⟩
    show jEv nX7_plainRule (5, [(0, .ref 0), (1, .int x1)], [.ref p3], M2) K
    refine e_seg (k := 4) (d := (11, [(0, .ref 0), (1, .int x1), (2, .ref p3)], [.ref p3], M2)) rfl ?_
    refine e_get (v := .int (M2.1 p3 3)) (q := 14) hE rfl rfl rfl rfl (jRu_o hp3) rfl rfl ?_
    refine e_if_le (t := 19) (q := 17) hE rfl rfl rfl rfl (fun hbr => ?_) (fun hbr => ?_)
    · replace h := h.1 hbr
      refine e_seg (k := 1) (d := (20, [(0, .ref 0), (1, .int x1), (2, .ref p3)], [.ref p3], M2)) rfl ?_
      exact e_ret hE rfl rfl rfl h
    · replace h := h.2 hbr
      refine e_seg (k := 1) (d := (18, [(0, .ref 0), (1, .int x1), (2, .ref p3)], [.null], M2)) rfl ?_
      exact e_ret hE rfl rfl rfl h
set_option maxRecDepth 100000 in
set_option maxHeartbeats 4000000 in
theorem v_X7_steady_0 {K : jK} {M : jM} {x1 : Int32} (h : (jEv nX7_toldRule (0, [(0, .ref 0), (1, .int x1)], [], M) (fun o1 M2 => (o1 = some (some .null) ∧ K (some (some (.int (-1)))) M2) ∨ (∃ p3 : Nat, jRu p3 ∧ o1 = some (some (.ref p3)) ∧ (jEv nX5_diesAway (0, [(0, .ref p3)], [], M2) (fun o4 M5 => ∃ r6 : Int32, o4 = some (some (.int r6)) ∧ ((r6 = 0 → K (some (some (.int 0))) M5) ∧ (¬ r6 = 0 → K (some (some (.int 1))) M5)))))))) : jEv nX7_steady (0, [(0, .ref 0), (1, .int x1)], [], M) K := by
  have hE : jMT nX7_steady = some me_X7_steady := rfl
  refine e_seg (k := 2) (d := (2, [(0, .ref 0), (1, .int x1)], [.int x1, .ref 0], M)) rfl ?_
  refine e_call (q := 5) (L0 := [(0, .ref 0), (1, .int x1)]) hE rfl rfl rfl rfl (jargs_V rfl rfl rfl rfl rfl (Nat.le_of_ble_eq_true rfl) (Nat.le_of_ble_eq_true rfl) (Nat.le_of_ble_eq_true rfl)) rfl rfl (jEv.mono h (fun o1 M2 h => ?_))
  rcases h with ⟨rfl, h⟩ | ⟨p3, hp3, rfl, h⟩
  · refine ⟨_, rfl, ?_⟩
    show jEv nX7_steady (5, [(0, .ref 0), (1, .int x1)], [.null], M2) K
    refine e_seg (k := 4) (d := (11, [(0, .ref 0), (1, .int x1), (2, .null)], [.int (-1)], M2)) rfl ?_
    exact e_ret hE rfl rfl (jb_i rfl) h
  · refine ⟨_, rfl, ?_⟩
    show jEv nX7_steady (5, [(0, .ref 0), (1, .int x1)], [.ref p3], M2) K
    refine e_seg (k := 4) (d := (13, [(0, .ref 0), (1, .int x1), (2, .ref p3)], [.ref p3], M2)) rfl ?_
    refine e_call (q := 16) (L0 := [(0, .ref p3)]) hE rfl rfl rfl rfl (jargs_V (jRu_o hp3) rfl rfl rfl rfl (Nat.le_of_ble_eq_true rfl) (Nat.le_of_ble_eq_true rfl) (Nat.le_of_ble_eq_true rfl)) rfl rfl (jEv.mono h (fun o4 M5 h => ?_))
    obtain ⟨r6, rfl, h⟩ := h
    refine ⟨_, rfl, ?_⟩
    show jEv nX7_steady (16, [(0, .ref 0), (1, .int x1), (2, .ref p3)], [.int r6], M5) K
    refine e_if_eq (t := 23) (q := 19) hE rfl rfl rfl rfl (fun hbr => ?_) (fun hbr => ?_)
    · replace h := h.1 hbr
      refine e_seg (k := 1) (d := (24, [(0, .ref 0), (1, .int x1), (2, .ref p3)], [.int 0], M5)) rfl ?_
      exact e_ret hE rfl rfl (jb_i rfl) h
    · replace h := h.2 hbr
      refine e_seg (k := 2) (d := (24, [(0, .ref 0), (1, .int x1), (2, .ref p3)], [.int 1], M5)) rfl ?_
      exact e_ret hE rfl rfl (jb_i rfl) h
set_option maxRecDepth 100000 in
set_option maxHeartbeats 4000000 in
theorem v_X7_thin_0 {K : jK} {M : jM} {x1 : Int32} {x2 : Int32} (h : (jEv nX7_toldLikenesses (0, [(0, .ref 0), (1, .int x2)], [], M) (fun o1 M2 => (o1 = some (some .null) ∧ (jEv nX7_isSlot (0, [(0, .int x1)], [], M2) (fun o4 M5 => ∃ r6 : Int32, o4 = some (some (.int r6)) ∧ ((r6 = 0 → K (some (some (.int 0))) M5) ∧ (¬ r6 = 0 → K (some (some (.int 0))) M5))))) ∨ (∃ p3 : Nat, jLi p3 ∧ o1 = some (some (.ref p3)) ∧ (jEv nX7_isSlot (0, [(0, .int x1)], [], M2) (fun o7 M8 => ∃ r9 : Int32, o7 = some (some (.int r9)) ∧ ((r9 = 0 → K (some (some (.int 0))) M8) ∧ (¬ r9 = 0 → jEv nX7_thin (32, [(0, .ref 0), (1, .int x1), (3, .ref p3), (4, .int (((M8.1 p3 1) + 1) / 2)), (5, .int 0)], [], M8) K)))))))) : jEv nX7_thin (0, [(0, .ref 0), (1, .int x1), (2, .int x2)], [], M) K := by
  have hE : jMT nX7_thin = some me_X7_thin := rfl
  refine e_seg (k := 2) (d := (2, [(0, .ref 0), (1, .int x1), (2, .int x2)], [.int x2, .ref 0], M)) rfl ?_
  refine e_call (q := 5) (L0 := [(0, .ref 0), (1, .int x2)]) hE rfl rfl rfl rfl (jargs_V rfl rfl rfl rfl rfl (Nat.le_of_ble_eq_true rfl) (Nat.le_of_ble_eq_true rfl) (Nat.le_of_ble_eq_true rfl)) rfl rfl (jEv.mono h (fun o1 M2 h => ?_))
  rcases h with ⟨rfl, h⟩ | ⟨p3, hp3, rfl, h⟩
  · refine ⟨_, rfl, ?_⟩
    show jEv nX7_thin (5, [(0, .ref 0), (1, .int x1), (2, .int x2)], [.null], M2) K
    refine e_seg (k := 2) (d := (7, [(0, .ref 0), (1, .int x1), (2, .int x2), (3, .null)], [.int x1], M2)) rfl ?_
    refine e_call (q := 10) (L0 := [(0, .int x1)]) hE rfl rfl rfl rfl (jargs_S rfl rfl rfl rfl (Nat.le_of_ble_eq_true rfl) (Nat.le_of_ble_eq_true rfl) (Nat.le_of_ble_eq_true rfl)) rfl rfl (jEv.mono h (fun o4 M5 h => ?_))
    obtain ⟨r6, rfl, h⟩ := h
    refine ⟨_, rfl, ?_⟩
    show jEv nX7_thin (10, [(0, .ref 0), (1, .int x1), (2, .int x2), (3, .null)], [.int r6], M5) K
    refine e_if_eq (t := 17) (q := 13) hE rfl rfl rfl rfl (fun hbr => ?_) (fun hbr => ?_)
    · replace h := h.1 hbr
      refine e_seg (k := 1) (d := (18, [(0, .ref 0), (1, .int x1), (2, .int x2), (3, .null)], [.int 0], M5)) rfl ?_
      exact e_ret hE rfl rfl (jb_z rfl (by decide)) h
    · replace h := h.2 hbr
      refine e_seg (k := 3) (d := (18, [(0, .ref 0), (1, .int x1), (2, .int x2), (3, .null)], [.int 0], M5)) rfl ?_
      exact e_ret hE rfl rfl (jb_z rfl (by decide)) h
  · refine ⟨_, rfl, ?_⟩
    show jEv nX7_thin (5, [(0, .ref 0), (1, .int x1), (2, .int x2)], [.ref p3], M2) K
    refine e_seg (k := 2) (d := (7, [(0, .ref 0), (1, .int x1), (2, .int x2), (3, .ref p3)], [.int x1], M2)) rfl ?_
    refine e_call (q := 10) (L0 := [(0, .int x1)]) hE rfl rfl rfl rfl (jargs_S rfl rfl rfl rfl (Nat.le_of_ble_eq_true rfl) (Nat.le_of_ble_eq_true rfl) (Nat.le_of_ble_eq_true rfl)) rfl rfl (jEv.mono h (fun o7 M8 h => ?_))
    obtain ⟨r9, rfl, h⟩ := h
    refine ⟨_, rfl, ?_⟩
    show jEv nX7_thin (10, [(0, .ref 0), (1, .int x1), (2, .int x2), (3, .ref p3)], [.int r9], M8) K
    refine e_if_eq (t := 17) (q := 13) hE rfl rfl rfl rfl (fun hbr => ?_) (fun hbr => ?_)
    · replace h := h.1 hbr
      refine e_seg (k := 1) (d := (18, [(0, .ref 0), (1, .int x1), (2, .int x2), (3, .ref p3)], [.int 0], M8)) rfl ?_
      exact e_ret hE rfl rfl (jb_z rfl (by decide)) h
    · replace h := h.2 hbr
      refine e_seg (k := 3) (d := (20, [(0, .ref 0), (1, .int x1), (2, .int x2), (3, .ref p3)], [.ref p3], M8)) rfl ?_
      refine e_get (v := .int (M8.1 p3 1)) (q := 23) hE rfl rfl rfl rfl (jLi_o hp3) rfl rfl ?_
      refine e_seg (k := 3) (d := (26, [(0, .ref 0), (1, .int x1), (2, .int x2), (3, .ref p3)], [.int 2, .int ((M8.1 p3 1) + 1)], M8)) rfl ?_
      refine e_idiv (q := 27) hE rfl rfl rfl (by decide) ?_
      refine e_seg (k := 3) (d := (32, [(0, .ref 0), (1, .int x1), (2, .int x2), (3, .ref p3), (4, .int (((M8.1 p3 1) + 1) / 2)), (5, .int 0)], [], M8)) rfl ?_
      refine e_cut (ks := [0, 1, 3, 4, 5]) (L' := [(0, .ref 0), (1, .int x1), (3, .ref p3), (4, .int (((M8.1 p3 1) + 1) / 2)), (5, .int 0)]) hE rfl rfl rfl rfl rfl ?_
      exact h
set_option maxRecDepth 100000 in
set_option maxHeartbeats 4000000 in
theorem v_X7_thin_32 {K : jK} {M : jM} {x1 : Int32} {x4 : Int32} {x5 : Int32} {a : Nat} (ha : jLi a) (h : ((x4 ≤ x5 → (jEv nX7_takeDrawn (0, [(0, .ref 0), (1, .int x1), (2, .int x4)], [], M) (fun o1 M2 => ∃ r3 : Int32, o1 = some (some (.int r3)) ∧ ((r3 = 0 ∨ r3 = 1) ∧ K (some (some (.int r3))) M2)))) ∧ (¬ x4 ≤ x5 → (¬ (2 * x5 < 0 ∨ 5 ≤ (2 * x5).toNatClampNeg) ∧ (¬ (x5 < 0 ∨ 5 ≤ x5.toNatClampNeg) ∧ (∀ M4 : jM, M4 = jsi M 59 x5.toNatClampNeg (M.1 (a + 1) (2 * x5).toNatClampNeg) → jEv nX7_thin (32, [(0, .ref 0), (1, .int x1), (3, .ref a), (4, .int x4), (5, .int (x5 + 1))], [], M4) K)))))) : jEv nX7_thin (32, [(0, .ref 0), (1, .int x1), (3, .ref a), (4, .int x4), (5, .int x5)], [], M) K := by
  have hE : jMT nX7_thin = some me_X7_thin := rfl
  refine e_seg (k := 2) (d := (36, [(0, .ref 0), (1, .int x1), (3, .ref a), (4, .int x4), (5, .int x5)], [.int x4, .int x5], M)) rfl ?_
  refine e_ic_ge (t := 61) (q := 39) hE rfl rfl rfl rfl (fun hbr => ?_) (fun hbr => ?_)
  · replace h := h.1 hbr
    refine e_seg (k := 3) (d := (65, [(0, .ref 0), (1, .int x1), (3, .ref a), (4, .int x4), (5, .int x5)], [.int x4, .int x1, .ref 0], M)) rfl ?_
    refine e_call (q := 68) (L0 := [(0, .ref 0), (1, .int x1), (2, .int x4)]) hE rfl rfl rfl rfl (jargs_V rfl rfl rfl rfl rfl (Nat.le_of_ble_eq_true rfl) (Nat.le_of_ble_eq_true rfl) (Nat.le_of_ble_eq_true rfl)) rfl rfl (jEv.mono h (fun o1 M2 h => ?_))
    obtain ⟨r3, rfl, h⟩ := h
    refine ⟨_, rfl, ?_⟩
    show jEv nX7_thin (68, [(0, .ref 0), (1, .int x1), (3, .ref a), (4, .int x4), (5, .int x5)], [.int r3], M2) K
    exact e_ret hE rfl rfl (jb_z rfl h.1) h.2
  · replace h := h.2 hbr
    refine e_seg (k := 4) (d := (46, [(0, .ref 0), (1, .int x1), (3, .ref a), (4, .int x4), (5, .int x5)], [.ref a, .int x5, .ref 59], M)) rfl ?_
    refine e_get (v := .ref (a + 1)) (q := 49) hE rfl rfl rfl rfl (jLi_o ha) rfl rfl ?_
    refine e_seg (k := 3) (d := (53, [(0, .ref 0), (1, .int x1), (3, .ref a), (4, .int x4), (5, .int x5)], [.int (2 * x5), .ref (a + 1), .int x5, .ref 59], M)) rfl ?_
    refine e_iald (q := 54) hE rfl rfl rfl (jLi_1 ha) h.1 ?_
    replace h := h.2
    refine e_iast (q := 55) hE rfl rfl rfl rfl h.1 ?_
    replace h := h.2
    obtain ⟨M4, hM4⟩ : ∃ z : jM, z = jsi M 59 x5.toNatClampNeg (M.1 (a + 1) (2 * x5).toNatClampNeg) := ⟨_, rfl⟩
    refine jEv_M hM4 ?_
    replace h := h M4 hM4
    refine e_seg (k := 2) (d := (32, [(0, .ref 0), (1, .int x1), (3, .ref a), (4, .int x4), (5, .int (x5 + 1))], [], M4)) rfl ?_
    refine e_cut (ks := [0, 1, 3, 4, 5]) (L' := [(0, .ref 0), (1, .int x1), (3, .ref a), (4, .int x4), (5, .int (x5 + 1))]) hE rfl rfl rfl rfl rfl ?_
    exact h
set_option maxRecDepth 100000 in
set_option maxHeartbeats 4000000 in
theorem v_X7_weight_0 {K : jK} {M : jM} {x1 : Int32} {x2 : Int32} {x3 : Int32} {x4 : Int32} (h : (jEv nX7_toldRule (0, [(0, .ref 0), (1, .int x1)], [], M) (fun o1 M2 => (o1 = some (some .null) ∧ K none M2) ∨ (∃ p3 : Nat, jRu p3 ∧ o1 = some (some (.ref p3)) ∧ (jEv nX7_isWithin (0, [(0, .int x2), (1, .int 0), (2, .int 8)], [], M2) (fun o4 M5 => ∃ r6 : Int32, o4 = some (some (.int r6)) ∧ ((r6 = 0 → K none M5) ∧ (¬ r6 = 0 → (jEv nX7_isPart (0, [(0, .int x4)], [], M5) (fun o7 M8 => ∃ r9 : Int32, o7 = some (some (.int r9)) ∧ ((r9 = 0 → K none M8) ∧ (¬ r9 = 0 → (jEv nX5_weigh (0, [(0, .ref p3), (1, .int x3), (2, .ref 57)], [], M8) (fun o10 M11 => o10 = some none ∧ (¬ (x2 < 0 ∨ 9 ≤ x2.toNatClampNeg) ∧ (jEv nX7_power (0, [(0, .long ((M11.1 p3 1).toInt64)), (2, .int x2)], [], M11) (fun o12 M13 => ∃ r14 : Int64, o12 = some (some (.long r14)) ∧ (jEv nX1_set (0, [(0, .ref 60), (1, .long (M11.2 57 x2.toNatClampNeg)), (3, .long r14)], [], M13) (fun o15 M16 => o15 = some none ∧ (jEv nX1_part (0, [(0, .ref 60), (1, .int x4)], [], M16) (fun o17 M18 => ∃ r19 : Int64, o17 = some (some (.long r19)) ∧ K (some (some (.long r19))) M18))))))))))))))))))))) : jEv nX7_weight (0, [(0, .ref 0), (1, .int x1), (2, .int x2), (3, .int x3), (4, .int x4)], [], M) K := by
  have hE : jMT nX7_weight = some me_X7_weight := rfl
  refine e_seg (k := 2) (d := (2, [(0, .ref 0), (1, .int x1), (2, .int x2), (3, .int x3), (4, .int x4)], [.int x1, .ref 0], M)) rfl ?_
  refine e_call (q := 5) (L0 := [(0, .ref 0), (1, .int x1)]) hE rfl rfl rfl rfl (jargs_V rfl rfl rfl rfl rfl (Nat.le_of_ble_eq_true rfl) (Nat.le_of_ble_eq_true rfl) (Nat.le_of_ble_eq_true rfl)) rfl rfl (jEv.mono h (fun o1 M2 h => ?_))
  rcases h with ⟨rfl, h⟩ | ⟨p3, hp3, rfl, h⟩
  · refine ⟨_, rfl, ?_⟩
    show jEv nX7_weight (5, [(0, .ref 0), (1, .int x1), (2, .int x2), (3, .int x3), (4, .int x4)], [.null], M2) K
    refine e_seg (k := 3) (d := (30, [(0, .ref 0), (1, .int x1), (2, .int x2), (3, .int x3), (4, .int x4), (5, .null)], [], M2)) rfl ?_
    exact e_new hE rfl rfl h
  · refine ⟨_, rfl, ?_⟩
    show jEv nX7_weight (5, [(0, .ref 0), (1, .int x1), (2, .int x2), (3, .int x3), (4, .int x4)], [.ref p3], M2) K
    refine e_seg (k := 6) (d := (16, [(0, .ref 0), (1, .int x1), (2, .int x2), (3, .int x3), (4, .int x4), (5, .ref p3)], [.int 8, .int 0, .int x2], M2)) rfl ?_
    refine e_call (q := 19) (L0 := [(0, .int x2), (1, .int 0), (2, .int 8)]) hE rfl rfl rfl rfl (jargs_S rfl rfl rfl rfl (Nat.le_of_ble_eq_true rfl) (Nat.le_of_ble_eq_true rfl) (Nat.le_of_ble_eq_true rfl)) rfl rfl (jEv.mono h (fun o4 M5 h => ?_))
    obtain ⟨r6, rfl, h⟩ := h
    refine ⟨_, rfl, ?_⟩
    show jEv nX7_weight (19, [(0, .ref 0), (1, .int x1), (2, .int x2), (3, .int x3), (4, .int x4), (5, .ref p3)], [.int r6], M5) K
    refine e_if_eq (t := 30) (q := 22) hE rfl rfl rfl rfl (fun hbr => ?_) (fun hbr => ?_)
    · replace h := h.1 hbr
      exact e_new hE rfl rfl h
    · replace h := h.2 hbr
      refine e_seg (k := 1) (d := (24, [(0, .ref 0), (1, .int x1), (2, .int x2), (3, .int x3), (4, .int x4), (5, .ref p3)], [.int x4], M5)) rfl ?_
      refine e_call (q := 27) (L0 := [(0, .int x4)]) hE rfl rfl rfl rfl (jargs_S rfl rfl rfl rfl (Nat.le_of_ble_eq_true rfl) (Nat.le_of_ble_eq_true rfl) (Nat.le_of_ble_eq_true rfl)) rfl rfl (jEv.mono h (fun o7 M8 h => ?_))
      obtain ⟨r9, rfl, h⟩ := h
      refine ⟨_, rfl, ?_⟩
      show jEv nX7_weight (27, [(0, .ref 0), (1, .int x1), (2, .int x2), (3, .int x3), (4, .int x4), (5, .ref p3)], [.int r9], M8) K
      refine e_if_ne (t := 40) (q := 30) hE rfl rfl rfl rfl (fun hbr => ?_) (fun hbr => ?_)
      · replace h := h.2 hbr
        refine e_seg (k := 4) (d := (47, [(0, .ref 0), (1, .int x1), (2, .int x2), (3, .int x3), (4, .int x4), (5, .ref p3)], [.ref 57, .int x3, .ref p3], M8)) rfl ?_
        refine e_call (q := 50) (L0 := [(0, .ref p3), (1, .int x3), (2, .ref 57)]) hE rfl rfl rfl rfl (jargs_V (jRu_o hp3) rfl rfl rfl rfl (Nat.le_of_ble_eq_true rfl) (Nat.le_of_ble_eq_true rfl) (Nat.le_of_ble_eq_true rfl)) rfl rfl (jEv.mono h (fun o10 M11 h => ?_))
        obtain ⟨rfl, h⟩ := h
        refine ⟨_, rfl, ?_⟩
        show jEv nX7_weight (50, [(0, .ref 0), (1, .int x1), (2, .int x2), (3, .int x3), (4, .int x4), (5, .ref p3)], [], M11) K
        refine e_seg (k := 5) (d := (59, [(0, .ref 0), (1, .int x1), (2, .int x2), (3, .int x3), (4, .int x4), (5, .ref p3)], [.int x2, .ref 57, .ref 60], M11)) rfl ?_
        refine e_lald (q := 60) hE rfl rfl rfl rfl h.1 ?_
        replace h := h.2
        refine e_seg (k := 1) (d := (62, [(0, .ref 0), (1, .int x1), (2, .int x2), (3, .int x3), (4, .int x4), (5, .ref p3)], [.ref p3, .long (M11.2 57 x2.toNatClampNeg), .ref 60], M11)) rfl ?_
        refine e_get (v := .int (M11.1 p3 1)) (q := 65) hE rfl rfl rfl rfl (jRu_o hp3) rfl rfl ?_
        refine e_seg (k := 2) (d := (67, [(0, .ref 0), (1, .int x1), (2, .int x2), (3, .int x3), (4, .int x4), (5, .ref p3)], [.int x2, .long ((M11.1 p3 1).toInt64), .long (M11.2 57 x2.toNatClampNeg), .ref 60], M11)) rfl ?_
        refine e_call (q := 70) (L0 := [(0, .long ((M11.1 p3 1).toInt64)), (2, .int x2)]) hE rfl rfl rfl rfl (jargs_S rfl rfl rfl rfl (Nat.le_of_ble_eq_true rfl) (Nat.le_of_ble_eq_true rfl) (Nat.le_of_ble_eq_true rfl)) rfl rfl (jEv.mono h (fun o12 M13 h => ?_))
        obtain ⟨r14, rfl, h⟩ := h
        refine ⟨_, rfl, ?_⟩
        show jEv nX7_weight (70, [(0, .ref 0), (1, .int x1), (2, .int x2), (3, .int x3), (4, .int x4), (5, .ref p3)], [.long r14, .long (M11.2 57 x2.toNatClampNeg), .ref 60], M13) K
        refine e_call (q := 73) (L0 := [(0, .ref 60), (1, .long (M11.2 57 x2.toNatClampNeg)), (3, .long r14)]) hE rfl rfl rfl rfl (jargs_V rfl rfl rfl rfl rfl (Nat.le_of_ble_eq_true rfl) (Nat.le_of_ble_eq_true rfl) (Nat.le_of_ble_eq_true rfl)) rfl rfl (jEv.mono h (fun o15 M16 h => ?_))
        obtain ⟨rfl, h⟩ := h
        refine ⟨_, rfl, ?_⟩
        show jEv nX7_weight (73, [(0, .ref 0), (1, .int x1), (2, .int x2), (3, .int x3), (4, .int x4), (5, .ref p3)], [], M16) K
        refine e_seg (k := 3) (d := (79, [(0, .ref 0), (1, .int x1), (2, .int x2), (3, .int x3), (4, .int x4), (5, .ref p3)], [.int x4, .ref 60], M16)) rfl ?_
        refine e_call (q := 82) (L0 := [(0, .ref 60), (1, .int x4)]) hE rfl rfl rfl rfl (jargs_V rfl rfl rfl rfl rfl (Nat.le_of_ble_eq_true rfl) (Nat.le_of_ble_eq_true rfl) (Nat.le_of_ble_eq_true rfl)) rfl rfl (jEv.mono h (fun o17 M18 h => ?_))
        obtain ⟨r19, rfl, h⟩ := h
        refine ⟨_, rfl, ?_⟩
        show jEv nX7_weight (82, [(0, .ref 0), (1, .int x1), (2, .int x2), (3, .int x3), (4, .int x4), (5, .ref p3)], [.long r19], M18) K
        exact e_ret hE rfl rfl (jb_l rfl) h
      · replace h := h.1 hbr
        exact e_new hE rfl rfl h
set_option maxRecDepth 100000 in
set_option maxHeartbeats 4000000 in
theorem v_X7_like_0 {K : jK} {M : jM} {x1 : Int32} {x2 : Int32} {x3 : Int32} (h : (jEv nX7_toldRule (0, [(0, .ref 0), (1, .int x1)], [], M) (fun o1 M2 => (o1 = some (some .null) ∧ K none M2) ∨ (∃ p3 : Nat, jRu p3 ∧ o1 = some (some (.ref p3)) ∧ (jEv nX5_diesAway (0, [(0, .ref p3)], [], M2) (fun o4 M5 => ∃ r6 : Int32, o4 = some (some (.int r6)) ∧ ((r6 = 0 → K none M5) ∧ (¬ r6 = 0 → (jEv nX7_isWithin (0, [(0, .int x2), (1, .int 0), (2, .int 8)], [], M5) (fun o7 M8 => ∃ r9 : Int32, o7 = some (some (.int r9)) ∧ ((r9 = 0 → K none M8) ∧ (¬ r9 = 0 → (jEv nX7_isPart (0, [(0, .int x3)], [], M8) (fun o10 M11 => ∃ r12 : Int32, o10 = some (some (.int r12)) ∧ ((r12 = 0 → K none M11) ∧ (¬ r12 = 0 → (jEv nX2_find (0, [(0, .ref 53), (1, .ref p3), (2, .ref 44), (3, .ref 57)], [], M11) (fun o13 M14 => o13 = some none ∧ (¬ (x2 < 0 ∨ 9 ≤ x2.toNatClampNeg) ∧ (jEv nX1_set (0, [(0, .ref 60), (1, .long (M14.2 54 x2.toNatClampNeg)), (3, .long (M14.2 53 1))], [], M14) (fun o15 M16 => o15 = some none ∧ (jEv nX1_part (0, [(0, .ref 60), (1, .int x3)], [], M16) (fun o17 M18 => ∃ r19 : Int64, o17 = some (some (.long r19)) ∧ K (some (some (.long r19))) M18))))))))))))))))))))))) : jEv nX7_like (0, [(0, .ref 0), (1, .int x1), (2, .int x2), (3, .int x3)], [], M) K := by
  have hE : jMT nX7_like = some me_X7_like := rfl
  refine e_seg (k := 2) (d := (2, [(0, .ref 0), (1, .int x1), (2, .int x2), (3, .int x3)], [.int x1, .ref 0], M)) rfl ?_
  refine e_call (q := 5) (L0 := [(0, .ref 0), (1, .int x1)]) hE rfl rfl rfl rfl (jargs_V rfl rfl rfl rfl rfl (Nat.le_of_ble_eq_true rfl) (Nat.le_of_ble_eq_true rfl) (Nat.le_of_ble_eq_true rfl)) rfl rfl (jEv.mono h (fun o1 M2 h => ?_))
  rcases h with ⟨rfl, h⟩ | ⟨p3, hp3, rfl, h⟩
  · refine ⟨_, rfl, ?_⟩
    show jEv nX7_like (5, [(0, .ref 0), (1, .int x1), (2, .int x2), (3, .int x3)], [.null], M2) K
    refine e_seg (k := 3) (d := (37, [(0, .ref 0), (1, .int x1), (2, .int x2), (3, .int x3), (4, .null)], [], M2)) rfl ?_
    exact e_new hE rfl rfl h
  · refine ⟨_, rfl, ?_⟩
    show jEv nX7_like (5, [(0, .ref 0), (1, .int x1), (2, .int x2), (3, .int x3)], [.ref p3], M2) K
    refine e_seg (k := 4) (d := (14, [(0, .ref 0), (1, .int x1), (2, .int x2), (3, .int x3), (4, .ref p3)], [.ref p3], M2)) rfl ?_
    refine e_call (q := 17) (L0 := [(0, .ref p3)]) hE rfl rfl rfl rfl (jargs_V (jRu_o hp3) rfl rfl rfl rfl (Nat.le_of_ble_eq_true rfl) (Nat.le_of_ble_eq_true rfl) (Nat.le_of_ble_eq_true rfl)) rfl rfl (jEv.mono h (fun o4 M5 h => ?_))
    obtain ⟨r6, rfl, h⟩ := h
    refine ⟨_, rfl, ?_⟩
    show jEv nX7_like (17, [(0, .ref 0), (1, .int x1), (2, .int x2), (3, .int x3), (4, .ref p3)], [.int r6], M5) K
    refine e_if_eq (t := 37) (q := 20) hE rfl rfl rfl rfl (fun hbr => ?_) (fun hbr => ?_)
    · replace h := h.1 hbr
      exact e_new hE rfl rfl h
    · replace h := h.2 hbr
      refine e_seg (k := 3) (d := (24, [(0, .ref 0), (1, .int x1), (2, .int x2), (3, .int x3), (4, .ref p3)], [.int 8, .int 0, .int x2], M5)) rfl ?_
      refine e_call (q := 27) (L0 := [(0, .int x2), (1, .int 0), (2, .int 8)]) hE rfl rfl rfl rfl (jargs_S rfl rfl rfl rfl (Nat.le_of_ble_eq_true rfl) (Nat.le_of_ble_eq_true rfl) (Nat.le_of_ble_eq_true rfl)) rfl rfl (jEv.mono h (fun o7 M8 h => ?_))
      obtain ⟨r9, rfl, h⟩ := h
      refine ⟨_, rfl, ?_⟩
      show jEv nX7_like (27, [(0, .ref 0), (1, .int x1), (2, .int x2), (3, .int x3), (4, .ref p3)], [.int r9], M8) K
      refine e_if_eq (t := 37) (q := 30) hE rfl rfl rfl rfl (fun hbr => ?_) (fun hbr => ?_)
      · replace h := h.1 hbr
        exact e_new hE rfl rfl h
      · replace h := h.2 hbr
        refine e_seg (k := 1) (d := (31, [(0, .ref 0), (1, .int x1), (2, .int x2), (3, .int x3), (4, .ref p3)], [.int x3], M8)) rfl ?_
        refine e_call (q := 34) (L0 := [(0, .int x3)]) hE rfl rfl rfl rfl (jargs_S rfl rfl rfl rfl (Nat.le_of_ble_eq_true rfl) (Nat.le_of_ble_eq_true rfl) (Nat.le_of_ble_eq_true rfl)) rfl rfl (jEv.mono h (fun o10 M11 h => ?_))
        obtain ⟨r12, rfl, h⟩ := h
        refine ⟨_, rfl, ?_⟩
        show jEv nX7_like (34, [(0, .ref 0), (1, .int x1), (2, .int x2), (3, .int x3), (4, .ref p3)], [.int r12], M11) K
        refine e_if_ne (t := 47) (q := 37) hE rfl rfl rfl rfl (fun hbr => ?_) (fun hbr => ?_)
        · replace h := h.2 hbr
          refine e_seg (k := 7) (d := (61, [(0, .ref 0), (1, .int x1), (2, .int x2), (3, .int x3), (4, .ref p3)], [.ref 57, .ref 44, .ref p3, .ref 53], M11)) rfl ?_
          refine e_call (q := 64) (L0 := [(0, .ref 53), (1, .ref p3), (2, .ref 44), (3, .ref 57)]) hE rfl rfl rfl rfl (jargs_V rfl rfl rfl rfl rfl (Nat.le_of_ble_eq_true rfl) (Nat.le_of_ble_eq_true rfl) (Nat.le_of_ble_eq_true rfl)) rfl rfl (jEv.mono h (fun o13 M14 h => ?_))
          obtain ⟨rfl, h⟩ := h
          refine ⟨_, rfl, ?_⟩
          show jEv nX7_like (64, [(0, .ref 0), (1, .int x1), (2, .int x2), (3, .int x3), (4, .ref p3)], [], M14) K
          refine e_seg (k := 6) (d := (76, [(0, .ref 0), (1, .int x1), (2, .int x2), (3, .int x3), (4, .ref p3)], [.int x2, .ref 54, .ref 60], M14)) rfl ?_
          refine e_lald (q := 77) hE rfl rfl rfl rfl h.1 ?_
          replace h := h.2
          refine e_seg (k := 3) (d := (84, [(0, .ref 0), (1, .int x1), (2, .int x2), (3, .int x3), (4, .ref p3)], [.long (M14.2 53 1), .long (M14.2 54 x2.toNatClampNeg), .ref 60], M14)) rfl ?_
          refine e_call (q := 87) (L0 := [(0, .ref 60), (1, .long (M14.2 54 x2.toNatClampNeg)), (3, .long (M14.2 53 1))]) hE rfl rfl rfl rfl (jargs_V rfl rfl rfl rfl rfl (Nat.le_of_ble_eq_true rfl) (Nat.le_of_ble_eq_true rfl) (Nat.le_of_ble_eq_true rfl)) rfl rfl (jEv.mono h (fun o15 M16 h => ?_))
          obtain ⟨rfl, h⟩ := h
          refine ⟨_, rfl, ?_⟩
          show jEv nX7_like (87, [(0, .ref 0), (1, .int x1), (2, .int x2), (3, .int x3), (4, .ref p3)], [], M16) K
          refine e_seg (k := 3) (d := (92, [(0, .ref 0), (1, .int x1), (2, .int x2), (3, .int x3), (4, .ref p3)], [.int x3, .ref 60], M16)) rfl ?_
          refine e_call (q := 95) (L0 := [(0, .ref 60), (1, .int x3)]) hE rfl rfl rfl rfl (jargs_V rfl rfl rfl rfl rfl (Nat.le_of_ble_eq_true rfl) (Nat.le_of_ble_eq_true rfl) (Nat.le_of_ble_eq_true rfl)) rfl rfl (jEv.mono h (fun o17 M18 h => ?_))
          obtain ⟨r19, rfl, h⟩ := h
          refine ⟨_, rfl, ?_⟩
          show jEv nX7_like (95, [(0, .ref 0), (1, .int x1), (2, .int x2), (3, .int x3), (4, .ref p3)], [.long r19], M18) K
          exact e_ret hE rfl rfl (jb_l rfl) h
        · replace h := h.1 hbr
          exact e_new hE rfl rfl h
set_option maxRecDepth 100000 in
set_option maxHeartbeats 4000000 in
theorem v_X7_next_0 {K : jK} {M : jM} {x1 : Int32} {x2 : Int32} {x3 : Int32} (h : (jEv nX7_plainRule (0, [(0, .ref 0), (1, .int x1)], [], M) (fun o1 M2 => (o1 = some (some .null) ∧ K none M2) ∨ (∃ p3 : Nat, jRu p3 ∧ o1 = some (some (.ref p3)) ∧ (jEv nX7_isWithin (0, [(0, .int x2), (1, .int 1), (2, .int 5)], [], M2) (fun o4 M5 => ∃ r6 : Int32, o4 = some (some (.int r6)) ∧ ((r6 = 0 → K none M5) ∧ (¬ r6 = 0 → (jEv nX7_isPart (0, [(0, .int x3)], [], M5) (fun o7 M8 => ∃ r9 : Int32, o7 = some (some (.int r9)) ∧ ((r9 = 0 → K none M8) ∧ (¬ r9 = 0 → (jEv nX4_endsWhole (0, [(0, .ref 41), (1, .int (M8.1 p3 2))], [], M8) (fun o10 M11 => ∃ r12 : Int32, o10 = some (some (.int r12)) ∧ ((r12 = 0 → K none M11) ∧ (¬ r12 = 0 → (jEv nX4_guessOn (0, [(0, .ref 41), (1, .ref p3), (2, .ref 58)], [], M11) (fun o13 M14 => o13 = some none ∧ (¬ (((M14.1 p3 2) + x2) - 1 < 0 ∨ 8 ≤ (((M14.1 p3 2) + x2) - 1).toNatClampNeg) ∧ (jEv nX7_power (0, [(0, .long ((M14.1 p3 1).toInt64)), (2, .int 5)], [], M14) (fun o15 M16 => ∃ r17 : Int64, o15 = some (some (.long r17)) ∧ (jEv nX1_set (0, [(0, .ref 60), (1, .long (M14.2 58 (((M14.1 p3 2) + x2) - 1).toNatClampNeg)), (3, .long r17)], [], M16) (fun o18 M19 => o18 = some none ∧ (jEv nX1_part (0, [(0, .ref 60), (1, .int x3)], [], M19) (fun o20 M21 => ∃ r22 : Int64, o20 = some (some (.long r22)) ∧ K (some (some (.long r22))) M21))))))))))))))))))))))))) : jEv nX7_next (0, [(0, .ref 0), (1, .int x1), (2, .int x2), (3, .int x3)], [], M) K := by
  have hE : jMT nX7_next = some me_X7_next := rfl
  refine e_seg (k := 2) (d := (2, [(0, .ref 0), (1, .int x1), (2, .int x2), (3, .int x3)], [.int x1, .ref 0], M)) rfl ?_
  refine e_call (q := 5) (L0 := [(0, .ref 0), (1, .int x1)]) hE rfl rfl rfl rfl (jargs_V rfl rfl rfl rfl rfl (Nat.le_of_ble_eq_true rfl) (Nat.le_of_ble_eq_true rfl) (Nat.le_of_ble_eq_true rfl)) rfl rfl (jEv.mono h (fun o1 M2 h => ?_))
  rcases h with ⟨rfl, h⟩ | ⟨p3, hp3, rfl, h⟩
  · refine ⟨_, rfl, ?_⟩
    show jEv nX7_next (5, [(0, .ref 0), (1, .int x1), (2, .int x2), (3, .int x3)], [.null], M2) K
    refine e_seg (k := 3) (d := (43, [(0, .ref 0), (1, .int x1), (2, .int x2), (3, .int x3), (4, .null)], [], M2)) rfl ?_
    exact e_new hE rfl rfl h
  · refine ⟨_, rfl, ?_⟩
    show jEv nX7_next (5, [(0, .ref 0), (1, .int x1), (2, .int x2), (3, .int x3)], [.ref p3], M2) K
    refine e_seg (k := 6) (d := (15, [(0, .ref 0), (1, .int x1), (2, .int x2), (3, .int x3), (4, .ref p3)], [.int 5, .int 1, .int x2], M2)) rfl ?_
    refine e_call (q := 18) (L0 := [(0, .int x2), (1, .int 1), (2, .int 5)]) hE rfl rfl rfl rfl (jargs_S rfl rfl rfl rfl (Nat.le_of_ble_eq_true rfl) (Nat.le_of_ble_eq_true rfl) (Nat.le_of_ble_eq_true rfl)) rfl rfl (jEv.mono h (fun o4 M5 h => ?_))
    obtain ⟨r6, rfl, h⟩ := h
    refine ⟨_, rfl, ?_⟩
    show jEv nX7_next (18, [(0, .ref 0), (1, .int x1), (2, .int x2), (3, .int x3), (4, .ref p3)], [.int r6], M5) K
    refine e_if_eq (t := 43) (q := 21) hE rfl rfl rfl rfl (fun hbr => ?_) (fun hbr => ?_)
    · replace h := h.1 hbr
      exact e_new hE rfl rfl h
    · replace h := h.2 hbr
      refine e_seg (k := 1) (d := (22, [(0, .ref 0), (1, .int x1), (2, .int x2), (3, .int x3), (4, .ref p3)], [.int x3], M5)) rfl ?_
      refine e_call (q := 25) (L0 := [(0, .int x3)]) hE rfl rfl rfl rfl (jargs_S rfl rfl rfl rfl (Nat.le_of_ble_eq_true rfl) (Nat.le_of_ble_eq_true rfl) (Nat.le_of_ble_eq_true rfl)) rfl rfl (jEv.mono h (fun o7 M8 h => ?_))
      obtain ⟨r9, rfl, h⟩ := h
      refine ⟨_, rfl, ?_⟩
      show jEv nX7_next (25, [(0, .ref 0), (1, .int x1), (2, .int x2), (3, .int x3), (4, .ref p3)], [.int r9], M8) K
      refine e_if_eq (t := 43) (q := 28) hE rfl rfl rfl rfl (fun hbr => ?_) (fun hbr => ?_)
      · replace h := h.1 hbr
        exact e_new hE rfl rfl h
      · replace h := h.2 hbr
        refine e_seg (k := 3) (d := (34, [(0, .ref 0), (1, .int x1), (2, .int x2), (3, .int x3), (4, .ref p3)], [.ref p3, .ref 41], M8)) rfl ?_
        refine e_get (v := .int (M8.1 p3 2)) (q := 37) hE rfl rfl rfl rfl (jRu_o hp3) rfl rfl ?_
        refine e_call (q := 40) (L0 := [(0, .ref 41), (1, .int (M8.1 p3 2))]) hE rfl rfl rfl rfl (jargs_V rfl rfl rfl rfl rfl (Nat.le_of_ble_eq_true rfl) (Nat.le_of_ble_eq_true rfl) (Nat.le_of_ble_eq_true rfl)) rfl rfl (jEv.mono h (fun o10 M11 h => ?_))
        obtain ⟨r12, rfl, h⟩ := h
        refine ⟨_, rfl, ?_⟩
        show jEv nX7_next (40, [(0, .ref 0), (1, .int x1), (2, .int x2), (3, .int x3), (4, .ref p3)], [.int r12], M11) K
        refine e_if_ne (t := 53) (q := 43) hE rfl rfl rfl rfl (fun hbr => ?_) (fun hbr => ?_)
        · replace h := h.2 hbr
          refine e_seg (k := 5) (d := (63, [(0, .ref 0), (1, .int x1), (2, .int x2), (3, .int x3), (4, .ref p3)], [.ref 58, .ref p3, .ref 41], M11)) rfl ?_
          refine e_call (q := 66) (L0 := [(0, .ref 41), (1, .ref p3), (2, .ref 58)]) hE rfl rfl rfl rfl (jargs_V rfl rfl rfl rfl rfl (Nat.le_of_ble_eq_true rfl) (Nat.le_of_ble_eq_true rfl) (Nat.le_of_ble_eq_true rfl)) rfl rfl (jEv.mono h (fun o13 M14 h => ?_))
          obtain ⟨rfl, h⟩ := h
          refine ⟨_, rfl, ?_⟩
          show jEv nX7_next (66, [(0, .ref 0), (1, .int x1), (2, .int x2), (3, .int x3), (4, .ref p3)], [], M14) K
          refine e_seg (k := 5) (d := (76, [(0, .ref 0), (1, .int x1), (2, .int x2), (3, .int x3), (4, .ref p3)], [.ref p3, .ref 58, .ref 60], M14)) rfl ?_
          refine e_get (v := .int (M14.1 p3 2)) (q := 79) hE rfl rfl rfl rfl (jRu_o hp3) rfl rfl ?_
          refine e_seg (k := 4) (d := (83, [(0, .ref 0), (1, .int x1), (2, .int x2), (3, .int x3), (4, .ref p3)], [.int (((M14.1 p3 2) + x2) - 1), .ref 58, .ref 60], M14)) rfl ?_
          refine e_lald (q := 84) hE rfl rfl rfl rfl h.1 ?_
          replace h := h.2
          refine e_seg (k := 1) (d := (86, [(0, .ref 0), (1, .int x1), (2, .int x2), (3, .int x3), (4, .ref p3)], [.ref p3, .long (M14.2 58 (((M14.1 p3 2) + x2) - 1).toNatClampNeg), .ref 60], M14)) rfl ?_
          refine e_get (v := .int (M14.1 p3 1)) (q := 89) hE rfl rfl rfl rfl (jRu_o hp3) rfl rfl ?_
          refine e_seg (k := 2) (d := (91, [(0, .ref 0), (1, .int x1), (2, .int x2), (3, .int x3), (4, .ref p3)], [.int 5, .long ((M14.1 p3 1).toInt64), .long (M14.2 58 (((M14.1 p3 2) + x2) - 1).toNatClampNeg), .ref 60], M14)) rfl ?_
          refine e_call (q := 94) (L0 := [(0, .long ((M14.1 p3 1).toInt64)), (2, .int 5)]) hE rfl rfl rfl rfl (jargs_S rfl rfl rfl rfl (Nat.le_of_ble_eq_true rfl) (Nat.le_of_ble_eq_true rfl) (Nat.le_of_ble_eq_true rfl)) rfl rfl (jEv.mono h (fun o15 M16 h => ?_))
          obtain ⟨r17, rfl, h⟩ := h
          refine ⟨_, rfl, ?_⟩
          show jEv nX7_next (94, [(0, .ref 0), (1, .int x1), (2, .int x2), (3, .int x3), (4, .ref p3)], [.long r17, .long (M14.2 58 (((M14.1 p3 2) + x2) - 1).toNatClampNeg), .ref 60], M16) K
          refine e_call (q := 97) (L0 := [(0, .ref 60), (1, .long (M14.2 58 (((M14.1 p3 2) + x2) - 1).toNatClampNeg)), (3, .long r17)]) hE rfl rfl rfl rfl (jargs_V rfl rfl rfl rfl rfl (Nat.le_of_ble_eq_true rfl) (Nat.le_of_ble_eq_true rfl) (Nat.le_of_ble_eq_true rfl)) rfl rfl (jEv.mono h (fun o18 M19 h => ?_))
          obtain ⟨rfl, h⟩ := h
          refine ⟨_, rfl, ?_⟩
          show jEv nX7_next (97, [(0, .ref 0), (1, .int x1), (2, .int x2), (3, .int x3), (4, .ref p3)], [], M19) K
          refine e_seg (k := 3) (d := (102, [(0, .ref 0), (1, .int x1), (2, .int x2), (3, .int x3), (4, .ref p3)], [.int x3, .ref 60], M19)) rfl ?_
          refine e_call (q := 105) (L0 := [(0, .ref 60), (1, .int x3)]) hE rfl rfl rfl rfl (jargs_V rfl rfl rfl rfl rfl (Nat.le_of_ble_eq_true rfl) (Nat.le_of_ble_eq_true rfl) (Nat.le_of_ble_eq_true rfl)) rfl rfl (jEv.mono h (fun o20 M21 h => ?_))
          obtain ⟨r22, rfl, h⟩ := h
          refine ⟨_, rfl, ?_⟩
          show jEv nX7_next (105, [(0, .ref 0), (1, .int x1), (2, .int x2), (3, .int x3), (4, .ref p3)], [.long r22], M21) K
          exact e_ret hE rfl rfl (jb_l rfl) h
        · replace h := h.1 hbr
          exact e_new hE rfl rfl h
set_option maxRecDepth 100000 in
set_option maxHeartbeats 4000000 in
theorem v_X7_same_0 {K : jK} {M : jM} {x1 : Int32} {x2 : Int32} (h : (jEv nX7_toldRule (0, [(0, .ref 0), (1, .int x1)], [], M) (fun o1 M2 => (o1 = some (some .null) ∧ (jEv nX7_toldRule (0, [(0, .ref 0), (1, .int x2)], [], M2) (fun o4 M5 => (o4 = some (some .null) ∧ K (some (some (.int (-1)))) M5) ∨ (∃ p6 : Nat, jRu p6 ∧ o4 = some (some (.ref p6)) ∧ K (some (some (.int (-1)))) M5)))) ∨ (∃ p3 : Nat, jRu p3 ∧ o1 = some (some (.ref p3)) ∧ (jEv nX7_toldRule (0, [(0, .ref 0), (1, .int x2)], [], M2) (fun o7 M8 => (o7 = some (some .null) ∧ K (some (some (.int (-1)))) M8) ∨ (∃ p9 : Nat, jRu p9 ∧ o7 = some (some (.ref p9)) ∧ (jEv nX5_diesAway (0, [(0, .ref p3)], [], M8) (fun o10 M11 => ∃ r12 : Int32, o10 = some (some (.int r12)) ∧ ((r12 = 0 → K (some (some (.int (-1)))) M11) ∧ (¬ r12 = 0 → (jEv nX5_diesAway (0, [(0, .ref p9)], [], M11) (fun o13 M14 => ∃ r15 : Int32, o13 = some (some (.int r15)) ∧ ((r15 = 0 → K (some (some (.int (-1)))) M14) ∧ (¬ r15 = 0 → (jEv nX2_find (0, [(0, .ref 53), (1, .ref p3), (2, .ref 44), (3, .ref 57)], [], M14) (fun o16 M17 => o16 = some none ∧ (jEv nX2_find (0, [(0, .ref 55), (1, .ref p9), (2, .ref 44), (3, .ref 57)], [], M17) (fun o18 M19 => o18 = some none ∧ jEv nX7_same (75, [(0, .ref 0), (5, .int 0)], [], M19) K))))))))))))))))))) : jEv nX7_same (0, [(0, .ref 0), (1, .int x1), (2, .int x2)], [], M) K := by
  have hE : jMT nX7_same = some me_X7_same := rfl
  refine e_seg (k := 2) (d := (2, [(0, .ref 0), (1, .int x1), (2, .int x2)], [.int x1, .ref 0], M)) rfl ?_
  refine e_call (q := 5) (L0 := [(0, .ref 0), (1, .int x1)]) hE rfl rfl rfl rfl (jargs_V rfl rfl rfl rfl rfl (Nat.le_of_ble_eq_true rfl) (Nat.le_of_ble_eq_true rfl) (Nat.le_of_ble_eq_true rfl)) rfl rfl (jEv.mono h (fun o1 M2 h => ?_))
  rcases h with ⟨rfl, h⟩ | ⟨p3, hp3, rfl, h⟩
  · refine ⟨_, rfl, ?_⟩
    show jEv nX7_same (5, [(0, .ref 0), (1, .int x1), (2, .int x2)], [.null], M2) K
    refine e_seg (k := 3) (d := (8, [(0, .ref 0), (1, .int x1), (2, .int x2), (3, .null)], [.int x2, .ref 0], M2)) rfl ?_
    refine e_call (q := 11) (L0 := [(0, .ref 0), (1, .int x2)]) hE rfl rfl rfl rfl (jargs_V rfl rfl rfl rfl rfl (Nat.le_of_ble_eq_true rfl) (Nat.le_of_ble_eq_true rfl) (Nat.le_of_ble_eq_true rfl)) rfl rfl (jEv.mono h (fun o4 M5 h => ?_))
    rcases h with ⟨rfl, h⟩ | ⟨p6, hp6, rfl, h⟩
    · refine ⟨_, rfl, ?_⟩
      show jEv nX7_same (11, [(0, .ref 0), (1, .int x1), (2, .int x2), (3, .null)], [.null], M5) K
      refine e_seg (k := 4) (d := (38, [(0, .ref 0), (1, .int x1), (2, .int x2), (3, .null), (4, .null)], [.int (-1)], M5)) rfl ?_
      exact e_ret hE rfl rfl (jb_i rfl) h
    · refine ⟨_, rfl, ?_⟩
      show jEv nX7_same (11, [(0, .ref 0), (1, .int x1), (2, .int x2), (3, .null)], [.ref p6], M5) K
      refine e_seg (k := 4) (d := (38, [(0, .ref 0), (1, .int x1), (2, .int x2), (3, .null), (4, .ref p6)], [.int (-1)], M5)) rfl ?_
      exact e_ret hE rfl rfl (jb_i rfl) h
  · refine ⟨_, rfl, ?_⟩
    show jEv nX7_same (5, [(0, .ref 0), (1, .int x1), (2, .int x2)], [.ref p3], M2) K
    refine e_seg (k := 3) (d := (8, [(0, .ref 0), (1, .int x1), (2, .int x2), (3, .ref p3)], [.int x2, .ref 0], M2)) rfl ?_
    refine e_call (q := 11) (L0 := [(0, .ref 0), (1, .int x2)]) hE rfl rfl rfl rfl (jargs_V rfl rfl rfl rfl rfl (Nat.le_of_ble_eq_true rfl) (Nat.le_of_ble_eq_true rfl) (Nat.le_of_ble_eq_true rfl)) rfl rfl (jEv.mono h (fun o7 M8 h => ?_))
    rcases h with ⟨rfl, h⟩ | ⟨p9, hp9, rfl, h⟩
    · refine ⟨_, rfl, ?_⟩
      show jEv nX7_same (11, [(0, .ref 0), (1, .int x1), (2, .int x2), (3, .ref p3)], [.null], M8) K
      refine e_seg (k := 6) (d := (38, [(0, .ref 0), (1, .int x1), (2, .int x2), (3, .ref p3), (4, .null)], [.int (-1)], M8)) rfl ?_
      exact e_ret hE rfl rfl (jb_i rfl) h
    · refine ⟨_, rfl, ?_⟩
      show jEv nX7_same (11, [(0, .ref 0), (1, .int x1), (2, .int x2), (3, .ref p3)], [.ref p9], M8) K
      refine e_seg (k := 6) (d := (23, [(0, .ref 0), (1, .int x1), (2, .int x2), (3, .ref p3), (4, .ref p9)], [.ref p3], M8)) rfl ?_
      refine e_call (q := 26) (L0 := [(0, .ref p3)]) hE rfl rfl rfl rfl (jargs_V (jRu_o hp3) rfl rfl rfl rfl (Nat.le_of_ble_eq_true rfl) (Nat.le_of_ble_eq_true rfl) (Nat.le_of_ble_eq_true rfl)) rfl rfl (jEv.mono h (fun o10 M11 h => ?_))
      obtain ⟨r12, rfl, h⟩ := h
      refine ⟨_, rfl, ?_⟩
      show jEv nX7_same (26, [(0, .ref 0), (1, .int x1), (2, .int x2), (3, .ref p3), (4, .ref p9)], [.int r12], M11) K
      refine e_if_eq (t := 37) (q := 29) hE rfl rfl rfl rfl (fun hbr => ?_) (fun hbr => ?_)
      · replace h := h.1 hbr
        refine e_seg (k := 1) (d := (38, [(0, .ref 0), (1, .int x1), (2, .int x2), (3, .ref p3), (4, .ref p9)], [.int (-1)], M11)) rfl ?_
        exact e_ret hE rfl rfl (jb_i rfl) h
      · replace h := h.2 hbr
        refine e_seg (k := 1) (d := (31, [(0, .ref 0), (1, .int x1), (2, .int x2), (3, .ref p3), (4, .ref p9)], [.ref p9], M11)) rfl ?_
        refine e_call (q := 34) (L0 := [(0, .ref p9)]) hE rfl rfl rfl rfl (jargs_V (jRu_o hp9) rfl rfl rfl rfl (Nat.le_of_ble_eq_true rfl) (Nat.le_of_ble_eq_true rfl) (Nat.le_of_ble_eq_true rfl)) rfl rfl (jEv.mono h (fun o13 M14 h => ?_))
        obtain ⟨r15, rfl, h⟩ := h
        refine ⟨_, rfl, ?_⟩
        show jEv nX7_same (34, [(0, .ref 0), (1, .int x1), (2, .int x2), (3, .ref p3), (4, .ref p9)], [.int r15], M14) K
        refine e_if_ne (t := 39) (q := 37) hE rfl rfl rfl rfl (fun hbr => ?_) (fun hbr => ?_)
        · replace h := h.2 hbr
          refine e_seg (k := 7) (d := (52, [(0, .ref 0), (1, .int x1), (2, .int x2), (3, .ref p3), (4, .ref p9)], [.ref 57, .ref 44, .ref p3, .ref 53], M14)) rfl ?_
          refine e_call (q := 55) (L0 := [(0, .ref 53), (1, .ref p3), (2, .ref 44), (3, .ref 57)]) hE rfl rfl rfl rfl (jargs_V rfl rfl rfl rfl rfl (Nat.le_of_ble_eq_true rfl) (Nat.le_of_ble_eq_true rfl) (Nat.le_of_ble_eq_true rfl)) rfl rfl (jEv.mono h (fun o16 M17 h => ?_))
          obtain ⟨rfl, h⟩ := h
          refine ⟨_, rfl, ?_⟩
          show jEv nX7_same (55, [(0, .ref 0), (1, .int x1), (2, .int x2), (3, .ref p3), (4, .ref p9)], [], M17) K
          refine e_seg (k := 7) (d := (69, [(0, .ref 0), (1, .int x1), (2, .int x2), (3, .ref p3), (4, .ref p9)], [.ref 57, .ref 44, .ref p9, .ref 55], M17)) rfl ?_
          refine e_call (q := 72) (L0 := [(0, .ref 55), (1, .ref p9), (2, .ref 44), (3, .ref 57)]) hE rfl rfl rfl rfl (jargs_V rfl rfl rfl rfl rfl (Nat.le_of_ble_eq_true rfl) (Nat.le_of_ble_eq_true rfl) (Nat.le_of_ble_eq_true rfl)) rfl rfl (jEv.mono h (fun o18 M19 h => ?_))
          obtain ⟨rfl, h⟩ := h
          refine ⟨_, rfl, ?_⟩
          show jEv nX7_same (72, [(0, .ref 0), (1, .int x1), (2, .int x2), (3, .ref p3), (4, .ref p9)], [], M19) K
          refine e_seg (k := 2) (d := (75, [(0, .ref 0), (1, .int x1), (2, .int x2), (3, .ref p3), (4, .ref p9), (5, .int 0)], [], M19)) rfl ?_
          refine e_cut (ks := [0, 5]) (L' := [(0, .ref 0), (5, .int 0)]) hE rfl rfl rfl rfl rfl ?_
          exact h
        · replace h := h.1 hbr
          refine e_seg (k := 1) (d := (38, [(0, .ref 0), (1, .int x1), (2, .int x2), (3, .ref p3), (4, .ref p9)], [.int (-1)], M14)) rfl ?_
          exact e_ret hE rfl rfl (jb_i rfl) h
set_option maxRecDepth 100000 in
set_option maxHeartbeats 4000000 in
theorem v_X7_same_75 {K : jK} {M : jM} {x5 : Int32} (h : ((8 < x5 → K (some (some (.int 1))) M) ∧ (¬ 8 < x5 → (¬ (x5 < 0 ∨ 9 ≤ x5.toNatClampNeg) ∧ (jEv nX1_set (0, [(0, .ref 60), (1, .long (M.2 54 x5.toNatClampNeg)), (3, .long (M.2 53 1))], [], M) (fun o1 M2 => o1 = some none ∧ (¬ (x5 < 0 ∨ 9 ≤ x5.toNatClampNeg) ∧ (jEv nX1_set (0, [(0, .ref 61), (1, .long (M2.2 56 x5.toNatClampNeg)), (3, .long (M2.2 55 1))], [], M2) (fun o3 M4 => o3 = some none ∧ (jEv nX1_isLike (0, [(0, .ref 60), (1, .ref 61)], [], M4) (fun o5 M6 => ∃ r7 : Int32, o5 = some (some (.int r7)) ∧ ((r7 = 0 → K (some (some (.int 0))) M6) ∧ (¬ r7 = 0 → jEv nX7_same (75, [(0, .ref 0), (5, .int (x5 + 1))], [], M6) K))))))))))))) : jEv nX7_same (75, [(0, .ref 0), (5, .int x5)], [], M) K := by
  have hE : jMT nX7_same = some me_X7_same := rfl
  refine e_seg (k := 2) (d := (79, [(0, .ref 0), (5, .int x5)], [.int 8, .int x5], M)) rfl ?_
  refine e_ic_gt (t := 152) (q := 82) hE rfl rfl rfl rfl (fun hbr => ?_) (fun hbr => ?_)
  · replace h := h.1 hbr
    refine e_seg (k := 1) (d := (153, [(0, .ref 0), (5, .int x5)], [.int 1], M)) rfl ?_
    exact e_ret hE rfl rfl (jb_i rfl) h
  · replace h := h.2 hbr
    refine e_seg (k := 6) (d := (95, [(0, .ref 0), (5, .int x5)], [.int x5, .ref 54, .ref 60], M)) rfl ?_
    refine e_lald (q := 96) hE rfl rfl rfl rfl h.1 ?_
    replace h := h.2
    refine e_seg (k := 3) (d := (103, [(0, .ref 0), (5, .int x5)], [.long (M.2 53 1), .long (M.2 54 x5.toNatClampNeg), .ref 60], M)) rfl ?_
    refine e_call (q := 106) (L0 := [(0, .ref 60), (1, .long (M.2 54 x5.toNatClampNeg)), (3, .long (M.2 53 1))]) hE rfl rfl rfl rfl (jargs_V rfl rfl rfl rfl rfl (Nat.le_of_ble_eq_true rfl) (Nat.le_of_ble_eq_true rfl) (Nat.le_of_ble_eq_true rfl)) rfl rfl (jEv.mono h (fun o1 M2 h => ?_))
    obtain ⟨rfl, h⟩ := h
    refine ⟨_, rfl, ?_⟩
    show jEv nX7_same (106, [(0, .ref 0), (5, .int x5)], [], M2) K
    refine e_seg (k := 6) (d := (119, [(0, .ref 0), (5, .int x5)], [.int x5, .ref 56, .ref 61], M2)) rfl ?_
    refine e_lald (q := 120) hE rfl rfl rfl rfl h.1 ?_
    replace h := h.2
    refine e_seg (k := 3) (d := (127, [(0, .ref 0), (5, .int x5)], [.long (M2.2 55 1), .long (M2.2 56 x5.toNatClampNeg), .ref 61], M2)) rfl ?_
    refine e_call (q := 130) (L0 := [(0, .ref 61), (1, .long (M2.2 56 x5.toNatClampNeg)), (3, .long (M2.2 55 1))]) hE rfl rfl rfl rfl (jargs_V rfl rfl rfl rfl rfl (Nat.le_of_ble_eq_true rfl) (Nat.le_of_ble_eq_true rfl) (Nat.le_of_ble_eq_true rfl)) rfl rfl (jEv.mono h (fun o3 M4 h => ?_))
    obtain ⟨rfl, h⟩ := h
    refine ⟨_, rfl, ?_⟩
    show jEv nX7_same (130, [(0, .ref 0), (5, .int x5)], [], M4) K
    refine e_seg (k := 4) (d := (138, [(0, .ref 0), (5, .int x5)], [.ref 61, .ref 60], M4)) rfl ?_
    refine e_call (q := 141) (L0 := [(0, .ref 60), (1, .ref 61)]) hE rfl rfl rfl rfl (jargs_V rfl rfl rfl rfl rfl (Nat.le_of_ble_eq_true rfl) (Nat.le_of_ble_eq_true rfl) (Nat.le_of_ble_eq_true rfl)) rfl rfl (jEv.mono h (fun o5 M6 h => ?_))
    obtain ⟨r7, rfl, h⟩ := h
    refine ⟨_, rfl, ?_⟩
    show jEv nX7_same (141, [(0, .ref 0), (5, .int x5)], [.int r7], M6) K
    refine e_if_ne (t := 146) (q := 144) hE rfl rfl rfl rfl (fun hbr => ?_) (fun hbr => ?_)
    · replace h := h.2 hbr
      refine e_seg (k := 2) (d := (75, [(0, .ref 0), (5, .int (x5 + 1))], [], M6)) rfl ?_
      refine e_cut (ks := [0, 5]) (L' := [(0, .ref 0), (5, .int (x5 + 1))]) hE rfl rfl rfl rfl rfl ?_
      exact h
    · replace h := h.1 hbr
      refine e_seg (k := 1) (d := (145, [(0, .ref 0), (5, .int x5)], [.int 0], M6)) rfl ?_
      exact e_ret hE rfl rfl (jb_i rfl) h
set_option maxRecDepth 100000 in
set_option maxHeartbeats 4000000 in
theorem v_X7_squares_0 {K : jK} {M : jM} {x1 : Int32} {x2 : Int32} (h : (jEv nX7_plainRule (0, [(0, .ref 0), (1, .int x1)], [], M) (fun o1 M2 => (o1 = some (some .null) ∧ K none M2) ∨ (∃ p3 : Nat, jRu p3 ∧ o1 = some (some (.ref p3)) ∧ (jEv nX7_isPart (0, [(0, .int x2)], [], M2) (fun o4 M5 => ∃ r6 : Int32, o4 = some (some (.int r6)) ∧ ((r6 = 0 → K none M5) ∧ (¬ r6 = 0 → (jEv nX4_squaresTop (0, [(0, .ref 41), (1, .ref p3)], [], M5) (fun o7 M8 => ∃ r9 : Int64, o7 = some (some (.long r9)) ∧ (jEv nX7_power (0, [(0, .long ((M8.1 p3 1).toInt64)), (2, .int 2)], [], M8) (fun o10 M11 => ∃ r12 : Int64, o10 = some (some (.long r12)) ∧ (jEv nX1_set (0, [(0, .ref 60), (1, .long r9), (3, .long r12)], [], M11) (fun o13 M14 => o13 = some none ∧ (jEv nX1_part (0, [(0, .ref 60), (1, .int x2)], [], M14) (fun o15 M16 => ∃ r17 : Int64, o15 = some (some (.long r17)) ∧ K (some (some (.long r17))) M16)))))))))))))))) : jEv nX7_squares (0, [(0, .ref 0), (1, .int x1), (2, .int x2)], [], M) K := by
  have hE : jMT nX7_squares = some me_X7_squares := rfl
  refine e_seg (k := 2) (d := (2, [(0, .ref 0), (1, .int x1), (2, .int x2)], [.int x1, .ref 0], M)) rfl ?_
  refine e_call (q := 5) (L0 := [(0, .ref 0), (1, .int x1)]) hE rfl rfl rfl rfl (jargs_V rfl rfl rfl rfl rfl (Nat.le_of_ble_eq_true rfl) (Nat.le_of_ble_eq_true rfl) (Nat.le_of_ble_eq_true rfl)) rfl rfl (jEv.mono h (fun o1 M2 h => ?_))
  rcases h with ⟨rfl, h⟩ | ⟨p3, hp3, rfl, h⟩
  · refine ⟨_, rfl, ?_⟩
    show jEv nX7_squares (5, [(0, .ref 0), (1, .int x1), (2, .int x2)], [.null], M2) K
    refine e_seg (k := 3) (d := (17, [(0, .ref 0), (1, .int x1), (2, .int x2), (3, .null)], [], M2)) rfl ?_
    exact e_new hE rfl rfl h
  · refine ⟨_, rfl, ?_⟩
    show jEv nX7_squares (5, [(0, .ref 0), (1, .int x1), (2, .int x2)], [.ref p3], M2) K
    refine e_seg (k := 4) (d := (11, [(0, .ref 0), (1, .int x1), (2, .int x2), (3, .ref p3)], [.int x2], M2)) rfl ?_
    refine e_call (q := 14) (L0 := [(0, .int x2)]) hE rfl rfl rfl rfl (jargs_S rfl rfl rfl rfl (Nat.le_of_ble_eq_true rfl) (Nat.le_of_ble_eq_true rfl) (Nat.le_of_ble_eq_true rfl)) rfl rfl (jEv.mono h (fun o4 M5 h => ?_))
    obtain ⟨r6, rfl, h⟩ := h
    refine ⟨_, rfl, ?_⟩
    show jEv nX7_squares (14, [(0, .ref 0), (1, .int x1), (2, .int x2), (3, .ref p3)], [.int r6], M5) K
    refine e_if_ne (t := 28) (q := 17) hE rfl rfl rfl rfl (fun hbr => ?_) (fun hbr => ?_)
    · replace h := h.2 hbr
      refine e_seg (k := 5) (d := (37, [(0, .ref 0), (1, .int x1), (2, .int x2), (3, .ref p3)], [.ref p3, .ref 41, .ref 60], M5)) rfl ?_
      refine e_call (q := 40) (L0 := [(0, .ref 41), (1, .ref p3)]) hE rfl rfl rfl rfl (jargs_V rfl rfl rfl rfl rfl (Nat.le_of_ble_eq_true rfl) (Nat.le_of_ble_eq_true rfl) (Nat.le_of_ble_eq_true rfl)) rfl rfl (jEv.mono h (fun o7 M8 h => ?_))
      obtain ⟨r9, rfl, h⟩ := h
      refine ⟨_, rfl, ?_⟩
      show jEv nX7_squares (40, [(0, .ref 0), (1, .int x1), (2, .int x2), (3, .ref p3)], [.long r9, .ref 60], M8) K
      refine e_seg (k := 1) (d := (41, [(0, .ref 0), (1, .int x1), (2, .int x2), (3, .ref p3)], [.ref p3, .long r9, .ref 60], M8)) rfl ?_
      refine e_get (v := .int (M8.1 p3 1)) (q := 44) hE rfl rfl rfl rfl (jRu_o hp3) rfl rfl ?_
      refine e_seg (k := 2) (d := (46, [(0, .ref 0), (1, .int x1), (2, .int x2), (3, .ref p3)], [.int 2, .long ((M8.1 p3 1).toInt64), .long r9, .ref 60], M8)) rfl ?_
      refine e_call (q := 49) (L0 := [(0, .long ((M8.1 p3 1).toInt64)), (2, .int 2)]) hE rfl rfl rfl rfl (jargs_S rfl rfl rfl rfl (Nat.le_of_ble_eq_true rfl) (Nat.le_of_ble_eq_true rfl) (Nat.le_of_ble_eq_true rfl)) rfl rfl (jEv.mono h (fun o10 M11 h => ?_))
      obtain ⟨r12, rfl, h⟩ := h
      refine ⟨_, rfl, ?_⟩
      show jEv nX7_squares (49, [(0, .ref 0), (1, .int x1), (2, .int x2), (3, .ref p3)], [.long r12, .long r9, .ref 60], M11) K
      refine e_call (q := 52) (L0 := [(0, .ref 60), (1, .long r9), (3, .long r12)]) hE rfl rfl rfl rfl (jargs_V rfl rfl rfl rfl rfl (Nat.le_of_ble_eq_true rfl) (Nat.le_of_ble_eq_true rfl) (Nat.le_of_ble_eq_true rfl)) rfl rfl (jEv.mono h (fun o13 M14 h => ?_))
      obtain ⟨rfl, h⟩ := h
      refine ⟨_, rfl, ?_⟩
      show jEv nX7_squares (52, [(0, .ref 0), (1, .int x1), (2, .int x2), (3, .ref p3)], [], M14) K
      refine e_seg (k := 3) (d := (57, [(0, .ref 0), (1, .int x1), (2, .int x2), (3, .ref p3)], [.int x2, .ref 60], M14)) rfl ?_
      refine e_call (q := 60) (L0 := [(0, .ref 60), (1, .int x2)]) hE rfl rfl rfl rfl (jargs_V rfl rfl rfl rfl rfl (Nat.le_of_ble_eq_true rfl) (Nat.le_of_ble_eq_true rfl) (Nat.le_of_ble_eq_true rfl)) rfl rfl (jEv.mono h (fun o15 M16 h => ?_))
      obtain ⟨r17, rfl, h⟩ := h
      refine ⟨_, rfl, ?_⟩
      show jEv nX7_squares (60, [(0, .ref 0), (1, .int x1), (2, .int x2), (3, .ref p3)], [.long r17], M16) K
      exact e_ret hE rfl rfl (jb_l rfl) h
    · replace h := h.1 hbr
      exact e_new hE rfl rfl h
set_option maxRecDepth 100000 in
set_option maxHeartbeats 4000000 in
theorem v_X7_whole_0 {K : jK} {M : jM} {x1 : Int32} (h : (jEv nX7_plainRule (0, [(0, .ref 0), (1, .int x1)], [], M) (fun o1 M2 => (o1 = some (some .null) ∧ K (some (some (.int (-1)))) M2) ∨ (∃ p3 : Nat, jRu p3 ∧ o1 = some (some (.ref p3)) ∧ (jEv nX4_wholeCount (0, [(0, .ref 41), (1, .ref p3)], [], M2) (fun o4 M5 => ∃ r6 : Int32, o4 = some (some (.int r6)) ∧ K (some (some (.int r6))) M5)))))) : jEv nX7_whole (0, [(0, .ref 0), (1, .int x1)], [], M) K := by
  have hE : jMT nX7_whole = some me_X7_whole := rfl
  refine e_seg (k := 2) (d := (2, [(0, .ref 0), (1, .int x1)], [.int x1, .ref 0], M)) rfl ?_
  refine e_call (q := 5) (L0 := [(0, .ref 0), (1, .int x1)]) hE rfl rfl rfl rfl (jargs_V rfl rfl rfl rfl rfl (Nat.le_of_ble_eq_true rfl) (Nat.le_of_ble_eq_true rfl) (Nat.le_of_ble_eq_true rfl)) rfl rfl (jEv.mono h (fun o1 M2 h => ?_))
  rcases h with ⟨rfl, h⟩ | ⟨p3, hp3, rfl, h⟩
  · refine ⟨_, rfl, ?_⟩
    show jEv nX7_whole (5, [(0, .ref 0), (1, .int x1)], [.null], M2) K
    refine e_seg (k := 4) (d := (11, [(0, .ref 0), (1, .int x1), (2, .null)], [.int (-1)], M2)) rfl ?_
    exact e_ret hE rfl rfl (jb_i rfl) h
  · refine ⟨_, rfl, ?_⟩
    show jEv nX7_whole (5, [(0, .ref 0), (1, .int x1)], [.ref p3], M2) K
    refine e_seg (k := 6) (d := (17, [(0, .ref 0), (1, .int x1), (2, .ref p3)], [.ref p3, .ref 41], M2)) rfl ?_
    refine e_call (q := 20) (L0 := [(0, .ref 41), (1, .ref p3)]) hE rfl rfl rfl rfl (jargs_V rfl rfl rfl rfl rfl (Nat.le_of_ble_eq_true rfl) (Nat.le_of_ble_eq_true rfl) (Nat.le_of_ble_eq_true rfl)) rfl rfl (jEv.mono h (fun o4 M5 h => ?_))
    obtain ⟨r6, rfl, h⟩ := h
    refine ⟨_, rfl, ?_⟩
    show jEv nX7_whole (20, [(0, .ref 0), (1, .int x1), (2, .ref p3)], [.int r6], M5) K
    exact e_ret hE rfl rfl (jb_i rfl) h
set_option maxRecDepth 100000 in
set_option maxHeartbeats 4000000 in
theorem v_X7_amiss_0 {K : jK} {M : jM} {x1 : Int32} (h : (jEv nX7_plainRule (0, [(0, .ref 0), (1, .int x1)], [], M) (fun o1 M2 => (o1 = some (some .null) ∧ K (some (some (.int (-1)))) M2) ∨ (∃ p3 : Nat, jRu p3 ∧ o1 = some (some (.ref p3)) ∧ (jEv nX4_gapCount (0, [(0, .ref 41)], [], M2) (fun o4 M5 => ∃ r6 : Int32, o4 = some (some (.int r6)) ∧ ((0 < r6 → K (some (some (.int (-1)))) M5) ∧ (¬ 0 < r6 → (((M5.1 p3 2) < (M5.1 41 2) → (jEv nX4_worstPlace (0, [(0, .ref 41), (1, .ref p3)], [], M5) (fun o7 M8 => ∃ r9 : Int32, o7 = some (some (.int r9)) ∧ (jEv nX4_pulledMisses (0, [(0, .ref 41), (1, .ref p3), (2, .int r9)], [], M8) (fun o10 M11 => ∃ r12 : Int64, o10 = some (some (.long r12)) ∧ (jEv nX4_squaredPulls (0, [(0, .ref 41), (1, .ref p3), (2, .int r9)], [], M11) (fun o13 M14 => ∃ r15 : Int64, o13 = some (some (.long r15)) ∧ ((r15 = 0 → (jEv nX1_set (0, [(0, .ref 66), (1, .long (r12 * r12)), (3, .long 1)], [], M14) (fun o22 M23 => o22 = some none ∧ (∀ M24 : jM, M24 = jsi M23 0 15 1 → K (some (some (.int r9))) M24)))) ∧ (¬ r15 = 0 → (jEv nX7_power (0, [(0, .long ((M14.1 p3 1).toInt64)), (2, .int 2)], [], M14) (fun o16 M17 => ∃ r18 : Int64, o16 = some (some (.long r18)) ∧ (jEv nX1_set (0, [(0, .ref 66), (1, .long (r12 * r12)), (3, .long (r15 * r18))], [], M17) (fun o19 M20 => o19 = some none ∧ (∀ M21 : jM, M21 = jsi M20 0 15 1 → K (some (some (.int r9))) M21)))))))))))))) ∧ (¬ (M5.1 p3 2) < (M5.1 41 2) → K (some (some (.int (-1)))) M5)))))))))) : jEv nX7_amiss (0, [(0, .ref 0), (1, .int x1)], [], M) K := by
  have hE : jMT nX7_amiss = some me_X7_amiss := rfl
  refine e_seg (k := 2) (d := (2, [(0, .ref 0), (1, .int x1)], [.int x1, .ref 0], M)) rfl ?_
  refine e_call (q := 5) (L0 := [(0, .ref 0), (1, .int x1)]) hE rfl rfl rfl rfl (jargs_V rfl rfl rfl rfl rfl (Nat.le_of_ble_eq_true rfl) (Nat.le_of_ble_eq_true rfl) (Nat.le_of_ble_eq_true rfl)) rfl rfl (jEv.mono h (fun o1 M2 h => ?_))
  rcases h with ⟨rfl, h⟩ | ⟨p3, hp3, rfl, h⟩
  · refine ⟨_, rfl, ?_⟩
    show jEv nX7_amiss (5, [(0, .ref 0), (1, .int x1)], [.null], M2) K
    refine e_seg (k := 4) (d := (35, [(0, .ref 0), (1, .int x1), (2, .null)], [.int (-1)], M2)) rfl ?_
    exact e_ret hE rfl rfl (jb_i rfl) h
  · refine ⟨_, rfl, ?_⟩
    show jEv nX7_amiss (5, [(0, .ref 0), (1, .int x1)], [.ref p3], M2) K
    refine e_seg (k := 5) (d := (14, [(0, .ref 0), (1, .int x1), (2, .ref p3)], [.ref 41], M2)) rfl ?_
    refine e_call (q := 17) (L0 := [(0, .ref 41)]) hE rfl rfl rfl rfl (jargs_V rfl rfl rfl rfl rfl (Nat.le_of_ble_eq_true rfl) (Nat.le_of_ble_eq_true rfl) (Nat.le_of_ble_eq_true rfl)) rfl rfl (jEv.mono h (fun o4 M5 h => ?_))
    obtain ⟨r6, rfl, h⟩ := h
    refine ⟨_, rfl, ?_⟩
    show jEv nX7_amiss (17, [(0, .ref 0), (1, .int x1), (2, .ref p3)], [.int r6], M5) K
    refine e_if_gt (t := 34) (q := 20) hE rfl rfl rfl rfl (fun hbr => ?_) (fun hbr => ?_)
    · replace h := h.1 hbr
      refine e_seg (k := 1) (d := (35, [(0, .ref 0), (1, .int x1), (2, .ref p3)], [.int (-1)], M5)) rfl ?_
      exact e_ret hE rfl rfl (jb_i rfl) h
    · replace h := h.2 hbr
      refine e_seg (k := 4) (d := (28, [(0, .ref 0), (1, .int x1), (2, .ref p3)], [.ref p3, .int (M5.1 41 2)], M5)) rfl ?_
      refine e_get (v := .int (M5.1 p3 2)) (q := 31) hE rfl rfl rfl rfl (jRu_o hp3) rfl rfl ?_
      refine e_ic_gt (t := 36) (q := 34) hE rfl rfl rfl rfl (fun hbr => ?_) (fun hbr => ?_)
      · replace h := h.1 hbr
        refine e_seg (k := 3) (d := (41, [(0, .ref 0), (1, .int x1), (2, .ref p3)], [.ref p3, .ref 41], M5)) rfl ?_
        refine e_call (q := 44) (L0 := [(0, .ref 41), (1, .ref p3)]) hE rfl rfl rfl rfl (jargs_V rfl rfl rfl rfl rfl (Nat.le_of_ble_eq_true rfl) (Nat.le_of_ble_eq_true rfl) (Nat.le_of_ble_eq_true rfl)) rfl rfl (jEv.mono h (fun o7 M8 h => ?_))
        obtain ⟨r9, rfl, h⟩ := h
        refine ⟨_, rfl, ?_⟩
        show jEv nX7_amiss (44, [(0, .ref 0), (1, .int x1), (2, .ref p3)], [.int r9], M8) K
        refine e_seg (k := 5) (d := (51, [(0, .ref 0), (1, .int x1), (2, .ref p3), (3, .int r9)], [.int r9, .ref p3, .ref 41], M8)) rfl ?_
        refine e_call (q := 54) (L0 := [(0, .ref 41), (1, .ref p3), (2, .int r9)]) hE rfl rfl rfl rfl (jargs_V rfl rfl rfl rfl rfl (Nat.le_of_ble_eq_true rfl) (Nat.le_of_ble_eq_true rfl) (Nat.le_of_ble_eq_true rfl)) rfl rfl (jEv.mono h (fun o10 M11 h => ?_))
        obtain ⟨r12, rfl, h⟩ := h
        refine ⟨_, rfl, ?_⟩
        show jEv nX7_amiss (54, [(0, .ref 0), (1, .int x1), (2, .ref p3), (3, .int r9)], [.long r12], M11) K
        refine e_seg (k := 5) (d := (62, [(0, .ref 0), (1, .int x1), (2, .ref p3), (3, .int r9), (4, .long r12)], [.int r9, .ref p3, .ref 41], M11)) rfl ?_
        refine e_call (q := 65) (L0 := [(0, .ref 41), (1, .ref p3), (2, .int r9)]) hE rfl rfl rfl rfl (jargs_V rfl rfl rfl rfl rfl (Nat.le_of_ble_eq_true rfl) (Nat.le_of_ble_eq_true rfl) (Nat.le_of_ble_eq_true rfl)) rfl rfl (jEv.mono h (fun o13 M14 h => ?_))
        obtain ⟨r15, rfl, h⟩ := h
        refine ⟨_, rfl, ?_⟩
        show jEv nX7_amiss (65, [(0, .ref 0), (1, .int x1), (2, .ref p3), (3, .int r9), (4, .long r12)], [.long r15], M14) K
        refine e_seg (k := 8) (d := (79, [(0, .ref 0), (1, .int x1), (2, .ref p3), (3, .int r9), (4, .long r12), (6, .long r15)], [.long 0, .long r15, .long (r12 * r12), .ref 66], M14)) rfl ?_
        refine e_lc (t := 87) (q := 83) (pc1 := 80) hE rfl rfl rfl rfl rfl rfl (lc_ne r15 0) rfl rfl (fun hbr => ?_) (fun hbr => ?_)
        · replace h := h.2 hbr
          refine e_seg (k := 2) (d := (90, [(0, .ref 0), (1, .int x1), (2, .ref p3), (3, .int r9), (4, .long r12), (6, .long r15)], [.ref p3, .long r15, .long (r12 * r12), .ref 66], M14)) rfl ?_
          refine e_get (v := .int (M14.1 p3 1)) (q := 93) hE rfl rfl rfl rfl (jRu_o hp3) rfl rfl ?_
          refine e_seg (k := 2) (d := (95, [(0, .ref 0), (1, .int x1), (2, .ref p3), (3, .int r9), (4, .long r12), (6, .long r15)], [.int 2, .long ((M14.1 p3 1).toInt64), .long r15, .long (r12 * r12), .ref 66], M14)) rfl ?_
          refine e_call (q := 98) (L0 := [(0, .long ((M14.1 p3 1).toInt64)), (2, .int 2)]) hE rfl rfl rfl rfl (jargs_S rfl rfl rfl rfl (Nat.le_of_ble_eq_true rfl) (Nat.le_of_ble_eq_true rfl) (Nat.le_of_ble_eq_true rfl)) rfl rfl (jEv.mono h (fun o16 M17 h => ?_))
          obtain ⟨r18, rfl, h⟩ := h
          refine ⟨_, rfl, ?_⟩
          show jEv nX7_amiss (98, [(0, .ref 0), (1, .int x1), (2, .ref p3), (3, .int r9), (4, .long r12), (6, .long r15)], [.long r18, .long r15, .long (r12 * r12), .ref 66], M17) K
          refine e_seg (k := 1) (d := (99, [(0, .ref 0), (1, .int x1), (2, .ref p3), (3, .int r9), (4, .long r12), (6, .long r15)], [.long (r15 * r18), .long (r12 * r12), .ref 66], M17)) rfl ?_
          refine e_call (q := 102) (L0 := [(0, .ref 66), (1, .long (r12 * r12)), (3, .long (r15 * r18))]) hE rfl rfl rfl rfl (jargs_V rfl rfl rfl rfl rfl (Nat.le_of_ble_eq_true rfl) (Nat.le_of_ble_eq_true rfl) (Nat.le_of_ble_eq_true rfl)) rfl rfl (jEv.mono h (fun o19 M20 h => ?_))
          obtain ⟨rfl, h⟩ := h
          refine ⟨_, rfl, ?_⟩
          show jEv nX7_amiss (102, [(0, .ref 0), (1, .int x1), (2, .ref p3), (3, .int r9), (4, .long r12), (6, .long r15)], [], M20) K
          refine e_seg (k := 2) (d := (104, [(0, .ref 0), (1, .int x1), (2, .ref p3), (3, .int r9), (4, .long r12), (6, .long r15)], [.int 1, .ref 0], M20)) rfl ?_
          refine e_put (q := 107) hE rfl rfl rfl rfl rfl rfl rfl ?_
          obtain ⟨M21, hM21⟩ : ∃ z : jM, z = jsi M20 0 15 1 := ⟨_, rfl⟩
          refine jEv_M hM21 ?_
          replace h := h M21 hM21
          refine e_seg (k := 1) (d := (108, [(0, .ref 0), (1, .int x1), (2, .ref p3), (3, .int r9), (4, .long r12), (6, .long r15)], [.int r9], M21)) rfl ?_
          exact e_ret hE rfl rfl (jb_i rfl) h
        · replace h := h.1 (Classical.byContradiction hbr)
          refine e_seg (k := 2) (d := (99, [(0, .ref 0), (1, .int x1), (2, .ref p3), (3, .int r9), (4, .long r12), (6, .long r15)], [.long 1, .long (r12 * r12), .ref 66], M14)) rfl ?_
          refine e_call (q := 102) (L0 := [(0, .ref 66), (1, .long (r12 * r12)), (3, .long 1)]) hE rfl rfl rfl rfl (jargs_V rfl rfl rfl rfl rfl (Nat.le_of_ble_eq_true rfl) (Nat.le_of_ble_eq_true rfl) (Nat.le_of_ble_eq_true rfl)) rfl rfl (jEv.mono h (fun o22 M23 h => ?_))
          obtain ⟨rfl, h⟩ := h
          refine ⟨_, rfl, ?_⟩
          show jEv nX7_amiss (102, [(0, .ref 0), (1, .int x1), (2, .ref p3), (3, .int r9), (4, .long r12), (6, .long r15)], [], M23) K
          refine e_seg (k := 2) (d := (104, [(0, .ref 0), (1, .int x1), (2, .ref p3), (3, .int r9), (4, .long r12), (6, .long r15)], [.int 1, .ref 0], M23)) rfl ?_
          refine e_put (q := 107) hE rfl rfl rfl rfl rfl rfl rfl ?_
          obtain ⟨M24, hM24⟩ : ∃ z : jM, z = jsi M23 0 15 1 := ⟨_, rfl⟩
          refine jEv_M hM24 ?_
          replace h := h M24 hM24
          refine e_seg (k := 1) (d := (108, [(0, .ref 0), (1, .int x1), (2, .ref p3), (3, .int r9), (4, .long r12), (6, .long r15)], [.int r9], M24)) rfl ?_
          exact e_ret hE rfl rfl (jb_i rfl) h
      · replace h := h.2 hbr
        refine e_seg (k := 1) (d := (35, [(0, .ref 0), (1, .int x1), (2, .ref p3)], [.int (-1)], M5)) rfl ?_
        exact e_ret hE rfl rfl (jb_i rfl) h
set_option maxRecDepth 100000 in
set_option maxHeartbeats 4000000 in
theorem v_X7_fill_0 {K : jK} {M : jM} {x1 : Int32} (h : (jEv nX7_plainRule (0, [(0, .ref 0), (1, .int x1)], [], M) (fun o1 M2 => (o1 = some (some .null) ∧ K (some (some (.int (-1)))) M2) ∨ (∃ p3 : Nat, jRu p3 ∧ o1 = some (some (.ref p3)) ∧ (jEv nX4_gapCount (0, [(0, .ref 41)], [], M2) (fun o4 M5 => ∃ r6 : Int32, o4 = some (some (.int r6)) ∧ (jEv nX7_isWithin (0, [(0, .int r6), (1, .int 1), (2, .int 3)], [], M5) (fun o7 M8 => ∃ r9 : Int32, o7 = some (some (.int r9)) ∧ ((r9 = 0 → K (some (some (.int 0))) M8) ∧ (¬ r9 = 0 → (jEv nX4_askForGaps (0, [(0, .ref 41), (1, .ref p3), (2, .int r6), (3, .ref 44)], [], M8) (fun o10 M11 => o10 = some none ∧ (jEv nX0_solve (0, [(0, .ref 44), (1, .int r6)], [], M11) (fun o12 M13 => ∃ r14 : Int32, o12 = some (some (.int r14)) ∧ ((r14 = 0 → K (some (some (.int 0))) M13) ∧ (¬ r14 = 0 → jEv nX7_fill (60, [(0, .ref 0), (3, .int r6), (4, .int 0)], [], M13) K)))))))))))))))) : jEv nX7_fill (0, [(0, .ref 0), (1, .int x1)], [], M) K := by
  have hE : jMT nX7_fill = some me_X7_fill := rfl
  refine e_seg (k := 2) (d := (2, [(0, .ref 0), (1, .int x1)], [.int x1, .ref 0], M)) rfl ?_
  refine e_call (q := 5) (L0 := [(0, .ref 0), (1, .int x1)]) hE rfl rfl rfl rfl (jargs_V rfl rfl rfl rfl rfl (Nat.le_of_ble_eq_true rfl) (Nat.le_of_ble_eq_true rfl) (Nat.le_of_ble_eq_true rfl)) rfl rfl (jEv.mono h (fun o1 M2 h => ?_))
  rcases h with ⟨rfl, h⟩ | ⟨p3, hp3, rfl, h⟩
  · refine ⟨_, rfl, ?_⟩
    show jEv nX7_fill (5, [(0, .ref 0), (1, .int x1)], [.null], M2) K
    refine e_seg (k := 4) (d := (11, [(0, .ref 0), (1, .int x1), (2, .null)], [.int (-1)], M2)) rfl ?_
    exact e_ret hE rfl rfl (jb_i rfl) h
  · refine ⟨_, rfl, ?_⟩
    show jEv nX7_fill (5, [(0, .ref 0), (1, .int x1)], [.ref p3], M2) K
    refine e_seg (k := 5) (d := (16, [(0, .ref 0), (1, .int x1), (2, .ref p3)], [.ref 41], M2)) rfl ?_
    refine e_call (q := 19) (L0 := [(0, .ref 41)]) hE rfl rfl rfl rfl (jargs_V rfl rfl rfl rfl rfl (Nat.le_of_ble_eq_true rfl) (Nat.le_of_ble_eq_true rfl) (Nat.le_of_ble_eq_true rfl)) rfl rfl (jEv.mono h (fun o4 M5 h => ?_))
    obtain ⟨r6, rfl, h⟩ := h
    refine ⟨_, rfl, ?_⟩
    show jEv nX7_fill (19, [(0, .ref 0), (1, .int x1), (2, .ref p3)], [.int r6], M5) K
    refine e_seg (k := 4) (d := (23, [(0, .ref 0), (1, .int x1), (2, .ref p3), (3, .int r6)], [.int 3, .int 1, .int r6], M5)) rfl ?_
    refine e_call (q := 26) (L0 := [(0, .int r6), (1, .int 1), (2, .int 3)]) hE rfl rfl rfl rfl (jargs_S rfl rfl rfl rfl (Nat.le_of_ble_eq_true rfl) (Nat.le_of_ble_eq_true rfl) (Nat.le_of_ble_eq_true rfl)) rfl rfl (jEv.mono h (fun o7 M8 h => ?_))
    obtain ⟨r9, rfl, h⟩ := h
    refine ⟨_, rfl, ?_⟩
    show jEv nX7_fill (26, [(0, .ref 0), (1, .int x1), (2, .ref p3), (3, .int r6)], [.int r9], M8) K
    refine e_if_ne (t := 31) (q := 29) hE rfl rfl rfl rfl (fun hbr => ?_) (fun hbr => ?_)
    · replace h := h.2 hbr
      refine e_seg (k := 6) (d := (41, [(0, .ref 0), (1, .int x1), (2, .ref p3), (3, .int r6)], [.ref 44, .int r6, .ref p3, .ref 41], M8)) rfl ?_
      refine e_call (q := 44) (L0 := [(0, .ref 41), (1, .ref p3), (2, .int r6), (3, .ref 44)]) hE rfl rfl rfl rfl (jargs_V rfl rfl rfl rfl rfl (Nat.le_of_ble_eq_true rfl) (Nat.le_of_ble_eq_true rfl) (Nat.le_of_ble_eq_true rfl)) rfl rfl (jEv.mono h (fun o10 M11 h => ?_))
      obtain ⟨rfl, h⟩ := h
      refine ⟨_, rfl, ?_⟩
      show jEv nX7_fill (44, [(0, .ref 0), (1, .int x1), (2, .ref p3), (3, .int r6)], [], M11) K
      refine e_seg (k := 3) (d := (49, [(0, .ref 0), (1, .int x1), (2, .ref p3), (3, .int r6)], [.int r6, .ref 44], M11)) rfl ?_
      refine e_call (q := 52) (L0 := [(0, .ref 44), (1, .int r6)]) hE rfl rfl rfl rfl (jargs_V rfl rfl rfl rfl rfl (Nat.le_of_ble_eq_true rfl) (Nat.le_of_ble_eq_true rfl) (Nat.le_of_ble_eq_true rfl)) rfl rfl (jEv.mono h (fun o12 M13 h => ?_))
      obtain ⟨r14, rfl, h⟩ := h
      refine ⟨_, rfl, ?_⟩
      show jEv nX7_fill (52, [(0, .ref 0), (1, .int x1), (2, .ref p3), (3, .int r6)], [.int r14], M13) K
      refine e_if_ne (t := 57) (q := 55) hE rfl rfl rfl rfl (fun hbr => ?_) (fun hbr => ?_)
      · replace h := h.2 hbr
        refine e_seg (k := 2) (d := (60, [(0, .ref 0), (1, .int x1), (2, .ref p3), (3, .int r6), (4, .int 0)], [], M13)) rfl ?_
        refine e_cut (ks := [0, 3, 4]) (L' := [(0, .ref 0), (3, .int r6), (4, .int 0)]) hE rfl rfl rfl rfl rfl ?_
        exact h
      · replace h := h.1 hbr
        refine e_seg (k := 1) (d := (56, [(0, .ref 0), (1, .int x1), (2, .ref p3), (3, .int r6)], [.int 0], M13)) rfl ?_
        exact e_ret hE rfl rfl (jb_i rfl) h
    · replace h := h.1 hbr
      refine e_seg (k := 1) (d := (30, [(0, .ref 0), (1, .int x1), (2, .ref p3), (3, .int r6)], [.int 0], M8)) rfl ?_
      exact e_ret hE rfl rfl (jb_i rfl) h
set_option maxRecDepth 100000 in
set_option maxHeartbeats 4000000 in
theorem v_X7_fill_60 {K : jK} {M : jM} {x3 : Int32} {x4 : Int32} (h : ((x3 ≤ x4 → (∀ M1 : jM, M1 = jsi M 0 13 x3 → K (some (some (.int x3))) M1)) ∧ (¬ x3 ≤ x4 → (¬ (x4 < 0 ∨ 3 ≤ x4.toNatClampNeg) ∧ (¬ (x4 < 0 ∨ 4 ≤ x4.toNatClampNeg) ∧ (jEv nX1_set (0, [(0, .ref (63 + x4.toNatClampNeg)), (1, .long (M.2 51 x4.toNatClampNeg)), (3, .long (M.2 44 4))], [], M) (fun o3 M4 => o3 = some none ∧ jEv nX7_fill (60, [(0, .ref 0), (3, .int x3), (4, .int (x4 + 1))], [], M4) K))))))) : jEv nX7_fill (60, [(0, .ref 0), (3, .int x3), (4, .int x4)], [], M) K := by
  have hE : jMT nX7_fill = some me_X7_fill := rfl
  refine e_seg (k := 2) (d := (63, [(0, .ref 0), (3, .int x3), (4, .int x4)], [.int x3, .int x4], M)) rfl ?_
  refine e_ic_ge (t := 99) (q := 66) hE rfl rfl rfl rfl (fun hbr => ?_) (fun hbr => ?_)
  · replace h := h.1 hbr
    refine e_seg (k := 2) (d := (101, [(0, .ref 0), (3, .int x3), (4, .int x4)], [.int x3, .ref 0], M)) rfl ?_
    refine e_put (q := 104) hE rfl rfl rfl rfl rfl rfl rfl ?_
    obtain ⟨M1, hM1⟩ : ∃ z : jM, z = jsi M 0 13 x3 := ⟨_, rfl⟩
    refine jEv_M hM1 ?_
    replace h := h M1 hM1
    refine e_seg (k := 1) (d := (105, [(0, .ref 0), (3, .int x3), (4, .int x4)], [.int x3], M1)) rfl ?_
    exact e_ret hE rfl rfl (jb_i rfl) h
  · replace h := h.2 hbr
    refine e_seg (k := 3) (d := (72, [(0, .ref 0), (3, .int x3), (4, .int x4)], [.int x4, .ref 62], M)) rfl ?_
    have hi2 := h.1
    replace h := h.2
    refine e_aald (q := 73) hE rfl rfl rfl rfl (by decide) hi2 (jFr_l hi2) ?_
    refine e_seg (k := 4) (d := (82, [(0, .ref 0), (3, .int x3), (4, .int x4)], [.int x4, .ref 51, .ref (63 + x4.toNatClampNeg)], M)) rfl ?_
    refine e_lald (q := 83) hE rfl rfl rfl rfl h.1 ?_
    replace h := h.2
    refine e_seg (k := 3) (d := (90, [(0, .ref 0), (3, .int x3), (4, .int x4)], [.long (M.2 44 4), .long (M.2 51 x4.toNatClampNeg), .ref (63 + x4.toNatClampNeg)], M)) rfl ?_
    refine e_call (q := 93) (L0 := [(0, .ref (63 + x4.toNatClampNeg)), (1, .long (M.2 51 x4.toNatClampNeg)), (3, .long (M.2 44 4))]) hE rfl rfl rfl rfl (jargs_V (jFr_o (jFr_i hi2)) rfl rfl rfl rfl (Nat.le_of_ble_eq_true rfl) (Nat.le_of_ble_eq_true rfl) (Nat.le_of_ble_eq_true rfl)) rfl rfl (jEv.mono h (fun o3 M4 h => ?_))
    obtain ⟨rfl, h⟩ := h
    refine ⟨_, rfl, ?_⟩
    show jEv nX7_fill (93, [(0, .ref 0), (3, .int x3), (4, .int x4)], [], M4) K
    refine e_seg (k := 2) (d := (60, [(0, .ref 0), (3, .int x3), (4, .int (x4 + 1))], [], M4)) rfl ?_
    refine e_cut (ks := [0, 3, 4]) (L' := [(0, .ref 0), (3, .int x3), (4, .int (x4 + 1))]) hE rfl rfl rfl rfl rfl ?_
    exact h
set_option maxRecDepth 100000 in
set_option maxHeartbeats 4000000 in
theorem v_X7_left_0 {K : jK} {M : jM} {x1 : Int32} {x2 : Int32} {x3 : Int32} (h : (jEv nX7_toldLikenesses (0, [(0, .ref 0), (1, .int x1)], [], M) (fun o1 M2 => (o1 = some (some .null) ∧ K none M2) ∨ (∃ p3 : Nat, jLi p3 ∧ o1 = some (some (.ref p3)) ∧ ((x2 < 0 → K none M2) ∧ (¬ x2 < 0 → (jEv nX3_stepsThere (0, [(0, .ref p3), (1, .ref 44)], [], M2) (fun o4 M5 => ∃ r6 : Int32, o4 = some (some (.int r6)) ∧ ((r6 < x2 → K none M5) ∧ (¬ r6 < x2 → (jEv nX7_isPart (0, [(0, .int x3)], [], M5) (fun o7 M8 => ∃ r9 : Int32, o7 = some (some (.int r9)) ∧ ((r9 = 0 → K none M8) ∧ (¬ r9 = 0 → (jEv nX3_solveStep (0, [(0, .ref p3), (1, .int x2), (2, .ref 44)], [], M8) (fun o10 M11 => o10 = some none ∧ (jEv nX3_restTop (0, [(0, .ref p3), (1, .int x2), (2, .ref 44)], [], M11) (fun o12 M13 => ∃ r14 : Int64, o12 = some (some (.long r14)) ∧ (jEv nX1_set (0, [(0, .ref 60), (1, .long r14), (3, .long (M13.2 44 4))], [], M13) (fun o15 M16 => o15 = some none ∧ (jEv nX1_part (0, [(0, .ref 60), (1, .int x3)], [], M16) (fun o17 M18 => ∃ r19 : Int64, o17 = some (some (.long r19)) ∧ K (some (some (.long r19))) M18)))))))))))))))))))))) : jEv nX7_left (0, [(0, .ref 0), (1, .int x1), (2, .int x2), (3, .int x3)], [], M) K := by
  have hE : jMT nX7_left = some me_X7_left := rfl
  refine e_seg (k := 2) (d := (2, [(0, .ref 0), (1, .int x1), (2, .int x2), (3, .int x3)], [.int x1, .ref 0], M)) rfl ?_
  refine e_call (q := 5) (L0 := [(0, .ref 0), (1, .int x1)]) hE rfl rfl rfl rfl (jargs_V rfl rfl rfl rfl rfl (Nat.le_of_ble_eq_true rfl) (Nat.le_of_ble_eq_true rfl) (Nat.le_of_ble_eq_true rfl)) rfl rfl (jEv.mono h (fun o1 M2 h => ?_))
  rcases h with ⟨rfl, h⟩ | ⟨p3, hp3, rfl, h⟩
  · refine ⟨_, rfl, ?_⟩
    show jEv nX7_left (5, [(0, .ref 0), (1, .int x1), (2, .int x2), (3, .int x3)], [.null], M2) K
    refine e_seg (k := 3) (d := (36, [(0, .ref 0), (1, .int x1), (2, .int x2), (3, .int x3), (4, .null)], [], M2)) rfl ?_
    exact e_new hE rfl rfl h
  · refine ⟨_, rfl, ?_⟩
    show jEv nX7_left (5, [(0, .ref 0), (1, .int x1), (2, .int x2), (3, .int x3)], [.ref p3], M2) K
    refine e_seg (k := 4) (d := (13, [(0, .ref 0), (1, .int x1), (2, .int x2), (3, .int x3), (4, .ref p3)], [.int x2], M2)) rfl ?_
    refine e_if_lt (t := 36) (q := 16) hE rfl rfl rfl rfl (fun hbr => ?_) (fun hbr => ?_)
    · replace h := h.1 hbr
      exact e_new hE rfl rfl h
    · replace h := h.2 hbr
      refine e_seg (k := 4) (d := (23, [(0, .ref 0), (1, .int x1), (2, .int x2), (3, .int x3), (4, .ref p3)], [.ref 44, .ref p3, .int x2], M2)) rfl ?_
      refine e_call (q := 26) (L0 := [(0, .ref p3), (1, .ref 44)]) hE rfl rfl rfl rfl (jargs_V (jLi_o hp3) rfl rfl rfl rfl (Nat.le_of_ble_eq_true rfl) (Nat.le_of_ble_eq_true rfl) (Nat.le_of_ble_eq_true rfl)) rfl rfl (jEv.mono h (fun o4 M5 h => ?_))
      obtain ⟨r6, rfl, h⟩ := h
      refine ⟨_, rfl, ?_⟩
      show jEv nX7_left (26, [(0, .ref 0), (1, .int x1), (2, .int x2), (3, .int x3), (4, .ref p3)], [.int r6, .int x2], M5) K
      refine e_ic_gt (t := 36) (q := 29) hE rfl rfl rfl rfl (fun hbr => ?_) (fun hbr => ?_)
      · replace h := h.1 hbr
        exact e_new hE rfl rfl h
      · replace h := h.2 hbr
        refine e_seg (k := 1) (d := (30, [(0, .ref 0), (1, .int x1), (2, .int x2), (3, .int x3), (4, .ref p3)], [.int x3], M5)) rfl ?_
        refine e_call (q := 33) (L0 := [(0, .int x3)]) hE rfl rfl rfl rfl (jargs_S rfl rfl rfl rfl (Nat.le_of_ble_eq_true rfl) (Nat.le_of_ble_eq_true rfl) (Nat.le_of_ble_eq_true rfl)) rfl rfl (jEv.mono h (fun o7 M8 h => ?_))
        obtain ⟨r9, rfl, h⟩ := h
        refine ⟨_, rfl, ?_⟩
        show jEv nX7_left (33, [(0, .ref 0), (1, .int x1), (2, .int x2), (3, .int x3), (4, .ref p3)], [.int r9], M8) K
        refine e_if_ne (t := 46) (q := 36) hE rfl rfl rfl rfl (fun hbr => ?_) (fun hbr => ?_)
        · replace h := h.2 hbr
          refine e_seg (k := 4) (d := (53, [(0, .ref 0), (1, .int x1), (2, .int x2), (3, .int x3), (4, .ref p3)], [.ref 44, .int x2, .ref p3], M8)) rfl ?_
          refine e_call (q := 56) (L0 := [(0, .ref p3), (1, .int x2), (2, .ref 44)]) hE rfl rfl rfl rfl (jargs_V (jLi_o hp3) rfl rfl rfl rfl (Nat.le_of_ble_eq_true rfl) (Nat.le_of_ble_eq_true rfl) (Nat.le_of_ble_eq_true rfl)) rfl rfl (jEv.mono h (fun o10 M11 h => ?_))
          obtain ⟨rfl, h⟩ := h
          refine ⟨_, rfl, ?_⟩
          show jEv nX7_left (56, [(0, .ref 0), (1, .int x1), (2, .int x2), (3, .int x3), (4, .ref p3)], [], M11) K
          refine e_seg (k := 6) (d := (67, [(0, .ref 0), (1, .int x1), (2, .int x2), (3, .int x3), (4, .ref p3)], [.ref 44, .int x2, .ref p3, .ref 60], M11)) rfl ?_
          refine e_call (q := 70) (L0 := [(0, .ref p3), (1, .int x2), (2, .ref 44)]) hE rfl rfl rfl rfl (jargs_V (jLi_o hp3) rfl rfl rfl rfl (Nat.le_of_ble_eq_true rfl) (Nat.le_of_ble_eq_true rfl) (Nat.le_of_ble_eq_true rfl)) rfl rfl (jEv.mono h (fun o12 M13 h => ?_))
          obtain ⟨r14, rfl, h⟩ := h
          refine ⟨_, rfl, ?_⟩
          show jEv nX7_left (70, [(0, .ref 0), (1, .int x1), (2, .int x2), (3, .int x3), (4, .ref p3)], [.long r14, .ref 60], M13) K
          refine e_seg (k := 3) (d := (77, [(0, .ref 0), (1, .int x1), (2, .int x2), (3, .int x3), (4, .ref p3)], [.long (M13.2 44 4), .long r14, .ref 60], M13)) rfl ?_
          refine e_call (q := 80) (L0 := [(0, .ref 60), (1, .long r14), (3, .long (M13.2 44 4))]) hE rfl rfl rfl rfl (jargs_V rfl rfl rfl rfl rfl (Nat.le_of_ble_eq_true rfl) (Nat.le_of_ble_eq_true rfl) (Nat.le_of_ble_eq_true rfl)) rfl rfl (jEv.mono h (fun o15 M16 h => ?_))
          obtain ⟨rfl, h⟩ := h
          refine ⟨_, rfl, ?_⟩
          show jEv nX7_left (80, [(0, .ref 0), (1, .int x1), (2, .int x2), (3, .int x3), (4, .ref p3)], [], M16) K
          refine e_seg (k := 3) (d := (85, [(0, .ref 0), (1, .int x1), (2, .int x2), (3, .int x3), (4, .ref p3)], [.int x3, .ref 60], M16)) rfl ?_
          refine e_call (q := 88) (L0 := [(0, .ref 60), (1, .int x3)]) hE rfl rfl rfl rfl (jargs_V rfl rfl rfl rfl rfl (Nat.le_of_ble_eq_true rfl) (Nat.le_of_ble_eq_true rfl) (Nat.le_of_ble_eq_true rfl)) rfl rfl (jEv.mono h (fun o17 M18 h => ?_))
          obtain ⟨r19, rfl, h⟩ := h
          refine ⟨_, rfl, ?_⟩
          show jEv nX7_left (88, [(0, .ref 0), (1, .int x1), (2, .int x2), (3, .int x3), (4, .ref p3)], [.long r19], M18) K
          exact e_ret hE rfl rfl (jb_l rfl) h
        · replace h := h.1 hbr
          exact e_new hE rfl rfl h
set_option maxRecDepth 100000 in
set_option maxHeartbeats 4000000 in
theorem v_X7_share_0 {K : jK} {M : jM} {x1 : Int32} {x2 : Int32} {x3 : Int32} {x4 : Int32} (h : (jEv nX7_toldLikenesses (0, [(0, .ref 0), (1, .int x1)], [], M) (fun o1 M2 => (o1 = some (some .null) ∧ K none M2) ∨ (∃ p3 : Nat, jLi p3 ∧ o1 = some (some (.ref p3)) ∧ ((x3 < 1 → K none M2) ∧ (¬ x3 < 1 → ((x2 < x3 → K none M2) ∧ (¬ x2 < x3 → (jEv nX3_stepsThere (0, [(0, .ref p3), (1, .ref 44)], [], M2) (fun o4 M5 => ∃ r6 : Int32, o4 = some (some (.int r6)) ∧ ((r6 < x2 → K none M5) ∧ (¬ r6 < x2 → (jEv nX7_isPart (0, [(0, .int x4)], [], M5) (fun o7 M8 => ∃ r9 : Int32, o7 = some (some (.int r9)) ∧ ((r9 = 0 → K none M8) ∧ (¬ r9 = 0 → (jEv nX3_solveStep (0, [(0, .ref p3), (1, .int x2), (2, .ref 44)], [], M8) (fun o10 M11 => o10 = some none ∧ (¬ (x3 - 1 < 0 ∨ 4 ≤ (x3 - 1).toNatClampNeg) ∧ (jEv nX1_set (0, [(0, .ref 60), (1, .long (M11.2 51 (x3 - 1).toNatClampNeg)), (3, .long (M11.2 44 4))], [], M11) (fun o12 M13 => o12 = some none ∧ (jEv nX1_part (0, [(0, .ref 60), (1, .int x4)], [], M13) (fun o14 M15 => ∃ r16 : Int64, o14 = some (some (.long r16)) ∧ K (some (some (.long r16))) M15))))))))))))))))))))))) : jEv nX7_share (0, [(0, .ref 0), (1, .int x1), (2, .int x2), (3, .int x3), (4, .int x4)], [], M) K := by
  have hE : jMT nX7_share = some me_X7_share := rfl
  refine e_seg (k := 2) (d := (2, [(0, .ref 0), (1, .int x1), (2, .int x2), (3, .int x3), (4, .int x4)], [.int x1, .ref 0], M)) rfl ?_
  refine e_call (q := 5) (L0 := [(0, .ref 0), (1, .int x1)]) hE rfl rfl rfl rfl (jargs_V rfl rfl rfl rfl rfl (Nat.le_of_ble_eq_true rfl) (Nat.le_of_ble_eq_true rfl) (Nat.le_of_ble_eq_true rfl)) rfl rfl (jEv.mono h (fun o1 M2 h => ?_))
  rcases h with ⟨rfl, h⟩ | ⟨p3, hp3, rfl, h⟩
  · refine ⟨_, rfl, ?_⟩
    show jEv nX7_share (5, [(0, .ref 0), (1, .int x1), (2, .int x2), (3, .int x3), (4, .int x4)], [.null], M2) K
    refine e_seg (k := 3) (d := (43, [(0, .ref 0), (1, .int x1), (2, .int x2), (3, .int x3), (4, .int x4), (5, .null)], [], M2)) rfl ?_
    exact e_new hE rfl rfl h
  · refine ⟨_, rfl, ?_⟩
    show jEv nX7_share (5, [(0, .ref 0), (1, .int x1), (2, .int x2), (3, .int x3), (4, .int x4)], [.ref p3], M2) K
    refine e_seg (k := 5) (d := (14, [(0, .ref 0), (1, .int x1), (2, .int x2), (3, .int x3), (4, .int x4), (5, .ref p3)], [.int 1, .int x3], M2)) rfl ?_
    refine e_ic_lt (t := 43) (q := 17) hE rfl rfl rfl rfl (fun hbr => ?_) (fun hbr => ?_)
    · replace h := h.1 hbr
      exact e_new hE rfl rfl h
    · replace h := h.2 hbr
      refine e_seg (k := 2) (d := (19, [(0, .ref 0), (1, .int x1), (2, .int x2), (3, .int x3), (4, .int x4), (5, .ref p3)], [.int x2, .int x3], M2)) rfl ?_
      refine e_ic_gt (t := 43) (q := 22) hE rfl rfl rfl rfl (fun hbr => ?_) (fun hbr => ?_)
      · replace h := h.1 hbr
        exact e_new hE rfl rfl h
      · replace h := h.2 hbr
        refine e_seg (k := 4) (d := (29, [(0, .ref 0), (1, .int x1), (2, .int x2), (3, .int x3), (4, .int x4), (5, .ref p3)], [.ref 44, .ref p3, .int x2], M2)) rfl ?_
        refine e_call (q := 32) (L0 := [(0, .ref p3), (1, .ref 44)]) hE rfl rfl rfl rfl (jargs_V (jLi_o hp3) rfl rfl rfl rfl (Nat.le_of_ble_eq_true rfl) (Nat.le_of_ble_eq_true rfl) (Nat.le_of_ble_eq_true rfl)) rfl rfl (jEv.mono h (fun o4 M5 h => ?_))
        obtain ⟨r6, rfl, h⟩ := h
        refine ⟨_, rfl, ?_⟩
        show jEv nX7_share (32, [(0, .ref 0), (1, .int x1), (2, .int x2), (3, .int x3), (4, .int x4), (5, .ref p3)], [.int r6, .int x2], M5) K
        refine e_ic_gt (t := 43) (q := 35) hE rfl rfl rfl rfl (fun hbr => ?_) (fun hbr => ?_)
        · replace h := h.1 hbr
          exact e_new hE rfl rfl h
        · replace h := h.2 hbr
          refine e_seg (k := 1) (d := (37, [(0, .ref 0), (1, .int x1), (2, .int x2), (3, .int x3), (4, .int x4), (5, .ref p3)], [.int x4], M5)) rfl ?_
          refine e_call (q := 40) (L0 := [(0, .int x4)]) hE rfl rfl rfl rfl (jargs_S rfl rfl rfl rfl (Nat.le_of_ble_eq_true rfl) (Nat.le_of_ble_eq_true rfl) (Nat.le_of_ble_eq_true rfl)) rfl rfl (jEv.mono h (fun o7 M8 h => ?_))
          obtain ⟨r9, rfl, h⟩ := h
          refine ⟨_, rfl, ?_⟩
          show jEv nX7_share (40, [(0, .ref 0), (1, .int x1), (2, .int x2), (3, .int x3), (4, .int x4), (5, .ref p3)], [.int r9], M8) K
          refine e_if_ne (t := 53) (q := 43) hE rfl rfl rfl rfl (fun hbr => ?_) (fun hbr => ?_)
          · replace h := h.2 hbr
            refine e_seg (k := 4) (d := (60, [(0, .ref 0), (1, .int x1), (2, .int x2), (3, .int x3), (4, .int x4), (5, .ref p3)], [.ref 44, .int x2, .ref p3], M8)) rfl ?_
            refine e_call (q := 63) (L0 := [(0, .ref p3), (1, .int x2), (2, .ref 44)]) hE rfl rfl rfl rfl (jargs_V (jLi_o hp3) rfl rfl rfl rfl (Nat.le_of_ble_eq_true rfl) (Nat.le_of_ble_eq_true rfl) (Nat.le_of_ble_eq_true rfl)) rfl rfl (jEv.mono h (fun o10 M11 h => ?_))
            obtain ⟨rfl, h⟩ := h
            refine ⟨_, rfl, ?_⟩
            show jEv nX7_share (63, [(0, .ref 0), (1, .int x1), (2, .int x2), (3, .int x3), (4, .int x4), (5, .ref p3)], [], M11) K
            refine e_seg (k := 8) (d := (77, [(0, .ref 0), (1, .int x1), (2, .int x2), (3, .int x3), (4, .int x4), (5, .ref p3)], [.int (x3 - 1), .ref 51, .ref 60], M11)) rfl ?_
            refine e_lald (q := 78) hE rfl rfl rfl rfl h.1 ?_
            replace h := h.2
            refine e_seg (k := 3) (d := (85, [(0, .ref 0), (1, .int x1), (2, .int x2), (3, .int x3), (4, .int x4), (5, .ref p3)], [.long (M11.2 44 4), .long (M11.2 51 (x3 - 1).toNatClampNeg), .ref 60], M11)) rfl ?_
            refine e_call (q := 88) (L0 := [(0, .ref 60), (1, .long (M11.2 51 (x3 - 1).toNatClampNeg)), (3, .long (M11.2 44 4))]) hE rfl rfl rfl rfl (jargs_V rfl rfl rfl rfl rfl (Nat.le_of_ble_eq_true rfl) (Nat.le_of_ble_eq_true rfl) (Nat.le_of_ble_eq_true rfl)) rfl rfl (jEv.mono h (fun o12 M13 h => ?_))
            obtain ⟨rfl, h⟩ := h
            refine ⟨_, rfl, ?_⟩
            show jEv nX7_share (88, [(0, .ref 0), (1, .int x1), (2, .int x2), (3, .int x3), (4, .int x4), (5, .ref p3)], [], M13) K
            refine e_seg (k := 3) (d := (94, [(0, .ref 0), (1, .int x1), (2, .int x2), (3, .int x3), (4, .int x4), (5, .ref p3)], [.int x4, .ref 60], M13)) rfl ?_
            refine e_call (q := 97) (L0 := [(0, .ref 60), (1, .int x4)]) hE rfl rfl rfl rfl (jargs_V rfl rfl rfl rfl rfl (Nat.le_of_ble_eq_true rfl) (Nat.le_of_ble_eq_true rfl) (Nat.le_of_ble_eq_true rfl)) rfl rfl (jEv.mono h (fun o14 M15 h => ?_))
            obtain ⟨r16, rfl, h⟩ := h
            refine ⟨_, rfl, ?_⟩
            show jEv nX7_share (97, [(0, .ref 0), (1, .int x1), (2, .int x2), (3, .int x3), (4, .int x4), (5, .ref p3)], [.long r16], M15) K
            exact e_ret hE rfl rfl (jb_l rfl) h
          · replace h := h.1 hbr
            exact e_new hE rfl rfl h
set_option maxRecDepth 100000 in
set_option maxHeartbeats 4000000 in
theorem v_X7_steps_0 {K : jK} {M : jM} {x1 : Int32} (h : (jEv nX7_toldLikenesses (0, [(0, .ref 0), (1, .int x1)], [], M) (fun o1 M2 => (o1 = some (some .null) ∧ K (some (some (.int (-1)))) M2) ∨ (∃ p3 : Nat, jLi p3 ∧ o1 = some (some (.ref p3)) ∧ (jEv nX3_stepsThere (0, [(0, .ref p3), (1, .ref 44)], [], M2) (fun o4 M5 => ∃ r6 : Int32, o4 = some (some (.int r6)) ∧ K (some (some (.int r6))) M5)))))) : jEv nX7_steps (0, [(0, .ref 0), (1, .int x1)], [], M) K := by
  have hE : jMT nX7_steps = some me_X7_steps := rfl
  refine e_seg (k := 2) (d := (2, [(0, .ref 0), (1, .int x1)], [.int x1, .ref 0], M)) rfl ?_
  refine e_call (q := 5) (L0 := [(0, .ref 0), (1, .int x1)]) hE rfl rfl rfl rfl (jargs_V rfl rfl rfl rfl rfl (Nat.le_of_ble_eq_true rfl) (Nat.le_of_ble_eq_true rfl) (Nat.le_of_ble_eq_true rfl)) rfl rfl (jEv.mono h (fun o1 M2 h => ?_))
  rcases h with ⟨rfl, h⟩ | ⟨p3, hp3, rfl, h⟩
  · refine ⟨_, rfl, ?_⟩
    show jEv nX7_steps (5, [(0, .ref 0), (1, .int x1)], [.null], M2) K
    refine e_seg (k := 4) (d := (11, [(0, .ref 0), (1, .int x1), (2, .null)], [.int (-1)], M2)) rfl ?_
    exact e_ret hE rfl rfl (jb_i rfl) h
  · refine ⟨_, rfl, ?_⟩
    show jEv nX7_steps (5, [(0, .ref 0), (1, .int x1)], [.ref p3], M2) K
    refine e_seg (k := 6) (d := (17, [(0, .ref 0), (1, .int x1), (2, .ref p3)], [.ref 44, .ref p3], M2)) rfl ?_
    refine e_call (q := 20) (L0 := [(0, .ref p3), (1, .ref 44)]) hE rfl rfl rfl rfl (jargs_V (jLi_o hp3) rfl rfl rfl rfl (Nat.le_of_ble_eq_true rfl) (Nat.le_of_ble_eq_true rfl) (Nat.le_of_ble_eq_true rfl)) rfl rfl (jEv.mono h (fun o4 M5 h => ?_))
    obtain ⟨r6, rfl, h⟩ := h
    refine ⟨_, rfl, ?_⟩
    show jEv nX7_steps (20, [(0, .ref 0), (1, .int x1), (2, .ref p3)], [.int r6], M5) K
    exact e_ret hE rfl rfl (jb_i rfl) h
set_option maxRecDepth 100000 in
set_option maxHeartbeats 4000000 in
theorem v_X7_solid_0 {K : jK} {M : jM} {x1 : Int32} (h : (jEv nX7_toldLikenesses (0, [(0, .ref 0), (1, .int x1)], [], M) (fun o1 M2 => (o1 = some (some .null) ∧ K (some (some (.int (-1)))) M2) ∨ (∃ p3 : Nat, jLi p3 ∧ o1 = some (some (.ref p3)) ∧ (jEv nX3_holds (0, [(0, .ref p3), (1, .ref 44)], [], M2) (fun o4 M5 => ∃ r6 : Int32, o4 = some (some (.int r6)) ∧ ((r6 = 0 → K (some (some (.int 0))) M5) ∧ (¬ r6 = 0 → K (some (some (.int 1))) M5)))))))) : jEv nX7_solid (0, [(0, .ref 0), (1, .int x1)], [], M) K := by
  have hE : jMT nX7_solid = some me_X7_solid := rfl
  refine e_seg (k := 2) (d := (2, [(0, .ref 0), (1, .int x1)], [.int x1, .ref 0], M)) rfl ?_
  refine e_call (q := 5) (L0 := [(0, .ref 0), (1, .int x1)]) hE rfl rfl rfl rfl (jargs_V rfl rfl rfl rfl rfl (Nat.le_of_ble_eq_true rfl) (Nat.le_of_ble_eq_true rfl) (Nat.le_of_ble_eq_true rfl)) rfl rfl (jEv.mono h (fun o1 M2 h => ?_))
  rcases h with ⟨rfl, h⟩ | ⟨p3, hp3, rfl, h⟩
  · refine ⟨_, rfl, ?_⟩
    show jEv nX7_solid (5, [(0, .ref 0), (1, .int x1)], [.null], M2) K
    refine e_seg (k := 4) (d := (11, [(0, .ref 0), (1, .int x1), (2, .null)], [.int (-1)], M2)) rfl ?_
    exact e_ret hE rfl rfl (jb_i rfl) h
  · refine ⟨_, rfl, ?_⟩
    show jEv nX7_solid (5, [(0, .ref 0), (1, .int x1)], [.ref p3], M2) K
    refine e_seg (k := 6) (d := (17, [(0, .ref 0), (1, .int x1), (2, .ref p3)], [.ref 44, .ref p3], M2)) rfl ?_
    refine e_call (q := 20) (L0 := [(0, .ref p3), (1, .ref 44)]) hE rfl rfl rfl rfl (jargs_V (jLi_o hp3) rfl rfl rfl rfl (Nat.le_of_ble_eq_true rfl) (Nat.le_of_ble_eq_true rfl) (Nat.le_of_ble_eq_true rfl)) rfl rfl (jEv.mono h (fun o4 M5 h => ?_))
    obtain ⟨r6, rfl, h⟩ := h
    refine ⟨_, rfl, ?_⟩
    show jEv nX7_solid (20, [(0, .ref 0), (1, .int x1), (2, .ref p3)], [.int r6], M5) K
    refine e_if_eq (t := 27) (q := 23) hE rfl rfl rfl rfl (fun hbr => ?_) (fun hbr => ?_)
    · replace h := h.1 hbr
      refine e_seg (k := 1) (d := (28, [(0, .ref 0), (1, .int x1), (2, .ref p3)], [.int 0], M5)) rfl ?_
      exact e_ret hE rfl rfl (jb_i rfl) h
    · replace h := h.2 hbr
      refine e_seg (k := 2) (d := (28, [(0, .ref 0), (1, .int x1), (2, .ref p3)], [.int 1], M5)) rfl ?_
      exact e_ret hE rfl rfl (jb_i rfl) h
