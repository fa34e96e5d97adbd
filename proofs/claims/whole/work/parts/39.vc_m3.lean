/-! printed by wip/whole/emit.py: what must hold on each way between cut points -/
set_option maxRecDepth 100000 in
set_option maxHeartbeats 4000000 in
theorem v_X8_left_0 {K : jK} {M : jM} {x1 : Int32} {x2 : Int32} {x3 : Int32} (h : (jEv nX8_has (0, [(0, .ref 67), (1, .int x1)], [], M) (fun o1 M2 => ∃ r3 : Int32, o1 = some (some (.int r3)) ∧ ((r3 = 0 → (jEv nX8_throwsIf (0, [(0, .ref 67), (1, .int 1)], [], M2) (fun o4 M5 => ∃ r6 : Int32, o4 = some (some (.int r6)) ∧ ((r6 = 0 → (jEv nX8_leftOf (0, [(0, .ref 67), (1, .int x1), (2, .int x2)], [], M5) (fun o7 M8 => o7 = some none ∧ (jEv nX8_told (0, [(0, .ref 67), (1, .int x3)], [], M8) (fun o9 M10 => ∃ r11 : Int64, o9 = some (some (.long r11)) ∧ K (some (some (.long r11))) M10))))) ∧ (¬ r6 = 0 → K (some (some (.long 0))) M5))))) ∧ (¬ r3 = 0 → ((x2 < 0 → (jEv nX8_throwsIf (0, [(0, .ref 67), (1, .int 1)], [], M2) (fun o12 M13 => ∃ r14 : Int32, o12 = some (some (.int r14)) ∧ ((r14 = 0 → (jEv nX8_leftOf (0, [(0, .ref 67), (1, .int x1), (2, .int x2)], [], M13) (fun o15 M16 => o15 = some none ∧ (jEv nX8_told (0, [(0, .ref 67), (1, .int x3)], [], M16) (fun o17 M18 => ∃ r19 : Int64, o17 = some (some (.long r19)) ∧ K (some (some (.long r19))) M18))))) ∧ (¬ r14 = 0 → K (some (some (.long 0))) M13))))) ∧ (¬ x2 < 0 → (jEv nX8_stepsOf (0, [(0, .ref 67), (1, .int x1)], [], M2) (fun o20 M21 => ∃ r22 : Int32, o20 = some (some (.int r22)) ∧ ((r22 < x2 → (jEv nX8_throwsIf (0, [(0, .ref 67), (1, .int 1)], [], M21) (fun o23 M24 => ∃ r25 : Int32, o23 = some (some (.int r25)) ∧ ((r25 = 0 → (jEv nX8_leftOf (0, [(0, .ref 67), (1, .int x1), (2, .int x2)], [], M24) (fun o26 M27 => o26 = some none ∧ (jEv nX8_told (0, [(0, .ref 67), (1, .int x3)], [], M27) (fun o28 M29 => ∃ r30 : Int64, o28 = some (some (.long r30)) ∧ K (some (some (.long r30))) M29))))) ∧ (¬ r25 = 0 → K (some (some (.long 0))) M24))))) ∧ (¬ r22 < x2 → ((x3 < 0 → (jEv nX8_throwsIf (0, [(0, .ref 67), (1, .int 1)], [], M21) (fun o31 M32 => ∃ r33 : Int32, o31 = some (some (.int r33)) ∧ ((r33 = 0 → (jEv nX8_leftOf (0, [(0, .ref 67), (1, .int x1), (2, .int x2)], [], M32) (fun o34 M35 => o34 = some none ∧ (jEv nX8_told (0, [(0, .ref 67), (1, .int x3)], [], M35) (fun o36 M37 => ∃ r38 : Int64, o36 = some (some (.long r38)) ∧ K (some (some (.long r38))) M37))))) ∧ (¬ r33 = 0 → K (some (some (.long 0))) M32))))) ∧ (¬ x3 < 0 → ((x3 ≤ 1 → (jEv nX8_throwsIf (0, [(0, .ref 67), (1, .int 0)], [], M21) (fun o39 M40 => ∃ r41 : Int32, o39 = some (some (.int r41)) ∧ ((r41 = 0 → (jEv nX8_leftOf (0, [(0, .ref 67), (1, .int x1), (2, .int x2)], [], M40) (fun o42 M43 => o42 = some none ∧ (jEv nX8_told (0, [(0, .ref 67), (1, .int x3)], [], M43) (fun o44 M45 => ∃ r46 : Int64, o44 = some (some (.long r46)) ∧ K (some (some (.long r46))) M45))))) ∧ (¬ r41 = 0 → K (some (some (.long 0))) M40))))) ∧ (¬ x3 ≤ 1 → (jEv nX8_throwsIf (0, [(0, .ref 67), (1, .int 1)], [], M21) (fun o47 M48 => ∃ r49 : Int32, o47 = some (some (.int r49)) ∧ ((r49 = 0 → (jEv nX8_leftOf (0, [(0, .ref 67), (1, .int x1), (2, .int x2)], [], M48) (fun o50 M51 => o50 = some none ∧ (jEv nX8_told (0, [(0, .ref 67), (1, .int x3)], [], M51) (fun o52 M53 => ∃ r54 : Int64, o52 = some (some (.long r54)) ∧ K (some (some (.long r54))) M53))))) ∧ (¬ r49 = 0 → K (some (some (.long 0))) M48))))))))))))))))))) : jEv nX8_left (0, [(0, .ref 67), (1, .int x1), (2, .int x2), (3, .int x3)], [], M) K := by
  have hE : jMT nX8_left = some me_X8_left := rfl
  refine e_seg (k := 3) (d := (3, [(0, .ref 67), (1, .int x1), (2, .int x2), (3, .int x3)], [.int x1, .ref 67, .ref 67], M)) rfl ?_
  refine e_call (q := 6) (L0 := [(0, .ref 67), (1, .int x1)]) hE rfl rfl rfl rfl (jargs_V rfl rfl rfl rfl rfl (Nat.le_of_ble_eq_true rfl) (Nat.le_of_ble_eq_true rfl) (Nat.le_of_ble_eq_true rfl)) rfl rfl (jEv.mono h (fun o1 M2 h => ?_))
  obtain ⟨r3, rfl, h⟩ := h
  refine ⟨_, rfl, ?_⟩
  show jEv nX8_left (6, [(0, .ref 67), (1, .int x1), (2, .int x2), (3, .int x3)], [.int r3, .ref 67], M2) K
  refine e_if_eq (t := 31) (q := 9) hE rfl rfl rfl rfl (fun hbr => ?_) (fun hbr => ?_)
  · replace h := h.1 hbr
    refine e_seg (k := 2) (d := (36, [(0, .ref 67), (1, .int x1), (2, .int x2), (3, .int x3)], [.int 1, .ref 67], M2)) rfl ?_
    refine e_call (q := 39) (L0 := [(0, .ref 67), (1, .int 1)]) hE rfl rfl rfl rfl (jargs_V rfl rfl rfl rfl rfl (Nat.le_of_ble_eq_true rfl) (Nat.le_of_ble_eq_true rfl) (Nat.le_of_ble_eq_true rfl)) rfl rfl (jEv.mono h (fun o4 M5 h => ?_))
    obtain ⟨r6, rfl, h⟩ := h
    refine ⟨_, rfl, ?_⟩
    show jEv nX8_left (39, [(0, .ref 67), (1, .int x1), (2, .int x2), (3, .int x3)], [.int r6], M5) K
    refine e_if_eq (t := 44) (q := 42) hE rfl rfl rfl rfl (fun hbr => ?_) (fun hbr => ?_)
    · replace h := h.1 hbr
      refine e_seg (k := 3) (d := (47, [(0, .ref 67), (1, .int x1), (2, .int x2), (3, .int x3)], [.int x2, .int x1, .ref 67], M5)) rfl ?_
      refine e_call (q := 50) (L0 := [(0, .ref 67), (1, .int x1), (2, .int x2)]) hE rfl rfl rfl rfl (jargs_V rfl rfl rfl rfl rfl (Nat.le_of_ble_eq_true rfl) (Nat.le_of_ble_eq_true rfl) (Nat.le_of_ble_eq_true rfl)) rfl rfl (jEv.mono h (fun o7 M8 h => ?_))
      obtain ⟨rfl, h⟩ := h
      refine ⟨_, rfl, ?_⟩
      show jEv nX8_left (50, [(0, .ref 67), (1, .int x1), (2, .int x2), (3, .int x3)], [], M8) K
      refine e_seg (k := 2) (d := (52, [(0, .ref 67), (1, .int x1), (2, .int x2), (3, .int x3)], [.int x3, .ref 67], M8)) rfl ?_
      refine e_call (q := 55) (L0 := [(0, .ref 67), (1, .int x3)]) hE rfl rfl rfl rfl (jargs_V rfl rfl rfl rfl rfl (Nat.le_of_ble_eq_true rfl) (Nat.le_of_ble_eq_true rfl) (Nat.le_of_ble_eq_true rfl)) rfl rfl (jEv.mono h (fun o9 M10 h => ?_))
      obtain ⟨r11, rfl, h⟩ := h
      refine ⟨_, rfl, ?_⟩
      show jEv nX8_left (55, [(0, .ref 67), (1, .int x1), (2, .int x2), (3, .int x3)], [.long r11], M10) K
      exact e_ret hE rfl rfl (jb_l rfl) h
    · replace h := h.2 hbr
      refine e_seg (k := 1) (d := (43, [(0, .ref 67), (1, .int x1), (2, .int x2), (3, .int x3)], [.long 0], M5)) rfl ?_
      exact e_ret hE rfl rfl (jb_l rfl) h
  · replace h := h.2 hbr
    refine e_seg (k := 1) (d := (10, [(0, .ref 67), (1, .int x1), (2, .int x2), (3, .int x3)], [.int x2, .ref 67], M2)) rfl ?_
    refine e_if_lt (t := 31) (q := 13) hE rfl rfl rfl rfl (fun hbr => ?_) (fun hbr => ?_)
    · replace h := h.1 hbr
      refine e_seg (k := 2) (d := (36, [(0, .ref 67), (1, .int x1), (2, .int x2), (3, .int x3)], [.int 1, .ref 67], M2)) rfl ?_
      refine e_call (q := 39) (L0 := [(0, .ref 67), (1, .int 1)]) hE rfl rfl rfl rfl (jargs_V rfl rfl rfl rfl rfl (Nat.le_of_ble_eq_true rfl) (Nat.le_of_ble_eq_true rfl) (Nat.le_of_ble_eq_true rfl)) rfl rfl (jEv.mono h (fun o12 M13 h => ?_))
      obtain ⟨r14, rfl, h⟩ := h
      refine ⟨_, rfl, ?_⟩
      show jEv nX8_left (39, [(0, .ref 67), (1, .int x1), (2, .int x2), (3, .int x3)], [.int r14], M13) K
      refine e_if_eq (t := 44) (q := 42) hE rfl rfl rfl rfl (fun hbr => ?_) (fun hbr => ?_)
      · replace h := h.1 hbr
        refine e_seg (k := 3) (d := (47, [(0, .ref 67), (1, .int x1), (2, .int x2), (3, .int x3)], [.int x2, .int x1, .ref 67], M13)) rfl ?_
        refine e_call (q := 50) (L0 := [(0, .ref 67), (1, .int x1), (2, .int x2)]) hE rfl rfl rfl rfl (jargs_V rfl rfl rfl rfl rfl (Nat.le_of_ble_eq_true rfl) (Nat.le_of_ble_eq_true rfl) (Nat.le_of_ble_eq_true rfl)) rfl rfl (jEv.mono h (fun o15 M16 h => ?_))
        obtain ⟨rfl, h⟩ := h
        refine ⟨_, rfl, ?_⟩
        show jEv nX8_left (50, [(0, .ref 67), (1, .int x1), (2, .int x2), (3, .int x3)], [], M16) K
        refine e_seg (k := 2) (d := (52, [(0, .ref 67), (1, .int x1), (2, .int x2), (3, .int x3)], [.int x3, .ref 67], M16)) rfl ?_
        refine e_call (q := 55) (L0 := [(0, .ref 67), (1, .int x3)]) hE rfl rfl rfl rfl (jargs_V rfl rfl rfl rfl rfl (Nat.le_of_ble_eq_true rfl) (Nat.le_of_ble_eq_true rfl) (Nat.le_of_ble_eq_true rfl)) rfl rfl (jEv.mono h (fun o17 M18 h => ?_))
        obtain ⟨r19, rfl, h⟩ := h
        refine ⟨_, rfl, ?_⟩
        show jEv nX8_left (55, [(0, .ref 67), (1, .int x1), (2, .int x2), (3, .int x3)], [.long r19], M18) K
        exact e_ret hE rfl rfl (jb_l rfl) h
      · replace h := h.2 hbr
        refine e_seg (k := 1) (d := (43, [(0, .ref 67), (1, .int x1), (2, .int x2), (3, .int x3)], [.long 0], M13)) rfl ?_
        exact e_ret hE rfl rfl (jb_l rfl) h
    · replace h := h.2 hbr
      refine e_seg (k := 3) (d := (16, [(0, .ref 67), (1, .int x1), (2, .int x2), (3, .int x3)], [.int x1, .ref 67, .int x2, .ref 67], M2)) rfl ?_
      refine e_call (q := 19) (L0 := [(0, .ref 67), (1, .int x1)]) hE rfl rfl rfl rfl (jargs_V rfl rfl rfl rfl rfl (Nat.le_of_ble_eq_true rfl) (Nat.le_of_ble_eq_true rfl) (Nat.le_of_ble_eq_true rfl)) rfl rfl (jEv.mono h (fun o20 M21 h => ?_))
      obtain ⟨r22, rfl, h⟩ := h
      refine ⟨_, rfl, ?_⟩
      show jEv nX8_left (19, [(0, .ref 67), (1, .int x1), (2, .int x2), (3, .int x3)], [.int r22, .int x2, .ref 67], M21) K
      refine e_ic_gt (t := 31) (q := 22) hE rfl rfl rfl rfl (fun hbr => ?_) (fun hbr => ?_)
      · replace h := h.1 hbr
        refine e_seg (k := 2) (d := (36, [(0, .ref 67), (1, .int x1), (2, .int x2), (3, .int x3)], [.int 1, .ref 67], M21)) rfl ?_
        refine e_call (q := 39) (L0 := [(0, .ref 67), (1, .int 1)]) hE rfl rfl rfl rfl (jargs_V rfl rfl rfl rfl rfl (Nat.le_of_ble_eq_true rfl) (Nat.le_of_ble_eq_true rfl) (Nat.le_of_ble_eq_true rfl)) rfl rfl (jEv.mono h (fun o23 M24 h => ?_))
        obtain ⟨r25, rfl, h⟩ := h
        refine ⟨_, rfl, ?_⟩
        show jEv nX8_left (39, [(0, .ref 67), (1, .int x1), (2, .int x2), (3, .int x3)], [.int r25], M24) K
        refine e_if_eq (t := 44) (q := 42) hE rfl rfl rfl rfl (fun hbr => ?_) (fun hbr => ?_)
        · replace h := h.1 hbr
          refine e_seg (k := 3) (d := (47, [(0, .ref 67), (1, .int x1), (2, .int x2), (3, .int x3)], [.int x2, .int x1, .ref 67], M24)) rfl ?_
          refine e_call (q := 50) (L0 := [(0, .ref 67), (1, .int x1), (2, .int x2)]) hE rfl rfl rfl rfl (jargs_V rfl rfl rfl rfl rfl (Nat.le_of_ble_eq_true rfl) (Nat.le_of_ble_eq_true rfl) (Nat.le_of_ble_eq_true rfl)) rfl rfl (jEv.mono h (fun o26 M27 h => ?_))
          obtain ⟨rfl, h⟩ := h
          refine ⟨_, rfl, ?_⟩
          show jEv nX8_left (50, [(0, .ref 67), (1, .int x1), (2, .int x2), (3, .int x3)], [], M27) K
          refine e_seg (k := 2) (d := (52, [(0, .ref 67), (1, .int x1), (2, .int x2), (3, .int x3)], [.int x3, .ref 67], M27)) rfl ?_
          refine e_call (q := 55) (L0 := [(0, .ref 67), (1, .int x3)]) hE rfl rfl rfl rfl (jargs_V rfl rfl rfl rfl rfl (Nat.le_of_ble_eq_true rfl) (Nat.le_of_ble_eq_true rfl) (Nat.le_of_ble_eq_true rfl)) rfl rfl (jEv.mono h (fun o28 M29 h => ?_))
          obtain ⟨r30, rfl, h⟩ := h
          refine ⟨_, rfl, ?_⟩
          show jEv nX8_left (55, [(0, .ref 67), (1, .int x1), (2, .int x2), (3, .int x3)], [.long r30], M29) K
          exact e_ret hE rfl rfl (jb_l rfl) h
        · replace h := h.2 hbr
          refine e_seg (k := 1) (d := (43, [(0, .ref 67), (1, .int x1), (2, .int x2), (3, .int x3)], [.long 0], M24)) rfl ?_
          exact e_ret hE rfl rfl (jb_l rfl) h
      · replace h := h.2 hbr
        refine e_seg (k := 1) (d := (23, [(0, .ref 67), (1, .int x1), (2, .int x2), (3, .int x3)], [.int x3, .ref 67], M21)) rfl ?_
        refine e_if_lt (t := 31) (q := 26) hE rfl rfl rfl rfl (fun hbr => ?_) (fun hbr => ?_)
        · replace h := h.1 hbr
          refine e_seg (k := 2) (d := (36, [(0, .ref 67), (1, .int x1), (2, .int x2), (3, .int x3)], [.int 1, .ref 67], M21)) rfl ?_
          refine e_call (q := 39) (L0 := [(0, .ref 67), (1, .int 1)]) hE rfl rfl rfl rfl (jargs_V rfl rfl rfl rfl rfl (Nat.le_of_ble_eq_true rfl) (Nat.le_of_ble_eq_true rfl) (Nat.le_of_ble_eq_true rfl)) rfl rfl (jEv.mono h (fun o31 M32 h => ?_))
          obtain ⟨r33, rfl, h⟩ := h
          refine ⟨_, rfl, ?_⟩
          show jEv nX8_left (39, [(0, .ref 67), (1, .int x1), (2, .int x2), (3, .int x3)], [.int r33], M32) K
          refine e_if_eq (t := 44) (q := 42) hE rfl rfl rfl rfl (fun hbr => ?_) (fun hbr => ?_)
          · replace h := h.1 hbr
            refine e_seg (k := 3) (d := (47, [(0, .ref 67), (1, .int x1), (2, .int x2), (3, .int x3)], [.int x2, .int x1, .ref 67], M32)) rfl ?_
            refine e_call (q := 50) (L0 := [(0, .ref 67), (1, .int x1), (2, .int x2)]) hE rfl rfl rfl rfl (jargs_V rfl rfl rfl rfl rfl (Nat.le_of_ble_eq_true rfl) (Nat.le_of_ble_eq_true rfl) (Nat.le_of_ble_eq_true rfl)) rfl rfl (jEv.mono h (fun o34 M35 h => ?_))
            obtain ⟨rfl, h⟩ := h
            refine ⟨_, rfl, ?_⟩
            show jEv nX8_left (50, [(0, .ref 67), (1, .int x1), (2, .int x2), (3, .int x3)], [], M35) K
            refine e_seg (k := 2) (d := (52, [(0, .ref 67), (1, .int x1), (2, .int x2), (3, .int x3)], [.int x3, .ref 67], M35)) rfl ?_
            refine e_call (q := 55) (L0 := [(0, .ref 67), (1, .int x3)]) hE rfl rfl rfl rfl (jargs_V rfl rfl rfl rfl rfl (Nat.le_of_ble_eq_true rfl) (Nat.le_of_ble_eq_true rfl) (Nat.le_of_ble_eq_true rfl)) rfl rfl (jEv.mono h (fun o36 M37 h => ?_))
            obtain ⟨r38, rfl, h⟩ := h
            refine ⟨_, rfl, ?_⟩
            show jEv nX8_left (55, [(0, .ref 67), (1, .int x1), (2, .int x2), (3, .int x3)], [.long r38], M37) K
            exact e_ret hE rfl rfl (jb_l rfl) h
          · replace h := h.2 hbr
            refine e_seg (k := 1) (d := (43, [(0, .ref 67), (1, .int x1), (2, .int x2), (3, .int x3)], [.long 0], M32)) rfl ?_
            exact e_ret hE rfl rfl (jb_l rfl) h
        · replace h := h.2 hbr
          refine e_seg (k := 2) (d := (28, [(0, .ref 67), (1, .int x1), (2, .int x2), (3, .int x3)], [.int 1, .int x3, .ref 67], M21)) rfl ?_
          refine e_ic_le (t := 35) (q := 31) hE rfl rfl rfl rfl (fun hbr => ?_) (fun hbr => ?_)
          · replace h := h.1 hbr
            refine e_seg (k := 1) (d := (36, [(0, .ref 67), (1, .int x1), (2, .int x2), (3, .int x3)], [.int 0, .ref 67], M21)) rfl ?_
            refine e_call (q := 39) (L0 := [(0, .ref 67), (1, .int 0)]) hE rfl rfl rfl rfl (jargs_V rfl rfl rfl rfl rfl (Nat.le_of_ble_eq_true rfl) (Nat.le_of_ble_eq_true rfl) (Nat.le_of_ble_eq_true rfl)) rfl rfl (jEv.mono h (fun o39 M40 h => ?_))
            obtain ⟨r41, rfl, h⟩ := h
            refine ⟨_, rfl, ?_⟩
            show jEv nX8_left (39, [(0, .ref 67), (1, .int x1), (2, .int x2), (3, .int x3)], [.int r41], M40) K
            refine e_if_eq (t := 44) (q := 42) hE rfl rfl rfl rfl (fun hbr => ?_) (fun hbr => ?_)
            · replace h := h.1 hbr
              refine e_seg (k := 3) (d := (47, [(0, .ref 67), (1, .int x1), (2, .int x2), (3, .int x3)], [.int x2, .int x1, .ref 67], M40)) rfl ?_
              refine e_call (q := 50) (L0 := [(0, .ref 67), (1, .int x1), (2, .int x2)]) hE rfl rfl rfl rfl (jargs_V rfl rfl rfl rfl rfl (Nat.le_of_ble_eq_true rfl) (Nat.le_of_ble_eq_true rfl) (Nat.le_of_ble_eq_true rfl)) rfl rfl (jEv.mono h (fun o42 M43 h => ?_))
              obtain ⟨rfl, h⟩ := h
              refine ⟨_, rfl, ?_⟩
              show jEv nX8_left (50, [(0, .ref 67), (1, .int x1), (2, .int x2), (3, .int x3)], [], M43) K
              refine e_seg (k := 2) (d := (52, [(0, .ref 67), (1, .int x1), (2, .int x2), (3, .int x3)], [.int x3, .ref 67], M43)) rfl ?_
              refine e_call (q := 55) (L0 := [(0, .ref 67), (1, .int x3)]) hE rfl rfl rfl rfl (jargs_V rfl rfl rfl rfl rfl (Nat.le_of_ble_eq_true rfl) (Nat.le_of_ble_eq_true rfl) (Nat.le_of_ble_eq_true rfl)) rfl rfl (jEv.mono h (fun o44 M45 h => ?_))
              obtain ⟨r46, rfl, h⟩ := h
              refine ⟨_, rfl, ?_⟩
              show jEv nX8_left (55, [(0, .ref 67), (1, .int x1), (2, .int x2), (3, .int x3)], [.long r46], M45) K
              exact e_ret hE rfl rfl (jb_l rfl) h
            · replace h := h.2 hbr
              refine e_seg (k := 1) (d := (43, [(0, .ref 67), (1, .int x1), (2, .int x2), (3, .int x3)], [.long 0], M40)) rfl ?_
              exact e_ret hE rfl rfl (jb_l rfl) h
          · replace h := h.2 hbr
            refine e_seg (k := 2) (d := (36, [(0, .ref 67), (1, .int x1), (2, .int x2), (3, .int x3)], [.int 1, .ref 67], M21)) rfl ?_
            refine e_call (q := 39) (L0 := [(0, .ref 67), (1, .int 1)]) hE rfl rfl rfl rfl (jargs_V rfl rfl rfl rfl rfl (Nat.le_of_ble_eq_true rfl) (Nat.le_of_ble_eq_true rfl) (Nat.le_of_ble_eq_true rfl)) rfl rfl (jEv.mono h (fun o47 M48 h => ?_))
            obtain ⟨r49, rfl, h⟩ := h
            refine ⟨_, rfl, ?_⟩
            show jEv nX8_left (39, [(0, .ref 67), (1, .int x1), (2, .int x2), (3, .int x3)], [.int r49], M48) K
            refine e_if_eq (t := 44) (q := 42) hE rfl rfl rfl rfl (fun hbr => ?_) (fun hbr => ?_)
            · replace h := h.1 hbr
              refine e_seg (k := 3) (d := (47, [(0, .ref 67), (1, .int x1), (2, .int x2), (3, .int x3)], [.int x2, .int x1, .ref 67], M48)) rfl ?_
              refine e_call (q := 50) (L0 := [(0, .ref 67), (1, .int x1), (2, .int x2)]) hE rfl rfl rfl rfl (jargs_V rfl rfl rfl rfl rfl (Nat.le_of_ble_eq_true rfl) (Nat.le_of_ble_eq_true rfl) (Nat.le_of_ble_eq_true rfl)) rfl rfl (jEv.mono h (fun o50 M51 h => ?_))
              obtain ⟨rfl, h⟩ := h
              refine ⟨_, rfl, ?_⟩
              show jEv nX8_left (50, [(0, .ref 67), (1, .int x1), (2, .int x2), (3, .int x3)], [], M51) K
              refine e_seg (k := 2) (d := (52, [(0, .ref 67), (1, .int x1), (2, .int x2), (3, .int x3)], [.int x3, .ref 67], M51)) rfl ?_
              refine e_call (q := 55) (L0 := [(0, .ref 67), (1, .int x3)]) hE rfl rfl rfl rfl (jargs_V rfl rfl rfl rfl rfl (Nat.le_of_ble_eq_true rfl) (Nat.le_of_ble_eq_true rfl) (Nat.le_of_ble_eq_true rfl)) rfl rfl (jEv.mono h (fun o52 M53 h => ?_))
              obtain ⟨r54, rfl, h⟩ := h
              refine ⟨_, rfl, ?_⟩
              show jEv nX8_left (55, [(0, .ref 67), (1, .int x1), (2, .int x2), (3, .int x3)], [.long r54], M53) K
              exact e_ret hE rfl rfl (jb_l rfl) h
            · replace h := h.2 hbr
              refine e_seg (k := 1) (d := (43, [(0, .ref 67), (1, .int x1), (2, .int x2), (3, .int x3)], [.long 0], M48)) rfl ?_
              exact e_ret hE rfl rfl (jb_l rfl) h
set_option maxRecDepth 100000 in
set_option maxHeartbeats 4000000 in
theorem v_X8_next_0 {K : jK} {M : jM} {x1 : Int32} {x2 : Int32} {x3 : Int32} (h : (jEv nX8_isBare (0, [(0, .ref 67), (1, .int x1)], [], M) (fun o1 M2 => ∃ r3 : Int32, o1 = some (some (.int r3)) ∧ ((r3 = 0 → jEv nX8_next (50, [(0, .ref 67), (1, .int x1), (2, .int x2), (3, .int x3), (4, .int 0), (5, .int 1)], [], M2) K) ∧ (¬ r3 = 0 → ((x2 < 1 → jEv nX8_next (50, [(0, .ref 67), (1, .int x1), (2, .int x2), (3, .int x3), (4, .int 0), (5, .int 1)], [], M2) K) ∧ (¬ x2 < 1 → ((5 < x2 → jEv nX8_next (50, [(0, .ref 67), (1, .int x1), (2, .int x2), (3, .int x3), (4, .int 0), (5, .int 1)], [], M2) K) ∧ (¬ 5 < x2 → ((x3 < 0 → jEv nX8_next (50, [(0, .ref 67), (1, .int x1), (2, .int x2), (3, .int x3), (4, .int 0), (5, .int 1)], [], M2) K) ∧ (¬ x3 < 0 → ((1 < x3 → jEv nX8_next (50, [(0, .ref 67), (1, .int x1), (2, .int x2), (3, .int x3), (4, .int 0), (5, .int 1)], [], M2) K) ∧ (¬ 1 < x3 → (¬ (x1 < 0 ∨ 6 ≤ x1.toNatClampNeg) ∧ (((M2.1 67 27) < (M2.1 71 x1.toNatClampNeg) → jEv nX8_next (50, [(0, .ref 67), (1, .int x1), (2, .int x2), (3, .int x3), (4, .int 0), (5, .int 1)], [], M2) K) ∧ (¬ (M2.1 67 27) < (M2.1 71 x1.toNatClampNeg) → jEv nX8_next (50, [(0, .ref 67), (1, .int x1), (2, .int x2), (3, .int x3), (4, .int 1), (5, .int 1)], [], M2) K)))))))))))))))) : jEv nX8_next (0, [(0, .ref 67), (1, .int x1), (2, .int x2), (3, .int x3)], [], M) K := by
  have hE : jMT nX8_next = some me_X8_next := rfl
  refine e_seg (k := 2) (d := (2, [(0, .ref 67), (1, .int x1), (2, .int x2), (3, .int x3)], [.int x1, .ref 67], M)) rfl ?_
  refine e_call (q := 5) (L0 := [(0, .ref 67), (1, .int x1)]) hE rfl rfl rfl rfl (jargs_V rfl rfl rfl rfl rfl (Nat.le_of_ble_eq_true rfl) (Nat.le_of_ble_eq_true rfl) (Nat.le_of_ble_eq_true rfl)) rfl rfl (jEv.mono h (fun o1 M2 h => ?_))
  obtain ⟨r3, rfl, h⟩ := h
  refine ⟨_, rfl, ?_⟩
  show jEv nX8_next (5, [(0, .ref 67), (1, .int x1), (2, .int x2), (3, .int x3)], [.int r3], M2) K
  refine e_if_eq (t := 44) (q := 8) hE rfl rfl rfl rfl (fun hbr => ?_) (fun hbr => ?_)
  · replace h := h.1 hbr
    refine e_seg (k := 4) (d := (50, [(0, .ref 67), (1, .int x1), (2, .int x2), (3, .int x3), (4, .int 0), (5, .int 1)], [], M2)) rfl ?_
    refine e_cut (ks := [0, 1, 2, 3, 4, 5]) (L' := [(0, .ref 67), (1, .int x1), (2, .int x2), (3, .int x3), (4, .int 0), (5, .int 1)]) hE rfl rfl rfl rfl rfl ?_
    exact h
  · replace h := h.2 hbr
    refine e_seg (k := 2) (d := (10, [(0, .ref 67), (1, .int x1), (2, .int x2), (3, .int x3)], [.int 1, .int x2], M2)) rfl ?_
    refine e_ic_lt (t := 44) (q := 13) hE rfl rfl rfl rfl (fun hbr => ?_) (fun hbr => ?_)
    · replace h := h.1 hbr
      refine e_seg (k := 4) (d := (50, [(0, .ref 67), (1, .int x1), (2, .int x2), (3, .int x3), (4, .int 0), (5, .int 1)], [], M2)) rfl ?_
      refine e_cut (ks := [0, 1, 2, 3, 4, 5]) (L' := [(0, .ref 67), (1, .int x1), (2, .int x2), (3, .int x3), (4, .int 0), (5, .int 1)]) hE rfl rfl rfl rfl rfl ?_
      exact h
    · replace h := h.2 hbr
      refine e_seg (k := 2) (d := (15, [(0, .ref 67), (1, .int x1), (2, .int x2), (3, .int x3)], [.int 5, .int x2], M2)) rfl ?_
      refine e_ic_gt (t := 44) (q := 18) hE rfl rfl rfl rfl (fun hbr => ?_) (fun hbr => ?_)
      · replace h := h.1 hbr
        refine e_seg (k := 4) (d := (50, [(0, .ref 67), (1, .int x1), (2, .int x2), (3, .int x3), (4, .int 0), (5, .int 1)], [], M2)) rfl ?_
        refine e_cut (ks := [0, 1, 2, 3, 4, 5]) (L' := [(0, .ref 67), (1, .int x1), (2, .int x2), (3, .int x3), (4, .int 0), (5, .int 1)]) hE rfl rfl rfl rfl rfl ?_
        exact h
      · replace h := h.2 hbr
        refine e_seg (k := 1) (d := (19, [(0, .ref 67), (1, .int x1), (2, .int x2), (3, .int x3)], [.int x3], M2)) rfl ?_
        refine e_if_lt (t := 44) (q := 22) hE rfl rfl rfl rfl (fun hbr => ?_) (fun hbr => ?_)
        · replace h := h.1 hbr
          refine e_seg (k := 4) (d := (50, [(0, .ref 67), (1, .int x1), (2, .int x2), (3, .int x3), (4, .int 0), (5, .int 1)], [], M2)) rfl ?_
          refine e_cut (ks := [0, 1, 2, 3, 4, 5]) (L' := [(0, .ref 67), (1, .int x1), (2, .int x2), (3, .int x3), (4, .int 0), (5, .int 1)]) hE rfl rfl rfl rfl rfl ?_
          exact h
        · replace h := h.2 hbr
          refine e_seg (k := 2) (d := (24, [(0, .ref 67), (1, .int x1), (2, .int x2), (3, .int x3)], [.int 1, .int x3], M2)) rfl ?_
          refine e_ic_gt (t := 44) (q := 27) hE rfl rfl rfl rfl (fun hbr => ?_) (fun hbr => ?_)
          · replace h := h.1 hbr
            refine e_seg (k := 4) (d := (50, [(0, .ref 67), (1, .int x1), (2, .int x2), (3, .int x3), (4, .int 0), (5, .int 1)], [], M2)) rfl ?_
            refine e_cut (ks := [0, 1, 2, 3, 4, 5]) (L' := [(0, .ref 67), (1, .int x1), (2, .int x2), (3, .int x3), (4, .int 0), (5, .int 1)]) hE rfl rfl rfl rfl rfl ?_
            exact h
          · replace h := h.2 hbr
            refine e_seg (k := 5) (d := (36, [(0, .ref 67), (1, .int x1), (2, .int x2), (3, .int x3)], [.int x1, .ref 71, .int (M2.1 67 27)], M2)) rfl ?_
            refine e_iald (q := 37) hE rfl rfl rfl rfl h.1 ?_
            replace h := h.2
            refine e_ic_lt (t := 44) (q := 40) hE rfl rfl rfl rfl (fun hbr => ?_) (fun hbr => ?_)
            · replace h := h.1 hbr
              refine e_seg (k := 4) (d := (50, [(0, .ref 67), (1, .int x1), (2, .int x2), (3, .int x3), (4, .int 0), (5, .int 1)], [], M2)) rfl ?_
              refine e_cut (ks := [0, 1, 2, 3, 4, 5]) (L' := [(0, .ref 67), (1, .int x1), (2, .int x2), (3, .int x3), (4, .int 0), (5, .int 1)]) hE rfl rfl rfl rfl rfl ?_
              exact h
            · replace h := h.2 hbr
              refine e_seg (k := 5) (d := (50, [(0, .ref 67), (1, .int x1), (2, .int x2), (3, .int x3), (4, .int 1), (5, .int 1)], [], M2)) rfl ?_
              refine e_cut (ks := [0, 1, 2, 3, 4, 5]) (L' := [(0, .ref 67), (1, .int x1), (2, .int x2), (3, .int x3), (4, .int 1), (5, .int 1)]) hE rfl rfl rfl rfl rfl ?_
              exact h
set_option maxRecDepth 100000 in
set_option maxHeartbeats 4000000 in
theorem v_X8_next_50 {K : jK} {M : jM} {x1 : Int32} {x2 : Int32} {x3 : Int32} {x4 : Int32} {x5 : Int32} (h : ((x4 = 0 → ((x4 = 0 → (jEv nX8_throwsIf (0, [(0, .ref 67), (1, .int 1)], [], M) (fun o4 M5 => ∃ r6 : Int32, o4 = some (some (.int r6)) ∧ ((r6 = 0 → (¬ (x1 < 0 ∨ 6 ≤ x1.toNatClampNeg) ∧ jEv nX8_next (126, [(0, .ref 67), (1, .int x1), (2, .int x2), (3, .int x3), (5, .int (M5.1 71 x1.toNatClampNeg)), (6, .int 0)], [], M5) K)) ∧ (¬ r6 = 0 → K (some (some (.long 0))) M5))))) ∧ (¬ x4 = 0 → (jEv nX8_throwsIf (0, [(0, .ref 67), (1, .int 0)], [], M) (fun o1 M2 => ∃ r3 : Int32, o1 = some (some (.int r3)) ∧ ((r3 = 0 → (¬ (x1 < 0 ∨ 6 ≤ x1.toNatClampNeg) ∧ jEv nX8_next (126, [(0, .ref 67), (1, .int x1), (2, .int x2), (3, .int x3), (5, .int (M2.1 71 x1.toNatClampNeg)), (6, .int 0)], [], M2) K)) ∧ (¬ r3 = 0 → K (some (some (.long 0))) M2))))))) ∧ (¬ x4 = 0 → (¬ (x1 < 0 ∨ 6 ≤ x1.toNatClampNeg) ∧ (((M.1 71 x1.toNatClampNeg) < x5 → ((x4 = 0 → (jEv nX8_throwsIf (0, [(0, .ref 67), (1, .int 1)], [], M) (fun o10 M11 => ∃ r12 : Int32, o10 = some (some (.int r12)) ∧ ((r12 = 0 → (¬ (x1 < 0 ∨ 6 ≤ x1.toNatClampNeg) ∧ jEv nX8_next (126, [(0, .ref 67), (1, .int x1), (2, .int x2), (3, .int x3), (5, .int (M11.1 71 x1.toNatClampNeg)), (6, .int 0)], [], M11) K)) ∧ (¬ r12 = 0 → K (some (some (.long 0))) M11))))) ∧ (¬ x4 = 0 → (jEv nX8_throwsIf (0, [(0, .ref 67), (1, .int 0)], [], M) (fun o7 M8 => ∃ r9 : Int32, o7 = some (some (.int r9)) ∧ ((r9 = 0 → (¬ (x1 < 0 ∨ 6 ≤ x1.toNatClampNeg) ∧ jEv nX8_next (126, [(0, .ref 67), (1, .int x1), (2, .int x2), (3, .int x3), (5, .int (M8.1 71 x1.toNatClampNeg)), (6, .int 0)], [], M8) K)) ∧ (¬ r9 = 0 → K (some (some (.long 0))) M8))))))) ∧ (¬ (M.1 71 x1.toNatClampNeg) < x5 → (¬ ((M.1 67 27) - x5 < 0 ∨ 60 ≤ ((M.1 67 27) - x5).toNatClampNeg) ∧ (((M.1 90 ((M.1 67 27) - x5).toNatClampNeg) = 100 → jEv nX8_next (50, [(0, .ref 67), (1, .int x1), (2, .int x2), (3, .int x3), (4, .int 0), (5, .int (x5 + 1))], [], M) K) ∧ (¬ (M.1 90 ((M.1 67 27) - x5).toNatClampNeg) = 100 → jEv nX8_next (50, [(0, .ref 67), (1, .int x1), (2, .int x2), (3, .int x3), (4, .int 1), (5, .int (x5 + 1))], [], M) K))))))))) : jEv nX8_next (50, [(0, .ref 67), (1, .int x1), (2, .int x2), (3, .int x3), (4, .int x4), (5, .int x5)], [], M) K := by
  have hE : jMT nX8_next = some me_X8_next := rfl
  refine e_seg (k := 1) (d := (52, [(0, .ref 67), (1, .int x1), (2, .int x2), (3, .int x3), (4, .int x4), (5, .int x5)], [.int x4], M)) rfl ?_
  refine e_if_eq (t := 96) (q := 55) hE rfl rfl rfl rfl (fun hbr => ?_) (fun hbr => ?_)
  · replace h := h.1 hbr
    refine e_seg (k := 2) (d := (99, [(0, .ref 67), (1, .int x1), (2, .int x2), (3, .int x3), (4, .int x4), (5, .int x5)], [.int x4, .ref 67], M)) rfl ?_
    refine e_if_ne (t := 106) (q := 102) hE rfl rfl rfl rfl (fun hbr => ?_) (fun hbr => ?_)
    · replace h := h.2 hbr
      refine e_seg (k := 1) (d := (107, [(0, .ref 67), (1, .int x1), (2, .int x2), (3, .int x3), (4, .int x4), (5, .int x5)], [.int 0, .ref 67], M)) rfl ?_
      refine e_call (q := 110) (L0 := [(0, .ref 67), (1, .int 0)]) hE rfl rfl rfl rfl (jargs_V rfl rfl rfl rfl rfl (Nat.le_of_ble_eq_true rfl) (Nat.le_of_ble_eq_true rfl) (Nat.le_of_ble_eq_true rfl)) rfl rfl (jEv.mono h (fun o1 M2 h => ?_))
      obtain ⟨r3, rfl, h⟩ := h
      refine ⟨_, rfl, ?_⟩
      show jEv nX8_next (110, [(0, .ref 67), (1, .int x1), (2, .int x2), (3, .int x3), (4, .int x4), (5, .int x5)], [.int r3], M2) K
      refine e_if_eq (t := 115) (q := 113) hE rfl rfl rfl rfl (fun hbr => ?_) (fun hbr => ?_)
      · replace h := h.1 hbr
        refine e_seg (k := 3) (d := (120, [(0, .ref 67), (1, .int x1), (2, .int x2), (3, .int x3), (4, .int x4), (5, .int x5)], [.int x1, .ref 71], M2)) rfl ?_
        refine e_iald (q := 121) hE rfl rfl rfl rfl h.1 ?_
        replace h := h.2
        refine e_seg (k := 3) (d := (126, [(0, .ref 67), (1, .int x1), (2, .int x2), (3, .int x3), (4, .int x4), (5, .int (M2.1 71 x1.toNatClampNeg)), (6, .int 0)], [], M2)) rfl ?_
        refine e_cut (ks := [0, 1, 2, 3, 5, 6]) (L' := [(0, .ref 67), (1, .int x1), (2, .int x2), (3, .int x3), (5, .int (M2.1 71 x1.toNatClampNeg)), (6, .int 0)]) hE rfl rfl rfl rfl rfl ?_
        exact h
      · replace h := h.2 hbr
        refine e_seg (k := 1) (d := (114, [(0, .ref 67), (1, .int x1), (2, .int x2), (3, .int x3), (4, .int x4), (5, .int x5)], [.long 0], M2)) rfl ?_
        exact e_ret hE rfl rfl (jb_l rfl) h
    · replace h := h.1 hbr
      refine e_seg (k := 2) (d := (107, [(0, .ref 67), (1, .int x1), (2, .int x2), (3, .int x3), (4, .int x4), (5, .int x5)], [.int 1, .ref 67], M)) rfl ?_
      refine e_call (q := 110) (L0 := [(0, .ref 67), (1, .int 1)]) hE rfl rfl rfl rfl (jargs_V rfl rfl rfl rfl rfl (Nat.le_of_ble_eq_true rfl) (Nat.le_of_ble_eq_true rfl) (Nat.le_of_ble_eq_true rfl)) rfl rfl (jEv.mono h (fun o4 M5 h => ?_))
      obtain ⟨r6, rfl, h⟩ := h
      refine ⟨_, rfl, ?_⟩
      show jEv nX8_next (110, [(0, .ref 67), (1, .int x1), (2, .int x2), (3, .int x3), (4, .int x4), (5, .int x5)], [.int r6], M5) K
      refine e_if_eq (t := 115) (q := 113) hE rfl rfl rfl rfl (fun hbr => ?_) (fun hbr => ?_)
      · replace h := h.1 hbr
        refine e_seg (k := 3) (d := (120, [(0, .ref 67), (1, .int x1), (2, .int x2), (3, .int x3), (4, .int x4), (5, .int x5)], [.int x1, .ref 71], M5)) rfl ?_
        refine e_iald (q := 121) hE rfl rfl rfl rfl h.1 ?_
        replace h := h.2
        refine e_seg (k := 3) (d := (126, [(0, .ref 67), (1, .int x1), (2, .int x2), (3, .int x3), (4, .int x4), (5, .int (M5.1 71 x1.toNatClampNeg)), (6, .int 0)], [], M5)) rfl ?_
        refine e_cut (ks := [0, 1, 2, 3, 5, 6]) (L' := [(0, .ref 67), (1, .int x1), (2, .int x2), (3, .int x3), (5, .int (M5.1 71 x1.toNatClampNeg)), (6, .int 0)]) hE rfl rfl rfl rfl rfl ?_
        exact h
      · replace h := h.2 hbr
        refine e_seg (k := 1) (d := (114, [(0, .ref 67), (1, .int x1), (2, .int x2), (3, .int x3), (4, .int x4), (5, .int x5)], [.long 0], M5)) rfl ?_
        exact e_ret hE rfl rfl (jb_l rfl) h
  · replace h := h.2 hbr
    refine e_seg (k := 4) (d := (62, [(0, .ref 67), (1, .int x1), (2, .int x2), (3, .int x3), (4, .int x4), (5, .int x5)], [.int x1, .ref 71, .int x5], M)) rfl ?_
    refine e_iald (q := 63) hE rfl rfl rfl rfl h.1 ?_
    replace h := h.2
    refine e_ic_gt (t := 96) (q := 66) hE rfl rfl rfl rfl (fun hbr => ?_) (fun hbr => ?_)
    · replace h := h.1 hbr
      refine e_seg (k := 2) (d := (99, [(0, .ref 67), (1, .int x1), (2, .int x2), (3, .int x3), (4, .int x4), (5, .int x5)], [.int x4, .ref 67], M)) rfl ?_
      refine e_if_ne (t := 106) (q := 102) hE rfl rfl rfl rfl (fun hbr => ?_) (fun hbr => ?_)
      · replace h := h.2 hbr
        refine e_seg (k := 1) (d := (107, [(0, .ref 67), (1, .int x1), (2, .int x2), (3, .int x3), (4, .int x4), (5, .int x5)], [.int 0, .ref 67], M)) rfl ?_
        refine e_call (q := 110) (L0 := [(0, .ref 67), (1, .int 0)]) hE rfl rfl rfl rfl (jargs_V rfl rfl rfl rfl rfl (Nat.le_of_ble_eq_true rfl) (Nat.le_of_ble_eq_true rfl) (Nat.le_of_ble_eq_true rfl)) rfl rfl (jEv.mono h (fun o7 M8 h => ?_))
        obtain ⟨r9, rfl, h⟩ := h
        refine ⟨_, rfl, ?_⟩
        show jEv nX8_next (110, [(0, .ref 67), (1, .int x1), (2, .int x2), (3, .int x3), (4, .int x4), (5, .int x5)], [.int r9], M8) K
        refine e_if_eq (t := 115) (q := 113) hE rfl rfl rfl rfl (fun hbr => ?_) (fun hbr => ?_)
        · replace h := h.1 hbr
          refine e_seg (k := 3) (d := (120, [(0, .ref 67), (1, .int x1), (2, .int x2), (3, .int x3), (4, .int x4), (5, .int x5)], [.int x1, .ref 71], M8)) rfl ?_
          refine e_iald (q := 121) hE rfl rfl rfl rfl h.1 ?_
          replace h := h.2
          refine e_seg (k := 3) (d := (126, [(0, .ref 67), (1, .int x1), (2, .int x2), (3, .int x3), (4, .int x4), (5, .int (M8.1 71 x1.toNatClampNeg)), (6, .int 0)], [], M8)) rfl ?_
          refine e_cut (ks := [0, 1, 2, 3, 5, 6]) (L' := [(0, .ref 67), (1, .int x1), (2, .int x2), (3, .int x3), (5, .int (M8.1 71 x1.toNatClampNeg)), (6, .int 0)]) hE rfl rfl rfl rfl rfl ?_
          exact h
        · replace h := h.2 hbr
          refine e_seg (k := 1) (d := (114, [(0, .ref 67), (1, .int x1), (2, .int x2), (3, .int x3), (4, .int x4), (5, .int x5)], [.long 0], M8)) rfl ?_
          exact e_ret hE rfl rfl (jb_l rfl) h
      · replace h := h.1 hbr
        refine e_seg (k := 2) (d := (107, [(0, .ref 67), (1, .int x1), (2, .int x2), (3, .int x3), (4, .int x4), (5, .int x5)], [.int 1, .ref 67], M)) rfl ?_
        refine e_call (q := 110) (L0 := [(0, .ref 67), (1, .int 1)]) hE rfl rfl rfl rfl (jargs_V rfl rfl rfl rfl rfl (Nat.le_of_ble_eq_true rfl) (Nat.le_of_ble_eq_true rfl) (Nat.le_of_ble_eq_true rfl)) rfl rfl (jEv.mono h (fun o10 M11 h => ?_))
        obtain ⟨r12, rfl, h⟩ := h
        refine ⟨_, rfl, ?_⟩
        show jEv nX8_next (110, [(0, .ref 67), (1, .int x1), (2, .int x2), (3, .int x3), (4, .int x4), (5, .int x5)], [.int r12], M11) K
        refine e_if_eq (t := 115) (q := 113) hE rfl rfl rfl rfl (fun hbr => ?_) (fun hbr => ?_)
        · replace h := h.1 hbr
          refine e_seg (k := 3) (d := (120, [(0, .ref 67), (1, .int x1), (2, .int x2), (3, .int x3), (4, .int x4), (5, .int x5)], [.int x1, .ref 71], M11)) rfl ?_
          refine e_iald (q := 121) hE rfl rfl rfl rfl h.1 ?_
          replace h := h.2
          refine e_seg (k := 3) (d := (126, [(0, .ref 67), (1, .int x1), (2, .int x2), (3, .int x3), (4, .int x4), (5, .int (M11.1 71 x1.toNatClampNeg)), (6, .int 0)], [], M11)) rfl ?_
          refine e_cut (ks := [0, 1, 2, 3, 5, 6]) (L' := [(0, .ref 67), (1, .int x1), (2, .int x2), (3, .int x3), (5, .int (M11.1 71 x1.toNatClampNeg)), (6, .int 0)]) hE rfl rfl rfl rfl rfl ?_
          exact h
        · replace h := h.2 hbr
          refine e_seg (k := 1) (d := (114, [(0, .ref 67), (1, .int x1), (2, .int x2), (3, .int x3), (4, .int x4), (5, .int x5)], [.long 0], M11)) rfl ?_
          exact e_ret hE rfl rfl (jb_l rfl) h
    · replace h := h.2 hbr
      refine e_seg (k := 6) (d := (77, [(0, .ref 67), (1, .int x1), (2, .int x2), (3, .int x3), (4, .int x4), (5, .int x5)], [.int ((M.1 67 27) - x5), .ref 90], M)) rfl ?_
      refine e_iald (q := 78) hE rfl rfl rfl rfl h.1 ?_
      replace h := h.2
      refine e_seg (k := 1) (d := (80, [(0, .ref 67), (1, .int x1), (2, .int x2), (3, .int x3), (4, .int x4), (5, .int x5)], [.int 100, .int (M.1 90 ((M.1 67 27) - x5).toNatClampNeg)], M)) rfl ?_
      refine e_ic_eq (t := 87) (q := 83) hE rfl rfl rfl rfl (fun hbr => ?_) (fun hbr => ?_)
      · replace h := h.1 hbr
        refine e_seg (k := 4) (d := (50, [(0, .ref 67), (1, .int x1), (2, .int x2), (3, .int x3), (4, .int 0), (5, .int (x5 + 1))], [], M)) rfl ?_
        refine e_cut (ks := [0, 1, 2, 3, 4, 5]) (L' := [(0, .ref 67), (1, .int x1), (2, .int x2), (3, .int x3), (4, .int 0), (5, .int (x5 + 1))]) hE rfl rfl rfl rfl rfl ?_
        exact h
      · replace h := h.2 hbr
        refine e_seg (k := 5) (d := (50, [(0, .ref 67), (1, .int x1), (2, .int x2), (3, .int x3), (4, .int 1), (5, .int (x5 + 1))], [], M)) rfl ?_
        refine e_cut (ks := [0, 1, 2, 3, 4, 5]) (L' := [(0, .ref 67), (1, .int x1), (2, .int x2), (3, .int x3), (4, .int 1), (5, .int (x5 + 1))]) hE rfl rfl rfl rfl rfl ?_
        exact h
set_option maxRecDepth 100000 in
set_option maxHeartbeats 4000000 in
theorem v_X8_next_126 {K : jK} {M : jM} {x1 : Int32} {x2 : Int32} {x3 : Int32} {x5 : Int32} {x6 : Int32} (h : ((x5 ≤ x6 → jEv nX8_next (174, [(0, .ref 67), (1, .int x1), (2, .int x2), (3, .int x3), (5, .int x5), (6, .int x5)], [], M) K) ∧ (¬ x5 ≤ x6 → (¬ (((M.1 67 27) - x5) + x6 < 0 ∨ 60 ≤ (((M.1 67 27) - x5) + x6).toNatClampNeg) ∧ (¬ (x6 < 0 ∨ 8 ≤ x6.toNatClampNeg) ∧ (∀ M1 : jM, M1 = jsl M 91 x6.toNatClampNeg ((M.1 90 (((M.1 67 27) - x5) + x6).toNatClampNeg).toInt64) → (¬ (x6 < 0 ∨ 8 ≤ x6.toNatClampNeg) ∧ (∀ M2 : jM, M2 = jsl M1 92 x6.toNatClampNeg 1 → jEv nX8_next (126, [(0, .ref 67), (1, .int x1), (2, .int x2), (3, .int x3), (5, .int x5), (6, .int (x6 + 1))], [], M2) K)))))))) : jEv nX8_next (126, [(0, .ref 67), (1, .int x1), (2, .int x2), (3, .int x3), (5, .int x5), (6, .int x6)], [], M) K := by
  have hE : jMT nX8_next = some me_X8_next := rfl
  refine e_seg (k := 2) (d := (130, [(0, .ref 67), (1, .int x1), (2, .int x2), (3, .int x3), (5, .int x5), (6, .int x6)], [.int x5, .int x6], M)) rfl ?_
  refine e_ic_ge (t := 170) (q := 133) hE rfl rfl rfl rfl (fun hbr => ?_) (fun hbr => ?_)
  · replace h := h.1 hbr
    refine e_seg (k := 2) (d := (174, [(0, .ref 67), (1, .int x1), (2, .int x2), (3, .int x3), (5, .int x5), (6, .int x5)], [], M)) rfl ?_
    refine e_cut (ks := [0, 1, 2, 3, 5, 6]) (L' := [(0, .ref 67), (1, .int x1), (2, .int x2), (3, .int x3), (5, .int x5), (6, .int x5)]) hE rfl rfl rfl rfl rfl ?_
    exact h
  · replace h := h.2 hbr
    refine e_seg (k := 11) (d := (153, [(0, .ref 67), (1, .int x1), (2, .int x2), (3, .int x3), (5, .int x5), (6, .int x6)], [.int (((M.1 67 27) - x5) + x6), .ref 90, .int x6, .ref 91], M)) rfl ?_
    refine e_iald (q := 154) hE rfl rfl rfl rfl h.1 ?_
    replace h := h.2
    refine e_seg (k := 1) (d := (155, [(0, .ref 67), (1, .int x1), (2, .int x2), (3, .int x3), (5, .int x5), (6, .int x6)], [.long ((M.1 90 (((M.1 67 27) - x5) + x6).toNatClampNeg).toInt64), .int x6, .ref 91], M)) rfl ?_
    refine e_last (q := 156) hE rfl rfl rfl rfl h.1 ?_
    replace h := h.2
    obtain ⟨M1, hM1⟩ : ∃ z : jM, z = jsl M 91 x6.toNatClampNeg ((M.1 90 (((M.1 67 27) - x5) + x6).toNatClampNeg).toInt64) := ⟨_, rfl⟩
    refine jEv_M hM1 ?_
    replace h := h M1 hM1
    refine e_seg (k := 4) (d := (163, [(0, .ref 67), (1, .int x1), (2, .int x2), (3, .int x3), (5, .int x5), (6, .int x6)], [.long 1, .int x6, .ref 92], M1)) rfl ?_
    refine e_last (q := 164) hE rfl rfl rfl rfl h.1 ?_
    replace h := h.2
    obtain ⟨M2, hM2⟩ : ∃ z : jM, z = jsl M1 92 x6.toNatClampNeg 1 := ⟨_, rfl⟩
    refine jEv_M hM2 ?_
    replace h := h M2 hM2
    refine e_seg (k := 2) (d := (126, [(0, .ref 67), (1, .int x1), (2, .int x2), (3, .int x3), (5, .int x5), (6, .int (x6 + 1))], [], M2)) rfl ?_
    refine e_cut (ks := [0, 1, 2, 3, 5, 6]) (L' := [(0, .ref 67), (1, .int x1), (2, .int x2), (3, .int x3), (5, .int x5), (6, .int (x6 + 1))]) hE rfl rfl rfl rfl rfl ?_
    exact h
set_option maxRecDepth 100000 in
set_option maxHeartbeats 4000000 in
theorem v_X8_next_174 {K : jK} {M : jM} {x1 : Int32} {x2 : Int32} {x3 : Int32} {x5 : Int32} {x6 : Int32} (h : (((x5 + x2) ≤ x6 → (¬ ((x5 + x2) - 1 < 0 ∨ 8 ≤ ((x5 + x2) - 1).toNatClampNeg) ∧ (¬ ((x5 + x2) - 1 < 0 ∨ 8 ≤ ((x5 + x2) - 1).toNatClampNeg) ∧ (jEv nX8_set (0, [(0, .ref 67), (1, .long (M.2 91 ((x5 + x2) - 1).toNatClampNeg)), (3, .long (M.2 92 ((x5 + x2) - 1).toNatClampNeg))], [], M) (fun o1 M2 => o1 = some none ∧ (jEv nX8_told (0, [(0, .ref 67), (1, .int x3)], [], M2) (fun o3 M4 => ∃ r5 : Int64, o3 = some (some (.long r5)) ∧ K (some (some (.long r5))) M4))))))) ∧ (¬ (x5 + x2) ≤ x6 → jEv nX8_next (192, [(0, .ref 67), (1, .int x1), (2, .int x2), (3, .int x3), (5, .int x5), (6, .int x6), (7, .long 0), (9, .long 1), (11, .int 1)], [], M) K))) : jEv nX8_next (174, [(0, .ref 67), (1, .int x1), (2, .int x2), (3, .int x3), (5, .int x5), (6, .int x6)], [], M) K := by
  have hE : jMT nX8_next = some me_X8_next := rfl
  refine e_seg (k := 4) (d := (180, [(0, .ref 67), (1, .int x1), (2, .int x2), (3, .int x3), (5, .int x5), (6, .int x6)], [.int (x5 + x2), .int x6], M)) rfl ?_
  refine e_ic_ge (t := 296) (q := 183) hE rfl rfl rfl rfl (fun hbr => ?_) (fun hbr => ?_)
  · replace h := h.1 hbr
    refine e_seg (k := 8) (d := (307, [(0, .ref 67), (1, .int x1), (2, .int x2), (3, .int x3), (5, .int x5), (6, .int x6)], [.int ((x5 + x2) - 1), .ref 91, .ref 67], M)) rfl ?_
    refine e_lald (q := 308) hE rfl rfl rfl rfl h.1 ?_
    replace h := h.2
    refine e_seg (k := 7) (d := (318, [(0, .ref 67), (1, .int x1), (2, .int x2), (3, .int x3), (5, .int x5), (6, .int x6)], [.int ((x5 + x2) - 1), .ref 92, .long (M.2 91 ((x5 + x2) - 1).toNatClampNeg), .ref 67], M)) rfl ?_
    refine e_lald (q := 319) hE rfl rfl rfl rfl h.1 ?_
    replace h := h.2
    refine e_call (q := 322) (L0 := [(0, .ref 67), (1, .long (M.2 91 ((x5 + x2) - 1).toNatClampNeg)), (3, .long (M.2 92 ((x5 + x2) - 1).toNatClampNeg))]) hE rfl rfl rfl rfl (jargs_V rfl rfl rfl rfl rfl (Nat.le_of_ble_eq_true rfl) (Nat.le_of_ble_eq_true rfl) (Nat.le_of_ble_eq_true rfl)) rfl rfl (jEv.mono h (fun o1 M2 h => ?_))
    obtain ⟨rfl, h⟩ := h
    refine ⟨_, rfl, ?_⟩
    show jEv nX8_next (322, [(0, .ref 67), (1, .int x1), (2, .int x2), (3, .int x3), (5, .int x5), (6, .int x6)], [], M2) K
    refine e_seg (k := 2) (d := (324, [(0, .ref 67), (1, .int x1), (2, .int x2), (3, .int x3), (5, .int x5), (6, .int x6)], [.int x3, .ref 67], M2)) rfl ?_
    refine e_call (q := 327) (L0 := [(0, .ref 67), (1, .int x3)]) hE rfl rfl rfl rfl (jargs_V rfl rfl rfl rfl rfl (Nat.le_of_ble_eq_true rfl) (Nat.le_of_ble_eq_true rfl) (Nat.le_of_ble_eq_true rfl)) rfl rfl (jEv.mono h (fun o3 M4 h => ?_))
    obtain ⟨r5, rfl, h⟩ := h
    refine ⟨_, rfl, ?_⟩
    show jEv nX8_next (327, [(0, .ref 67), (1, .int x1), (2, .int x2), (3, .int x3), (5, .int x5), (6, .int x6)], [.long r5], M4) K
    exact e_ret hE rfl rfl (jb_l rfl) h
  · replace h := h.2 hbr
    refine e_seg (k := 6) (d := (192, [(0, .ref 67), (1, .int x1), (2, .int x2), (3, .int x3), (5, .int x5), (6, .int x6), (7, .long 0), (9, .long 1), (11, .int 1)], [], M)) rfl ?_
    refine e_cut (ks := [0, 1, 2, 3, 5, 6, 7, 9, 11]) (L' := [(0, .ref 67), (1, .int x1), (2, .int x2), (3, .int x3), (5, .int x5), (6, .int x6), (7, .long 0), (9, .long 1), (11, .int 1)]) hE rfl rfl rfl rfl rfl ?_
    exact h
set_option maxRecDepth 100000 in
set_option maxHeartbeats 4000000 in
theorem v_X8_next_192 {K : jK} {M : jM} {x1 : Int32} {x2 : Int32} {x3 : Int32} {x5 : Int32} {x6 : Int32} {x7 : Int64} {x9 : Int64} {x11 : Int32} (h : ((x5 < x11 → (¬ (x6 < 0 ∨ 8 ≤ x6.toNatClampNeg) ∧ (∀ M1 : jM, M1 = jsl M 91 x6.toNatClampNeg x7 → (¬ (x6 < 0 ∨ 8 ≤ x6.toNatClampNeg) ∧ (∀ M2 : jM, M2 = jsl M1 92 x6.toNatClampNeg x9 → jEv nX8_next (174, [(0, .ref 67), (1, .int x1), (2, .int x2), (3, .int x3), (5, .int x5), (6, .int (x6 + 1))], [], M2) K))))) ∧ (¬ x5 < x11 → (¬ ((4 * x1) + x11 < 0 ∨ 24 ≤ ((4 * x1) + x11).toNatClampNeg) ∧ (¬ (x1 < 0 ∨ 6 ≤ x1.toNatClampNeg) ∧ (jEv nX8_set (0, [(0, .ref 67), (1, .long ((M.1 74 ((4 * x1) + x11).toNatClampNeg).toInt64)), (3, .long ((M.1 70 x1.toNatClampNeg).toInt64))], [], M) (fun o3 M4 => o3 = some none ∧ (¬ (x6 - x11 < 0 ∨ 8 ≤ (x6 - x11).toNatClampNeg) ∧ (¬ (x6 - x11 < 0 ∨ 8 ≤ (x6 - x11).toNatClampNeg) ∧ (jEv nX8_times (0, [(0, .ref 67), (1, .long (M4.2 91 (x6 - x11).toNatClampNeg)), (3, .long (M4.2 92 (x6 - x11).toNatClampNeg))], [], M4) (fun o5 M6 => o5 = some none ∧ (jEv nX8_plus (0, [(0, .ref 67), (1, .long x7), (3, .long x9)], [], M6) (fun o7 M8 => o7 = some none ∧ jEv nX8_next (192, [(0, .ref 67), (1, .int x1), (2, .int x2), (3, .int x3), (5, .int x5), (6, .int x6), (7, .long (M8.2 67 3)), (9, .long (M8.2 67 4)), (11, .int (x11 + 1))], [], M8) K))))))))))))) : jEv nX8_next (192, [(0, .ref 67), (1, .int x1), (2, .int x2), (3, .int x3), (5, .int x5), (6, .int x6), (7, .long x7), (9, .long x9), (11, .int x11)], [], M) K := by
  have hE : jMT nX8_next = some me_X8_next := rfl
  refine e_seg (k := 2) (d := (196, [(0, .ref 67), (1, .int x1), (2, .int x2), (3, .int x3), (5, .int x5), (6, .int x6), (7, .long x7), (9, .long x9), (11, .int x11)], [.int x5, .int x11], M)) rfl ?_
  refine e_ic_gt (t := 272) (q := 199) hE rfl rfl rfl rfl (fun hbr => ?_) (fun hbr => ?_)
  · replace h := h.1 hbr
    refine e_seg (k := 4) (d := (280, [(0, .ref 67), (1, .int x1), (2, .int x2), (3, .int x3), (5, .int x5), (6, .int x6), (7, .long x7), (9, .long x9), (11, .int x11)], [.long x7, .int x6, .ref 91], M)) rfl ?_
    refine e_last (q := 281) hE rfl rfl rfl rfl h.1 ?_
    replace h := h.2
    obtain ⟨M1, hM1⟩ : ∃ z : jM, z = jsl M 91 x6.toNatClampNeg x7 := ⟨_, rfl⟩
    refine jEv_M hM1 ?_
    replace h := h M1 hM1
    refine e_seg (k := 4) (d := (289, [(0, .ref 67), (1, .int x1), (2, .int x2), (3, .int x3), (5, .int x5), (6, .int x6), (7, .long x7), (9, .long x9), (11, .int x11)], [.long x9, .int x6, .ref 92], M1)) rfl ?_
    refine e_last (q := 290) hE rfl rfl rfl rfl h.1 ?_
    replace h := h.2
    obtain ⟨M2, hM2⟩ : ∃ z : jM, z = jsl M1 92 x6.toNatClampNeg x9 := ⟨_, rfl⟩
    refine jEv_M hM2 ?_
    replace h := h M2 hM2
    refine e_seg (k := 2) (d := (174, [(0, .ref 67), (1, .int x1), (2, .int x2), (3, .int x3), (5, .int x5), (6, .int (x6 + 1)), (7, .long x7), (9, .long x9), (11, .int x11)], [], M2)) rfl ?_
    refine e_cut (ks := [0, 1, 2, 3, 5, 6]) (L' := [(0, .ref 67), (1, .int x1), (2, .int x2), (3, .int x3), (5, .int x5), (6, .int (x6 + 1))]) hE rfl rfl rfl rfl rfl ?_
    exact h
  · replace h := h.2 hbr
    refine e_seg (k := 8) (d := (210, [(0, .ref 67), (1, .int x1), (2, .int x2), (3, .int x3), (5, .int x5), (6, .int x6), (7, .long x7), (9, .long x9), (11, .int x11)], [.int ((4 * x1) + x11), .ref 74, .ref 67], M)) rfl ?_
    refine e_iald (q := 211) hE rfl rfl rfl rfl h.1 ?_
    replace h := h.2
    refine e_seg (k := 4) (d := (217, [(0, .ref 67), (1, .int x1), (2, .int x2), (3, .int x3), (5, .int x5), (6, .int x6), (7, .long x7), (9, .long x9), (11, .int x11)], [.int x1, .ref 70, .long ((M.1 74 ((4 * x1) + x11).toNatClampNeg).toInt64), .ref 67], M)) rfl ?_
    refine e_iald (q := 218) hE rfl rfl rfl rfl h.1 ?_
    replace h := h.2
    refine e_seg (k := 1) (d := (219, [(0, .ref 67), (1, .int x1), (2, .int x2), (3, .int x3), (5, .int x5), (6, .int x6), (7, .long x7), (9, .long x9), (11, .int x11)], [.long ((M.1 70 x1.toNatClampNeg).toInt64), .long ((M.1 74 ((4 * x1) + x11).toNatClampNeg).toInt64), .ref 67], M)) rfl ?_
    refine e_call (q := 222) (L0 := [(0, .ref 67), (1, .long ((M.1 74 ((4 * x1) + x11).toNatClampNeg).toInt64)), (3, .long ((M.1 70 x1.toNatClampNeg).toInt64))]) hE rfl rfl rfl rfl (jargs_V rfl rfl rfl rfl rfl (Nat.le_of_ble_eq_true rfl) (Nat.le_of_ble_eq_true rfl) (Nat.le_of_ble_eq_true rfl)) rfl rfl (jEv.mono h (fun o3 M4 h => ?_))
    obtain ⟨rfl, h⟩ := h
    refine ⟨_, rfl, ?_⟩
    show jEv nX8_next (222, [(0, .ref 67), (1, .int x1), (2, .int x2), (3, .int x3), (5, .int x5), (6, .int x6), (7, .long x7), (9, .long x9), (11, .int x11)], [], M4) K
    refine e_seg (k := 6) (d := (232, [(0, .ref 67), (1, .int x1), (2, .int x2), (3, .int x3), (5, .int x5), (6, .int x6), (7, .long x7), (9, .long x9), (11, .int x11)], [.int (x6 - x11), .ref 91, .ref 67], M4)) rfl ?_
    refine e_lald (q := 233) hE rfl rfl rfl rfl h.1 ?_
    replace h := h.2
    refine e_seg (k := 5) (d := (242, [(0, .ref 67), (1, .int x1), (2, .int x2), (3, .int x3), (5, .int x5), (6, .int x6), (7, .long x7), (9, .long x9), (11, .int x11)], [.int (x6 - x11), .ref 92, .long (M4.2 91 (x6 - x11).toNatClampNeg), .ref 67], M4)) rfl ?_
    refine e_lald (q := 243) hE rfl rfl rfl rfl h.1 ?_
    replace h := h.2
    refine e_call (q := 246) (L0 := [(0, .ref 67), (1, .long (M4.2 91 (x6 - x11).toNatClampNeg)), (3, .long (M4.2 92 (x6 - x11).toNatClampNeg))]) hE rfl rfl rfl rfl (jargs_V rfl rfl rfl rfl rfl (Nat.le_of_ble_eq_true rfl) (Nat.le_of_ble_eq_true rfl) (Nat.le_of_ble_eq_true rfl)) rfl rfl (jEv.mono h (fun o5 M6 h => ?_))
    obtain ⟨rfl, h⟩ := h
    refine ⟨_, rfl, ?_⟩
    show jEv nX8_next (246, [(0, .ref 67), (1, .int x1), (2, .int x2), (3, .int x3), (5, .int x5), (6, .int x6), (7, .long x7), (9, .long x9), (11, .int x11)], [], M6) K
    refine e_seg (k := 3) (d := (251, [(0, .ref 67), (1, .int x1), (2, .int x2), (3, .int x3), (5, .int x5), (6, .int x6), (7, .long x7), (9, .long x9), (11, .int x11)], [.long x9, .long x7, .ref 67], M6)) rfl ?_
    refine e_call (q := 254) (L0 := [(0, .ref 67), (1, .long x7), (3, .long x9)]) hE rfl rfl rfl rfl (jargs_V rfl rfl rfl rfl rfl (Nat.le_of_ble_eq_true rfl) (Nat.le_of_ble_eq_true rfl) (Nat.le_of_ble_eq_true rfl)) rfl rfl (jEv.mono h (fun o7 M8 h => ?_))
    obtain ⟨rfl, h⟩ := h
    refine ⟨_, rfl, ?_⟩
    show jEv nX8_next (254, [(0, .ref 67), (1, .int x1), (2, .int x2), (3, .int x3), (5, .int x5), (6, .int x6), (7, .long x7), (9, .long x9), (11, .int x11)], [], M8) K
    refine e_seg (k := 8) (d := (192, [(0, .ref 67), (1, .int x1), (2, .int x2), (3, .int x3), (5, .int x5), (6, .int x6), (7, .long (M8.2 67 3)), (9, .long (M8.2 67 4)), (11, .int (x11 + 1))], [], M8)) rfl ?_
    refine e_cut (ks := [0, 1, 2, 3, 5, 6, 7, 9, 11]) (L' := [(0, .ref 67), (1, .int x1), (2, .int x2), (3, .int x3), (5, .int x5), (6, .int x6), (7, .long (M8.2 67 3)), (9, .long (M8.2 67 4)), (11, .int (x11 + 1))]) hE rfl rfl rfl rfl rfl ?_
    exact h
set_option maxRecDepth 100000 in
set_option maxHeartbeats 4000000 in
theorem v_X8_right_0 {K : jK} {M : jM} {x1 : Int32} {x2 : Int32} (h : (jEv nX8_set (0, [(0, .ref 67), (1, .long 0), (3, .long 1)], [], M) (fun o1 M2 => o1 = some none ∧ jEv nX8_right (14, [(0, .ref 67), (1, .int x1), (2, .int x2), (3, .long 0), (5, .long 1), (7, .int x2)], [], M2) K))) : jEv nX8_right (0, [(0, .ref 67), (1, .int x1), (2, .int x2)], [], M) K := by
  have hE : jMT nX8_right = some me_X8_right := rfl
  refine e_seg (k := 3) (d := (3, [(0, .ref 67), (1, .int x1), (2, .int x2)], [.long 1, .long 0, .ref 67], M)) rfl ?_
  refine e_call (q := 6) (L0 := [(0, .ref 67), (1, .long 0), (3, .long 1)]) hE rfl rfl rfl rfl (jargs_V rfl rfl rfl rfl rfl (Nat.le_of_ble_eq_true rfl) (Nat.le_of_ble_eq_true rfl) (Nat.le_of_ble_eq_true rfl)) rfl rfl (jEv.mono h (fun o1 M2 h => ?_))
  obtain ⟨rfl, h⟩ := h
  refine ⟨_, rfl, ?_⟩
  show jEv nX8_right (6, [(0, .ref 67), (1, .int x1), (2, .int x2)], [], M2) K
  refine e_seg (k := 6) (d := (14, [(0, .ref 67), (1, .int x1), (2, .int x2), (3, .long 0), (5, .long 1), (7, .int x2)], [], M2)) rfl ?_
  refine e_cut (ks := [0, 1, 2, 3, 5, 7]) (L' := [(0, .ref 67), (1, .int x1), (2, .int x2), (3, .long 0), (5, .long 1), (7, .int x2)]) hE rfl rfl rfl rfl rfl ?_
  exact h
set_option maxRecDepth 100000 in
set_option maxHeartbeats 4000000 in
theorem v_X8_right_14 {K : jK} {M : jM} {x1 : Int32} {x2 : Int32} {x3 : Int64} {x5 : Int64} {x7 : Int32} (h : ((4 ≤ x7 → K (some none) M) ∧ (¬ 4 ≤ x7 → ((x7 = 0 → (¬ (x1 < 0 ∨ 6 ≤ x1.toNatClampNeg) ∧ (¬ (x1 < 0 ∨ 6 ≤ x1.toNatClampNeg) ∧ (jEv nX8_set (0, [(0, .ref 67), (1, .long ((M.1 70 x1.toNatClampNeg).toInt64)), (3, .long ((M.1 70 x1.toNatClampNeg).toInt64))], [], M) (fun o9 M10 => o9 = some none ∧ (¬ (x7 - x2 < 0 ∨ 9 ≤ (x7 - x2).toNatClampNeg) ∧ (¬ (x7 - x2 < 0 ∨ 9 ≤ (x7 - x2).toNatClampNeg) ∧ (jEv nX8_times (0, [(0, .ref 67), (1, .long (M10.2 77 (x7 - x2).toNatClampNeg)), (3, .long (M10.2 78 (x7 - x2).toNatClampNeg))], [], M10) (fun o11 M12 => o11 = some none ∧ (¬ (x1 < 0 ∨ 6 ≤ x1.toNatClampNeg) ∧ (jEv nX8_times (0, [(0, .ref 67), (1, .long ((M12.1 73 x1.toNatClampNeg).toInt64)), (3, .long 1)], [], M12) (fun o13 M14 => o13 = some none ∧ (jEv nX8_plus (0, [(0, .ref 67), (1, .long x3), (3, .long x5)], [], M14) (fun o15 M16 => o15 = some none ∧ jEv nX8_right (14, [(0, .ref 67), (1, .int x1), (2, .int x2), (3, .long (M16.2 67 3)), (5, .long (M16.2 67 4)), (7, .int (x7 + 1))], [], M16) K)))))))))))))) ∧ (¬ x7 = 0 → (¬ ((4 * x1) + x7 < 0 ∨ 24 ≤ ((4 * x1) + x7).toNatClampNeg) ∧ (¬ (x1 < 0 ∨ 6 ≤ x1.toNatClampNeg) ∧ (jEv nX8_set (0, [(0, .ref 67), (1, .long ((M.1 75 ((4 * x1) + x7).toNatClampNeg).toInt64)), (3, .long ((M.1 70 x1.toNatClampNeg).toInt64))], [], M) (fun o1 M2 => o1 = some none ∧ (¬ (x7 - x2 < 0 ∨ 9 ≤ (x7 - x2).toNatClampNeg) ∧ (¬ (x7 - x2 < 0 ∨ 9 ≤ (x7 - x2).toNatClampNeg) ∧ (jEv nX8_times (0, [(0, .ref 67), (1, .long (M2.2 77 (x7 - x2).toNatClampNeg)), (3, .long (M2.2 78 (x7 - x2).toNatClampNeg))], [], M2) (fun o3 M4 => o3 = some none ∧ (¬ (x1 < 0 ∨ 6 ≤ x1.toNatClampNeg) ∧ (jEv nX8_times (0, [(0, .ref 67), (1, .long ((M4.1 73 x1.toNatClampNeg).toInt64)), (3, .long 1)], [], M4) (fun o5 M6 => o5 = some none ∧ (jEv nX8_plus (0, [(0, .ref 67), (1, .long x3), (3, .long x5)], [], M6) (fun o7 M8 => o7 = some none ∧ jEv nX8_right (14, [(0, .ref 67), (1, .int x1), (2, .int x2), (3, .long (M8.2 67 3)), (5, .long (M8.2 67 4)), (7, .int (x7 + 1))], [], M8) K)))))))))))))))))) : jEv nX8_right (14, [(0, .ref 67), (1, .int x1), (2, .int x2), (3, .long x3), (5, .long x5), (7, .int x7)], [], M) K := by
  have hE : jMT nX8_right = some me_X8_right := rfl
  refine e_seg (k := 2) (d := (17, [(0, .ref 67), (1, .int x1), (2, .int x2), (3, .long x3), (5, .long x5), (7, .int x7)], [.int 4, .int x7], M)) rfl ?_
  refine e_ic_ge (t := 116) (q := 20) hE rfl rfl rfl rfl (fun hbr => ?_) (fun hbr => ?_)
  · replace h := h.1 hbr
    exact e_ret hE rfl rfl rfl h
  · replace h := h.2 hbr
    refine e_seg (k := 2) (d := (23, [(0, .ref 67), (1, .int x1), (2, .int x2), (3, .long x3), (5, .long x5), (7, .int x7)], [.int x7, .ref 67], M)) rfl ?_
    refine e_if_ne (t := 36) (q := 26) hE rfl rfl rfl rfl (fun hbr => ?_) (fun hbr => ?_)
    · replace h := h.2 hbr
      refine e_seg (k := 7) (d := (46, [(0, .ref 67), (1, .int x1), (2, .int x2), (3, .long x3), (5, .long x5), (7, .int x7)], [.int ((4 * x1) + x7), .ref 75, .ref 67], M)) rfl ?_
      refine e_iald (q := 47) hE rfl rfl rfl rfl h.1 ?_
      replace h := h.2
      refine e_seg (k := 4) (d := (53, [(0, .ref 67), (1, .int x1), (2, .int x2), (3, .long x3), (5, .long x5), (7, .int x7)], [.int x1, .ref 70, .long ((M.1 75 ((4 * x1) + x7).toNatClampNeg).toInt64), .ref 67], M)) rfl ?_
      refine e_iald (q := 54) hE rfl rfl rfl rfl h.1 ?_
      replace h := h.2
      refine e_seg (k := 1) (d := (55, [(0, .ref 67), (1, .int x1), (2, .int x2), (3, .long x3), (5, .long x5), (7, .int x7)], [.long ((M.1 70 x1.toNatClampNeg).toInt64), .long ((M.1 75 ((4 * x1) + x7).toNatClampNeg).toInt64), .ref 67], M)) rfl ?_
      refine e_call (q := 58) (L0 := [(0, .ref 67), (1, .long ((M.1 75 ((4 * x1) + x7).toNatClampNeg).toInt64)), (3, .long ((M.1 70 x1.toNatClampNeg).toInt64))]) hE rfl rfl rfl rfl (jargs_V rfl rfl rfl rfl rfl (Nat.le_of_ble_eq_true rfl) (Nat.le_of_ble_eq_true rfl) (Nat.le_of_ble_eq_true rfl)) rfl rfl (jEv.mono h (fun o1 M2 h => ?_))
      obtain ⟨rfl, h⟩ := h
      refine ⟨_, rfl, ?_⟩
      show jEv nX8_right (58, [(0, .ref 67), (1, .int x1), (2, .int x2), (3, .long x3), (5, .long x5), (7, .int x7)], [], M2) K
      refine e_seg (k := 6) (d := (67, [(0, .ref 67), (1, .int x1), (2, .int x2), (3, .long x3), (5, .long x5), (7, .int x7)], [.int (x7 - x2), .ref 77, .ref 67], M2)) rfl ?_
      refine e_lald (q := 68) hE rfl rfl rfl rfl h.1 ?_
      replace h := h.2
      refine e_seg (k := 5) (d := (76, [(0, .ref 67), (1, .int x1), (2, .int x2), (3, .long x3), (5, .long x5), (7, .int x7)], [.int (x7 - x2), .ref 78, .long (M2.2 77 (x7 - x2).toNatClampNeg), .ref 67], M2)) rfl ?_
      refine e_lald (q := 77) hE rfl rfl rfl rfl h.1 ?_
      replace h := h.2
      refine e_call (q := 80) (L0 := [(0, .ref 67), (1, .long (M2.2 77 (x7 - x2).toNatClampNeg)), (3, .long (M2.2 78 (x7 - x2).toNatClampNeg))]) hE rfl rfl rfl rfl (jargs_V rfl rfl rfl rfl rfl (Nat.le_of_ble_eq_true rfl) (Nat.le_of_ble_eq_true rfl) (Nat.le_of_ble_eq_true rfl)) rfl rfl (jEv.mono h (fun o3 M4 h => ?_))
      obtain ⟨rfl, h⟩ := h
      refine ⟨_, rfl, ?_⟩
      show jEv nX8_right (80, [(0, .ref 67), (1, .int x1), (2, .int x2), (3, .long x3), (5, .long x5), (7, .int x7)], [], M4) K
      refine e_seg (k := 4) (d := (86, [(0, .ref 67), (1, .int x1), (2, .int x2), (3, .long x3), (5, .long x5), (7, .int x7)], [.int x1, .ref 73, .ref 67], M4)) rfl ?_
      refine e_iald (q := 87) hE rfl rfl rfl rfl h.1 ?_
      replace h := h.2
      refine e_seg (k := 2) (d := (89, [(0, .ref 67), (1, .int x1), (2, .int x2), (3, .long x3), (5, .long x5), (7, .int x7)], [.long 1, .long ((M4.1 73 x1.toNatClampNeg).toInt64), .ref 67], M4)) rfl ?_
      refine e_call (q := 92) (L0 := [(0, .ref 67), (1, .long ((M4.1 73 x1.toNatClampNeg).toInt64)), (3, .long 1)]) hE rfl rfl rfl rfl (jargs_V rfl rfl rfl rfl rfl (Nat.le_of_ble_eq_true rfl) (Nat.le_of_ble_eq_true rfl) (Nat.le_of_ble_eq_true rfl)) rfl rfl (jEv.mono h (fun o5 M6 h => ?_))
      obtain ⟨rfl, h⟩ := h
      refine ⟨_, rfl, ?_⟩
      show jEv nX8_right (92, [(0, .ref 67), (1, .int x1), (2, .int x2), (3, .long x3), (5, .long x5), (7, .int x7)], [], M6) K
      refine e_seg (k := 3) (d := (96, [(0, .ref 67), (1, .int x1), (2, .int x2), (3, .long x3), (5, .long x5), (7, .int x7)], [.long x5, .long x3, .ref 67], M6)) rfl ?_
      refine e_call (q := 99) (L0 := [(0, .ref 67), (1, .long x3), (3, .long x5)]) hE rfl rfl rfl rfl (jargs_V rfl rfl rfl rfl rfl (Nat.le_of_ble_eq_true rfl) (Nat.le_of_ble_eq_true rfl) (Nat.le_of_ble_eq_true rfl)) rfl rfl (jEv.mono h (fun o7 M8 h => ?_))
      obtain ⟨rfl, h⟩ := h
      refine ⟨_, rfl, ?_⟩
      show jEv nX8_right (99, [(0, .ref 67), (1, .int x1), (2, .int x2), (3, .long x3), (5, .long x5), (7, .int x7)], [], M8) K
      refine e_seg (k := 8) (d := (14, [(0, .ref 67), (1, .int x1), (2, .int x2), (3, .long (M8.2 67 3)), (5, .long (M8.2 67 4)), (7, .int (x7 + 1))], [], M8)) rfl ?_
      refine e_cut (ks := [0, 1, 2, 3, 5, 7]) (L' := [(0, .ref 67), (1, .int x1), (2, .int x2), (3, .long (M8.2 67 3)), (5, .long (M8.2 67 4)), (7, .int (x7 + 1))]) hE rfl rfl rfl rfl rfl ?_
      exact h
    · replace h := h.1 hbr
      refine e_seg (k := 3) (d := (31, [(0, .ref 67), (1, .int x1), (2, .int x2), (3, .long x3), (5, .long x5), (7, .int x7)], [.int x1, .ref 70, .ref 67], M)) rfl ?_
      refine e_iald (q := 32) hE rfl rfl rfl rfl h.1 ?_
      replace h := h.2
      refine e_seg (k := 5) (d := (53, [(0, .ref 67), (1, .int x1), (2, .int x2), (3, .long x3), (5, .long x5), (7, .int x7)], [.int x1, .ref 70, .long ((M.1 70 x1.toNatClampNeg).toInt64), .ref 67], M)) rfl ?_
      refine e_iald (q := 54) hE rfl rfl rfl rfl h.1 ?_
      replace h := h.2
      refine e_seg (k := 1) (d := (55, [(0, .ref 67), (1, .int x1), (2, .int x2), (3, .long x3), (5, .long x5), (7, .int x7)], [.long ((M.1 70 x1.toNatClampNeg).toInt64), .long ((M.1 70 x1.toNatClampNeg).toInt64), .ref 67], M)) rfl ?_
      refine e_call (q := 58) (L0 := [(0, .ref 67), (1, .long ((M.1 70 x1.toNatClampNeg).toInt64)), (3, .long ((M.1 70 x1.toNatClampNeg).toInt64))]) hE rfl rfl rfl rfl (jargs_V rfl rfl rfl rfl rfl (Nat.le_of_ble_eq_true rfl) (Nat.le_of_ble_eq_true rfl) (Nat.le_of_ble_eq_true rfl)) rfl rfl (jEv.mono h (fun o9 M10 h => ?_))
      obtain ⟨rfl, h⟩ := h
      refine ⟨_, rfl, ?_⟩
      show jEv nX8_right (58, [(0, .ref 67), (1, .int x1), (2, .int x2), (3, .long x3), (5, .long x5), (7, .int x7)], [], M10) K
      refine e_seg (k := 6) (d := (67, [(0, .ref 67), (1, .int x1), (2, .int x2), (3, .long x3), (5, .long x5), (7, .int x7)], [.int (x7 - x2), .ref 77, .ref 67], M10)) rfl ?_
      refine e_lald (q := 68) hE rfl rfl rfl rfl h.1 ?_
      replace h := h.2
      refine e_seg (k := 5) (d := (76, [(0, .ref 67), (1, .int x1), (2, .int x2), (3, .long x3), (5, .long x5), (7, .int x7)], [.int (x7 - x2), .ref 78, .long (M10.2 77 (x7 - x2).toNatClampNeg), .ref 67], M10)) rfl ?_
      refine e_lald (q := 77) hE rfl rfl rfl rfl h.1 ?_
      replace h := h.2
      refine e_call (q := 80) (L0 := [(0, .ref 67), (1, .long (M10.2 77 (x7 - x2).toNatClampNeg)), (3, .long (M10.2 78 (x7 - x2).toNatClampNeg))]) hE rfl rfl rfl rfl (jargs_V rfl rfl rfl rfl rfl (Nat.le_of_ble_eq_true rfl) (Nat.le_of_ble_eq_true rfl) (Nat.le_of_ble_eq_true rfl)) rfl rfl (jEv.mono h (fun o11 M12 h => ?_))
      obtain ⟨rfl, h⟩ := h
      refine ⟨_, rfl, ?_⟩
      show jEv nX8_right (80, [(0, .ref 67), (1, .int x1), (2, .int x2), (3, .long x3), (5, .long x5), (7, .int x7)], [], M12) K
      refine e_seg (k := 4) (d := (86, [(0, .ref 67), (1, .int x1), (2, .int x2), (3, .long x3), (5, .long x5), (7, .int x7)], [.int x1, .ref 73, .ref 67], M12)) rfl ?_
      refine e_iald (q := 87) hE rfl rfl rfl rfl h.1 ?_
      replace h := h.2
      refine e_seg (k := 2) (d := (89, [(0, .ref 67), (1, .int x1), (2, .int x2), (3, .long x3), (5, .long x5), (7, .int x7)], [.long 1, .long ((M12.1 73 x1.toNatClampNeg).toInt64), .ref 67], M12)) rfl ?_
      refine e_call (q := 92) (L0 := [(0, .ref 67), (1, .long ((M12.1 73 x1.toNatClampNeg).toInt64)), (3, .long 1)]) hE rfl rfl rfl rfl (jargs_V rfl rfl rfl rfl rfl (Nat.le_of_ble_eq_true rfl) (Nat.le_of_ble_eq_true rfl) (Nat.le_of_ble_eq_true rfl)) rfl rfl (jEv.mono h (fun o13 M14 h => ?_))
      obtain ⟨rfl, h⟩ := h
      refine ⟨_, rfl, ?_⟩
      show jEv nX8_right (92, [(0, .ref 67), (1, .int x1), (2, .int x2), (3, .long x3), (5, .long x5), (7, .int x7)], [], M14) K
      refine e_seg (k := 3) (d := (96, [(0, .ref 67), (1, .int x1), (2, .int x2), (3, .long x3), (5, .long x5), (7, .int x7)], [.long x5, .long x3, .ref 67], M14)) rfl ?_
      refine e_call (q := 99) (L0 := [(0, .ref 67), (1, .long x3), (3, .long x5)]) hE rfl rfl rfl rfl (jargs_V rfl rfl rfl rfl rfl (Nat.le_of_ble_eq_true rfl) (Nat.le_of_ble_eq_true rfl) (Nat.le_of_ble_eq_true rfl)) rfl rfl (jEv.mono h (fun o15 M16 h => ?_))
      obtain ⟨rfl, h⟩ := h
      refine ⟨_, rfl, ?_⟩
      show jEv nX8_right (99, [(0, .ref 67), (1, .int x1), (2, .int x2), (3, .long x3), (5, .long x5), (7, .int x7)], [], M16) K
      refine e_seg (k := 8) (d := (14, [(0, .ref 67), (1, .int x1), (2, .int x2), (3, .long (M16.2 67 3)), (5, .long (M16.2 67 4)), (7, .int (x7 + 1))], [], M16)) rfl ?_
      refine e_cut (ks := [0, 1, 2, 3, 5, 7]) (L' := [(0, .ref 67), (1, .int x1), (2, .int x2), (3, .long (M16.2 67 3)), (5, .long (M16.2 67 4)), (7, .int (x7 + 1))]) hE rfl rfl rfl rfl rfl ?_
      exact h
set_option maxRecDepth 100000 in
set_option maxHeartbeats 4000000 in
theorem v_X8_share_0 {K : jK} {M : jM} {x1 : Int32} {x2 : Int32} {x3 : Int32} {x4 : Int32} (h : (jEv nX8_has (0, [(0, .ref 67), (1, .int x1)], [], M) (fun o1 M2 => ∃ r3 : Int32, o1 = some (some (.int r3)) ∧ ((r3 = 0 → (jEv nX8_throwsIf (0, [(0, .ref 67), (1, .int 1)], [], M2) (fun o4 M5 => ∃ r6 : Int32, o4 = some (some (.int r6)) ∧ ((r6 = 0 → (jEv nX8_shareOf (0, [(0, .ref 67), (1, .int x1), (2, .int x2), (3, .int x3)], [], M5) (fun o7 M8 => o7 = some none ∧ (jEv nX8_told (0, [(0, .ref 67), (1, .int x4)], [], M8) (fun o9 M10 => ∃ r11 : Int64, o9 = some (some (.long r11)) ∧ K (some (some (.long r11))) M10))))) ∧ (¬ r6 = 0 → K (some (some (.long 0))) M5))))) ∧ (¬ r3 = 0 → ((x2 < 1 → (jEv nX8_throwsIf (0, [(0, .ref 67), (1, .int 1)], [], M2) (fun o12 M13 => ∃ r14 : Int32, o12 = some (some (.int r14)) ∧ ((r14 = 0 → (jEv nX8_shareOf (0, [(0, .ref 67), (1, .int x1), (2, .int x2), (3, .int x3)], [], M13) (fun o15 M16 => o15 = some none ∧ (jEv nX8_told (0, [(0, .ref 67), (1, .int x4)], [], M16) (fun o17 M18 => ∃ r19 : Int64, o17 = some (some (.long r19)) ∧ K (some (some (.long r19))) M18))))) ∧ (¬ r14 = 0 → K (some (some (.long 0))) M13))))) ∧ (¬ x2 < 1 → (jEv nX8_stepsOf (0, [(0, .ref 67), (1, .int x1)], [], M2) (fun o20 M21 => ∃ r22 : Int32, o20 = some (some (.int r22)) ∧ ((r22 < x2 → (jEv nX8_throwsIf (0, [(0, .ref 67), (1, .int 1)], [], M21) (fun o23 M24 => ∃ r25 : Int32, o23 = some (some (.int r25)) ∧ ((r25 = 0 → (jEv nX8_shareOf (0, [(0, .ref 67), (1, .int x1), (2, .int x2), (3, .int x3)], [], M24) (fun o26 M27 => o26 = some none ∧ (jEv nX8_told (0, [(0, .ref 67), (1, .int x4)], [], M27) (fun o28 M29 => ∃ r30 : Int64, o28 = some (some (.long r30)) ∧ K (some (some (.long r30))) M29))))) ∧ (¬ r25 = 0 → K (some (some (.long 0))) M24))))) ∧ (¬ r22 < x2 → ((x3 < 1 → (jEv nX8_throwsIf (0, [(0, .ref 67), (1, .int 1)], [], M21) (fun o31 M32 => ∃ r33 : Int32, o31 = some (some (.int r33)) ∧ ((r33 = 0 → (jEv nX8_shareOf (0, [(0, .ref 67), (1, .int x1), (2, .int x2), (3, .int x3)], [], M32) (fun o34 M35 => o34 = some none ∧ (jEv nX8_told (0, [(0, .ref 67), (1, .int x4)], [], M35) (fun o36 M37 => ∃ r38 : Int64, o36 = some (some (.long r38)) ∧ K (some (some (.long r38))) M37))))) ∧ (¬ r33 = 0 → K (some (some (.long 0))) M32))))) ∧ (¬ x3 < 1 → ((x2 < x3 → (jEv nX8_throwsIf (0, [(0, .ref 67), (1, .int 1)], [], M21) (fun o39 M40 => ∃ r41 : Int32, o39 = some (some (.int r41)) ∧ ((r41 = 0 → (jEv nX8_shareOf (0, [(0, .ref 67), (1, .int x1), (2, .int x2), (3, .int x3)], [], M40) (fun o42 M43 => o42 = some none ∧ (jEv nX8_told (0, [(0, .ref 67), (1, .int x4)], [], M43) (fun o44 M45 => ∃ r46 : Int64, o44 = some (some (.long r46)) ∧ K (some (some (.long r46))) M45))))) ∧ (¬ r41 = 0 → K (some (some (.long 0))) M40))))) ∧ (¬ x2 < x3 → ((x4 < 0 → (jEv nX8_throwsIf (0, [(0, .ref 67), (1, .int 1)], [], M21) (fun o47 M48 => ∃ r49 : Int32, o47 = some (some (.int r49)) ∧ ((r49 = 0 → (jEv nX8_shareOf (0, [(0, .ref 67), (1, .int x1), (2, .int x2), (3, .int x3)], [], M48) (fun o50 M51 => o50 = some none ∧ (jEv nX8_told (0, [(0, .ref 67), (1, .int x4)], [], M51) (fun o52 M53 => ∃ r54 : Int64, o52 = some (some (.long r54)) ∧ K (some (some (.long r54))) M53))))) ∧ (¬ r49 = 0 → K (some (some (.long 0))) M48))))) ∧ (¬ x4 < 0 → ((x4 ≤ 1 → (jEv nX8_throwsIf (0, [(0, .ref 67), (1, .int 0)], [], M21) (fun o55 M56 => ∃ r57 : Int32, o55 = some (some (.int r57)) ∧ ((r57 = 0 → (jEv nX8_shareOf (0, [(0, .ref 67), (1, .int x1), (2, .int x2), (3, .int x3)], [], M56) (fun o58 M59 => o58 = some none ∧ (jEv nX8_told (0, [(0, .ref 67), (1, .int x4)], [], M59) (fun o60 M61 => ∃ r62 : Int64, o60 = some (some (.long r62)) ∧ K (some (some (.long r62))) M61))))) ∧ (¬ r57 = 0 → K (some (some (.long 0))) M56))))) ∧ (¬ x4 ≤ 1 → (jEv nX8_throwsIf (0, [(0, .ref 67), (1, .int 1)], [], M21) (fun o63 M64 => ∃ r65 : Int32, o63 = some (some (.int r65)) ∧ ((r65 = 0 → (jEv nX8_shareOf (0, [(0, .ref 67), (1, .int x1), (2, .int x2), (3, .int x3)], [], M64) (fun o66 M67 => o66 = some none ∧ (jEv nX8_told (0, [(0, .ref 67), (1, .int x4)], [], M67) (fun o68 M69 => ∃ r70 : Int64, o68 = some (some (.long r70)) ∧ K (some (some (.long r70))) M69))))) ∧ (¬ r65 = 0 → K (some (some (.long 0))) M64))))))))))))))))))))))) : jEv nX8_share (0, [(0, .ref 67), (1, .int x1), (2, .int x2), (3, .int x3), (4, .int x4)], [], M) K := by
  have hE : jMT nX8_share = some me_X8_share := rfl
  refine e_seg (k := 3) (d := (3, [(0, .ref 67), (1, .int x1), (2, .int x2), (3, .int x3), (4, .int x4)], [.int x1, .ref 67, .ref 67], M)) rfl ?_
  refine e_call (q := 6) (L0 := [(0, .ref 67), (1, .int x1)]) hE rfl rfl rfl rfl (jargs_V rfl rfl rfl rfl rfl (Nat.le_of_ble_eq_true rfl) (Nat.le_of_ble_eq_true rfl) (Nat.le_of_ble_eq_true rfl)) rfl rfl (jEv.mono h (fun o1 M2 h => ?_))
  obtain ⟨r3, rfl, h⟩ := h
  refine ⟨_, rfl, ?_⟩
  show jEv nX8_share (6, [(0, .ref 67), (1, .int x1), (2, .int x2), (3, .int x3), (4, .int x4)], [.int r3, .ref 67], M2) K
  refine e_if_eq (t := 44) (q := 9) hE rfl rfl rfl rfl (fun hbr => ?_) (fun hbr => ?_)
  · replace h := h.1 hbr
    refine e_seg (k := 2) (d := (49, [(0, .ref 67), (1, .int x1), (2, .int x2), (3, .int x3), (4, .int x4)], [.int 1, .ref 67], M2)) rfl ?_
    refine e_call (q := 52) (L0 := [(0, .ref 67), (1, .int 1)]) hE rfl rfl rfl rfl (jargs_V rfl rfl rfl rfl rfl (Nat.le_of_ble_eq_true rfl) (Nat.le_of_ble_eq_true rfl) (Nat.le_of_ble_eq_true rfl)) rfl rfl (jEv.mono h (fun o4 M5 h => ?_))
    obtain ⟨r6, rfl, h⟩ := h
    refine ⟨_, rfl, ?_⟩
    show jEv nX8_share (52, [(0, .ref 67), (1, .int x1), (2, .int x2), (3, .int x3), (4, .int x4)], [.int r6], M5) K
    refine e_if_eq (t := 57) (q := 55) hE rfl rfl rfl rfl (fun hbr => ?_) (fun hbr => ?_)
    · replace h := h.1 hbr
      refine e_seg (k := 4) (d := (61, [(0, .ref 67), (1, .int x1), (2, .int x2), (3, .int x3), (4, .int x4)], [.int x3, .int x2, .int x1, .ref 67], M5)) rfl ?_
      refine e_call (q := 64) (L0 := [(0, .ref 67), (1, .int x1), (2, .int x2), (3, .int x3)]) hE rfl rfl rfl rfl (jargs_V rfl rfl rfl rfl rfl (Nat.le_of_ble_eq_true rfl) (Nat.le_of_ble_eq_true rfl) (Nat.le_of_ble_eq_true rfl)) rfl rfl (jEv.mono h (fun o7 M8 h => ?_))
      obtain ⟨rfl, h⟩ := h
      refine ⟨_, rfl, ?_⟩
      show jEv nX8_share (64, [(0, .ref 67), (1, .int x1), (2, .int x2), (3, .int x3), (4, .int x4)], [], M8) K
      refine e_seg (k := 2) (d := (67, [(0, .ref 67), (1, .int x1), (2, .int x2), (3, .int x3), (4, .int x4)], [.int x4, .ref 67], M8)) rfl ?_
      refine e_call (q := 70) (L0 := [(0, .ref 67), (1, .int x4)]) hE rfl rfl rfl rfl (jargs_V rfl rfl rfl rfl rfl (Nat.le_of_ble_eq_true rfl) (Nat.le_of_ble_eq_true rfl) (Nat.le_of_ble_eq_true rfl)) rfl rfl (jEv.mono h (fun o9 M10 h => ?_))
      obtain ⟨r11, rfl, h⟩ := h
      refine ⟨_, rfl, ?_⟩
      show jEv nX8_share (70, [(0, .ref 67), (1, .int x1), (2, .int x2), (3, .int x3), (4, .int x4)], [.long r11], M10) K
      exact e_ret hE rfl rfl (jb_l rfl) h
    · replace h := h.2 hbr
      refine e_seg (k := 1) (d := (56, [(0, .ref 67), (1, .int x1), (2, .int x2), (3, .int x3), (4, .int x4)], [.long 0], M5)) rfl ?_
      exact e_ret hE rfl rfl (jb_l rfl) h
  · replace h := h.2 hbr
    refine e_seg (k := 2) (d := (11, [(0, .ref 67), (1, .int x1), (2, .int x2), (3, .int x3), (4, .int x4)], [.int 1, .int x2, .ref 67], M2)) rfl ?_
    refine e_ic_lt (t := 44) (q := 14) hE rfl rfl rfl rfl (fun hbr => ?_) (fun hbr => ?_)
    · replace h := h.1 hbr
      refine e_seg (k := 2) (d := (49, [(0, .ref 67), (1, .int x1), (2, .int x2), (3, .int x3), (4, .int x4)], [.int 1, .ref 67], M2)) rfl ?_
      refine e_call (q := 52) (L0 := [(0, .ref 67), (1, .int 1)]) hE rfl rfl rfl rfl (jargs_V rfl rfl rfl rfl rfl (Nat.le_of_ble_eq_true rfl) (Nat.le_of_ble_eq_true rfl) (Nat.le_of_ble_eq_true rfl)) rfl rfl (jEv.mono h (fun o12 M13 h => ?_))
      obtain ⟨r14, rfl, h⟩ := h
      refine ⟨_, rfl, ?_⟩
      show jEv nX8_share (52, [(0, .ref 67), (1, .int x1), (2, .int x2), (3, .int x3), (4, .int x4)], [.int r14], M13) K
      refine e_if_eq (t := 57) (q := 55) hE rfl rfl rfl rfl (fun hbr => ?_) (fun hbr => ?_)
      · replace h := h.1 hbr
        refine e_seg (k := 4) (d := (61, [(0, .ref 67), (1, .int x1), (2, .int x2), (3, .int x3), (4, .int x4)], [.int x3, .int x2, .int x1, .ref 67], M13)) rfl ?_
        refine e_call (q := 64) (L0 := [(0, .ref 67), (1, .int x1), (2, .int x2), (3, .int x3)]) hE rfl rfl rfl rfl (jargs_V rfl rfl rfl rfl rfl (Nat.le_of_ble_eq_true rfl) (Nat.le_of_ble_eq_true rfl) (Nat.le_of_ble_eq_true rfl)) rfl rfl (jEv.mono h (fun o15 M16 h => ?_))
        obtain ⟨rfl, h⟩ := h
        refine ⟨_, rfl, ?_⟩
        show jEv nX8_share (64, [(0, .ref 67), (1, .int x1), (2, .int x2), (3, .int x3), (4, .int x4)], [], M16) K
        refine e_seg (k := 2) (d := (67, [(0, .ref 67), (1, .int x1), (2, .int x2), (3, .int x3), (4, .int x4)], [.int x4, .ref 67], M16)) rfl ?_
        refine e_call (q := 70) (L0 := [(0, .ref 67), (1, .int x4)]) hE rfl rfl rfl rfl (jargs_V rfl rfl rfl rfl rfl (Nat.le_of_ble_eq_true rfl) (Nat.le_of_ble_eq_true rfl) (Nat.le_of_ble_eq_true rfl)) rfl rfl (jEv.mono h (fun o17 M18 h => ?_))
        obtain ⟨r19, rfl, h⟩ := h
        refine ⟨_, rfl, ?_⟩
        show jEv nX8_share (70, [(0, .ref 67), (1, .int x1), (2, .int x2), (3, .int x3), (4, .int x4)], [.long r19], M18) K
        exact e_ret hE rfl rfl (jb_l rfl) h
      · replace h := h.2 hbr
        refine e_seg (k := 1) (d := (56, [(0, .ref 67), (1, .int x1), (2, .int x2), (3, .int x3), (4, .int x4)], [.long 0], M13)) rfl ?_
        exact e_ret hE rfl rfl (jb_l rfl) h
    · replace h := h.2 hbr
      refine e_seg (k := 3) (d := (17, [(0, .ref 67), (1, .int x1), (2, .int x2), (3, .int x3), (4, .int x4)], [.int x1, .ref 67, .int x2, .ref 67], M2)) rfl ?_
      refine e_call (q := 20) (L0 := [(0, .ref 67), (1, .int x1)]) hE rfl rfl rfl rfl (jargs_V rfl rfl rfl rfl rfl (Nat.le_of_ble_eq_true rfl) (Nat.le_of_ble_eq_true rfl) (Nat.le_of_ble_eq_true rfl)) rfl rfl (jEv.mono h (fun o20 M21 h => ?_))
      obtain ⟨r22, rfl, h⟩ := h
      refine ⟨_, rfl, ?_⟩
      show jEv nX8_share (20, [(0, .ref 67), (1, .int x1), (2, .int x2), (3, .int x3), (4, .int x4)], [.int r22, .int x2, .ref 67], M21) K
      refine e_ic_gt (t := 44) (q := 23) hE rfl rfl rfl rfl (fun hbr => ?_) (fun hbr => ?_)
      · replace h := h.1 hbr
        refine e_seg (k := 2) (d := (49, [(0, .ref 67), (1, .int x1), (2, .int x2), (3, .int x3), (4, .int x4)], [.int 1, .ref 67], M21)) rfl ?_
        refine e_call (q := 52) (L0 := [(0, .ref 67), (1, .int 1)]) hE rfl rfl rfl rfl (jargs_V rfl rfl rfl rfl rfl (Nat.le_of_ble_eq_true rfl) (Nat.le_of_ble_eq_true rfl) (Nat.le_of_ble_eq_true rfl)) rfl rfl (jEv.mono h (fun o23 M24 h => ?_))
        obtain ⟨r25, rfl, h⟩ := h
        refine ⟨_, rfl, ?_⟩
        show jEv nX8_share (52, [(0, .ref 67), (1, .int x1), (2, .int x2), (3, .int x3), (4, .int x4)], [.int r25], M24) K
        refine e_if_eq (t := 57) (q := 55) hE rfl rfl rfl rfl (fun hbr => ?_) (fun hbr => ?_)
        · replace h := h.1 hbr
          refine e_seg (k := 4) (d := (61, [(0, .ref 67), (1, .int x1), (2, .int x2), (3, .int x3), (4, .int x4)], [.int x3, .int x2, .int x1, .ref 67], M24)) rfl ?_
          refine e_call (q := 64) (L0 := [(0, .ref 67), (1, .int x1), (2, .int x2), (3, .int x3)]) hE rfl rfl rfl rfl (jargs_V rfl rfl rfl rfl rfl (Nat.le_of_ble_eq_true rfl) (Nat.le_of_ble_eq_true rfl) (Nat.le_of_ble_eq_true rfl)) rfl rfl (jEv.mono h (fun o26 M27 h => ?_))
          obtain ⟨rfl, h⟩ := h
          refine ⟨_, rfl, ?_⟩
          show jEv nX8_share (64, [(0, .ref 67), (1, .int x1), (2, .int x2), (3, .int x3), (4, .int x4)], [], M27) K
          refine e_seg (k := 2) (d := (67, [(0, .ref 67), (1, .int x1), (2, .int x2), (3, .int x3), (4, .int x4)], [.int x4, .ref 67], M27)) rfl ?_
          refine e_call (q := 70) (L0 := [(0, .ref 67), (1, .int x4)]) hE rfl rfl rfl rfl (jargs_V rfl rfl rfl rfl rfl (Nat.le_of_ble_eq_true rfl) (Nat.le_of_ble_eq_true rfl) (Nat.le_of_ble_eq_true rfl)) rfl rfl (jEv.mono h (fun o28 M29 h => ?_))
          obtain ⟨r30, rfl, h⟩ := h
          refine ⟨_, rfl, ?_⟩
          show jEv nX8_share (70, [(0, .ref 67), (1, .int x1), (2, .int x2), (3, .int x3), (4, .int x4)], [.long r30], M29) K
          exact e_ret hE rfl rfl (jb_l rfl) h
        · replace h := h.2 hbr
          refine e_seg (k := 1) (d := (56, [(0, .ref 67), (1, .int x1), (2, .int x2), (3, .int x3), (4, .int x4)], [.long 0], M24)) rfl ?_
          exact e_ret hE rfl rfl (jb_l rfl) h
      · replace h := h.2 hbr
        refine e_seg (k := 2) (d := (25, [(0, .ref 67), (1, .int x1), (2, .int x2), (3, .int x3), (4, .int x4)], [.int 1, .int x3, .ref 67], M21)) rfl ?_
        refine e_ic_lt (t := 44) (q := 28) hE rfl rfl rfl rfl (fun hbr => ?_) (fun hbr => ?_)
        · replace h := h.1 hbr
          refine e_seg (k := 2) (d := (49, [(0, .ref 67), (1, .int x1), (2, .int x2), (3, .int x3), (4, .int x4)], [.int 1, .ref 67], M21)) rfl ?_
          refine e_call (q := 52) (L0 := [(0, .ref 67), (1, .int 1)]) hE rfl rfl rfl rfl (jargs_V rfl rfl rfl rfl rfl (Nat.le_of_ble_eq_true rfl) (Nat.le_of_ble_eq_true rfl) (Nat.le_of_ble_eq_true rfl)) rfl rfl (jEv.mono h (fun o31 M32 h => ?_))
          obtain ⟨r33, rfl, h⟩ := h
          refine ⟨_, rfl, ?_⟩
          show jEv nX8_share (52, [(0, .ref 67), (1, .int x1), (2, .int x2), (3, .int x3), (4, .int x4)], [.int r33], M32) K
          refine e_if_eq (t := 57) (q := 55) hE rfl rfl rfl rfl (fun hbr => ?_) (fun hbr => ?_)
          · replace h := h.1 hbr
            refine e_seg (k := 4) (d := (61, [(0, .ref 67), (1, .int x1), (2, .int x2), (3, .int x3), (4, .int x4)], [.int x3, .int x2, .int x1, .ref 67], M32)) rfl ?_
            refine e_call (q := 64) (L0 := [(0, .ref 67), (1, .int x1), (2, .int x2), (3, .int x3)]) hE rfl rfl rfl rfl (jargs_V rfl rfl rfl rfl rfl (Nat.le_of_ble_eq_true rfl) (Nat.le_of_ble_eq_true rfl) (Nat.le_of_ble_eq_true rfl)) rfl rfl (jEv.mono h (fun o34 M35 h => ?_))
            obtain ⟨rfl, h⟩ := h
            refine ⟨_, rfl, ?_⟩
            show jEv nX8_share (64, [(0, .ref 67), (1, .int x1), (2, .int x2), (3, .int x3), (4, .int x4)], [], M35) K
            refine e_seg (k := 2) (d := (67, [(0, .ref 67), (1, .int x1), (2, .int x2), (3, .int x3), (4, .int x4)], [.int x4, .ref 67], M35)) rfl ?_
            refine e_call (q := 70) (L0 := [(0, .ref 67), (1, .int x4)]) hE rfl rfl rfl rfl (jargs_V rfl rfl rfl rfl rfl (Nat.le_of_ble_eq_true rfl) (Nat.le_of_ble_eq_true rfl) (Nat.le_of_ble_eq_true rfl)) rfl rfl (jEv.mono h (fun o36 M37 h => ?_))
            obtain ⟨r38, rfl, h⟩ := h
            refine ⟨_, rfl, ?_⟩
            show jEv nX8_share (70, [(0, .ref 67), (1, .int x1), (2, .int x2), (3, .int x3), (4, .int x4)], [.long r38], M37) K
            exact e_ret hE rfl rfl (jb_l rfl) h
          · replace h := h.2 hbr
            refine e_seg (k := 1) (d := (56, [(0, .ref 67), (1, .int x1), (2, .int x2), (3, .int x3), (4, .int x4)], [.long 0], M32)) rfl ?_
            exact e_ret hE rfl rfl (jb_l rfl) h
        · replace h := h.2 hbr
          refine e_seg (k := 2) (d := (30, [(0, .ref 67), (1, .int x1), (2, .int x2), (3, .int x3), (4, .int x4)], [.int x2, .int x3, .ref 67], M21)) rfl ?_
          refine e_ic_gt (t := 44) (q := 33) hE rfl rfl rfl rfl (fun hbr => ?_) (fun hbr => ?_)
          · replace h := h.1 hbr
            refine e_seg (k := 2) (d := (49, [(0, .ref 67), (1, .int x1), (2, .int x2), (3, .int x3), (4, .int x4)], [.int 1, .ref 67], M21)) rfl ?_
            refine e_call (q := 52) (L0 := [(0, .ref 67), (1, .int 1)]) hE rfl rfl rfl rfl (jargs_V rfl rfl rfl rfl rfl (Nat.le_of_ble_eq_true rfl) (Nat.le_of_ble_eq_true rfl) (Nat.le_of_ble_eq_true rfl)) rfl rfl (jEv.mono h (fun o39 M40 h => ?_))
            obtain ⟨r41, rfl, h⟩ := h
            refine ⟨_, rfl, ?_⟩
            show jEv nX8_share (52, [(0, .ref 67), (1, .int x1), (2, .int x2), (3, .int x3), (4, .int x4)], [.int r41], M40) K
            refine e_if_eq (t := 57) (q := 55) hE rfl rfl rfl rfl (fun hbr => ?_) (fun hbr => ?_)
            · replace h := h.1 hbr
              refine e_seg (k := 4) (d := (61, [(0, .ref 67), (1, .int x1), (2, .int x2), (3, .int x3), (4, .int x4)], [.int x3, .int x2, .int x1, .ref 67], M40)) rfl ?_
              refine e_call (q := 64) (L0 := [(0, .ref 67), (1, .int x1), (2, .int x2), (3, .int x3)]) hE rfl rfl rfl rfl (jargs_V rfl rfl rfl rfl rfl (Nat.le_of_ble_eq_true rfl) (Nat.le_of_ble_eq_true rfl) (Nat.le_of_ble_eq_true rfl)) rfl rfl (jEv.mono h (fun o42 M43 h => ?_))
              obtain ⟨rfl, h⟩ := h
              refine ⟨_, rfl, ?_⟩
              show jEv nX8_share (64, [(0, .ref 67), (1, .int x1), (2, .int x2), (3, .int x3), (4, .int x4)], [], M43) K
              refine e_seg (k := 2) (d := (67, [(0, .ref 67), (1, .int x1), (2, .int x2), (3, .int x3), (4, .int x4)], [.int x4, .ref 67], M43)) rfl ?_
              refine e_call (q := 70) (L0 := [(0, .ref 67), (1, .int x4)]) hE rfl rfl rfl rfl (jargs_V rfl rfl rfl rfl rfl (Nat.le_of_ble_eq_true rfl) (Nat.le_of_ble_eq_true rfl) (Nat.le_of_ble_eq_true rfl)) rfl rfl (jEv.mono h (fun o44 M45 h => ?_))
              obtain ⟨r46, rfl, h⟩ := h
              refine ⟨_, rfl, ?_⟩
              show jEv nX8_share (70, [(0, .ref 67), (1, .int x1), (2, .int x2), (3, .int x3), (4, .int x4)], [.long r46], M45) K
              exact e_ret hE rfl rfl (jb_l rfl) h
            · replace h := h.2 hbr
              refine e_seg (k := 1) (d := (56, [(0, .ref 67), (1, .int x1), (2, .int x2), (3, .int x3), (4, .int x4)], [.long 0], M40)) rfl ?_
              exact e_ret hE rfl rfl (jb_l rfl) h
          · replace h := h.2 hbr
            refine e_seg (k := 1) (d := (35, [(0, .ref 67), (1, .int x1), (2, .int x2), (3, .int x3), (4, .int x4)], [.int x4, .ref 67], M21)) rfl ?_
            refine e_if_lt (t := 44) (q := 38) hE rfl rfl rfl rfl (fun hbr => ?_) (fun hbr => ?_)
            · replace h := h.1 hbr
              refine e_seg (k := 2) (d := (49, [(0, .ref 67), (1, .int x1), (2, .int x2), (3, .int x3), (4, .int x4)], [.int 1, .ref 67], M21)) rfl ?_
              refine e_call (q := 52) (L0 := [(0, .ref 67), (1, .int 1)]) hE rfl rfl rfl rfl (jargs_V rfl rfl rfl rfl rfl (Nat.le_of_ble_eq_true rfl) (Nat.le_of_ble_eq_true rfl) (Nat.le_of_ble_eq_true rfl)) rfl rfl (jEv.mono h (fun o47 M48 h => ?_))
              obtain ⟨r49, rfl, h⟩ := h
              refine ⟨_, rfl, ?_⟩
              show jEv nX8_share (52, [(0, .ref 67), (1, .int x1), (2, .int x2), (3, .int x3), (4, .int x4)], [.int r49], M48) K
              refine e_if_eq (t := 57) (q := 55) hE rfl rfl rfl rfl (fun hbr => ?_) (fun hbr => ?_)
              · replace h := h.1 hbr
                refine e_seg (k := 4) (d := (61, [(0, .ref 67), (1, .int x1), (2, .int x2), (3, .int x3), (4, .int x4)], [.int x3, .int x2, .int x1, .ref 67], M48)) rfl ?_
                refine e_call (q := 64) (L0 := [(0, .ref 67), (1, .int x1), (2, .int x2), (3, .int x3)]) hE rfl rfl rfl rfl (jargs_V rfl rfl rfl rfl rfl (Nat.le_of_ble_eq_true rfl) (Nat.le_of_ble_eq_true rfl) (Nat.le_of_ble_eq_true rfl)) rfl rfl (jEv.mono h (fun o50 M51 h => ?_))
                obtain ⟨rfl, h⟩ := h
                refine ⟨_, rfl, ?_⟩
                show jEv nX8_share (64, [(0, .ref 67), (1, .int x1), (2, .int x2), (3, .int x3), (4, .int x4)], [], M51) K
                refine e_seg (k := 2) (d := (67, [(0, .ref 67), (1, .int x1), (2, .int x2), (3, .int x3), (4, .int x4)], [.int x4, .ref 67], M51)) rfl ?_
                refine e_call (q := 70) (L0 := [(0, .ref 67), (1, .int x4)]) hE rfl rfl rfl rfl (jargs_V rfl rfl rfl rfl rfl (Nat.le_of_ble_eq_true rfl) (Nat.le_of_ble_eq_true rfl) (Nat.le_of_ble_eq_true rfl)) rfl rfl (jEv.mono h (fun o52 M53 h => ?_))
                obtain ⟨r54, rfl, h⟩ := h
                refine ⟨_, rfl, ?_⟩
                show jEv nX8_share (70, [(0, .ref 67), (1, .int x1), (2, .int x2), (3, .int x3), (4, .int x4)], [.long r54], M53) K
                exact e_ret hE rfl rfl (jb_l rfl) h
              · replace h := h.2 hbr
                refine e_seg (k := 1) (d := (56, [(0, .ref 67), (1, .int x1), (2, .int x2), (3, .int x3), (4, .int x4)], [.long 0], M48)) rfl ?_
                exact e_ret hE rfl rfl (jb_l rfl) h
            · replace h := h.2 hbr
              refine e_seg (k := 2) (d := (41, [(0, .ref 67), (1, .int x1), (2, .int x2), (3, .int x3), (4, .int x4)], [.int 1, .int x4, .ref 67], M21)) rfl ?_
              refine e_ic_le (t := 48) (q := 44) hE rfl rfl rfl rfl (fun hbr => ?_) (fun hbr => ?_)
              · replace h := h.1 hbr
                refine e_seg (k := 1) (d := (49, [(0, .ref 67), (1, .int x1), (2, .int x2), (3, .int x3), (4, .int x4)], [.int 0, .ref 67], M21)) rfl ?_
                refine e_call (q := 52) (L0 := [(0, .ref 67), (1, .int 0)]) hE rfl rfl rfl rfl (jargs_V rfl rfl rfl rfl rfl (Nat.le_of_ble_eq_true rfl) (Nat.le_of_ble_eq_true rfl) (Nat.le_of_ble_eq_true rfl)) rfl rfl (jEv.mono h (fun o55 M56 h => ?_))
                obtain ⟨r57, rfl, h⟩ := h
                refine ⟨_, rfl, ?_⟩
                show jEv nX8_share (52, [(0, .ref 67), (1, .int x1), (2, .int x2), (3, .int x3), (4, .int x4)], [.int r57], M56) K
                refine e_if_eq (t := 57) (q := 55) hE rfl rfl rfl rfl (fun hbr => ?_) (fun hbr => ?_)
                · replace h := h.1 hbr
                  refine e_seg (k := 4) (d := (61, [(0, .ref 67), (1, .int x1), (2, .int x2), (3, .int x3), (4, .int x4)], [.int x3, .int x2, .int x1, .ref 67], M56)) rfl ?_
                  refine e_call (q := 64) (L0 := [(0, .ref 67), (1, .int x1), (2, .int x2), (3, .int x3)]) hE rfl rfl rfl rfl (jargs_V rfl rfl rfl rfl rfl (Nat.le_of_ble_eq_true rfl) (Nat.le_of_ble_eq_true rfl) (Nat.le_of_ble_eq_true rfl)) rfl rfl (jEv.mono h (fun o58 M59 h => ?_))
                  obtain ⟨rfl, h⟩ := h
                  refine ⟨_, rfl, ?_⟩
                  show jEv nX8_share (64, [(0, .ref 67), (1, .int x1), (2, .int x2), (3, .int x3), (4, .int x4)], [], M59) K
                  refine e_seg (k := 2) (d := (67, [(0, .ref 67), (1, .int x1), (2, .int x2), (3, .int x3), (4, .int x4)], [.int x4, .ref 67], M59)) rfl ?_
                  refine e_call (q := 70) (L0 := [(0, .ref 67), (1, .int x4)]) hE rfl rfl rfl rfl (jargs_V rfl rfl rfl rfl rfl (Nat.le_of_ble_eq_true rfl) (Nat.le_of_ble_eq_true rfl) (Nat.le_of_ble_eq_true rfl)) rfl rfl (jEv.mono h (fun o60 M61 h => ?_))
                  obtain ⟨r62, rfl, h⟩ := h
                  refine ⟨_, rfl, ?_⟩
                  show jEv nX8_share (70, [(0, .ref 67), (1, .int x1), (2, .int x2), (3, .int x3), (4, .int x4)], [.long r62], M61) K
                  exact e_ret hE rfl rfl (jb_l rfl) h
                · replace h := h.2 hbr
                  refine e_seg (k := 1) (d := (56, [(0, .ref 67), (1, .int x1), (2, .int x2), (3, .int x3), (4, .int x4)], [.long 0], M56)) rfl ?_
                  exact e_ret hE rfl rfl (jb_l rfl) h
              · replace h := h.2 hbr
                refine e_seg (k := 2) (d := (49, [(0, .ref 67), (1, .int x1), (2, .int x2), (3, .int x3), (4, .int x4)], [.int 1, .ref 67], M21)) rfl ?_
                refine e_call (q := 52) (L0 := [(0, .ref 67), (1, .int 1)]) hE rfl rfl rfl rfl (jargs_V rfl rfl rfl rfl rfl (Nat.le_of_ble_eq_true rfl) (Nat.le_of_ble_eq_true rfl) (Nat.le_of_ble_eq_true rfl)) rfl rfl (jEv.mono h (fun o63 M64 h => ?_))
                obtain ⟨r65, rfl, h⟩ := h
                refine ⟨_, rfl, ?_⟩
                show jEv nX8_share (52, [(0, .ref 67), (1, .int x1), (2, .int x2), (3, .int x3), (4, .int x4)], [.int r65], M64) K
                refine e_if_eq (t := 57) (q := 55) hE rfl rfl rfl rfl (fun hbr => ?_) (fun hbr => ?_)
                · replace h := h.1 hbr
                  refine e_seg (k := 4) (d := (61, [(0, .ref 67), (1, .int x1), (2, .int x2), (3, .int x3), (4, .int x4)], [.int x3, .int x2, .int x1, .ref 67], M64)) rfl ?_
                  refine e_call (q := 64) (L0 := [(0, .ref 67), (1, .int x1), (2, .int x2), (3, .int x3)]) hE rfl rfl rfl rfl (jargs_V rfl rfl rfl rfl rfl (Nat.le_of_ble_eq_true rfl) (Nat.le_of_ble_eq_true rfl) (Nat.le_of_ble_eq_true rfl)) rfl rfl (jEv.mono h (fun o66 M67 h => ?_))
                  obtain ⟨rfl, h⟩ := h
                  refine ⟨_, rfl, ?_⟩
                  show jEv nX8_share (64, [(0, .ref 67), (1, .int x1), (2, .int x2), (3, .int x3), (4, .int x4)], [], M67) K
                  refine e_seg (k := 2) (d := (67, [(0, .ref 67), (1, .int x1), (2, .int x2), (3, .int x3), (4, .int x4)], [.int x4, .ref 67], M67)) rfl ?_
                  refine e_call (q := 70) (L0 := [(0, .ref 67), (1, .int x4)]) hE rfl rfl rfl rfl (jargs_V rfl rfl rfl rfl rfl (Nat.le_of_ble_eq_true rfl) (Nat.le_of_ble_eq_true rfl) (Nat.le_of_ble_eq_true rfl)) rfl rfl (jEv.mono h (fun o68 M69 h => ?_))
                  obtain ⟨r70, rfl, h⟩ := h
                  refine ⟨_, rfl, ?_⟩
                  show jEv nX8_share (70, [(0, .ref 67), (1, .int x1), (2, .int x2), (3, .int x3), (4, .int x4)], [.long r70], M69) K
                  exact e_ret hE rfl rfl (jb_l rfl) h
                · replace h := h.2 hbr
                  refine e_seg (k := 1) (d := (56, [(0, .ref 67), (1, .int x1), (2, .int x2), (3, .int x3), (4, .int x4)], [.long 0], M64)) rfl ?_
                  exact e_ret hE rfl rfl (jb_l rfl) h
set_option maxRecDepth 100000 in
set_option maxHeartbeats 4000000 in
theorem v_X8_solid_0 {K : jK} {M : jM} {x1 : Int32} (h : (∀ M1 : jM, M1 = jsi M 67 0 0 → (jEv nX8_has (0, [(0, .ref 67), (1, .int x1)], [], M1) (fun o2 M3 => ∃ r4 : Int32, o2 = some (some (.int r4)) ∧ ((r4 = 0 → K (some (some (.int (-1)))) M3) ∧ (¬ r4 = 0 → (¬ (x1 < 0 ∨ 6 ≤ x1.toNatClampNeg) ∧ (jEv nX8_stepsOf (0, [(0, .ref 67), (1, .int x1)], [], M3) (fun o5 M6 => ∃ r7 : Int32, o5 = some (some (.int r7)) ∧ ((r7 = ((M3.1 86 x1.toNatClampNeg) - 1) → (jEv nX8_block (0, [(0, .ref 67), (1, .int x1), (2, .int (((M3.1 86 x1.toNatClampNeg) - 1) + 1))], [], M6) (fun o8 M9 => ∃ r10 : Int64, o8 = some (some (.long r10)) ∧ ((r10 < 0 → K (some (some (.int 0))) M9) ∧ (¬ (r10 < 0) → K (some (some (.int 1))) M9))))) ∧ (¬ r7 = ((M3.1 86 x1.toNatClampNeg) - 1) → K (some (some (.int 0))) M6))))))))))) : jEv nX8_solid (0, [(0, .ref 67), (1, .int x1)], [], M) K := by
  have hE : jMT nX8_solid = some me_X8_solid := rfl
  refine e_seg (k := 2) (d := (2, [(0, .ref 67), (1, .int x1)], [.int 0, .ref 67], M)) rfl ?_
  refine e_put (q := 5) hE rfl rfl rfl rfl rfl rfl rfl ?_
  obtain ⟨M1, hM1⟩ : ∃ z : jM, z = jsi M 67 0 0 := ⟨_, rfl⟩
  refine jEv_M hM1 ?_
  replace h := h M1 hM1
  refine e_seg (k := 2) (d := (7, [(0, .ref 67), (1, .int x1)], [.int x1, .ref 67], M1)) rfl ?_
  refine e_call (q := 10) (L0 := [(0, .ref 67), (1, .int x1)]) hE rfl rfl rfl rfl (jargs_V rfl rfl rfl rfl rfl (Nat.le_of_ble_eq_true rfl) (Nat.le_of_ble_eq_true rfl) (Nat.le_of_ble_eq_true rfl)) rfl rfl (jEv.mono h (fun o2 M3 h => ?_))
  obtain ⟨r4, rfl, h⟩ := h
  refine ⟨_, rfl, ?_⟩
  show jEv nX8_solid (10, [(0, .ref 67), (1, .int x1)], [.int r4], M3) K
  refine e_if_ne (t := 15) (q := 13) hE rfl rfl rfl rfl (fun hbr => ?_) (fun hbr => ?_)
  · replace h := h.2 hbr
    refine e_seg (k := 3) (d := (20, [(0, .ref 67), (1, .int x1)], [.int x1, .ref 86], M3)) rfl ?_
    refine e_iald (q := 21) hE rfl rfl rfl rfl h.1 ?_
    replace h := h.2
    refine e_seg (k := 5) (d := (26, [(0, .ref 67), (1, .int x1), (2, .int ((M3.1 86 x1.toNatClampNeg) - 1))], [.int x1, .ref 67], M3)) rfl ?_
    refine e_call (q := 29) (L0 := [(0, .ref 67), (1, .int x1)]) hE rfl rfl rfl rfl (jargs_V rfl rfl rfl rfl rfl (Nat.le_of_ble_eq_true rfl) (Nat.le_of_ble_eq_true rfl) (Nat.le_of_ble_eq_true rfl)) rfl rfl (jEv.mono h (fun o5 M6 h => ?_))
    obtain ⟨r7, rfl, h⟩ := h
    refine ⟨_, rfl, ?_⟩
    show jEv nX8_solid (29, [(0, .ref 67), (1, .int x1), (2, .int ((M3.1 86 x1.toNatClampNeg) - 1))], [.int r7], M6) K
    refine e_seg (k := 1) (d := (30, [(0, .ref 67), (1, .int x1), (2, .int ((M3.1 86 x1.toNatClampNeg) - 1))], [.int ((M3.1 86 x1.toNatClampNeg) - 1), .int r7], M6)) rfl ?_
    refine e_ic_ne (t := 50) (q := 33) hE rfl rfl rfl rfl (fun hbr => ?_) (fun hbr => ?_)
    · replace h := h.2 hbr
      refine e_seg (k := 1) (d := (51, [(0, .ref 67), (1, .int x1), (2, .int ((M3.1 86 x1.toNatClampNeg) - 1))], [.int 0], M6)) rfl ?_
      exact e_ret hE rfl rfl (jb_i rfl) h
    · replace h := h.1 hbr
      refine e_seg (k := 5) (d := (38, [(0, .ref 67), (1, .int x1), (2, .int ((M3.1 86 x1.toNatClampNeg) - 1))], [.int (((M3.1 86 x1.toNatClampNeg) - 1) + 1), .int x1, .ref 67], M6)) rfl ?_
      refine e_call (q := 41) (L0 := [(0, .ref 67), (1, .int x1), (2, .int (((M3.1 86 x1.toNatClampNeg) - 1) + 1))]) hE rfl rfl rfl rfl (jargs_V rfl rfl rfl rfl rfl (Nat.le_of_ble_eq_true rfl) (Nat.le_of_ble_eq_true rfl) (Nat.le_of_ble_eq_true rfl)) rfl rfl (jEv.mono h (fun o8 M9 h => ?_))
      obtain ⟨r10, rfl, h⟩ := h
      refine ⟨_, rfl, ?_⟩
      show jEv nX8_solid (41, [(0, .ref 67), (1, .int x1), (2, .int ((M3.1 86 x1.toNatClampNeg) - 1))], [.long r10], M9) K
      refine e_seg (k := 1) (d := (42, [(0, .ref 67), (1, .int x1), (2, .int ((M3.1 86 x1.toNatClampNeg) - 1))], [.long 0, .long r10], M9)) rfl ?_
      refine e_lc (t := 50) (q := 46) (pc1 := 43) hE rfl rfl rfl rfl rfl rfl (lc_lt r10 0) rfl rfl (fun hbr => ?_) (fun hbr => ?_)
      · replace h := h.1 hbr
        refine e_seg (k := 1) (d := (51, [(0, .ref 67), (1, .int x1), (2, .int ((M3.1 86 x1.toNatClampNeg) - 1))], [.int 0], M9)) rfl ?_
        exact e_ret hE rfl rfl (jb_i rfl) h
      · replace h := h.2 hbr
        refine e_seg (k := 2) (d := (51, [(0, .ref 67), (1, .int x1), (2, .int ((M3.1 86 x1.toNatClampNeg) - 1))], [.int 1], M9)) rfl ?_
        exact e_ret hE rfl rfl (jb_i rfl) h
  · replace h := h.1 hbr
    refine e_seg (k := 1) (d := (14, [(0, .ref 67), (1, .int x1)], [.int (-1)], M3)) rfl ?_
    exact e_ret hE rfl rfl (jb_i rfl) h
set_option maxRecDepth 100000 in
set_option maxHeartbeats 4000000 in
theorem v_X8_steady_0 {K : jK} {M : jM} {x1 : Int32} (h : (∀ M1 : jM, M1 = jsi M 67 0 0 → (jEv nX8_hasRule (0, [(0, .ref 67), (1, .int x1)], [], M1) (fun o2 M3 => ∃ r4 : Int32, o2 = some (some (.int r4)) ∧ ((r4 = 0 → K (some (some (.int (-1)))) M3) ∧ (¬ r4 = 0 → (jEv nX8_isSteady (0, [(0, .ref 67), (1, .int x1)], [], M3) (fun o5 M6 => ∃ r7 : Int32, o5 = some (some (.int r7)) ∧ ((r7 = 0 → K (some (some (.int 0))) M6) ∧ (¬ r7 = 0 → K (some (some (.int 1))) M6)))))))))) : jEv nX8_steady (0, [(0, .ref 67), (1, .int x1)], [], M) K := by
  have hE : jMT nX8_steady = some me_X8_steady := rfl
  refine e_seg (k := 2) (d := (2, [(0, .ref 67), (1, .int x1)], [.int 0, .ref 67], M)) rfl ?_
  refine e_put (q := 5) hE rfl rfl rfl rfl rfl rfl rfl ?_
  obtain ⟨M1, hM1⟩ : ∃ z : jM, z = jsi M 67 0 0 := ⟨_, rfl⟩
  refine jEv_M hM1 ?_
  replace h := h M1 hM1
  refine e_seg (k := 2) (d := (7, [(0, .ref 67), (1, .int x1)], [.int x1, .ref 67], M1)) rfl ?_
  refine e_call (q := 10) (L0 := [(0, .ref 67), (1, .int x1)]) hE rfl rfl rfl rfl (jargs_V rfl rfl rfl rfl rfl (Nat.le_of_ble_eq_true rfl) (Nat.le_of_ble_eq_true rfl) (Nat.le_of_ble_eq_true rfl)) rfl rfl (jEv.mono h (fun o2 M3 h => ?_))
  obtain ⟨r4, rfl, h⟩ := h
  refine ⟨_, rfl, ?_⟩
  show jEv nX8_steady (10, [(0, .ref 67), (1, .int x1)], [.int r4], M3) K
  refine e_if_eq (t := 29) (q := 13) hE rfl rfl rfl rfl (fun hbr => ?_) (fun hbr => ?_)
  · replace h := h.1 hbr
    refine e_seg (k := 1) (d := (30, [(0, .ref 67), (1, .int x1)], [.int (-1)], M3)) rfl ?_
    exact e_ret hE rfl rfl (jb_i rfl) h
  · replace h := h.2 hbr
    refine e_seg (k := 2) (d := (15, [(0, .ref 67), (1, .int x1)], [.int x1, .ref 67], M3)) rfl ?_
    refine e_call (q := 18) (L0 := [(0, .ref 67), (1, .int x1)]) hE rfl rfl rfl rfl (jargs_V rfl rfl rfl rfl rfl (Nat.le_of_ble_eq_true rfl) (Nat.le_of_ble_eq_true rfl) (Nat.le_of_ble_eq_true rfl)) rfl rfl (jEv.mono h (fun o5 M6 h => ?_))
    obtain ⟨r7, rfl, h⟩ := h
    refine ⟨_, rfl, ?_⟩
    show jEv nX8_steady (18, [(0, .ref 67), (1, .int x1)], [.int r7], M6) K
    refine e_if_eq (t := 25) (q := 21) hE rfl rfl rfl rfl (fun hbr => ?_) (fun hbr => ?_)
    · replace h := h.1 hbr
      refine e_seg (k := 2) (d := (30, [(0, .ref 67), (1, .int x1)], [.int 0], M6)) rfl ?_
      exact e_ret hE rfl rfl (jb_i rfl) h
    · replace h := h.2 hbr
      refine e_seg (k := 2) (d := (30, [(0, .ref 67), (1, .int x1)], [.int 1], M6)) rfl ?_
      exact e_ret hE rfl rfl (jb_i rfl) h
set_option maxRecDepth 100000 in
set_option maxHeartbeats 4000000 in
theorem v_X8_steps_0 {K : jK} {M : jM} {x1 : Int32} (h : (∀ M1 : jM, M1 = jsi M 67 0 0 → (jEv nX8_has (0, [(0, .ref 67), (1, .int x1)], [], M1) (fun o2 M3 => ∃ r4 : Int32, o2 = some (some (.int r4)) ∧ ((r4 = 0 → K (some (some (.int (-1)))) M3) ∧ (¬ r4 = 0 → (jEv nX8_stepsOf (0, [(0, .ref 67), (1, .int x1)], [], M3) (fun o5 M6 => ∃ r7 : Int32, o5 = some (some (.int r7)) ∧ K (some (some (.int r7))) M6)))))))) : jEv nX8_steps (0, [(0, .ref 67), (1, .int x1)], [], M) K := by
  have hE : jMT nX8_steps = some me_X8_steps := rfl
  refine e_seg (k := 2) (d := (2, [(0, .ref 67), (1, .int x1)], [.int 0, .ref 67], M)) rfl ?_
  refine e_put (q := 5) hE rfl rfl rfl rfl rfl rfl rfl ?_
  obtain ⟨M1, hM1⟩ : ∃ z : jM, z = jsi M 67 0 0 := ⟨_, rfl⟩
  refine jEv_M hM1 ?_
  replace h := h M1 hM1
  refine e_seg (k := 2) (d := (7, [(0, .ref 67), (1, .int x1)], [.int x1, .ref 67], M1)) rfl ?_
  refine e_call (q := 10) (L0 := [(0, .ref 67), (1, .int x1)]) hE rfl rfl rfl rfl (jargs_V rfl rfl rfl rfl rfl (Nat.le_of_ble_eq_true rfl) (Nat.le_of_ble_eq_true rfl) (Nat.le_of_ble_eq_true rfl)) rfl rfl (jEv.mono h (fun o2 M3 h => ?_))
  obtain ⟨r4, rfl, h⟩ := h
  refine ⟨_, rfl, ?_⟩
  show jEv nX8_steps (10, [(0, .ref 67), (1, .int x1)], [.int r4], M3) K
  refine e_if_eq (t := 21) (q := 13) hE rfl rfl rfl rfl (fun hbr => ?_) (fun hbr => ?_)
  · replace h := h.1 hbr
    refine e_seg (k := 1) (d := (22, [(0, .ref 67), (1, .int x1)], [.int (-1)], M3)) rfl ?_
    exact e_ret hE rfl rfl (jb_i rfl) h
  · replace h := h.2 hbr
    refine e_seg (k := 2) (d := (15, [(0, .ref 67), (1, .int x1)], [.int x1, .ref 67], M3)) rfl ?_
    refine e_call (q := 18) (L0 := [(0, .ref 67), (1, .int x1)]) hE rfl rfl rfl rfl (jargs_V rfl rfl rfl rfl rfl (Nat.le_of_ble_eq_true rfl) (Nat.le_of_ble_eq_true rfl) (Nat.le_of_ble_eq_true rfl)) rfl rfl (jEv.mono h (fun o5 M6 h => ?_))
    obtain ⟨r7, rfl, h⟩ := h
    refine ⟨_, rfl, ?_⟩
    show jEv nX8_steps (18, [(0, .ref 67), (1, .int x1)], [.int r7], M6) K
    refine e_seg (k := 1) (d := (22, [(0, .ref 67), (1, .int x1)], [.int r7], M6)) rfl ?_
    exact e_ret hE rfl rfl (jb_i rfl) h
set_option maxRecDepth 100000 in
set_option maxHeartbeats 4000000 in
theorem v_X8_weights_0 {K : jK} {M : jM} {x1 : Int32} {x2 : Int32} (h : (¬ (x1 < 0 ∨ 6 ≤ x1.toNatClampNeg) ∧ jEv nX8_weights (10, [(0, .ref 67), (1, .int x1), (2, .int x2), (3, .int (M.1 70 x1.toNatClampNeg)), (4, .int 0)], [], M) K)) : jEv nX8_weights (0, [(0, .ref 67), (1, .int x1), (2, .int x2)], [], M) K := by
  have hE : jMT nX8_weights = some me_X8_weights := rfl
  refine e_seg (k := 3) (d := (5, [(0, .ref 67), (1, .int x1), (2, .int x2)], [.int x1, .ref 70], M)) rfl ?_
  refine e_iald (q := 6) hE rfl rfl rfl rfl h.1 ?_
  replace h := h.2
  refine e_seg (k := 3) (d := (10, [(0, .ref 67), (1, .int x1), (2, .int x2), (3, .int (M.1 70 x1.toNatClampNeg)), (4, .int 0)], [], M)) rfl ?_
  refine e_cut (ks := [0, 1, 2, 3, 4]) (L' := [(0, .ref 67), (1, .int x1), (2, .int x2), (3, .int (M.1 70 x1.toNatClampNeg)), (4, .int 0)]) hE rfl rfl rfl rfl rfl ?_
  exact h
set_option maxRecDepth 100000 in
set_option maxHeartbeats 4000000 in
theorem v_X8_weights_10 {K : jK} {M : jM} {x1 : Int32} {x2 : Int32} {x3 : Int32} {x4 : Int32} (h : ((9 ≤ x4 → K (some none) M) ∧ (¬ 9 ≤ x4 → ((x4 = 0 → (jEv nX8_set (0, [(0, .ref 67), (1, .long x3.toInt64), (3, .long x3.toInt64)], [], M) (fun o7 M8 => o7 = some none ∧ jEv nX8_weights (90, [(0, .ref 67), (1, .int x1), (2, .int x2), (3, .int x3), (4, .int x4), (5, .long (M8.2 67 3)), (7, .long (M8.2 67 4)), (9, .int 1)], [], M8) K))) ∧ (¬ x4 = 0 → ((x4 ≤ 3 → ((x2 = 0 → (¬ ((4 * x1) + x4 < 0 ∨ 24 ≤ ((4 * x1) + x4).toNatClampNeg) ∧ (jEv nX8_set (0, [(0, .ref 67), (1, .long ((M.1 75 ((4 * x1) + x4).toNatClampNeg).toInt64)), (3, .long x3.toInt64)], [], M) (fun o1 M2 => o1 = some none ∧ jEv nX8_weights (90, [(0, .ref 67), (1, .int x1), (2, .int x2), (3, .int x3), (4, .int x4), (5, .long (M2.2 67 3)), (7, .long (M2.2 67 4)), (9, .int 1)], [], M2) K)))) ∧ (¬ x2 = 0 → (¬ ((4 * x1) + x4 < 0 ∨ 24 ≤ ((4 * x1) + x4).toNatClampNeg) ∧ (jEv nX8_set (0, [(0, .ref 67), (1, .long ((-(M.1 74 ((4 * x1) + x4).toNatClampNeg)).toInt64)), (3, .long x3.toInt64)], [], M) (fun o3 M4 => o3 = some none ∧ jEv nX8_weights (90, [(0, .ref 67), (1, .int x1), (2, .int x2), (3, .int x3), (4, .int x4), (5, .long (M4.2 67 3)), (7, .long (M4.2 67 4)), (9, .int 1)], [], M4) K)))))) ∧ (¬ x4 ≤ 3 → (jEv nX8_set (0, [(0, .ref 67), (1, .long 0), (3, .long x3.toInt64)], [], M) (fun o5 M6 => o5 = some none ∧ jEv nX8_weights (90, [(0, .ref 67), (1, .int x1), (2, .int x2), (3, .int x3), (4, .int x4), (5, .long (M6.2 67 3)), (7, .long (M6.2 67 4)), (9, .int 1)], [], M6) K))))))))) : jEv nX8_weights (10, [(0, .ref 67), (1, .int x1), (2, .int x2), (3, .int x3), (4, .int x4)], [], M) K := by
  have hE : jMT nX8_weights = some me_X8_weights := rfl
  refine e_seg (k := 2) (d := (14, [(0, .ref 67), (1, .int x1), (2, .int x2), (3, .int x3), (4, .int x4)], [.int 9, .int x4], M)) rfl ?_
  refine e_ic_ge (t := 215) (q := 17) hE rfl rfl rfl rfl (fun hbr => ?_) (fun hbr => ?_)
  · replace h := h.1 hbr
    exact e_ret hE rfl rfl rfl h
  · replace h := h.2 hbr
    refine e_seg (k := 2) (d := (20, [(0, .ref 67), (1, .int x1), (2, .int x2), (3, .int x3), (4, .int x4)], [.int x4, .ref 67], M)) rfl ?_
    refine e_if_ne (t := 28) (q := 23) hE rfl rfl rfl rfl (fun hbr => ?_) (fun hbr => ?_)
    · replace h := h.2 hbr
      refine e_seg (k := 2) (d := (31, [(0, .ref 67), (1, .int x1), (2, .int x2), (3, .int x3), (4, .int x4)], [.int 3, .int x4, .ref 67], M)) rfl ?_
      refine e_ic_le (t := 38) (q := 34) hE rfl rfl rfl rfl (fun hbr => ?_) (fun hbr => ?_)
      · replace h := h.1 hbr
        refine e_seg (k := 1) (d := (39, [(0, .ref 67), (1, .int x1), (2, .int x2), (3, .int x3), (4, .int x4)], [.int x2, .ref 67], M)) rfl ?_
        refine e_if_eq (t := 58) (q := 42) hE rfl rfl rfl rfl (fun hbr => ?_) (fun hbr => ?_)
        · replace h := h.1 hbr
          refine e_seg (k := 7) (d := (68, [(0, .ref 67), (1, .int x1), (2, .int x2), (3, .int x3), (4, .int x4)], [.int ((4 * x1) + x4), .ref 75, .ref 67], M)) rfl ?_
          refine e_iald (q := 69) hE rfl rfl rfl rfl h.1 ?_
          replace h := h.2
          refine e_seg (k := 3) (d := (72, [(0, .ref 67), (1, .int x1), (2, .int x2), (3, .int x3), (4, .int x4)], [.long x3.toInt64, .long ((M.1 75 ((4 * x1) + x4).toNatClampNeg).toInt64), .ref 67], M)) rfl ?_
          refine e_call (q := 75) (L0 := [(0, .ref 67), (1, .long ((M.1 75 ((4 * x1) + x4).toNatClampNeg).toInt64)), (3, .long x3.toInt64)]) hE rfl rfl rfl rfl (jargs_V rfl rfl rfl rfl rfl (Nat.le_of_ble_eq_true rfl) (Nat.le_of_ble_eq_true rfl) (Nat.le_of_ble_eq_true rfl)) rfl rfl (jEv.mono h (fun o1 M2 h => ?_))
          obtain ⟨rfl, h⟩ := h
          refine ⟨_, rfl, ?_⟩
          show jEv nX8_weights (75, [(0, .ref 67), (1, .int x1), (2, .int x2), (3, .int x3), (4, .int x4)], [], M2) K
          refine e_seg (k := 8) (d := (90, [(0, .ref 67), (1, .int x1), (2, .int x2), (3, .int x3), (4, .int x4), (5, .long (M2.2 67 3)), (7, .long (M2.2 67 4)), (9, .int 1)], [], M2)) rfl ?_
          refine e_cut (ks := [0, 1, 2, 3, 4, 5, 7, 9]) (L' := [(0, .ref 67), (1, .int x1), (2, .int x2), (3, .int x3), (4, .int x4), (5, .long (M2.2 67 3)), (7, .long (M2.2 67 4)), (9, .int 1)]) hE rfl rfl rfl rfl rfl ?_
          exact h
        · replace h := h.2 hbr
          refine e_seg (k := 7) (d := (52, [(0, .ref 67), (1, .int x1), (2, .int x2), (3, .int x3), (4, .int x4)], [.int ((4 * x1) + x4), .ref 74, .ref 67], M)) rfl ?_
          refine e_iald (q := 53) hE rfl rfl rfl rfl h.1 ?_
          replace h := h.2
          refine e_seg (k := 5) (d := (72, [(0, .ref 67), (1, .int x1), (2, .int x2), (3, .int x3), (4, .int x4)], [.long x3.toInt64, .long ((-(M.1 74 ((4 * x1) + x4).toNatClampNeg)).toInt64), .ref 67], M)) rfl ?_
          refine e_call (q := 75) (L0 := [(0, .ref 67), (1, .long ((-(M.1 74 ((4 * x1) + x4).toNatClampNeg)).toInt64)), (3, .long x3.toInt64)]) hE rfl rfl rfl rfl (jargs_V rfl rfl rfl rfl rfl (Nat.le_of_ble_eq_true rfl) (Nat.le_of_ble_eq_true rfl) (Nat.le_of_ble_eq_true rfl)) rfl rfl (jEv.mono h (fun o3 M4 h => ?_))
          obtain ⟨rfl, h⟩ := h
          refine ⟨_, rfl, ?_⟩
          show jEv nX8_weights (75, [(0, .ref 67), (1, .int x1), (2, .int x2), (3, .int x3), (4, .int x4)], [], M4) K
          refine e_seg (k := 8) (d := (90, [(0, .ref 67), (1, .int x1), (2, .int x2), (3, .int x3), (4, .int x4), (5, .long (M4.2 67 3)), (7, .long (M4.2 67 4)), (9, .int 1)], [], M4)) rfl ?_
          refine e_cut (ks := [0, 1, 2, 3, 4, 5, 7, 9]) (L' := [(0, .ref 67), (1, .int x1), (2, .int x2), (3, .int x3), (4, .int x4), (5, .long (M4.2 67 3)), (7, .long (M4.2 67 4)), (9, .int 1)]) hE rfl rfl rfl rfl rfl ?_
          exact h
      · replace h := h.2 hbr
        refine e_seg (k := 4) (d := (72, [(0, .ref 67), (1, .int x1), (2, .int x2), (3, .int x3), (4, .int x4)], [.long x3.toInt64, .long 0, .ref 67], M)) rfl ?_
        refine e_call (q := 75) (L0 := [(0, .ref 67), (1, .long 0), (3, .long x3.toInt64)]) hE rfl rfl rfl rfl (jargs_V rfl rfl rfl rfl rfl (Nat.le_of_ble_eq_true rfl) (Nat.le_of_ble_eq_true rfl) (Nat.le_of_ble_eq_true rfl)) rfl rfl (jEv.mono h (fun o5 M6 h => ?_))
        obtain ⟨rfl, h⟩ := h
        refine ⟨_, rfl, ?_⟩
        show jEv nX8_weights (75, [(0, .ref 67), (1, .int x1), (2, .int x2), (3, .int x3), (4, .int x4)], [], M6) K
        refine e_seg (k := 8) (d := (90, [(0, .ref 67), (1, .int x1), (2, .int x2), (3, .int x3), (4, .int x4), (5, .long (M6.2 67 3)), (7, .long (M6.2 67 4)), (9, .int 1)], [], M6)) rfl ?_
        refine e_cut (ks := [0, 1, 2, 3, 4, 5, 7, 9]) (L' := [(0, .ref 67), (1, .int x1), (2, .int x2), (3, .int x3), (4, .int x4), (5, .long (M6.2 67 3)), (7, .long (M6.2 67 4)), (9, .int 1)]) hE rfl rfl rfl rfl rfl ?_
        exact h
    · replace h := h.1 hbr
      refine e_seg (k := 5) (d := (72, [(0, .ref 67), (1, .int x1), (2, .int x2), (3, .int x3), (4, .int x4)], [.long x3.toInt64, .long x3.toInt64, .ref 67], M)) rfl ?_
      refine e_call (q := 75) (L0 := [(0, .ref 67), (1, .long x3.toInt64), (3, .long x3.toInt64)]) hE rfl rfl rfl rfl (jargs_V rfl rfl rfl rfl rfl (Nat.le_of_ble_eq_true rfl) (Nat.le_of_ble_eq_true rfl) (Nat.le_of_ble_eq_true rfl)) rfl rfl (jEv.mono h (fun o7 M8 h => ?_))
      obtain ⟨rfl, h⟩ := h
      refine ⟨_, rfl, ?_⟩
      show jEv nX8_weights (75, [(0, .ref 67), (1, .int x1), (2, .int x2), (3, .int x3), (4, .int x4)], [], M8) K
      refine e_seg (k := 8) (d := (90, [(0, .ref 67), (1, .int x1), (2, .int x2), (3, .int x3), (4, .int x4), (5, .long (M8.2 67 3)), (7, .long (M8.2 67 4)), (9, .int 1)], [], M8)) rfl ?_
      refine e_cut (ks := [0, 1, 2, 3, 4, 5, 7, 9]) (L' := [(0, .ref 67), (1, .int x1), (2, .int x2), (3, .int x3), (4, .int x4), (5, .long (M8.2 67 3)), (7, .long (M8.2 67 4)), (9, .int 1)]) hE rfl rfl rfl rfl rfl ?_
      exact h
set_option maxRecDepth 100000 in
set_option maxHeartbeats 4000000 in
theorem v_X8_weights_90 {K : jK} {M : jM} {x1 : Int32} {x2 : Int32} {x3 : Int32} {x4 : Int32} {x5 : Int64} {x7 : Int64} {x9 : Int32} (h : ((4 ≤ x9 → (¬ (x4 < 0 ∨ 9 ≤ x4.toNatClampNeg) ∧ (∀ M1 : jM, M1 = jsl M 77 x4.toNatClampNeg x5 → (¬ (x4 < 0 ∨ 9 ≤ x4.toNatClampNeg) ∧ (∀ M2 : jM, M2 = jsl M1 78 x4.toNatClampNeg x7 → jEv nX8_weights (10, [(0, .ref 67), (1, .int x1), (2, .int x2), (3, .int x3), (4, .int (x4 + 1))], [], M2) K))))) ∧ (¬ 4 ≤ x9 → ((x4 < x9 → (¬ (x4 < 0 ∨ 9 ≤ x4.toNatClampNeg) ∧ (∀ M3 : jM, M3 = jsl M 77 x4.toNatClampNeg x5 → (¬ (x4 < 0 ∨ 9 ≤ x4.toNatClampNeg) ∧ (∀ M4 : jM, M4 = jsl M3 78 x4.toNatClampNeg x7 → jEv nX8_weights (10, [(0, .ref 67), (1, .int x1), (2, .int x2), (3, .int x3), (4, .int (x4 + 1))], [], M4) K))))) ∧ (¬ x4 < x9 → ((x2 = 0 → (¬ ((4 * x1) + x9 < 0 ∨ 24 ≤ ((4 * x1) + x9).toNatClampNeg) ∧ (jEv nX8_set (0, [(0, .ref 67), (1, .long ((M.1 74 ((4 * x1) + x9).toNatClampNeg).toInt64)), (3, .long x3.toInt64)], [], M) (fun o5 M6 => o5 = some none ∧ (¬ (x4 - x9 < 0 ∨ 9 ≤ (x4 - x9).toNatClampNeg) ∧ (¬ (x4 - x9 < 0 ∨ 9 ≤ (x4 - x9).toNatClampNeg) ∧ (jEv nX8_times (0, [(0, .ref 67), (1, .long (M6.2 77 (x4 - x9).toNatClampNeg)), (3, .long (M6.2 78 (x4 - x9).toNatClampNeg))], [], M6) (fun o7 M8 => o7 = some none ∧ (jEv nX8_plus (0, [(0, .ref 67), (1, .long x5), (3, .long x7)], [], M8) (fun o9 M10 => o9 = some none ∧ jEv nX8_weights (90, [(0, .ref 67), (1, .int x1), (2, .int x2), (3, .int x3), (4, .int x4), (5, .long (M10.2 67 3)), (7, .long (M10.2 67 4)), (9, .int (x9 + 1))], [], M10) K)))))))))) ∧ (¬ x2 = 0 → (¬ ((4 * x1) + x9 < 0 ∨ 24 ≤ ((4 * x1) + x9).toNatClampNeg) ∧ (jEv nX8_set (0, [(0, .ref 67), (1, .long ((-(M.1 75 ((4 * x1) + x9).toNatClampNeg)).toInt64)), (3, .long x3.toInt64)], [], M) (fun o11 M12 => o11 = some none ∧ (¬ (x4 - x9 < 0 ∨ 9 ≤ (x4 - x9).toNatClampNeg) ∧ (¬ (x4 - x9 < 0 ∨ 9 ≤ (x4 - x9).toNatClampNeg) ∧ (jEv nX8_times (0, [(0, .ref 67), (1, .long (M12.2 77 (x4 - x9).toNatClampNeg)), (3, .long (M12.2 78 (x4 - x9).toNatClampNeg))], [], M12) (fun o13 M14 => o13 = some none ∧ (jEv nX8_plus (0, [(0, .ref 67), (1, .long x5), (3, .long x7)], [], M14) (fun o15 M16 => o15 = some none ∧ jEv nX8_weights (90, [(0, .ref 67), (1, .int x1), (2, .int x2), (3, .int x3), (4, .int x4), (5, .long (M16.2 67 3)), (7, .long (M16.2 67 4)), (9, .int (x9 + 1))], [], M16) K)))))))))))))))) : jEv nX8_weights (90, [(0, .ref 67), (1, .int x1), (2, .int x2), (3, .int x3), (4, .int x4), (5, .long x5), (7, .long x7), (9, .int x9)], [], M) K := by
  have hE : jMT nX8_weights = some me_X8_weights := rfl
  refine e_seg (k := 2) (d := (93, [(0, .ref 67), (1, .int x1), (2, .int x2), (3, .int x3), (4, .int x4), (5, .long x5), (7, .long x7), (9, .int x9)], [.int 4, .int x9], M)) rfl ?_
  refine e_ic_ge (t := 191) (q := 96) hE rfl rfl rfl rfl (fun hbr => ?_) (fun hbr => ?_)
  · replace h := h.1 hbr
    refine e_seg (k := 4) (d := (199, [(0, .ref 67), (1, .int x1), (2, .int x2), (3, .int x3), (4, .int x4), (5, .long x5), (7, .long x7), (9, .int x9)], [.long x5, .int x4, .ref 77], M)) rfl ?_
    refine e_last (q := 200) hE rfl rfl rfl rfl h.1 ?_
    replace h := h.2
    obtain ⟨M1, hM1⟩ : ∃ z : jM, z = jsl M 77 x4.toNatClampNeg x5 := ⟨_, rfl⟩
    refine jEv_M hM1 ?_
    replace h := h M1 hM1
    refine e_seg (k := 4) (d := (208, [(0, .ref 67), (1, .int x1), (2, .int x2), (3, .int x3), (4, .int x4), (5, .long x5), (7, .long x7), (9, .int x9)], [.long x7, .int x4, .ref 78], M1)) rfl ?_
    refine e_last (q := 209) hE rfl rfl rfl rfl h.1 ?_
    replace h := h.2
    obtain ⟨M2, hM2⟩ : ∃ z : jM, z = jsl M1 78 x4.toNatClampNeg x7 := ⟨_, rfl⟩
    refine jEv_M hM2 ?_
    replace h := h M2 hM2
    refine e_seg (k := 2) (d := (10, [(0, .ref 67), (1, .int x1), (2, .int x2), (3, .int x3), (4, .int (x4 + 1)), (5, .long x5), (7, .long x7), (9, .int x9)], [], M2)) rfl ?_
    refine e_cut (ks := [0, 1, 2, 3, 4]) (L' := [(0, .ref 67), (1, .int x1), (2, .int x2), (3, .int x3), (4, .int (x4 + 1))]) hE rfl rfl rfl rfl rfl ?_
    exact h
  · replace h := h.2 hbr
    refine e_seg (k := 2) (d := (100, [(0, .ref 67), (1, .int x1), (2, .int x2), (3, .int x3), (4, .int x4), (5, .long x5), (7, .long x7), (9, .int x9)], [.int x4, .int x9], M)) rfl ?_
    refine e_ic_gt (t := 191) (q := 103) hE rfl rfl rfl rfl (fun hbr => ?_) (fun hbr => ?_)
    · replace h := h.1 hbr
      refine e_seg (k := 4) (d := (199, [(0, .ref 67), (1, .int x1), (2, .int x2), (3, .int x3), (4, .int x4), (5, .long x5), (7, .long x7), (9, .int x9)], [.long x5, .int x4, .ref 77], M)) rfl ?_
      refine e_last (q := 200) hE rfl rfl rfl rfl h.1 ?_
      replace h := h.2
      obtain ⟨M3, hM3⟩ : ∃ z : jM, z = jsl M 77 x4.toNatClampNeg x5 := ⟨_, rfl⟩
      refine jEv_M hM3 ?_
      replace h := h M3 hM3
      refine e_seg (k := 4) (d := (208, [(0, .ref 67), (1, .int x1), (2, .int x2), (3, .int x3), (4, .int x4), (5, .long x5), (7, .long x7), (9, .int x9)], [.long x7, .int x4, .ref 78], M3)) rfl ?_
      refine e_last (q := 209) hE rfl rfl rfl rfl h.1 ?_
      replace h := h.2
      obtain ⟨M4, hM4⟩ : ∃ z : jM, z = jsl M3 78 x4.toNatClampNeg x7 := ⟨_, rfl⟩
      refine jEv_M hM4 ?_
      replace h := h M4 hM4
      refine e_seg (k := 2) (d := (10, [(0, .ref 67), (1, .int x1), (2, .int x2), (3, .int x3), (4, .int (x4 + 1)), (5, .long x5), (7, .long x7), (9, .int x9)], [], M4)) rfl ?_
      refine e_cut (ks := [0, 1, 2, 3, 4]) (L' := [(0, .ref 67), (1, .int x1), (2, .int x2), (3, .int x3), (4, .int (x4 + 1))]) hE rfl rfl rfl rfl rfl ?_
      exact h
    · replace h := h.2 hbr
      refine e_seg (k := 2) (d := (105, [(0, .ref 67), (1, .int x1), (2, .int x2), (3, .int x3), (4, .int x4), (5, .long x5), (7, .long x7), (9, .int x9)], [.int x2, .ref 67], M)) rfl ?_
      refine e_if_eq (t := 124) (q := 108) hE rfl rfl rfl rfl (fun hbr => ?_) (fun hbr => ?_)
      · replace h := h.1 hbr
        refine e_seg (k := 7) (d := (134, [(0, .ref 67), (1, .int x1), (2, .int x2), (3, .int x3), (4, .int x4), (5, .long x5), (7, .long x7), (9, .int x9)], [.int ((4 * x1) + x9), .ref 74, .ref 67], M)) rfl ?_
        refine e_iald (q := 135) hE rfl rfl rfl rfl h.1 ?_
        replace h := h.2
        refine e_seg (k := 3) (d := (138, [(0, .ref 67), (1, .int x1), (2, .int x2), (3, .int x3), (4, .int x4), (5, .long x5), (7, .long x7), (9, .int x9)], [.long x3.toInt64, .long ((M.1 74 ((4 * x1) + x9).toNatClampNeg).toInt64), .ref 67], M)) rfl ?_
        refine e_call (q := 141) (L0 := [(0, .ref 67), (1, .long ((M.1 74 ((4 * x1) + x9).toNatClampNeg).toInt64)), (3, .long x3.toInt64)]) hE rfl rfl rfl rfl (jargs_V rfl rfl rfl rfl rfl (Nat.le_of_ble_eq_true rfl) (Nat.le_of_ble_eq_true rfl) (Nat.le_of_ble_eq_true rfl)) rfl rfl (jEv.mono h (fun o5 M6 h => ?_))
        obtain ⟨rfl, h⟩ := h
        refine ⟨_, rfl, ?_⟩
        show jEv nX8_weights (141, [(0, .ref 67), (1, .int x1), (2, .int x2), (3, .int x3), (4, .int x4), (5, .long x5), (7, .long x7), (9, .int x9)], [], M6) K
        refine e_seg (k := 6) (d := (151, [(0, .ref 67), (1, .int x1), (2, .int x2), (3, .int x3), (4, .int x4), (5, .long x5), (7, .long x7), (9, .int x9)], [.int (x4 - x9), .ref 77, .ref 67], M6)) rfl ?_
        refine e_lald (q := 152) hE rfl rfl rfl rfl h.1 ?_
        replace h := h.2
        refine e_seg (k := 5) (d := (161, [(0, .ref 67), (1, .int x1), (2, .int x2), (3, .int x3), (4, .int x4), (5, .long x5), (7, .long x7), (9, .int x9)], [.int (x4 - x9), .ref 78, .long (M6.2 77 (x4 - x9).toNatClampNeg), .ref 67], M6)) rfl ?_
        refine e_lald (q := 162) hE rfl rfl rfl rfl h.1 ?_
        replace h := h.2
        refine e_call (q := 165) (L0 := [(0, .ref 67), (1, .long (M6.2 77 (x4 - x9).toNatClampNeg)), (3, .long (M6.2 78 (x4 - x9).toNatClampNeg))]) hE rfl rfl rfl rfl (jargs_V rfl rfl rfl rfl rfl (Nat.le_of_ble_eq_true rfl) (Nat.le_of_ble_eq_true rfl) (Nat.le_of_ble_eq_true rfl)) rfl rfl (jEv.mono h (fun o7 M8 h => ?_))
        obtain ⟨rfl, h⟩ := h
        refine ⟨_, rfl, ?_⟩
        show jEv nX8_weights (165, [(0, .ref 67), (1, .int x1), (2, .int x2), (3, .int x3), (4, .int x4), (5, .long x5), (7, .long x7), (9, .int x9)], [], M8) K
        refine e_seg (k := 3) (d := (170, [(0, .ref 67), (1, .int x1), (2, .int x2), (3, .int x3), (4, .int x4), (5, .long x5), (7, .long x7), (9, .int x9)], [.long x7, .long x5, .ref 67], M8)) rfl ?_
        refine e_call (q := 173) (L0 := [(0, .ref 67), (1, .long x5), (3, .long x7)]) hE rfl rfl rfl rfl (jargs_V rfl rfl rfl rfl rfl (Nat.le_of_ble_eq_true rfl) (Nat.le_of_ble_eq_true rfl) (Nat.le_of_ble_eq_true rfl)) rfl rfl (jEv.mono h (fun o9 M10 h => ?_))
        obtain ⟨rfl, h⟩ := h
        refine ⟨_, rfl, ?_⟩
        show jEv nX8_weights (173, [(0, .ref 67), (1, .int x1), (2, .int x2), (3, .int x3), (4, .int x4), (5, .long x5), (7, .long x7), (9, .int x9)], [], M10) K
        refine e_seg (k := 8) (d := (90, [(0, .ref 67), (1, .int x1), (2, .int x2), (3, .int x3), (4, .int x4), (5, .long (M10.2 67 3)), (7, .long (M10.2 67 4)), (9, .int (x9 + 1))], [], M10)) rfl ?_
        refine e_cut (ks := [0, 1, 2, 3, 4, 5, 7, 9]) (L' := [(0, .ref 67), (1, .int x1), (2, .int x2), (3, .int x3), (4, .int x4), (5, .long (M10.2 67 3)), (7, .long (M10.2 67 4)), (9, .int (x9 + 1))]) hE rfl rfl rfl rfl rfl ?_
        exact h
      · replace h := h.2 hbr
        refine e_seg (k := 7) (d := (118, [(0, .ref 67), (1, .int x1), (2, .int x2), (3, .int x3), (4, .int x4), (5, .long x5), (7, .long x7), (9, .int x9)], [.int ((4 * x1) + x9), .ref 75, .ref 67], M)) rfl ?_
        refine e_iald (q := 119) hE rfl rfl rfl rfl h.1 ?_
        replace h := h.2
        refine e_seg (k := 5) (d := (138, [(0, .ref 67), (1, .int x1), (2, .int x2), (3, .int x3), (4, .int x4), (5, .long x5), (7, .long x7), (9, .int x9)], [.long x3.toInt64, .long ((-(M.1 75 ((4 * x1) + x9).toNatClampNeg)).toInt64), .ref 67], M)) rfl ?_
        refine e_call (q := 141) (L0 := [(0, .ref 67), (1, .long ((-(M.1 75 ((4 * x1) + x9).toNatClampNeg)).toInt64)), (3, .long x3.toInt64)]) hE rfl rfl rfl rfl (jargs_V rfl rfl rfl rfl rfl (Nat.le_of_ble_eq_true rfl) (Nat.le_of_ble_eq_true rfl) (Nat.le_of_ble_eq_true rfl)) rfl rfl (jEv.mono h (fun o11 M12 h => ?_))
        obtain ⟨rfl, h⟩ := h
        refine ⟨_, rfl, ?_⟩
        show jEv nX8_weights (141, [(0, .ref 67), (1, .int x1), (2, .int x2), (3, .int x3), (4, .int x4), (5, .long x5), (7, .long x7), (9, .int x9)], [], M12) K
        refine e_seg (k := 6) (d := (151, [(0, .ref 67), (1, .int x1), (2, .int x2), (3, .int x3), (4, .int x4), (5, .long x5), (7, .long x7), (9, .int x9)], [.int (x4 - x9), .ref 77, .ref 67], M12)) rfl ?_
        refine e_lald (q := 152) hE rfl rfl rfl rfl h.1 ?_
        replace h := h.2
        refine e_seg (k := 5) (d := (161, [(0, .ref 67), (1, .int x1), (2, .int x2), (3, .int x3), (4, .int x4), (5, .long x5), (7, .long x7), (9, .int x9)], [.int (x4 - x9), .ref 78, .long (M12.2 77 (x4 - x9).toNatClampNeg), .ref 67], M12)) rfl ?_
        refine e_lald (q := 162) hE rfl rfl rfl rfl h.1 ?_
        replace h := h.2
        refine e_call (q := 165) (L0 := [(0, .ref 67), (1, .long (M12.2 77 (x4 - x9).toNatClampNeg)), (3, .long (M12.2 78 (x4 - x9).toNatClampNeg))]) hE rfl rfl rfl rfl (jargs_V rfl rfl rfl rfl rfl (Nat.le_of_ble_eq_true rfl) (Nat.le_of_ble_eq_true rfl) (Nat.le_of_ble_eq_true rfl)) rfl rfl (jEv.mono h (fun o13 M14 h => ?_))
        obtain ⟨rfl, h⟩ := h
        refine ⟨_, rfl, ?_⟩
        show jEv nX8_weights (165, [(0, .ref 67), (1, .int x1), (2, .int x2), (3, .int x3), (4, .int x4), (5, .long x5), (7, .long x7), (9, .int x9)], [], M14) K
        refine e_seg (k := 3) (d := (170, [(0, .ref 67), (1, .int x1), (2, .int x2), (3, .int x3), (4, .int x4), (5, .long x5), (7, .long x7), (9, .int x9)], [.long x7, .long x5, .ref 67], M14)) rfl ?_
        refine e_call (q := 173) (L0 := [(0, .ref 67), (1, .long x5), (3, .long x7)]) hE rfl rfl rfl rfl (jargs_V rfl rfl rfl rfl rfl (Nat.le_of_ble_eq_true rfl) (Nat.le_of_ble_eq_true rfl) (Nat.le_of_ble_eq_true rfl)) rfl rfl (jEv.mono h (fun o15 M16 h => ?_))
        obtain ⟨rfl, h⟩ := h
        refine ⟨_, rfl, ?_⟩
        show jEv nX8_weights (173, [(0, .ref 67), (1, .int x1), (2, .int x2), (3, .int x3), (4, .int x4), (5, .long x5), (7, .long x7), (9, .int x9)], [], M16) K
        refine e_seg (k := 8) (d := (90, [(0, .ref 67), (1, .int x1), (2, .int x2), (3, .int x3), (4, .int x4), (5, .long (M16.2 67 3)), (7, .long (M16.2 67 4)), (9, .int (x9 + 1))], [], M16)) rfl ?_
        refine e_cut (ks := [0, 1, 2, 3, 4, 5, 7, 9]) (L' := [(0, .ref 67), (1, .int x1), (2, .int x2), (3, .int x3), (4, .int x4), (5, .long (M16.2 67 3)), (7, .long (M16.2 67 4)), (9, .int (x9 + 1))]) hE rfl rfl rfl rfl rfl ?_
        exact h
set_option maxRecDepth 100000 in
set_option maxHeartbeats 4000000 in
theorem v_X8_likes_0 {K : jK} {M : jM} {x1 : Int32} (h : (jEv nX8_weights (0, [(0, .ref 67), (1, .int x1), (2, .int 0)], [], M) (fun o1 M2 => o1 = some none ∧ (¬ (x1 < 0 ∨ 6 ≤ x1.toNatClampNeg) ∧ jEv nX8_likes (17, [(0, .ref 67), (1, .int x1), (2, .int ((M2.1 71 x1.toNatClampNeg) + 1)), (3, .int 0)], [], M2) K)))) : jEv nX8_likes (0, [(0, .ref 67), (1, .int x1)], [], M) K := by
  have hE : jMT nX8_likes = some me_X8_likes := rfl
  refine e_seg (k := 3) (d := (3, [(0, .ref 67), (1, .int x1)], [.int 0, .int x1, .ref 67], M)) rfl ?_
  refine e_call (q := 6) (L0 := [(0, .ref 67), (1, .int x1), (2, .int 0)]) hE rfl rfl rfl rfl (jargs_V rfl rfl rfl rfl rfl (Nat.le_of_ble_eq_true rfl) (Nat.le_of_ble_eq_true rfl) (Nat.le_of_ble_eq_true rfl)) rfl rfl (jEv.mono h (fun o1 M2 h => ?_))
  obtain ⟨rfl, h⟩ := h
  refine ⟨_, rfl, ?_⟩
  show jEv nX8_likes (6, [(0, .ref 67), (1, .int x1)], [], M2) K
  refine e_seg (k := 3) (d := (11, [(0, .ref 67), (1, .int x1)], [.int x1, .ref 71], M2)) rfl ?_
  refine e_iald (q := 12) hE rfl rfl rfl rfl h.1 ?_
  replace h := h.2
  refine e_seg (k := 5) (d := (17, [(0, .ref 67), (1, .int x1), (2, .int ((M2.1 71 x1.toNatClampNeg) + 1)), (3, .int 0)], [], M2)) rfl ?_
  refine e_cut (ks := [0, 1, 2, 3]) (L' := [(0, .ref 67), (1, .int x1), (2, .int ((M2.1 71 x1.toNatClampNeg) + 1)), (3, .int 0)]) hE rfl rfl rfl rfl rfl ?_
  exact h
set_option maxRecDepth 100000 in
set_option maxHeartbeats 4000000 in
theorem v_X8_likes_17 {K : jK} {M : jM} {x1 : Int32} {x2 : Int32} {x3 : Int32} (h : ((x2 ≤ x3 → jEv nX8_likes (191, [(0, .ref 67), (1, .int x1), (2, .int x2), (3, .int 0)], [], M) K) ∧ (¬ x2 ≤ x3 → jEv nX8_likes (25, [(0, .ref 67), (1, .int x1), (2, .int x2), (3, .int x3), (4, .int 0)], [], M) K))) : jEv nX8_likes (17, [(0, .ref 67), (1, .int x1), (2, .int x2), (3, .int x3)], [], M) K := by
  have hE : jMT nX8_likes = some me_X8_likes := rfl
  refine e_seg (k := 2) (d := (19, [(0, .ref 67), (1, .int x1), (2, .int x2), (3, .int x3)], [.int x2, .int x3], M)) rfl ?_
  refine e_ic_ge (t := 189) (q := 22) hE rfl rfl rfl rfl (fun hbr => ?_) (fun hbr => ?_)
  · replace h := h.1 hbr
    refine e_seg (k := 2) (d := (191, [(0, .ref 67), (1, .int x1), (2, .int x2), (3, .int 0)], [], M)) rfl ?_
    refine e_cut (ks := [0, 1, 2, 3]) (L' := [(0, .ref 67), (1, .int x1), (2, .int x2), (3, .int 0)]) hE rfl rfl rfl rfl rfl ?_
    exact h
  · replace h := h.2 hbr
    refine e_seg (k := 2) (d := (25, [(0, .ref 67), (1, .int x1), (2, .int x2), (3, .int x3), (4, .int 0)], [], M)) rfl ?_
    refine e_cut (ks := [0, 1, 2, 3, 4]) (L' := [(0, .ref 67), (1, .int x1), (2, .int x2), (3, .int x3), (4, .int 0)]) hE rfl rfl rfl rfl rfl ?_
    exact h
set_option maxRecDepth 100000 in
set_option maxHeartbeats 4000000 in
theorem v_X8_likes_191 {K : jK} {M : jM} {x1 : Int32} {x2 : Int32} {x3 : Int32} (h : ((x2 ≤ x3 → jEv nX8_likes (210, [(0, .ref 67), (1, .int x1), (2, .int x2), (3, .int 0)], [], M) K) ∧ (¬ x2 ≤ x3 → (jEv nX8_eliminate (0, [(0, .ref 67), (1, .int x3), (2, .int x2)], [], M) (fun o1 M2 => o1 = some none ∧ jEv nX8_likes (191, [(0, .ref 67), (1, .int x1), (2, .int x2), (3, .int (x3 + 1))], [], M2) K))))) : jEv nX8_likes (191, [(0, .ref 67), (1, .int x1), (2, .int x2), (3, .int x3)], [], M) K := by
  have hE : jMT nX8_likes = some me_X8_likes := rfl
  refine e_seg (k := 2) (d := (193, [(0, .ref 67), (1, .int x1), (2, .int x2), (3, .int x3)], [.int x2, .int x3], M)) rfl ?_
  refine e_ic_ge (t := 208) (q := 196) hE rfl rfl rfl rfl (fun hbr => ?_) (fun hbr => ?_)
  · replace h := h.1 hbr
    refine e_seg (k := 2) (d := (210, [(0, .ref 67), (1, .int x1), (2, .int x2), (3, .int 0)], [], M)) rfl ?_
    refine e_cut (ks := [0, 1, 2, 3]) (L' := [(0, .ref 67), (1, .int x1), (2, .int x2), (3, .int 0)]) hE rfl rfl rfl rfl rfl ?_
    exact h
  · replace h := h.2 hbr
    refine e_seg (k := 3) (d := (199, [(0, .ref 67), (1, .int x1), (2, .int x2), (3, .int x3)], [.int x2, .int x3, .ref 67], M)) rfl ?_
    refine e_call (q := 202) (L0 := [(0, .ref 67), (1, .int x3), (2, .int x2)]) hE rfl rfl rfl rfl (jargs_V rfl rfl rfl rfl rfl (Nat.le_of_ble_eq_true rfl) (Nat.le_of_ble_eq_true rfl) (Nat.le_of_ble_eq_true rfl)) rfl rfl (jEv.mono h (fun o1 M2 h => ?_))
    obtain ⟨rfl, h⟩ := h
    refine ⟨_, rfl, ?_⟩
    show jEv nX8_likes (202, [(0, .ref 67), (1, .int x1), (2, .int x2), (3, .int x3)], [], M2) K
    refine e_seg (k := 2) (d := (191, [(0, .ref 67), (1, .int x1), (2, .int x2), (3, .int (x3 + 1))], [], M2)) rfl ?_
    refine e_cut (ks := [0, 1, 2, 3]) (L' := [(0, .ref 67), (1, .int x1), (2, .int x2), (3, .int (x3 + 1))]) hE rfl rfl rfl rfl rfl ?_
    exact h
set_option maxRecDepth 100000 in
set_option maxHeartbeats 4000000 in
theorem v_X8_likes_25 {K : jK} {M : jM} {x1 : Int32} {x2 : Int32} {x3 : Int32} {x4 : Int32} (h : ((x2 ≤ x4 → jEv nX8_likes (64, [(0, .ref 67), (1, .int x1), (2, .int x2), (3, .int x3), (4, .int 0)], [], M) K) ∧ (¬ x2 ≤ x4 → (¬ ((5 * x3) + x4 < 0 ∨ 20 ≤ ((5 * x3) + x4).toNatClampNeg) ∧ (∀ M1 : jM, M1 = jsl M 81 (((5 * x3) + x4).toNatClampNeg) 0 → (¬ ((5 * x3) + x4 < 0 ∨ 20 ≤ ((5 * x3) + x4).toNatClampNeg) ∧ (∀ M2 : jM, M2 = jsl M1 82 (((5 * x3) + x4).toNatClampNeg) 1 → jEv nX8_likes (25, [(0, .ref 67), (1, .int x1), (2, .int x2), (3, .int x3), (4, .int (x4 + 1))], [], M2) K))))))) : jEv nX8_likes (25, [(0, .ref 67), (1, .int x1), (2, .int x2), (3, .int x3), (4, .int x4)], [], M) K := by
  have hE : jMT nX8_likes = some me_X8_likes := rfl
  refine e_seg (k := 2) (d := (28, [(0, .ref 67), (1, .int x1), (2, .int x2), (3, .int x3), (4, .int x4)], [.int x2, .int x4], M)) rfl ?_
  refine e_ic_ge (t := 61) (q := 31) hE rfl rfl rfl rfl (fun hbr => ?_) (fun hbr => ?_)
  · replace h := h.1 hbr
    refine e_seg (k := 2) (d := (64, [(0, .ref 67), (1, .int x1), (2, .int x2), (3, .int x3), (4, .int 0)], [], M)) rfl ?_
    refine e_cut (ks := [0, 1, 2, 3, 4]) (L' := [(0, .ref 67), (1, .int x1), (2, .int x2), (3, .int x3), (4, .int 0)]) hE rfl rfl rfl rfl rfl ?_
    exact h
  · replace h := h.2 hbr
    refine e_seg (k := 8) (d := (42, [(0, .ref 67), (1, .int x1), (2, .int x2), (3, .int x3), (4, .int x4)], [.long 0, .int ((5 * x3) + x4), .ref 81], M)) rfl ?_
    refine e_last (q := 43) hE rfl rfl rfl rfl h.1 ?_
    replace h := h.2
    obtain ⟨M1, hM1⟩ : ∃ z : jM, z = jsl M 81 (((5 * x3) + x4).toNatClampNeg) 0 := ⟨_, rfl⟩
    refine jEv_M hM1 ?_
    replace h := h M1 hM1
    refine e_seg (k := 8) (d := (54, [(0, .ref 67), (1, .int x1), (2, .int x2), (3, .int x3), (4, .int x4)], [.long 1, .int ((5 * x3) + x4), .ref 82], M1)) rfl ?_
    refine e_last (q := 55) hE rfl rfl rfl rfl h.1 ?_
    replace h := h.2
    obtain ⟨M2, hM2⟩ : ∃ z : jM, z = jsl M1 82 (((5 * x3) + x4).toNatClampNeg) 1 := ⟨_, rfl⟩
    refine jEv_M hM2 ?_
    replace h := h M2 hM2
    refine e_seg (k := 2) (d := (25, [(0, .ref 67), (1, .int x1), (2, .int x2), (3, .int x3), (4, .int (x4 + 1))], [], M2)) rfl ?_
    refine e_cut (ks := [0, 1, 2, 3, 4]) (L' := [(0, .ref 67), (1, .int x1), (2, .int x2), (3, .int x3), (4, .int (x4 + 1))]) hE rfl rfl rfl rfl rfl ?_
    exact h
set_option maxRecDepth 100000 in
set_option maxHeartbeats 4000000 in
theorem v_X8_likes_210 {K : jK} {M : jM} {x1 : Int32} {x2 : Int32} {x3 : Int32} (h : ((x2 ≤ x3 → jEv nX8_likes (291, [(0, .ref 67), (1, .int x1), (2, .int x2), (3, .int x2)], [], M) K) ∧ (¬ x2 ≤ x3 → (¬ ((5 * x3) + 4 < 0 ∨ 20 ≤ ((5 * x3) + 4).toNatClampNeg) ∧ (¬ ((5 * x3) + 4 < 0 ∨ 20 ≤ ((5 * x3) + 4).toNatClampNeg) ∧ (jEv nX8_set (0, [(0, .ref 67), (1, .long (M.2 81 ((5 * x3) + 4).toNatClampNeg)), (3, .long (M.2 82 ((5 * x3) + 4).toNatClampNeg))], [], M) (fun o1 M2 => o1 = some none ∧ (¬ ((5 * x3) + x3 < 0 ∨ 20 ≤ ((5 * x3) + x3).toNatClampNeg) ∧ (¬ ((5 * x3) + x3 < 0 ∨ 20 ≤ ((5 * x3) + x3).toNatClampNeg) ∧ (jEv nX8_times (0, [(0, .ref 67), (1, .long (M2.2 82 ((5 * x3) + x3).toNatClampNeg)), (3, .long (M2.2 81 ((5 * x3) + x3).toNatClampNeg))], [], M2) (fun o3 M4 => o3 = some none ∧ (¬ (x3 < 0 ∨ 9 ≤ x3.toNatClampNeg) ∧ (∀ M5 : jM, M5 = jsl M4 79 x3.toNatClampNeg (M4.2 67 3) → (¬ (x3 < 0 ∨ 9 ≤ x3.toNatClampNeg) ∧ (∀ M6 : jM, M6 = jsl M5 80 x3.toNatClampNeg (M5.2 67 4) → jEv nX8_likes (210, [(0, .ref 67), (1, .int x1), (2, .int x2), (3, .int (x3 + 1))], [], M6) K))))))))))))))) : jEv nX8_likes (210, [(0, .ref 67), (1, .int x1), (2, .int x2), (3, .int x3)], [], M) K := by
  have hE : jMT nX8_likes = some me_X8_likes := rfl
  refine e_seg (k := 2) (d := (212, [(0, .ref 67), (1, .int x1), (2, .int x2), (3, .int x3)], [.int x2, .int x3], M)) rfl ?_
  refine e_ic_ge (t := 289) (q := 215) hE rfl rfl rfl rfl (fun hbr => ?_) (fun hbr => ?_)
  · replace h := h.1 hbr
    refine e_seg (k := 2) (d := (291, [(0, .ref 67), (1, .int x1), (2, .int x2), (3, .int x2)], [], M)) rfl ?_
    refine e_cut (ks := [0, 1, 2, 3]) (L' := [(0, .ref 67), (1, .int x1), (2, .int x2), (3, .int x2)]) hE rfl rfl rfl rfl rfl ?_
    exact h
  · replace h := h.2 hbr
    refine e_seg (k := 8) (d := (225, [(0, .ref 67), (1, .int x1), (2, .int x2), (3, .int x3)], [.int ((5 * x3) + 4), .ref 81, .ref 67], M)) rfl ?_
    refine e_lald (q := 226) hE rfl rfl rfl rfl h.1 ?_
    replace h := h.2
    refine e_seg (k := 7) (d := (235, [(0, .ref 67), (1, .int x1), (2, .int x2), (3, .int x3)], [.int ((5 * x3) + 4), .ref 82, .long (M.2 81 ((5 * x3) + 4).toNatClampNeg), .ref 67], M)) rfl ?_
    refine e_lald (q := 236) hE rfl rfl rfl rfl h.1 ?_
    replace h := h.2
    refine e_call (q := 239) (L0 := [(0, .ref 67), (1, .long (M.2 81 ((5 * x3) + 4).toNatClampNeg)), (3, .long (M.2 82 ((5 * x3) + 4).toNatClampNeg))]) hE rfl rfl rfl rfl (jargs_V rfl rfl rfl rfl rfl (Nat.le_of_ble_eq_true rfl) (Nat.le_of_ble_eq_true rfl) (Nat.le_of_ble_eq_true rfl)) rfl rfl (jEv.mono h (fun o1 M2 h => ?_))
    obtain ⟨rfl, h⟩ := h
    refine ⟨_, rfl, ?_⟩
    show jEv nX8_likes (239, [(0, .ref 67), (1, .int x1), (2, .int x2), (3, .int x3)], [], M2) K
    refine e_seg (k := 8) (d := (249, [(0, .ref 67), (1, .int x1), (2, .int x2), (3, .int x3)], [.int ((5 * x3) + x3), .ref 82, .ref 67], M2)) rfl ?_
    refine e_lald (q := 250) hE rfl rfl rfl rfl h.1 ?_
    replace h := h.2
    refine e_seg (k := 7) (d := (259, [(0, .ref 67), (1, .int x1), (2, .int x2), (3, .int x3)], [.int ((5 * x3) + x3), .ref 81, .long (M2.2 82 ((5 * x3) + x3).toNatClampNeg), .ref 67], M2)) rfl ?_
    refine e_lald (q := 260) hE rfl rfl rfl rfl h.1 ?_
    replace h := h.2
    refine e_call (q := 263) (L0 := [(0, .ref 67), (1, .long (M2.2 82 ((5 * x3) + x3).toNatClampNeg)), (3, .long (M2.2 81 ((5 * x3) + x3).toNatClampNeg))]) hE rfl rfl rfl rfl (jargs_V rfl rfl rfl rfl rfl (Nat.le_of_ble_eq_true rfl) (Nat.le_of_ble_eq_true rfl) (Nat.le_of_ble_eq_true rfl)) rfl rfl (jEv.mono h (fun o3 M4 h => ?_))
    obtain ⟨rfl, h⟩ := h
    refine ⟨_, rfl, ?_⟩
    show jEv nX8_likes (263, [(0, .ref 67), (1, .int x1), (2, .int x2), (3, .int x3)], [], M4) K
    refine e_seg (k := 5) (d := (272, [(0, .ref 67), (1, .int x1), (2, .int x2), (3, .int x3)], [.long (M4.2 67 3), .int x3, .ref 79], M4)) rfl ?_
    refine e_last (q := 273) hE rfl rfl rfl rfl h.1 ?_
    replace h := h.2
    obtain ⟨M5, hM5⟩ : ∃ z : jM, z = jsl M4 79 x3.toNatClampNeg (M4.2 67 3) := ⟨_, rfl⟩
    refine jEv_M hM5 ?_
    replace h := h M5 hM5
    refine e_seg (k := 5) (d := (282, [(0, .ref 67), (1, .int x1), (2, .int x2), (3, .int x3)], [.long (M5.2 67 4), .int x3, .ref 80], M5)) rfl ?_
    refine e_last (q := 283) hE rfl rfl rfl rfl h.1 ?_
    replace h := h.2
    obtain ⟨M6, hM6⟩ : ∃ z : jM, z = jsl M5 80 x3.toNatClampNeg (M5.2 67 4) := ⟨_, rfl⟩
    refine jEv_M hM6 ?_
    replace h := h M6 hM6
    refine e_seg (k := 2) (d := (210, [(0, .ref 67), (1, .int x1), (2, .int x2), (3, .int (x3 + 1))], [], M6)) rfl ?_
    refine e_cut (ks := [0, 1, 2, 3]) (L' := [(0, .ref 67), (1, .int x1), (2, .int x2), (3, .int (x3 + 1))]) hE rfl rfl rfl rfl rfl ?_
    exact h
set_option maxRecDepth 100000 in
set_option maxHeartbeats 4000000 in
theorem v_X8_likes_64 {K : jK} {M : jM} {x1 : Int32} {x2 : Int32} {x3 : Int32} {x4 : Int32} (h : ((x2 ≤ x4 → (jEv nX8_right (0, [(0, .ref 67), (1, .int x1), (2, .int x3)], [], M) (fun o1 M2 => o1 = some none ∧ (¬ (x1 < 0 ∨ 6 ≤ x1.toNatClampNeg) ∧ (jEv nX8_times (0, [(0, .ref 67), (1, .long ((M2.1 70 x1.toNatClampNeg).toInt64)), (3, .long 1)], [], M2) (fun o3 M4 => o3 = some none ∧ (¬ ((5 * x3) + 4 < 0 ∨ 20 ≤ ((5 * x3) + 4).toNatClampNeg) ∧ (∀ M5 : jM, M5 = jsl M4 81 (((5 * x3) + 4).toNatClampNeg) (M4.2 67 3) → (¬ ((5 * x3) + 4 < 0 ∨ 20 ≤ ((5 * x3) + 4).toNatClampNeg) ∧ (∀ M6 : jM, M6 = jsl M5 82 (((5 * x3) + 4).toNatClampNeg) (M5.2 67 4) → jEv nX8_likes (17, [(0, .ref 67), (1, .int x1), (2, .int x2), (3, .int (x3 + 1))], [], M6) K)))))))))) ∧ (¬ x2 ≤ x4 → ((x3 ≤ x4 → (¬ ((5 * x3) + (x4 - x3) < 0 ∨ 20 ≤ ((5 * x3) + (x4 - x3)).toNatClampNeg) ∧ ((x4 = 0 → (¬ (x1 < 0 ∨ 6 ≤ x1.toNatClampNeg) ∧ (¬ ((5 * x3) + (x4 - x3) < 0 ∨ 20 ≤ ((5 * x3) + (x4 - x3)).toNatClampNeg) ∧ (∀ M8 : jM, M8 = jsl M 81 (((5 * x3) + (x4 - x3)).toNatClampNeg) ((M.2 81 ((5 * x3) + (x4 - x3)).toNatClampNeg) + ((M.1 70 x1.toNatClampNeg).toInt64)) → jEv nX8_likes (64, [(0, .ref 67), (1, .int x1), (2, .int x2), (3, .int x3), (4, .int (x4 + 1))], [], M8) K)))) ∧ (¬ x4 = 0 → (¬ ((4 * x1) + x4 < 0 ∨ 24 ≤ ((4 * x1) + x4).toNatClampNeg) ∧ (¬ ((5 * x3) + (x4 - x3) < 0 ∨ 20 ≤ ((5 * x3) + (x4 - x3)).toNatClampNeg) ∧ (∀ M7 : jM, M7 = jsl M 81 (((5 * x3) + (x4 - x3)).toNatClampNeg) ((M.2 81 ((5 * x3) + (x4 - x3)).toNatClampNeg) + ((-(M.1 74 ((4 * x1) + x4).toNatClampNeg)).toInt64)) → jEv nX8_likes (64, [(0, .ref 67), (1, .int x1), (2, .int x2), (3, .int x3), (4, .int (x4 + 1))], [], M7) K))))))) ∧ (¬ x3 ≤ x4 → (¬ ((5 * x3) + (x3 - x4) < 0 ∨ 20 ≤ ((5 * x3) + (x3 - x4)).toNatClampNeg) ∧ ((x4 = 0 → (¬ (x1 < 0 ∨ 6 ≤ x1.toNatClampNeg) ∧ (¬ ((5 * x3) + (x3 - x4) < 0 ∨ 20 ≤ ((5 * x3) + (x3 - x4)).toNatClampNeg) ∧ (∀ M10 : jM, M10 = jsl M 81 (((5 * x3) + (x3 - x4)).toNatClampNeg) ((M.2 81 ((5 * x3) + (x3 - x4)).toNatClampNeg) + ((M.1 70 x1.toNatClampNeg).toInt64)) → jEv nX8_likes (64, [(0, .ref 67), (1, .int x1), (2, .int x2), (3, .int x3), (4, .int (x4 + 1))], [], M10) K)))) ∧ (¬ x4 = 0 → (¬ ((4 * x1) + x4 < 0 ∨ 24 ≤ ((4 * x1) + x4).toNatClampNeg) ∧ (¬ ((5 * x3) + (x3 - x4) < 0 ∨ 20 ≤ ((5 * x3) + (x3 - x4)).toNatClampNeg) ∧ (∀ M9 : jM, M9 = jsl M 81 (((5 * x3) + (x3 - x4)).toNatClampNeg) ((M.2 81 ((5 * x3) + (x3 - x4)).toNatClampNeg) + ((-(M.1 74 ((4 * x1) + x4).toNatClampNeg)).toInt64)) → jEv nX8_likes (64, [(0, .ref 67), (1, .int x1), (2, .int x2), (3, .int x3), (4, .int (x4 + 1))], [], M9) K))))))))))) : jEv nX8_likes (64, [(0, .ref 67), (1, .int x1), (2, .int x2), (3, .int x3), (4, .int x4)], [], M) K := by
  have hE : jMT nX8_likes = some me_X8_likes := rfl
  refine e_seg (k := 2) (d := (67, [(0, .ref 67), (1, .int x1), (2, .int x2), (3, .int x3), (4, .int x4)], [.int x2, .int x4], M)) rfl ?_
  refine e_ic_ge (t := 137) (q := 70) hE rfl rfl rfl rfl (fun hbr => ?_) (fun hbr => ?_)
  · replace h := h.1 hbr
    refine e_seg (k := 3) (d := (140, [(0, .ref 67), (1, .int x1), (2, .int x2), (3, .int x3), (4, .int x4)], [.int x3, .int x1, .ref 67], M)) rfl ?_
    refine e_call (q := 143) (L0 := [(0, .ref 67), (1, .int x1), (2, .int x3)]) hE rfl rfl rfl rfl (jargs_V rfl rfl rfl rfl rfl (Nat.le_of_ble_eq_true rfl) (Nat.le_of_ble_eq_true rfl) (Nat.le_of_ble_eq_true rfl)) rfl rfl (jEv.mono h (fun o1 M2 h => ?_))
    obtain ⟨rfl, h⟩ := h
    refine ⟨_, rfl, ?_⟩
    show jEv nX8_likes (143, [(0, .ref 67), (1, .int x1), (2, .int x2), (3, .int x3), (4, .int x4)], [], M2) K
    refine e_seg (k := 4) (d := (149, [(0, .ref 67), (1, .int x1), (2, .int x2), (3, .int x3), (4, .int x4)], [.int x1, .ref 70, .ref 67], M2)) rfl ?_
    refine e_iald (q := 150) hE rfl rfl rfl rfl h.1 ?_
    replace h := h.2
    refine e_seg (k := 2) (d := (152, [(0, .ref 67), (1, .int x1), (2, .int x2), (3, .int x3), (4, .int x4)], [.long 1, .long ((M2.1 70 x1.toNatClampNeg).toInt64), .ref 67], M2)) rfl ?_
    refine e_call (q := 155) (L0 := [(0, .ref 67), (1, .long ((M2.1 70 x1.toNatClampNeg).toInt64)), (3, .long 1)]) hE rfl rfl rfl rfl (jargs_V rfl rfl rfl rfl rfl (Nat.le_of_ble_eq_true rfl) (Nat.le_of_ble_eq_true rfl) (Nat.le_of_ble_eq_true rfl)) rfl rfl (jEv.mono h (fun o3 M4 h => ?_))
    obtain ⟨rfl, h⟩ := h
    refine ⟨_, rfl, ?_⟩
    show jEv nX8_likes (155, [(0, .ref 67), (1, .int x1), (2, .int x2), (3, .int x3), (4, .int x4)], [], M4) K
    refine e_seg (k := 9) (d := (168, [(0, .ref 67), (1, .int x1), (2, .int x2), (3, .int x3), (4, .int x4)], [.long (M4.2 67 3), .int ((5 * x3) + 4), .ref 81], M4)) rfl ?_
    refine e_last (q := 169) hE rfl rfl rfl rfl h.1 ?_
    replace h := h.2
    obtain ⟨M5, hM5⟩ : ∃ z : jM, z = jsl M4 81 (((5 * x3) + 4).toNatClampNeg) (M4.2 67 3) := ⟨_, rfl⟩
    refine jEv_M hM5 ?_
    replace h := h M5 hM5
    refine e_seg (k := 9) (d := (182, [(0, .ref 67), (1, .int x1), (2, .int x2), (3, .int x3), (4, .int x4)], [.long (M5.2 67 4), .int ((5 * x3) + 4), .ref 82], M5)) rfl ?_
    refine e_last (q := 183) hE rfl rfl rfl rfl h.1 ?_
    replace h := h.2
    obtain ⟨M6, hM6⟩ : ∃ z : jM, z = jsl M5 82 (((5 * x3) + 4).toNatClampNeg) (M5.2 67 4) := ⟨_, rfl⟩
    refine jEv_M hM6 ?_
    replace h := h M6 hM6
    refine e_seg (k := 2) (d := (17, [(0, .ref 67), (1, .int x1), (2, .int x2), (3, .int (x3 + 1)), (4, .int x4)], [], M6)) rfl ?_
    refine e_cut (ks := [0, 1, 2, 3]) (L' := [(0, .ref 67), (1, .int x1), (2, .int x2), (3, .int (x3 + 1))]) hE rfl rfl rfl rfl rfl ?_
    exact h
  · replace h := h.2 hbr
    refine e_seg (k := 2) (d := (73, [(0, .ref 67), (1, .int x1), (2, .int x2), (3, .int x3), (4, .int x4)], [.int x4, .int x3], M)) rfl ?_
    refine e_ic_le (t := 83) (q := 76) hE rfl rfl rfl rfl (fun hbr => ?_) (fun hbr => ?_)
    · replace h := h.1 hbr
      refine e_seg (k := 12) (d := (100, [(0, .ref 67), (1, .int x1), (2, .int x2), (3, .int x3), (4, .int x4), (5, .int (x4 - x3))], [.int ((5 * x3) + (x4 - x3)), .ref 81, .int ((5 * x3) + (x4 - x3)), .ref 81], M)) rfl ?_
      refine e_lald (q := 101) hE rfl rfl rfl rfl h.1 ?_
      replace h := h.2
      refine e_seg (k := 1) (d := (103, [(0, .ref 67), (1, .int x1), (2, .int x2), (3, .int x3), (4, .int x4), (5, .int (x4 - x3))], [.int x4, .long (M.2 81 ((5 * x3) + (x4 - x3)).toNatClampNeg), .int ((5 * x3) + (x4 - x3)), .ref 81], M)) rfl ?_
      refine e_if_ne (t := 116) (q := 106) hE rfl rfl rfl rfl (fun hbr => ?_) (fun hbr => ?_)
      · replace h := h.2 hbr
        refine e_seg (k := 7) (d := (126, [(0, .ref 67), (1, .int x1), (2, .int x2), (3, .int x3), (4, .int x4), (5, .int (x4 - x3))], [.int ((4 * x1) + x4), .ref 74, .long (M.2 81 ((5 * x3) + (x4 - x3)).toNatClampNeg), .int ((5 * x3) + (x4 - x3)), .ref 81], M)) rfl ?_
        refine e_iald (q := 127) hE rfl rfl rfl rfl h.1 ?_
        replace h := h.2
        refine e_seg (k := 3) (d := (130, [(0, .ref 67), (1, .int x1), (2, .int x2), (3, .int x3), (4, .int x4), (5, .int (x4 - x3))], [.long ((M.2 81 ((5 * x3) + (x4 - x3)).toNatClampNeg) + ((-(M.1 74 ((4 * x1) + x4).toNatClampNeg)).toInt64)), .int ((5 * x3) + (x4 - x3)), .ref 81], M)) rfl ?_
        refine e_last (q := 131) hE rfl rfl rfl rfl h.1 ?_
        replace h := h.2
        obtain ⟨M7, hM7⟩ : ∃ z : jM, z = jsl M 81 (((5 * x3) + (x4 - x3)).toNatClampNeg) ((M.2 81 ((5 * x3) + (x4 - x3)).toNatClampNeg) + ((-(M.1 74 ((4 * x1) + x4).toNatClampNeg)).toInt64)) := ⟨_, rfl⟩
        refine jEv_M hM7 ?_
        replace h := h M7 hM7
        refine e_seg (k := 2) (d := (64, [(0, .ref 67), (1, .int x1), (2, .int x2), (3, .int x3), (4, .int (x4 + 1)), (5, .int (x4 - x3))], [], M7)) rfl ?_
        refine e_cut (ks := [0, 1, 2, 3, 4]) (L' := [(0, .ref 67), (1, .int x1), (2, .int x2), (3, .int x3), (4, .int (x4 + 1))]) hE rfl rfl rfl rfl rfl ?_
        exact h
      · replace h := h.1 hbr
        refine e_seg (k := 3) (d := (111, [(0, .ref 67), (1, .int x1), (2, .int x2), (3, .int x3), (4, .int x4), (5, .int (x4 - x3))], [.int x1, .ref 70, .long (M.2 81 ((5 * x3) + (x4 - x3)).toNatClampNeg), .int ((5 * x3) + (x4 - x3)), .ref 81], M)) rfl ?_
        refine e_iald (q := 112) hE rfl rfl rfl rfl h.1 ?_
        replace h := h.2
        refine e_seg (k := 3) (d := (130, [(0, .ref 67), (1, .int x1), (2, .int x2), (3, .int x3), (4, .int x4), (5, .int (x4 - x3))], [.long ((M.2 81 ((5 * x3) + (x4 - x3)).toNatClampNeg) + ((M.1 70 x1.toNatClampNeg).toInt64)), .int ((5 * x3) + (x4 - x3)), .ref 81], M)) rfl ?_
        refine e_last (q := 131) hE rfl rfl rfl rfl h.1 ?_
        replace h := h.2
        obtain ⟨M8, hM8⟩ : ∃ z : jM, z = jsl M 81 (((5 * x3) + (x4 - x3)).toNatClampNeg) ((M.2 81 ((5 * x3) + (x4 - x3)).toNatClampNeg) + ((M.1 70 x1.toNatClampNeg).toInt64)) := ⟨_, rfl⟩
        refine jEv_M hM8 ?_
        replace h := h M8 hM8
        refine e_seg (k := 2) (d := (64, [(0, .ref 67), (1, .int x1), (2, .int x2), (3, .int x3), (4, .int (x4 + 1)), (5, .int (x4 - x3))], [], M8)) rfl ?_
        refine e_cut (ks := [0, 1, 2, 3, 4]) (L' := [(0, .ref 67), (1, .int x1), (2, .int x2), (3, .int x3), (4, .int (x4 + 1))]) hE rfl rfl rfl rfl rfl ?_
        exact h
    · replace h := h.2 hbr
      refine e_seg (k := 13) (d := (100, [(0, .ref 67), (1, .int x1), (2, .int x2), (3, .int x3), (4, .int x4), (5, .int (x3 - x4))], [.int ((5 * x3) + (x3 - x4)), .ref 81, .int ((5 * x3) + (x3 - x4)), .ref 81], M)) rfl ?_
      refine e_lald (q := 101) hE rfl rfl rfl rfl h.1 ?_
      replace h := h.2
      refine e_seg (k := 1) (d := (103, [(0, .ref 67), (1, .int x1), (2, .int x2), (3, .int x3), (4, .int x4), (5, .int (x3 - x4))], [.int x4, .long (M.2 81 ((5 * x3) + (x3 - x4)).toNatClampNeg), .int ((5 * x3) + (x3 - x4)), .ref 81], M)) rfl ?_
      refine e_if_ne (t := 116) (q := 106) hE rfl rfl rfl rfl (fun hbr => ?_) (fun hbr => ?_)
      · replace h := h.2 hbr
        refine e_seg (k := 7) (d := (126, [(0, .ref 67), (1, .int x1), (2, .int x2), (3, .int x3), (4, .int x4), (5, .int (x3 - x4))], [.int ((4 * x1) + x4), .ref 74, .long (M.2 81 ((5 * x3) + (x3 - x4)).toNatClampNeg), .int ((5 * x3) + (x3 - x4)), .ref 81], M)) rfl ?_
        refine e_iald (q := 127) hE rfl rfl rfl rfl h.1 ?_
        replace h := h.2
        refine e_seg (k := 3) (d := (130, [(0, .ref 67), (1, .int x1), (2, .int x2), (3, .int x3), (4, .int x4), (5, .int (x3 - x4))], [.long ((M.2 81 ((5 * x3) + (x3 - x4)).toNatClampNeg) + ((-(M.1 74 ((4 * x1) + x4).toNatClampNeg)).toInt64)), .int ((5 * x3) + (x3 - x4)), .ref 81], M)) rfl ?_
        refine e_last (q := 131) hE rfl rfl rfl rfl h.1 ?_
        replace h := h.2
        obtain ⟨M9, hM9⟩ : ∃ z : jM, z = jsl M 81 (((5 * x3) + (x3 - x4)).toNatClampNeg) ((M.2 81 ((5 * x3) + (x3 - x4)).toNatClampNeg) + ((-(M.1 74 ((4 * x1) + x4).toNatClampNeg)).toInt64)) := ⟨_, rfl⟩
        refine jEv_M hM9 ?_
        replace h := h M9 hM9
        refine e_seg (k := 2) (d := (64, [(0, .ref 67), (1, .int x1), (2, .int x2), (3, .int x3), (4, .int (x4 + 1)), (5, .int (x3 - x4))], [], M9)) rfl ?_
        refine e_cut (ks := [0, 1, 2, 3, 4]) (L' := [(0, .ref 67), (1, .int x1), (2, .int x2), (3, .int x3), (4, .int (x4 + 1))]) hE rfl rfl rfl rfl rfl ?_
        exact h
      · replace h := h.1 hbr
        refine e_seg (k := 3) (d := (111, [(0, .ref 67), (1, .int x1), (2, .int x2), (3, .int x3), (4, .int x4), (5, .int (x3 - x4))], [.int x1, .ref 70, .long (M.2 81 ((5 * x3) + (x3 - x4)).toNatClampNeg), .int ((5 * x3) + (x3 - x4)), .ref 81], M)) rfl ?_
        refine e_iald (q := 112) hE rfl rfl rfl rfl h.1 ?_
        replace h := h.2
        refine e_seg (k := 3) (d := (130, [(0, .ref 67), (1, .int x1), (2, .int x2), (3, .int x3), (4, .int x4), (5, .int (x3 - x4))], [.long ((M.2 81 ((5 * x3) + (x3 - x4)).toNatClampNeg) + ((M.1 70 x1.toNatClampNeg).toInt64)), .int ((5 * x3) + (x3 - x4)), .ref 81], M)) rfl ?_
        refine e_last (q := 131) hE rfl rfl rfl rfl h.1 ?_
        replace h := h.2
        obtain ⟨M10, hM10⟩ : ∃ z : jM, z = jsl M 81 (((5 * x3) + (x3 - x4)).toNatClampNeg) ((M.2 81 ((5 * x3) + (x3 - x4)).toNatClampNeg) + ((M.1 70 x1.toNatClampNeg).toInt64)) := ⟨_, rfl⟩
        refine jEv_M hM10 ?_
        replace h := h M10 hM10
        refine e_seg (k := 2) (d := (64, [(0, .ref 67), (1, .int x1), (2, .int x2), (3, .int x3), (4, .int (x4 + 1)), (5, .int (x3 - x4))], [], M10)) rfl ?_
        refine e_cut (ks := [0, 1, 2, 3, 4]) (L' := [(0, .ref 67), (1, .int x1), (2, .int x2), (3, .int x3), (4, .int (x4 + 1))]) hE rfl rfl rfl rfl rfl ?_
        exact h
set_option maxRecDepth 100000 in
set_option maxHeartbeats 4000000 in
theorem v_X8_likes_291 {K : jK} {M : jM} {x1 : Int32} {x2 : Int32} {x3 : Int32} (h : ((9 ≤ x3 → K (some none) M) ∧ (¬ 9 ≤ x3 → ((4 ≤ x3 → (jEv nX8_set (0, [(0, .ref 67), (1, .long 0), (3, .long 1)], [], M) (fun o1 M2 => o1 = some none ∧ jEv nX8_likes (332, [(0, .ref 67), (1, .int x1), (2, .int x2), (3, .int x3), (4, .long (M2.2 67 3)), (6, .long (M2.2 67 4)), (8, .int 1)], [], M2) K))) ∧ (¬ 4 ≤ x3 → (jEv nX8_right (0, [(0, .ref 67), (1, .int x1), (2, .int x3)], [], M) (fun o3 M4 => o3 = some none ∧ jEv nX8_likes (332, [(0, .ref 67), (1, .int x1), (2, .int x2), (3, .int x3), (4, .long (M4.2 67 3)), (6, .long (M4.2 67 4)), (8, .int 1)], [], M4) K))))))) : jEv nX8_likes (291, [(0, .ref 67), (1, .int x1), (2, .int x2), (3, .int x3)], [], M) K := by
  have hE : jMT nX8_likes = some me_X8_likes := rfl
  refine e_seg (k := 2) (d := (294, [(0, .ref 67), (1, .int x1), (2, .int x2), (3, .int x3)], [.int 9, .int x3], M)) rfl ?_
  refine e_ic_ge (t := 431) (q := 297) hE rfl rfl rfl rfl (fun hbr => ?_) (fun hbr => ?_)
  · replace h := h.1 hbr
    exact e_ret hE rfl rfl rfl h
  · replace h := h.2 hbr
    refine e_seg (k := 2) (d := (299, [(0, .ref 67), (1, .int x1), (2, .int x2), (3, .int x3)], [.int 4, .int x3], M)) rfl ?_
    refine e_ic_ge (t := 311) (q := 302) hE rfl rfl rfl rfl (fun hbr => ?_) (fun hbr => ?_)
    · replace h := h.1 hbr
      refine e_seg (k := 3) (d := (314, [(0, .ref 67), (1, .int x1), (2, .int x2), (3, .int x3)], [.long 1, .long 0, .ref 67], M)) rfl ?_
      refine e_call (q := 317) (L0 := [(0, .ref 67), (1, .long 0), (3, .long 1)]) hE rfl rfl rfl rfl (jargs_V rfl rfl rfl rfl rfl (Nat.le_of_ble_eq_true rfl) (Nat.le_of_ble_eq_true rfl) (Nat.le_of_ble_eq_true rfl)) rfl rfl (jEv.mono h (fun o1 M2 h => ?_))
      obtain ⟨rfl, h⟩ := h
      refine ⟨_, rfl, ?_⟩
      show jEv nX8_likes (317, [(0, .ref 67), (1, .int x1), (2, .int x2), (3, .int x3)], [], M2) K
      refine e_seg (k := 8) (d := (332, [(0, .ref 67), (1, .int x1), (2, .int x2), (3, .int x3), (4, .long (M2.2 67 3)), (6, .long (M2.2 67 4)), (8, .int 1)], [], M2)) rfl ?_
      refine e_cut (ks := [0, 1, 2, 3, 4, 6, 8]) (L' := [(0, .ref 67), (1, .int x1), (2, .int x2), (3, .int x3), (4, .long (M2.2 67 3)), (6, .long (M2.2 67 4)), (8, .int 1)]) hE rfl rfl rfl rfl rfl ?_
      exact h
    · replace h := h.2 hbr
      refine e_seg (k := 3) (d := (305, [(0, .ref 67), (1, .int x1), (2, .int x2), (3, .int x3)], [.int x3, .int x1, .ref 67], M)) rfl ?_
      refine e_call (q := 308) (L0 := [(0, .ref 67), (1, .int x1), (2, .int x3)]) hE rfl rfl rfl rfl (jargs_V rfl rfl rfl rfl rfl (Nat.le_of_ble_eq_true rfl) (Nat.le_of_ble_eq_true rfl) (Nat.le_of_ble_eq_true rfl)) rfl rfl (jEv.mono h (fun o3 M4 h => ?_))
      obtain ⟨rfl, h⟩ := h
      refine ⟨_, rfl, ?_⟩
      show jEv nX8_likes (308, [(0, .ref 67), (1, .int x1), (2, .int x2), (3, .int x3)], [], M4) K
      refine e_seg (k := 9) (d := (332, [(0, .ref 67), (1, .int x1), (2, .int x2), (3, .int x3), (4, .long (M4.2 67 3)), (6, .long (M4.2 67 4)), (8, .int 1)], [], M4)) rfl ?_
      refine e_cut (ks := [0, 1, 2, 3, 4, 6, 8]) (L' := [(0, .ref 67), (1, .int x1), (2, .int x2), (3, .int x3), (4, .long (M4.2 67 3)), (6, .long (M4.2 67 4)), (8, .int 1)]) hE rfl rfl rfl rfl rfl ?_
      exact h
set_option maxRecDepth 100000 in
set_option maxHeartbeats 4000000 in
theorem v_X8_likes_332 {K : jK} {M : jM} {x1 : Int32} {x2 : Int32} {x3 : Int32} {x4 : Int64} {x6 : Int64} {x8 : Int32} (h : ((x2 ≤ x8 → (¬ (x3 < 0 ∨ 9 ≤ x3.toNatClampNeg) ∧ (∀ M1 : jM, M1 = jsl M 79 x3.toNatClampNeg x4 → (¬ (x3 < 0 ∨ 9 ≤ x3.toNatClampNeg) ∧ (∀ M2 : jM, M2 = jsl M1 80 x3.toNatClampNeg x6 → jEv nX8_likes (291, [(0, .ref 67), (1, .int x1), (2, .int x2), (3, .int (x3 + 1))], [], M2) K))))) ∧ (¬ x2 ≤ x8 → (¬ ((4 * x1) + x8 < 0 ∨ 24 ≤ ((4 * x1) + x8).toNatClampNeg) ∧ (¬ (x1 < 0 ∨ 6 ≤ x1.toNatClampNeg) ∧ (jEv nX8_set (0, [(0, .ref 67), (1, .long ((M.1 74 ((4 * x1) + x8).toNatClampNeg).toInt64)), (3, .long ((M.1 70 x1.toNatClampNeg).toInt64))], [], M) (fun o3 M4 => o3 = some none ∧ (¬ (x3 - x8 < 0 ∨ 9 ≤ (x3 - x8).toNatClampNeg) ∧ (¬ (x3 - x8 < 0 ∨ 9 ≤ (x3 - x8).toNatClampNeg) ∧ (jEv nX8_times (0, [(0, .ref 67), (1, .long (M4.2 79 (x3 - x8).toNatClampNeg)), (3, .long (M4.2 80 (x3 - x8).toNatClampNeg))], [], M4) (fun o5 M6 => o5 = some none ∧ (jEv nX8_plus (0, [(0, .ref 67), (1, .long x4), (3, .long x6)], [], M6) (fun o7 M8 => o7 = some none ∧ jEv nX8_likes (332, [(0, .ref 67), (1, .int x1), (2, .int x2), (3, .int x3), (4, .long (M8.2 67 3)), (6, .long (M8.2 67 4)), (8, .int (x8 + 1))], [], M8) K))))))))))))) : jEv nX8_likes (332, [(0, .ref 67), (1, .int x1), (2, .int x2), (3, .int x3), (4, .long x4), (6, .long x6), (8, .int x8)], [], M) K := by
  have hE : jMT nX8_likes = some me_X8_likes := rfl
  refine e_seg (k := 2) (d := (335, [(0, .ref 67), (1, .int x1), (2, .int x2), (3, .int x3), (4, .long x4), (6, .long x6), (8, .int x8)], [.int x2, .int x8], M)) rfl ?_
  refine e_ic_ge (t := 409) (q := 338) hE rfl rfl rfl rfl (fun hbr => ?_) (fun hbr => ?_)
  · replace h := h.1 hbr
    refine e_seg (k := 4) (d := (416, [(0, .ref 67), (1, .int x1), (2, .int x2), (3, .int x3), (4, .long x4), (6, .long x6), (8, .int x8)], [.long x4, .int x3, .ref 79], M)) rfl ?_
    refine e_last (q := 417) hE rfl rfl rfl rfl h.1 ?_
    replace h := h.2
    obtain ⟨M1, hM1⟩ : ∃ z : jM, z = jsl M 79 x3.toNatClampNeg x4 := ⟨_, rfl⟩
    refine jEv_M hM1 ?_
    replace h := h M1 hM1
    refine e_seg (k := 4) (d := (424, [(0, .ref 67), (1, .int x1), (2, .int x2), (3, .int x3), (4, .long x4), (6, .long x6), (8, .int x8)], [.long x6, .int x3, .ref 80], M1)) rfl ?_
    refine e_last (q := 425) hE rfl rfl rfl rfl h.1 ?_
    replace h := h.2
    obtain ⟨M2, hM2⟩ : ∃ z : jM, z = jsl M1 80 x3.toNatClampNeg x6 := ⟨_, rfl⟩
    refine jEv_M hM2 ?_
    replace h := h M2 hM2
    refine e_seg (k := 2) (d := (291, [(0, .ref 67), (1, .int x1), (2, .int x2), (3, .int (x3 + 1)), (4, .long x4), (6, .long x6), (8, .int x8)], [], M2)) rfl ?_
    refine e_cut (ks := [0, 1, 2, 3]) (L' := [(0, .ref 67), (1, .int x1), (2, .int x2), (3, .int (x3 + 1))]) hE rfl rfl rfl rfl rfl ?_
    exact h
  · replace h := h.2 hbr
    refine e_seg (k := 8) (d := (349, [(0, .ref 67), (1, .int x1), (2, .int x2), (3, .int x3), (4, .long x4), (6, .long x6), (8, .int x8)], [.int ((4 * x1) + x8), .ref 74, .ref 67], M)) rfl ?_
    refine e_iald (q := 350) hE rfl rfl rfl rfl h.1 ?_
    replace h := h.2
    refine e_seg (k := 4) (d := (356, [(0, .ref 67), (1, .int x1), (2, .int x2), (3, .int x3), (4, .long x4), (6, .long x6), (8, .int x8)], [.int x1, .ref 70, .long ((M.1 74 ((4 * x1) + x8).toNatClampNeg).toInt64), .ref 67], M)) rfl ?_
    refine e_iald (q := 357) hE rfl rfl rfl rfl h.1 ?_
    replace h := h.2
    refine e_seg (k := 1) (d := (358, [(0, .ref 67), (1, .int x1), (2, .int x2), (3, .int x3), (4, .long x4), (6, .long x6), (8, .int x8)], [.long ((M.1 70 x1.toNatClampNeg).toInt64), .long ((M.1 74 ((4 * x1) + x8).toNatClampNeg).toInt64), .ref 67], M)) rfl ?_
    refine e_call (q := 361) (L0 := [(0, .ref 67), (1, .long ((M.1 74 ((4 * x1) + x8).toNatClampNeg).toInt64)), (3, .long ((M.1 70 x1.toNatClampNeg).toInt64))]) hE rfl rfl rfl rfl (jargs_V rfl rfl rfl rfl rfl (Nat.le_of_ble_eq_true rfl) (Nat.le_of_ble_eq_true rfl) (Nat.le_of_ble_eq_true rfl)) rfl rfl (jEv.mono h (fun o3 M4 h => ?_))
    obtain ⟨rfl, h⟩ := h
    refine ⟨_, rfl, ?_⟩
    show jEv nX8_likes (361, [(0, .ref 67), (1, .int x1), (2, .int x2), (3, .int x3), (4, .long x4), (6, .long x6), (8, .int x8)], [], M4) K
    refine e_seg (k := 6) (d := (370, [(0, .ref 67), (1, .int x1), (2, .int x2), (3, .int x3), (4, .long x4), (6, .long x6), (8, .int x8)], [.int (x3 - x8), .ref 79, .ref 67], M4)) rfl ?_
    refine e_lald (q := 371) hE rfl rfl rfl rfl h.1 ?_
    replace h := h.2
    refine e_seg (k := 5) (d := (379, [(0, .ref 67), (1, .int x1), (2, .int x2), (3, .int x3), (4, .long x4), (6, .long x6), (8, .int x8)], [.int (x3 - x8), .ref 80, .long (M4.2 79 (x3 - x8).toNatClampNeg), .ref 67], M4)) rfl ?_
    refine e_lald (q := 380) hE rfl rfl rfl rfl h.1 ?_
    replace h := h.2
    refine e_call (q := 383) (L0 := [(0, .ref 67), (1, .long (M4.2 79 (x3 - x8).toNatClampNeg)), (3, .long (M4.2 80 (x3 - x8).toNatClampNeg))]) hE rfl rfl rfl rfl (jargs_V rfl rfl rfl rfl rfl (Nat.le_of_ble_eq_true rfl) (Nat.le_of_ble_eq_true rfl) (Nat.le_of_ble_eq_true rfl)) rfl rfl (jEv.mono h (fun o5 M6 h => ?_))
    obtain ⟨rfl, h⟩ := h
    refine ⟨_, rfl, ?_⟩
    show jEv nX8_likes (383, [(0, .ref 67), (1, .int x1), (2, .int x2), (3, .int x3), (4, .long x4), (6, .long x6), (8, .int x8)], [], M6) K
    refine e_seg (k := 3) (d := (388, [(0, .ref 67), (1, .int x1), (2, .int x2), (3, .int x3), (4, .long x4), (6, .long x6), (8, .int x8)], [.long x6, .long x4, .ref 67], M6)) rfl ?_
    refine e_call (q := 391) (L0 := [(0, .ref 67), (1, .long x4), (3, .long x6)]) hE rfl rfl rfl rfl (jargs_V rfl rfl rfl rfl rfl (Nat.le_of_ble_eq_true rfl) (Nat.le_of_ble_eq_true rfl) (Nat.le_of_ble_eq_true rfl)) rfl rfl (jEv.mono h (fun o7 M8 h => ?_))
    obtain ⟨rfl, h⟩ := h
    refine ⟨_, rfl, ?_⟩
    show jEv nX8_likes (391, [(0, .ref 67), (1, .int x1), (2, .int x2), (3, .int x3), (4, .long x4), (6, .long x6), (8, .int x8)], [], M8) K
    refine e_seg (k := 8) (d := (332, [(0, .ref 67), (1, .int x1), (2, .int x2), (3, .int x3), (4, .long (M8.2 67 3)), (6, .long (M8.2 67 4)), (8, .int (x8 + 1))], [], M8)) rfl ?_
    refine e_cut (ks := [0, 1, 2, 3, 4, 6, 8]) (L' := [(0, .ref 67), (1, .int x1), (2, .int x2), (3, .int x3), (4, .long (M8.2 67 3)), (6, .long (M8.2 67 4)), (8, .int (x8 + 1))]) hE rfl rfl rfl rfl rfl ?_
    exact h
set_option maxRecDepth 100000 in
set_option maxHeartbeats 4000000 in
theorem v_X8_weight_0 {K : jK} {M : jM} {x1 : Int32} {x2 : Int32} {x3 : Int32} {x4 : Int32} (h : (jEv nX8_hasRule (0, [(0, .ref 67), (1, .int x1)], [], M) (fun o1 M2 => ∃ r3 : Int32, o1 = some (some (.int r3)) ∧ ((r3 = 0 → (jEv nX8_throwsIf (0, [(0, .ref 67), (1, .int 1)], [], M2) (fun o4 M5 => ∃ r6 : Int32, o4 = some (some (.int r6)) ∧ ((r6 = 0 → (jEv nX8_weights (0, [(0, .ref 67), (1, .int x1), (2, .int x3)], [], M5) (fun o7 M8 => o7 = some none ∧ (¬ (x2 < 0 ∨ 9 ≤ x2.toNatClampNeg) ∧ (¬ (x2 < 0 ∨ 9 ≤ x2.toNatClampNeg) ∧ (jEv nX8_set (0, [(0, .ref 67), (1, .long (M8.2 77 x2.toNatClampNeg)), (3, .long (M8.2 78 x2.toNatClampNeg))], [], M8) (fun o9 M10 => o9 = some none ∧ (jEv nX8_told (0, [(0, .ref 67), (1, .int x4)], [], M10) (fun o11 M12 => ∃ r13 : Int64, o11 = some (some (.long r13)) ∧ K (some (some (.long r13))) M12))))))))) ∧ (¬ r6 = 0 → K (some (some (.long 0))) M5))))) ∧ (¬ r3 = 0 → ((x2 < 0 → (jEv nX8_throwsIf (0, [(0, .ref 67), (1, .int 1)], [], M2) (fun o14 M15 => ∃ r16 : Int32, o14 = some (some (.int r16)) ∧ ((r16 = 0 → (jEv nX8_weights (0, [(0, .ref 67), (1, .int x1), (2, .int x3)], [], M15) (fun o17 M18 => o17 = some none ∧ (¬ (x2 < 0 ∨ 9 ≤ x2.toNatClampNeg) ∧ (¬ (x2 < 0 ∨ 9 ≤ x2.toNatClampNeg) ∧ (jEv nX8_set (0, [(0, .ref 67), (1, .long (M18.2 77 x2.toNatClampNeg)), (3, .long (M18.2 78 x2.toNatClampNeg))], [], M18) (fun o19 M20 => o19 = some none ∧ (jEv nX8_told (0, [(0, .ref 67), (1, .int x4)], [], M20) (fun o21 M22 => ∃ r23 : Int64, o21 = some (some (.long r23)) ∧ K (some (some (.long r23))) M22))))))))) ∧ (¬ r16 = 0 → K (some (some (.long 0))) M15))))) ∧ (¬ x2 < 0 → ((8 < x2 → (jEv nX8_throwsIf (0, [(0, .ref 67), (1, .int 1)], [], M2) (fun o24 M25 => ∃ r26 : Int32, o24 = some (some (.int r26)) ∧ ((r26 = 0 → (jEv nX8_weights (0, [(0, .ref 67), (1, .int x1), (2, .int x3)], [], M25) (fun o27 M28 => o27 = some none ∧ (¬ (x2 < 0 ∨ 9 ≤ x2.toNatClampNeg) ∧ (¬ (x2 < 0 ∨ 9 ≤ x2.toNatClampNeg) ∧ (jEv nX8_set (0, [(0, .ref 67), (1, .long (M28.2 77 x2.toNatClampNeg)), (3, .long (M28.2 78 x2.toNatClampNeg))], [], M28) (fun o29 M30 => o29 = some none ∧ (jEv nX8_told (0, [(0, .ref 67), (1, .int x4)], [], M30) (fun o31 M32 => ∃ r33 : Int64, o31 = some (some (.long r33)) ∧ K (some (some (.long r33))) M32))))))))) ∧ (¬ r26 = 0 → K (some (some (.long 0))) M25))))) ∧ (¬ 8 < x2 → ((x4 < 0 → (jEv nX8_throwsIf (0, [(0, .ref 67), (1, .int 1)], [], M2) (fun o34 M35 => ∃ r36 : Int32, o34 = some (some (.int r36)) ∧ ((r36 = 0 → (jEv nX8_weights (0, [(0, .ref 67), (1, .int x1), (2, .int x3)], [], M35) (fun o37 M38 => o37 = some none ∧ (¬ (x2 < 0 ∨ 9 ≤ x2.toNatClampNeg) ∧ (¬ (x2 < 0 ∨ 9 ≤ x2.toNatClampNeg) ∧ (jEv nX8_set (0, [(0, .ref 67), (1, .long (M38.2 77 x2.toNatClampNeg)), (3, .long (M38.2 78 x2.toNatClampNeg))], [], M38) (fun o39 M40 => o39 = some none ∧ (jEv nX8_told (0, [(0, .ref 67), (1, .int x4)], [], M40) (fun o41 M42 => ∃ r43 : Int64, o41 = some (some (.long r43)) ∧ K (some (some (.long r43))) M42))))))))) ∧ (¬ r36 = 0 → K (some (some (.long 0))) M35))))) ∧ (¬ x4 < 0 → ((x4 ≤ 1 → (jEv nX8_throwsIf (0, [(0, .ref 67), (1, .int 0)], [], M2) (fun o44 M45 => ∃ r46 : Int32, o44 = some (some (.int r46)) ∧ ((r46 = 0 → (jEv nX8_weights (0, [(0, .ref 67), (1, .int x1), (2, .int x3)], [], M45) (fun o47 M48 => o47 = some none ∧ (¬ (x2 < 0 ∨ 9 ≤ x2.toNatClampNeg) ∧ (¬ (x2 < 0 ∨ 9 ≤ x2.toNatClampNeg) ∧ (jEv nX8_set (0, [(0, .ref 67), (1, .long (M48.2 77 x2.toNatClampNeg)), (3, .long (M48.2 78 x2.toNatClampNeg))], [], M48) (fun o49 M50 => o49 = some none ∧ (jEv nX8_told (0, [(0, .ref 67), (1, .int x4)], [], M50) (fun o51 M52 => ∃ r53 : Int64, o51 = some (some (.long r53)) ∧ K (some (some (.long r53))) M52))))))))) ∧ (¬ r46 = 0 → K (some (some (.long 0))) M45))))) ∧ (¬ x4 ≤ 1 → (jEv nX8_throwsIf (0, [(0, .ref 67), (1, .int 1)], [], M2) (fun o54 M55 => ∃ r56 : Int32, o54 = some (some (.int r56)) ∧ ((r56 = 0 → (jEv nX8_weights (0, [(0, .ref 67), (1, .int x1), (2, .int x3)], [], M55) (fun o57 M58 => o57 = some none ∧ (¬ (x2 < 0 ∨ 9 ≤ x2.toNatClampNeg) ∧ (¬ (x2 < 0 ∨ 9 ≤ x2.toNatClampNeg) ∧ (jEv nX8_set (0, [(0, .ref 67), (1, .long (M58.2 77 x2.toNatClampNeg)), (3, .long (M58.2 78 x2.toNatClampNeg))], [], M58) (fun o59 M60 => o59 = some none ∧ (jEv nX8_told (0, [(0, .ref 67), (1, .int x4)], [], M60) (fun o61 M62 => ∃ r63 : Int64, o61 = some (some (.long r63)) ∧ K (some (some (.long r63))) M62))))))))) ∧ (¬ r56 = 0 → K (some (some (.long 0))) M55))))))))))))))))) : jEv nX8_weight (0, [(0, .ref 67), (1, .int x1), (2, .int x2), (3, .int x3), (4, .int x4)], [], M) K := by
  have hE : jMT nX8_weight = some me_X8_weight := rfl
  refine e_seg (k := 3) (d := (3, [(0, .ref 67), (1, .int x1), (2, .int x2), (3, .int x3), (4, .int x4)], [.int x1, .ref 67, .ref 67], M)) rfl ?_
  refine e_call (q := 6) (L0 := [(0, .ref 67), (1, .int x1)]) hE rfl rfl rfl rfl (jargs_V rfl rfl rfl rfl rfl (Nat.le_of_ble_eq_true rfl) (Nat.le_of_ble_eq_true rfl) (Nat.le_of_ble_eq_true rfl)) rfl rfl (jEv.mono h (fun o1 M2 h => ?_))
  obtain ⟨r3, rfl, h⟩ := h
  refine ⟨_, rfl, ?_⟩
  show jEv nX8_weight (6, [(0, .ref 67), (1, .int x1), (2, .int x2), (3, .int x3), (4, .int x4)], [.int r3, .ref 67], M2) K
  refine e_if_eq (t := 30) (q := 9) hE rfl rfl rfl rfl (fun hbr => ?_) (fun hbr => ?_)
  · replace h := h.1 hbr
    refine e_seg (k := 2) (d := (35, [(0, .ref 67), (1, .int x1), (2, .int x2), (3, .int x3), (4, .int x4)], [.int 1, .ref 67], M2)) rfl ?_
    refine e_call (q := 38) (L0 := [(0, .ref 67), (1, .int 1)]) hE rfl rfl rfl rfl (jargs_V rfl rfl rfl rfl rfl (Nat.le_of_ble_eq_true rfl) (Nat.le_of_ble_eq_true rfl) (Nat.le_of_ble_eq_true rfl)) rfl rfl (jEv.mono h (fun o4 M5 h => ?_))
    obtain ⟨r6, rfl, h⟩ := h
    refine ⟨_, rfl, ?_⟩
    show jEv nX8_weight (38, [(0, .ref 67), (1, .int x1), (2, .int x2), (3, .int x3), (4, .int x4)], [.int r6], M5) K
    refine e_if_eq (t := 43) (q := 41) hE rfl rfl rfl rfl (fun hbr => ?_) (fun hbr => ?_)
    · replace h := h.1 hbr
      refine e_seg (k := 3) (d := (46, [(0, .ref 67), (1, .int x1), (2, .int x2), (3, .int x3), (4, .int x4)], [.int x3, .int x1, .ref 67], M5)) rfl ?_
      refine e_call (q := 49) (L0 := [(0, .ref 67), (1, .int x1), (2, .int x3)]) hE rfl rfl rfl rfl (jargs_V rfl rfl rfl rfl rfl (Nat.le_of_ble_eq_true rfl) (Nat.le_of_ble_eq_true rfl) (Nat.le_of_ble_eq_true rfl)) rfl rfl (jEv.mono h (fun o7 M8 h => ?_))
      obtain ⟨rfl, h⟩ := h
      refine ⟨_, rfl, ?_⟩
      show jEv nX8_weight (49, [(0, .ref 67), (1, .int x1), (2, .int x2), (3, .int x3), (4, .int x4)], [], M8) K
      refine e_seg (k := 4) (d := (55, [(0, .ref 67), (1, .int x1), (2, .int x2), (3, .int x3), (4, .int x4)], [.int x2, .ref 77, .ref 67], M8)) rfl ?_
      refine e_lald (q := 56) hE rfl rfl rfl rfl h.1 ?_
      replace h := h.2
      refine e_seg (k := 3) (d := (61, [(0, .ref 67), (1, .int x1), (2, .int x2), (3, .int x3), (4, .int x4)], [.int x2, .ref 78, .long (M8.2 77 x2.toNatClampNeg), .ref 67], M8)) rfl ?_
      refine e_lald (q := 62) hE rfl rfl rfl rfl h.1 ?_
      replace h := h.2
      refine e_call (q := 65) (L0 := [(0, .ref 67), (1, .long (M8.2 77 x2.toNatClampNeg)), (3, .long (M8.2 78 x2.toNatClampNeg))]) hE rfl rfl rfl rfl (jargs_V rfl rfl rfl rfl rfl (Nat.le_of_ble_eq_true rfl) (Nat.le_of_ble_eq_true rfl) (Nat.le_of_ble_eq_true rfl)) rfl rfl (jEv.mono h (fun o9 M10 h => ?_))
      obtain ⟨rfl, h⟩ := h
      refine ⟨_, rfl, ?_⟩
      show jEv nX8_weight (65, [(0, .ref 67), (1, .int x1), (2, .int x2), (3, .int x3), (4, .int x4)], [], M10) K
      refine e_seg (k := 2) (d := (68, [(0, .ref 67), (1, .int x1), (2, .int x2), (3, .int x3), (4, .int x4)], [.int x4, .ref 67], M10)) rfl ?_
      refine e_call (q := 71) (L0 := [(0, .ref 67), (1, .int x4)]) hE rfl rfl rfl rfl (jargs_V rfl rfl rfl rfl rfl (Nat.le_of_ble_eq_true rfl) (Nat.le_of_ble_eq_true rfl) (Nat.le_of_ble_eq_true rfl)) rfl rfl (jEv.mono h (fun o11 M12 h => ?_))
      obtain ⟨r13, rfl, h⟩ := h
      refine ⟨_, rfl, ?_⟩
      show jEv nX8_weight (71, [(0, .ref 67), (1, .int x1), (2, .int x2), (3, .int x3), (4, .int x4)], [.long r13], M12) K
      exact e_ret hE rfl rfl (jb_l rfl) h
    · replace h := h.2 hbr
      refine e_seg (k := 1) (d := (42, [(0, .ref 67), (1, .int x1), (2, .int x2), (3, .int x3), (4, .int x4)], [.long 0], M5)) rfl ?_
      exact e_ret hE rfl rfl (jb_l rfl) h
  · replace h := h.2 hbr
    refine e_seg (k := 1) (d := (10, [(0, .ref 67), (1, .int x1), (2, .int x2), (3, .int x3), (4, .int x4)], [.int x2, .ref 67], M2)) rfl ?_
    refine e_if_lt (t := 30) (q := 13) hE rfl rfl rfl rfl (fun hbr => ?_) (fun hbr => ?_)
    · replace h := h.1 hbr
      refine e_seg (k := 2) (d := (35, [(0, .ref 67), (1, .int x1), (2, .int x2), (3, .int x3), (4, .int x4)], [.int 1, .ref 67], M2)) rfl ?_
      refine e_call (q := 38) (L0 := [(0, .ref 67), (1, .int 1)]) hE rfl rfl rfl rfl (jargs_V rfl rfl rfl rfl rfl (Nat.le_of_ble_eq_true rfl) (Nat.le_of_ble_eq_true rfl) (Nat.le_of_ble_eq_true rfl)) rfl rfl (jEv.mono h (fun o14 M15 h => ?_))
      obtain ⟨r16, rfl, h⟩ := h
      refine ⟨_, rfl, ?_⟩
      show jEv nX8_weight (38, [(0, .ref 67), (1, .int x1), (2, .int x2), (3, .int x3), (4, .int x4)], [.int r16], M15) K
      refine e_if_eq (t := 43) (q := 41) hE rfl rfl rfl rfl (fun hbr => ?_) (fun hbr => ?_)
      · replace h := h.1 hbr
        refine e_seg (k := 3) (d := (46, [(0, .ref 67), (1, .int x1), (2, .int x2), (3, .int x3), (4, .int x4)], [.int x3, .int x1, .ref 67], M15)) rfl ?_
        refine e_call (q := 49) (L0 := [(0, .ref 67), (1, .int x1), (2, .int x3)]) hE rfl rfl rfl rfl (jargs_V rfl rfl rfl rfl rfl (Nat.le_of_ble_eq_true rfl) (Nat.le_of_ble_eq_true rfl) (Nat.le_of_ble_eq_true rfl)) rfl rfl (jEv.mono h (fun o17 M18 h => ?_))
        obtain ⟨rfl, h⟩ := h
        refine ⟨_, rfl, ?_⟩
        show jEv nX8_weight (49, [(0, .ref 67), (1, .int x1), (2, .int x2), (3, .int x3), (4, .int x4)], [], M18) K
        refine e_seg (k := 4) (d := (55, [(0, .ref 67), (1, .int x1), (2, .int x2), (3, .int x3), (4, .int x4)], [.int x2, .ref 77, .ref 67], M18)) rfl ?_
        refine e_lald (q := 56) hE rfl rfl rfl rfl h.1 ?_
        replace h := h.2
        refine e_seg (k := 3) (d := (61, [(0, .ref 67), (1, .int x1), (2, .int x2), (3, .int x3), (4, .int x4)], [.int x2, .ref 78, .long (M18.2 77 x2.toNatClampNeg), .ref 67], M18)) rfl ?_
        refine e_lald (q := 62) hE rfl rfl rfl rfl h.1 ?_
        replace h := h.2
        refine e_call (q := 65) (L0 := [(0, .ref 67), (1, .long (M18.2 77 x2.toNatClampNeg)), (3, .long (M18.2 78 x2.toNatClampNeg))]) hE rfl rfl rfl rfl (jargs_V rfl rfl rfl rfl rfl (Nat.le_of_ble_eq_true rfl) (Nat.le_of_ble_eq_true rfl) (Nat.le_of_ble_eq_true rfl)) rfl rfl (jEv.mono h (fun o19 M20 h => ?_))
        obtain ⟨rfl, h⟩ := h
        refine ⟨_, rfl, ?_⟩
        show jEv nX8_weight (65, [(0, .ref 67), (1, .int x1), (2, .int x2), (3, .int x3), (4, .int x4)], [], M20) K
        refine e_seg (k := 2) (d := (68, [(0, .ref 67), (1, .int x1), (2, .int x2), (3, .int x3), (4, .int x4)], [.int x4, .ref 67], M20)) rfl ?_
        refine e_call (q := 71) (L0 := [(0, .ref 67), (1, .int x4)]) hE rfl rfl rfl rfl (jargs_V rfl rfl rfl rfl rfl (Nat.le_of_ble_eq_true rfl) (Nat.le_of_ble_eq_true rfl) (Nat.le_of_ble_eq_true rfl)) rfl rfl (jEv.mono h (fun o21 M22 h => ?_))
        obtain ⟨r23, rfl, h⟩ := h
        refine ⟨_, rfl, ?_⟩
        show jEv nX8_weight (71, [(0, .ref 67), (1, .int x1), (2, .int x2), (3, .int x3), (4, .int x4)], [.long r23], M22) K
        exact e_ret hE rfl rfl (jb_l rfl) h
      · replace h := h.2 hbr
        refine e_seg (k := 1) (d := (42, [(0, .ref 67), (1, .int x1), (2, .int x2), (3, .int x3), (4, .int x4)], [.long 0], M15)) rfl ?_
        exact e_ret hE rfl rfl (jb_l rfl) h
    · replace h := h.2 hbr
      refine e_seg (k := 2) (d := (16, [(0, .ref 67), (1, .int x1), (2, .int x2), (3, .int x3), (4, .int x4)], [.int 8, .int x2, .ref 67], M2)) rfl ?_
      refine e_ic_gt (t := 30) (q := 19) hE rfl rfl rfl rfl (fun hbr => ?_) (fun hbr => ?_)
      · replace h := h.1 hbr
        refine e_seg (k := 2) (d := (35, [(0, .ref 67), (1, .int x1), (2, .int x2), (3, .int x3), (4, .int x4)], [.int 1, .ref 67], M2)) rfl ?_
        refine e_call (q := 38) (L0 := [(0, .ref 67), (1, .int 1)]) hE rfl rfl rfl rfl (jargs_V rfl rfl rfl rfl rfl (Nat.le_of_ble_eq_true rfl) (Nat.le_of_ble_eq_true rfl) (Nat.le_of_ble_eq_true rfl)) rfl rfl (jEv.mono h (fun o24 M25 h => ?_))
        obtain ⟨r26, rfl, h⟩ := h
        refine ⟨_, rfl, ?_⟩
        show jEv nX8_weight (38, [(0, .ref 67), (1, .int x1), (2, .int x2), (3, .int x3), (4, .int x4)], [.int r26], M25) K
        refine e_if_eq (t := 43) (q := 41) hE rfl rfl rfl rfl (fun hbr => ?_) (fun hbr => ?_)
        · replace h := h.1 hbr
          refine e_seg (k := 3) (d := (46, [(0, .ref 67), (1, .int x1), (2, .int x2), (3, .int x3), (4, .int x4)], [.int x3, .int x1, .ref 67], M25)) rfl ?_
          refine e_call (q := 49) (L0 := [(0, .ref 67), (1, .int x1), (2, .int x3)]) hE rfl rfl rfl rfl (jargs_V rfl rfl rfl rfl rfl (Nat.le_of_ble_eq_true rfl) (Nat.le_of_ble_eq_true rfl) (Nat.le_of_ble_eq_true rfl)) rfl rfl (jEv.mono h (fun o27 M28 h => ?_))
          obtain ⟨rfl, h⟩ := h
          refine ⟨_, rfl, ?_⟩
          show jEv nX8_weight (49, [(0, .ref 67), (1, .int x1), (2, .int x2), (3, .int x3), (4, .int x4)], [], M28) K
          refine e_seg (k := 4) (d := (55, [(0, .ref 67), (1, .int x1), (2, .int x2), (3, .int x3), (4, .int x4)], [.int x2, .ref 77, .ref 67], M28)) rfl ?_
          refine e_lald (q := 56) hE rfl rfl rfl rfl h.1 ?_
          replace h := h.2
          refine e_seg (k := 3) (d := (61, [(0, .ref 67), (1, .int x1), (2, .int x2), (3, .int x3), (4, .int x4)], [.int x2, .ref 78, .long (M28.2 77 x2.toNatClampNeg), .ref 67], M28)) rfl ?_
          refine e_lald (q := 62) hE rfl rfl rfl rfl h.1 ?_
          replace h := h.2
          refine e_call (q := 65) (L0 := [(0, .ref 67), (1, .long (M28.2 77 x2.toNatClampNeg)), (3, .long (M28.2 78 x2.toNatClampNeg))]) hE rfl rfl rfl rfl (jargs_V rfl rfl rfl rfl rfl (Nat.le_of_ble_eq_true rfl) (Nat.le_of_ble_eq_true rfl) (Nat.le_of_ble_eq_true rfl)) rfl rfl (jEv.mono h (fun o29 M30 h => ?_))
          obtain ⟨rfl, h⟩ := h
          refine ⟨_, rfl, ?_⟩
          show jEv nX8_weight (65, [(0, .ref 67), (1, .int x1), (2, .int x2), (3, .int x3), (4, .int x4)], [], M30) K
          refine e_seg (k := 2) (d := (68, [(0, .ref 67), (1, .int x1), (2, .int x2), (3, .int x3), (4, .int x4)], [.int x4, .ref 67], M30)) rfl ?_
          refine e_call (q := 71) (L0 := [(0, .ref 67), (1, .int x4)]) hE rfl rfl rfl rfl (jargs_V rfl rfl rfl rfl rfl (Nat.le_of_ble_eq_true rfl) (Nat.le_of_ble_eq_true rfl) (Nat.le_of_ble_eq_true rfl)) rfl rfl (jEv.mono h (fun o31 M32 h => ?_))
          obtain ⟨r33, rfl, h⟩ := h
          refine ⟨_, rfl, ?_⟩
          show jEv nX8_weight (71, [(0, .ref 67), (1, .int x1), (2, .int x2), (3, .int x3), (4, .int x4)], [.long r33], M32) K
          exact e_ret hE rfl rfl (jb_l rfl) h
        · replace h := h.2 hbr
          refine e_seg (k := 1) (d := (42, [(0, .ref 67), (1, .int x1), (2, .int x2), (3, .int x3), (4, .int x4)], [.long 0], M25)) rfl ?_
          exact e_ret hE rfl rfl (jb_l rfl) h
      · replace h := h.2 hbr
        refine e_seg (k := 1) (d := (21, [(0, .ref 67), (1, .int x1), (2, .int x2), (3, .int x3), (4, .int x4)], [.int x4, .ref 67], M2)) rfl ?_
        refine e_if_lt (t := 30) (q := 24) hE rfl rfl rfl rfl (fun hbr => ?_) (fun hbr => ?_)
        · replace h := h.1 hbr
          refine e_seg (k := 2) (d := (35, [(0, .ref 67), (1, .int x1), (2, .int x2), (3, .int x3), (4, .int x4)], [.int 1, .ref 67], M2)) rfl ?_
          refine e_call (q := 38) (L0 := [(0, .ref 67), (1, .int 1)]) hE rfl rfl rfl rfl (jargs_V rfl rfl rfl rfl rfl (Nat.le_of_ble_eq_true rfl) (Nat.le_of_ble_eq_true rfl) (Nat.le_of_ble_eq_true rfl)) rfl rfl (jEv.mono h (fun o34 M35 h => ?_))
          obtain ⟨r36, rfl, h⟩ := h
          refine ⟨_, rfl, ?_⟩
          show jEv nX8_weight (38, [(0, .ref 67), (1, .int x1), (2, .int x2), (3, .int x3), (4, .int x4)], [.int r36], M35) K
          refine e_if_eq (t := 43) (q := 41) hE rfl rfl rfl rfl (fun hbr => ?_) (fun hbr => ?_)
          · replace h := h.1 hbr
            refine e_seg (k := 3) (d := (46, [(0, .ref 67), (1, .int x1), (2, .int x2), (3, .int x3), (4, .int x4)], [.int x3, .int x1, .ref 67], M35)) rfl ?_
            refine e_call (q := 49) (L0 := [(0, .ref 67), (1, .int x1), (2, .int x3)]) hE rfl rfl rfl rfl (jargs_V rfl rfl rfl rfl rfl (Nat.le_of_ble_eq_true rfl) (Nat.le_of_ble_eq_true rfl) (Nat.le_of_ble_eq_true rfl)) rfl rfl (jEv.mono h (fun o37 M38 h => ?_))
            obtain ⟨rfl, h⟩ := h
            refine ⟨_, rfl, ?_⟩
            show jEv nX8_weight (49, [(0, .ref 67), (1, .int x1), (2, .int x2), (3, .int x3), (4, .int x4)], [], M38) K
            refine e_seg (k := 4) (d := (55, [(0, .ref 67), (1, .int x1), (2, .int x2), (3, .int x3), (4, .int x4)], [.int x2, .ref 77, .ref 67], M38)) rfl ?_
            refine e_lald (q := 56) hE rfl rfl rfl rfl h.1 ?_
            replace h := h.2
            refine e_seg (k := 3) (d := (61, [(0, .ref 67), (1, .int x1), (2, .int x2), (3, .int x3), (4, .int x4)], [.int x2, .ref 78, .long (M38.2 77 x2.toNatClampNeg), .ref 67], M38)) rfl ?_
            refine e_lald (q := 62) hE rfl rfl rfl rfl h.1 ?_
            replace h := h.2
            refine e_call (q := 65) (L0 := [(0, .ref 67), (1, .long (M38.2 77 x2.toNatClampNeg)), (3, .long (M38.2 78 x2.toNatClampNeg))]) hE rfl rfl rfl rfl (jargs_V rfl rfl rfl rfl rfl (Nat.le_of_ble_eq_true rfl) (Nat.le_of_ble_eq_true rfl) (Nat.le_of_ble_eq_true rfl)) rfl rfl (jEv.mono h (fun o39 M40 h => ?_))
            obtain ⟨rfl, h⟩ := h
            refine ⟨_, rfl, ?_⟩
            show jEv nX8_weight (65, [(0, .ref 67), (1, .int x1), (2, .int x2), (3, .int x3), (4, .int x4)], [], M40) K
            refine e_seg (k := 2) (d := (68, [(0, .ref 67), (1, .int x1), (2, .int x2), (3, .int x3), (4, .int x4)], [.int x4, .ref 67], M40)) rfl ?_
            refine e_call (q := 71) (L0 := [(0, .ref 67), (1, .int x4)]) hE rfl rfl rfl rfl (jargs_V rfl rfl rfl rfl rfl (Nat.le_of_ble_eq_true rfl) (Nat.le_of_ble_eq_true rfl) (Nat.le_of_ble_eq_true rfl)) rfl rfl (jEv.mono h (fun o41 M42 h => ?_))
            obtain ⟨r43, rfl, h⟩ := h
            refine ⟨_, rfl, ?_⟩
            show jEv nX8_weight (71, [(0, .ref 67), (1, .int x1), (2, .int x2), (3, .int x3), (4, .int x4)], [.long r43], M42) K
            exact e_ret hE rfl rfl (jb_l rfl) h
          · replace h := h.2 hbr
            refine e_seg (k := 1) (d := (42, [(0, .ref 67), (1, .int x1), (2, .int x2), (3, .int x3), (4, .int x4)], [.long 0], M35)) rfl ?_
            exact e_ret hE rfl rfl (jb_l rfl) h
        · replace h := h.2 hbr
          refine e_seg (k := 2) (d := (27, [(0, .ref 67), (1, .int x1), (2, .int x2), (3, .int x3), (4, .int x4)], [.int 1, .int x4, .ref 67], M2)) rfl ?_
          refine e_ic_le (t := 34) (q := 30) hE rfl rfl rfl rfl (fun hbr => ?_) (fun hbr => ?_)
          · replace h := h.1 hbr
            refine e_seg (k := 1) (d := (35, [(0, .ref 67), (1, .int x1), (2, .int x2), (3, .int x3), (4, .int x4)], [.int 0, .ref 67], M2)) rfl ?_
            refine e_call (q := 38) (L0 := [(0, .ref 67), (1, .int 0)]) hE rfl rfl rfl rfl (jargs_V rfl rfl rfl rfl rfl (Nat.le_of_ble_eq_true rfl) (Nat.le_of_ble_eq_true rfl) (Nat.le_of_ble_eq_true rfl)) rfl rfl (jEv.mono h (fun o44 M45 h => ?_))
            obtain ⟨r46, rfl, h⟩ := h
            refine ⟨_, rfl, ?_⟩
            show jEv nX8_weight (38, [(0, .ref 67), (1, .int x1), (2, .int x2), (3, .int x3), (4, .int x4)], [.int r46], M45) K
            refine e_if_eq (t := 43) (q := 41) hE rfl rfl rfl rfl (fun hbr => ?_) (fun hbr => ?_)
            · replace h := h.1 hbr
              refine e_seg (k := 3) (d := (46, [(0, .ref 67), (1, .int x1), (2, .int x2), (3, .int x3), (4, .int x4)], [.int x3, .int x1, .ref 67], M45)) rfl ?_
              refine e_call (q := 49) (L0 := [(0, .ref 67), (1, .int x1), (2, .int x3)]) hE rfl rfl rfl rfl (jargs_V rfl rfl rfl rfl rfl (Nat.le_of_ble_eq_true rfl) (Nat.le_of_ble_eq_true rfl) (Nat.le_of_ble_eq_true rfl)) rfl rfl (jEv.mono h (fun o47 M48 h => ?_))
              obtain ⟨rfl, h⟩ := h
              refine ⟨_, rfl, ?_⟩
              show jEv nX8_weight (49, [(0, .ref 67), (1, .int x1), (2, .int x2), (3, .int x3), (4, .int x4)], [], M48) K
              refine e_seg (k := 4) (d := (55, [(0, .ref 67), (1, .int x1), (2, .int x2), (3, .int x3), (4, .int x4)], [.int x2, .ref 77, .ref 67], M48)) rfl ?_
              refine e_lald (q := 56) hE rfl rfl rfl rfl h.1 ?_
              replace h := h.2
              refine e_seg (k := 3) (d := (61, [(0, .ref 67), (1, .int x1), (2, .int x2), (3, .int x3), (4, .int x4)], [.int x2, .ref 78, .long (M48.2 77 x2.toNatClampNeg), .ref 67], M48)) rfl ?_
              refine e_lald (q := 62) hE rfl rfl rfl rfl h.1 ?_
              replace h := h.2
              refine e_call (q := 65) (L0 := [(0, .ref 67), (1, .long (M48.2 77 x2.toNatClampNeg)), (3, .long (M48.2 78 x2.toNatClampNeg))]) hE rfl rfl rfl rfl (jargs_V rfl rfl rfl rfl rfl (Nat.le_of_ble_eq_true rfl) (Nat.le_of_ble_eq_true rfl) (Nat.le_of_ble_eq_true rfl)) rfl rfl (jEv.mono h (fun o49 M50 h => ?_))
              obtain ⟨rfl, h⟩ := h
              refine ⟨_, rfl, ?_⟩
              show jEv nX8_weight (65, [(0, .ref 67), (1, .int x1), (2, .int x2), (3, .int x3), (4, .int x4)], [], M50) K
              refine e_seg (k := 2) (d := (68, [(0, .ref 67), (1, .int x1), (2, .int x2), (3, .int x3), (4, .int x4)], [.int x4, .ref 67], M50)) rfl ?_
              refine e_call (q := 71) (L0 := [(0, .ref 67), (1, .int x4)]) hE rfl rfl rfl rfl (jargs_V rfl rfl rfl rfl rfl (Nat.le_of_ble_eq_true rfl) (Nat.le_of_ble_eq_true rfl) (Nat.le_of_ble_eq_true rfl)) rfl rfl (jEv.mono h (fun o51 M52 h => ?_))
              obtain ⟨r53, rfl, h⟩ := h
              refine ⟨_, rfl, ?_⟩
              show jEv nX8_weight (71, [(0, .ref 67), (1, .int x1), (2, .int x2), (3, .int x3), (4, .int x4)], [.long r53], M52) K
              exact e_ret hE rfl rfl (jb_l rfl) h
            · replace h := h.2 hbr
              refine e_seg (k := 1) (d := (42, [(0, .ref 67), (1, .int x1), (2, .int x2), (3, .int x3), (4, .int x4)], [.long 0], M45)) rfl ?_
              exact e_ret hE rfl rfl (jb_l rfl) h
          · replace h := h.2 hbr
            refine e_seg (k := 2) (d := (35, [(0, .ref 67), (1, .int x1), (2, .int x2), (3, .int x3), (4, .int x4)], [.int 1, .ref 67], M2)) rfl ?_
            refine e_call (q := 38) (L0 := [(0, .ref 67), (1, .int 1)]) hE rfl rfl rfl rfl (jargs_V rfl rfl rfl rfl rfl (Nat.le_of_ble_eq_true rfl) (Nat.le_of_ble_eq_true rfl) (Nat.le_of_ble_eq_true rfl)) rfl rfl (jEv.mono h (fun o54 M55 h => ?_))
            obtain ⟨r56, rfl, h⟩ := h
            refine ⟨_, rfl, ?_⟩
            show jEv nX8_weight (38, [(0, .ref 67), (1, .int x1), (2, .int x2), (3, .int x3), (4, .int x4)], [.int r56], M55) K
            refine e_if_eq (t := 43) (q := 41) hE rfl rfl rfl rfl (fun hbr => ?_) (fun hbr => ?_)
            · replace h := h.1 hbr
              refine e_seg (k := 3) (d := (46, [(0, .ref 67), (1, .int x1), (2, .int x2), (3, .int x3), (4, .int x4)], [.int x3, .int x1, .ref 67], M55)) rfl ?_
              refine e_call (q := 49) (L0 := [(0, .ref 67), (1, .int x1), (2, .int x3)]) hE rfl rfl rfl rfl (jargs_V rfl rfl rfl rfl rfl (Nat.le_of_ble_eq_true rfl) (Nat.le_of_ble_eq_true rfl) (Nat.le_of_ble_eq_true rfl)) rfl rfl (jEv.mono h (fun o57 M58 h => ?_))
              obtain ⟨rfl, h⟩ := h
              refine ⟨_, rfl, ?_⟩
              show jEv nX8_weight (49, [(0, .ref 67), (1, .int x1), (2, .int x2), (3, .int x3), (4, .int x4)], [], M58) K
              refine e_seg (k := 4) (d := (55, [(0, .ref 67), (1, .int x1), (2, .int x2), (3, .int x3), (4, .int x4)], [.int x2, .ref 77, .ref 67], M58)) rfl ?_
              refine e_lald (q := 56) hE rfl rfl rfl rfl h.1 ?_
              replace h := h.2
              refine e_seg (k := 3) (d := (61, [(0, .ref 67), (1, .int x1), (2, .int x2), (3, .int x3), (4, .int x4)], [.int x2, .ref 78, .long (M58.2 77 x2.toNatClampNeg), .ref 67], M58)) rfl ?_
              refine e_lald (q := 62) hE rfl rfl rfl rfl h.1 ?_
              replace h := h.2
              refine e_call (q := 65) (L0 := [(0, .ref 67), (1, .long (M58.2 77 x2.toNatClampNeg)), (3, .long (M58.2 78 x2.toNatClampNeg))]) hE rfl rfl rfl rfl (jargs_V rfl rfl rfl rfl rfl (Nat.le_of_ble_eq_true rfl) (Nat.le_of_ble_eq_true rfl) (Nat.le_of_ble_eq_true rfl)) rfl rfl (jEv.mono h (fun o59 M60 h => ?_))
              obtain ⟨rfl, h⟩ := h
              refine ⟨_, rfl, ?_⟩
              show jEv nX8_weight (65, [(0, .ref 67), (1, .int x1), (2, .int x2), (3, .int x3), (4, .int x4)], [], M60) K
              refine e_seg (k := 2) (d := (68, [(0, .ref 67), (1, .int x1), (2, .int x2), (3, .int x3), (4, .int x4)], [.int x4, .ref 67], M60)) rfl ?_
              refine e_call (q := 71) (L0 := [(0, .ref 67), (1, .int x4)]) hE rfl rfl rfl rfl (jargs_V rfl rfl rfl rfl rfl (Nat.le_of_ble_eq_true rfl) (Nat.le_of_ble_eq_true rfl) (Nat.le_of_ble_eq_true rfl)) rfl rfl (jEv.mono h (fun o61 M62 h => ?_))
              obtain ⟨r63, rfl, h⟩ := h
              refine ⟨_, rfl, ?_⟩
              show jEv nX8_weight (71, [(0, .ref 67), (1, .int x1), (2, .int x2), (3, .int x3), (4, .int x4)], [.long r63], M62) K
              exact e_ret hE rfl rfl (jb_l rfl) h
            · replace h := h.2 hbr
              refine e_seg (k := 1) (d := (42, [(0, .ref 67), (1, .int x1), (2, .int x2), (3, .int x3), (4, .int x4)], [.long 0], M55)) rfl ?_
              exact e_ret hE rfl rfl (jb_l rfl) h
set_option maxRecDepth 100000 in
set_option maxHeartbeats 4000000 in
theorem v_X8_like_0 {K : jK} {M : jM} {x1 : Int32} {x2 : Int32} {x3 : Int32} (h : (jEv nX8_hasRule (0, [(0, .ref 67), (1, .int x1)], [], M) (fun o1 M2 => ∃ r3 : Int32, o1 = some (some (.int r3)) ∧ ((r3 = 0 → (jEv nX8_throwsIf (0, [(0, .ref 67), (1, .int 1)], [], M2) (fun o4 M5 => ∃ r6 : Int32, o4 = some (some (.int r6)) ∧ ((r6 = 0 → (jEv nX8_likes (0, [(0, .ref 67), (1, .int x1)], [], M5) (fun o7 M8 => o7 = some none ∧ ((x3 = 0 → (¬ (x2 < 0 ∨ 9 ≤ x2.toNatClampNeg) ∧ K (some (some (.long (M8.2 79 x2.toNatClampNeg)))) M8)) ∧ (¬ x3 = 0 → (¬ (x2 < 0 ∨ 9 ≤ x2.toNatClampNeg) ∧ K (some (some (.long (M8.2 80 x2.toNatClampNeg)))) M8)))))) ∧ (¬ r6 = 0 → K (some (some (.long 0))) M5))))) ∧ (¬ r3 = 0 → (jEv nX8_isSteady (0, [(0, .ref 67), (1, .int x1)], [], M2) (fun o9 M10 => ∃ r11 : Int32, o9 = some (some (.int r11)) ∧ ((r11 = 0 → (jEv nX8_throwsIf (0, [(0, .ref 67), (1, .int 1)], [], M10) (fun o12 M13 => ∃ r14 : Int32, o12 = some (some (.int r14)) ∧ ((r14 = 0 → (jEv nX8_likes (0, [(0, .ref 67), (1, .int x1)], [], M13) (fun o15 M16 => o15 = some none ∧ ((x3 = 0 → (¬ (x2 < 0 ∨ 9 ≤ x2.toNatClampNeg) ∧ K (some (some (.long (M16.2 79 x2.toNatClampNeg)))) M16)) ∧ (¬ x3 = 0 → (¬ (x2 < 0 ∨ 9 ≤ x2.toNatClampNeg) ∧ K (some (some (.long (M16.2 80 x2.toNatClampNeg)))) M16)))))) ∧ (¬ r14 = 0 → K (some (some (.long 0))) M13))))) ∧ (¬ r11 = 0 → ((x2 < 0 → (jEv nX8_throwsIf (0, [(0, .ref 67), (1, .int 1)], [], M10) (fun o17 M18 => ∃ r19 : Int32, o17 = some (some (.int r19)) ∧ ((r19 = 0 → (jEv nX8_likes (0, [(0, .ref 67), (1, .int x1)], [], M18) (fun o20 M21 => o20 = some none ∧ ((x3 = 0 → (¬ (x2 < 0 ∨ 9 ≤ x2.toNatClampNeg) ∧ K (some (some (.long (M21.2 79 x2.toNatClampNeg)))) M21)) ∧ (¬ x3 = 0 → (¬ (x2 < 0 ∨ 9 ≤ x2.toNatClampNeg) ∧ K (some (some (.long (M21.2 80 x2.toNatClampNeg)))) M21)))))) ∧ (¬ r19 = 0 → K (some (some (.long 0))) M18))))) ∧ (¬ x2 < 0 → ((8 < x2 → (jEv nX8_throwsIf (0, [(0, .ref 67), (1, .int 1)], [], M10) (fun o22 M23 => ∃ r24 : Int32, o22 = some (some (.int r24)) ∧ ((r24 = 0 → (jEv nX8_likes (0, [(0, .ref 67), (1, .int x1)], [], M23) (fun o25 M26 => o25 = some none ∧ ((x3 = 0 → (¬ (x2 < 0 ∨ 9 ≤ x2.toNatClampNeg) ∧ K (some (some (.long (M26.2 79 x2.toNatClampNeg)))) M26)) ∧ (¬ x3 = 0 → (¬ (x2 < 0 ∨ 9 ≤ x2.toNatClampNeg) ∧ K (some (some (.long (M26.2 80 x2.toNatClampNeg)))) M26)))))) ∧ (¬ r24 = 0 → K (some (some (.long 0))) M23))))) ∧ (¬ 8 < x2 → ((x3 < 0 → (jEv nX8_throwsIf (0, [(0, .ref 67), (1, .int 1)], [], M10) (fun o27 M28 => ∃ r29 : Int32, o27 = some (some (.int r29)) ∧ ((r29 = 0 → (jEv nX8_likes (0, [(0, .ref 67), (1, .int x1)], [], M28) (fun o30 M31 => o30 = some none ∧ ((x3 = 0 → (¬ (x2 < 0 ∨ 9 ≤ x2.toNatClampNeg) ∧ K (some (some (.long (M31.2 79 x2.toNatClampNeg)))) M31)) ∧ (¬ x3 = 0 → (¬ (x2 < 0 ∨ 9 ≤ x2.toNatClampNeg) ∧ K (some (some (.long (M31.2 80 x2.toNatClampNeg)))) M31)))))) ∧ (¬ r29 = 0 → K (some (some (.long 0))) M28))))) ∧ (¬ x3 < 0 → ((x3 ≤ 1 → (jEv nX8_throwsIf (0, [(0, .ref 67), (1, .int 0)], [], M10) (fun o32 M33 => ∃ r34 : Int32, o32 = some (some (.int r34)) ∧ ((r34 = 0 → (jEv nX8_likes (0, [(0, .ref 67), (1, .int x1)], [], M33) (fun o35 M36 => o35 = some none ∧ ((x3 = 0 → (¬ (x2 < 0 ∨ 9 ≤ x2.toNatClampNeg) ∧ K (some (some (.long (M36.2 79 x2.toNatClampNeg)))) M36)) ∧ (¬ x3 = 0 → (¬ (x2 < 0 ∨ 9 ≤ x2.toNatClampNeg) ∧ K (some (some (.long (M36.2 80 x2.toNatClampNeg)))) M36)))))) ∧ (¬ r34 = 0 → K (some (some (.long 0))) M33))))) ∧ (¬ x3 ≤ 1 → (jEv nX8_throwsIf (0, [(0, .ref 67), (1, .int 1)], [], M10) (fun o37 M38 => ∃ r39 : Int32, o37 = some (some (.int r39)) ∧ ((r39 = 0 → (jEv nX8_likes (0, [(0, .ref 67), (1, .int x1)], [], M38) (fun o40 M41 => o40 = some none ∧ ((x3 = 0 → (¬ (x2 < 0 ∨ 9 ≤ x2.toNatClampNeg) ∧ K (some (some (.long (M41.2 79 x2.toNatClampNeg)))) M41)) ∧ (¬ x3 = 0 → (¬ (x2 < 0 ∨ 9 ≤ x2.toNatClampNeg) ∧ K (some (some (.long (M41.2 80 x2.toNatClampNeg)))) M41)))))) ∧ (¬ r39 = 0 → K (some (some (.long 0))) M38))))))))))))))))))))) : jEv nX8_like (0, [(0, .ref 67), (1, .int x1), (2, .int x2), (3, .int x3)], [], M) K := by
  have hE : jMT nX8_like = some me_X8_like := rfl
  refine e_seg (k := 3) (d := (3, [(0, .ref 67), (1, .int x1), (2, .int x2), (3, .int x3)], [.int x1, .ref 67, .ref 67], M)) rfl ?_
  refine e_call (q := 6) (L0 := [(0, .ref 67), (1, .int x1)]) hE rfl rfl rfl rfl (jargs_V rfl rfl rfl rfl rfl (Nat.le_of_ble_eq_true rfl) (Nat.le_of_ble_eq_true rfl) (Nat.le_of_ble_eq_true rfl)) rfl rfl (jEv.mono h (fun o1 M2 h => ?_))
  obtain ⟨r3, rfl, h⟩ := h
  refine ⟨_, rfl, ?_⟩
  show jEv nX8_like (6, [(0, .ref 67), (1, .int x1), (2, .int x2), (3, .int x3)], [.int r3, .ref 67], M2) K
  refine e_if_eq (t := 36) (q := 9) hE rfl rfl rfl rfl (fun hbr => ?_) (fun hbr => ?_)
  · replace h := h.1 hbr
    refine e_seg (k := 2) (d := (41, [(0, .ref 67), (1, .int x1), (2, .int x2), (3, .int x3)], [.int 1, .ref 67], M2)) rfl ?_
    refine e_call (q := 44) (L0 := [(0, .ref 67), (1, .int 1)]) hE rfl rfl rfl rfl (jargs_V rfl rfl rfl rfl rfl (Nat.le_of_ble_eq_true rfl) (Nat.le_of_ble_eq_true rfl) (Nat.le_of_ble_eq_true rfl)) rfl rfl (jEv.mono h (fun o4 M5 h => ?_))
    obtain ⟨r6, rfl, h⟩ := h
    refine ⟨_, rfl, ?_⟩
    show jEv nX8_like (44, [(0, .ref 67), (1, .int x1), (2, .int x2), (3, .int x3)], [.int r6], M5) K
    refine e_if_eq (t := 49) (q := 47) hE rfl rfl rfl rfl (fun hbr => ?_) (fun hbr => ?_)
    · replace h := h.1 hbr
      refine e_seg (k := 2) (d := (51, [(0, .ref 67), (1, .int x1), (2, .int x2), (3, .int x3)], [.int x1, .ref 67], M5)) rfl ?_
      refine e_call (q := 54) (L0 := [(0, .ref 67), (1, .int x1)]) hE rfl rfl rfl rfl (jargs_V rfl rfl rfl rfl rfl (Nat.le_of_ble_eq_true rfl) (Nat.le_of_ble_eq_true rfl) (Nat.le_of_ble_eq_true rfl)) rfl rfl (jEv.mono h (fun o7 M8 h => ?_))
      obtain ⟨rfl, h⟩ := h
      refine ⟨_, rfl, ?_⟩
      show jEv nX8_like (54, [(0, .ref 67), (1, .int x1), (2, .int x2), (3, .int x3)], [], M8) K
      refine e_seg (k := 1) (d := (55, [(0, .ref 67), (1, .int x1), (2, .int x2), (3, .int x3)], [.int x3], M8)) rfl ?_
      refine e_if_ne (t := 67) (q := 58) hE rfl rfl rfl rfl (fun hbr => ?_) (fun hbr => ?_)
      · replace h := h.2 hbr
        refine e_seg (k := 3) (d := (72, [(0, .ref 67), (1, .int x1), (2, .int x2), (3, .int x3)], [.int x2, .ref 80], M8)) rfl ?_
        refine e_lald (q := 73) hE rfl rfl rfl rfl h.1 ?_
        replace h := h.2
        exact e_ret hE rfl rfl (jb_l rfl) h
      · replace h := h.1 hbr
        refine e_seg (k := 3) (d := (63, [(0, .ref 67), (1, .int x1), (2, .int x2), (3, .int x3)], [.int x2, .ref 79], M8)) rfl ?_
        refine e_lald (q := 64) hE rfl rfl rfl rfl h.1 ?_
        replace h := h.2
        refine e_seg (k := 1) (d := (73, [(0, .ref 67), (1, .int x1), (2, .int x2), (3, .int x3)], [.long (M8.2 79 x2.toNatClampNeg)], M8)) rfl ?_
        exact e_ret hE rfl rfl (jb_l rfl) h
    · replace h := h.2 hbr
      refine e_seg (k := 1) (d := (48, [(0, .ref 67), (1, .int x1), (2, .int x2), (3, .int x3)], [.long 0], M5)) rfl ?_
      exact e_ret hE rfl rfl (jb_l rfl) h
  · replace h := h.2 hbr
    refine e_seg (k := 2) (d := (11, [(0, .ref 67), (1, .int x1), (2, .int x2), (3, .int x3)], [.int x1, .ref 67, .ref 67], M2)) rfl ?_
    refine e_call (q := 14) (L0 := [(0, .ref 67), (1, .int x1)]) hE rfl rfl rfl rfl (jargs_V rfl rfl rfl rfl rfl (Nat.le_of_ble_eq_true rfl) (Nat.le_of_ble_eq_true rfl) (Nat.le_of_ble_eq_true rfl)) rfl rfl (jEv.mono h (fun o9 M10 h => ?_))
    obtain ⟨r11, rfl, h⟩ := h
    refine ⟨_, rfl, ?_⟩
    show jEv nX8_like (14, [(0, .ref 67), (1, .int x1), (2, .int x2), (3, .int x3)], [.int r11, .ref 67], M10) K
    refine e_if_eq (t := 36) (q := 17) hE rfl rfl rfl rfl (fun hbr => ?_) (fun hbr => ?_)
    · replace h := h.1 hbr
      refine e_seg (k := 2) (d := (41, [(0, .ref 67), (1, .int x1), (2, .int x2), (3, .int x3)], [.int 1, .ref 67], M10)) rfl ?_
      refine e_call (q := 44) (L0 := [(0, .ref 67), (1, .int 1)]) hE rfl rfl rfl rfl (jargs_V rfl rfl rfl rfl rfl (Nat.le_of_ble_eq_true rfl) (Nat.le_of_ble_eq_true rfl) (Nat.le_of_ble_eq_true rfl)) rfl rfl (jEv.mono h (fun o12 M13 h => ?_))
      obtain ⟨r14, rfl, h⟩ := h
      refine ⟨_, rfl, ?_⟩
      show jEv nX8_like (44, [(0, .ref 67), (1, .int x1), (2, .int x2), (3, .int x3)], [.int r14], M13) K
      refine e_if_eq (t := 49) (q := 47) hE rfl rfl rfl rfl (fun hbr => ?_) (fun hbr => ?_)
      · replace h := h.1 hbr
        refine e_seg (k := 2) (d := (51, [(0, .ref 67), (1, .int x1), (2, .int x2), (3, .int x3)], [.int x1, .ref 67], M13)) rfl ?_
        refine e_call (q := 54) (L0 := [(0, .ref 67), (1, .int x1)]) hE rfl rfl rfl rfl (jargs_V rfl rfl rfl rfl rfl (Nat.le_of_ble_eq_true rfl) (Nat.le_of_ble_eq_true rfl) (Nat.le_of_ble_eq_true rfl)) rfl rfl (jEv.mono h (fun o15 M16 h => ?_))
        obtain ⟨rfl, h⟩ := h
        refine ⟨_, rfl, ?_⟩
        show jEv nX8_like (54, [(0, .ref 67), (1, .int x1), (2, .int x2), (3, .int x3)], [], M16) K
        refine e_seg (k := 1) (d := (55, [(0, .ref 67), (1, .int x1), (2, .int x2), (3, .int x3)], [.int x3], M16)) rfl ?_
        refine e_if_ne (t := 67) (q := 58) hE rfl rfl rfl rfl (fun hbr => ?_) (fun hbr => ?_)
        · replace h := h.2 hbr
          refine e_seg (k := 3) (d := (72, [(0, .ref 67), (1, .int x1), (2, .int x2), (3, .int x3)], [.int x2, .ref 80], M16)) rfl ?_
          refine e_lald (q := 73) hE rfl rfl rfl rfl h.1 ?_
          replace h := h.2
          exact e_ret hE rfl rfl (jb_l rfl) h
        · replace h := h.1 hbr
          refine e_seg (k := 3) (d := (63, [(0, .ref 67), (1, .int x1), (2, .int x2), (3, .int x3)], [.int x2, .ref 79], M16)) rfl ?_
          refine e_lald (q := 64) hE rfl rfl rfl rfl h.1 ?_
          replace h := h.2
          refine e_seg (k := 1) (d := (73, [(0, .ref 67), (1, .int x1), (2, .int x2), (3, .int x3)], [.long (M16.2 79 x2.toNatClampNeg)], M16)) rfl ?_
          exact e_ret hE rfl rfl (jb_l rfl) h
      · replace h := h.2 hbr
        refine e_seg (k := 1) (d := (48, [(0, .ref 67), (1, .int x1), (2, .int x2), (3, .int x3)], [.long 0], M13)) rfl ?_
        exact e_ret hE rfl rfl (jb_l rfl) h
    · replace h := h.2 hbr
      refine e_seg (k := 1) (d := (18, [(0, .ref 67), (1, .int x1), (2, .int x2), (3, .int x3)], [.int x2, .ref 67], M10)) rfl ?_
      refine e_if_lt (t := 36) (q := 21) hE rfl rfl rfl rfl (fun hbr => ?_) (fun hbr => ?_)
      · replace h := h.1 hbr
        refine e_seg (k := 2) (d := (41, [(0, .ref 67), (1, .int x1), (2, .int x2), (3, .int x3)], [.int 1, .ref 67], M10)) rfl ?_
        refine e_call (q := 44) (L0 := [(0, .ref 67), (1, .int 1)]) hE rfl rfl rfl rfl (jargs_V rfl rfl rfl rfl rfl (Nat.le_of_ble_eq_true rfl) (Nat.le_of_ble_eq_true rfl) (Nat.le_of_ble_eq_true rfl)) rfl rfl (jEv.mono h (fun o17 M18 h => ?_))
        obtain ⟨r19, rfl, h⟩ := h
        refine ⟨_, rfl, ?_⟩
        show jEv nX8_like (44, [(0, .ref 67), (1, .int x1), (2, .int x2), (3, .int x3)], [.int r19], M18) K
        refine e_if_eq (t := 49) (q := 47) hE rfl rfl rfl rfl (fun hbr => ?_) (fun hbr => ?_)
        · replace h := h.1 hbr
          refine e_seg (k := 2) (d := (51, [(0, .ref 67), (1, .int x1), (2, .int x2), (3, .int x3)], [.int x1, .ref 67], M18)) rfl ?_
          refine e_call (q := 54) (L0 := [(0, .ref 67), (1, .int x1)]) hE rfl rfl rfl rfl (jargs_V rfl rfl rfl rfl rfl (Nat.le_of_ble_eq_true rfl) (Nat.le_of_ble_eq_true rfl) (Nat.le_of_ble_eq_true rfl)) rfl rfl (jEv.mono h (fun o20 M21 h => ?_))
          obtain ⟨rfl, h⟩ := h
          refine ⟨_, rfl, ?_⟩
          show jEv nX8_like (54, [(0, .ref 67), (1, .int x1), (2, .int x2), (3, .int x3)], [], M21) K
          refine e_seg (k := 1) (d := (55, [(0, .ref 67), (1, .int x1), (2, .int x2), (3, .int x3)], [.int x3], M21)) rfl ?_
          refine e_if_ne (t := 67) (q := 58) hE rfl rfl rfl rfl (fun hbr => ?_) (fun hbr => ?_)
          · replace h := h.2 hbr
            refine e_seg (k := 3) (d := (72, [(0, .ref 67), (1, .int x1), (2, .int x2), (3, .int x3)], [.int x2, .ref 80], M21)) rfl ?_
            refine e_lald (q := 73) hE rfl rfl rfl rfl h.1 ?_
            replace h := h.2
            exact e_ret hE rfl rfl (jb_l rfl) h
          · replace h := h.1 hbr
            refine e_seg (k := 3) (d := (63, [(0, .ref 67), (1, .int x1), (2, .int x2), (3, .int x3)], [.int x2, .ref 79], M21)) rfl ?_
            refine e_lald (q := 64) hE rfl rfl rfl rfl h.1 ?_
            replace h := h.2
            refine e_seg (k := 1) (d := (73, [(0, .ref 67), (1, .int x1), (2, .int x2), (3, .int x3)], [.long (M21.2 79 x2.toNatClampNeg)], M21)) rfl ?_
            exact e_ret hE rfl rfl (jb_l rfl) h
        · replace h := h.2 hbr
          refine e_seg (k := 1) (d := (48, [(0, .ref 67), (1, .int x1), (2, .int x2), (3, .int x3)], [.long 0], M18)) rfl ?_
          exact e_ret hE rfl rfl (jb_l rfl) h
      · replace h := h.2 hbr
        refine e_seg (k := 2) (d := (24, [(0, .ref 67), (1, .int x1), (2, .int x2), (3, .int x3)], [.int 8, .int x2, .ref 67], M10)) rfl ?_
        refine e_ic_gt (t := 36) (q := 27) hE rfl rfl rfl rfl (fun hbr => ?_) (fun hbr => ?_)
        · replace h := h.1 hbr
          refine e_seg (k := 2) (d := (41, [(0, .ref 67), (1, .int x1), (2, .int x2), (3, .int x3)], [.int 1, .ref 67], M10)) rfl ?_
          refine e_call (q := 44) (L0 := [(0, .ref 67), (1, .int 1)]) hE rfl rfl rfl rfl (jargs_V rfl rfl rfl rfl rfl (Nat.le_of_ble_eq_true rfl) (Nat.le_of_ble_eq_true rfl) (Nat.le_of_ble_eq_true rfl)) rfl rfl (jEv.mono h (fun o22 M23 h => ?_))
          obtain ⟨r24, rfl, h⟩ := h
          refine ⟨_, rfl, ?_⟩
          show jEv nX8_like (44, [(0, .ref 67), (1, .int x1), (2, .int x2), (3, .int x3)], [.int r24], M23) K
          refine e_if_eq (t := 49) (q := 47) hE rfl rfl rfl rfl (fun hbr => ?_) (fun hbr => ?_)
          · replace h := h.1 hbr
            refine e_seg (k := 2) (d := (51, [(0, .ref 67), (1, .int x1), (2, .int x2), (3, .int x3)], [.int x1, .ref 67], M23)) rfl ?_
            refine e_call (q := 54) (L0 := [(0, .ref 67), (1, .int x1)]) hE rfl rfl rfl rfl (jargs_V rfl rfl rfl rfl rfl (Nat.le_of_ble_eq_true rfl) (Nat.le_of_ble_eq_true rfl) (Nat.le_of_ble_eq_true rfl)) rfl rfl (jEv.mono h (fun o25 M26 h => ?_))
            obtain ⟨rfl, h⟩ := h
            refine ⟨_, rfl, ?_⟩
            show jEv nX8_like (54, [(0, .ref 67), (1, .int x1), (2, .int x2), (3, .int x3)], [], M26) K
            refine e_seg (k := 1) (d := (55, [(0, .ref 67), (1, .int x1), (2, .int x2), (3, .int x3)], [.int x3], M26)) rfl ?_
            refine e_if_ne (t := 67) (q := 58) hE rfl rfl rfl rfl (fun hbr => ?_) (fun hbr => ?_)
            · replace h := h.2 hbr
              refine e_seg (k := 3) (d := (72, [(0, .ref 67), (1, .int x1), (2, .int x2), (3, .int x3)], [.int x2, .ref 80], M26)) rfl ?_
              refine e_lald (q := 73) hE rfl rfl rfl rfl h.1 ?_
              replace h := h.2
              exact e_ret hE rfl rfl (jb_l rfl) h
            · replace h := h.1 hbr
              refine e_seg (k := 3) (d := (63, [(0, .ref 67), (1, .int x1), (2, .int x2), (3, .int x3)], [.int x2, .ref 79], M26)) rfl ?_
              refine e_lald (q := 64) hE rfl rfl rfl rfl h.1 ?_
              replace h := h.2
              refine e_seg (k := 1) (d := (73, [(0, .ref 67), (1, .int x1), (2, .int x2), (3, .int x3)], [.long (M26.2 79 x2.toNatClampNeg)], M26)) rfl ?_
              exact e_ret hE rfl rfl (jb_l rfl) h
          · replace h := h.2 hbr
            refine e_seg (k := 1) (d := (48, [(0, .ref 67), (1, .int x1), (2, .int x2), (3, .int x3)], [.long 0], M23)) rfl ?_
            exact e_ret hE rfl rfl (jb_l rfl) h
        · replace h := h.2 hbr
          refine e_seg (k := 1) (d := (28, [(0, .ref 67), (1, .int x1), (2, .int x2), (3, .int x3)], [.int x3, .ref 67], M10)) rfl ?_
          refine e_if_lt (t := 36) (q := 31) hE rfl rfl rfl rfl (fun hbr => ?_) (fun hbr => ?_)
          · replace h := h.1 hbr
            refine e_seg (k := 2) (d := (41, [(0, .ref 67), (1, .int x1), (2, .int x2), (3, .int x3)], [.int 1, .ref 67], M10)) rfl ?_
            refine e_call (q := 44) (L0 := [(0, .ref 67), (1, .int 1)]) hE rfl rfl rfl rfl (jargs_V rfl rfl rfl rfl rfl (Nat.le_of_ble_eq_true rfl) (Nat.le_of_ble_eq_true rfl) (Nat.le_of_ble_eq_true rfl)) rfl rfl (jEv.mono h (fun o27 M28 h => ?_))
            obtain ⟨r29, rfl, h⟩ := h
            refine ⟨_, rfl, ?_⟩
            show jEv nX8_like (44, [(0, .ref 67), (1, .int x1), (2, .int x2), (3, .int x3)], [.int r29], M28) K
            refine e_if_eq (t := 49) (q := 47) hE rfl rfl rfl rfl (fun hbr => ?_) (fun hbr => ?_)
            · replace h := h.1 hbr
              refine e_seg (k := 2) (d := (51, [(0, .ref 67), (1, .int x1), (2, .int x2), (3, .int x3)], [.int x1, .ref 67], M28)) rfl ?_
              refine e_call (q := 54) (L0 := [(0, .ref 67), (1, .int x1)]) hE rfl rfl rfl rfl (jargs_V rfl rfl rfl rfl rfl (Nat.le_of_ble_eq_true rfl) (Nat.le_of_ble_eq_true rfl) (Nat.le_of_ble_eq_true rfl)) rfl rfl (jEv.mono h (fun o30 M31 h => ?_))
              obtain ⟨rfl, h⟩ := h
              refine ⟨_, rfl, ?_⟩
              show jEv nX8_like (54, [(0, .ref 67), (1, .int x1), (2, .int x2), (3, .int x3)], [], M31) K
              refine e_seg (k := 1) (d := (55, [(0, .ref 67), (1, .int x1), (2, .int x2), (3, .int x3)], [.int x3], M31)) rfl ?_
              refine e_if_ne (t := 67) (q := 58) hE rfl rfl rfl rfl (fun hbr => ?_) (fun hbr => ?_)
              · replace h := h.2 hbr
                refine e_seg (k := 3) (d := (72, [(0, .ref 67), (1, .int x1), (2, .int x2), (3, .int x3)], [.int x2, .ref 80], M31)) rfl ?_
                refine e_lald (q := 73) hE rfl rfl rfl rfl h.1 ?_
                replace h := h.2
                exact e_ret hE rfl rfl (jb_l rfl) h
              · replace h := h.1 hbr
                refine e_seg (k := 3) (d := (63, [(0, .ref 67), (1, .int x1), (2, .int x2), (3, .int x3)], [.int x2, .ref 79], M31)) rfl ?_
                refine e_lald (q := 64) hE rfl rfl rfl rfl h.1 ?_
                replace h := h.2
                refine e_seg (k := 1) (d := (73, [(0, .ref 67), (1, .int x1), (2, .int x2), (3, .int x3)], [.long (M31.2 79 x2.toNatClampNeg)], M31)) rfl ?_
                exact e_ret hE rfl rfl (jb_l rfl) h
            · replace h := h.2 hbr
              refine e_seg (k := 1) (d := (48, [(0, .ref 67), (1, .int x1), (2, .int x2), (3, .int x3)], [.long 0], M28)) rfl ?_
              exact e_ret hE rfl rfl (jb_l rfl) h
          · replace h := h.2 hbr
            refine e_seg (k := 2) (d := (33, [(0, .ref 67), (1, .int x1), (2, .int x2), (3, .int x3)], [.int 1, .int x3, .ref 67], M10)) rfl ?_
            refine e_ic_le (t := 40) (q := 36) hE rfl rfl rfl rfl (fun hbr => ?_) (fun hbr => ?_)
            · replace h := h.1 hbr
              refine e_seg (k := 1) (d := (41, [(0, .ref 67), (1, .int x1), (2, .int x2), (3, .int x3)], [.int 0, .ref 67], M10)) rfl ?_
              refine e_call (q := 44) (L0 := [(0, .ref 67), (1, .int 0)]) hE rfl rfl rfl rfl (jargs_V rfl rfl rfl rfl rfl (Nat.le_of_ble_eq_true rfl) (Nat.le_of_ble_eq_true rfl) (Nat.le_of_ble_eq_true rfl)) rfl rfl (jEv.mono h (fun o32 M33 h => ?_))
              obtain ⟨r34, rfl, h⟩ := h
              refine ⟨_, rfl, ?_⟩
              show jEv nX8_like (44, [(0, .ref 67), (1, .int x1), (2, .int x2), (3, .int x3)], [.int r34], M33) K
              refine e_if_eq (t := 49) (q := 47) hE rfl rfl rfl rfl (fun hbr => ?_) (fun hbr => ?_)
              · replace h := h.1 hbr
                refine e_seg (k := 2) (d := (51, [(0, .ref 67), (1, .int x1), (2, .int x2), (3, .int x3)], [.int x1, .ref 67], M33)) rfl ?_
                refine e_call (q := 54) (L0 := [(0, .ref 67), (1, .int x1)]) hE rfl rfl rfl rfl (jargs_V rfl rfl rfl rfl rfl (Nat.le_of_ble_eq_true rfl) (Nat.le_of_ble_eq_true rfl) (Nat.le_of_ble_eq_true rfl)) rfl rfl (jEv.mono h (fun o35 M36 h => ?_))
                obtain ⟨rfl, h⟩ := h
                refine ⟨_, rfl, ?_⟩
                show jEv nX8_like (54, [(0, .ref 67), (1, .int x1), (2, .int x2), (3, .int x3)], [], M36) K
                refine e_seg (k := 1) (d := (55, [(0, .ref 67), (1, .int x1), (2, .int x2), (3, .int x3)], [.int x3], M36)) rfl ?_
                refine e_if_ne (t := 67) (q := 58) hE rfl rfl rfl rfl (fun hbr => ?_) (fun hbr => ?_)
                · replace h := h.2 hbr
                  refine e_seg (k := 3) (d := (72, [(0, .ref 67), (1, .int x1), (2, .int x2), (3, .int x3)], [.int x2, .ref 80], M36)) rfl ?_
                  refine e_lald (q := 73) hE rfl rfl rfl rfl h.1 ?_
                  replace h := h.2
                  exact e_ret hE rfl rfl (jb_l rfl) h
                · replace h := h.1 hbr
                  refine e_seg (k := 3) (d := (63, [(0, .ref 67), (1, .int x1), (2, .int x2), (3, .int x3)], [.int x2, .ref 79], M36)) rfl ?_
                  refine e_lald (q := 64) hE rfl rfl rfl rfl h.1 ?_
                  replace h := h.2
                  refine e_seg (k := 1) (d := (73, [(0, .ref 67), (1, .int x1), (2, .int x2), (3, .int x3)], [.long (M36.2 79 x2.toNatClampNeg)], M36)) rfl ?_
                  exact e_ret hE rfl rfl (jb_l rfl) h
              · replace h := h.2 hbr
                refine e_seg (k := 1) (d := (48, [(0, .ref 67), (1, .int x1), (2, .int x2), (3, .int x3)], [.long 0], M33)) rfl ?_
                exact e_ret hE rfl rfl (jb_l rfl) h
            · replace h := h.2 hbr
              refine e_seg (k := 2) (d := (41, [(0, .ref 67), (1, .int x1), (2, .int x2), (3, .int x3)], [.int 1, .ref 67], M10)) rfl ?_
              refine e_call (q := 44) (L0 := [(0, .ref 67), (1, .int 1)]) hE rfl rfl rfl rfl (jargs_V rfl rfl rfl rfl rfl (Nat.le_of_ble_eq_true rfl) (Nat.le_of_ble_eq_true rfl) (Nat.le_of_ble_eq_true rfl)) rfl rfl (jEv.mono h (fun o37 M38 h => ?_))
              obtain ⟨r39, rfl, h⟩ := h
              refine ⟨_, rfl, ?_⟩
              show jEv nX8_like (44, [(0, .ref 67), (1, .int x1), (2, .int x2), (3, .int x3)], [.int r39], M38) K
              refine e_if_eq (t := 49) (q := 47) hE rfl rfl rfl rfl (fun hbr => ?_) (fun hbr => ?_)
              · replace h := h.1 hbr
                refine e_seg (k := 2) (d := (51, [(0, .ref 67), (1, .int x1), (2, .int x2), (3, .int x3)], [.int x1, .ref 67], M38)) rfl ?_
                refine e_call (q := 54) (L0 := [(0, .ref 67), (1, .int x1)]) hE rfl rfl rfl rfl (jargs_V rfl rfl rfl rfl rfl (Nat.le_of_ble_eq_true rfl) (Nat.le_of_ble_eq_true rfl) (Nat.le_of_ble_eq_true rfl)) rfl rfl (jEv.mono h (fun o40 M41 h => ?_))
                obtain ⟨rfl, h⟩ := h
                refine ⟨_, rfl, ?_⟩
                show jEv nX8_like (54, [(0, .ref 67), (1, .int x1), (2, .int x2), (3, .int x3)], [], M41) K
                refine e_seg (k := 1) (d := (55, [(0, .ref 67), (1, .int x1), (2, .int x2), (3, .int x3)], [.int x3], M41)) rfl ?_
                refine e_if_ne (t := 67) (q := 58) hE rfl rfl rfl rfl (fun hbr => ?_) (fun hbr => ?_)
                · replace h := h.2 hbr
                  refine e_seg (k := 3) (d := (72, [(0, .ref 67), (1, .int x1), (2, .int x2), (3, .int x3)], [.int x2, .ref 80], M41)) rfl ?_
                  refine e_lald (q := 73) hE rfl rfl rfl rfl h.1 ?_
                  replace h := h.2
                  exact e_ret hE rfl rfl (jb_l rfl) h
                · replace h := h.1 hbr
                  refine e_seg (k := 3) (d := (63, [(0, .ref 67), (1, .int x1), (2, .int x2), (3, .int x3)], [.int x2, .ref 79], M41)) rfl ?_
                  refine e_lald (q := 64) hE rfl rfl rfl rfl h.1 ?_
                  replace h := h.2
                  refine e_seg (k := 1) (d := (73, [(0, .ref 67), (1, .int x1), (2, .int x2), (3, .int x3)], [.long (M41.2 79 x2.toNatClampNeg)], M41)) rfl ?_
                  exact e_ret hE rfl rfl (jb_l rfl) h
              · replace h := h.2 hbr
                refine e_seg (k := 1) (d := (48, [(0, .ref 67), (1, .int x1), (2, .int x2), (3, .int x3)], [.long 0], M38)) rfl ?_
                exact e_ret hE rfl rfl (jb_l rfl) h
set_option maxRecDepth 100000 in
set_option maxHeartbeats 4000000 in
theorem v_X8_same_0 {K : jK} {M : jM} {x1 : Int32} {x2 : Int32} (h : (∀ M1 : jM, M1 = jsi M 67 0 0 → (jEv nX8_hasRule (0, [(0, .ref 67), (1, .int x1)], [], M1) (fun o2 M3 => ∃ r4 : Int32, o2 = some (some (.int r4)) ∧ ((r4 = 0 → K (some (some (.int (-1)))) M3) ∧ (¬ r4 = 0 → (jEv nX8_hasRule (0, [(0, .ref 67), (1, .int x2)], [], M3) (fun o5 M6 => ∃ r7 : Int32, o5 = some (some (.int r7)) ∧ ((r7 = 0 → K (some (some (.int (-1)))) M6) ∧ (¬ r7 = 0 → (jEv nX8_isSteady (0, [(0, .ref 67), (1, .int x1)], [], M6) (fun o8 M9 => ∃ r10 : Int32, o8 = some (some (.int r10)) ∧ ((r10 = 0 → K (some (some (.int (-1)))) M9) ∧ (¬ r10 = 0 → (jEv nX8_isSteady (0, [(0, .ref 67), (1, .int x2)], [], M9) (fun o11 M12 => ∃ r13 : Int32, o11 = some (some (.int r13)) ∧ ((r13 = 0 → K (some (some (.int (-1)))) M12) ∧ (¬ r13 = 0 → (jEv nX8_likes (0, [(0, .ref 67), (1, .int x1)], [], M12) (fun o14 M15 => o14 = some none ∧ jEv nX8_same (46, [(0, .ref 67), (2, .int x2), (3, .int 0)], [], M15) K)))))))))))))))))))) : jEv nX8_same (0, [(0, .ref 67), (1, .int x1), (2, .int x2)], [], M) K := by
  have hE : jMT nX8_same = some me_X8_same := rfl
  refine e_seg (k := 2) (d := (2, [(0, .ref 67), (1, .int x1), (2, .int x2)], [.int 0, .ref 67], M)) rfl ?_
  refine e_put (q := 5) hE rfl rfl rfl rfl rfl rfl rfl ?_
  obtain ⟨M1, hM1⟩ : ∃ z : jM, z = jsi M 67 0 0 := ⟨_, rfl⟩
  refine jEv_M hM1 ?_
  replace h := h M1 hM1
  refine e_seg (k := 2) (d := (7, [(0, .ref 67), (1, .int x1), (2, .int x2)], [.int x1, .ref 67], M1)) rfl ?_
  refine e_call (q := 10) (L0 := [(0, .ref 67), (1, .int x1)]) hE rfl rfl rfl rfl (jargs_V rfl rfl rfl rfl rfl (Nat.le_of_ble_eq_true rfl) (Nat.le_of_ble_eq_true rfl) (Nat.le_of_ble_eq_true rfl)) rfl rfl (jEv.mono h (fun o2 M3 h => ?_))
  obtain ⟨r4, rfl, h⟩ := h
  refine ⟨_, rfl, ?_⟩
  show jEv nX8_same (10, [(0, .ref 67), (1, .int x1), (2, .int x2)], [.int r4], M3) K
  refine e_if_eq (t := 37) (q := 13) hE rfl rfl rfl rfl (fun hbr => ?_) (fun hbr => ?_)
  · replace h := h.1 hbr
    refine e_seg (k := 1) (d := (38, [(0, .ref 67), (1, .int x1), (2, .int x2)], [.int (-1)], M3)) rfl ?_
    exact e_ret hE rfl rfl (jb_i rfl) h
  · replace h := h.2 hbr
    refine e_seg (k := 2) (d := (15, [(0, .ref 67), (1, .int x1), (2, .int x2)], [.int x2, .ref 67], M3)) rfl ?_
    refine e_call (q := 18) (L0 := [(0, .ref 67), (1, .int x2)]) hE rfl rfl rfl rfl (jargs_V rfl rfl rfl rfl rfl (Nat.le_of_ble_eq_true rfl) (Nat.le_of_ble_eq_true rfl) (Nat.le_of_ble_eq_true rfl)) rfl rfl (jEv.mono h (fun o5 M6 h => ?_))
    obtain ⟨r7, rfl, h⟩ := h
    refine ⟨_, rfl, ?_⟩
    show jEv nX8_same (18, [(0, .ref 67), (1, .int x1), (2, .int x2)], [.int r7], M6) K
    refine e_if_eq (t := 37) (q := 21) hE rfl rfl rfl rfl (fun hbr => ?_) (fun hbr => ?_)
    · replace h := h.1 hbr
      refine e_seg (k := 1) (d := (38, [(0, .ref 67), (1, .int x1), (2, .int x2)], [.int (-1)], M6)) rfl ?_
      exact e_ret hE rfl rfl (jb_i rfl) h
    · replace h := h.2 hbr
      refine e_seg (k := 2) (d := (23, [(0, .ref 67), (1, .int x1), (2, .int x2)], [.int x1, .ref 67], M6)) rfl ?_
      refine e_call (q := 26) (L0 := [(0, .ref 67), (1, .int x1)]) hE rfl rfl rfl rfl (jargs_V rfl rfl rfl rfl rfl (Nat.le_of_ble_eq_true rfl) (Nat.le_of_ble_eq_true rfl) (Nat.le_of_ble_eq_true rfl)) rfl rfl (jEv.mono h (fun o8 M9 h => ?_))
      obtain ⟨r10, rfl, h⟩ := h
      refine ⟨_, rfl, ?_⟩
      show jEv nX8_same (26, [(0, .ref 67), (1, .int x1), (2, .int x2)], [.int r10], M9) K
      refine e_if_eq (t := 37) (q := 29) hE rfl rfl rfl rfl (fun hbr => ?_) (fun hbr => ?_)
      · replace h := h.1 hbr
        refine e_seg (k := 1) (d := (38, [(0, .ref 67), (1, .int x1), (2, .int x2)], [.int (-1)], M9)) rfl ?_
        exact e_ret hE rfl rfl (jb_i rfl) h
      · replace h := h.2 hbr
        refine e_seg (k := 2) (d := (31, [(0, .ref 67), (1, .int x1), (2, .int x2)], [.int x2, .ref 67], M9)) rfl ?_
        refine e_call (q := 34) (L0 := [(0, .ref 67), (1, .int x2)]) hE rfl rfl rfl rfl (jargs_V rfl rfl rfl rfl rfl (Nat.le_of_ble_eq_true rfl) (Nat.le_of_ble_eq_true rfl) (Nat.le_of_ble_eq_true rfl)) rfl rfl (jEv.mono h (fun o11 M12 h => ?_))
        obtain ⟨r13, rfl, h⟩ := h
        refine ⟨_, rfl, ?_⟩
        show jEv nX8_same (34, [(0, .ref 67), (1, .int x1), (2, .int x2)], [.int r13], M12) K
        refine e_if_ne (t := 39) (q := 37) hE rfl rfl rfl rfl (fun hbr => ?_) (fun hbr => ?_)
        · replace h := h.2 hbr
          refine e_seg (k := 2) (d := (41, [(0, .ref 67), (1, .int x1), (2, .int x2)], [.int x1, .ref 67], M12)) rfl ?_
          refine e_call (q := 44) (L0 := [(0, .ref 67), (1, .int x1)]) hE rfl rfl rfl rfl (jargs_V rfl rfl rfl rfl rfl (Nat.le_of_ble_eq_true rfl) (Nat.le_of_ble_eq_true rfl) (Nat.le_of_ble_eq_true rfl)) rfl rfl (jEv.mono h (fun o14 M15 h => ?_))
          obtain ⟨rfl, h⟩ := h
          refine ⟨_, rfl, ?_⟩
          show jEv nX8_same (44, [(0, .ref 67), (1, .int x1), (2, .int x2)], [], M15) K
          refine e_seg (k := 2) (d := (46, [(0, .ref 67), (1, .int x1), (2, .int x2), (3, .int 0)], [], M15)) rfl ?_
          refine e_cut (ks := [0, 2, 3]) (L' := [(0, .ref 67), (2, .int x2), (3, .int 0)]) hE rfl rfl rfl rfl rfl ?_
          exact h
        · replace h := h.1 hbr
          refine e_seg (k := 1) (d := (38, [(0, .ref 67), (1, .int x1), (2, .int x2)], [.int (-1)], M12)) rfl ?_
          exact e_ret hE rfl rfl (jb_i rfl) h
set_option maxRecDepth 100000 in
set_option maxHeartbeats 4000000 in
theorem v_X8_same_46 {K : jK} {M : jM} {x2 : Int32} {x3 : Int32} (h : ((9 ≤ x3 → (jEv nX8_likes (0, [(0, .ref 67), (1, .int x2)], [], M) (fun o1 M2 => o1 = some none ∧ jEv nX8_same (89, [(0, .ref 67), (3, .int 0)], [], M2) K))) ∧ (¬ 9 ≤ x3 → (¬ (x3 < 0 ∨ 9 ≤ x3.toNatClampNeg) ∧ (¬ (x3 < 0 ∨ 9 ≤ x3.toNatClampNeg) ∧ (∀ M3 : jM, M3 = jsl M 83 x3.toNatClampNeg (M.2 79 x3.toNatClampNeg) → (¬ (x3 < 0 ∨ 9 ≤ x3.toNatClampNeg) ∧ (¬ (x3 < 0 ∨ 9 ≤ x3.toNatClampNeg) ∧ (∀ M4 : jM, M4 = jsl M3 84 x3.toNatClampNeg (M3.2 80 x3.toNatClampNeg) → jEv nX8_same (46, [(0, .ref 67), (2, .int x2), (3, .int (x3 + 1))], [], M4) K))))))))) : jEv nX8_same (46, [(0, .ref 67), (2, .int x2), (3, .int x3)], [], M) K := by
  have hE : jMT nX8_same = some me_X8_same := rfl
  refine e_seg (k := 2) (d := (49, [(0, .ref 67), (2, .int x2), (3, .int x3)], [.int 9, .int x3], M)) rfl ?_
  refine e_ic_ge (t := 82) (q := 52) hE rfl rfl rfl rfl (fun hbr => ?_) (fun hbr => ?_)
  · replace h := h.1 hbr
    refine e_seg (k := 2) (d := (84, [(0, .ref 67), (2, .int x2), (3, .int x3)], [.int x2, .ref 67], M)) rfl ?_
    refine e_call (q := 87) (L0 := [(0, .ref 67), (1, .int x2)]) hE rfl rfl rfl rfl (jargs_V rfl rfl rfl rfl rfl (Nat.le_of_ble_eq_true rfl) (Nat.le_of_ble_eq_true rfl) (Nat.le_of_ble_eq_true rfl)) rfl rfl (jEv.mono h (fun o1 M2 h => ?_))
    obtain ⟨rfl, h⟩ := h
    refine ⟨_, rfl, ?_⟩
    show jEv nX8_same (87, [(0, .ref 67), (2, .int x2), (3, .int x3)], [], M2) K
    refine e_seg (k := 2) (d := (89, [(0, .ref 67), (2, .int x2), (3, .int 0)], [], M2)) rfl ?_
    refine e_cut (ks := [0, 3]) (L' := [(0, .ref 67), (3, .int 0)]) hE rfl rfl rfl rfl rfl ?_
    exact h
  · replace h := h.2 hbr
    refine e_seg (k := 6) (d := (62, [(0, .ref 67), (2, .int x2), (3, .int x3)], [.int x3, .ref 79, .int x3, .ref 83], M)) rfl ?_
    refine e_lald (q := 63) hE rfl rfl rfl rfl h.1 ?_
    replace h := h.2
    refine e_last (q := 64) hE rfl rfl rfl rfl h.1 ?_
    replace h := h.2
    obtain ⟨M3, hM3⟩ : ∃ z : jM, z = jsl M 83 x3.toNatClampNeg (M.2 79 x3.toNatClampNeg) := ⟨_, rfl⟩
    refine jEv_M hM3 ?_
    replace h := h M3 hM3
    refine e_seg (k := 6) (d := (74, [(0, .ref 67), (2, .int x2), (3, .int x3)], [.int x3, .ref 80, .int x3, .ref 84], M3)) rfl ?_
    refine e_lald (q := 75) hE rfl rfl rfl rfl h.1 ?_
    replace h := h.2
    refine e_last (q := 76) hE rfl rfl rfl rfl h.1 ?_
    replace h := h.2
    obtain ⟨M4, hM4⟩ : ∃ z : jM, z = jsl M3 84 x3.toNatClampNeg (M3.2 80 x3.toNatClampNeg) := ⟨_, rfl⟩
    refine jEv_M hM4 ?_
    replace h := h M4 hM4
    refine e_seg (k := 2) (d := (46, [(0, .ref 67), (2, .int x2), (3, .int (x3 + 1))], [], M4)) rfl ?_
    refine e_cut (ks := [0, 2, 3]) (L' := [(0, .ref 67), (2, .int x2), (3, .int (x3 + 1))]) hE rfl rfl rfl rfl rfl ?_
    exact h
set_option maxRecDepth 100000 in
set_option maxHeartbeats 4000000 in
theorem v_X8_same_89 {K : jK} {M : jM} {x3 : Int32} (h : ((9 ≤ x3 → K (some (some (.int 1))) M) ∧ (¬ 9 ≤ x3 → (¬ (x3 < 0 ∨ 9 ≤ x3.toNatClampNeg) ∧ (¬ (x3 < 0 ∨ 9 ≤ x3.toNatClampNeg) ∧ (((M.2 83 x3.toNatClampNeg) = (M.2 79 x3.toNatClampNeg) → (¬ (x3 < 0 ∨ 9 ≤ x3.toNatClampNeg) ∧ (¬ (x3 < 0 ∨ 9 ≤ x3.toNatClampNeg) ∧ (((M.2 84 x3.toNatClampNeg) = (M.2 80 x3.toNatClampNeg) → jEv nX8_same (89, [(0, .ref 67), (3, .int (x3 + 1))], [], M) K) ∧ (¬ ((M.2 84 x3.toNatClampNeg) = (M.2 80 x3.toNatClampNeg)) → K (some (some (.int 0))) M))))) ∧ (¬ (M.2 83 x3.toNatClampNeg) = (M.2 79 x3.toNatClampNeg) → K (some (some (.int 0))) M))))))) : jEv nX8_same (89, [(0, .ref 67), (3, .int x3)], [], M) K := by
  have hE : jMT nX8_same = some me_X8_same := rfl
  refine e_seg (k := 2) (d := (92, [(0, .ref 67), (3, .int x3)], [.int 9, .int x3], M)) rfl ?_
  refine e_ic_ge (t := 135) (q := 95) hE rfl rfl rfl rfl (fun hbr => ?_) (fun hbr => ?_)
  · replace h := h.1 hbr
    refine e_seg (k := 1) (d := (136, [(0, .ref 67), (3, .int x3)], [.int 1], M)) rfl ?_
    exact e_ret hE rfl rfl (jb_i rfl) h
  · replace h := h.2 hbr
    refine e_seg (k := 3) (d := (100, [(0, .ref 67), (3, .int x3)], [.int x3, .ref 83], M)) rfl ?_
    refine e_lald (q := 101) hE rfl rfl rfl rfl h.1 ?_
    replace h := h.2
    refine e_seg (k := 3) (d := (106, [(0, .ref 67), (3, .int x3)], [.int x3, .ref 79, .long (M.2 83 x3.toNatClampNeg)], M)) rfl ?_
    refine e_lald (q := 107) hE rfl rfl rfl rfl h.1 ?_
    replace h := h.2
    refine e_lc (t := 127) (q := 111) (pc1 := 108) hE rfl rfl rfl rfl rfl rfl (lc_ne (M.2 83 x3.toNatClampNeg) (M.2 79 x3.toNatClampNeg)) rfl rfl (fun hbr => ?_) (fun hbr => ?_)
    · replace h := h.2 hbr
      refine e_seg (k := 1) (d := (128, [(0, .ref 67), (3, .int x3)], [.int 0], M)) rfl ?_
      exact e_ret hE rfl rfl (jb_i rfl) h
    · replace h := h.1 (Classical.byContradiction hbr)
      refine e_seg (k := 3) (d := (116, [(0, .ref 67), (3, .int x3)], [.int x3, .ref 84], M)) rfl ?_
      refine e_lald (q := 117) hE rfl rfl rfl rfl h.1 ?_
      replace h := h.2
      refine e_seg (k := 3) (d := (122, [(0, .ref 67), (3, .int x3)], [.int x3, .ref 80, .long (M.2 84 x3.toNatClampNeg)], M)) rfl ?_
      refine e_lald (q := 123) hE rfl rfl rfl rfl h.1 ?_
      replace h := h.2
      refine e_lc (t := 129) (q := 127) (pc1 := 124) hE rfl rfl rfl rfl rfl rfl (lc_eq (M.2 84 x3.toNatClampNeg) (M.2 80 x3.toNatClampNeg)) rfl rfl (fun hbr => ?_) (fun hbr => ?_)
      · replace h := h.1 hbr
        refine e_seg (k := 2) (d := (89, [(0, .ref 67), (3, .int (x3 + 1))], [], M)) rfl ?_
        refine e_cut (ks := [0, 3]) (L' := [(0, .ref 67), (3, .int (x3 + 1))]) hE rfl rfl rfl rfl rfl ?_
        exact h
      · replace h := h.2 hbr
        refine e_seg (k := 1) (d := (128, [(0, .ref 67), (3, .int x3)], [.int 0], M)) rfl ?_
        exact e_ret hE rfl rfl (jb_i rfl) h
