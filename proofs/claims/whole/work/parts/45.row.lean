/-! row and put: both -/
/-- the row has changed, and the tape, the marks of a filling, scratch -/
theorem iInv.row {M M' : jM} (h : iInv M) (t : iTape M') (r : iRow M') (f : M'.1 67 30 = 0 ∧ M'.1 0 13 = 0) (e : ∀ a k, a ≠ 1 → a ≠ 2 → a ≠ 68 → a ≠ 41 → a ≠ 42 → a ≠ 90 → ¬ (a = 67 ∧ (k = 0 ∨ k = 2 ∨ k = 27 ∨ k = 30)) → ¬ (a = 0 ∧ k = 13) → M'.1 a k = M.1 a k) (e2 : M'.2 = M.2) : iInv M' := by
  refine ⟨t, fun j hj => (h.2.1 j hj).cg fun a q z => e a q (by omega) (by omega) (by omega) (by omega) (by omega) (by omega) (by omega) (by omega), fun j hj => (h.2.2.1 j hj).cg fun a q z => e a q (by omega) (by omega) (by omega) (by omega) (by omega) (by omega) (by omega) (by omega), r, Or.inl f, ?_⟩
  exact h.2.2.2.2.2.cg (fun a q z => e a q (by omega) (by omega) (by omega) (by omega) (by omega) (by omega) (by omega) (by omega)) (fun a q z => by rw [e2])
theorem op_put {M : jM} (h : iInv M) (x y : Int32) : jBoth nX7_put nX8_put [(0, .ref 0), (1, .int x), (2, .int y)] [(0, .ref 67), (1, .int x), (2, .int y)] M := by
  obtain ⟨n, r1, r2, r3, r4⟩ := h.2.2.2.1
  -- what the model does where it refuses
  have no : ∀ M0, iInv M0 → M0.1 67 27 = nI n → ((x < 0 ∨ 60 ≤ x) ∨ nI n < x ∨ (¬ y = 100 ∧ (y < -20 ∨ ¬ y ≤ 20))) → jEv nX8_put (0, [(0, .ref 67), (1, .int x), (2, .int y)], [], M0) (fun o2 M2 => o2 = some (some (.int 0)) ∧ iInv M2) := by
    intro M0 g0 e0 hc
    refine v_X8_put_0 (fun M1 e1 => ?_)
    have g := g0.kp (kp67 e1)
    have e3 : M1.1 67 27 = nI n := by rw [e1, jsi_at, if_neg (by decide)]; exact e0
    rw [e3]
    refine ⟨fun _ => ⟨rfl, g⟩, fun q1 => ⟨fun _ => ⟨rfl, g⟩, fun q2 => ⟨fun _ => ⟨rfl, g⟩, fun q3 => ⟨fun q4 => ?_, fun q4 => ⟨fun _ => ⟨rfl, g⟩, fun q5 => ⟨fun q6 => ?_, fun _ => ⟨rfl, g⟩⟩⟩⟩⟩⟩⟩
    · exact hc.elim (fun z => absurd z (fun z => z.elim q1 q2)) (fun z => z.elim (fun z => absurd z q3) (fun z => absurd q4 z.1))
    · exact hc.elim (fun z => absurd z (fun z => z.elim q1 q2)) (fun z => z.elim (fun z => absurd z q3) (fun z => absurd z.2 (fun z => z.elim q5 (fun w => w q6))))
  -- what both do where they take it
  have yes : (0 ≤ x ∧ x ≤ 59) → x ≤ nI n → (y = 100 ∨ (-20 ≤ y ∧ y ≤ 20)) → jEv nX4_write (0, [(0, .ref 41), (1, .int x), (2, .int y)], [], M) (fun o4 M5 => o4 = some none ∧ (∀ M6 : jM, M6 = jsi M5 0 13 0 → ∃ r : Int32, some (some (Value.int 1)) = some (some (Value.int r)) ∧ jEv nX8_put (0, [(0, .ref 67), (1, .int x), (2, .int y)], [], M6) (fun o2 M2 => o2 = some (some (.int r)) ∧ iInv M2))) := by
    intro hx hn hy
    obtain ⟨j, hj, rfl⟩ := nI_of2 (M := 59) (n := 59) rfl (Int32.not_lt.mpr hx.1) hx.2
    have hjn : j ≤ n := (nI_leI (by omega) (by omega)).mp hn
    refine v_X4_write_0 ⟨nI_in (by omega) (by omega), fun M1 f1 M2 f2 => ⟨rfl, fun M3 f3 => ⟨1, rfl, ?_⟩⟩⟩
    rw [nI_clamp (by omega)] at f1
    have a1 : M1.1 41 2 = nI n := by rw [f1, jsi_at, if_neg (by decide)]; exact r2
    have a2 : M2.1 41 2 = nI (max n (j + 1)) := by
      rw [f2, jsi_at, if_pos (by decide), a1, nI_1]
      by_cases z : n < j + 1
      · rw [if_pos (nI_lt z (by omega)), Nat.max_eq_right (by omega)]
      · rw [if_neg (nI_nlt (by omega) (by omega)), Nat.max_eq_left (by omega)]
    refine v_X8_put_0 (fun M4 f4 => ?_)
    have b1 : M4.1 67 27 = nI n := by rw [f4, jsi_at, if_neg (by decide), f3, jsi_at, if_neg (by decide), f2, jsi_at, if_neg (by decide), f1, jsi_at, if_neg (by omega)]; exact r3
    -- the model's end, after the place is written
    have fin : ∀ M5, M5 = jsi M4 90 j y → ((nI j = M5.1 67 27 → (∀ M6 : jM, M6 = jsi M5 67 27 (M5.1 67 27 + 1) → (∀ M7 : jM, M7 = jsi M6 67 30 0 → some (some (Value.int 1)) = some (some (Value.int 1)) ∧ iInv M7))) ∧ (¬ nI j = M5.1 67 27 → (∀ M6 : jM, M6 = jsi M5 67 30 0 → some (some (Value.int 1)) = some (some (Value.int 1)) ∧ iInv M6))) := by
      intro M5 f5
      have c1 : M5.1 67 27 = nI n := by rw [f5, jsi_at, if_neg (by omega)]; exact b1
      have key : ∀ M7 : jM, M7.1 67 27 = nI (max n (j + 1)) → M7.1 67 30 = 0 → (∀ a k, ¬ (a = 67 ∧ (k = 27 ∨ k = 30)) → M7.1 a k = M5.1 a k) → M7.2 = M5.2 → iInv M7 := by
        intro M7 d1 d2 d3 d4
        have d5 : ∀ a k, ¬ (a = 67 ∧ (k = 0 ∨ k = 27 ∨ k = 30)) → ¬ (a = 0 ∧ k = 13) → a ≠ 41 → a ≠ 42 → a ≠ 90 → M7.1 a k = M.1 a k := by
          intro a k z1 z2 z3 z4 z5
          rw [d3 a k (by omega), f5, jsi_at, if_neg (by omega), f4, jsi_at, if_neg (by omega), f3, jsi_at, if_neg (by omega), f2, jsi_at, if_neg (by omega), f1, jsi_at, if_neg (by omega)]
        refine h.row (h.1.cg fun a k z => d5 a k (by omega) (by omega) (by omega) (by omega) (by omega)) ⟨max n (j + 1), by omega, ?_, d1, fun t ht => ?_⟩ ⟨d2, ?_⟩ (fun a k z1 z2 z3 z4 z5 z6 z7 z8 => d5 a k (by omega) (by omega) (by omega) (by omega) (by omega)) ?_
        · rw [d3 41 2 (by omega), f5, jsi_at, if_neg (by omega), f4, jsi_at, if_neg (by omega), f3, jsi_at, if_neg (by omega)]
          exact a2
        · rw [d3 42 t (by omega), d3 90 t (by omega), f5, jsi_at, if_neg (by omega), jsi_at, f4, jsi_at, if_neg (by omega), jsi_at, if_neg (by omega), f3, jsi_at, if_neg (by omega), jsi_at, if_neg (by omega), f2, jsi_at, if_neg (by omega), jsi_at, if_neg (by omega), f1, jsi_at, jsi_at, if_neg (by omega)]
          by_cases hz : t = j
          · subst hz
            rw [if_pos ⟨rfl, rfl⟩, if_pos ⟨rfl, rfl⟩]
            refine ⟨rfl, hy.imp id (fun w => ?_)⟩
            exact ⟨Int32.le_iff_toInt_le.mp w.1, Int32.le_iff_toInt_le.mp w.2⟩
          · rw [if_neg (by omega), if_neg (by omega)]
            exact r4 t (by omega)
        · rw [d3 0 13 (by omega), f5, jsi_at, if_neg (by omega), f4, jsi_at, if_neg (by omega), f3, jsi_at, if_pos (by decide)]
        · rw [d4, f5, f4, f3, f2, f1]; rfl
      rw [c1]
      refine ⟨fun z M6 f6 M7 f7 => ⟨rfl, ?_⟩, fun z M6 f6 => ⟨rfl, ?_⟩⟩
      · have zz : j = n := (nI_eq (by omega) (by omega)).mp z
        refine key M7 ?_ ?_ (fun a k w => ?_) (by rw [f7, f6]; rfl)
        · rw [f7, jsi_at, if_neg (by decide), f6, jsi_at, if_pos (by decide), nI_1, Nat.max_eq_right (by omega), zz]
        · rw [f7, jsi_at, if_pos (by decide)]
        · rw [f7, jsi_at, if_neg (by omega), f6, jsi_at, if_neg (by omega)]
      · have zz : ¬ j = n := fun w => z ((nI_eq (by omega) (by omega)).mpr w)
        refine key M6 ?_ ?_ (fun a k w => ?_) (by rw [f6]; rfl)
        · rw [f6, jsi_at, if_neg (by decide), c1, Nat.max_eq_left (by omega)]
        · rw [f6, jsi_at, if_pos (by decide)]
        · rw [f6, jsi_at, if_neg (by omega)]
    rw [b1, nI_clamp (by omega)]
    refine ⟨fun z => absurd z (Int32.not_lt.mpr hx.1), fun _ => ⟨fun z => absurd z (nI_ge (b := 60) (by omega) (by omega)), fun _ => ⟨fun z => absurd z (Int32.not_lt.mpr hn), fun _ => ⟨fun _ => ⟨?_, fin⟩, fun q4 => ?_⟩⟩⟩⟩
    · rw [← nI_clamp (n := j) (by omega)]; rw [nI_clamp (by omega)]; exact (nI_clamp (n := j) (by omega)) ▸ nI_in (by omega) (by omega)
    · have hy2 : -20 ≤ y ∧ y ≤ 20 := hy.elim (fun w => absurd w q4) id
      refine ⟨fun z => absurd z (Int32.not_lt.mpr hy2.1), fun _ => ⟨fun _ => ⟨?_, fin⟩, fun z => absurd hy2.2 z⟩⟩
      exact (nI_clamp (n := j) (by omega)) ▸ nI_in (by omega) (by omega)
  refine v_X7_put_0 ?_
  rw [e_isWithin]
  refine ⟨_, rfl, fun q => ?_, fun q => ?_⟩
  · refine ⟨0, rfl, no M h r3 (Or.inl ?_)⟩
    sorry
  · sorry
