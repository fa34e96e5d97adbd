/-! end, at: both -/
theorem nI_cases (x : Int32) : x < 0 ∨ ∃ j : Nat, j < 2 ^ 31 ∧ x = nI j := by
  by_cases h : x < 0
  · exact Or.inl h
  · exact Or.inr (nI_of h)
theorem op_end {M : jM} (h : iInv M) (x : Int32) : jBoth nX7_end nX8_end [(0, .ref 0), (1, .int x)] [(0, .ref 67), (1, .int x)] M := by
  obtain ⟨⟨n, t1, t2, t3, t4⟩, h2, h3, h4, h5, h6⟩ := id h
  have no : ∀ M1, iInv M1 → M1.1 67 2 = nI n → (x < 0 ∨ ¬ x ≤ nI n) → jEv nX8_end (0, [(0, .ref 67), (1, .int x)], [], M1) (fun o2 M2 => o2 = some (some (.int 0)) ∧ iInv M2) := by
    intro M1 g e hx
    refine v_X8_end_0 (fun M2 e2 => ?_)
    have g2 : iInv M2 := by rw [e2]; exact g.kp ((iKp.rfl' M1).si (by decide))
    have e3 : M2.1 67 2 = nI n := by rw [e2, jsi_at, if_neg (by decide)]; exact e
    refine ⟨fun _ => ⟨rfl, g2⟩, fun q => ⟨fun q2 => ?_, fun _ => ⟨rfl, g2⟩⟩⟩
    rw [e3] at q2
    exact (hx.elim (fun z => absurd z q) (fun z => absurd q2 z))
  refine v_X7_end_0 ⟨fun hx => ⟨0, rfl, no M h t3 (Or.inl hx)⟩, fun hx => ⟨fun q M1 e1 => ⟨1, rfl, ?_⟩, fun q => ⟨0, rfl, no M h t3 (Or.inr (by rw [t2] at q; exact q))⟩⟩⟩
  rw [t2] at q
  obtain ⟨j, hj, rfl⟩ := nI_of hx
  have hjn : j ≤ n := (nI_leI hj (by omega)).mp q
  refine v_X8_end_0 (fun M2 e2 => ?_)
  have e3 : M2.1 67 2 = nI n := by rw [e2, e1, jsi_at, if_neg (by decide), jsi_at, if_neg (by decide)]; exact t3
  refine ⟨fun z => absurd z hx, fun _ => ⟨fun _ M3 e4 => ⟨rfl, ?_⟩, fun z => absurd (by rw [e3]; exact q) z⟩⟩
  have k1 : ∀ a q, ¬ (a = 1 ∧ q = 1) → ¬ (a = 67 ∧ q = 2) → ¬ (a = 67 ∧ q = 0) → M3.1 a q = M.1 a q := by
    intro a q z1 z2 z3
    rw [e4, jsi_at, if_neg z2, e2, jsi_at, if_neg z3, e1, jsi_at, if_neg z1]
  have k2 : M3.2 = M.2 := by rw [e4, e2, e1]; rfl
  refine h.tape ⟨j, by omega, ?_, ?_, fun i hi => ?_⟩ (fun a k _ _ _ _ _ _ _ _ _ => k1 a k (by omega) (by omega) (by omega)) (fun a k _ => by rw [k2])
  · rw [e4, jsi_at, if_neg (by decide), e2, jsi_at, if_neg (by decide), e1, jsi_at, if_pos (by decide)]
  · rw [e4, jsi_at, if_pos (by decide)]
  · rw [k1 68 i (by omega) (by omega) (by omega), k1 2 i (by omega) (by omega) (by omega)]
    exact t4 i hi
theorem kp67 {M M1 : jM} (e : M1 = jsi M 67 0 0) : iKp M M1 := by rw [e]; exact (iKp.rfl' M).si (by decide)
theorem op_at {M : jM} (h : iInv M) (x : Int32) : jBoth nX7_at nX8_at [(0, .ref 0), (1, .int x)] [(0, .ref 67), (1, .int x)] M := by
  obtain ⟨n, r1, r2, r3, r4⟩ := h.2.2.2.1
  have no : (x < 0 ∨ ¬ x < nI n) → jEv nX8_at (0, [(0, .ref 67), (1, .int x)], [], M) (fun o2 M2 => o2 = some (some (.int 101)) ∧ iInv M2) := by
    intro hx
    refine v_X8_at_0 (fun M1 e1 => ?_)
    have g := h.kp (kp67 e1)
    have e3 : M1.1 67 27 = nI n := by rw [e1, jsi_at, if_neg (by decide)]; exact r3
    refine ⟨fun _ => ⟨rfl, g⟩, fun q => ⟨fun q2 => ?_, fun _ => ⟨rfl, g⟩⟩⟩
    rw [e3] at q2
    exact hx.elim (fun z => absurd z q) (fun z => absurd q2 z)
  refine v_X7_at_0 ⟨fun hx => ⟨101, rfl, no (Or.inl hx)⟩, fun hx => ⟨fun q => ?_, fun q => ⟨101, rfl, no (Or.inr (by rw [r2] at q; exact q))⟩⟩⟩
  rw [r2] at q
  obtain ⟨j, hj, rfl⟩ := nI_of hx
  have hjn : j < n := (nI_ltI hj (by omega)).mp q
  refine ⟨nI_in (by omega) (by omega), _, rfl, ?_⟩
  refine v_X8_at_0 (fun M1 e1 => ?_)
  have g := h.kp (kp67 e1)
  have e3 : M1.1 67 27 = nI n := by rw [e1, jsi_at, if_neg (by decide)]; exact r3
  refine ⟨fun z => absurd z hx, fun _ => ⟨fun _ => ⟨nI_in (by omega) (by omega), ?_, g⟩, fun z => absurd (by rw [e3]; exact q) z⟩⟩
  rw [nI_clamp hj, e1, jsi_at, if_neg (by omega), (r4 j hjn).1]
