/-! end, at: both -/
theorem nI_cases (x : Int32) : x < 0 ∨ ∃ j : Nat, j < 2 ^ 31 ∧ x = nI j := by
  by_cases h : x < 0
  · exact Or.inl h
  · exact Or.inr (nI_of h)
theorem op_end {M : jM} (h : iInv M) (x : Int32) : jBoth nX7_end nX8_end [(0, .ref 0), (1, .int x)] [(0, .ref 67), (1, .int x)] M := by
  obtain ⟨⟨n, t1, t2, t3, t4⟩, h2, h3, h4, h5, h6⟩ := id h
  have no : ∀ M1, iInv M1 → M1.1 67 2 = nI n → (x < 0 ∨ ¬ x ≤ nI n) → jEv nX8_end (0, [(0, .ref 67), (1, .int x)], [], M1) (fun o2 M2 => o2 = some (some (.int 0)) ∧ iInv M2) := by
    intro M1 g e hx
    refine v_X8_end_0 (fun M2 e2 => ?_)
    have g2 : iInv M2 := by rw [e2]; exact g.kp ((iKp.rfl' M1).si (by decide))
    have e3 : M2.1 67 2 = nI n := by rw [e2, jsi_at, if_neg (by decide)]; exact e
    refine ⟨fun _ => ⟨rfl, g2⟩, fun q => ⟨fun q2 => ?_, fun _ => ⟨rfl, g2⟩⟩⟩
    rw [e3] at q2
    exact (hx.elim (fun z => absurd z q) (fun z => absurd q2 z))
  refine v_X7_end_0 ⟨fun hx => ⟨0, rfl, no M h t3 (Or.inl hx)⟩, fun hx => ⟨fun q M1 e1 => ⟨1, rfl, ?_⟩, fun q => ⟨0, rfl, no M h t3 (Or.inr (by rw [t2] at q; exact q))⟩⟩⟩
  rw [t2] at q
  obtain ⟨j, hj, rfl⟩ := nI_of hx
  have hjn : j ≤ n := (nI_leI hj (by omega)).mp q
  refine v_X8_end_0 (fun M2 e2 => ?_)
  have e3 : M2.1 67 2 = nI n := by rw [e2, e1, jsi_at, if_neg (by decide), jsi_at, if_neg (by decide)]; exact t3
  refine ⟨fun z => absurd z hx, fun _ => ⟨fun _ M3 e4 => ⟨rfl, ?_⟩, fun z => absurd (by rw [e3]; exact q) z⟩⟩
  have k1 : ∀ a q, ¬ (a = 1 ∧ q = 1) → ¬ (a = 67 ∧ q = 2) → ¬ (a = 67 ∧ q = 0) → M3.1 a q = M.1 a q := by
    intro a q z1 z2 z3
    rw [e4, jsi_at, if_neg z2, e2, jsi_at, if_neg z3, e1, jsi_at, if_neg z1]
  have k2 : M3.2 = M.2 := by rw [e4, e2, e1]; rfl
  have k : ∀ {P : jM → Prop}, P (M3.1, M3.2) → P M3 := fun q => q
  refine ⟨⟨j, by omega, ?_, ?_, fun i hi => ?_⟩, ?_⟩
  · rw [e4, jsi_at, if_neg (by decide), e2, jsi_at, if_neg (by decide), e1, jsi_at, if_pos (by decide)]
  · rw [e4, jsi_at, if_pos (by decide)]
  · rw [k1 68 i (by omega) (by omega) (by omega), k1 2 i (by omega) (by omega) (by omega)]
    exact t4 i hi
  sorry
