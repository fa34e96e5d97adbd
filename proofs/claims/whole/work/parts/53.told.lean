/-! lower, filled: both -/
theorem m_thr1 {M : jM} {A B : jM → Prop} (h : B (jsi M 67 0 1)) : jEv nX8_throwsIf (0, [(0, .ref 67), (1, .int 1)], [], M) (fun o M2 => ∃ r : Int32, o = some (some (.int r)) ∧ ((r = 0 → A M2) ∧ (¬ r = 0 → B M2))) := by
  rw [(s_throwsIf1 M).iff]
  exact ⟨_, rfl, fun q => absurd q (by decide), fun _ => h⟩
theorem m_thr0 {M : jM} {A B : jM → Prop} (h : A (jsi M 67 0 0)) : jEv nX8_throwsIf (0, [(0, .ref 67), (1, .int 0)], [], M) (fun o M2 => ∃ r : Int32, o = some (some (.int r)) ∧ ((r = 0 → A M2) ∧ (¬ r = 0 → B M2))) := by
  rw [(s_throwsIf0 M).iff]
  exact ⟨_, rfl, fun _ => h, fun q => absurd rfl q⟩
theorem part_iff (x : Int32) : (x = 0 ∨ x = 1) ↔ (¬ x < 0 ∧ x ≤ 1) := by
  constructor
  · rintro (rfl | rfl)
    · exact ⟨by decide, by decide⟩
    · exact ⟨by decide, by decide⟩
  · rintro ⟨h1, h2⟩
    obtain ⟨j, hj, rfl⟩ := nI_of2 (M := 1) (n := 1) rfl h1 h2
    rcases (show j = 0 ∨ j = 1 by omega) with rfl | rfl
    · exact Or.inl rfl
    · exact Or.inr rfl
theorem thr_inv {M : jM} (h : iInv M) : ∃ b : Int64, some (some (Value.long 0)) = some (some (.long b)) ∧ (jsi M 67 0 1).1 67 0 = 1 ∧ iInv (jsi M 67 0 1) := ⟨0, rfl, by rw [jsi_at, if_pos (by decide)], h.kp (kp67v M 1)⟩
/-- what the model leaves where it tells a long that the law holds already -/
theorem told_inv {M : jM} (h : iInv M) (v : Int64) : (jsi (jsl M 97 0 v) 67 0 0).1 67 0 = 0 ∧ (jsi (jsl M 97 0 v) 67 0 0).2 97 0 = v ∧ iInv (jsi (jsl M 97 0 v) 67 0 0) := ⟨by rw [jsi_at, if_pos (by decide)], by rw [jsi_at2, jsl_at, if_pos (by decide)], (h.out v).kp (kp67v _ 0)⟩
theorem op_lower {M : jM} (h : iInv M) (x : Int32) : jBothX nX7_lower nX8_lower [(0, .ref 0), (1, .int x)] [(0, .ref 67), (1, .int x)] M := by
  have no : (M.1 67 36 = 0 ∨ ¬ (x = 0 ∨ x = 1)) → jEv nX8_lower (0, [(0, .ref 67), (1, .int x)], [], M) (fun o2 M2 => ∃ b : Int64, o2 = some (some (.long b)) ∧ M2.1 67 0 = 1 ∧ iInv M2) := by
    intro hc
    refine v_X8_lower_0 ⟨fun _ => m_thr1 (thr_inv h), fun q => ⟨fun _ => m_thr1 (thr_inv h), fun q2 => ⟨fun q3 => ?_, fun _ => m_thr1 (thr_inv h)⟩⟩⟩
    exact hc.elim (fun w => absurd w q) (fun w => absurd ((part_iff x).mpr ⟨q2, q3⟩) w)
  rcases h.2.2.2.2.2 with ⟨d1, d2⟩ | ⟨d1, d2, d3, d4⟩
  · exact v_X7_lower_0 ⟨fun _ => Or.inl ⟨rfl, no (Or.inl d1)⟩, fun q => absurd d2 q⟩
  · refine v_X7_lower_0 ⟨fun q => absurd (d2.symm.trans q) (by decide), fun _ => ?_⟩
    rw [e_isPart]
    by_cases hp : x = 0 ∨ x = 1
    · rw [if_pos hp]
      refine ⟨_, rfl, fun q => absurd q (by decide), fun _ => ?_⟩
      have md : ∀ v : Int64, (x = 0 → M.2 67 37 = v) → (¬ x = 0 → M.2 67 38 = v) → jEv nX8_lower (0, [(0, .ref 67), (1, .int x)], [], jsl M 97 0 v) (fun o2 M2 => o2 = some (some (.long v)) ∧ M2.1 67 0 = 0 ∧ M2.2 97 0 = v ∧ iInv M2) := by
        intro v v1 v2
        refine v_X8_lower_0 ⟨fun q => absurd (d1.symm.trans q) (by decide), fun _ => ⟨fun q => absurd q ((part_iff x).mp hp).1, fun _ => ⟨fun _ => m_thr0 ⟨fun w => ⟨?_, told_inv h v⟩, fun w => ⟨?_, told_inv h v⟩⟩, fun q => absurd ((part_iff x).mp hp).2 q⟩⟩⟩
        · rw [jsi_at2, jsl_at, if_neg (by decide), v1 w]
        · rw [jsi_at2, jsl_at, if_neg (by decide), v2 w]
      refine v_X1_part_0 (Or.inr (Or.inr (Or.inr (Or.inr (Or.inr rfl))))) ⟨fun w => ⟨_, rfl, Or.inr ⟨_, rfl, md _ (fun _ => d3.symm) (fun z => absurd w z)⟩⟩, fun w => ⟨_, rfl, Or.inr ⟨_, rfl, md _ (fun z => absurd z w) (fun _ => d4.symm)⟩⟩⟩
    · rw [if_neg hp]
      exact ⟨_, rfl, fun _ => Or.inl ⟨rfl, no (Or.inr hp)⟩, fun q => absurd rfl q⟩
theorem op_filled {M : jM} (h : iInv M) (y x : Int32) : jBothX nX7_filled nX8_filled [(0, .ref 0), (1, .int y), (2, .int x)] [(0, .ref 67), (1, .int y), (2, .int x)] M := by
  have no : (M.1 67 30 = 0 ∨ y < 0 ∨ M.1 67 31 ≤ y ∨ ¬ (x = 0 ∨ x = 1)) → jEv nX8_filled (0, [(0, .ref 67), (1, .int y), (2, .int x)], [], M) (fun o2 M2 => ∃ b : Int64, o2 = some (some (.long b)) ∧ M2.1 67 0 = 1 ∧ iInv M2) := by
    intro hc
    refine v_X8_filled_0 ⟨fun _ => m_thr1 (thr_inv h), fun q => ⟨fun _ => m_thr1 (thr_inv h), fun q2 => ⟨fun _ => m_thr1 (thr_inv h), fun q3 => ⟨fun _ => m_thr1 (thr_inv h), fun q4 => ⟨fun q5 => ?_, fun _ => m_thr1 (thr_inv h)⟩⟩⟩⟩⟩
    exact hc.elim (fun w => absurd w q) (fun w => w.elim (fun w => absurd w q2) (fun w => w.elim (fun w => absurd w q3) (fun w => absurd ((part_iff x).mpr ⟨q4, q5⟩) w)))
  rcases h.2.2.2.2.1 with ⟨d1, d2⟩ | ⟨d1, g, g1, g2, g3, g4, g5⟩
  · refine v_X7_filled_0 ⟨fun _ => Or.inl ⟨rfl, no (Or.inl d1)⟩, fun q => ⟨fun _ => Or.inl ⟨rfl, no (Or.inl d1)⟩, fun q2 => absurd (by rw [d2]; exact Int32.not_lt.mp q) q2⟩⟩
  · refine v_X7_filled_0 ⟨fun q => Or.inl ⟨rfl, no (Or.inr (Or.inl q))⟩, fun q => ⟨fun q2 => Or.inl ⟨rfl, no (Or.inr (Or.inr (Or.inl (by rw [g4, ← g3]; exact q2))))⟩, fun q2 => ?_⟩⟩
    rw [e_isPart]
    by_cases hp : x = 0 ∨ x = 1
    · rw [if_pos hp]
      obtain ⟨i, hi, rfl⟩ := nI_of q
      rw [g3] at q2
      have hig : i < g := Nat.not_le.mp (fun w => q2 (nI_le w hi))
      refine ⟨_, rfl, fun w => absurd w (by decide), fun _ => ⟨nI_in (by omega) (by omega), ?_⟩⟩
      rw [nI_clamp hi]
      obtain ⟨u1, u2⟩ := g5 i hig
      have hin := nI_in (c := i) (N := 3) (by omega) (by omega)
      have md : ∀ v : Int64, (x = 0 → M.2 94 i = v) → (¬ x = 0 → M.2 95 i = v) → jEv nX8_filled (0, [(0, .ref 67), (1, .int (nI i)), (2, .int x)], [], jsl M 97 0 v) (fun o2 M2 => o2 = some (some (.long v)) ∧ M2.1 67 0 = 0 ∧ M2.2 97 0 = v ∧ iInv M2) := by
        intro v v1 v2
        refine v_X8_filled_0 ⟨fun z => absurd (d1.symm.trans z) (by decide), fun _ => ⟨fun z => absurd z q, fun _ => ⟨fun z => absurd z (by rw [jsl_at1, g4]; exact q2), fun _ => ⟨fun z => absurd z ((part_iff x).mp hp).1, fun _ => ⟨fun _ => m_thr0 ⟨fun w => ⟨hin, ?_, told_inv h v⟩, fun w => ⟨hin, ?_, told_inv h v⟩⟩, fun z => absurd ((part_iff x).mp hp).2 z⟩⟩⟩⟩⟩
        · rw [nI_clamp hi, jsi_at2, jsl_at, if_neg (by omega), v1 w]
        · rw [nI_clamp hi, jsi_at2, jsl_at, if_neg (by omega), v2 w]
      have hf : jFr (63 + i) := by
        have := jFr_i (i := nI i) hin
        rw [nI_clamp hi] at this
        exact this
      refine v_X1_part_0 hf ⟨fun w => ⟨_, rfl, Or.inr ⟨_, rfl, md _ (fun _ => u1.symm) (fun z => absurd w z)⟩⟩, fun w => ⟨_, rfl, Or.inr ⟨_, rfl, md _ (fun z => absurd z w) (fun _ => u2.symm)⟩⟩⟩
    · rw [if_neg hp]
      exact ⟨_, rfl, fun _ => Or.inl ⟨rfl, no (Or.inr (Or.inr (Or.inr hp)))⟩, fun w => absurd rfl w⟩
