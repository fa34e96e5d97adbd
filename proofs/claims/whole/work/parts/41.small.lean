/-! small methods of the class: what they answer -/
theorem s_isWithin (M : jM) (x a b : Int32) : jTo nX7_isWithin (0, [(0, .int x), (1, .int a), (2, .int b)], [], M) (some (some (.int (if a ≤ x ∧ x ≤ b then 1 else 0)))) M := by
  refine v_X7_isWithin_0 ⟨fun h => ⟨?_, rfl⟩, fun h => ⟨fun h2 => ⟨?_, rfl⟩, fun h2 => ⟨?_, rfl⟩⟩⟩
  · rw [if_neg (fun q => absurd h (Int32.not_lt.mpr q.1))]
  · rw [if_neg (fun q => absurd h2 (Int32.not_lt.mpr q.2))]
  · rw [if_pos ⟨Int32.not_lt.mp h, Int32.not_lt.mp h2⟩]
theorem e_isWithin {M : jM} {x a b : Int32} {K : jK} : jEv nX7_isWithin (0, [(0, .int x), (1, .int a), (2, .int b)], [], M) K ↔ K (some (some (.int (if a ≤ x ∧ x ≤ b then 1 else 0)))) M := (s_isWithin M x a b).iff K
theorem s_isSlot (M : jM) (x : Int32) : jTo nX7_isSlot (0, [(0, .int x)], [], M) (some (some (.int (if 0 ≤ x ∧ x ≤ 5 then 1 else 0)))) M := by
  refine v_X7_isSlot_0 ?_
  rw [e_isWithin]
  refine ⟨_, rfl, ?_, rfl, rfl⟩
  split
  · exact Or.inr rfl
  · exact Or.inl rfl
theorem e_isSlot {M : jM} {x : Int32} {K : jK} : jEv nX7_isSlot (0, [(0, .int x)], [], M) K ↔ K (some (some (.int (if 0 ≤ x ∧ x ≤ 5 then 1 else 0)))) M := (s_isSlot M x).iff K
theorem s_isPart (M : jM) (x : Int32) : jTo nX7_isPart (0, [(0, .int x)], [], M) (some (some (.int (if x = 0 ∨ x = 1 then 1 else 0)))) M := by
  refine v_X7_isPart_0 ⟨fun h => ⟨?_, rfl⟩, fun h => ⟨fun h2 => ⟨?_, rfl⟩, fun h2 => ⟨?_, rfl⟩⟩⟩
  · rw [if_pos (Or.inl h)]
  · rw [if_pos (Or.inr h2)]
  · rw [if_neg (fun q => q.elim h h2)]
theorem e_isPart {M : jM} {x : Int32} {K : jK} : jEv nX7_isPart (0, [(0, .int x)], [], M) K ↔ K (some (some (.int (if x = 0 ∨ x = 1 then 1 else 0)))) M := (s_isPart M x).iff K
/-- a slot's number is in range, or it is none -/
theorem slot_cases (x : Int32) : (∃ j : Nat, j < 6 ∧ x = nI j) ∨ ¬ (0 ≤ x ∧ x ≤ 5) := by
  by_cases h : 0 ≤ x ∧ x ≤ 5
  · left
    obtain ⟨h1, h2⟩ := h
    obtain ⟨j, h3, h4⟩ := nI_of2 (M := 5) (n := 5) rfl (Int32.not_lt.mpr h1) h2
    exact ⟨j, by omega, h4⟩
  · exact Or.inr h
theorem slot_in {j : Nat} (h : j < 6) : (0 ≤ nI j ∧ nI j ≤ 5) ∧ ¬ (nI j < 0 ∨ 6 ≤ (nI j).toNatClampNeg) ∧ (nI j).toNatClampNeg = j := by
  have e : (nI j).toNatClampNeg = j := nI_clamp (by omega)
  refine ⟨⟨nI_pos' (by omega), ?_⟩, ?_, e⟩
  · exact (nI_leI (a := j) (b := 5) (by omega) (by omega)).mpr (by omega)
  · rintro (h1 | h1)
    · exact nI_pos (by omega) h1
    · rw [e] at h1; omega
theorem s_toldRule_no (M : jM) {x : Int32} (h : ¬ (0 ≤ x ∧ x ≤ 5)) : jTo nX7_toldRule (0, [(0, .ref 0), (1, .int x)], [], M) (some (some .null)) M := by
  refine v_X7_toldRule_0 ?_
  rw [e_isSlot]
  refine ⟨_, rfl, fun _ => ⟨rfl, rfl⟩, fun q => ?_⟩
  rw [if_neg h] at q
  exact absurd rfl q
theorem s_toldRule (M : jM) {j : Nat} (h : j < 6) : jTo nX7_toldRule (0, [(0, .ref 0), (1, .int (nI j))], [], M) (some (some (if M.1 (4 + 4 * j) 0 = 0 then .null else .ref (4 + 4 * j)))) M := by
  obtain ⟨h1, h2, h3⟩ := slot_in h
  refine v_X7_toldRule_0 ?_
  rw [e_isSlot, if_pos h1]
  refine ⟨_, rfl, fun q => absurd q (by decide), fun _ => ⟨h2, ?_⟩⟩
  rw [h3]
  refine ⟨fun q => ⟨by rw [if_pos q], rfl⟩, fun q => ⟨by rw [h3] at h2; exact h2, by rw [if_neg q], rfl⟩⟩
theorem s_toldLik_no (M : jM) {x : Int32} (h : ¬ (0 ≤ x ∧ x ≤ 5)) : jTo nX7_toldLikenesses (0, [(0, .ref 0), (1, .int x)], [], M) (some (some .null)) M := by
  refine v_X7_toldLikenesses_0 ?_
  rw [e_isSlot]
  refine ⟨_, rfl, fun _ => ⟨rfl, rfl⟩, fun q => ?_⟩
  rw [if_neg h] at q
  exact absurd rfl q
theorem s_toldLik (M : jM) {j : Nat} (h : j < 6) : jTo nX7_toldLikenesses (0, [(0, .ref 0), (1, .int (nI j))], [], M) (some (some (if M.1 (29 + 2 * j) 1 = 0 then .null else .ref (29 + 2 * j)))) M := by
  obtain ⟨h1, h2, h3⟩ := slot_in h
  refine v_X7_toldLikenesses_0 ?_
  rw [e_isSlot, if_pos h1]
  refine ⟨_, rfl, fun q => absurd q (by decide), fun _ => ⟨h2, ?_⟩⟩
  rw [h3]
  refine ⟨fun q => ⟨by rw [if_pos q], rfl⟩, fun q => ⟨by rw [h3] at h2; exact h2, by rw [if_neg q], rfl⟩⟩
theorem jRu_n {j : Nat} (h : j < 6) : jRu (4 + 4 * j) := ⟨j, h, rfl⟩
theorem jLi_n {j : Nat} (h : j < 6) : jLi (29 + 2 * j) := ⟨j, h, rfl⟩
/-- powers by multiplying -/
def pwL (x : Int64) : Nat → Int64
  | 0 => 1
  | n + 1 => pwL x n * x
theorem s_power_loop (M : jM) (x : Int64) {n : Nat} (hn : n < 2 ^ 31) : ∀ (d i : Nat), i + d = n → jTo nX7_power (5, [(0, .long x), (2, .int (nI n)), (3, .long (pwL x i)), (5, .int (nI i))], [], M) (some (some (.long (pwL x n)))) M := by
  intro d
  induction d with
  | zero =>
    intro i hi
    have : i = n := by omega
    subst this
    exact v_X7_power_5 ⟨fun _ => ⟨rfl, rfl⟩, fun q => absurd (Int32.le_refl _) q⟩
  | succ d ih =>
    intro i hi
    refine v_X7_power_5 ⟨fun q => absurd q (nI_ge (by omega) hn), fun _ => ?_⟩
    rw [nI_1]
    exact ih (i + 1) (by omega)
theorem s_power (M : jM) (x : Int64) {n : Nat} (hn : n < 2 ^ 31) : jTo nX7_power (0, [(0, .long x), (2, .int (nI n))], [], M) (some (some (.long (pwL x n)))) M :=
  v_X7_power_0 (s_power_loop M x hn n 0 (by omega))
/-! end: both -/
theorem jsi_at (M : jM) (a k : Nat) (v : Int32) (b q : Nat) : (jsi M a k v).1 b q = if b = a ∧ q = k then v else M.1 b q := rfl
theorem jsl_at (M : jM) (a k : Nat) (v : Int64) (b q : Nat) : (jsl M a k v).2 b q = if b = a ∧ q = k then v else M.2 b q := rfl
theorem jsi_at2 (M : jM) (a k : Nat) (v : Int32) (b q : Nat) : (jsi M a k v).2 b q = M.2 b q := rfl
theorem jsl_at1 (M : jM) (a k : Nat) (v : Int64) (b q : Nat) : (jsl M a k v).1 b q = M.1 b q := rfl
