/-! counts: both -/
def cN (p : Nat → Bool) : Nat → Nat
  | 0 => 0
  | n + 1 => cN p n + (if p n then 1 else 0)
theorem cN_le (p : Nat → Bool) : ∀ n, cN p n ≤ n
  | 0 => Nat.le_refl 0
  | n + 1 => by
    have := cN_le p n
    unfold cN
    split <;> omega
theorem cN_congr {p q : Nat → Bool} : ∀ {n : Nat}, (∀ i, i < n → p i = q i) → cN p n = cN q n
  | 0, _ => rfl
  | n + 1, h => by unfold cN; rw [cN_congr (fun i hi => h i (by omega)), h n (by omega)]
theorem cN_yes {p : Nat → Bool} {n : Nat} (h : p n = true) : nI (cN p n) + 1 = nI (cN p (n + 1)) := by
  rw [nI_1]; show _ = nI (cN p n + _); rw [h]; rfl
theorem cN_no {p : Nat → Bool} {n : Nat} (h : p n = false) : nI (cN p n) + 0 = nI (cN p (n + 1)) := by
  rw [show (0 : Int32) = nI 0 from rfl, nI_add]; show _ = nI (cN p n + _); rw [h]; rfl
theorem c_gapCount (M : jM) {n : Nat} (hn : n ≤ 60) (e : M.1 41 2 = nI n) : ∀ (r i : Nat), i + r = n → jTo nX4_gapCount (4, [(0, .ref 41), (1, .int (nI (cN (fun t => decide (M.1 42 t = 100)) i))), (2, .int (nI i))], [], M) (some (some (.int (nI (cN (fun t => decide (M.1 42 t = 100)) n))))) M := by
  intro r
  induction r with
  | zero =>
    intro i hi
    have : i = n := by omega
    subst this
    exact v_X4_gapCount_4 ⟨fun _ => ⟨rfl, rfl⟩, fun q => absurd (by rw [e]; exact Int32.le_refl _) q⟩
  | succ r ih =>
    intro i hi
    have hc : (nI i).toNatClampNeg = i := nI_clamp (by omega)
    refine v_X4_gapCount_4 ⟨fun q => absurd q (by rw [e]; exact nI_ge (by omega) (by omega)), fun _ => ⟨nI_in (by omega) (by omega), ?_⟩⟩
    rw [hc]
    refine ⟨fun q => ?_, fun q => ?_⟩
    · rw [cN_yes (p := (fun t => decide (M.1 42 t = 100))) (by simp [q]), nI_1]
      exact ih (i + 1) (by omega)
    · rw [cN_no (p := (fun t => decide (M.1 42 t = 100))) (by simp [q]), nI_1]
      exact ih (i + 1) (by omega)
theorem c_gaps (M : jM) {n : Nat} (hn : n ≤ 60) (e : M.1 67 27 = nI n) : ∀ (r i : Nat), i + r = n → jTo nX8_gaps (4, [(0, .ref 67), (1, .int (nI (cN (fun t => decide (M.1 90 t = 100)) i))), (2, .int (nI i))], [], M) (some (some (.int (nI (cN (fun t => decide (M.1 90 t = 100)) n))))) M := by
  intro r
  induction r with
  | zero =>
    intro i hi
    have : i = n := by omega
    subst this
    exact v_X8_gaps_4 ⟨fun _ => ⟨rfl, rfl⟩, fun q => absurd (by rw [e]; exact Int32.le_refl _) q⟩
  | succ r ih =>
    intro i hi
    have hc : (nI i).toNatClampNeg = i := nI_clamp (by omega)
    refine v_X8_gaps_4 ⟨fun q => absurd q (by rw [e]; exact nI_ge (by omega) (by omega)), fun _ => ⟨nI_in (by omega) (by omega), ?_⟩⟩
    rw [hc]
    refine ⟨fun q => ?_, fun q => ?_⟩
    · rw [cN_yes (p := (fun t => decide (M.1 90 t = 100))) (by simp [q]), nI_1]
      exact ih (i + 1) (by omega)
    · rw [cN_no (p := (fun t => decide (M.1 90 t = 100))) (by simp [q]), nI_1]
      exact ih (i + 1) (by omega)
theorem c_ruleCount (M : jM) {n : Nat} (hn : n ≤ 6) (e : n = 6) : ∀ (r i : Nat), i + r = n → jTo nX7_ruleCount (4, [(0, .ref 0), (1, .int (nI (cN (fun j => !decide (M.1 (4 + 4 * j) 0 = 0)) i))), (2, .int (nI i))], [], M) (some (some (.int (nI (cN (fun j => !decide (M.1 (4 + 4 * j) 0 = 0)) n))))) M := by
  intro r
  induction r with
  | zero =>
    intro i hi
    have : i = n := by omega
    subst this
    exact v_X7_ruleCount_4 ⟨fun _ => ⟨rfl, rfl⟩, fun q => absurd (by rw [show (6 : Int32) = nI 6 from rfl, ← e]; exact Int32.le_refl _) q⟩
  | succ r ih =>
    intro i hi
    have hc : (nI i).toNatClampNeg = i := nI_clamp (by omega)
    refine v_X7_ruleCount_4 ⟨fun q => absurd q (by rw [show (6 : Int32) = nI 6 from rfl, ← e]; exact nI_ge (by omega) (by omega)), fun _ => ⟨nI_in (by omega) (by omega), ?_⟩⟩
    rw [hc]
    refine ⟨fun q => ?_, fun q => ?_⟩
    · rw [cN_no (p := (fun j => !decide (M.1 (4 + 4 * j) 0 = 0))) (by simp [q]), nI_1]
      exact ih (i + 1) (by omega)
    · rw [cN_yes (p := (fun j => !decide (M.1 (4 + 4 * j) 0 = 0))) (by simp [q]), nI_1]
      exact ih (i + 1) (by omega)
theorem c_likCount (M : jM) {n : Nat} (hn : n ≤ 6) (e : n = 6) : ∀ (r i : Nat), i + r = n → jTo nX7_likenessesCount (4, [(0, .ref 0), (1, .int (nI (cN (fun j => !decide (M.1 (29 + 2 * j) 1 ≤ 0)) i))), (2, .int (nI i))], [], M) (some (some (.int (nI (cN (fun j => !decide (M.1 (29 + 2 * j) 1 ≤ 0)) n))))) M := by
  intro r
  induction r with
  | zero =>
    intro i hi
    have : i = n := by omega
    subst this
    exact v_X7_likenessesCount_4 ⟨fun _ => ⟨rfl, rfl⟩, fun q => absurd (by rw [show (6 : Int32) = nI 6 from rfl, ← e]; exact Int32.le_refl _) q⟩
  | succ r ih =>
    intro i hi
    have hc : (nI i).toNatClampNeg = i := nI_clamp (by omega)
    refine v_X7_likenessesCount_4 ⟨fun q => absurd q (by rw [show (6 : Int32) = nI 6 from rfl, ← e]; exact nI_ge (by omega) (by omega)), fun _ => ⟨nI_in (by omega) (by omega), ?_⟩⟩
    rw [hc]
    refine ⟨fun q => ?_, fun q => ?_⟩
    · rw [cN_no (p := (fun j => !decide (M.1 (29 + 2 * j) 1 ≤ 0))) (by simp [q]), nI_1]
      exact ih (i + 1) (by omega)
    · rw [cN_yes (p := (fun j => !decide (M.1 (29 + 2 * j) 1 ≤ 0))) (by simp [q]), nI_1]
      exact ih (i + 1) (by omega)
theorem c_mCount0 (M : jM) {n : Nat} (hn : n ≤ 6) (e : n = 6) : ∀ (r i : Nat), i + r = n → jTo nX8_count (46, [(0, .ref 67), (2, .int (nI (cN (fun j => !decide (M.1 69 j = 0)) i))), (3, .int (nI i))], [], M) (some (some (.int (nI (cN (fun j => !decide (M.1 69 j = 0)) n))))) M := by
  intro r
  induction r with
  | zero =>
    intro i hi
    have : i = n := by omega
    subst this
    exact v_X8_count_46 ⟨fun _ => ⟨rfl, rfl⟩, fun q => absurd (by rw [show (6 : Int32) = nI 6 from rfl, ← e]; exact Int32.le_refl _) q⟩
  | succ r ih =>
    intro i hi
    have hc : (nI i).toNatClampNeg = i := nI_clamp (by omega)
    refine v_X8_count_46 ⟨fun q => absurd q (by rw [show (6 : Int32) = nI 6 from rfl, ← e]; exact nI_ge (by omega) (by omega)), fun _ => ⟨nI_in (by omega) (by omega), ?_⟩⟩
    rw [hc]
    refine ⟨fun q => ?_, fun q => ?_⟩
    · rw [cN_no (p := (fun j => !decide (M.1 69 j = 0))) (by simp [q]), nI_1]
      exact ih (i + 1) (by omega)
    · rw [cN_yes (p := (fun j => !decide (M.1 69 j = 0))) (by simp [q]), nI_1]
      exact ih (i + 1) (by omega)
theorem c_mCount1 (M : jM) {n : Nat} (hn : n ≤ 6) (e : n = 6) : ∀ (r i : Nat), i + r = n → jTo nX8_count (79, [(0, .ref 67), (2, .int (nI (cN (fun j => !decide (M.1 86 j ≤ 0)) i))), (3, .int (nI i))], [], M) (some (some (.int (nI (cN (fun j => !decide (M.1 86 j ≤ 0)) n))))) M := by
  intro r
  induction r with
  | zero =>
    intro i hi
    have : i = n := by omega
    subst this
    exact v_X8_count_79 ⟨fun _ => ⟨rfl, rfl⟩, fun q => absurd (by rw [show (6 : Int32) = nI 6 from rfl, ← e]; exact Int32.le_refl _) q⟩
  | succ r ih =>
    intro i hi
    have hc : (nI i).toNatClampNeg = i := nI_clamp (by omega)
    refine v_X8_count_79 ⟨fun q => absurd q (by rw [show (6 : Int32) = nI 6 from rfl, ← e]; exact nI_ge (by omega) (by omega)), fun _ => ⟨nI_in (by omega) (by omega), ?_⟩⟩
    rw [hc]
    refine ⟨fun q => ?_, fun q => ?_⟩
    · rw [cN_no (p := (fun j => !decide (M.1 86 j ≤ 0))) (by simp [q]), nI_1]
      exact ih (i + 1) (by omega)
    · rw [cN_yes (p := (fun j => !decide (M.1 86 j ≤ 0))) (by simp [q]), nI_1]
      exact ih (i + 1) (by omega)
theorem s_gapCount (M : jM) {n : Nat} (hn : n ≤ 60) (e : M.1 41 2 = nI n) : jTo nX4_gapCount (0, [(0, .ref 41)], [], M) (some (some (.int (nI (cN (fun t => decide (M.1 42 t = 100)) n))))) M := v_X4_gapCount_0 (c_gapCount M hn e n 0 (by omega))
theorem s_gaps (M : jM) {n : Nat} (hn : n ≤ 60) (e : M.1 67 27 = nI n) : jTo nX8_gaps (0, [(0, .ref 67)], [], M) (some (some (.int (nI (cN (fun t => decide (M.1 90 t = 100)) n))))) M := v_X8_gaps_0 (c_gaps M hn e n 0 (by omega))
theorem op_count {M : jM} (h : iInv M) (x : Int32) : jBoth nX7_count nX8_count [(0, .ref 0), (1, .int x)] [(0, .ref 67), (1, .int x)] M := by
  obtain ⟨tn, t1, t2, t3, t4⟩ := h.1
  obtain ⟨n, r1, r2, r3, r4⟩ := h.2.2.2.1
  have go : ∀ {M1 : jM}, M1 = jsi M 67 0 0 → iInv M1 ∧ ∀ a k, ¬ (a = 67 ∧ k = 0) → M1.1 a k = M.1 a k := fun e => ⟨h.kp (kp67 e), fun a k z => by rw [e, jsi_at, if_neg z]⟩
  refine v_X7_count_0 ⟨fun e => ?_, fun e => ?_, fun e => ?_, fun e => ?_, fun e => ?_, fun e => ?_⟩
  · rw [(show jTo nX7_ruleCount _ _ _ from v_X7_ruleCount_0 (c_ruleCount M (Nat.le_refl 6) rfl 6 0 rfl)).iff]
    refine ⟨_, rfl, _, rfl, ?_⟩
    refine v_X8_count_0 (fun M1 e1 => ⟨fun _ => ?_, fun z => absurd (e.symm.trans z) (by decide), fun z => absurd (e.symm.trans z) (by decide), fun z => absurd (e.symm.trans z) (by decide), fun z => absurd (e.symm.trans z) (by decide), fun z => absurd e z.1⟩)
    refine jEv.mono (c_mCount0 M1 (Nat.le_refl 6) rfl 6 0 rfl) (fun o M2 q => ⟨?_, by rw [q.2]; exact (go e1).1⟩)
    rw [q.1]
    congr 4
    refine cN_congr (fun j hj => ?_)
    rw [(go e1).2 69 j (by omega)]
    rcases h.2.1 j hj with ⟨w1, w2⟩ | ⟨w1, w2, -⟩
    · rw [w1, w2]
    · rw [w1, w2]
  · rw [(show jTo nX7_likenessesCount _ _ _ from v_X7_likenessesCount_0 (c_likCount M (Nat.le_refl 6) rfl 6 0 rfl)).iff]
    refine ⟨_, rfl, _, rfl, ?_⟩
    refine v_X8_count_0 (fun M1 e1 => ⟨fun z => absurd (e.symm.trans z) (by decide), fun _ => ?_, fun z => absurd (e.symm.trans z) (by decide), fun z => absurd (e.symm.trans z) (by decide), fun z => absurd (e.symm.trans z) (by decide), fun z => absurd e z.2.1⟩)
    refine jEv.mono (c_mCount1 M1 (Nat.le_refl 6) rfl 6 0 rfl) (fun o M2 q => ⟨?_, by rw [q.2]; exact (go e1).1⟩)
    rw [q.1]
    congr 4
    refine cN_congr (fun j hj => ?_)
    rw [(go e1).2 86 j (by omega)]
    obtain ⟨k, -, w1, w2, -⟩ := h.2.2.1 j hj
    rw [w1, w2]
  · refine ⟨_, rfl, ?_⟩
    refine v_X8_count_0 (fun M1 e1 => ⟨fun z => absurd (e.symm.trans z) (by decide), fun z => absurd (e.symm.trans z) (by decide), fun _ => ⟨?_, (go e1).1⟩, fun z => absurd (e.symm.trans z) (by decide), fun z => absurd (e.symm.trans z) (by decide), fun z => absurd e z.2.2.1⟩)
    rw [(go e1).2 67 27 (by decide), r2, r3]
  · rw [(s_gapCount M r1 r2).iff]
    refine ⟨_, rfl, _, rfl, ?_⟩
    refine v_X8_count_0 (fun M1 e1 => ⟨fun z => absurd (e.symm.trans z) (by decide), fun z => absurd (e.symm.trans z) (by decide), fun z => absurd (e.symm.trans z) (by decide), fun _ => ?_, fun z => absurd (e.symm.trans z) (by decide), fun z => absurd e z.2.2.2.1⟩)
    rw [(s_gaps M1 r1 (by rw [(go e1).2 67 27 (by decide)]; exact r3)).iff]
    refine ⟨_, rfl, ?_, (go e1).1⟩
    congr 4
    refine cN_congr (fun t ht => ?_)
    rw [(go e1).2 90 t (by omega), (r4 t ht).1]
  · refine ⟨_, rfl, ?_⟩
    refine v_X8_count_0 (fun M1 e1 => ⟨fun z => absurd (e.symm.trans z) (by decide), fun z => absurd (e.symm.trans z) (by decide), fun z => absurd (e.symm.trans z) (by decide), fun z => absurd (e.symm.trans z) (by decide), fun _ => ⟨?_, (go e1).1⟩, fun z => absurd e z.2.2.2.2⟩)
    rw [(go e1).2 67 2 (by decide), t2, t3]
  · refine ⟨_, rfl, ?_⟩
    exact v_X8_count_0 (fun M1 e1 => ⟨fun z => absurd z e.1, fun z => absurd z e.2.1, fun z => absurd z e.2.2.1, fun z => absurd z e.2.2.2.1, fun z => absurd z e.2.2.2.2, fun _ => ⟨rfl, (go e1).1⟩⟩)
