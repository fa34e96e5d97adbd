/-! row and put: both -/
/-- the row has changed, and the tape, the marks of a filling, scratch -/
theorem iInv.row {M M' : jM} (h : iInv M) (t : iTape M') (r : iRow M') (f : M'.1 67 30 = 0 ∧ M'.1 0 13 = 0) (e : ∀ a k, a ≠ 1 → a ≠ 2 → a ≠ 68 → a ≠ 41 → a ≠ 42 → a ≠ 90 → ¬ (a = 67 ∧ (k = 0 ∨ k = 2 ∨ k = 27 ∨ k = 30)) → ¬ (a = 0 ∧ k = 13) → M'.1 a k = M.1 a k) (e2 : M'.2 = M.2) : iInv M' := by
  refine ⟨t, fun j hj => (h.2.1 j hj).cg fun a q z => e a q (by omega) (by omega) (by omega) (by omega) (by omega) (by omega) (by omega) (by omega), fun j hj => (h.2.2.1 j hj).cg fun a q z => e a q (by omega) (by omega) (by omega) (by omega) (by omega) (by omega) (by omega) (by omega), r, Or.inl f, ?_⟩
  exact h.2.2.2.2.2.cg (fun a q z => e a q (by omega) (by omega) (by omega) (by omega) (by omega) (by omega) (by omega) (by omega)) (fun a q z => by rw [e2])
theorem rng_lit {a b : Int32} {A B : Int} (hA : a.toInt = A) (hB : b.toInt = B) (y : Int32) : (a ≤ y ∧ y ≤ b) ↔ (A ≤ y.toInt ∧ y.toInt ≤ B) := by
  rw [Int32.le_iff_toInt_le, Int32.le_iff_toInt_le, hA, hB]
theorem rng20 (y : Int32) : (-20 ≤ y ∧ y ≤ 20) ↔ (-20 ≤ y.toInt ∧ y.toInt ≤ 20) := rng_lit rfl rfl y
theorem op_put {M : jM} (h : iInv M) (x y : Int32) : jBoth nX7_put nX8_put [(0, .ref 0), (1, .int x), (2, .int y)] [(0, .ref 67), (1, .int x), (2, .int y)] M := by
  obtain ⟨n, r1, r2, r3, r4⟩ := h.2.2.2.1
  -- what the model does where it refuses
  have no : ∀ M0, iInv M0 → M0.1 67 27 = nI n → ((x < 0 ∨ 60 ≤ x) ∨ nI n < x ∨ (¬ y = 100 ∧ (y < -20 ∨ ¬ y ≤ 20))) → jEv nX8_put (0, [(0, .ref 67), (1, .int x), (2, .int y)], [], M0) (fun o2 M2 => o2 = some (some (.int 0)) ∧ iInv M2) := by
    intro M0 g0 e0 hc
    refine v_X8_put_0 (fun M1 e1 => ?_)
    have g := g0.kp (kp67 e1)
    have e3 : M1.1 67 27 = nI n := by rw [e1, jsi_at, if_neg (by decide)]; exact e0
    rw [e3]
    refine ⟨fun _ => ⟨rfl, g⟩, fun q1 => ⟨fun _ => ⟨rfl, g⟩, fun q2 => ⟨fun _ => ⟨rfl, g⟩, fun q3 => ⟨fun q4 => ?_, fun q4 => ⟨fun _ => ⟨rfl, g⟩, fun q5 => ⟨fun q6 => ?_, fun _ => ⟨rfl, g⟩⟩⟩⟩⟩⟩⟩
    · exact hc.elim (fun z => absurd z (fun z => z.elim q1 q2)) (fun z => z.elim (fun z => absurd z q3) (fun z => absurd q4 z.1))
    · exact hc.elim (fun z => absurd z (fun z => z.elim q1 q2)) (fun z => z.elim (fun z => absurd z q3) (fun z => absurd z.2 (fun z => z.elim q5 (fun w => w q6))))
  -- what both do where they take it
  have yes : (0 ≤ x ∧ x ≤ 59) → x ≤ nI n → (y = 100 ∨ (-20 ≤ y ∧ y ≤ 20)) → jEv nX4_write (0, [(0, .ref 41), (1, .int x), (2, .int y)], [], M) (fun o4 M5 => o4 = some none ∧ (∀ M6 : jM, M6 = jsi M5 0 13 0 → ∃ r : Int32, some (some (Value.int 1)) = some (some (Value.int r)) ∧ jEv nX8_put (0, [(0, .ref 67), (1, .int x), (2, .int y)], [], M6) (fun o2 M2 => o2 = some (some (.int r)) ∧ iInv M2))) := by
    intro hx hn hy
    obtain ⟨j, hj, rfl⟩ := nI_of2 (M := 59) (n := 59) rfl (Int32.not_lt.mpr hx.1) hx.2
    have hjn : j ≤ n := (nI_leI (by omega) (by omega)).mp hn
    refine v_X4_write_0 ⟨nI_in (by omega) (by omega), fun M1 f1 M2 f2 => ⟨rfl, fun M3 f3 => ⟨1, rfl, ?_⟩⟩⟩
    rw [nI_clamp (by omega)] at f1
    have a1 : M1.1 41 2 = nI n := by simp [f1, jsi_at, r2]
    have a2 : M2.1 41 2 = nI (max n (j + 1)) := by
      rw [f2, jsi_at, if_pos (by decide), a1, nI_1]
      by_cases z : n < j + 1
      · rw [if_pos (nI_lt z (by omega)), Nat.max_eq_right (by omega)]
      · rw [if_neg (nI_nlt (by omega) (by omega)), Nat.max_eq_left (by omega)]
    refine v_X8_put_0 (fun M4 f4 => ?_)
    have b1 : M4.1 67 27 = nI n := by rw [f4, jsi_at, if_neg (by decide), f3, jsi_at, if_neg (by decide), f2, jsi_at, if_neg (by decide), f1, jsi_at, if_neg (by omega)]; exact r3
    -- the model's end, after the place is written
    have fin : ∀ M5, M5 = jsi M4 90 j y → ((nI j = M5.1 67 27 → (∀ M6 : jM, M6 = jsi M5 67 27 (M5.1 67 27 + 1) → (∀ M7 : jM, M7 = jsi M6 67 30 0 → some (some (Value.int 1)) = some (some (Value.int 1)) ∧ iInv M7))) ∧ (¬ nI j = M5.1 67 27 → (∀ M6 : jM, M6 = jsi M5 67 30 0 → some (some (Value.int 1)) = some (some (Value.int 1)) ∧ iInv M6))) := by
      intro M5 f5
      have c1 : M5.1 67 27 = nI n := by rw [f5, jsi_at, if_neg (by omega)]; exact b1
      have key : ∀ M7 : jM, M7.1 67 27 = nI (max n (j + 1)) → M7.1 67 30 = 0 → (∀ a k, ¬ (a = 67 ∧ (k = 27 ∨ k = 30)) → M7.1 a k = M5.1 a k) → M7.2 = M5.2 → iInv M7 := by
        intro M7 d1 d2 d3 d4
        have d5 : ∀ a k, ¬ (a = 67 ∧ (k = 0 ∨ k = 27 ∨ k = 30)) → ¬ (a = 0 ∧ k = 13) → a ≠ 41 → a ≠ 42 → a ≠ 90 → M7.1 a k = M.1 a k := by
          intro a k z1 z2 z3 z4 z5
          rw [d3 a k (by omega), f5, jsi_at, if_neg (by omega), f4, jsi_at, if_neg (by omega), f3, jsi_at, if_neg (by omega), f2, jsi_at, if_neg (by omega), f1, jsi_at, if_neg (by omega)]
        refine h.row (h.1.cg fun a k z => d5 a k (by omega) (by omega) (by omega) (by omega) (by omega)) ⟨max n (j + 1), by omega, ?_, d1, fun t ht => ?_⟩ ⟨d2, ?_⟩ (fun a k z1 z2 z3 z4 z5 z6 z7 z8 => d5 a k (by omega) (by omega) (by omega) (by omega) (by omega)) ?_
        · rw [d3 41 2 (by omega), f5, jsi_at, if_neg (by omega), f4, jsi_at, if_neg (by omega), f3, jsi_at, if_neg (by omega)]
          exact a2
        · have m1 : M7.1 42 t = if t = j then y else M.1 42 t := by rw [d3 42 t (by omega)]; simp [f5, f4, f3, f2, f1, jsi_at]
          have m2 : M7.1 90 t = if t = j then y else M.1 90 t := by rw [d3 90 t (by omega)]; simp [f5, f4, f3, f2, f1, jsi_at]
          rw [m1, m2]
          by_cases hz : t = j
          · rw [if_pos hz, if_pos hz]
            exact ⟨rfl, hy.imp id (fun w => (rng20 y).mp w)⟩
          · rw [if_neg hz, if_neg hz]
            exact r4 t (by omega)
        · rw [d3 0 13 (by omega), f5, jsi_at, if_neg (by omega), f4, jsi_at, if_neg (by omega), f3, jsi_at, if_pos (by decide)]
        · rw [d4, f5, f4, f3, f2, f1]; rfl
      rw [c1]
      refine ⟨fun z M6 f6 M7 f7 => ⟨rfl, ?_⟩, fun z M6 f6 => ⟨rfl, ?_⟩⟩
      · have zz : j = n := (nI_eq (by omega) (by omega)).mp z
        refine key M7 ?_ ?_ (fun a k w => ?_) (by rw [f7, f6]; rfl)
        · rw [f7, jsi_at, if_neg (by decide), f6, jsi_at, if_pos (by decide), nI_1, Nat.max_eq_right (by omega), zz]
        · rw [f7, jsi_at, if_pos (by decide)]
        · rw [f7, jsi_at, if_neg (by omega), f6, jsi_at, if_neg (by omega)]
      · have zz : ¬ j = n := fun w => z ((nI_eq (by omega) (by omega)).mpr w)
        refine key M6 ?_ ?_ (fun a k w => ?_) (by rw [f6]; rfl)
        · rw [f6, jsi_at, if_neg (by decide), c1, Nat.max_eq_left (by omega)]
        · rw [f6, jsi_at, if_pos (by decide)]
        · rw [f6, jsi_at, if_neg (by omega)]
    rw [b1, nI_clamp (by omega)]
    refine ⟨fun z => absurd z (Int32.not_lt.mpr hx.1), fun _ => ⟨fun z => absurd z (nI_ge (b := 60) (by omega) (by omega)), fun _ => ⟨fun z => absurd z (Int32.not_lt.mpr hn), fun _ => ⟨fun _ => ⟨?_, fin⟩, fun q4 => ?_⟩⟩⟩⟩
    · have := nI_in (c := j) (N := 60) (by omega) (by omega)
      rw [nI_clamp (by omega)] at this
      exact this
    · have hy2 : -20 ≤ y ∧ y ≤ 20 := hy.elim (fun w => absurd w q4) id
      refine ⟨fun z => absurd z (Int32.not_lt.mpr hy2.1), fun _ => ⟨fun _ => ⟨?_, fin⟩, fun z => absurd hy2.2 z⟩⟩
      have := nI_in (c := j) (N := 60) (by omega) (by omega)
      rw [nI_clamp (by omega)] at this
      exact this
  refine v_X7_put_0 ?_
  rw [e_isWithin]
  refine ⟨_, rfl, fun q => ?_, fun q => ?_⟩
  · refine ⟨0, rfl, no M h r3 (Or.inl ?_)⟩
    by_cases hx : 0 ≤ x ∧ x ≤ 59
    · rw [if_pos hx] at q; exact absurd q (by decide)
    · by_cases h0 : x < 0
      · exact Or.inl h0
      · refine Or.inr ?_
        have h59 : ¬ x ≤ 59 := fun w => hx ⟨Int32.not_lt.mp h0, w⟩
        rw [Int32.le_iff_toInt_le] at h59 ⊢
        have e1 : (59 : Int32).toInt = 59 := rfl
        have e2 : (60 : Int32).toInt = 60 := rfl
        omega
  · have hx : 0 ≤ x ∧ x ≤ 59 := by
      by_cases hx : 0 ≤ x ∧ x ≤ 59
      · exact hx
      · rw [if_neg hx] at q; exact absurd rfl q
    rw [r2]
    refine ⟨fun hn => ⟨fun hy => yes hx hn (Or.inl hy), fun hy => ?_⟩, fun hn => ⟨0, rfl, no M h r3 (Or.inr (Or.inl (Int32.not_le.mp hn)))⟩⟩
    rw [e_isWithin]
    refine ⟨_, rfl, fun q2 => ⟨0, rfl, no M h r3 (Or.inr (Or.inr ⟨hy, ?_⟩))⟩, fun q2 => ?_⟩
    · by_cases h1 : y < -20
      · exact Or.inl h1
      · refine Or.inr (fun h2 => ?_)
        rw [if_pos ⟨Int32.not_lt.mp h1, h2⟩] at q2
        exact absurd q2 (by decide)
    · by_cases h1 : -20 ≤ y ∧ y ≤ 20
      · exact yes hx hn (Or.inr h1)
      · rw [if_neg h1] at q2; exact absurd rfl q2
/-- a byte that a row takes -/
def okB (v : Int32) : Prop := v = -128 ∨ (-20 ≤ v ∧ v ≤ 20)
def gmB (v : Int32) : Int32 := if v = -128 then 100 else v
theorem okB_dec (f : Nat → Int32) : ∀ n : Nat, (∀ i, i < n → okB (f i)) ∨ ∃ i, i < n ∧ ¬ okB (f i) := by
  intro n
  induction n with
  | zero => exact Or.inl (fun i hi => absurd hi (Nat.not_lt_zero i))
  | succ n ih =>
    rcases ih with ih | ⟨i, h1, h2⟩
    · by_cases h : okB (f n)
      · refine Or.inl (fun i hi => ?_)
        by_cases e : i = n
        · rw [e]; exact h
        · exact ih i (by omega)
      · exact Or.inr ⟨n, by omega, h⟩
    · exact Or.inr ⟨i, by omega, h2⟩
theorem s_isEachPlace_yes (M : jM) {n : Nat} (hn : n ≤ 60) (h : ∀ i, i < n → okB (M.1 2 i)) : ∀ (r i : Nat), i + r = n → jTo nX6_isEachPlace (2, [(0, .ref 1), (1, .int (nI n)), (2, .int (nI i))], [], M) (some (some (.int 1))) M := by
  intro r
  induction r with
  | zero =>
    intro i hi
    have : i = n := by omega
    subst this
    exact v_X6_isEachPlace_2 ⟨fun _ => ⟨rfl, rfl⟩, fun q => absurd (Int32.le_refl _) q⟩
  | succ r ih =>
    intro i hi
    have hc : (nI i).toNatClampNeg = i := nI_clamp (by omega)
    refine v_X6_isEachPlace_2 ⟨fun q => absurd q (nI_ge (by omega) (by omega)), fun _ => ⟨nI_in (by omega) (by omega), fun _ => ?_, fun q => ⟨nI_in (by omega) (by omega), ?_⟩⟩⟩
    · rw [nI_1]; exact ih (i + 1) (by omega)
    · rw [hc] at q ⊢
      have hr : -20 ≤ M.1 2 i ∧ M.1 2 i ≤ 20 := (h i (by omega)).elim (fun w => absurd w q) id
      rw [e_isWithin, if_pos hr]
      refine ⟨_, rfl, fun z => absurd z (by decide), fun _ => ?_⟩
      rw [nI_1]; exact ih (i + 1) (by omega)
theorem s_isEachPlace_no (M : jM) {n : Nat} (hn : n ≤ 60) : ∀ (r i : Nat), i + r = n → (∃ k, i ≤ k ∧ k < n ∧ ¬ okB (M.1 2 k)) → jTo nX6_isEachPlace (2, [(0, .ref 1), (1, .int (nI n)), (2, .int (nI i))], [], M) (some (some (.int 0))) M := by
  intro r
  induction r with
  | zero =>
    intro i hi h
    obtain ⟨k, k1, k2, -⟩ := h
    exact absurd k2 (by omega)
  | succ r ih =>
    intro i hi h
    have hc : (nI i).toNatClampNeg = i := nI_clamp (by omega)
    have nx : okB (M.1 2 i) → jTo nX6_isEachPlace (2, [(0, .ref 1), (1, .int (nI n)), (2, .int (nI i + 1))], [], M) (some (some (.int 0))) M := by
      intro hb
      rw [nI_1]
      refine ih (i + 1) (by omega) ?_
      obtain ⟨k, k1, k2, k3⟩ := h
      refine ⟨k, ?_, k2, k3⟩
      rcases Nat.lt_or_ge i k with w | w
      · omega
      · have : k = i := by omega
        rw [this] at k3
        exact absurd hb k3
    refine v_X6_isEachPlace_2 ⟨fun q => absurd q (nI_ge (by omega) (by omega)), fun _ => ⟨nI_in (by omega) (by omega), fun q => ?_, fun q => ⟨nI_in (by omega) (by omega), ?_⟩⟩⟩
    · rw [hc] at q
      exact nx (Or.inl q)
    · rw [hc] at q ⊢
      rw [e_isWithin]
      by_cases hr : -20 ≤ M.1 2 i ∧ M.1 2 i ≤ 20
      · rw [if_pos hr]
        exact ⟨_, rfl, fun z => absurd z (by decide), fun _ => nx (Or.inr hr)⟩
      · rw [if_neg hr]
        exact ⟨_, rfl, fun _ => ⟨rfl, rfl⟩, fun z => absurd rfl z⟩
/-- the class takes the bytes -/
theorem s_X4_take (M0 : jM) {n : Nat} (hn : n ≤ 60) : ∀ (r i : Nat), i + r = n → ∀ M : jM, (∀ t, M.1 42 t = if t < i then gmB (M0.1 2 t) else M0.1 42 t) → (∀ a k, a ≠ 42 → M.1 a k = M0.1 a k) → M.2 = M0.2 → jEv nX4_take (7, [(0, .ref 41), (1, .ref 2), (2, .int (nI n)), (3, .int (nI i))], [], M) (fun o M' => o = some none ∧ (∀ t, M'.1 42 t = if t < n then gmB (M0.1 2 t) else M0.1 42 t) ∧ (∀ a k, a ≠ 42 → M'.1 a k = M0.1 a k) ∧ M'.2 = M0.2) := by
  intro r
  induction r with
  | zero =>
    intro i hi M h1 h2 h3
    have : i = n := by omega
    subst this
    exact v_X4_take_7 ⟨fun _ => ⟨rfl, h1, h2, h3⟩, fun q => absurd (Int32.le_refl _) q⟩
  | succ r ih =>
    intro i hi M h1 h2 h3
    have hc : (nI i).toNatClampNeg = i := nI_clamp (by omega)
    have st : ∀ M1, M1 = jsi M 42 i (gmB (M.1 2 i)) → jEv nX4_take (7, [(0, .ref 41), (1, .ref 2), (2, .int (nI n)), (3, .int (nI i + 1))], [], M1) (fun o M' => o = some none ∧ (∀ t, M'.1 42 t = if t < n then gmB (M0.1 2 t) else M0.1 42 t) ∧ (∀ a k, a ≠ 42 → M'.1 a k = M0.1 a k) ∧ M'.2 = M0.2) := by
      intro M1 e1
      rw [nI_1]
      refine ih (i + 1) (by omega) M1 (fun t => ?_) (fun a k z => ?_) (by rw [e1]; exact h3)
      · rw [e1, jsi_at, h2 2 i (by decide)]
        by_cases e : t = i
        · rw [if_pos ⟨rfl, e⟩, if_pos (by omega), e]
        · rw [if_neg (fun w => e w.2), h1 t]
          by_cases w : t < i
          · rw [if_pos w, if_pos (by omega)]
          · rw [if_neg w, if_neg (by omega)]
      · rw [e1, jsi_at, if_neg (fun w => z w.1)]; exact h2 a k z
    refine v_X4_take_7 ⟨fun q => absurd q (nI_ge (by omega) (by omega)), fun _ => ⟨nI_in (by omega) (by omega), fun q => ⟨nI_in (by omega) (by omega), fun M1 e1 => ?_⟩, fun q => ⟨nI_in (by omega) (by omega), nI_in (by omega) (by omega), fun M1 e1 => ?_⟩⟩⟩
    · rw [hc] at q e1
      exact st M1 (by rw [e1, gmB, if_pos q])
    · rw [hc] at q e1
      exact st M1 (by rw [e1, gmB, if_neg q])
/-- the model holds the bytes against what a row takes -/
theorem s_X8_row_yes {M : jM} {K : jK} {n : Nat} (hn : n ≤ 60) (h : ∀ i, i < n → okB (M.1 68 i)) (k : jEv nX8_row (68, [(0, .ref 67), (1, .int (nI n)), (2, .int 0)], [], M) K) : ∀ (r i : Nat), i + r = n → jEv nX8_row (20, [(0, .ref 67), (1, .int (nI n)), (2, .int (nI i))], [], M) K := by
  intro r
  induction r with
  | zero =>
    intro i hi
    have : i = n := by omega
    subst this
    exact v_X8_row_20 ⟨fun _ => k, fun q => absurd (Int32.le_refl _) q⟩
  | succ r ih =>
    intro i hi
    have hc : (nI i).toNatClampNeg = i := nI_clamp (by omega)
    refine v_X8_row_20 ⟨fun q => absurd q (nI_ge (by omega) (by omega)), fun _ => ⟨nI_in (by omega) (by omega), fun q => ?_, fun q => ⟨nI_in (by omega) (by omega), ?_⟩⟩⟩
    · rw [nI_1]; exact ih (i + 1) (by omega)
    · rw [hc] at q ⊢
      have hr : -20 ≤ M.1 68 i ∧ M.1 68 i ≤ 20 := (h i (by omega)).elim (fun w => absurd w q) id
      refine ⟨fun z => absurd z (Int32.not_lt.mpr hr.1), fun _ => ⟨by have := nI_in (c := i) (N := 100) (by omega) (by omega); rw [hc] at this; exact this, fun _ => ?_, fun z => absurd hr.2 z⟩⟩
      rw [nI_1]; exact ih (i + 1) (by omega)
theorem s_X8_row_no {M : jM} {n : Nat} (hn : n ≤ 60) : ∀ (r i : Nat), i + r = n → (∃ k, i ≤ k ∧ k < n ∧ ¬ okB (M.1 68 k)) → jTo nX8_row (20, [(0, .ref 67), (1, .int (nI n)), (2, .int (nI i))], [], M) (some (some (.int (-1)))) M := by
  intro r
  induction r with
  | zero =>
    intro i hi h
    obtain ⟨k, k1, k2, -⟩ := h
    exact absurd k2 (by omega)
  | succ r ih =>
    intro i hi h
    have hc : (nI i).toNatClampNeg = i := nI_clamp (by omega)
    have nx : okB (M.1 68 i) → jTo nX8_row (20, [(0, .ref 67), (1, .int (nI n)), (2, .int (nI i + 1))], [], M) (some (some (.int (-1)))) M := by
      intro hb
      rw [nI_1]
      refine ih (i + 1) (by omega) ?_
      obtain ⟨k, k1, k2, k3⟩ := h
      refine ⟨k, ?_, k2, k3⟩
      rcases Nat.lt_or_ge i k with w | w
      · omega
      · have : k = i := by omega
        rw [this] at k3
        exact absurd hb k3
    refine v_X8_row_20 ⟨fun q => absurd q (nI_ge (by omega) (by omega)), fun _ => ⟨nI_in (by omega) (by omega), fun q => ?_, fun q => ⟨nI_in (by omega) (by omega), ?_⟩⟩⟩
    · rw [hc] at q
      exact nx (Or.inl q)
    · rw [hc] at q ⊢
      refine ⟨fun _ => ⟨rfl, rfl⟩, fun z1 => ⟨by have := nI_in (c := i) (N := 100) (by omega) (by omega); rw [hc] at this; exact this, fun z2 => nx (Or.inr ⟨Int32.not_lt.mp z1, z2⟩), fun _ => ⟨rfl, rfl⟩⟩⟩
theorem s_X8_row_take (M0 : jM) {n : Nat} (hn : n ≤ 60) : ∀ (r i : Nat), i + r = n → ∀ M : jM, (∀ t, M.1 90 t = if t < i then gmB (M0.1 68 t) else M0.1 90 t) → (∀ a k, a ≠ 90 → M.1 a k = M0.1 a k) → M.2 = M0.2 → jEv nX8_row (68, [(0, .ref 67), (1, .int (nI n)), (2, .int (nI i))], [], M) (fun o M' => o = some (some (.int (nI n))) ∧ (∀ t, M'.1 90 t = if t < n then gmB (M0.1 68 t) else M0.1 90 t) ∧ M'.1 67 27 = nI n ∧ M'.1 67 30 = 0 ∧ (∀ a k, a ≠ 90 → ¬ (a = 67 ∧ (k = 27 ∨ k = 30)) → M'.1 a k = M0.1 a k) ∧ M'.2 = M0.2) := by
  intro r
  induction r with
  | zero =>
    intro i hi M h1 h2 h3
    have : i = n := by omega
    subst this
    refine v_X8_row_68 ⟨fun _ M1 e1 M2 e2 => ⟨rfl, fun t => ?_, ?_, ?_, fun a k z1 z2 => ?_, ?_⟩, fun q => absurd (Int32.le_refl _) q⟩
    · rw [e2, jsi_at, if_neg (by omega), e1, jsi_at, if_neg (by omega)]; exact h1 t
    · rw [e2, jsi_at, if_neg (by decide), e1, jsi_at, if_pos (by decide)]
    · rw [e2, jsi_at, if_pos (by decide)]
    · rw [e2, jsi_at, if_neg (by omega), e1, jsi_at, if_neg (by omega)]; exact h2 a k z1
    · rw [e2, e1]; exact h3
  | succ r ih =>
    intro i hi M h1 h2 h3
    have hc : (nI i).toNatClampNeg = i := nI_clamp (by omega)
    have st : ∀ M1, M1 = jsi M 90 i (gmB (M.1 68 i)) → jEv nX8_row (68, [(0, .ref 67), (1, .int (nI n)), (2, .int (nI i + 1))], [], M1) (fun o M' => o = some (some (.int (nI n))) ∧ (∀ t, M'.1 90 t = if t < n then gmB (M0.1 68 t) else M0.1 90 t) ∧ M'.1 67 27 = nI n ∧ M'.1 67 30 = 0 ∧ (∀ a k, a ≠ 90 → ¬ (a = 67 ∧ (k = 27 ∨ k = 30)) → M'.1 a k = M0.1 a k) ∧ M'.2 = M0.2) := by
      intro M1 e1
      rw [nI_1]
      refine ih (i + 1) (by omega) M1 (fun t => ?_) (fun a k z => ?_) (by rw [e1]; exact h3)
      · rw [e1, jsi_at, h2 68 i (by decide)]
        by_cases e : t = i
        · rw [if_pos ⟨rfl, e⟩, if_pos (by omega), e]
        · rw [if_neg (fun w => e w.2), h1 t]
          by_cases w : t < i
          · rw [if_pos w, if_pos (by omega)]
          · rw [if_neg w, if_neg (by omega)]
      · rw [e1, jsi_at, if_neg (fun w => z w.1)]; exact h2 a k z
    refine v_X8_row_68 ⟨fun q => absurd q (nI_ge (by omega) (by omega)), fun _ => ⟨nI_in (by omega) (by omega), fun q => ⟨nI_in (by omega) (by omega), fun M1 e1 => ?_⟩, fun q => ⟨nI_in (by omega) (by omega), nI_in (by omega) (by omega), fun M1 e1 => ?_⟩⟩⟩
    · rw [hc] at q e1
      exact st M1 (by rw [e1, gmB, if_pos q])
    · rw [hc] at q e1
      exact st M1 (by rw [e1, gmB, if_neg q])
theorem s_taken (M : jM) : jTo nX8_taken (0, [(0, .ref 67)], [], M) (some (some (.int (M.1 67 2)))) (jsi M 67 2 0) := v_X8_taken_0 (fun _ e => ⟨rfl, e⟩)
theorem op_row {M : jM} (h : iInv M) : jBoth nX7_row nX8_row [(0, .ref 0)] [(0, .ref 67)] M := by
  obtain ⟨n, t1, t2, t3, t4⟩ := h.1
  obtain ⟨rn, r1, r2, r3, r4⟩ := h.2.2.2.1
  -- the tape is used up on both sides, and nothing else has changed
  have used : ∀ M', M'.1 1 1 = 0 → M'.1 67 2 = 0 → (∀ a k, ¬ (a = 1 ∧ k = 1) → ¬ (a = 67 ∧ (k = 0 ∨ k = 2)) → M'.1 a k = M.1 a k) → M'.2 = M.2 → iInv M' := by
    intro M' e1 e2 e3 e4
    refine h.tape ⟨0, by omega, e1, e2, fun i hi => ?_⟩ (fun a k z1 z2 z3 z4 _ _ _ _ _ => e3 a k (by omega) (by omega)) (fun a k _ => by rw [e4])
    rw [e3 68 i (by omega) (by omega), e3 2 i (by omega) (by omega)]
    exact t4 i hi
  refine v_X7_row_0 (fun M1 e1 => ?_)
  have a1 : ∀ a k, ¬ (a = 1 ∧ k = 1) → M1.1 a k = M.1 a k := fun a k z => by rw [e1, jsi_at, if_neg z]
  -- the model's first steps
  have start : ∀ (M0 : jM) {K : jK}, M0.1 67 2 = nI n → ((n ≤ 60 → jEv nX8_row (20, [(0, .ref 67), (1, .int (nI n)), (2, .int 0)], [], jsi (jsi M0 67 0 0) 67 2 0) K) ∧ (¬ n ≤ 60 → K (some (some (.int (-1)))) (jsi (jsi M0 67 0 0) 67 2 0))) → jEv nX8_row (0, [(0, .ref 67)], [], M0) K := by
    intro M0 K e0 hk
    refine v_X8_row_0 (fun M2 e2 => ?_)
    rw [(s_taken M2).iff]
    have e3 : M2.1 67 2 = nI n := by rw [e2, jsi_at, if_neg (by decide)]; exact e0
    have e4 : nI n ≤ 60 ↔ n ≤ 60 := nI_leI (b := 60) (by omega) (by omega)
    rw [e3, e2]
    exact ⟨_, rfl, fun q => hk.1 (e4.mp q), fun q => hk.2 (fun w => q (e4.mpr w))⟩
  have b1 : M1.1 67 2 = nI n := by rw [a1 67 2 (by decide)]; exact t3
  have big : 60 < M.1 1 1 ↔ 60 < n := by rw [t2]; exact nI_ltI (a := 60) (by omega) (by omega)
  refine ⟨fun q => ⟨-1, rfl, start M1 b1 ⟨fun w => absurd (big.mp q) (by omega), fun _ => ⟨rfl, used _ ?_ ?_ ?_ ?_⟩⟩⟩, fun q => ?_⟩
  · simp [jsi_at, e1]
  · simp [jsi_at]
  · intro a k z1 z2
    rw [jsi_at, if_neg (by omega), jsi_at, if_neg (by omega)]
    exact a1 a k z1
  · rw [e1]; rfl
  · have hn : n ≤ 60 := Nat.not_lt.mp (fun w => q (big.mpr w))
    rw [t2]
    rcases okB_dec (M.1 2) n with ok | ⟨i, i1, i2⟩
    · refine v_X6_isEachPlace_0 ((s_isEachPlace_yes M1 hn (fun i hi => by rw [a1 2 i (by omega)]; exact ok i hi) n 0 (by omega)).iff _ |>.mpr ?_)
      refine ⟨_, rfl, fun z => absurd z (by decide), fun _ => ?_⟩
      refine v_X4_take_0 (fun M2 e2 => ?_)
      refine jEv.mono (s_X4_take M2 hn n 0 (by omega) M2 (fun t => by rw [if_neg (by omega)]) (fun _ _ _ => rfl) rfl) (fun o M3 w => ⟨w.1, fun M4 e4 => ⟨_, rfl, ?_⟩⟩)
      obtain ⟨-, w1, w2, w3⟩ := w
      have c1 : ∀ a k, a ≠ 42 → ¬ (a = 41 ∧ k = 2) → ¬ (a = 1 ∧ k = 1) → ¬ (a = 0 ∧ k = 13) → M4.1 a k = M.1 a k := by
        intro a k z1 z2 z3 z4
        rw [e4, jsi_at, if_neg z4, w2 a k z1, e2, jsi_at, if_neg z2]
        exact a1 a k z3
      refine start M4 (by rw [c1 67 2 (by decide) (by decide) (by decide) (by decide)]; exact t3) ⟨fun _ => ?_, fun z => absurd hn z⟩
      have c2 : ∀ i, (jsi (jsi M4 67 0 0) 67 2 0).1 68 i = M.1 68 i := fun i => by
        rw [jsi_at, if_neg (by omega), jsi_at, if_neg (by omega)]
        exact c1 68 i (by decide) (by omega) (by omega) (by omega)
      refine s_X8_row_yes hn (fun i hi => by rw [c2 i, (t4 i (by omega)).1]; exact ok i hi) ?_ n 0 (by omega)
      refine jEv.mono (s_X8_row_take (jsi (jsi M4 67 0 0) 67 2 0) hn n 0 (by omega) _ (fun t => by rw [if_neg (by omega)]) (fun _ _ _ => rfl) rfl) (fun o M5 w => ⟨w.1, ?_⟩)
      obtain ⟨-, v1, v2, v3, v4, v5⟩ := w
      have d1 : ∀ a k, a ≠ 90 → ¬ (a = 67 ∧ (k = 0 ∨ k = 2 ∨ k = 27 ∨ k = 30)) → M5.1 a k = M4.1 a k := by
        intro a k z1 z2
        rw [v4 a k z1 (by omega), jsi_at, if_neg (by omega), jsi_at, if_neg (by omega)]
      have d2 : ∀ a k, a ≠ 90 → a ≠ 42 → ¬ (a = 67 ∧ (k = 0 ∨ k = 2 ∨ k = 27 ∨ k = 30)) → ¬ (a = 41 ∧ k = 2) → ¬ (a = 1 ∧ k = 1) → ¬ (a = 0 ∧ k = 13) → M5.1 a k = M.1 a k := by
        intro a k z1 z2 z3 z4 z5 z6
        rw [d1 a k z1 z3]; exact c1 a k z2 z4 z5 z6
      refine h.row ⟨0, by omega, ?_, ?_, fun i hi => ?_⟩ ⟨n, hn, ?_, v2, fun t ht => ?_⟩ ⟨v3, ?_⟩ (fun a k z1 z2 z3 z4 z5 z6 z7 z8 => d2 a k z6 z5 (by omega) (by omega) (by omega) z8) ?_
      · rw [d1 1 1 (by decide) (by decide), e4, jsi_at, if_neg (by decide), w2 1 1 (by decide), e2, jsi_at, if_neg (by decide), e1, jsi_at, if_pos (by decide)]; rfl
      · rw [v4 67 2 (by decide) (by decide), jsi_at, if_pos (by decide)]; rfl
      · rw [d2 68 i (by decide) (by decide) (by omega) (by omega) (by omega) (by omega), d2 2 i (by decide) (by decide) (by omega) (by omega) (by omega) (by omega)]
        exact t4 i hi
      · rw [d1 41 2 (by decide) (by decide), e4, jsi_at, if_neg (by decide), w2 41 2 (by decide), e2, jsi_at, if_pos (by decide)]
      · rw [d1 42 t (by decide) (by omega), e4, jsi_at, if_neg (by omega), w1 t, if_pos ht, v1 t, if_pos ht, c2 t, (t4 t (by omega)).1, e2, jsi_at, if_neg (by omega), a1 2 t (by omega)]
        refine ⟨rfl, ?_⟩
        unfold gmB
        rcases ok t ht with w | w
        · rw [if_pos w]; exact Or.inl rfl
        · by_cases w2 : M.1 2 t = -128
          · rw [if_pos w2]; exact Or.inl rfl
          · rw [if_neg w2]; exact Or.inr ((rng20 _).mp w)
      · rw [d1 0 13 (by decide) (by decide), e4, jsi_at, if_pos (by decide)]
      · rw [v5]
        show M4.2 = M.2
        rw [e4]
        show M3.2 = M.2
        rw [w3, e2, e1]; rfl
    · refine v_X6_isEachPlace_0 ((s_isEachPlace_no M1 hn n 0 (by omega) ⟨i, by omega, i1, by rw [a1 2 i (by omega)]; exact i2⟩).iff _ |>.mpr ?_)
      refine ⟨_, rfl, fun _ => ⟨-1, rfl, start M1 b1 ⟨fun _ => ?_, fun z => absurd hn z⟩⟩, fun z => absurd rfl z⟩
      have c2 : ∀ i, (jsi (jsi M1 67 0 0) 67 2 0).1 68 i = M.1 68 i := fun i => by
        rw [jsi_at, if_neg (by omega), jsi_at, if_neg (by omega)]
        exact a1 68 i (by omega)
      refine jEv.mono (s_X8_row_no hn n 0 (by omega) ⟨i, by omega, i1, by rw [c2 i, (t4 i (by omega)).1]; exact i2⟩) (fun o M2 w => ⟨w.1, ?_⟩)
      rw [w.2]
      refine used _ ?_ ?_ ?_ ?_
      · simp [jsi_at, e1]
      · simp [jsi_at]
      · intro a k z1 z2
        rw [jsi_at, if_neg (by omega), jsi_at, if_neg (by omega)]
        exact a1 a k z1
      · rw [e1]; rfl
