/-! rule: both -/
def bkF (f : Nat → Int32) (p i : Nat) : Int32 := if i ≤ p then f (i - 1) else 0
def msF (f : Nat → Int32) (p m i : Nat) : Int32 := if i ≤ m then f (p + i - 1) else 0
theorem bkF_hi {f : Nat → Int32} {p i : Nat} (h : p < i) : bkF f p i = 0 := by unfold bkF; rw [if_neg (by omega)]
theorem bkF_lo {f : Nat → Int32} {p i : Nat} (h : ¬ p < i) : bkF f p i = f (i - 1) := by unfold bkF; rw [if_pos (by omega)]
theorem msF_hi {f : Nat → Int32} {p m i : Nat} (h : m < i) : msF f p m i = 0 := by unfold msF; rw [if_neg (by omega)]
theorem msF_lo {f : Nat → Int32} {p m i : Nat} (h : ¬ m < i) : msF f p m i = f (p + i - 1) := by unfold msF; rw [if_pos (by omega)]
/-- the class takes a rule -/
theorem s_X5_take (M0 : jM) {j : Nat} (hj : j < 6) {p m : Nat} (hp : p ≤ 3) (hm : m ≤ 3) (q s : Int32) : jEv nX5_take (0, [(0, .ref (4 + 4 * j)), (1, .ref 2), (2, .int q), (3, .int (nI p)), (4, .int (nI m)), (5, .int s)], [], M0) (fun o M' => o = some none ∧ M'.1 (4 + 4 * j) 0 = 1 ∧ M'.1 (4 + 4 * j) 1 = q ∧ M'.1 (4 + 4 * j) 2 = nI p ∧ M'.1 (4 + 4 * j) 3 = nI m ∧ M'.1 (4 + 4 * j) 4 = s ∧
    (∀ i, 1 ≤ i → i < 4 → M'.1 (4 + 4 * j + 1) i = bkF (M0.1 2) p i ∧ M'.1 (4 + 4 * j + 2) i = msF (M0.1 2) p m i) ∧ (∀ a k, a ≠ 4 + 4 * j → a ≠ 4 + 4 * j + 1 → a ≠ 4 + 4 * j + 2 → M'.1 a k = M0.1 a k) ∧ M'.2 = M0.2) := by
  have ha := jRu_n hj
  have loop : ∀ (r i : Nat), i + r = 4 → 1 ≤ i → ∀ M : jM, (M.1 (4 + 4 * j) 0 = 1 ∧ M.1 (4 + 4 * j) 1 = q ∧ M.1 (4 + 4 * j) 2 = nI p ∧ M.1 (4 + 4 * j) 3 = nI m ∧ M.1 (4 + 4 * j) 4 = s) → (∀ k, 1 ≤ k → k < i → M.1 (4 + 4 * j + 1) k = bkF (M0.1 2) p k ∧ M.1 (4 + 4 * j + 2) k = msF (M0.1 2) p m k) → (∀ a k, a ≠ 4 + 4 * j → a ≠ 4 + 4 * j + 1 → a ≠ 4 + 4 * j + 2 → M.1 a k = M0.1 a k) → M.2 = M0.2 →
      jEv nX5_take (30, [(0, .ref (4 + 4 * j)), (1, .ref 2), (6, .int (nI i))], [], M) (fun o M' => o = some none ∧ M'.1 (4 + 4 * j) 0 = 1 ∧ M'.1 (4 + 4 * j) 1 = q ∧ M'.1 (4 + 4 * j) 2 = nI p ∧ M'.1 (4 + 4 * j) 3 = nI m ∧ M'.1 (4 + 4 * j) 4 = s ∧ (∀ i, 1 ≤ i → i < 4 → M'.1 (4 + 4 * j + 1) i = bkF (M0.1 2) p i ∧ M'.1 (4 + 4 * j + 2) i = msF (M0.1 2) p m i) ∧ (∀ a k, a ≠ 4 + 4 * j → a ≠ 4 + 4 * j + 1 → a ≠ 4 + 4 * j + 2 → M'.1 a k = M0.1 a k) ∧ M'.2 = M0.2) := by
    intro r
    induction r with
    | zero =>
      intro i hi h1 M f1 f2 f3 f4
      have : i = 4 := by omega
      subst this
      exact v_X5_take_30 ha ⟨fun _ => ⟨rfl, f1.1, f1.2.1, f1.2.2.1, f1.2.2.2.1, f1.2.2.2.2, f2, f3, f4⟩, fun w => absurd (by decide) w⟩
    | succ r ih =>
      intro i hi h1 M f1 f2 f3 f4
      have hc : (nI i).toNatClampNeg = i := nI_clamp (by omega)
      have hin := nI_in (c := i) (N := 4) (by omega) (by omega)
      have hi1 : nI i - 1 = nI (i - 1) := pk_sub (b := 1) h1
      have e1 : nI p + nI i - 1 = nI (p + i - 1) := by rw [nI_add]; exact pk_sub (b := 1) (by omega)
      have lp : nI p < nI i ↔ p < i := nI_ltI (by omega) (by omega)
      have lm : nI m < nI i ↔ m < i := nI_ltI (by omega) (by omega)
      have st : ∀ M2, M2 = jsi (jsi M (4 + 4 * j + 1) i (bkF (M0.1 2) p i)) (4 + 4 * j + 2) i (msF (M0.1 2) p m i) → jEv nX5_take (30, [(0, .ref (4 + 4 * j)), (1, .ref 2), (6, .int (nI i + 1))], [], M2) (fun o M' => o = some none ∧ M'.1 (4 + 4 * j) 0 = 1 ∧ M'.1 (4 + 4 * j) 1 = q ∧ M'.1 (4 + 4 * j) 2 = nI p ∧ M'.1 (4 + 4 * j) 3 = nI m ∧ M'.1 (4 + 4 * j) 4 = s ∧ (∀ i, 1 ≤ i → i < 4 → M'.1 (4 + 4 * j + 1) i = bkF (M0.1 2) p i ∧ M'.1 (4 + 4 * j + 2) i = msF (M0.1 2) p m i) ∧ (∀ a k, a ≠ 4 + 4 * j → a ≠ 4 + 4 * j + 1 → a ≠ 4 + 4 * j + 2 → M'.1 a k = M0.1 a k) ∧ M'.2 = M0.2) := by
        intro M2 e2
        have g : ∀ a k, a ≠ 4 + 4 * j + 1 → a ≠ 4 + 4 * j + 2 → M2.1 a k = M.1 a k := fun a k z1 z2 => by rw [e2, jsi_at, if_neg (by omega), jsi_at, if_neg (by omega)]
        rw [nI_1]
        refine ih (i + 1) (by omega) (by omega) M2 ?_ (fun k k1 k2 => ?_) (fun a k z1 z2 z3 => ?_) (by rw [e2]; exact f4)
        · rw [g _ 0 (by omega) (by omega), g _ 1 (by omega) (by omega), g _ 2 (by omega) (by omega), g _ 3 (by omega) (by omega), g _ 4 (by omega) (by omega)]
          exact f1
        · rw [e2, jsi_at, if_neg (by omega), jsi_at, jsi_at]
          by_cases e : k = i
          · rw [if_pos ⟨rfl, e⟩, if_pos ⟨rfl, e⟩, e]; exact ⟨rfl, rfl⟩
          · rw [if_neg (by omega), if_neg (by omega), jsi_at, if_neg (by omega)]; exact f2 k k1 (by omega)
        · rw [g a k z2 z3]; exact f3 a k z1 z2 z3
      have b3 : ∀ k, M.1 2 k = M0.1 2 k := fun k => f3 2 k (by omega) (by omega) (by omega)
      refine v_X5_take_30 ha ⟨fun w => absurd w (nI_nlt (a := 3) (by omega) (by omega)), fun _ => ?_⟩
      rw [f1.2.2.1, hc, hi1]
      refine ⟨fun w => ⟨?_, fun M1 e3 => ?_⟩, fun w => ⟨nI_in (by omega) (by omega), ?_, fun M1 e3 => ?_⟩⟩
      · rw [hc] at hin; exact hin
      · have a3 : M1.1 (4 + 4 * j) 3 = nI m := by rw [e3, jsi_at, if_neg (by omega)]; exact f1.2.2.2.1
        have a2 : M1.1 (4 + 4 * j) 2 = nI p := by rw [e3, jsi_at, if_neg (by omega)]; exact f1.2.2.1
        have bb : bkF (M0.1 2) p i = 0 := by unfold bkF; rw [if_neg (by have := lp.mp w; omega)]
        rw [a3, a2, e1]
        refine ⟨fun w2 => ⟨by rw [hc] at hin; exact hin, fun M2 e4 => st M2 ?_⟩, fun w2 => ⟨nI_in (by omega) (by omega), by rw [hc] at hin; exact hin, fun M2 e4 => st M2 ?_⟩⟩
        · rw [e4, e3, bb]; unfold msF; rw [if_neg (by have := lm.mp w2; omega)]
        · rw [e4, e3, bb, nI_clamp (by omega)]
          unfold msF
          rw [if_pos (Nat.not_lt.mp (fun z => w2 (lm.mpr z))), jsi_at, if_neg (by omega), b3]
      · rw [hc] at hin; exact hin
      · have a3 : M1.1 (4 + 4 * j) 3 = nI m := by rw [e3, jsi_at, if_neg (by omega)]; exact f1.2.2.2.1
        have a2 : M1.1 (4 + 4 * j) 2 = nI p := by rw [e3, jsi_at, if_neg (by omega)]; exact f1.2.2.1
        have bb : M.1 2 (nI (i - 1)).toNatClampNeg = bkF (M0.1 2) p i := by unfold bkF; rw [if_pos (Nat.not_lt.mp (fun z => w (lp.mpr z))), nI_clamp (by omega), b3]
        rw [bb] at e3
        rw [a3, a2, e1]
        refine ⟨fun w2 => ⟨by rw [hc] at hin; exact hin, fun M2 e4 => st M2 ?_⟩, fun w2 => ⟨nI_in (by omega) (by omega), by rw [hc] at hin; exact hin, fun M2 e4 => st M2 ?_⟩⟩
        · rw [e4, e3]; unfold msF; rw [if_neg (by have := lm.mp w2; omega)]
        · rw [e4, e3, nI_clamp (by omega)]
          unfold msF
          rw [if_pos (Nat.not_lt.mp (fun z => w2 (lm.mpr z))), jsi_at, if_neg (by omega), b3]
  refine v_X5_take_0 ha (fun M1 e1 M2 e2 M3 e3 M4 e4 M5 e5 => loop 3 1 rfl (Nat.le_refl 1) M5 ?_ (fun k k1 k2 => absurd k2 (by omega)) (fun a k z1 z2 z3 => ?_) (by rw [e5, e4, e3, e2, e1]; rfl))
  · refine ⟨?_, ?_, ?_, ?_, ?_⟩
    · simp [e5, e4, e3, e2, e1, jsi_at]
    · simp [e5, e4, e3, e2, e1, jsi_at]
    · simp [e5, e4, e3, e2, e1, jsi_at]
    · simp [e5, e4, e3, e2, e1, jsi_at]
    · simp [e5, e4, e3, e2, e1, jsi_at]
  · simp [e5, e4, e3, e2, e1, jsi_at, z1]
/-- the model's laying down of shares -/
theorem s_X8_rule_lay (M0 : jM) {j : Nat} (hj : j < 6) {p m : Nat} (hp : p ≤ 3) (hm : m ≤ 3) : ∀ (r i : Nat), i + r = 4 → 1 ≤ i → ∀ M : jM, (∀ k, 1 ≤ k → k < i → M.1 74 (4 * j + k) = bkF (M0.1 68) p k ∧ M.1 75 (4 * j + k) = msF (M0.1 68) p m k) → (∀ a k, ¬ ((a = 74 ∨ a = 75) ∧ 4 * j < k ∧ k < 4 * j + 4) → M.1 a k = M0.1 a k) → M.2 = M0.2 →
      jEv nX8_rule (157, [(0, .ref 67), (1, .int (nI j)), (3, .int (nI p)), (4, .int (nI m)), (7, .int (nI i))], [], M) (fun o M' => o = some (some (.int 1)) ∧ (∀ k, 1 ≤ k → k < 4 → M'.1 74 (4 * j + k) = bkF (M0.1 68) p k ∧ M'.1 75 (4 * j + k) = msF (M0.1 68) p m k) ∧ (∀ a k, ¬ ((a = 74 ∨ a = 75) ∧ 4 * j < k ∧ k < 4 * j + 4) → M'.1 a k = M0.1 a k) ∧ M'.2 = M0.2) := by
  intro r
  induction r with
  | zero =>
    intro i hi h1 M f2 f3 f4
    have : i = 4 := by omega
    subst this
    exact v_X8_rule_157 ⟨fun _ => ⟨rfl, f2, f3, f4⟩, fun w => absurd (by decide) w⟩
  | succ r ih =>
    intro i hi h1 M f2 f3 f4
    have hi1 : nI i - 1 = nI (i - 1) := pk_sub (b := 1) h1
    have e1 : nI p + nI i - 1 = nI (p + i - 1) := by rw [nI_add]; exact pk_sub (b := 1) (by omega)
    have e4j : 4 * nI j + nI i = nI (4 * j + i) := by rw [show (4 : Int32) = nI 4 from rfl, pk_mul, nI_add]
    have lp : nI p < nI i ↔ p < i := nI_ltI (by omega) (by omega)
    have lm : nI m < nI i ↔ m < i := nI_ltI (by omega) (by omega)
    have hc4 : (nI (4 * j + i)).toNatClampNeg = 4 * j + i := nI_clamp (by omega)
    have hin := nI_in (c := 4 * j + i) (N := 24) (by omega) (by omega)
    have st : ∀ M2, M2 = jsi (jsi M 74 (4 * j + i) (bkF (M0.1 68) p i)) 75 (4 * j + i) (msF (M0.1 68) p m i) → jEv nX8_rule (157, [(0, .ref 67), (1, .int (nI j)), (3, .int (nI p)), (4, .int (nI m)), (7, .int (nI i + 1))], [], M2) (fun o M' => o = some (some (.int 1)) ∧ (∀ k, 1 ≤ k → k < 4 → M'.1 74 (4 * j + k) = bkF (M0.1 68) p k ∧ M'.1 75 (4 * j + k) = msF (M0.1 68) p m k) ∧ (∀ a k, ¬ ((a = 74 ∨ a = 75) ∧ 4 * j < k ∧ k < 4 * j + 4) → M'.1 a k = M0.1 a k) ∧ M'.2 = M0.2) := by
      intro M2 e2
      rw [nI_1]
      refine ih (i + 1) (by omega) (by omega) M2 (fun k k1 k2 => ?_) (fun a k z => ?_) (by rw [e2]; exact f4)
      · rw [e2, jsi_at, if_neg (by omega), jsi_at, jsi_at]
        by_cases e : k = i
        · rw [if_pos ⟨rfl, by omega⟩, if_pos ⟨rfl, by omega⟩, e]; exact ⟨rfl, rfl⟩
        · rw [if_neg (by omega), if_neg (by omega), jsi_at, if_neg (by omega)]; exact f2 k k1 (by omega)
      · rw [e2, jsi_at, if_neg (by omega), jsi_at, if_neg (by omega)]; exact f3 a k z
    have b3 : ∀ k, M.1 68 k = M0.1 68 k := fun k => f3 68 k (by omega)
    rw [hc4] at hin
    refine v_X8_rule_157 ⟨fun w => absurd w (nI_ge (b := 4) (by omega) (by omega)), fun _ => ?_⟩
    rw [e4j, hc4, hi1, e1]
    refine ⟨fun w => ⟨hin, fun M1 e3 => ⟨fun w2 => ⟨hin, fun M2 e4 => st M2 ?_⟩, fun w2 => ⟨nI_in (by omega) (by omega), hin, fun M2 e4 => st M2 ?_⟩⟩⟩, fun w => ⟨nI_in (by omega) (by omega), hin, fun M1 e3 => ⟨fun w2 => ⟨hin, fun M2 e4 => st M2 ?_⟩, fun w2 => ⟨nI_in (by omega) (by omega), hin, fun M2 e4 => st M2 ?_⟩⟩⟩⟩
    · rw [e4, e3, bkF_hi (lp.mp w), msF_hi (lm.mp w2)]
    · rw [e4, e3, nI_clamp (by omega), bkF_hi (lp.mp w), msF_lo (fun z => w2 (lm.mpr z)), jsi_at, if_neg (by omega), b3]
    · rw [e4, e3, nI_clamp (by omega), b3, bkF_lo (fun z => w (lp.mpr z)), msF_hi (lm.mp w2)]
    · rw [e4, e3, nI_clamp (by omega), nI_clamp (by omega), b3, bkF_lo (fun z => w (lp.mpr z)), msF_lo (fun z => w2 (lm.mpr z)), jsi_at, if_neg (by omega), b3]
/-- a share's byte -/
def okS (v : Int32) : Prop := -8 ≤ v ∧ v ≤ 8
theorem okS_dec (f : Nat → Int32) (n : Nat) : (∀ i, i < n → okS (f i)) ∨ ∃ i, i < n ∧ ¬ okS (f i) := by
  by_cases h : ∃ i, i < n ∧ ¬ okS (f i)
  · exact Or.inr h
  · refine Or.inl (fun i hi => ?_)
    by_cases w : okS (f i)
    · exact w
    · exact absurd ⟨i, hi, w⟩ h
theorem s_isEachWithin_yes (M : jM) {n : Nat} (hn : n ≤ 6) (h : ∀ i, i < n → okS (M.1 2 i)) : ∀ (r i : Nat), i + r = n → jTo nX6_isEachWithin (2, [(0, .ref 1), (1, .int (nI n)), (2, .int 8), (3, .int (nI i))], [], M) (some (some (.int 1))) M := by
  intro r
  induction r with
  | zero =>
    intro i hi
    have : i = n := by omega
    subst this
    exact v_X6_isEachWithin_2 ⟨fun _ => ⟨rfl, rfl⟩, fun q => absurd (Int32.le_refl _) q⟩
  | succ r ih =>
    intro i hi
    have hc : (nI i).toNatClampNeg = i := nI_clamp (by omega)
    refine v_X6_isEachWithin_2 ⟨fun q => absurd q (nI_ge (by omega) (by omega)), fun _ => ⟨nI_in (by omega) (by omega), ?_⟩⟩
    have w : -(8 : Int32) ≤ M.1 2 i ∧ M.1 2 i ≤ 8 := h i (by omega)
    rw [hc, e_isWithin, if_pos w]
    refine ⟨_, rfl, fun z => absurd z (by decide), fun _ => ?_⟩
    rw [nI_1]; exact ih (i + 1) (by omega)
theorem s_isEachWithin_no (M : jM) {n : Nat} (hn : n ≤ 6) : ∀ (r i : Nat), i + r = n → (∃ k, i ≤ k ∧ k < n ∧ ¬ okS (M.1 2 k)) → jTo nX6_isEachWithin (2, [(0, .ref 1), (1, .int (nI n)), (2, .int 8), (3, .int (nI i))], [], M) (some (some (.int 0))) M := by
  intro r
  induction r with
  | zero =>
    intro i hi h
    obtain ⟨k, k1, k2, -⟩ := h
    exact absurd k2 (by omega)
  | succ r ih =>
    intro i hi h
    have hc : (nI i).toNatClampNeg = i := nI_clamp (by omega)
    refine v_X6_isEachWithin_2 ⟨fun q => absurd q (nI_ge (by omega) (by omega)), fun _ => ⟨nI_in (by omega) (by omega), ?_⟩⟩
    rw [hc, e_isWithin]
    by_cases hr : -8 ≤ M.1 2 i ∧ M.1 2 i ≤ 8
    · rw [show (-(8 : Int32)) = -8 from rfl, if_pos hr]
      refine ⟨_, rfl, fun z => absurd z (by decide), fun _ => ?_⟩
      rw [nI_1]
      refine ih (i + 1) (by omega) ?_
      obtain ⟨k, k1, k2, k3⟩ := h
      refine ⟨k, ?_, k2, k3⟩
      rcases Nat.lt_or_ge i k with w | w
      · omega
      · have : k = i := by omega
        rw [this] at k3
        exact absurd hr k3
    · rw [show (-(8 : Int32)) = -8 from rfl, if_neg hr]
      exact ⟨_, rfl, fun _ => ⟨rfl, rfl⟩, fun z => absurd rfl z⟩
/-- the model holds the bytes against what a rule takes -/
theorem s_X8_rule_chk_no {M : jM} {x q p m s : Int32} {n : Nat} (hn : n ≤ 6) : ∀ (r i : Nat), i + r = n → (∃ k, i ≤ k ∧ k < n ∧ ¬ okS (M.1 68 k)) → jTo nX8_rule (78, [(0, .ref 67), (1, .int x), (2, .int q), (3, .int p), (4, .int m), (5, .int s), (6, .int (nI n)), (7, .int (nI i))], [], M) (some (some (.int 0))) M := by
  intro r
  induction r with
  | zero =>
    intro i hi h
    obtain ⟨k, k1, k2, -⟩ := h
    exact absurd k2 (by omega)
  | succ r ih =>
    intro i hi h
    have hc : (nI i).toNatClampNeg = i := nI_clamp (by omega)
    have hin := nI_in (c := i) (N := 100) (by omega) (by omega)
    refine v_X8_rule_78 ⟨fun q => absurd q (nI_ge (by omega) (by omega)), fun _ => ⟨hin, ?_⟩⟩
    rw [hc] at hin ⊢
    refine ⟨fun _ => ⟨rfl, rfl⟩, fun z1 => ⟨hin, fun z2 => ?_, fun _ => ⟨rfl, rfl⟩⟩⟩
    rw [nI_1]
    refine ih (i + 1) (by omega) ?_
    obtain ⟨k, k1, k2, k3⟩ := h
    refine ⟨k, ?_, k2, k3⟩
    rcases Nat.lt_or_ge i k with w | w
    · omega
    · have : k = i := by omega
      rw [this] at k3
      exact absurd ⟨Int32.not_lt.mp z1, z2⟩ k3
theorem s_X8_rule_chk_yes {M0 : jM} {j : Nat} (hj : j < 6) {q s : Int32} {p m : Nat} (hp : p ≤ 3) (hm : m ≤ 3) (h : ∀ i, i < p + m → okS (M0.1 68 i)) : ∀ (r i : Nat), i + r = p + m → jEv nX8_rule (78, [(0, .ref 67), (1, .int (nI j)), (2, .int q), (3, .int (nI p)), (4, .int (nI m)), (5, .int s), (6, .int (nI (p + m))), (7, .int (nI i))], [], M0) (fun o M' => o = some (some (.int 1)) ∧ M'.1 69 j = 1 ∧ M'.1 70 j = q ∧ M'.1 71 j = nI p ∧ M'.1 72 j = nI m ∧ M'.1 73 j = s ∧ (∀ k, 1 ≤ k → k < 4 → M'.1 74 (4 * j + k) = bkF (M0.1 68) p k ∧ M'.1 75 (4 * j + k) = msF (M0.1 68) p m k) ∧
    (∀ a k, ¬ (69 ≤ a ∧ a ≤ 73 ∧ k = j) → ¬ ((a = 74 ∨ a = 75) ∧ 4 * j < k ∧ k < 4 * j + 4) → M'.1 a k = M0.1 a k) ∧ M'.2 = M0.2) := by
  obtain ⟨s1, s2, s3⟩ := slot_in hj
  intro r
  induction r with
  | zero =>
    intro i hi
    have : i = p + m := by omega
    subst this
    refine v_X8_rule_78 ⟨fun _ => ⟨s2, fun M1 e1 => ⟨s2, fun M2 e2 => ⟨s2, fun M3 e3 => ⟨s2, fun M4 e4 => ⟨s2, fun M5 e5 => ?_⟩⟩⟩⟩⟩, fun q => absurd (Int32.le_refl _) q⟩
    rw [s3] at e1 e2 e3 e4 e5
    have g : ∀ a k, ¬ (69 ≤ a ∧ a ≤ 73 ∧ k = j) → M5.1 a k = M0.1 a k := fun a k z => by rw [e5, jsi_at, if_neg (by omega), e4, jsi_at, if_neg (by omega), e3, jsi_at, if_neg (by omega), e2, jsi_at, if_neg (by omega), e1, jsi_at, if_neg (by omega)]
    have b68 : M5.1 68 = M0.1 68 := funext fun k => g 68 k (by omega)
    refine jEv.mono (s_X8_rule_lay M5 hj hp hm 3 1 rfl (Nat.le_refl 1) M5 (fun k k1 k2 => absurd k2 (by omega)) (fun _ _ _ => rfl) rfl) (fun o M6 w => ⟨w.1, ?_, ?_, ?_, ?_, ?_, ?_, fun a k z1 z2 => ?_, ?_⟩)
    · rw [w.2.2.1 69 j (by omega), e5, jsi_at, if_neg (by omega), e4, jsi_at, if_neg (by omega), e3, jsi_at, if_neg (by omega), e2, jsi_at, if_neg (by omega), e1, jsi_at, if_pos ⟨rfl, rfl⟩]; rfl
    · rw [w.2.2.1 70 j (by omega), e5, jsi_at, if_neg (by omega), e4, jsi_at, if_neg (by omega), e3, jsi_at, if_neg (by omega), e2, jsi_at, if_pos ⟨rfl, rfl⟩]
    · rw [w.2.2.1 71 j (by omega), e5, jsi_at, if_neg (by omega), e4, jsi_at, if_neg (by omega), e3, jsi_at, if_pos ⟨rfl, rfl⟩]
    · rw [w.2.2.1 72 j (by omega), e5, jsi_at, if_neg (by omega), e4, jsi_at, if_pos ⟨rfl, rfl⟩]
    · rw [w.2.2.1 73 j (by omega), e5, jsi_at, if_pos ⟨rfl, rfl⟩]
    · rw [← b68]; exact w.2.1
    · rw [w.2.2.1 a k z2]; exact g a k z1
    · rw [w.2.2.2, e5, e4, e3, e2, e1]; rfl
  | succ r ih =>
    intro i hi
    have hc : (nI i).toNatClampNeg = i := nI_clamp (by omega)
    have hin := nI_in (c := i) (N := 100) (by omega) (by omega)
    obtain ⟨w1, w2⟩ := h i (by omega)
    refine v_X8_rule_78 ⟨fun q => absurd q (nI_ge (by omega) (by omega)), fun _ => ⟨hin, ?_⟩⟩
    rw [hc] at hin ⊢
    refine ⟨fun z => absurd z (Int32.not_lt.mpr w1), fun z1 => ⟨hin, fun z2 => ?_, fun z => absurd w2 z⟩⟩
    rw [nI_1]
    exact ih (i + 1) (by omega)
