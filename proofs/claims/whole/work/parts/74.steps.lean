/-! steps: the model's side -/
def bFr (M0 M : jM) : Prop := (∀ a k, a ≠ 89 → M.1 a k = M0.1 a k) ∧ ∀ a k, a ≠ 88 → M.2 a k = M0.2 a k
theorem bFr.rfl' (M : jM) : bFr M M := ⟨fun _ _ _ => rfl, fun _ _ _ => rfl⟩
theorem bFr.trans {M1 M2 M3 : jM} (h : bFr M1 M2) (g : bFr M2 M3) : bFr M1 M3 := ⟨fun a k z => (g.1 a k z).trans (h.1 a k z), fun a k z => (g.2 a k z).trans (h.2 a k z)⟩
theorem bFr.kp {M0 M : jM} (h : bFr M0 M) : iKp M0 M := ⟨fun a k _ _ _ z _ _ => h.1 a k z, fun a k z => h.2 a k (by omega)⟩
theorem dFr.b {M0 M : jM} (h : dFr M0 M) : bFr M0 M := ⟨h.2, fun a k _ => by rw [h.1]⟩
theorem vL.b {M0 M : jM} {j n : Nat} {r : Nat → Int32} (v : vL M0 j n r) (hj : j < 6) (h : bFr M0 M) : vL M j n r := v.kp hj h.kp.i
theorem nI5 (i c : Nat) : 5 * nI i + nI c = nI (5 * i + c) := by rw [show (5 : Int32) = nI 5 from rfl, pk_mul, nI_add]
theorem m_toep {M0 : jM} {j n k : Nat} {r : Nat → Int32} (hj : j < 6) (v : vL M0 j n r) (hk : k ≤ n) : jEv nX8_toeplitz (0, [(0, .ref 67), (1, .int (nI j)), (2, .int (nI k))], [], M0) (fun o M' => o = some none ∧ M'.1 = M0.1 ∧ (∀ a q, a ≠ 88 → M'.2 a q = M0.2 a q) ∧ ∀ i c, i < k → c < k → M'.2 88 (5 * i + c) = tz (tR r) i c) := by
  have hn := v.2.1
  have lp2 : ∀ (i : Nat), i < k → (∀ M, M.1 = M0.1 → (∀ a q, a ≠ 88 → M.2 a q = M0.2 a q) → (∀ i' c, i' < i + 1 → c < k → M.2 88 (5 * i' + c) = tz (tR r) i' c) → jEv nX8_toeplitz (2, [(0, .ref 67), (1, .int (nI j)), (2, .int (nI k)), (3, .int (nI (i + 1)))], [], M) (fun o M' => o = some none ∧ M'.1 = M0.1 ∧ (∀ a q, a ≠ 88 → M'.2 a q = M0.2 a q) ∧ ∀ i c, i < k → c < k → M'.2 88 (5 * i + c) = tz (tR r) i c)) → ∀ (d c : Nat), c + d = k → ∀ M, M.1 = M0.1 → (∀ a q, a ≠ 88 → M.2 a q = M0.2 a q) → (∀ i' c, i' < i → c < k → M.2 88 (5 * i' + c) = tz (tR r) i' c) → (∀ x, x < c → M.2 88 (5 * i + x) = tz (tR r) i x) → jEv nX8_toeplitz (10, [(0, .ref 67), (1, .int (nI j)), (2, .int (nI k)), (3, .int (nI i)), (4, .int (nI c))], [], M) (fun o M' => o = some none ∧ M'.1 = M0.1 ∧ (∀ a q, a ≠ 88 → M'.2 a q = M0.2 a q) ∧ ∀ i c, i < k → c < k → M'.2 88 (5 * i + c) = tz (tR r) i c) := by
    intro i hi nx d
    induction d with
    | zero =>
      intro c hc M f1 f2 s1 s2
      have : c = k := by omega
      subst this
      refine v_X8_toeplitz_10 ⟨fun _ => ?_, fun z => absurd (Int32.le_refl _) z⟩
      rw [nI_1]
      refine nx M f1 f2 (fun i' x hi' hx => ?_)
      by_cases z : i' = i
      · subst z; exact s2 x hx
      · exact s1 i' x (by omega) hx
    | succ d ih =>
      intro c hc M f1 f2 s1 s2
      have l := nd_lt (i := i) (j := c) (k := k) (by omega) (by omega)
      have st : ∀ M2 : jM, M2 = jsl M 88 (5 * i + c) (tz (tR r) i c) → jEv nX8_toeplitz (10, [(0, .ref 67), (1, .int (nI j)), (2, .int (nI k)), (3, .int (nI i)), (4, .int (nI c + 1))], [], M2) (fun o M' => o = some none ∧ M'.1 = M0.1 ∧ (∀ a q, a ≠ 88 → M'.2 a q = M0.2 a q) ∧ ∀ i c, i < k → c < k → M'.2 88 (5 * i + c) = tz (tR r) i c) := by
        intro M2 e2
        rw [nI_1]
        refine ih (c + 1) (by omega) M2 (by rw [e2]; exact f1) (fun a q ha => by rw [e2, jsl_at, if_neg (fun z => ha z.1)]; exact f2 a q ha) (fun i' x hi' hx => ?_) (fun x hx => ?_)
        · rw [e2, jsl_at, if_neg (by omega)]; exact s1 i' x hi' hx
        · rw [e2, jsl_at]
          by_cases z : x = c
          · rw [if_pos ⟨rfl, by rw [z]⟩, z]
          · rw [if_neg (by omega)]; exact s2 x (by omega)
      refine v_X8_toeplitz_10 ⟨fun z => absurd z (nI_ge (by omega) (by omega)), fun _ => ⟨fun z => ?_, fun z => ?_⟩⟩
      · have z' : i ≤ c := (nI_leI (by omega) (by omega)).mp z
        rw [nI_sub z', nI5, nI5]
        refine ⟨nI_in (by omega) (by omega), nI_in (by omega) (by omega), fun M2 e2 => st M2 ?_⟩
        rw [e2, nI_clamp (by omega), nI_clamp (by omega), f1, show c - i = nd i c by unfold nd; omega, (v.2.2.2.2.1 (nd i c) (by omega)).2.1]; rfl
      · have z' : ¬ i ≤ c := fun y => z ((nI_leI (by omega) (by omega)).mpr y)
        rw [nI_sub (by omega), nI5, nI5]
        refine ⟨nI_in (by omega) (by omega), nI_in (by omega) (by omega), fun M2 e2 => st M2 ?_⟩
        rw [e2, nI_clamp (by omega), nI_clamp (by omega), f1, show i - c = nd i c by unfold nd; omega, (v.2.2.2.2.1 (nd i c) (by omega)).2.1]; rfl
  have lp : ∀ (d i : Nat), i + d = k → ∀ M, M.1 = M0.1 → (∀ a q, a ≠ 88 → M.2 a q = M0.2 a q) → (∀ i' c, i' < i → c < k → M.2 88 (5 * i' + c) = tz (tR r) i' c) → jEv nX8_toeplitz (2, [(0, .ref 67), (1, .int (nI j)), (2, .int (nI k)), (3, .int (nI i))], [], M) (fun o M' => o = some none ∧ M'.1 = M0.1 ∧ (∀ a q, a ≠ 88 → M'.2 a q = M0.2 a q) ∧ ∀ i c, i < k → c < k → M'.2 88 (5 * i + c) = tz (tR r) i c) := by
    intro d
    induction d with
    | zero =>
      intro i hi M f1 f2 s1
      have : i = k := by omega
      subst this
      exact v_X8_toeplitz_2 ⟨fun _ => ⟨rfl, f1, f2, s1⟩, fun z => absurd (Int32.le_refl _) z⟩
    | succ d ih =>
      intro i hi M f1 f2 s1
      exact v_X8_toeplitz_2 ⟨fun z => absurd z (nI_ge (by omega) (by omega)), fun _ => lp2 i (by omega) (fun M' g1 g2 g3 => ih (i + 1) (by omega) M' g1 g2 g3) k 0 (by omega) M f1 f2 s1 (fun x hx => absurd hx (by omega))⟩
  exact v_X8_toeplitz_0 (lp k 0 (by omega) M0 rfl (fun _ _ _ => rfl) (fun i' c hi' => absurd hi' (by omega)))
theorem m_block {M0 : jM} {j n k : Nat} {r : Nat → Int32} (hj : j < 6) (v : vL M0 j n r) (hk : k ≤ n) : jEv nX8_block (0, [(0, .ref 67), (1, .int (nI j)), (2, .int (nI k))], [], M0) (fun o M' => o = some (some (.long (tD r k))) ∧ bFr M0 M') := by
  have hn := v.2.1
  refine v_X8_block_0 (jEv.mono (m_toep hj v hk) (fun o M2 z => ⟨z.1, ?_⟩))
  obtain ⟨-, z1, z2, z3⟩ := z
  refine jEv.mono (m_det (M0 := M2) (n := k) (by omega)) (fun o M4 y => ⟨_, y.1, ?_, ?_⟩)
  · rw [dM_congr (fun i c hi hc => z3 i c hi hc)]; rfl
  · exact bFr.trans ⟨fun a q _ => by rw [z1], z2⟩ y.2.b
theorem m_stepsOf {M0 : jM} {j n : Nat} {r : Nat → Int32} (hj : j < 6) (v : vL M0 j n r) : jEv nX8_stepsOf (0, [(0, .ref 67), (1, .int (nI j))], [], M0) (fun o M' => o = some (some (.int (nI (stS (tD r) (n - 1) 0)))) ∧ bFr M0 M') := by
  obtain ⟨g1, g2, g3⟩ := slot_in hj
  have hn := v.2.1
  have hn1 := v.1
  have lp : ∀ (d k : Nat), k + d = n - 1 → ∀ M, bFr M0 M → stS (tD r) d k = stS (tD r) (n - 1) 0 → jEv nX8_stepsOf (2, [(0, .ref 67), (1, .int (nI j)), (2, .int (nI k))], [], M) (fun o M' => o = some (some (.int (nI (stS (tD r) (n - 1) 0)))) ∧ bFr M0 M') := by
    intro d
    induction d with
    | zero =>
      intro k hk M f hs
      refine v_X8_stepsOf_2 ⟨g2, ?_⟩
      rw [g3, f.1 86 j (by decide), v.2.2.2.1, nI_1]
      refine ⟨fun _ => ⟨?_, f⟩, fun z => absurd (nI_le (by omega) (by omega)) z⟩
      rw [← hs]; rfl
    | succ d ih =>
      intro k hk M f hs
      refine v_X8_stepsOf_2 ⟨g2, ?_⟩
      rw [g3, f.1 86 j (by decide), v.2.2.2.1, nI_1]
      refine ⟨fun z => absurd z (nI_ge (by omega) (by omega)), fun _ => jEv.mono (m_block hj (v.b hj f) (k := k + 1) (by omega)) (fun o M2 y => ⟨_, y.1, fun z => ⟨?_, f.trans y.2⟩, fun z => ih (k + 1) (by omega) M2 (f.trans y.2) ?_⟩)⟩
      · rw [← hs]
        exact congrArg (fun q => some (some (Value.int (nI q)))) (if_neg (Int64.not_lt.mpr z)).symm
      · rw [← hs]
        exact (if_pos (Int64.not_le.mp z)).symm
  exact v_X8_stepsOf_0 (lp (n - 1) 0 (by omega) M0 (bFr.rfl' M0) rfl)
/-! sizes -/
theorem tR_b {M : jM} {j n : Nat} {r : Nat → Int32} (v : vL M j n r) {i : Nat} (hi : i < n) : aL (tR r i) 1000 := by
  obtain ⟨-, -, -, -, h, h1, h2⟩ := v
  obtain ⟨-, -, h3, h4⟩ := h i hi
  exact aL_w (by omega)
theorem tD_b {M : jM} {j n : Nat} {r : Nat → Int32} (v : vL M j n r) {k : Nat} (hk : k ≤ n) : (tD r k).toInt ≠ -9223372036854775808 := by
  have hn := v.2.1
  have hp : 3125 * 1000 ^ k < 9223372036854775808 := by
    have := Nat.pow_le_pow_right (n := 1000) (by decide) (show k ≤ 5 by omega)
    omega
  exact (dM_b (C := 1000) (by omega) (by decide) hp (fun i c hi hc => tR_b v (Nat.lt_of_lt_of_le (nd_lt hi hc) hk))).ne hp
theorem tJ_b {M : jM} {j n : Nat} {r : Nat → Int32} (v : vL M j n r) {k : Nat} (hk : k < n) (q : Nat) : (dM (tzj (tR r) q) k).toInt ≠ -9223372036854775808 := by
  have hn := v.2.1
  have hp : 3125 * 1000 ^ k < 9223372036854775808 := by
    have := Nat.pow_le_pow_right (n := 1000) (by decide) (show k ≤ 5 by omega)
    omega
  refine (dM_b (C := 1000) (by omega) (by decide) hp (fun i c hi hc => ?_)).ne hp
  unfold tzj
  split
  · exact tR_b v (by omega)
  · exact tR_b v (Nat.lt_trans (nd_lt hi hc) hk)
/-! steps, solid: both -/
theorem op_steps {M : jM} (h : iInv M) (y : Int32) : jBoth nX7_steps nX8_steps [(0, .ref 0), (1, .int y)] [(0, .ref 67), (1, .int y)] M := by
  rcases lik_cs h y with ⟨c, m⟩ | ⟨j, n, r, hj, rfl, v⟩
  · refine both_i (r := -1) h (v_X7_steps_0 ?_) (fun M1 k => v_X8_steps_0 (fun M2 e2 => ?_))
    · rw [(c M (iI.rfl' M)).iff]
      exact Or.inl ⟨rfl, rfl, iKp.rfl' M⟩
    · have k2 := kp67 e2
      rw [(m M2 (k.trans k2.i)).iff]
      exact ⟨_, rfl, fun _ => ⟨rfl, k2⟩, fun z => absurd rfl z⟩
  · refine both_i (r := nI (stS (tD r) (n - 1) 0)) h (v_X7_steps_0 ?_) (fun M1 k => v_X8_steps_0 (fun M2 e2 => ?_))
    · rw [(c_lik hj v).iff]
      exact Or.inr ⟨_, ⟨j, hj, rfl⟩, rfl, jEv.mono (c_stepsThere hj v) (fun o M5 z => ⟨_, z.1, rfl, z.2.kp⟩)⟩
    · have k2 := kp67 e2
      have v2 := v.kp hj (k.trans k2.i)
      rw [(m_lik hj v2).iff]
      exact ⟨_, rfl, fun z => absurd z (by decide), fun _ => jEv.mono (m_stepsOf hj v2) (fun o M6 z => ⟨_, z.1, rfl, k2.trans z.2.kp⟩)⟩
theorem op_solid {M : jM} (h : iInv M) (y : Int32) : jBoth nX7_solid nX8_solid [(0, .ref 0), (1, .int y)] [(0, .ref 67), (1, .int y)] M := by
  rcases lik_cs h y with ⟨c, m⟩ | ⟨j, n, r, hj, rfl, v⟩
  · refine both_i (r := -1) h (v_X7_solid_0 ?_) (fun M1 k => v_X8_solid_0 (fun M2 e2 => ?_))
    · rw [(c M (iI.rfl' M)).iff]
      exact Or.inl ⟨rfl, rfl, iKp.rfl' M⟩
    · have k2 := kp67 e2
      rw [(m M2 (k.trans k2.i)).iff]
      exact ⟨_, rfl, fun _ => ⟨rfl, k2⟩, fun z => absurd rfl z⟩
  · obtain ⟨g1, g2, g3⟩ := slot_in hj
    have hn := v.2.1
    have hn1 := v.1
    have e1 : nI n - 1 = nI (n - 1) := by
      have := nI_pred (n - 1)
      rw [show n - 1 + 1 = n by omega] at this
      exact this
    have hl := stS_le (tD r) (n - 1) 0
    refine both_i (r := if stS (tD r) (n - 1) 0 = n - 1 ∧ ¬ tD r n < 0 then 1 else 0) h (v_X7_solid_0 ?_) (fun M1 k => v_X8_solid_0 (fun M2 e2 => ?_))
    · rw [(c_lik hj v).iff]
      refine Or.inr ⟨_, ⟨j, hj, rfl⟩, rfl, v_X3_holds_0 ⟨j, hj, rfl⟩ (jEv.mono (c_stepsThere hj v) (fun o M5 z => ⟨_, z.1, ?_⟩))⟩
      obtain ⟨-, f⟩ := z
      rw [v.2.2.1, e1]
      refine ⟨fun w => ?_, fun w => ⟨_, rfl, fun _ => ⟨?_, f.kp⟩, fun z => absurd rfl z⟩⟩
      · have w' : stS (tD r) (n - 1) 0 = n - 1 := by
          have := (nI_leI (by omega) (by omega)).mp w
          omega
        have hp : 0 < tD r (n - 1) := stS_pos (tD r) (n - 1) 0 (tD_0 r) (n - 1) (by omega) (by omega)
        refine c_stepRest (K := fun r8 M7 => (r8 < 0 → ∃ r6 : Int32, some (some (Value.int 0)) = some (some (.int r6)) ∧ ((r6 = 0 → some (some (Value.int 0)) = some (some (.int (if stS (tD r) (n - 1) 0 = n - 1 ∧ ¬ tD r n < 0 then 1 else 0))) ∧ iKp M M7) ∧ (¬ r6 = 0 → some (some (Value.int 1)) = some (some (.int (if stS (tD r) (n - 1) 0 = n - 1 ∧ ¬ tD r n < 0 then 1 else 0))) ∧ iKp M M7))) ∧ (¬ (r8 < 0) → ∃ r6 : Int32, some (some (Value.int 1)) = some (some (.int r6)) ∧ ((r6 = 0 → some (some (Value.int 0)) = some (some (.int (if stS (tD r) (n - 1) 0 = n - 1 ∧ ¬ tD r n < 0 then 1 else 0))) ∧ iKp M M7) ∧ (¬ r6 = 0 → some (some (Value.int 1)) = some (some (.int (if stS (tD r) (n - 1) 0 = n - 1 ∧ ¬ tD r n < 0 then 1 else 0))) ∧ iKp M M7)))) hj (v.s hj f.1) (k := n - 1) (by omega) hp (fun M7 f7 _ _ => ?_)
        rw [show n - 1 + 1 = n by omega]
        refine ⟨fun q => ⟨_, rfl, fun _ => ⟨?_, f.kp.trans f7.kp⟩, fun z => absurd rfl z⟩, fun q => ⟨_, rfl, fun z => absurd z (by decide), fun _ => ⟨?_, f.kp.trans f7.kp⟩⟩⟩
        · rw [if_neg (fun z => z.2 q)]
        · rw [if_pos ⟨w', q⟩]
      · rw [if_neg]
        intro z
        exact w (by rw [z.1]; exact Int32.le_refl _)
    · have k2 := kp67 e2
      have v2 := v.kp hj (k.trans k2.i)
      rw [(m_lik hj v2).iff]
      refine ⟨_, rfl, fun z => absurd z (by decide), fun _ => ⟨g2, jEv.mono (m_stepsOf hj v2) (fun o M6 z => ⟨_, z.1, ?_⟩)⟩⟩
      obtain ⟨-, f⟩ := z
      rw [g3, v2.2.2.2.1, e1, nI_1, show n - 1 + 1 = n by omega]
      refine ⟨fun w => jEv.mono (m_block hj (v2.b hj f) (k := n) (Nat.le_refl n)) (fun o M9 y => ⟨_, y.1, fun q => ⟨?_, (k2.trans f.kp).trans y.2.kp⟩, fun q => ⟨?_, (k2.trans f.kp).trans y.2.kp⟩⟩), fun w => ⟨?_, k2.trans f.kp⟩⟩
      · rw [if_neg (fun z => z.2 q)]
      · rw [if_pos ⟨(nI_eq (by omega) (by omega)).mp w, q⟩]
      · rw [if_neg (fun z => w (by rw [z.1]))]
