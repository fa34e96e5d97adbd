/-! Schur's test, the model's -/
def mA (x : Int64) : Int64 := if 0 ≤ x then x else -x
theorem m_f2 {M : jM} {K : jK} {x1 : Int32} {Body : Prop} (h1 : ¬ x1 ≤ 0) (h2 : ¬ (x1 < 0 ∨ 4 ≤ x1.toNatClampNeg)) {f l : Int64} (hf : M.2 76 0 = f) (hl : M.2 76 x1.toNatClampNeg = l) (kn : ¬ mA l < mA f → K (some (some (.int 0))) M) (k : mA l < mA f → Body) : ((0 ≤ f → ((0 ≤ l → ((l < f → Body) ∧ (¬ (l < f) → K (some (some (.int 0))) M))) ∧ (¬ (0 ≤ l) → (((-l) < f → Body) ∧ (¬ ((-l) < f) → K (some (some (.int 0))) M))))) ∧ (¬ (0 ≤ f) → ((0 ≤ l → ((l < (-f) → Body) ∧ (¬ (l < (-f)) → K (some (some (.int 0))) M))) ∧ (¬ (0 ≤ l) → (((-l) < (-f) → Body) ∧ (¬ ((-l) < (-f)) → K (some (some (.int 0))) M)))))) := by
  unfold mA at kn k
  refine ⟨fun p => ⟨fun q => ?_, fun q => ?_⟩, fun p => ⟨fun q => ?_, fun q => ?_⟩⟩
  · rw [if_pos p, if_pos q] at kn k; exact ⟨k, kn⟩
  · rw [if_pos p, if_neg q] at kn k; exact ⟨k, kn⟩
  · rw [if_neg p, if_pos q] at kn k; exact ⟨k, kn⟩
  · rw [if_neg p, if_neg q] at kn k; exact ⟨k, kn⟩
/-- the divisor of three -/
def g3 (a b c : Int64) : Int64 := gI (gI a b) c
theorem m_common3 {M : jM} {K : jK} {a b c : Int64} {x1 : Int32} (ha : a.toInt ≠ -9223372036854775808) (hb : b.toInt ≠ -9223372036854775808) (hc : c.toInt ≠ -9223372036854775808) (ec : M.2 76 2 = c) (k : jEv nX8_isFree (175, [(0, .ref 67), (1, .int x1), (10, .long (g3 a b c)), (12, .int 0)], [], M) K) : jEv nX8_common (0, [(0, .long a), (2, .long b)], [], M) (fun o M1 => ∃ r : Int64, o = some (some (.long r)) ∧ (jEv nX8_common (0, [(0, .long r), (2, .long (M1.2 76 2))], [], M1) (fun o2 M2 => ∃ r2 : Int64, o2 = some (some (.long r2)) ∧ jEv nX8_isFree (175, [(0, .ref 67), (1, .int x1), (10, .long r2), (12, .int 0)], [], M2) K))) := by
  rw [(m_gcd M ha hb).iff]
  refine ⟨_, rfl, ?_⟩
  have hg := gI_toInt ha hb
  rw [ec, (m_gcd M (by rw [hg]; omega) hc).iff]
  exact ⟨_, rfl, k⟩
theorem m_free3 {M : jM} {K : jK} {f : Nat → Int64} (hf : ∀ k, k < 4 → M.2 76 k = f k) (kn : ¬ mA (f 3) < mA (f 0) → K (some (some (.int 0))) M) (k : mA (f 3) < mA (f 0) → let d0 := (f 0 * f 0) - (f 3 * f 3); let d1 := (f 0 * f 1) - (f 3 * f 2); let d2 := (f 0 * f 2) - (f 3 * f 1); d0.toInt ≠ -9223372036854775808 ∧ d1.toInt ≠ -9223372036854775808 ∧ d2.toInt ≠ -9223372036854775808 ∧ (∀ M1, iKp M M1 → M1.1 = M.1 → M1.2 76 0 = d0 → M1.2 76 1 = d1 → M1.2 76 2 = d2 → jEv nX8_isFree (175, [(0, .ref 67), (1, .int 3), (10, .long (g3 d0 d1 d2)), (12, .int 0)], [], M1) K)) : jEv nX8_isFree (2, [(0, .ref 67), (1, .int 3)], [], M) K := by
  refine v_X8_isFree_2 ⟨fun w => absurd w (by decide), fun _ => ⟨by decide, ?_⟩⟩
  refine m_f2 (M := M) (K := K) (x1 := 3) (by decide) (by decide) (f := M.2 76 0) (l := M.2 76 3) rfl rfl (by rw [hf 0 (by omega), hf 3 (by omega)]; exact kn) (fun w => ?_)
  rw [hf 0 (by omega), hf 3 (by omega)] at w
  obtain ⟨n0, n1, n2, k3⟩ := k w
  intro M1 e1
  refine ⟨fun _ M2 e2 M3 e3 => ?_, fun z => absurd rfl z⟩
  have c3 : (3 : Int32).toNatClampNeg = 3 := by decide
  rw [c3] at e1 e2 e3
  rw [hf 0 (by omega), hf 3 (by omega)] at e1
  rw [hf 0 (by omega), hf 3 (by omega), hf 1 (by omega), hf 2 (by omega)] at e2 e3
  have v0 : M3.2 76 0 = (f 0 * f 0) - (f 3 * f 3) := by rw [e3, jsl_at, if_neg (by decide), e2, jsl_at, if_neg (by decide), e1, jsl_at, if_pos (by decide)]
  have v1 : M3.2 76 1 = (f 0 * f 1) - (f 3 * f 2) := by rw [e3, jsl_at, if_neg (by decide), e2, jsl_at, if_pos (by decide)]
  have v2 : M3.2 76 2 = (f 0 * f 2) - (f 3 * f 1) := by rw [e3, jsl_at, if_pos (by decide)]
  rw [v0, v1]
  exact m_common3 n0 n1 n2 v2 (k3 M3 (by rw [e3, e2, e1]; exact (((iKp.rfl' M).sl (by decide)).sl (by decide)).sl (by decide)) (by rw [e3, e2, e1]; rfl) v0 v1 v2)
theorem m_free2 {M : jM} {K : jK} {f : Nat → Int64} (hf : ∀ k, k < 3 → M.2 76 k = f k) (kn : ¬ mA (f 2) < mA (f 0) → K (some (some (.int 0))) M) (k : mA (f 2) < mA (f 0) → let d0 := (f 0 * f 0) - (f 2 * f 2); let d1 := (f 0 * f 1) - (f 2 * f 1); d0.toInt ≠ -9223372036854775808 ∧ d1.toInt ≠ -9223372036854775808 ∧ (f 2).toInt ≠ -9223372036854775808 ∧ (∀ M1, iKp M M1 → M1.1 = M.1 → M1.2 76 0 = d0 → M1.2 76 1 = d1 → M1.2 76 2 = f 2 → jEv nX8_isFree (175, [(0, .ref 67), (1, .int 2), (10, .long (g3 d0 d1 (f 2))), (12, .int 0)], [], M1) K)) : jEv nX8_isFree (2, [(0, .ref 67), (1, .int 2)], [], M) K := by
  refine v_X8_isFree_2 ⟨fun w => absurd w (by decide), fun _ => ⟨by decide, ?_⟩⟩
  refine m_f2 (M := M) (K := K) (x1 := 2) (by decide) (by decide) (f := M.2 76 0) (l := M.2 76 2) rfl rfl (by rw [hf 0 (by omega), hf 2 (by omega)]; exact kn) (fun w => ?_)
  rw [hf 0 (by omega), hf 2 (by omega)] at w
  obtain ⟨n0, n1, n2, k3⟩ := k w
  intro M1 e1
  refine ⟨fun z => absurd z (by decide), fun _ => ⟨fun _ M2 e2 => ?_, fun z => absurd rfl z⟩⟩
  have c3 : (2 : Int32).toNatClampNeg = 2 := by decide
  rw [c3] at e1 e2
  rw [hf 0 (by omega), hf 2 (by omega)] at e1
  rw [hf 0 (by omega), hf 2 (by omega), hf 1 (by omega)] at e2
  have v0 : M2.2 76 0 = (f 0 * f 0) - (f 2 * f 2) := by rw [e2, jsl_at, if_neg (by decide), e1, jsl_at, if_pos (by decide)]
  have v1 : M2.2 76 1 = (f 0 * f 1) - (f 2 * f 1) := by rw [e2, jsl_at, if_pos (by decide)]
  have v2 : M2.2 76 2 = f 2 := by rw [e2, jsl_at, if_neg (by decide), e1, jsl_at, if_neg (by decide)]; exact hf 2 (by omega)
  rw [v0, v1]
  exact m_common3 n0 n1 n2 v2 (k3 M2 (by rw [e2, e1]; exact ((iKp.rfl' M).sl (by decide)).sl (by decide)) (by rw [e2, e1]; rfl) v0 v1 v2)
theorem m_free1 {M : jM} {K : jK} {f : Nat → Int64} (hf : ∀ k, k < 3 → M.2 76 k = f k) (kn : ¬ mA (f 1) < mA (f 0) → K (some (some (.int 0))) M) (k : mA (f 1) < mA (f 0) → let d0 := (f 0 * f 0) - (f 1 * f 1); d0.toInt ≠ -9223372036854775808 ∧ (f 1).toInt ≠ -9223372036854775808 ∧ (f 2).toInt ≠ -9223372036854775808 ∧ (∀ M1, iKp M M1 → M1.1 = M.1 → M1.2 76 0 = d0 → M1.2 76 1 = f 1 → M1.2 76 2 = f 2 → jEv nX8_isFree (175, [(0, .ref 67), (1, .int 1), (10, .long (g3 d0 (f 1) (f 2))), (12, .int 0)], [], M1) K)) : jEv nX8_isFree (2, [(0, .ref 67), (1, .int 1)], [], M) K := by
  refine v_X8_isFree_2 ⟨fun w => absurd w (by decide), fun _ => ⟨by decide, ?_⟩⟩
  refine m_f2 (M := M) (K := K) (x1 := 1) (by decide) (by decide) (f := M.2 76 0) (l := M.2 76 1) rfl rfl (by rw [hf 0 (by omega), hf 1 (by omega)]; exact kn) (fun w => ?_)
  rw [hf 0 (by omega), hf 1 (by omega)] at w
  obtain ⟨n0, n1, n2, k3⟩ := k w
  intro M1 e1
  refine ⟨fun z => absurd z (by decide), fun _ => ⟨fun z => absurd z (by decide), fun _ => ?_⟩⟩
  have c3 : (1 : Int32).toNatClampNeg = 1 := by decide
  rw [c3] at e1
  rw [hf 0 (by omega), hf 1 (by omega)] at e1
  have v0 : M1.2 76 0 = (f 0 * f 0) - (f 1 * f 1) := by rw [e1, jsl_at, if_pos (by decide)]
  have v1 : M1.2 76 1 = f 1 := by rw [e1, jsl_at, if_neg (by decide)]; exact hf 1 (by omega)
  have v2 : M1.2 76 2 = f 2 := by rw [e1, jsl_at, if_neg (by decide)]; exact hf 2 (by omega)
  rw [v0, v1]
  exact m_common3 n0 n1 n2 v2 (k3 M1 (by rw [e1]; exact (iKp.rfl' M).sl (by decide)) (by rw [e1]; rfl) v0 v1 v2)
theorem div_1 (x : Int64) : x / 1 = x := by
  refine Int64.toInt_inj.mp ?_
  have := fb_rngL x
  rw [Int64.toInt_div, show (1 : Int64).toInt = 1 from rfl, Int.tdiv_one]
  exact fb_bmodL (by omega) (by omega)
/-- dividing by the divisor -/
theorem m_div {K : jK} {d : Nat} (hd : d < 3) {g : Int64} (hg : 0 < g) {M : jM} {f : Nat → Int64} (hf : ∀ k, k < 3 → M.2 76 k = f k) (k : ∀ M1, iKp M M1 → M1.1 = M.1 → (∀ k, k < 3 → M1.2 76 k = f k / g) → jEv nX8_isFree (2, [(0, .ref 67), (1, .int (nI d))], [], M1) K) : jEv nX8_isFree (175, [(0, .ref 67), (1, .int (nI (d + 1))), (10, .long g), (12, .int 0)], [], M) K := by
  by_cases h1 : g ≤ 1
  · have e : g = 1 := by
      refine Int64.toInt_inj.mp ?_
      rw [Int64.le_iff_toInt_le] at h1
      rw [Int64.lt_iff_toInt_lt, Int64.toInt_zero] at hg
      have : (1 : Int64).toInt = 1 := rfl
      omega
    subst e
    refine v_X8_isFree_175 ⟨fun w => absurd w (by decide), fun _ => ⟨fun _ => ?_, fun w => absurd h1 w⟩⟩
    rw [nI_m1]
    exact k M (iKp.rfl' M) rfl (fun q hq => by rw [div_1]; exact hf q hq)
  · have h0 : ¬ g = 0 := fun e => by rw [e] at hg; exact absurd hg (by decide)
    have loop : ∀ (r i : Nat), i + r = 3 → ∀ M', iKp M M' → M'.1 = M.1 → (∀ q, q < 3 → M'.2 76 q = if q < i then f q / g else f q) → jEv nX8_isFree (175, [(0, .ref 67), (1, .int (nI (d + 1))), (10, .long g), (12, .int (nI i))], [], M') K := by
      intro r
      induction r with
      | zero =>
        intro i hi M' k1 e1 hq
        have : i = 3 := by omega
        subst this
        refine v_X8_isFree_175 ⟨fun _ => ?_, fun w => absurd (by decide) w⟩
        rw [nI_m1]
        exact k M' k1 e1 (fun q h => by rw [hq q h, if_pos h])
      | succ r ih =>
        intro i hi M' k1 e1 hq
        have hin := nI_in (c := i) (N := 4) (by omega) (by omega)
        refine v_X8_isFree_175 ⟨fun w => absurd w (nI_ge (b := 3) (by omega) (by omega)), fun _ => ⟨fun w => absurd w h1, fun _ => ⟨hin, h0, hin, fun M2 e2 => ?_⟩⟩⟩
        rw [nI_clamp (by omega), hq i (by omega), if_neg (by omega)] at e2
        rw [nI_1]
        refine ih (i + 1) (by omega) M2 (by rw [e2]; exact k1.sl (by omega)) (by rw [e2]; exact e1) (fun q h => ?_)
        rw [e2, jsl_at]
        by_cases w : q = i
        · rw [if_pos ⟨rfl, w⟩, w, if_pos (by omega)]
        · rw [if_neg (fun z => w z.2), hq q h]
          by_cases w2 : q < i
          · rw [if_pos w2, if_pos (by omega)]
          · rw [if_neg w2, if_neg (by omega)]
    exact loop 3 0 rfl M (iKp.rfl' M) rfl (fun q h => by rw [if_neg (by omega)]; exact hf q h)
