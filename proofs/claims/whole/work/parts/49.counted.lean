/-! counted: both -/
def pS (f : Nat → Int32) (k : Nat) : Nat → Int32
  | 0 => 0
  | t + 1 => if k ≤ t then pS f k t + f t * f (t - k) else 0
theorem pS_0 (f : Nat → Int32) {k : Nat} : ∀ {t : Nat}, t ≤ k → pS f k t = 0
  | 0, _ => rfl
  | t + 1, h => by unfold pS; rw [if_neg (by omega)]
theorem pS_1 (f : Nat → Int32) {k t : Nat} (h : k ≤ t) : pS f k (t + 1) = pS f k t + f t * f (t - k) := by
  show (if k ≤ t then _ else _) = _
  rw [if_pos h]
theorem pS_congr {f g : Nat → Int32} {k : Nat} : ∀ {n : Nat}, (∀ t, t < n → f t = g t) → pS f k n = pS g k n
  | 0, _ => rfl
  | n + 1, h => by
    unfold pS
    rw [pS_congr (fun t ht => h t (by omega)), h n (by omega), h (n - k) (by omega)]
theorem s_products (M : jM) {n k : Nat} (hn : n ≤ 60) (hk : k ≤ 4) (e : M.1 41 2 = nI n) : jTo nX4_productsAt (0, [(0, .ref 41), (1, .int (nI k))], [], M) (some (some (.int (pS (M.1 42) k n)))) M := by
  have loop : ∀ (r t : Nat), k ≤ t → (t + r = n ∨ (n ≤ t ∧ r = 0)) → t ≤ 60 → pS (M.1 42) k t = pS (M.1 42) k (min t n) → jTo nX4_productsAt (4, [(0, .ref 41), (1, .int (nI k)), (2, .int (pS (M.1 42) k t)), (3, .int (nI t))], [], M) (some (some (.int (pS (M.1 42) k n)))) M := by
    intro r
    induction r with
    | zero =>
      intro t h1 h2 h3 h4
      have : n ≤ t := by omega
      refine v_X4_productsAt_4 ⟨fun _ => ⟨by rw [h4, Nat.min_eq_right this], rfl⟩, fun q => absurd (by rw [e]; exact nI_le this (by omega)) q⟩
    | succ r ih =>
      intro t h1 h2 h3 h4
      have hc : (nI t).toNatClampNeg = t := nI_clamp (by omega)
      have hs : nI t - nI k = nI (t - k) := pk_sub h1
      refine v_X4_productsAt_4 ⟨fun q => absurd q (by rw [e]; exact nI_ge (by omega) (by omega)), fun _ => ⟨nI_in (by omega) (by omega), by rw [hs]; exact nI_in (by omega) (by omega), ?_⟩⟩
      rw [hs, hc, nI_clamp (by omega), nI_1, ← pS_1 (M.1 42) h1]
      exact ih (t + 1) (by omega) (by omega) (by omega) (by rw [Nat.min_eq_left (by omega)])
  have := loop (n - k) k (Nat.le_refl k) (by omega) (by omega) (by
    rw [pS_0 _ (Nat.le_refl k), pS_0 _ (by omega)])
  rw [pS_0 _ (Nat.le_refl k)] at this
  exact v_X4_productsAt_0 this
theorem op_counted {M : jM} (h : iInv M) (x y : Int32) : jBoth nX7_counted nX8_counted [(0, .ref 0), (1, .int x), (2, .int y)] [(0, .ref 67), (1, .int x), (2, .int y)] M := by
  obtain ⟨n, r1, r2, r3, r4⟩ := h.2.2.2.1
  have hg : cN (fun t => decide (M.1 42 t = 100)) n = cN (fun t => decide (M.1 90 t = 100)) n := cN_congr (fun t ht => by rw [(r4 t ht).1])
  have hgn : cN (fun t => decide (M.1 90 t = 100)) n ≤ n := cN_le _ n
  generalize hG : cN (fun t => decide (M.1 90 t = 100)) n = G at hg hgn
  have hG0 : nI G ≤ 0 ↔ G = 0 := by
    rw [← nI_0]
    exact ⟨fun q => Nat.le_zero.mp ((nI_leI (by omega) (by omega)).mp q), fun q => by rw [q]; exact Int32.le_refl _⟩
  -- the model: what it does to come to its laying down
  have mod : ∀ (M2 : jM) {K : jK}, (∀ a k, (a = 90 ∨ (a = 67 ∧ k = 27)) → M2.1 a k = M.1 a k) → (∀ M1, M1 = jsi M2 67 0 0 → (¬ (0 ≤ y ∧ y ≤ 4) ∨ G ≠ 0) → K (some (some (.int 0))) M1) → (∀ N, N ≤ 4 → y = nI N → G = 0 → ∀ M3, (∀ k, k < N + 1 → M3.1 87 k = pS (M.1 90) k n) → (∀ a k, a ≠ 87 → ¬ (a = 67 ∧ (k = 0 ∨ k = 2)) → M3.1 a k = M2.1 a k) → M3.1 67 2 = M2.1 67 2 → M3.2 = M2.2 → jEv nX8_puts (0, [(0, .ref 67), (1, .int x), (2, .int (nI (N + 1)))], [], M3) (fun o1 M2 => ∃ r3 : Int32, o1 = some (some (.int r3)) ∧ ((r3 = 0 ∨ r3 = 1) ∧ K (some (some (.int r3))) M2))) → jEv nX8_counted (0, [(0, .ref 67), (1, .int x), (2, .int y)], [], M2) K := by
    intro M2 K e0 k0 k1
    refine v_X8_counted_0 (fun M1 e1 => ?_)
    have f1 : ∀ a k, ¬ (a = 67 ∧ k = 0) → M1.1 a k = M2.1 a k := fun a k z => by rw [e1, jsi_at, if_neg z]
    refine ⟨fun q => k0 M1 e1 (Or.inl (fun w => absurd q (Int32.not_lt.mpr w.1))), fun q => ⟨fun q2 => k0 M1 e1 (Or.inl (fun w => absurd q2 (Int32.not_lt.mpr w.2))), fun q2 => ?_⟩⟩
    obtain ⟨N, hN, rfl⟩ := nI_of2 (M := 4) (n := 4) rfl q (Int32.not_lt.mp q2)
    have g27 : M1.1 67 27 = nI n := by rw [f1 67 27 (by omega), e0 67 27 (Or.inr ⟨rfl, rfl⟩)]; exact r3
    have g90 : ∀ t, M1.1 90 t = M.1 90 t := fun t => by rw [f1 90 t (by omega), e0 90 t (Or.inl rfl)]
    rw [(s_gaps M1 r1 g27).iff]
    have : cN (fun t => decide (M1.1 90 t = 100)) n = G := by rw [← hG]; exact cN_congr (fun t _ => by rw [g90 t])
    rw [this]
    refine ⟨_, rfl, fun w => ?_, fun w => k0 M1 e1 (Or.inr (fun z => w (hG0.mpr z)))⟩
    have kk := k1 N hN rfl (hG0.mp w)
    -- the sums of one distance
    have inner : ∀ (i : Nat), i ≤ N → (∀ M4 : jM, (∀ k, k < i + 1 → M4.1 87 k = pS (M.1 90) k n) → (∀ a k, a ≠ 87 → M4.1 a k = M1.1 a k) → M4.2 = M1.2 → jEv nX8_counted (25, [(0, .ref 67), (1, .int x), (2, .int (nI N)), (3, .int (nI i + 1))], [], M4) K) → ∀ (r t : Nat), i ≤ t → (t + r = n ∨ (n ≤ t ∧ r = 0)) → t ≤ 60 → pS (M.1 90) i t = pS (M.1 90) i (min t n) → ∀ M4 : jM, (∀ k, k < i → M4.1 87 k = pS (M.1 90) k n) → M4.1 87 i = pS (M.1 90) i t → (∀ a k, a ≠ 87 → M4.1 a k = M1.1 a k) → M4.2 = M1.2 → jEv nX8_counted (40, [(0, .ref 67), (1, .int x), (2, .int (nI N)), (3, .int (nI i)), (4, .int (nI t))], [], M4) K := by
      intro i hi nx r
      induction r with
      | zero =>
        intro t h1 h2 h3 h4 M4 m1 m2 m3 m4
        have ht : n ≤ t := by omega
        refine v_X8_counted_40 ⟨fun _ => nx M4 (fun k hk => ?_) m3 m4, fun q => absurd (by rw [m3 67 27 (by omega), g27]; exact nI_le ht (by omega)) q⟩
        by_cases e : k = i
        · rw [e, m2, h4, Nat.min_eq_right ht]
        · exact m1 k (by omega)
      | succ r ih =>
        intro t h1 h2 h3 h4 M4 m1 m2 m3 m4
        have hc : (nI t).toNatClampNeg = t := nI_clamp (by omega)
        have hc2 : (nI i).toNatClampNeg = i := nI_clamp (by omega)
        have hs : nI t - nI i = nI (t - i) := pk_sub h1
        refine v_X8_counted_40 ⟨fun q => absurd q (by rw [m3 67 27 (by omega), g27]; exact nI_ge (by omega) (by omega)), fun _ => ⟨nI_in (by omega) (by omega), nI_in (by omega) (by omega), by rw [hs]; exact nI_in (by omega) (by omega), nI_in (by omega) (by omega), fun M5 f5 => ?_⟩⟩
        rw [hs, hc, hc2, nI_clamp (by omega), m2, m3 90 _ (by omega), m3 90 _ (by omega), g90, g90, ← pS_1 (M.1 90) h1] at f5
        rw [nI_1]
        refine ih (t + 1) (by omega) (by omega) (by omega) (by rw [Nat.min_eq_left (by omega)]) M5 (fun k hk => ?_) ?_ (fun a k z => ?_) (by rw [f5]; exact m4)
        · rw [f5, jsi_at, if_neg (by omega)]; exact m1 k hk
        · rw [f5, jsi_at, if_pos ⟨rfl, rfl⟩]
        · rw [f5, jsi_at, if_neg (fun w => z w.1)]; exact m3 a k z
    have outer : ∀ (r i : Nat), i + r = N + 1 → ∀ M4 : jM, (∀ k, k < i → M4.1 87 k = pS (M.1 90) k n) → (∀ a k, a ≠ 87 → M4.1 a k = M1.1 a k) → M4.2 = M1.2 → jEv nX8_counted (25, [(0, .ref 67), (1, .int x), (2, .int (nI N)), (3, .int (nI i))], [], M4) K := by
      intro r
      induction r with
      | zero =>
        intro i hi M4 m1 m2 m3
        have : i = N + 1 := by omega
        subst this
        refine v_X8_counted_25 ⟨fun _ => ?_, fun q => absurd (nI_lt (by omega) (by omega)) q⟩
        rw [nI_1]
        exact kk M4 m1 (fun a k z1 z2 => by rw [m2 a k z1, f1 a k (by omega)]) (by rw [m2 67 2 (by omega), f1 67 2 (by omega)]) (by rw [m3, e1]; rfl)
      | succ r ih =>
        intro i hi M4 m1 m2 m3
        have hc2 : (nI i).toNatClampNeg = i := nI_clamp (by omega)
        refine v_X8_counted_25 ⟨fun q => absurd q (nI_nlt (by omega) (by omega)), fun _ => ⟨nI_in (by omega) (by omega), fun M5 f5 => ?_⟩⟩
        rw [hc2] at f5
        refine inner i (by omega) (fun M6 p1 p2 p3 => by rw [nI_1]; exact ih (i + 1) (by omega) M6 p1 p2 p3) (n - i) i (Nat.le_refl i) (by omega) (by omega) (by rw [pS_0 _ (Nat.le_refl i), pS_0 _ (by omega)]) M5 (fun k hk => ?_) ?_ (fun a k z => ?_) (by rw [f5]; exact m3)
        · rw [f5, jsi_at, if_neg (by omega)]; exact m1 k hk
        · rw [f5, jsi_at, if_pos ⟨rfl, rfl⟩, pS_0 _ (Nat.le_refl i)]
        · rw [f5, jsi_at, if_neg (fun w => z w.1)]; exact m2 a k z
    exact outer (N + 1) 0 (by omega) M1 (fun k hk => absurd hk (Nat.not_lt_zero k)) (fun _ _ _ => rfl) rfl
  have noK : ∀ M3 : jM, (∀ a k, a ≠ 87 → ¬ (a = 67 ∧ (k = 0 ∨ k = 2)) → M3.1 a k = M.1 a k) → M3.1 67 2 = M.1 67 2 → M3.2 = M.2 → iInv M3 := fun M3 g2 g3 g4 => h.kp ⟨fun a k z1 z2 z3 z4 z5 z6 => by
    by_cases w : a = 67 ∧ k = 2
    · rw [w.1, w.2]; exact g3
    · exact g2 a k z3 (by omega), fun a k _ => by rw [g4]⟩
  have no : (¬ (0 ≤ x ∧ x ≤ 5) ∨ ¬ (0 ≤ y ∧ y ≤ 4) ∨ G ≠ 0) → jEv nX8_counted (0, [(0, .ref 67), (1, .int x), (2, .int y)], [], M) (fun o2 M2 => o2 = some (some (.int 0)) ∧ iInv M2) := by
    intro hc
    refine mod M (fun _ _ _ => rfl) (fun M1 e1 _ => ⟨rfl, h.kp (kp67 e1)⟩) (fun N hN hy hG2 M3 g1 g2 g3 g4 => ?_)
    rcases hc with hx | hx | hx
    · rw [(s_puts_out M3 hx).iff]
      exact ⟨_, rfl, Or.inl rfl, rfl, noK M3 g2 g3 g4⟩
    · exact absurd ⟨by rw [hy]; exact nI_pos' (by omega), by rw [hy]; exact (nI_leI (b := 4) (by omega) (by omega)).mpr hN⟩ hx
    · exact absurd hG2 hx
  refine v_X7_counted_0 ?_
  rw [e_isSlot]
  rcases slot_cases x with ⟨j, hj, rfl⟩ | hx
  · rw [if_pos (slot_in hj).1]
    refine ⟨_, rfl, fun q => absurd q (by decide), fun _ => ?_⟩
    rw [e_isWithin]
    by_cases hy : 0 ≤ y ∧ y ≤ 4
    · rw [if_pos hy]
      refine ⟨_, rfl, fun q => absurd q (by decide), fun _ => ?_⟩
      rw [(s_gapCount M r1 r2).iff, hg]
      refine ⟨_, rfl, fun q => ?_, fun q => ⟨0, rfl, no (Or.inr (Or.inr (fun w => q (hG0.mpr w))))⟩⟩
      obtain ⟨N, hN, rfl⟩ := nI_of2 (M := 4) (n := 4) rfl (Int32.not_lt.mpr hy.1) hy.2
      have loop : ∀ (r i : Nat), i + r = N + 1 → ∀ M4 : jM, (∀ k, k < i → M4.1 59 k = pS (M.1 90) k n) → (∀ a k, a ≠ 59 → M4.1 a k = M.1 a k) → M4.2 = M.2 → jEv nX7_counted (30, [(0, .ref 0), (1, .int (nI j)), (2, .int (nI N)), (3, .int (nI i))], [], M4) (fun o1 M1 => ∃ r : Int32, o1 = some (some (.int r)) ∧ jEv nX8_counted (0, [(0, .ref 67), (1, .int (nI j)), (2, .int (nI N))], [], M1) (fun o2 M2 => o2 = some (some (.int r)) ∧ iInv M2)) := by
        intro r
        induction r with
        | zero =>
          intro i hi M4 h1 h2 h3
          have : i = N + 1 := by omega
          subst this
          refine v_X7_counted_30 ⟨fun _ => ?_, fun q => absurd (nI_lt (by omega) (by omega)) q⟩
          rw [nI_1]
          refine c_end (M := M) (d := fun k => pS (M.1 90) k n) hj (by omega) h1 (fun a k z _ => h2 a k z) h3 (fun r1 M5 w1 q1 => ⟨r1, rfl, ?_⟩)
          refine mod M5 (fun a k z => w1.1 a k (by omega) (by omega) (by omega) (by omega)) (fun M1 _ w => ?_) (fun N' hN' hy' _ M6 g1 g2 g3 g4 => ?_)
          · exact w.elim (fun w => absurd hy w) (fun w => absurd (hG0.mp q) w)
          · have : N' = N := ((nI_eq (by omega) (by omega)).mp hy').symm
            subst this
            refine m_end (M := M5) (d := fun k => pS (M.1 90) k n) hj (by omega) g1 g2 g4 (fun r2 M7 w2 q2 => ?_)
            have tp : iTape M7 := h.1.cg fun a k z => by
              by_cases a1 : a = 1 ∧ k = 1
              · rw [a1.1, a1.2, w2.1 1 1 (by omega) (by omega) (by omega) (by omega), q1, h2 1 1 (by omega)]
              · by_cases a2 : a = 67 ∧ k = 2
                · rw [a2.1, a2.2, q2, g3, w1.1 67 2 (by omega) (by omega) (by omega) (by omega)]
                · rw [w2.1 a k (by omega) (by omega) (by omega) (by omega), w1.1 a k (by omega) (by omega) (by omega) (by omega)]
            obtain ⟨b1, b2⟩ := lik_both h hj (by omega) w1 w2 tp
            exact ⟨by rw [b1], b2⟩
        | succ r ih =>
          intro i hi M4 h1 h2 h3
          have hc : (nI i).toNatClampNeg = i := nI_clamp (by omega)
          refine v_X7_counted_30 ⟨fun q => absurd q (nI_nlt (by omega) (by omega)), fun _ => ?_⟩
          rw [(s_products M4 r1 (k := i) (by omega) (by rw [h2 41 2 (by omega)]; exact r2)).iff]
          refine ⟨_, rfl, nI_in (by omega) (by omega), fun M5 f5 => ?_⟩
          have e9 : pS (M4.1 42) i n = pS (M.1 90) i n := pS_congr (fun t ht => by rw [h2 42 t (by omega)]; exact (r4 t ht).1)
          rw [hc, e9] at f5
          rw [nI_1]
          refine ih (i + 1) (by omega) M5 (fun k hk => ?_) (fun a k z => ?_) (by rw [f5]; exact h3)
          · rw [f5, jsi_at]
            by_cases e : k = i
            · rw [if_pos ⟨rfl, e⟩, e]
            · rw [if_neg (fun w => e w.2)]; exact h1 k (by omega)
          · rw [f5, jsi_at, if_neg (fun w => z w.1)]; exact h2 a k z
      exact loop (N + 1) 0 (by omega) M (fun k hk => absurd hk (Nat.not_lt_zero k)) (fun _ _ _ => rfl) rfl
    · rw [if_neg hy]
      exact ⟨_, rfl, fun _ => ⟨0, rfl, no (Or.inr (Or.inl hy))⟩, fun q => absurd rfl q⟩
  · rw [if_neg hx]
    exact ⟨_, rfl, fun _ => ⟨0, rfl, no (Or.inl hx)⟩, fun q => absurd rfl q⟩
