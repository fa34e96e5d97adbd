theorem rng8 (y : Int32) : okS y ↔ (-8 ≤ y.toInt ∧ y.toInt ≤ 8) := rng_lit rfl rfl y
theorem op_rule {M : jM} (h : iInv M) (x q p m s : Int32) : jBoth nX7_rule nX8_rule [(0, .ref 0), (1, .int x), (2, .int q), (3, .int p), (4, .int m), (5, .int s)] [(0, .ref 67), (1, .int x), (2, .int q), (3, .int p), (4, .int m), (5, .int s)] M := by
  obtain ⟨n, t1, t2, t3, t4⟩ := h.1
  have used : ∀ M', M'.1 1 1 = 0 → M'.1 67 2 = 0 → (∀ a k, ¬ (a = 1 ∧ k = 1) → ¬ (a = 67 ∧ (k = 0 ∨ k = 2)) → M'.1 a k = M.1 a k) → M'.2 = M.2 → iInv M' := by
    intro M' e1 e2 e3 e4
    refine h.tape ⟨0, by omega, e1, e2, fun i hi => ?_⟩ (fun a k z1 z2 z3 z4 z5 z6 z7 z8 z9 => e3 a k (by omega) (by omega)) (fun a k _ => by rw [e4])
    rw [e3 68 i (by omega) (by omega), e3 2 i (by omega) (by omega)]
    exact t4 i hi
  have nats : (0 ≤ p ∧ p ≤ 3) → (0 ≤ m ∧ m ≤ 3) → nI n = p + m → ∃ P Q : Nat, P ≤ 3 ∧ Q ≤ 3 ∧ p = nI P ∧ m = nI Q ∧ n = P + Q := by
    intro hp hm hn
    obtain ⟨P, hP, rfl⟩ := nI_of2 (M := 3) (n := 3) rfl (Int32.not_lt.mpr hp.1) hp.2
    obtain ⟨Q, hQ, rfl⟩ := nI_of2 (M := 3) (n := 3) rfl (Int32.not_lt.mpr hm.1) hm.2
    refine ⟨P, Q, hP, hQ, rfl, rfl, ?_⟩
    rw [nI_add] at hn
    exact (nI_eq (by omega) (by omega)).mp hn
  -- the model where it refuses
  have no : ∀ M1, M1 = jsi M 1 1 0 → (¬ (0 ≤ x ∧ x ≤ 5) ∨ ¬ (1 ≤ q ∧ q ≤ 4) ∨ ¬ (1 ≤ s ∧ s ≤ 20) ∨ ¬ (0 ≤ p ∧ p ≤ 3) ∨ ¬ (0 ≤ m ∧ m ≤ 3) ∨ ¬ nI n = p + m ∨ ∃ i, i < n ∧ ¬ okS (M.1 2 i)) → jEv nX8_rule (0, [(0, .ref 67), (1, .int x), (2, .int q), (3, .int p), (4, .int m), (5, .int s)], [], M1) (fun o2 M2 => o2 = some (some (.int 0)) ∧ iInv M2) := by
    intro M1 e1 hc
    have f1 : ∀ a k, ¬ (a = 1 ∧ k = 1) → M1.1 a k = M.1 a k := fun a k z => by rw [e1, jsi_at, if_neg z]
    refine v_X8_rule_0 (fun M2 e2 => ?_)
    rw [(s_taken M2).iff]
    have e3 : M2.1 67 2 = nI n := by rw [e2, jsi_at, if_neg (by decide), f1 67 2 (by decide)]; exact t3
    rw [e3]
    have g : ∀ a k, ¬ (a = 1 ∧ k = 1) → ¬ (a = 67 ∧ (k = 0 ∨ k = 2)) → (jsi M2 67 2 0).1 a k = M.1 a k := fun a k z1 z2 => by rw [jsi_at, if_neg (by omega), e2, jsi_at, if_neg (by omega)]; exact f1 a k z1
    have iv : iInv (jsi M2 67 2 0) := used _ (by rw [jsi_at, if_neg (by decide), e2, jsi_at, if_neg (by decide), e1, jsi_at, if_pos (by decide)]) (by rw [jsi_at, if_pos (by decide)]) g (by rw [e2, e1]; rfl)
    refine ⟨_, rfl, fun _ => ⟨rfl, iv⟩, fun x1 => ⟨fun _ => ⟨rfl, iv⟩, fun x2 => ⟨fun _ => ⟨rfl, iv⟩, fun q1 => ⟨fun _ => ⟨rfl, iv⟩, fun q2 => ⟨fun _ => ⟨rfl, iv⟩, fun p1 => ⟨fun _ => ⟨rfl, iv⟩, fun p2 => ⟨fun _ => ⟨rfl, iv⟩, fun m1 => ⟨fun _ => ⟨rfl, iv⟩, fun m2 => ⟨fun _ => ⟨rfl, iv⟩, fun s1 => ⟨fun _ => ⟨rfl, iv⟩, fun s2 => ⟨fun hn => ?_, fun _ => ⟨rfl, iv⟩⟩⟩⟩⟩⟩⟩⟩⟩⟩⟩⟩
    have hp : 0 ≤ p ∧ p ≤ 3 := ⟨Int32.not_lt.mp p1, Int32.not_lt.mp p2⟩
    have hm : 0 ≤ m ∧ m ≤ 3 := ⟨Int32.not_lt.mp m1, Int32.not_lt.mp m2⟩
    obtain ⟨P, Q, hP, hQ, rfl, rfl, hPQ⟩ := nats hp hm hn
    have hb : ∃ i, i < n ∧ ¬ okS (M.1 2 i) := by
      rcases hc with w | w | w | w | w | w | w
      · exact absurd w (fun w => (slot_out w).elim x1 x2)
      · exact absurd ⟨Int32.not_lt.mp q1, Int32.not_lt.mp q2⟩ w
      · exact absurd ⟨Int32.not_lt.mp s1, Int32.not_lt.mp s2⟩ w
      · exact absurd hp w
      · exact absurd hm w
      · exact absurd hn w
      · exact w
    obtain ⟨i, i1, i2⟩ := hb
    refine jEv.mono (s_X8_rule_chk_no (by omega) n 0 (by omega) ⟨i, by omega, i1, ?_⟩) (fun o M3 w => ⟨w.1, by rw [w.2]; exact iv⟩)
    rw [g 68 i (by omega) (by omega), (t4 i (by omega)).1]
    exact i2
  refine v_X7_rule_0 (fun M1 e1 => ?_)
  have f1 : ∀ a k, ¬ (a = 1 ∧ k = 1) → M1.1 a k = M.1 a k := fun a k z => by rw [e1, jsi_at, if_neg z]
  have nn := no M1 e1
  rw [e_isSlot]
  rcases slot_cases x with ⟨j, hj, rfl⟩ | hx
  rotate_left
  · rw [if_neg hx]
    exact ⟨_, rfl, fun _ => ⟨0, rfl, nn (Or.inl hx)⟩, fun w => absurd rfl w⟩
  rw [if_pos (slot_in hj).1]
  refine ⟨_, rfl, fun w => absurd w (by decide), fun _ => ?_⟩
  rw [e_isWithin]
  by_cases hq : 1 ≤ q ∧ q ≤ 4
  rotate_left
  · rw [if_neg hq]
    exact ⟨_, rfl, fun _ => ⟨0, rfl, nn (Or.inr (Or.inl hq))⟩, fun w => absurd rfl w⟩
  rw [if_pos hq]
  refine ⟨_, rfl, fun w => absurd w (by decide), fun _ => ?_⟩
  rw [e_isWithin]
  by_cases hs : 1 ≤ s ∧ s ≤ 20
  rotate_left
  · rw [if_neg hs]
    exact ⟨_, rfl, fun _ => ⟨0, rfl, nn (Or.inr (Or.inr (Or.inl hs)))⟩, fun w => absurd rfl w⟩
  rw [if_pos hs]
  refine ⟨_, rfl, fun w => absurd w (by decide), fun _ => ?_⟩
  rw [e_isWithin]
  by_cases hp : 0 ≤ p ∧ p ≤ 3
  rotate_left
  · rw [if_neg hp]
    exact ⟨_, rfl, fun _ => ⟨0, rfl, nn (Or.inr (Or.inr (Or.inr (Or.inl hp))))⟩, fun w => absurd rfl w⟩
  rw [if_pos hp]
  refine ⟨_, rfl, fun w => absurd w (by decide), fun _ => ?_⟩
  rw [e_isWithin]
  by_cases hm : 0 ≤ m ∧ m ≤ 3
  rotate_left
  · rw [if_neg hm]
    exact ⟨_, rfl, fun _ => ⟨0, rfl, nn (Or.inr (Or.inr (Or.inr (Or.inr (Or.inl hm)))))⟩, fun w => absurd rfl w⟩
  rw [if_pos hm]
  refine ⟨_, rfl, fun w => absurd w (by decide), fun _ => ?_⟩
  rw [t2]
  refine ⟨fun hn => ?_, fun hn => ⟨0, rfl, nn (Or.inr (Or.inr (Or.inr (Or.inr (Or.inr (Or.inl hn))))))⟩⟩
  obtain ⟨P, Q, hP, hQ, rfl, rfl, hPQ⟩ := nats hp hm hn
  obtain ⟨sl1, sl2, sl3⟩ := slot_in hj
  rcases okS_dec (M.1 2) n with ok | ⟨i, i1, i2⟩
  rotate_left
  · refine v_X6_isEachWithin_0 ((s_isEachWithin_no M1 (by omega) n 0 (by omega) ⟨i, by omega, i1, by rw [f1 2 i (by omega)]; exact i2⟩).iff _ |>.mpr ?_)
    exact ⟨_, rfl, fun _ => ⟨0, rfl, nn (Or.inr (Or.inr (Or.inr (Or.inr (Or.inr (Or.inr ⟨i, i1, i2⟩))))))⟩, fun w => absurd rfl w⟩
  refine v_X6_isEachWithin_0 ((s_isEachWithin_yes M1 (by omega) (fun i hi => by rw [f1 2 i (by omega)]; exact ok i hi) n 0 (by omega)).iff _ |>.mpr ?_)
  refine ⟨_, rfl, fun w => absurd w (by decide), fun _ => ⟨sl2, ?_⟩⟩
  rw [sl3]
  refine jEv.mono (s_X5_take M1 hj hP hQ q s) (fun o M2 w => ⟨w.1, 1, rfl, ?_⟩)
  obtain ⟨-, c0, c1, c2, c3, c4, c5, c6, c7⟩ := w
  -- the model takes it too
  refine v_X8_rule_0 (fun M3 e3 => ?_)
  rw [(s_taken M3).iff]
  have d0 : ∀ a k, a ≠ 4 + 4 * j → a ≠ 4 + 4 * j + 1 → a ≠ 4 + 4 * j + 2 → ¬ (a = 1 ∧ k = 1) → ¬ (a = 67 ∧ (k = 0 ∨ k = 2)) → (jsi M3 67 2 0).1 a k = M.1 a k := fun a k z1 z2 z3 z4 z5 => by
    rw [jsi_at, if_neg (by omega), e3, jsi_at, if_neg (by omega), c6 a k z1 z2 z3]; exact f1 a k z4
  have e4 : M3.1 67 2 = nI n := by rw [e3, jsi_at, if_neg (by decide), c6 67 2 (by omega) (by omega) (by omega), f1 67 2 (by decide)]; exact t3
  rw [e4]
  refine ⟨_, rfl, fun w => absurd w (slot_not hj).1, fun _ => ⟨fun w => absurd w (slot_not hj).2, fun _ => ⟨fun w => absurd w (Int32.not_lt.mpr hq.1), fun _ => ⟨fun w => absurd w (Int32.not_lt.mpr hq.2), fun _ => ⟨fun w => absurd w (Int32.not_lt.mpr hp.1), fun _ => ⟨fun w => absurd w (Int32.not_lt.mpr hp.2), fun _ => ⟨fun w => absurd w (Int32.not_lt.mpr hm.1), fun _ => ⟨fun w => absurd w (Int32.not_lt.mpr hm.2), fun _ => ⟨fun w => absurd w (Int32.not_lt.mpr hs.1), fun _ => ⟨fun w => absurd w (Int32.not_lt.mpr hs.2), fun _ => ⟨fun _ => ?_, fun w => absurd hn w⟩⟩⟩⟩⟩⟩⟩⟩⟩⟩⟩
  rw [hPQ]
  refine jEv.mono (s_X8_rule_chk_yes (M0 := jsi M3 67 2 0) hj hP hQ (fun i hi => by rw [d0 68 i (by omega) (by omega) (by omega) (by omega) (by omega), (t4 i (by omega)).1]; exact ok i (by omega)) (P + Q) 0 (by omega)) (fun o M4 w => ⟨w.1, ?_⟩)
  obtain ⟨-, m0, m1, m2, m3, m4, m5, m6, m7⟩ := w
  have e : ∀ a k, a ≠ 4 + 4 * j → a ≠ 4 + 4 * j + 1 → a ≠ 4 + 4 * j + 2 → ¬ (a = 1 ∧ k = 1) → ¬ (a = 67 ∧ (k = 0 ∨ k = 2)) → ¬ (69 ≤ a ∧ a ≤ 73 ∧ k = j) → ¬ ((a = 74 ∨ a = 75) ∧ 4 * j < k ∧ k < 4 * j + 4) → M4.1 a k = M.1 a k := fun a k z1 z2 z3 z4 z5 z6 z7 => (m6 a k z6 z7).trans (d0 a k z1 z2 z3 z4 z5)
  have ec : ∀ a k, (a = 4 + 4 * j ∨ a = 4 + 4 * j + 1 ∨ a = 4 + 4 * j + 2) → M4.1 a k = M2.1 a k := fun a k z => by
    rw [m6 a k (by omega) (by omega), jsi_at, if_neg (by omega), e3, jsi_at, if_neg (by omega)]
  have e2 : M4.2 = M.2 := by rw [m7]; show M3.2 = M.2; rw [e3]; show M2.2 = M.2; rw [c7, e1]; rfl
  obtain ⟨qn, hqn, rfl⟩ := nI_of2 (M := 4) (n := 4) rfl (Int32.not_lt.mpr (Int32.le_trans (by decide) hq.1)) hq.2
  obtain ⟨sn, hsn, rfl⟩ := nI_of2 (M := 20) (n := 20) rfl (Int32.not_lt.mpr (Int32.le_trans (by decide) hs.1)) hs.2
  have hq1 : 1 ≤ qn := (nI_leI (a := 1) (by omega) (by omega)).mp hq.1
  have hs1 : 1 ≤ sn := (nI_leI (a := 1) (by omega) (by omega)).mp hs.1
  have b2 : ∀ i, M1.1 2 i = M.1 2 i := fun i => f1 2 i (by omega)
  have b68 : ∀ i, i < 100 → (jsi M3 67 2 0).1 68 i = M.1 2 i := fun i hi => by rw [d0 68 i (by omega) (by omega) (by omega) (by omega) (by omega)]; exact (t4 i hi).1
  refine ⟨⟨0, by omega, ?_, ?_, fun i hi => ?_⟩, fun i hi => ?_, fun i hi => (h.2.2.1 i hi).cg fun a k z => e a k (by omega) (by omega) (by omega) (by omega) (by omega) (by omega) (by omega), h.2.2.2.1.cg fun a k z => e a k (by omega) (by omega) (by omega) (by omega) (by omega) (by omega) (by omega), ?_, ?_⟩
  · rw [m6 1 1 (by omega) (by omega), jsi_at, if_neg (by omega), e3, jsi_at, if_neg (by omega), c6 1 1 (by omega) (by omega) (by omega), e1, jsi_at, if_pos ⟨rfl, rfl⟩]; rfl
  · rw [m6 67 2 (by omega) (by omega), jsi_at, if_pos ⟨rfl, rfl⟩]; rfl
  · rw [e 68 i (by omega) (by omega) (by omega) (by omega) (by omega) (by omega) (by omega), e 2 i (by omega) (by omega) (by omega) (by omega) (by omega) (by omega) (by omega)]
    exact t4 i hi
  · by_cases ij : i = j
    · subst ij
      refine Or.inr ⟨by rw [ec _ 0 (Or.inl rfl)]; exact c0, m0, qn, P, Q, sn, hq1, hqn, hP, hQ, hs1, hsn, by rw [ec _ 1 (Or.inl rfl)]; exact c1, m1, by rw [ec _ 2 (Or.inl rfl)]; exact c2, m2, by rw [ec _ 3 (Or.inl rfl)]; exact c3, m3, by rw [ec _ 4 (Or.inl rfl)]; exact c4, m4, fun k k1 k2 => ?_, fun k k1 k2 => ?_⟩
      · rw [ec _ k (Or.inr (Or.inl rfl)), (c5 k k1 k2).1, (m5 k k1 k2).1]
        by_cases w : P < k
        · rw [bkF_hi w, bkF_hi w]; exact ⟨rfl, by decide, by decide, fun _ => rfl⟩
        · rw [bkF_lo w, bkF_lo w, b2, b68 _ (by omega)]
          have := (rng8 _).mp (ok (k - 1) (by omega))
          exact ⟨rfl, this.1, this.2, fun z => absurd z w⟩
      · rw [ec _ k (Or.inr (Or.inr rfl)), (c5 k k1 k2).2, (m5 k k1 k2).2]
        by_cases w : Q < k
        · rw [msF_hi w, msF_hi w]; exact ⟨rfl, by decide, by decide, fun _ => rfl⟩
        · rw [msF_lo w, msF_lo w, b2, b68 _ (by omega)]
          have := (rng8 _).mp (ok (P + k - 1) (by omega))
          exact ⟨rfl, this.1, this.2, fun z => absurd z w⟩
    · exact (h.2.1 i hi).cg fun a k z => e a k (by omega) (by omega) (by omega) (by omega) (by omega) (by omega) (by omega)
  · exact h.2.2.2.2.1.cg (fun a k z => e a k (by omega) (by omega) (by omega) (by omega) (by omega) (by omega) (by omega)) (fun a k z => by rw [e2])
  · exact h.2.2.2.2.2.cg (fun a k z => e a k (by omega) (by omega) (by omega) (by omega) (by omega) (by omega) (by omega)) (fun a k z => by rw [e2])
