/-! even: both; the numbers -/
def evA (r : Int32) : Int32 := if 0 ≤ r then r else 0 - r
def evC (r0 r1 r2 : Int32) : Int32 := if (2 * evA r1) ≤ (r0 + (2 * r2)) then (if r2 ≤ 0 then 1 else if (4 * r2) ≤ evA r1 then 1 else if ((4 * r2) * (r0 - (2 * r2))) < (r1 * r1) then 0 else 1) else 0
def evM (s0 s1 s2 : Int64) : Int32 := if ((s0 + (2 * s1)) + (2 * s2)) < 0 then 0 else if 0 ≤ ((s0 - (2 * s1)) + (2 * s2)) then (if s2 ≤ 0 then 1 else if (4 * s2) < s1 then 1 else if s1 < ((-4) * s2) then 1 else if (s1 * s1) ≤ ((4 * s2) * (s0 - (2 * s2))) then 1 else 0) else 0
def evI (a b c : Int) : Int32 := if 2 * b.natAbs ≤ a + 2 * c then (if c ≤ 0 then 1 else if 4 * c ≤ b.natAbs then 1 else if 4 * c * (a - 2 * c) < b * b then 0 else 1) else 0
theorem mulI {x y : Int32} {C D : Nat} (ha : x.toInt.natAbs ≤ C) (hb : y.toInt.natAbs ≤ D) (h : C * D < 2147483648) : (x * y).toInt = x.toInt * y.toInt ∧ (x * y).toInt.natAbs ≤ C * D := by
  have l : (x.toInt * y.toInt).natAbs ≤ C * D := by rw [Int.natAbs_mul]; exact Nat.mul_le_mul ha hb
  have e : (x * y).toInt = x.toInt * y.toInt := fb_mulI (by omega) (by omega)
  exact ⟨e, by rw [e]; exact l⟩
theorem evA_i {r : Int32} (h : r.toInt.natAbs ≤ 1000) : (evA r).toInt = r.toInt.natAbs := by
  unfold evA
  split
  · next q => rw [Int32.le_iff_toInt_le, Int32.toInt_zero] at q; omega
  · next q =>
    rw [Int32.le_iff_toInt_le, Int32.toInt_zero] at q
    rw [fb_subI (by rw [Int32.toInt_zero]; omega) (by rw [Int32.toInt_zero]; omega), Int32.toInt_zero]
    omega
theorem evC_i {r0 r1 r2 : Int32} (h0 : r0.toInt.natAbs ≤ 1000) (h1 : r1.toInt.natAbs ≤ 1000) (h2 : r2.toInt.natAbs ≤ 1000) : evC r0 r1 r2 = evI r0.toInt r1.toInt r2.toInt := by
  have e1 := evA_i h1
  have t2 : (2 : Int32).toInt = 2 := rfl
  have t4 : (4 : Int32).toInt = 4 := rfl
  have m1 := (mulI (x := 2) (y := evA r1) (C := 2) (D := 1000) (by decide) (by rw [e1]; omega) (by decide))
  have m2 := (mulI (x := 2) (y := r2) (C := 2) (D := 1000) (by decide) h2 (by decide))
  have m4 := (mulI (x := 4) (y := r2) (C := 4) (D := 1000) (by decide) h2 (by decide))
  have ms := (mulI h1 h1 (by decide))
  rw [t2] at m1 m2
  rw [t4] at m4
  have a0 : (r0 + 2 * r2).toInt = r0.toInt + 2 * r2.toInt := by rw [fb_addI (by omega) (by omega), m2.1]
  have s0 : (r0 - 2 * r2).toInt = r0.toInt - 2 * r2.toInt := by rw [fb_subI (by omega) (by omega), m2.1]
  have mm := (mulI (x := 4 * r2) (y := r0 - 2 * r2) (C := 4000) (D := 3000) m4.2 (by omega) (by decide))
  rw [m4.1, s0] at mm
  unfold evC evI
  simp only [Int32.le_iff_toInt_le, Int32.lt_iff_toInt_lt, m1.1, a0, e1, Int32.toInt_zero, m4.1, mm.1, ms.1]
theorem evM_i {s0 s1 s2 : Int64} (h0 : aL s0 1000) (h1 : aL s1 1000) (h2 : aL s2 1000) : evM s0 s1 s2 = evI s0.toInt s1.toInt s2.toInt := by
  have m1 := aL_mul (a := 2) (b := s1) (C := 2) (D := 1000) (by unfold aL; decide) h1 (by decide)
  have m2 := aL_mul (a := 2) (b := s2) (C := 2) (D := 1000) (by unfold aL; decide) h2 (by decide)
  have m4 := aL_mul (a := 4) (b := s2) (C := 4) (D := 1000) (by unfold aL; decide) h2 (by decide)
  have m5 := aL_mul (a := -4) (b := s2) (C := 4) (D := 1000) (by unfold aL; decide) h2 (by decide)
  have ms := aL_mul h1 h1 (by decide)
  have t2 : (2 : Int64).toInt = 2 := rfl
  have t4 : (4 : Int64).toInt = 4 := rfl
  have t5 : (-4 : Int64).toInt = -4 := rfl
  rw [t2] at m1 m2
  rw [t4] at m4
  rw [t5] at m5
  have a1 := aL_add h0 m1.2 (by decide)
  have a2 := aL_add a1.2 m2.2 (by decide)
  have b1 := aL_sub h0 m1.2 (by decide)
  have b2 := aL_add b1.2 m2.2 (by decide)
  have d1 := aL_sub h0 m2.2 (by decide)
  have mm := aL_mul m4.2 d1.2 (by decide)
  unfold evM
  simp only [Int64.le_iff_toInt_le, Int64.lt_iff_toInt_lt, a2.1, a1.1, b2.1, b1.1, m1.1, m2.1, m4.1, m5.1, ms.1, mm.1, d1.1, Int64.toInt_zero]
  unfold aL at h0 h1 h2
  generalize s0.toInt = a at *
  generalize s1.toInt = b at *
  generalize s2.toInt = c at *
  clear m1 m2 m4 m5 ms a1 a2 b1 b2 d1 mm t2 t4 t5
  unfold evI
  by_cases g : 2 * (b.natAbs : Int) ≤ a + 2 * c
  · rw [if_pos g, if_neg (by omega), if_pos (by omega)]
    by_cases hc : c ≤ 0
    · rw [if_pos hc, if_pos hc]
    · rw [if_neg hc, if_neg hc]
      by_cases hl : 4 * c ≤ b.natAbs
      · rw [if_pos hl]
        by_cases w1 : 4 * c < b
        · rw [if_pos w1]
        · rw [if_neg w1]
          by_cases w2 : b < -4 * c
          · rw [if_pos w2]
          · rw [if_neg w2, if_pos]
            have hb : b * b = (4 * c) * (4 * c) := by
              rcases (show b = 4 * c ∨ b = -(4 * c) by omega) with e | e
              · rw [e]
              · rw [e, Int.neg_mul_neg]
            rw [hb]
            exact Int.mul_le_mul_of_nonneg_left (by omega) (by omega)
      · rw [if_neg hl, if_neg (by omega), if_neg (by omega)]
        by_cases w : 4 * c * (a - 2 * c) < b * b
        · rw [if_pos w, if_neg (by omega)]
        · rw [if_neg w, if_pos (by omega)]
  · rw [if_neg g]
    by_cases w : a + 2 * b + 2 * c < 0
    · rw [if_pos w]
    · rw [if_neg w, if_neg (by omega)]
theorem ev_eq {r0 r1 r2 : Int32} (h0 : r0.toInt.natAbs ≤ 1000) (h1 : r1.toInt.natAbs ≤ 1000) (h2 : r2.toInt.natAbs ≤ 1000) : evM r0.toInt64 r1.toInt64 r2.toInt64 = evC r0 r1 r2 := by
  have t : ∀ {r : Int32}, r.toInt.natAbs ≤ 1000 → aL r.toInt64 1000 := fun h => by unfold aL; rw [Int32.toInt_toInt64]; exact h
  rw [evM_i (t h0) (t h1) (t h2), evC_i h0 h1 h2, Int32.toInt_toInt64, Int32.toInt_toInt64, Int32.toInt_toInt64]
theorem c_even {M : jM} {j n : Nat} {r : Nat → Int32} (hj : j < 6) (v : vL M j n r) (hn : n ≤ 3) : jTo nX3_isNowhereBelowZero (0, [(0, .ref (29 + 2 * j))], [], M) (some (some (.int (evC (r 0) (if 1 < n then r 1 else 0) (if 2 < n then r 2 else 0))))) M := by
  obtain ⟨h0, h1, h2, h3, h4, h5, h6⟩ := v
  refine v_X3_isNowhereBelowZero_0 (jLi_n hj) ?_
  rw [h2, (h4 0 (by omega)).1]
  have z : (2 : Int32) * 0 = 0 := by decide
  rcases (show n = 1 ∨ n = 2 ∨ n = 3 by omega) with rfl | rfl | rfl
  · refine ⟨fun _ => ⟨fun _ => ⟨fun w => ⟨?_, rfl⟩, fun w => ⟨?_, rfl⟩⟩, fun w => absurd (by decide) w⟩, fun w => absurd (by decide) w⟩
    · unfold evC; rw [if_neg (show ¬ 1 < 1 by omega), if_neg (show ¬ 2 < 1 by omega), if_pos (show (2 * evA 0) ≤ (r 0 + (2 * 0)) from w), if_pos (by decide)]
    · unfold evC; rw [if_neg (show ¬ 1 < 1 by omega), if_neg (show ¬ 2 < 1 by omega), if_neg (show ¬ (2 * evA 0) ≤ (r 0 + (2 * 0)) from w)]
  · rw [(h4 1 (by omega)).1]
    refine ⟨fun w => absurd w (by decide), fun _ => ⟨fun _ => ⟨fun w => ⟨?_, rfl⟩, fun w => ⟨?_, rfl⟩⟩, fun w => absurd (by decide) w⟩⟩
    · unfold evC evA; rw [if_pos (show 1 < 2 by omega), if_neg (show ¬ 2 < 2 by omega), if_pos w, if_pos (by decide)]
    · unfold evC evA; rw [if_pos (show 1 < 2 by omega), if_neg (show ¬ 2 < 2 by omega), if_neg w]
  · rw [(h4 1 (by omega)).1, (h4 2 (by omega)).1]
    refine ⟨fun w => absurd w (by decide), fun _ => ⟨fun w => absurd w (by decide), fun _ => ⟨fun w => ⟨fun w2 => ⟨?_, rfl⟩, fun w2 => ⟨fun w3 => ⟨?_, rfl⟩, fun w3 => ⟨fun w4 => ⟨?_, rfl⟩, fun w4 => ⟨?_, rfl⟩⟩⟩⟩, fun w => ⟨?_, rfl⟩⟩⟩⟩
    · unfold evC evA; rw [if_pos (show 1 < 3 by omega), if_pos (show 2 < 3 by omega), if_pos w, if_pos w2]
    · unfold evC evA; rw [if_pos (show 1 < 3 by omega), if_pos (show 2 < 3 by omega), if_pos w, if_neg w2, if_pos w3]
    · unfold evC evA; rw [if_pos (show 1 < 3 by omega), if_pos (show 2 < 3 by omega), if_pos w, if_neg w2, if_neg w3, if_pos w4]
    · unfold evC evA; rw [if_pos (show 1 < 3 by omega), if_pos (show 2 < 3 by omega), if_pos w, if_neg w2, if_neg w3, if_neg w4]
    · unfold evC evA; rw [if_pos (show 1 < 3 by omega), if_pos (show 2 < 3 by omega), if_neg w]
theorem ev_leaf {M : jM} {s0 s1 s2 : Int64} {K : jK} (k : K (some (some (.int (evM s0 s1 s2)))) M) : ((((s0 + (2 * s1)) + (2 * s2)) < 0 → K (some (some (.int 0))) M) ∧ (¬ (((s0 + (2 * s1)) + (2 * s2)) < 0) → ((0 ≤ ((s0 - (2 * s1)) + (2 * s2)) → ((s2 ≤ 0 → K (some (some (.int 1))) M) ∧ (¬ (s2 ≤ 0) → (((4 * s2) < s1 → K (some (some (.int 1))) M) ∧ (¬ ((4 * s2) < s1) → ((s1 < ((-4) * s2) → K (some (some (.int 1))) M) ∧ (¬ (s1 < ((-4) * s2)) → (((s1 * s1) ≤ ((4 * s2) * (s0 - (2 * s2))) → K (some (some (.int 1))) M) ∧ (¬ ((s1 * s1) ≤ ((4 * s2) * (s0 - (2 * s2)))) → K (some (some (.int 0))) M))))))))) ∧ (¬ (0 ≤ ((s0 - (2 * s1)) + (2 * s2))) → K (some (some (.int 0))) M)))) := by
  unfold evM at k
  refine ⟨fun w => ?_, fun w => ⟨fun w2 => ⟨fun w3 => ?_, fun w3 => ⟨fun w4 => ?_, fun w4 => ⟨fun w5 => ?_, fun w5 => ⟨fun w6 => ?_, fun w6 => ?_⟩⟩⟩⟩, fun w2 => ?_⟩⟩
  · rw [if_pos w] at k; exact k
  · rw [if_neg w, if_pos w2, if_pos w3] at k; exact k
  · rw [if_neg w, if_pos w2, if_neg w3, if_pos w4] at k; exact k
  · rw [if_neg w, if_pos w2, if_neg w3, if_neg w4, if_pos w5] at k; exact k
  · rw [if_neg w, if_pos w2, if_neg w3, if_neg w4, if_neg w5, if_pos w6] at k; exact k
  · rw [if_neg w, if_pos w2, if_neg w3, if_neg w4, if_neg w5, if_neg w6] at k; exact k
  · rw [if_neg w, if_neg w2] at k; exact k
theorem m_even {M : jM} {K : jK} {j n : Nat} {r : Nat → Int32} (hj : j < 6) (v : vL M j n r) (k : ∀ M1, M1 = jsi M 67 0 0 → K (some (some (.int (if n ≤ 3 then evM (r 0).toInt64 (if 1 < n then (r 1).toInt64 else 0) (if 2 < n then (r 2).toInt64 else 0) else -1)))) M1) : jEv nX8_even (0, [(0, .ref 67), (1, .int (nI j))], [], M) K := by
  refine v_X8_even_0 (fun M1 e1 => ?_)
  have v1 := v.kp hj (kp67 e1).i
  have k1 := k M1 e1
  obtain ⟨g1, g2, g3⟩ := slot_in hj
  obtain ⟨h0, h1, h2, h3, h4, h5, h6⟩ := id v1
  have i0 : 5 * nI j = nI (5 * j) := by rw [show (5 : Int32) = nI 5 from rfl, pk_mul]
  have i1 : nI (5 * j) + 1 = nI (5 * j + 1) := nI_1 _
  have i2 : nI (5 * j) + 2 = nI (5 * j + 2) := nI_add _ 2
  have c0 : (nI (5 * j)).toNatClampNeg = 5 * j + 0 := nI_clamp (by omega)
  have c1 : (nI (5 * j + 1)).toNatClampNeg = 5 * j + 1 := nI_clamp (by omega)
  have c2 : (nI (5 * j + 2)).toNatClampNeg = 5 * j + 2 := nI_clamp (by omega)
  have n0 := nI_in (c := 5 * j) (N := 30) (by omega) (by omega)
  have n1 := nI_in (c := 5 * j + 1) (N := 30) (by omega) (by omega)
  have n2 := nI_in (c := 5 * j + 2) (N := 30) (by omega) (by omega)
  have g2' := g2
  rw [g3] at g2'
  rw [c0] at n0
  rw [c1] at n1
  rw [c2] at n2
  rw [(m_lik hj v1).iff]
  refine ⟨_, rfl, fun w => absurd w (by decide), fun _ => ⟨g2, ?_⟩⟩
  rw [g3, h3, i0, i1, i2, c0, c1, c2, (h4 0 (by omega)).2.1]
  rcases (show n = 1 ∨ n = 2 ∨ n = 3 ∨ 3 < n by omega) with rfl | rfl | rfl | hn
  · rw [if_pos (show 1 ≤ 3 by omega), if_neg (show ¬ 1 < 1 by omega), if_neg (show ¬ 2 < 1 by omega)] at k1
    refine ⟨fun _ => ⟨n0, g2', fun _ => ⟨g2', fun _ => ev_leaf k1, fun w => absurd (by decide) w⟩, fun w => absurd (by decide) w⟩, fun w => absurd (by decide) w⟩
  · rw [if_pos (show 2 ≤ 3 by omega), if_pos (show 1 < 2 by omega), if_neg (show ¬ 2 < 2 by omega)] at k1
    rw [(h4 1 (by omega)).2.1]
    exact ⟨fun _ => ⟨n0, g2', fun w => absurd w (by decide), fun _ => ⟨n1, g2', fun _ => ev_leaf k1, fun w => absurd (by decide) w⟩⟩, fun w => absurd (by decide) w⟩
  · rw [if_pos (show 3 ≤ 3 by omega), if_pos (show 1 < 3 by omega), if_pos (show 2 < 3 by omega)] at k1
    rw [(h4 1 (by omega)).2.1, (h4 2 (by omega)).2.1]
    exact ⟨fun _ => ⟨n0, g2', fun w => absurd w (by decide), fun _ => ⟨n1, g2', fun w => absurd w (by decide), fun _ => ⟨n2, ev_leaf k1⟩⟩⟩, fun w => absurd (by decide) w⟩
  · rw [if_neg (by omega)] at k1
    exact ⟨fun w => absurd w (nI_ge (a := 3) (by omega) (by omega)), fun _ => k1⟩
theorem op_even {M : jM} (h : iInv M) (y : Int32) : jBoth nX7_even nX8_even [(0, .ref 0), (1, .int y)] [(0, .ref 67), (1, .int y)] M := by
  rcases lik_cs h y with ⟨c, m⟩ | ⟨j, n, r, hj, rfl, v⟩
  · refine both_i (r := -1) h (v_X7_even_0 ?_) (fun M1 k => v_X8_even_0 (fun M2 e2 => ?_))
    · rw [(c M (iI.rfl' M)).iff]
      exact Or.inl ⟨rfl, rfl, iKp.rfl' M⟩
    · have k2 := kp67 e2
      rw [(m M2 (k.trans k2.i)).iff]
      exact ⟨_, rfl, fun _ => ⟨rfl, k2⟩, fun z => absurd rfl z⟩
  · obtain ⟨h0, h1, h2, h3, h4, h5, h6⟩ := id v
    have b : ∀ i, i < n → (r i).toInt.natAbs ≤ 1000 := fun i hi => by have := h4 i hi; omega
    have z1 : (if 1 < n then (r 1).toInt64 else 0) = (if 1 < n then r 1 else 0).toInt64 := by split <;> rfl
    have z2 : (if 2 < n then (r 2).toInt64 else 0) = (if 2 < n then r 2 else 0).toInt64 := by split <;> rfl
    have eq : evM (r 0).toInt64 (if 1 < n then (r 1).toInt64 else 0) (if 2 < n then (r 2).toInt64 else 0) = evC (r 0) (if 1 < n then r 1 else 0) (if 2 < n then r 2 else 0) := by
      rw [z1, z2]
      refine ev_eq (b 0 (by omega)) ?_ ?_
      · split
        · exact b 1 (by omega)
        · decide
      · split
        · exact b 2 (by omega)
        · decide
    have c01 : evC (r 0) (if 1 < n then r 1 else 0) (if 2 < n then r 2 else 0) = 0 ∨ evC (r 0) (if 1 < n then r 1 else 0) (if 2 < n then r 2 else 0) = 1 := by
      unfold evC
      repeat' split
      all_goals first | exact Or.inl rfl | exact Or.inr rfl
    refine both_i (r := if n ≤ 3 then evC (r 0) (if 1 < n then r 1 else 0) (if 2 < n then r 2 else 0) else -1) h (v_X7_even_0 ?_) (fun M1 k => m_even hj (v.kp hj k) (fun M2 e2 => ⟨by rw [eq], kp67 e2⟩))
    rw [(c_lik hj v).iff]
    refine Or.inr ⟨_, jLi_n hj, rfl, ?_⟩
    rw [h2]
    by_cases hn : n ≤ 3
    · rw [if_pos hn]
      refine ⟨fun _ => ?_, fun w => absurd (nI_le (b := 3) hn (by omega)) w⟩
      rw [(c_even hj v hn).iff]
      refine ⟨_, rfl, fun w => ⟨by rw [w], iKp.rfl' M⟩, fun w => ⟨by rw [c01.resolve_left w], iKp.rfl' M⟩⟩
    · rw [if_neg hn]
      exact ⟨fun w => absurd w (nI_ge (a := 3) (by omega) (by omega)), fun _ => ⟨rfl, iKp.rfl' M⟩⟩
