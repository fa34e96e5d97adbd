/-! fractions as rational numbers: sizes, products, sums -/
def sm (r : Rat) (C D : Nat) : Prop := r.num.natAbs ≤ C ∧ r.den ≤ D
theorem sm.mono {r : Rat} {C D C' D' : Nat} (h : sm r C D) (hC : C ≤ C') (hD : D ≤ D') : sm r C' D' := ⟨Nat.le_trans h.1 hC, Nat.le_trans h.2 hD⟩
theorem sm_div {N D : Int} (hD : D ≠ 0) : sm (Rat.divInt N D) N.natAbs D.natAbs := by
  have hp : 0 < D.gcd N := Int.gcd_pos_of_ne_zero_left _ hD
  obtain ⟨x, hx⟩ : ((D.gcd N : Nat) : Int) ∣ N := Int.gcd_dvd_right ..
  refine ⟨?_, ?_⟩
  · rw [Rat.num_divInt]
    have e : D.sign * N / (D.gcd N : Nat) = D.sign * x := by
      have e2 : D.sign * N = (D.gcd N : Nat) * (D.sign * x) := by rw [Int.mul_left_comm, ← hx]
      rw [e2, Int.mul_ediv_cancel_left _ (by omega)]
    rw [e, Int.natAbs_mul]
    have h1 : D.sign.natAbs ≤ 1 := by
      rcases Int.lt_trichotomy D 0 with w | w | w
      · rw [Int.sign_eq_neg_one_of_neg w]; decide
      · exact absurd w hD
      · rw [Int.sign_eq_one_of_pos w]; decide
    have h2 : x.natAbs ≤ N.natAbs := by
      have : N.natAbs = D.gcd N * x.natAbs := by
        have := congrArg Int.natAbs hx
        rw [Int.natAbs_mul] at this
        exact this
      rw [this]
      exact Nat.le_mul_of_pos_left _ hp
    calc D.sign.natAbs * x.natAbs ≤ 1 * x.natAbs := Nat.mul_le_mul_right _ h1
      _ = x.natAbs := Nat.one_mul _
      _ ≤ N.natAbs := h2
  · rw [Rat.den_divInt, if_neg hD]
    exact Nat.div_le_self _ _
theorem cU_i {r : Rat} {C D : Nat} (h : sm r C D) (hC : C < 9223372036854775808) : (cU r).toInt = r.num := by
  unfold cU
  rw [Int64.toInt_ofInt]
  have := h.1
  exact fb_bmodL (by omega) (by omega)
theorem cL_i {r : Rat} {C D : Nat} (h : sm r C D) (hD : D < 9223372036854775808) : (cL r).toInt = r.den := by
  unfold cL
  rw [Int64.toInt_ofInt]
  have := h.2
  exact fb_bmodL (by omega) (by omega)
theorem rQ_c {r : Rat} {C D : Nat} (h : sm r C D) (hC : C < 9223372036854775808) (hD : D < 9223372036854775808) : rQ (cU r) (cL r) = r := by
  unfold rQ
  rw [cU_i h hC, cL_i h hD, Rat.num_divInt_den]
theorem cL_0 {r : Rat} {C D : Nat} (h : sm r C D) (hD : D < 9223372036854775808) : ¬ cL r = 0 := by
  intro e
  have := cL_i h hD
  rw [e, Int64.toInt_zero] at this
  have := r.den_pos
  omega
theorem cU_ne {r : Rat} {C D : Nat} (h : sm r C D) (hC : C < 9223372036854775808) : (cU r).toInt ≠ -9223372036854775808 := by
  have := cU_i h hC
  have := h.1
  omega
theorem cL_ne {r : Rat} {C D : Nat} (h : sm r C D) (hD : D < 9223372036854775808) : (cL r).toInt ≠ -9223372036854775808 := by
  have := cL_i h hD
  omega
theorem r_mul {r s : Rat} {g h x y z w : Int} (hg : g ≠ 0) (hh : h ≠ 0) (h1 : r.num = g * x) (h2 : (s.den : Int) = g * y) (h3 : s.num = h * z) (h4 : (r.den : Int) = h * w) : Rat.divInt (x * z) (w * y) = r * s := by
  have e : r * s = Rat.divInt (r.num * s.num) ((r.den : Int) * (s.den : Int)) := by
    rw [← Rat.divInt_mul_divInt, Rat.num_divInt_den, Rat.num_divInt_den]
  rw [e, h1, h2, h3, h4, show g * x * (h * z) = (g * h) * (x * z) by grind, show h * w * (g * y) = (g * h) * (w * y) by grind, Rat.divInt_mul_left (Int.mul_ne_zero hg hh)]
theorem r_add {r s : Rat} {g y w : Int} (hg : g ≠ 0) (h2 : (s.den : Int) = g * y) (h4 : (r.den : Int) = g * w) : Rat.divInt (r.num * y + s.num * w) (w * s.den) = r + s := by
  have hr : (r.den : Int) ≠ 0 := by have := r.den_pos; omega
  have hs : (s.den : Int) ≠ 0 := by have := s.den_pos; omega
  have e : r + s = Rat.divInt (r.num * s.den + s.num * r.den) ((r.den : Int) * (s.den : Int)) := by
    rw [← Rat.divInt_add_divInt _ _ hr hs, Rat.num_divInt_den, Rat.num_divInt_den]
  rw [e]
  have a1 : r.num * (s.den : Int) + s.num * (r.den : Int) = g * (r.num * y + s.num * w) := by rw [h2, h4]; grind
  have a2 : (r.den : Int) * (s.den : Int) = g * (w * (s.den : Int)) := by rw [h4]; grind
  rw [a1, a2, Rat.divInt_mul_left hg]
theorem gI_pos {a b : Int64} (ha : a.toInt ≠ -9223372036854775808) (hb : b.toInt ≠ -9223372036854775808) (h : a.toInt ≠ 0 ∨ b.toInt ≠ 0) : 0 < gI a b ∧ ¬ gI a b = 0 ∧ (gI a b).toInt ∣ a.toInt ∧ (gI a b).toInt ∣ b.toInt := by
  have e := gI_toInt ha hb
  have p : 0 < Int.gcd a.toInt b.toInt := by
    rcases h with h | h
    · exact Int.gcd_pos_of_ne_zero_left _ h
    · exact Int.gcd_pos_of_ne_zero_right _ h
  refine ⟨by rw [Int64.lt_iff_toInt_lt, Int64.toInt_zero, e]; omega, fun z => by rw [z, Int64.toInt_zero] at e; omega, by rw [e]; exact Int.gcd_dvd_left .., by rw [e]; exact Int.gcd_dvd_right ..⟩
/-- what a fraction put down leaves -/
def jF (M : jM) (r : Rat) : jM := jsl (jsl M 67 3 (cU r)) 67 4 (cL r)
theorem jF_1 (M : jM) (r : Rat) : (jF M r).1 = M.1 := rfl
theorem jF_u (M : jM) (r : Rat) : (jF M r).2 67 3 = cU r := rfl
theorem jF_l (M : jM) (r : Rat) : (jF M r).2 67 4 = cL r := rfl
theorem jF_o (M : jM) (r : Rat) {a k : Nat} (h : a ≠ 67) : (jF M r).2 a k = M.2 a k := by
  unfold jF
  rw [jsl_at, if_neg (fun z => h z.1), jsl_at, if_neg (fun z => h z.1)]
theorem jF_kp {M M' : jM} (h : iKp M M') (r : Rat) : iKp M (jF M' r) := (h.sl (by decide)).sl (by decide)
theorem m_setF (M : jM) {a b : Int64} (ha : a.toInt ≠ -9223372036854775808) (hb : b.toInt ≠ -9223372036854775808) (h0 : ¬ b = 0) : jTo nX8_set (0, [(0, .ref 67), (1, .long a), (3, .long b)], [], M) (some none) (jF M (rQ a b)) := m_set M ha hb h0
theorem m_times {M : jM} {r s : Rat} {C D C' D' : Nat} (hr : sm r C D) (hs : sm s C' D') (hN : C * C' < 9223372036854775808) (hD : D * D' < 9223372036854775808) (hC : C < 9223372036854775808) (hC' : C' < 9223372036854775808) (eu : M.2 67 3 = cU r) (el : M.2 67 4 = cL r) : jTo nX8_times (0, [(0, .ref 67), (1, .long (cU s)), (3, .long (cL s))], [], M) (some none) (jF M (r * s)) := by
  have rd := r.den_pos
  have sd := s.den_pos
  have D1 : 1 ≤ D := Nat.le_trans rd hr.2
  have D2 : 1 ≤ D' := Nat.le_trans sd hs.2
  have bD : D < 9223372036854775808 := Nat.lt_of_le_of_lt (Nat.le_mul_of_pos_right D D2) hD
  have bD' : D' < 9223372036854775808 := Nat.lt_of_le_of_lt (Nat.le_mul_of_pos_left D' D1) hD
  have a1 := cU_i hr hC
  have a2 := cL_i hr bD
  have a3 := cU_i hs hC'
  have a4 := cL_i hs bD'
  have l1 : aL (cU r) C := by unfold aL; rw [a1]; exact hr.1
  have l2 : aL (cL r) D := by unfold aL; rw [a2]; exact hr.2
  have l3 : aL (cU s) C' := by unfold aL; rw [a3]; exact hs.1
  have l4 : aL (cL s) D' := by unfold aL; rw [a4]; exact hs.2
  obtain ⟨gp, g0, gd1, gd2⟩ := gI_pos (a := cU r) (b := cL s) (l1.ne hC) (l4.ne bD') (Or.inr (by rw [a4]; omega))
  obtain ⟨hp, h0, hd1, hd2⟩ := gI_pos (a := cU s) (b := cL r) (l3.ne hC') (l2.ne bD) (Or.inr (by rw [a2]; omega))
  refine v_X8_times_0 ?_
  rw [eu, (m_gcd M (l1.ne hC) (l4.ne bD')).iff]
  refine ⟨_, rfl, ?_⟩
  rw [el, (m_gcd M (l3.ne hC') (l2.ne bD)).iff]
  refine ⟨_, rfl, fun z => absurd z g0, fun _ => ⟨fun z => absurd z h0, fun _ => ⟨g0, h0, h0, g0, ?_⟩⟩⟩
  rw [eu, el]
  obtain ⟨x1, b1⟩ := dv_ex l1 hC gp gd1
  obtain ⟨x2, b2⟩ := dv_ex l4 bD' gp gd2
  obtain ⟨x3, b3⟩ := dv_ex l3 hC' hp hd1
  obtain ⟨x4, b4⟩ := dv_ex l2 bD hp hd2
  have mN := aL_mul b1 b3 hN
  have mD := aL_mul b4 b2 hD
  have gne : (gI (cU r) (cL s)).toInt ≠ 0 := fun z => g0 (Int64.toInt_inj.mp (by rw [z]; rfl))
  have hne : (gI (cU s) (cL r)).toInt ≠ 0 := fun z => h0 (Int64.toInt_inj.mp (by rw [z]; rfl))
  have key : rQ (cU r / gI (cU r) (cL s) * (cU s / gI (cU s) (cL r))) (cL r / gI (cU s) (cL r) * (cL s / gI (cU r) (cL s))) = r * s := by
    unfold rQ
    rw [mN.1, mD.1]
    exact r_mul gne hne (a1.symm.trans x1) (a4.symm.trans x2) (a3.symm.trans x3) (a2.symm.trans x4)
  have nz : ¬ cL r / gI (cU s) (cL r) * (cL s / gI (cU r) (cL s)) = 0 := by
    intro z
    have e := mD.1
    rw [z, Int64.toInt_zero] at e
    rcases Int.mul_eq_zero.mp e.symm with w | w
    · rw [w, Int.mul_zero, a2] at x4; omega
    · rw [w, Int.mul_zero, a4] at x2; omega
  rw [(m_setF M (mN.2.ne hN) (mD.2.ne hD) nz).iff, key]
  exact ⟨rfl, rfl, rfl⟩
theorem m_plus {M : jM} {r s : Rat} {C D C' D' : Nat} (hr : sm r C D) (hs : sm s C' D') (hN : C * D' + C' * D < 9223372036854775808) (hD : D * D' < 9223372036854775808) (hC : C < 9223372036854775808) (hC' : C' < 9223372036854775808) (eu : M.2 67 3 = cU r) (el : M.2 67 4 = cL r) : jTo nX8_plus (0, [(0, .ref 67), (1, .long (cU s)), (3, .long (cL s))], [], M) (some none) (jF M (r + s)) := by
  have rd := r.den_pos
  have sd := s.den_pos
  have D1 : 1 ≤ D := Nat.le_trans rd hr.2
  have D2 : 1 ≤ D' := Nat.le_trans sd hs.2
  have bD : D < 9223372036854775808 := Nat.lt_of_le_of_lt (Nat.le_mul_of_pos_right D D2) hD
  have bD' : D' < 9223372036854775808 := Nat.lt_of_le_of_lt (Nat.le_mul_of_pos_left D' D1) hD
  have a1 := cU_i hr hC
  have a2 := cL_i hr bD
  have a3 := cU_i hs hC'
  have a4 := cL_i hs bD'
  have l1 : aL (cU r) C := by unfold aL; rw [a1]; exact hr.1
  have l2 : aL (cL r) D := by unfold aL; rw [a2]; exact hr.2
  have l3 : aL (cU s) C' := by unfold aL; rw [a3]; exact hs.1
  have l4 : aL (cL s) D' := by unfold aL; rw [a4]; exact hs.2
  obtain ⟨gp, g0, gd1, gd2⟩ := gI_pos (a := cL r) (b := cL s) (l2.ne bD) (l4.ne bD') (Or.inr (by rw [a4]; omega))
  refine v_X8_plus_0 ?_
  rw [el, (m_gcd M (l2.ne bD) (l4.ne bD')).iff]
  refine ⟨_, rfl, g0, g0, g0, ?_⟩
  rw [eu, el]
  obtain ⟨x2, b2⟩ := dv_ex l4 bD' gp gd2
  obtain ⟨x4, b4⟩ := dv_ex l2 bD gp gd1
  have m1 := aL_mul l1 b2 (by omega)
  have m2 := aL_mul l3 b4 (by omega)
  have mN := aL_add m1.2 m2.2 hN
  have mD := aL_mul b4 l4 hD
  have gne : (gI (cL r) (cL s)).toInt ≠ 0 := fun z => g0 (Int64.toInt_inj.mp (by rw [z]; rfl))
  have key : rQ (cU r * (cL s / gI (cL r) (cL s)) + cU s * (cL r / gI (cL r) (cL s))) (cL r / gI (cL r) (cL s) * cL s) = r + s := by
    unfold rQ
    rw [mN.1, mD.1, m1.1, m2.1, a1, a3, a4]
    exact r_add gne (a4.symm.trans x2) (a2.symm.trans x4)
  have nz : ¬ cL r / gI (cL r) (cL s) * cL s = 0 := by
    intro z
    have e := mD.1
    rw [z, Int64.toInt_zero] at e
    rcases Int.mul_eq_zero.mp e.symm with w | w
    · rw [w, Int.mul_zero, a2] at x4; omega
    · rw [w] at a4; omega
  rw [(m_setF M (mN.2.ne hN) (mD.2.ne hD) nz).iff, key]
  exact ⟨rfl, rfl, rfl⟩
