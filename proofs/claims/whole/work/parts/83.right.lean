/-! likes: the model's fractions -/
theorem r_mulG {r : Rat} {a b g h x y z w : Int} (hg : g ≠ 0) (hh : h ≠ 0) (h1 : r.num = g * x) (h2 : b = g * y) (h3 : a = h * z) (h4 : (r.den : Int) = h * w) : Rat.divInt (x * z) (w * y) = r * Rat.divInt a b := by
  have e : r * Rat.divInt a b = Rat.divInt (r.num * a) ((r.den : Int) * b) := by
    rw [← Rat.divInt_mul_divInt, Rat.num_divInt_den]
  rw [e, h1, h2, h3, h4, show g * x * (h * z) = (g * h) * (x * z) by grind, show h * w * (g * y) = (g * h) * (w * y) by grind, Rat.divInt_mul_left (Int.mul_ne_zero hg hh)]
theorem m_timesG {M : jM} {r : Rat} {a b : Int64} {C D C' D' : Nat} (hr : sm r C D) (ha : aL a C') (hb : aL b D') (b0 : ¬ b = 0) (hN : C * C' < 9223372036854775808) (hD : D * D' < 9223372036854775808) (hC : C < 9223372036854775808) (hC' : C' < 9223372036854775808) (bD : D < 9223372036854775808) (bD' : D' < 9223372036854775808) (eu : M.2 67 3 = cU r) (el : M.2 67 4 = cL r) : jTo nX8_times (0, [(0, .ref 67), (1, .long a), (3, .long b)], [], M) (some none) (jF M (r * rQ a b)) := by
  have rd := r.den_pos
  have bi : b.toInt ≠ 0 := fun z => b0 (Int64.toInt_inj.mp (by rw [z]; rfl))
  have a1 := cU_i hr hC
  have a2 := cL_i hr bD
  have l1 : aL (cU r) C := by unfold aL; rw [a1]; exact hr.1
  have l2 : aL (cL r) D := by unfold aL; rw [a2]; exact hr.2
  obtain ⟨gp, g0, gd1, gd2⟩ := gI_pos (a := cU r) (b := b) (l1.ne hC) (hb.ne bD') (Or.inr bi)
  obtain ⟨hp, h0, hd1, hd2⟩ := gI_pos (a := a) (b := cL r) (ha.ne hC') (l2.ne bD) (Or.inr (by rw [a2]; omega))
  refine v_X8_times_0 ?_
  rw [eu, (m_gcd M (l1.ne hC) (hb.ne bD')).iff]
  refine ⟨_, rfl, ?_⟩
  rw [el, (m_gcd M (ha.ne hC') (l2.ne bD)).iff]
  refine ⟨_, rfl, fun z => absurd z g0, fun _ => ⟨fun z => absurd z h0, fun _ => ⟨g0, h0, h0, g0, ?_⟩⟩⟩
  rw [eu, el]
  obtain ⟨x1, b1⟩ := dv_ex l1 hC gp gd1
  obtain ⟨x2, b2⟩ := dv_ex hb bD' gp gd2
  obtain ⟨x3, b3⟩ := dv_ex ha hC' hp hd1
  obtain ⟨x4, b4⟩ := dv_ex l2 bD hp hd2
  have mN := aL_mul b1 b3 hN
  have mD := aL_mul b4 b2 hD
  have gne : (gI (cU r) b).toInt ≠ 0 := fun z => g0 (Int64.toInt_inj.mp (by rw [z]; rfl))
  have hne : (gI a (cL r)).toInt ≠ 0 := fun z => h0 (Int64.toInt_inj.mp (by rw [z]; rfl))
  have key : rQ (cU r / gI (cU r) b * (a / gI a (cL r))) (cL r / gI a (cL r) * (b / gI (cU r) b)) = r * rQ a b := by
    unfold rQ
    rw [mN.1, mD.1]
    exact r_mulG gne hne (a1.symm.trans x1) x2 x3 (a2.symm.trans x4)
  have nz : ¬ cL r / gI a (cL r) * (b / gI (cU r) b) = 0 := by
    intro z
    have e := mD.1
    rw [z, Int64.toInt_zero] at e
    rcases Int.mul_eq_zero.mp e.symm with w | w
    · rw [w, Int.mul_zero, a2] at x4; omega
    · rw [w, Int.mul_zero] at x2; exact bi x2
  rw [(m_setF M (mN.2.ne hN) (mD.2.ne hD) nz).iff, key]
  exact ⟨rfl, rfl, rfl⟩
theorem dv_nd {a L : Int} (hL : L ≠ 0) : ∃ m : Int, m ≠ 0 ∧ a = (Rat.divInt a L).num * m ∧ L = (Rat.divInt a L).den * m :=
  Rat.divInt_num_den (n := a) (d := L) (n' := (Rat.divInt a L).num) (d' := (Rat.divInt a L).den) (z' := (Rat.divInt a L).den_nz) (c := (Rat.divInt a L).reduced) hL rfl
/-- what a sum over a common bottom needs -/
theorem lcm_b {a b L : Int} (hL : L ≠ 0) {y w : Nat} (hy : (Rat.divInt b L).den = Nat.gcd (Rat.divInt a L).den (Rat.divInt b L).den * y) (hw : (Rat.divInt a L).den = Nat.gcd (Rat.divInt a L).den (Rat.divInt b L).den * w) : ((Rat.divInt a L).num * (y : Int)).natAbs ≤ a.natAbs ∧ (w * (Rat.divInt b L).den) ≤ L.natAbs := by
  obtain ⟨m, m0, m1, m2⟩ := dv_nd (a := a) hL
  obtain ⟨k, k0, k1, k2⟩ := dv_nd (a := b) hL
  have rd := (Rat.divInt a L).den_pos
  have sd := (Rat.divInt b L).den_pos
  generalize hA : (Rat.divInt a L).num = A at *
  generalize hR : (Rat.divInt a L).den = R at *
  generalize hS : (Rat.divInt b L).den = S at *
  have gp : 0 < Nat.gcd R S := Nat.gcd_pos_of_pos_left _ rd
  have cop : Nat.Coprime w y := by
    have := Nat.coprime_div_gcd_div_gcd (m := R) (n := S) gp
    have e1 : R / Nat.gcd R S = w := Nat.div_eq_of_eq_mul_right gp hw
    have e2 : S / Nat.gcd R S = y := Nat.div_eq_of_eq_mul_right gp hy
    rw [e1, e2] at this
    exact this
  have n1 : L.natAbs = R * m.natAbs := by rw [m2, Int.natAbs_mul, Int.natAbs_natCast]
  have n2 : L.natAbs = S * k.natAbs := by rw [k2, Int.natAbs_mul, Int.natAbs_natCast]
  have n3 : w * m.natAbs = y * k.natAbs := by
    have : Nat.gcd R S * (w * m.natAbs) = Nat.gcd R S * (y * k.natAbs) := by
      rw [← Nat.mul_assoc, ← Nat.mul_assoc, ← hw, ← hy, ← n1, ← n2]
    exact Nat.eq_of_mul_eq_mul_left gp this
  have d1 : y ∣ m.natAbs := cop.symm.dvd_of_dvd_mul_left ⟨_, n3⟩
  have d2 : w ∣ k.natAbs := cop.dvd_of_dvd_mul_left ⟨_, n3.symm⟩
  have mp : 0 < m.natAbs := Int.natAbs_pos.mpr m0
  have kp : 0 < k.natAbs := Int.natAbs_pos.mpr k0
  refine ⟨?_, ?_⟩
  · have e : a.natAbs = A.natAbs * m.natAbs := by rw [m1, Int.natAbs_mul]
    rw [Int.natAbs_mul, Int.natAbs_natCast, e]
    exact Nat.mul_le_mul_left _ (Nat.le_of_dvd mp d1)
  · rw [n2, Nat.mul_comm]
    exact Nat.mul_le_mul_left _ (Nat.le_of_dvd kp d2)
theorem m_plusL {M : jM} {r s : Rat} {a b L : Int} (hr : r = Rat.divInt a L) (hs : s = Rat.divInt b L) (hL : L ≠ 0) (hab : a.natAbs + b.natAbs < 9223372036854775808) (hLb : L.natAbs < 9223372036854775808) (eu : M.2 67 3 = cU r) (el : M.2 67 4 = cL r) : jTo nX8_plus (0, [(0, .ref 67), (1, .long (cU s)), (3, .long (cL s))], [], M) (some none) (jF M (r + s)) := by
  have smr : sm r a.natAbs L.natAbs := by rw [hr]; exact sm_div hL
  have sms : sm s b.natAbs L.natAbs := by rw [hs]; exact sm_div hL
  have rd := r.den_pos
  have sd := s.den_pos
  have a1 := cU_i smr (by omega)
  have a2 := cL_i smr hLb
  have a3 := cU_i sms (by omega)
  have a4 := cL_i sms hLb
  have l1 : aL (cU r) a.natAbs := by unfold aL; rw [a1]; exact smr.1
  have l2 : aL (cL r) L.natAbs := by unfold aL; rw [a2]; exact smr.2
  have l3 : aL (cU s) b.natAbs := by unfold aL; rw [a3]; exact sms.1
  have l4 : aL (cL s) L.natAbs := by unfold aL; rw [a4]; exact sms.2
  obtain ⟨gp, g0, gd1, gd2⟩ := gI_pos (a := cL r) (b := cL s) (l2.ne hLb) (l4.ne hLb) (Or.inr (by rw [a4]; omega))
  have ge : (gI (cL r) (cL s)).toInt = (Nat.gcd r.den s.den : Nat) := by
    rw [gI_toInt (l2.ne hLb) (l4.ne hLb), a2, a4]
    rfl
  refine v_X8_plus_0 ?_
  rw [el, (m_gcd M (l2.ne hLb) (l4.ne hLb)).iff]
  refine ⟨_, rfl, g0, g0, g0, ?_⟩
  rw [eu, el]
  obtain ⟨x2, b2⟩ := dv_ex l4 hLb gp gd2
  obtain ⟨x4, b4⟩ := dv_ex l2 hLb gp gd1
  have gpos : 0 < Nat.gcd r.den s.den := Nat.gcd_pos_of_pos_left _ rd
  obtain ⟨y, hy⟩ : ∃ y : Nat, (cL s / gI (cL r) (cL s)).toInt = y := by
    have hx := x2
    rw [a4, ge] at hx
    have : 0 ≤ (cL s / gI (cL r) (cL s)).toInt := by
      rcases Int.lt_or_le (cL s / gI (cL r) (cL s)).toInt 0 with z | z
      · have := Int.mul_neg_of_pos_of_neg (show (0 : Int) < (Nat.gcd r.den s.den : Nat) by omega) z
        omega
      · exact z
    exact ⟨_, (Int.toNat_of_nonneg this).symm⟩
  obtain ⟨w, hw⟩ : ∃ w : Nat, (cL r / gI (cL r) (cL s)).toInt = w := by
    have hx := x4
    rw [a2, ge] at hx
    have : 0 ≤ (cL r / gI (cL r) (cL s)).toInt := by
      rcases Int.lt_or_le (cL r / gI (cL r) (cL s)).toInt 0 with z | z
      · have := Int.mul_neg_of_pos_of_neg (show (0 : Int) < (Nat.gcd r.den s.den : Nat) by omega) z
        omega
      · exact z
    exact ⟨_, (Int.toNat_of_nonneg this).symm⟩
  have x2' : s.den = Nat.gcd r.den s.den * y := by
    rw [a4, ge, hy] at x2
    exact Int.ofNat.inj (by rw [show Int.ofNat s.den = (s.den : Int) from rfl, x2]; exact (Int.natCast_mul _ _).symm)
  have x4' : r.den = Nat.gcd r.den s.den * w := by
    rw [a2, ge, hw] at x4
    exact Int.ofNat.inj (by rw [show Int.ofNat r.den = (r.den : Int) from rfl, x4]; exact (Int.natCast_mul _ _).symm)
  have B1 : (r.num * (y : Int)).natAbs ≤ a.natAbs ∧ w * s.den ≤ L.natAbs := by
    have := lcm_b (a := a) (b := b) hL (y := y) (w := w) (by rw [← hr, ← hs]; exact x2') (by rw [← hr, ← hs]; exact x4')
    rw [← hr, ← hs] at this
    exact this
  have B2 : (s.num * (w : Int)).natAbs ≤ b.natAbs := by
    have := (lcm_b (a := b) (b := a) hL (y := w) (w := y) (by rw [← hr, ← hs, Nat.gcd_comm]; exact x4') (by rw [← hr, ← hs, Nat.gcd_comm]; exact x2')).1
    rw [← hs] at this
    exact this
  have m1 : (cU r * (cL s / gI (cL r) (cL s))).toInt = r.num * y := by
    rw [fb_mulL (by rw [a1, hy]; omega) (by rw [a1, hy]; omega), a1, hy]
  have m2 : (cU s * (cL r / gI (cL r) (cL s))).toInt = s.num * w := by
    rw [fb_mulL (by rw [a3, hw]; omega) (by rw [a3, hw]; omega), a3, hw]
  have mN : (cU r * (cL s / gI (cL r) (cL s)) + cU s * (cL r / gI (cL r) (cL s))).toInt = r.num * y + s.num * w := by
    rw [fb_addL (by rw [m1, m2]; omega) (by rw [m1, m2]; omega), m1, m2]
  have B3 : (w : Int) * (s.den : Int) = ((w * s.den : Nat) : Int) := (Int.natCast_mul _ _).symm
  have mD : (cL r / gI (cL r) (cL s) * cL s).toInt = (w : Int) * s.den := by
    rw [fb_mulL (by rw [hw, a4, B3]; omega) (by rw [hw, a4, B3]; omega), hw, a4]
  have w0 : 0 < w := by
    rcases Nat.eq_zero_or_pos w with z | z
    · rw [z, Nat.mul_zero] at x4'; omega
    · exact z
  have key : rQ (cU r * (cL s / gI (cL r) (cL s)) + cU s * (cL r / gI (cL r) (cL s))) (cL r / gI (cL r) (cL s) * cL s) = r + s := by
    unfold rQ
    rw [mN, mD]
    refine r_add (g := (Nat.gcd r.den s.den : Nat)) (by omega) ?_ ?_
    · rw [← Int.natCast_mul, ← x2']
    · rw [← Int.natCast_mul, ← x4']
  have nz : ¬ cL r / gI (cL r) (cL s) * cL s = 0 := by
    intro z
    rw [z, Int64.toInt_zero, B3] at mD
    have := Nat.mul_pos w0 sd
    omega
  rw [(m_setF M (by rw [mN]; omega) (by rw [mD, B3]; omega) nz).iff, key]
  exact ⟨rfl, rfl, rfl⟩
/-- the model's frame at the likes -/
def pFr (M0 M : jM) : Prop := M.1 = M0.1 ∧ (∀ a k, a ≠ 67 → ¬ (77 ≤ a ∧ a ≤ 82) → M.2 a k = M0.2 a k) ∧ ∀ k, 37 ≤ k → M.2 67 k = M0.2 67 k
theorem pFr.rfl' (M : jM) : pFr M M := ⟨rfl, fun _ _ _ _ => rfl, fun _ _ => rfl⟩
theorem pFr.trans {M1 M2 M3 : jM} (h : pFr M1 M2) (g : pFr M2 M3) : pFr M1 M3 := ⟨g.1.trans h.1, fun a k z1 z2 => (g.2.1 a k z1 z2).trans (h.2.1 a k z1 z2), fun k z1 => (g.2.2 k z1).trans (h.2.2 k z1)⟩
theorem pFr.kp {M0 M : jM} (h : pFr M0 M) : iKp M0 M := by
  refine ⟨fun a k _ _ _ _ _ _ => by rw [h.1], fun a k z => ?_⟩
  by_cases y : a = 67
  · subst y; exact h.2.2 k (by omega)
  · exact h.2.1 a k y (by omega)
theorem pFr.sl {M0 M : jM} (h : pFr M0 M) {a k : Nat} {v : Int64} (ha : 77 ≤ a ∧ a ≤ 82) : pFr M0 (jsl M a k v) := ⟨h.1, fun b q z1 z2 => by rw [jsl_at, if_neg (by omega)]; exact h.2.1 b q z1 z2, fun q z1 => by rw [jsl_at, if_neg (by omega)]; exact h.2.2 q z1⟩
theorem pFr.jF {M0 M : jM} (h : pFr M0 M) (r : Rat) : pFr M0 (jF M r) := ⟨h.1, fun b q z1 z2 => by rw [jF_o _ _ z1]; exact h.2.1 b q z1 z2, fun q z1 => by
  show (jsl (jsl M 67 3 (cU r)) 67 4 (cL r)).2 67 q = _
  rw [jsl_at, if_neg (by omega), jsl_at, if_neg (by omega)]; exact h.2.2 q z1⟩
theorem pFr.vR {M0 M : jM} {j q p m s : Nat} {A B : Nat → Int32} (h : pFr M0 M) (hj : j < 6) (v : vR M0 j q p m s A B) : vR M j q p m s A B := v.cg (fun b i _ => by rw [h.1]) hj
def rR (q s : Nat) (A B : Nat → Int32) (k d : Nat) : Rat := Rat.divInt ((s : Int) * lmS q A B k d) ((q : Int) ^ 4)
theorem m_setC {M : jM} {r : Rat} {C D : Nat} (h : sm r C D) (hC : C < 9223372036854775808) (hD : D < 9223372036854775808) : jTo nX8_set (0, [(0, .ref 67), (1, .long (cU r)), (3, .long (cL r))], [], M) (some none) (jF M r) := by
  have := m_setF M (cU_ne h hC) (cL_ne h hD) (cL_0 h hD)
  rw [rQ_c h hC hD] at this
  exact this
theorem int1 {x : Int32} {n : Nat} (h : x.toInt = n) : x.toInt64 = cU (Rat.divInt n 1) := by rw [cU_1, w64, h]
theorem m_right {M0 : jM} {j q p m s : Nat} {A B : Nat → Int32} (hj : j < 6) (v : vR M0 j q p m s A B) (hw : ∀ i, i < 9 → M0.2 77 i = cU (wR q (wl 0 A B) (we 0 A B) i) ∧ M0.2 78 i = cL (wR q (wl 0 A B) (we 0 A B) i)) {k : Nat} (hk : k < 4) : jEv nX8_right (0, [(0, .ref 67), (1, .int (nI j)), (2, .int (nI k))], [], M0) (fun o M' => o = some none ∧ M'.1 = M0.1 ∧ (∀ a i, a ≠ 67 → M'.2 a i = M0.2 a i) ∧ (∀ i, 37 ≤ i → M'.2 67 i = M0.2 67 i) ∧ M'.2 67 3 = cU (Rat.divInt (lm q s A B k) ((q : Int) ^ 4)) ∧ M'.2 67 4 = cL (Rat.divInt (lm q s A B k) ((q : Int) ^ 4))) := by
  obtain ⟨g1, g2, g3⟩ := slot_in hj
  have hq1 := v.1.1
  have hq4 := v.1.2.1
  have hs := v.1.2.2.2.2.2
  have w := w_ok v 0
  obtain ⟨q1, q2⟩ := q_set hq1 hq4
  have q44 : ((q : Int) ^ 4).natAbs < 9223372036854775808 := Nat.lt_of_le_of_lt (pw_abs hq4 4) (by decide)
  have lp : ∀ (e d : Nat), k + d + e = 4 → ∀ M, M.1 = M0.1 → (∀ a i, a ≠ 67 → M.2 a i = M0.2 a i) → (∀ i, 37 ≤ i → M.2 67 i = M0.2 67 i) → M.2 67 3 = cU (rR q s A B k d) → M.2 67 4 = cL (rR q s A B k d) → jEv nX8_right (14, [(0, .ref 67), (1, .int (nI j)), (2, .int (nI k)), (3, .long (cU (rR q s A B k d))), (5, .long (cL (rR q s A B k d))), (7, .int (nI (k + d)))], [], M) (fun o M' => o = some none ∧ M'.1 = M0.1 ∧ (∀ a i, a ≠ 67 → M'.2 a i = M0.2 a i) ∧ (∀ i, 37 ≤ i → M'.2 67 i = M0.2 67 i) ∧ M'.2 67 3 = cU (Rat.divInt (lm q s A B k) ((q : Int) ^ 4)) ∧ M'.2 67 4 = cL (Rat.divInt (lm q s A B k) ((q : Int) ^ 4))) := by
    intro e
    induction e with
    | zero =>
      intro d hd M f1 f2 f3 f4 f5
      have e4 : k + d = 4 := by omega
      have ed : d = 4 - k := by omega
      rw [e4]
      refine v_X8_right_14 ⟨fun _ => ⟨rfl, f1, f2, f3, ?_, ?_⟩, fun z => absurd (by decide) z⟩
      · rw [f4, ed]; rfl
      · rw [f5, ed]; rfl
    | succ e ih =>
      intro d hd M f1 f2 f3 f4 f5
      have vM : vR M j q p m s A B := v.cg (fun b i _ => by rw [f1]) hj
      have in9 := nI_in (c := d) (N := 9) (by omega) (by omega)
      have sX : sm (Rat.divInt (lb q B (k + d)) q) 8 4 := by
        refine (sm_div (show (q : Int) ≠ 0 by omega)).mono ?_ (by omega)
        unfold lb
        split
        · omega
        · split
          · exact (v.A8 (k + d) (by omega) (by omega)).2.2
          · decide
      have sS : sm (Rat.divInt (s : Int) 1) 20 1 := (sm_div (by decide)).mono (by omega) (by decide)
      have sW := wR_sm w (k := d) (by omega)
      have eP : Rat.divInt (lb q B (k + d)) q * wR q (wl 0 A B) (we 0 A B) d * Rat.divInt (s : Int) 1 = Rat.divInt ((s : Int) * (lb q B (k + d) * wI q (wl 0 A B) (we 0 A B) d * (q : Int) ^ (3 - d))) ((q : Int) ^ 4) := by
        unfold wR
        rw [Rat.divInt_mul_divInt, Rat.divInt_mul_divInt]
        have e1 : (q : Int) ^ 4 = (q : Int) * (q : Int) ^ d * 1 * (q : Int) ^ (3 - d) := by
          rw [Int.mul_one, Int.mul_comm (q : Int), ← Int.pow_succ, ← Int.pow_add]
          congr 1
          omega
        rw [e1, show (s : Int) * (lb q B (k + d) * wI q (wl 0 A B) (we 0 A B) d * (q : Int) ^ (3 - d)) = lb q B (k + d) * wI q (wl 0 A B) (we 0 A B) d * (s : Int) * (q : Int) ^ (3 - d) by grind, Rat.divInt_mul_right (q_ne hq1 _)]
      have b1 := lmS_abs v (k := k) (d := d) (by omega)
      have b2 := lmS_abs v (k := k) (d := d + 1) (by omega)
      have eS : lmS q A B k (d + 1) = lmS q A B k d + lb q B (k + d) * wI q (wl 0 A B) (we 0 A B) d * (q : Int) ^ (3 - d) := rfl
      have bS : ((s : Int) * (lb q B (k + d) * wI q (wl 0 A B) (we 0 A B) d * (q : Int) ^ (3 - d))).natAbs + ((s : Int) * lmS q A B k d).natAbs < 9223372036854775808 := by
        have c1 : (lb q B (k + d) * wI q (wl 0 A B) (we 0 A B) d * (q : Int) ^ (3 - d)).natAbs ≤ 54272 := by omega
        have c2 := Nat.mul_le_mul hs c1
        have c3 := Nat.mul_le_mul hs b1
        have nm : ∀ y : Int, ((s : Int) * y).natAbs = s * y.natAbs := fun y => by rw [Int.natAbs_mul, Int.natAbs_natCast]
        rw [nm, nm]
        omega
      have step : ∀ X : Int64, X.toInt = lb q B (k + d) → jEv nX8_set (0, [(0, .ref 67), (1, .long X), (3, .long (nI q).toInt64)], [], M) (fun o1 M2 => o1 = some none ∧ (¬ (nI (k + d) - nI k < 0 ∨ 9 ≤ (nI (k + d) - nI k).toNatClampNeg) ∧ (¬ (nI (k + d) - nI k < 0 ∨ 9 ≤ (nI (k + d) - nI k).toNatClampNeg) ∧ (jEv nX8_times (0, [(0, .ref 67), (1, .long (M2.2 77 (nI (k + d) - nI k).toNatClampNeg)), (3, .long (M2.2 78 (nI (k + d) - nI k).toNatClampNeg))], [], M2) (fun o3 M4 => o3 = some none ∧ (¬ (nI j < 0 ∨ 6 ≤ (nI j).toNatClampNeg) ∧ (jEv nX8_times (0, [(0, .ref 67), (1, .long ((M4.1 73 (nI j).toNatClampNeg).toInt64)), (3, .long 1)], [], M4) (fun o5 M6 => o5 = some none ∧ (jEv nX8_plus (0, [(0, .ref 67), (1, .long (cU (rR q s A B k d))), (3, .long (cL (rR q s A B k d)))], [], M6) (fun o7 M8 => o7 = some none ∧ jEv nX8_right (14, [(0, .ref 67), (1, .int (nI j)), (2, .int (nI k)), (3, .long (M8.2 67 3)), (5, .long (M8.2 67 4)), (7, .int (nI (k + d) + 1))], [], M8) (fun o M' => o = some none ∧ M'.1 = M0.1 ∧ (∀ a i, a ≠ 67 → M'.2 a i = M0.2 a i) ∧ (∀ i, 37 ≤ i → M'.2 67 i = M0.2 67 i) ∧ M'.2 67 3 = cU (Rat.divInt (lm q s A B k) ((q : Int) ^ 4)) ∧ M'.2 67 4 = cL (Rat.divInt (lm q s A B k) ((q : Int) ^ 4))))))))))))) := by
        intro X hX
        have hx8 : X.toInt.natAbs ≤ 8 := by
          rw [hX]
          unfold lb
          split
          · omega
          · split
            · exact (v.A8 (k + d) (by omega) (by omega)).2.2
            · decide
        rw [(m_setF M (by omega) q1 q2).iff, rQ_q hX hq4, nI_sub (by omega), show k + d - k = d by omega]
        refine ⟨rfl, in9, in9, ?_⟩
        rw [nI_clamp (by omega), jF_o _ _ (by decide), jF_o _ _ (by decide), f2 77 _ (by decide), f2 78 _ (by decide), (hw d (by omega)).1, (hw d (by omega)).2, (m_times sX sW (by decide) (by decide) (by decide) (by decide) (jF_u _ _) (jF_l _ _)).iff]
        refine ⟨rfl, g2, ?_⟩
        rw [g3, jF_1, jF_1, vM.2.2.1.2.2.2.2, int1 (nI_toInt (show s < 2 ^ 31 by omega))]
        have := m_times (M := jF (jF M (Rat.divInt (lb q B (k + d)) q)) (Rat.divInt (lb q B (k + d)) q * wR q (wl 0 A B) (we 0 A B) d)) (sm_mul sX sW) sS (by decide) (by decide) (by decide) (by decide) (jF_u _ _) (jF_l _ _)
        rw [cL_1] at this
        rw [this.iff]
        refine ⟨rfl, ?_⟩
        rw [(m_plusL (s := rR q s A B k d) eP rfl (q_ne hq1 4) bS q44 (jF_u _ _) (jF_l _ _)).iff]
        refine ⟨rfl, ?_⟩
        have er : Rat.divInt (lb q B (k + d)) q * wR q (wl 0 A B) (we 0 A B) d * Rat.divInt (s : Int) 1 + rR q s A B k d = rR q s A B k (d + 1) := by
          rw [eP]
          unfold rR
          rw [dv_add (q_ne hq1 4), eS, Int.mul_add, Int.add_comm]
        rw [er, jF_u, jF_l, nI_1, Nat.add_assoc]
        refine ih (d + 1) (by omega) _ f1 (fun a i ha => ?_) (fun i z1 => ?_) (jF_u _ _) (jF_l _ _)
        · rw [jF_o _ _ ha, jF_o _ _ ha, jF_o _ _ ha, jF_o _ _ ha]; exact f2 a i ha
        · exact (((((pFr.rfl' M).jF _).jF _).jF _).jF _).2.2 i z1 |>.trans (f3 i z1)
      refine v_X8_right_14 ⟨fun z => absurd ((nI_leI (a := 4) (b := k + d) (by omega) (by omega)).mp z) (by omega), fun _ => ⟨fun z => ⟨g2, g2, ?_⟩, fun z => ⟨?_, g2, ?_⟩⟩⟩
      · have kd : k + d = 0 := by
          rcases Nat.eq_zero_or_pos (k + d) with y | y
          · exact y
          · exact absurd z (nI_ne0 y (by omega))
        rw [show M.1 70 (nI j).toNatClampNeg = nI q by rw [g3]; exact vM.2.2.1.2.1]
        refine step _ ?_
        rw [nIq hq4, kd]; rfl
      · rw [nI4]; exact nI_in (by omega) (by omega)
      · have kd : 1 ≤ k + d := Nat.pos_of_ne_zero (fun y => z (by rw [y]; rfl))
        rw [show M.1 70 (nI j).toNatClampNeg = nI q by rw [g3]; exact vM.2.2.1.2.1, show M.1 75 (4 * nI j + nI (k + d)).toNatClampNeg = B (k + d) by rw [nI4, nI_clamp (by omega)]; exact (vM.2.2.2.2 (k + d) kd (by omega)).2.1]
        refine step _ ?_
        rw [Int32.toInt_toInt64]
        unfold lb
        rw [if_neg (by omega), if_pos (by omega)]
  refine v_X8_right_0 ?_
  rw [(m_setF M0 (a := 0) (b := 1) (by decide) (by decide) (by decide)).iff]
  refine ⟨rfl, ?_⟩
  have r0 : rR q s A B k 0 = rQ 0 1 := by
    unfold rR rQ
    show Rat.divInt ((s : Int) * 0) _ = _
    rw [Int.mul_zero, Rat.zero_divInt, Int64.toInt_zero, Rat.zero_divInt]
  have := lp (4 - k) 0 (by omega) (jF M0 (rQ 0 1)) rfl (fun a i ha => jF_o _ _ ha) (fun i z1 => ((pFr.rfl' M0).jF _).2.2 i z1) (by rw [r0]; exact jF_u _ _) (by rw [r0]; exact jF_l _ _)
  rw [r0] at this
  have z0 : rQ 0 1 = 0 := by unfold rQ; rw [Int64.toInt_zero, Rat.zero_divInt]
  rw [z0] at this ⊢
  exact this
