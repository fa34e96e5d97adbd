/-! Schur's test: the numbers -/
def tI (a b c d : Int) : Bool := decide (d.natAbs < a.natAbs) && (decide ((a * c - d * b).natAbs < (a * a - d * d).natAbs) && decide (((a * a - d * d) * (a * b - d * c) - (a * c - d * b) * (a * b - d * c)).natAbs < ((a * a - d * d) * (a * a - d * d) - (a * c - d * b) * (a * c - d * b)).natAbs))
theorem cA_i {x : Int64} {C : Nat} (h : aL x C) (hC : C < 9223372036854775808) : (cA x).toInt = x.toInt.natAbs := g_abs (h.ne hC)
theorem mA_i {x : Int64} {C : Nat} (h : aL x C) (hC : C < 9223372036854775808) : (mA x).toInt = x.toInt.natAbs := by
  unfold mA
  have n := (aL_neg h hC).1
  split
  · next q => rw [Int64.le_iff_toInt_le, Int64.toInt_zero] at q; omega
  · next q => rw [Int64.le_iff_toInt_le, Int64.toInt_zero] at q; omega
theorem cA_lt {x y : Int64} {C D : Nat} (hx : aL x C) (hy : aL y D) (hC : C < 9223372036854775808) (hD : D < 9223372036854775808) : cA x < cA y ↔ x.toInt.natAbs < y.toInt.natAbs := by
  rw [Int64.lt_iff_toInt_lt, cA_i hx hC, cA_i hy hD]; omega
theorem mA_lt {x y : Int64} {C D : Nat} (hx : aL x C) (hy : aL y D) (hC : C < 9223372036854775808) (hD : D < 9223372036854775808) : mA x < mA y ↔ x.toInt.natAbs < y.toInt.natAbs := by
  rw [Int64.lt_iff_toInt_lt, mA_i hx hC, mA_i hy hD]; omega
/-- a difference of products -/
theorem aL_det {a b c d : Int64} {A B C D : Nat} (ha : aL a A) (hb : aL b B) (hc : aL c C) (hd : aL d D) (h : A * B + C * D < 9223372036854775808) : (a * b - c * d).toInt = a.toInt * b.toInt - c.toInt * d.toInt ∧ aL (a * b - c * d) (A * B + C * D) := by
  have m1 := aL_mul ha hb (by omega)
  have m2 := aL_mul hc hd (by omega)
  have s := aL_sub m1.2 m2.2 h
  exact ⟨by rw [s.1, m1.1, m2.1], s.2⟩
theorem tC_i {f : Nat → Int64} (h0 : aL (f 0) 8) (h1 : aL (f 1) 8) (h2 : aL (f 2) 8) (h3 : aL (f 3) 8) : tC f = tI (f 0).toInt (f 1).toInt (f 2).toInt (f 3).toInt := by
  have d0 := aL_det h0 h0 h3 h3 (by decide)
  have d1 := aL_det h0 h1 h3 h2 (by decide)
  have d2 := aL_det h0 h2 h3 h1 (by decide)
  have e0 := aL_det d0.2 d0.2 d2.2 d2.2 (by decide)
  have e1 := aL_det d0.2 d1.2 d2.2 d1.2 (by decide)
  show (decide (cA (f 3) < cA (f 0)) && (decide (cA (f 0 * f 2 - f 3 * f 1) < cA (f 0 * f 0 - f 3 * f 3)) && decide (cA ((f 0 * f 0 - f 3 * f 3) * (f 0 * f 1 - f 3 * f 2) - (f 0 * f 2 - f 3 * f 1) * (f 0 * f 1 - f 3 * f 2)) < cA ((f 0 * f 0 - f 3 * f 3) * (f 0 * f 0 - f 3 * f 3) - (f 0 * f 2 - f 3 * f 1) * (f 0 * f 2 - f 3 * f 1))))) = _
  unfold tI
  simp only [cA_lt h3 h0 (by decide) (by decide), cA_lt d2.2 d0.2 (by decide) (by decide), cA_lt e1.2 e0.2 (by decide) (by decide), e1.1, e0.1, d0.1, d1.1, d2.1]
theorem dv_ex {a g : Int64} {C : Nat} (ha : aL a C) (hC : C < 9223372036854775808) (hg : 0 < g) (h : g.toInt ∣ a.toInt) : a.toInt = g.toInt * (a / g).toInt ∧ aL (a / g) C := by
  rw [Int64.lt_iff_toInt_lt, Int64.toInt_zero] at hg
  obtain ⟨x, hx⟩ := h
  unfold aL at ha ⊢
  have hp : 1 ≤ g.toInt.natAbs := by omega
  have xb : x.natAbs ≤ a.toInt.natAbs := by
    rw [hx, Int.natAbs_mul]
    exact Nat.le_mul_of_pos_left _ hp
  have e : (a / g).toInt = x := by
    rw [Int64.toInt_div, hx, Int.mul_tdiv_cancel_left x (by omega)]
    exact fb_bmodL (by omega) (by omega)
  rw [e]
  exact ⟨hx, by omega⟩
theorem g3_ok {a b c : Int64} {A B C : Nat} (ha : aL a A) (hb : aL b B) (hc : aL c C) (hA : A < 9223372036854775808) (hB : B < 9223372036854775808) (hC : C < 9223372036854775808) (h0 : a.toInt ≠ 0) : 0 < g3 a b c ∧ (g3 a b c).toInt ∣ a.toInt ∧ (g3 a b c).toInt ∣ b.toInt ∧ (g3 a b c).toInt ∣ c.toInt := by
  have e1 := gI_toInt (ha.ne hA) (hb.ne hB)
  have e2 := gI_toInt (a := gI a b) (b := c) (by rw [e1]; omega) (hc.ne hC)
  have p1 : 0 < Int.gcd a.toInt b.toInt := Int.gcd_pos_of_ne_zero_left _ h0
  have p2 : 0 < Int.gcd (gI a b).toInt c.toInt := Int.gcd_pos_of_ne_zero_left _ (by rw [e1]; omega)
  have q1 : (g3 a b c).toInt ∣ (gI a b).toInt := by unfold g3; rw [e2]; exact Int.gcd_dvd_left ..
  have q2 : (gI a b).toInt ∣ a.toInt := by rw [e1]; exact Int.gcd_dvd_left ..
  have q3 : (gI a b).toInt ∣ b.toInt := by rw [e1]; exact Int.gcd_dvd_right ..
  refine ⟨?_, Int.dvd_trans q1 q2, Int.dvd_trans q1 q3, by unfold g3; rw [e2]; exact Int.gcd_dvd_right ..⟩
  unfold g3
  rw [Int64.lt_iff_toInt_lt, Int64.toInt_zero, e2]
  omega
theorem sc_lt {g x y : Int} (hg : 0 < g) : (g * x).natAbs < (g * y).natAbs ↔ x.natAbs < y.natAbs := by
  rw [Int.natAbs_mul, Int.natAbs_mul]
  exact Nat.mul_lt_mul_left (by omega)
theorem sq_pos {x y : Int} (h : y.natAbs < x.natAbs) : x * x - y * y ≠ 0 := by
  intro e
  have e2 : x * x = y * y := by omega
  have e3 : (x * x).natAbs = (y * y).natAbs := by rw [e2]
  rw [Int.natAbs_mul, Int.natAbs_mul] at e3
  have := Nat.mul_lt_mul_of_lt_of_le h (Nat.le_of_lt h) (by omega)
  omega
theorem m_free {M : jM} {f : Nat → Int64} (hf : ∀ k, k < 4 → M.2 76 k = f k) (hb : ∀ k, k < 4 → aL (f k) 8) : jEv nX8_isFree (0, [(0, .ref 67)], [], M) (fun o M' => o = some (some (.int (b2i (tI (f 0).toInt (f 1).toInt (f 2).toInt (f 3).toInt)))) ∧ iKp M M' ∧ M'.1 = M.1) := by
  have h0 := hb 0 (by omega)
  have h1 := hb 1 (by omega)
  have h2 := hb 2 (by omega)
  have h3 := hb 3 (by omega)
  have d0 := aL_det h0 h0 h3 h3 (by decide)
  have d1 := aL_det h0 h1 h3 h2 (by decide)
  have d2 := aL_det h0 h2 h3 h1 (by decide)
  refine v_X8_isFree_0 (m_free3 hf (fun w => ⟨?_, iKp.rfl' M, rfl⟩) (fun w => ⟨d0.2.ne (by decide), d1.2.ne (by decide), d2.2.ne (by decide), fun M1 k1 g1 a0 a1 a2 => ?_⟩))
  · rw [mA_lt h3 h0 (by decide) (by decide)] at w
    unfold tI; rw [decide_eq_false w]; rfl
  rw [mA_lt h3 h0 (by decide) (by decide)] at w
  unfold tI
  rw [decide_eq_true w, Bool.true_and, ← d0.1, ← d1.1, ← d2.1]
  have z0 : (f 0 * f 0 - f 3 * f 3).toInt ≠ 0 := by rw [d0.1]; exact sq_pos w
  obtain ⟨gp, gd0, gd1, gd2⟩ := g3_ok d0.2 d1.2 d2.2 (by decide) (by decide) (by decide) z0
  have gpi : 0 < (g3 (f 0 * f 0 - f 3 * f 3) (f 0 * f 1 - f 3 * f 2) (f 0 * f 2 - f 3 * f 1)).toInt := by rw [Int64.lt_iff_toInt_lt, Int64.toInt_zero] at gp; exact gp
  have b0 := d0.2
  have b1 := d1.2
  have b2 := d2.2
  clear d0 d1 d2 w h0 h1 h2 h3 hb hf
  generalize f 0 * f 0 - f 3 * f 3 = D0 at *
  generalize f 0 * f 1 - f 3 * f 2 = D1 at *
  generalize f 0 * f 2 - f 3 * f 1 = D2 at *
  generalize g3 D0 D1 D2 = G at *
  refine m_div (d := 2) (by omega) gp (f := fun k => if k = 0 then D0 else if k = 1 then D1 else D2) (fun k hk => ?_) (fun M2 k2 g2 c2 => ?_)
  · match k, hk with
    | 0, _ => exact a0
    | 1, _ => exact a1
    | 2, _ => exact a2
  obtain ⟨x0, u0⟩ := dv_ex b0 (by decide) gp gd0
  obtain ⟨x1, u1⟩ := dv_ex b1 (by decide) gp gd1
  obtain ⟨x2, u2⟩ := dv_ex b2 (by decide) gp gd2
  have y0 : M2.2 76 0 = D0 / G := c2 0 (by omega)
  have y1 : M2.2 76 1 = D1 / G := c2 1 (by omega)
  have y2 : M2.2 76 2 = D2 / G := c2 2 (by omega)
  rw [x0, x1, x2]
  have nz : (D0 / G).toInt ≠ 0 := fun e => z0 (by rw [x0, e, Int.mul_zero])
  clear c2 gd0 gd1 gd2 x0 x1 x2 z0 b0 b1 b2 a0 a1 a2
  generalize D0 / G = U0 at *
  generalize D1 / G = U1 at *
  generalize D2 / G = U2 at *
  have e0 := aL_det u0 u0 u2 u2 (by decide)
  have e1 := aL_det u0 u1 u2 u1 (by decide)
  have K2 := k1.trans k2
  have G2 := g2.trans g1
  refine m_free2 (f := fun k => if k = 0 then U0 else if k = 1 then U1 else U2) (fun k hk => ?_) (fun w => ⟨?_, K2, G2⟩) (fun w => ⟨e0.2.ne (by decide), e1.2.ne (by decide), u2.ne (by decide), fun M3 k3 g3' a0 a1 a2 => ?_⟩)
  · match k, hk with
    | 0, _ => exact y0
    | 1, _ => exact y1
    | 2, _ => exact y2
  · have w' : ¬ mA U2 < mA U0 := w
    rw [mA_lt u2 u0 (by decide) (by decide)] at w'
    rw [decide_eq_false (fun z => w' ((sc_lt gpi).mp z))]; rfl
  have w' : mA U2 < mA U0 := w
  rw [mA_lt u2 u0 (by decide) (by decide)] at w'
  rw [decide_eq_true ((sc_lt gpi).mpr w'), Bool.true_and]
  have z0 : (U0 * U0 - U2 * U2).toInt ≠ 0 := by rw [e0.1]; exact sq_pos w'
  have a0' : M3.2 76 0 = U0 * U0 - U2 * U2 := a0
  have a1' : M3.2 76 1 = U0 * U1 - U2 * U1 := a1
  have a2' : M3.2 76 2 = U2 := a2
  have s1 : (G.toInt * U0.toInt) * (G.toInt * U1.toInt) - (G.toInt * U2.toInt) * (G.toInt * U1.toInt) = (G.toInt * G.toInt) * (U0 * U1 - U2 * U1).toInt := by rw [e1.1]; grind
  have s0 : (G.toInt * U0.toInt) * (G.toInt * U0.toInt) - (G.toInt * U2.toInt) * (G.toInt * U2.toInt) = (G.toInt * G.toInt) * (U0 * U0 - U2 * U2).toInt := by rw [e0.1]; grind
  rw [s1, s0]
  have GG : 0 < G.toInt * G.toInt := Int.mul_pos gpi gpi
  obtain ⟨hp, hd0, hd1, hd2⟩ := g3_ok e0.2 e1.2 u2 (by decide) (by decide) (by decide) z0
  have hpi : 0 < (g3 (U0 * U0 - U2 * U2) (U0 * U1 - U2 * U1) U2).toInt := by rw [Int64.lt_iff_toInt_lt, Int64.toInt_zero] at hp; exact hp
  show jEv nX8_isFree (175, [(0, .ref 67), (1, .int 2), (10, .long (g3 (U0 * U0 - U2 * U2) (U0 * U1 - U2 * U1) U2)), (12, .int 0)], [], M3) _
  have b0 := e0.2
  have b1 := e1.2
  clear s0 s1 e0 e1 w w' a0 a1 a2
  generalize U0 * U0 - U2 * U2 = E0 at *
  generalize U0 * U1 - U2 * U1 = E1 at *
  generalize g3 E0 E1 U2 = H at *
  refine m_div (d := 1) (by omega) hp (f := fun k => if k = 0 then E0 else if k = 1 then E1 else U2) (fun k hk => ?_) (fun M4 k4 g4 c4 => ?_)
  · match k, hk with
    | 0, _ => exact a0'
    | 1, _ => exact a1'
    | 2, _ => exact a2'
  obtain ⟨x0, v0⟩ := dv_ex b0 (by decide) hp hd0
  obtain ⟨x1, v1⟩ := dv_ex b1 (by decide) hp hd1
  obtain ⟨x2, v2⟩ := dv_ex u2 (by decide) hp hd2
  have y0 : M4.2 76 0 = E0 / H := c4 0 (by omega)
  have y1 : M4.2 76 1 = E1 / H := c4 1 (by omega)
  have y2 : M4.2 76 2 = U2 / H := c4 2 (by omega)
  rw [x0, x1]
  clear c4 hd0 hd1 hd2 x0 x1 x2 z0 b0 b1 a0' a1' a2'
  generalize E0 / H = V0 at *
  generalize E1 / H = V1 at *
  generalize U2 / H = V2 at *
  have K4 := (K2.trans k3).trans k4
  have G4 := (g4.trans g3').trans G2
  have q0 := aL_det v0 v0 v1 v1 (by decide)
  refine m_free1 (f := fun k => if k = 0 then V0 else if k = 1 then V1 else V2) (fun k hk => ?_) (fun w => ⟨?_, K4, G4⟩) (fun w => ⟨q0.2.ne (by decide), v1.ne (by decide), v2.ne (by decide), fun M5 k5 g5 a0 a1 a2 => ?_⟩)
  · match k, hk with
    | 0, _ => exact y0
    | 1, _ => exact y1
    | 2, _ => exact y2
  · have w' : ¬ mA V1 < mA V0 := w
    rw [mA_lt v1 v0 (by decide) (by decide)] at w'
    rw [decide_eq_false (fun z => w' ((sc_lt hpi).mp ((sc_lt GG).mp z)))]; rfl
  have w' : mA V1 < mA V0 := w
  rw [mA_lt v1 v0 (by decide) (by decide)] at w'
  rw [decide_eq_true ((sc_lt GG).mpr ((sc_lt hpi).mpr w'))]
  have z0 : (V0 * V0 - V1 * V1).toInt ≠ 0 := by rw [q0.1]; exact sq_pos w'
  have a0' : M5.2 76 0 = V0 * V0 - V1 * V1 := a0
  have a1' : M5.2 76 1 = V1 := a1
  have a2' : M5.2 76 2 = V2 := a2
  obtain ⟨rp, rd0, rd1, rd2⟩ := g3_ok q0.2 v1 v2 (by decide) (by decide) (by decide) z0
  refine m_div (d := 0) (by omega) rp (f := fun k => if k = 0 then V0 * V0 - V1 * V1 else if k = 1 then V1 else V2) (fun k hk => ?_) (fun M6 k6 g6 c6 => ?_)
  · match k, hk with
    | 0, _ => exact a0'
    | 1, _ => exact a1'
    | 2, _ => exact a2'
  obtain ⟨x0, _⟩ := dv_ex q0.2 (by decide) rp rd0
  have y0 : M6.2 76 0 = (V0 * V0 - V1 * V1) / g3 (V0 * V0 - V1 * V1) V1 V2 := c6 0 (by omega)
  have nz : ¬ M6.2 76 0 = 0 := by
    intro e
    rw [y0] at e
    rw [e, Int64.toInt_zero, Int.mul_zero] at x0
    exact z0 x0
  exact v_X8_isFree_2 ⟨fun _ => ⟨fun z => absurd z nz, fun _ => ⟨rfl, (K4.trans k5).trans k6, (g6.trans g5).trans G4⟩⟩, fun z => absurd (by decide) z⟩
theorem aL_w {r : Int32} {C : Nat} (h : r.toInt.natAbs ≤ C) : aL r.toInt64 C := by unfold aL; rw [Int32.toInt_toInt64]; exact h
theorem pB_b {q : Nat} (hq : q ≤ 4) {g : Nat → Int64} (hg : ∀ k, 1 ≤ k → k < 4 → aL (g k) 8) : ∀ k, k < 4 → aL (pB q g k) 8 := by
  intro k hk
  unfold pB
  split
  · exact aL_w (by rw [nI_toInt (by omega)]; omega)
  · exact hg k (by omega) hk
/-- whether a rule dies away, whether it shows its misses -/
def stB (q : Nat) (A : Nat → Int32) : Bool := tI q (-(A 1).toInt) (-(A 2).toInt) (-(A 3).toInt)
def clB (q : Nat) (B : Nat → Int32) : Bool := tI q (B 1).toInt (B 2).toInt (B 3).toInt
theorem vR.A8 {M : jM} {j q p m s : Nat} {A B : Nat → Int32} (v : vR M j q p m s A B) : ∀ k, 1 ≤ k → k < 4 → (A k).toInt.natAbs ≤ 8 ∧ (-(A k)).toInt = -(A k).toInt ∧ (B k).toInt.natAbs ≤ 8 := by
  intro k k1 k2
  obtain ⟨-, -, a1, a2, -⟩ := v.2.2.2.1 k k1 k2
  obtain ⟨-, -, b1, b2, -⟩ := v.2.2.2.2 k k1 k2
  exact ⟨by omega, neg8 a1 a2, by omega⟩
theorem vR.Ab {M : jM} {j q p m s : Nat} {A B : Nat → Int32} (v : vR M j q p m s A B) : ∀ k, 1 ≤ k → k < 4 → aL (-(A k)).toInt64 8 := fun k k1 k2 => aL_w (by obtain ⟨x, y, -⟩ := v.A8 k k1 k2; rw [y]; omega)
theorem vR.Bb {M : jM} {j q p m s : Nat} {A B : Nat → Int32} (v : vR M j q p m s A B) : ∀ k, 1 ≤ k → k < 4 → aL (B k).toInt64 8 := fun k k1 k2 => aL_w (v.A8 k k1 k2).2.2
theorem st_pB {M : jM} {j q p m s : Nat} {A B : Nat → Int32} (v : vR M j q p m s A B) : tI (pB q (fun k => (-(A k)).toInt64) 0).toInt (pB q (fun k => (-(A k)).toInt64) 1).toInt (pB q (fun k => (-(A k)).toInt64) 2).toInt (pB q (fun k => (-(A k)).toInt64) 3).toInt = stB q A := by
  have hq := v.1.2.1
  show tI (nI q).toInt64.toInt (-(A 1)).toInt64.toInt (-(A 2)).toInt64.toInt (-(A 3)).toInt64.toInt = _
  rw [Int32.toInt_toInt64, Int32.toInt_toInt64, Int32.toInt_toInt64, Int32.toInt_toInt64, nI_toInt (by omega), (v.A8 1 (by omega) (by omega)).2.1, (v.A8 2 (by omega) (by omega)).2.1, (v.A8 3 (by omega) (by omega)).2.1]
  rfl
theorem cl_pB {M : jM} {j q p m s : Nat} {A B : Nat → Int32} (v : vR M j q p m s A B) : tI (pB q (fun k => (B k).toInt64) 0).toInt (pB q (fun k => (B k).toInt64) 1).toInt (pB q (fun k => (B k).toInt64) 2).toInt (pB q (fun k => (B k).toInt64) 3).toInt = clB q B := by
  have hq := v.1.2.1
  show tI (nI q).toInt64.toInt (B 1).toInt64.toInt (B 2).toInt64.toInt (B 3).toInt64.toInt = _
  rw [Int32.toInt_toInt64, Int32.toInt_toInt64, Int32.toInt_toInt64, Int32.toInt_toInt64, nI_toInt (by omega)]
  rfl
theorem c_steady {M0 : jM} {j q p m s : Nat} {A B : Nat → Int32} (hj : j < 6) (v : vR M0 j q p m s A B) : jEv nX5_diesAway (0, [(0, .ref (4 + 4 * j))], [], M0) (fun o M' => o = some (some (.int (b2i (stB q A)))) ∧ iKp M0 M') := by
  have h := c_dies hj v
  have b := pB_b (q := q) v.1.2.1 v.Ab
  rw [tC_i (b 0 (by omega)) (b 1 (by omega)) (b 2 (by omega)) (b 3 (by omega)), st_pB v] at h
  exact h
theorem c_clear {M0 : jM} {j q p m s : Nat} {A B : Nat → Int32} (hj : j < 6) (v : vR M0 j q p m s A B) : jEv nX5_showsMisses (0, [(0, .ref (4 + 4 * j))], [], M0) (fun o M' => o = some (some (.int (b2i (clB q B)))) ∧ iKp M0 M') := by
  have h := c_shows hj v
  have b := pB_b (q := q) v.1.2.1 v.Bb
  rw [tC_i (b 0 (by omega)) (b 1 (by omega)) (b 2 (by omega)) (b 3 (by omega)), cl_pB v] at h
  exact h
theorem m_steady {M0 : jM} {j q p m s : Nat} {A B : Nat → Int32} (hj : j < 6) (v : vR M0 j q p m s A B) : jEv nX8_isSteady (0, [(0, .ref 67), (1, .int (nI j))], [], M0) (fun o M' => o = some (some (.int (b2i (stB q A)))) ∧ iKp M0 M' ∧ M'.1 = M0.1) := by
  obtain ⟨g1, g2, g3⟩ := slot_in hj
  have loop : ∀ (d i : Nat), 1 ≤ i → i + d = 4 → ∀ M, iKp M0 M → M.1 = M0.1 → (∀ k, k < i → M.2 76 k = pB q (fun k => (-(A k)).toInt64) k) → jEv nX8_isSteady (15, [(0, .ref 67), (1, .int (nI j)), (2, .int (nI i))], [], M) (fun o M' => o = some (some (.int (b2i (stB q A)))) ∧ iKp M0 M' ∧ M'.1 = M0.1) := by
    intro d
    induction d with
    | zero =>
      intro i h1 hi M k e hf
      have : i = 4 := by omega
      subst this
      have h := m_free hf (pB_b (q := q) v.1.2.1 v.Ab)
      rw [st_pB v] at h
      refine v_X8_isSteady_15 ⟨fun _ => jEv.mono h (fun o M' z => ⟨_, z.1, ?_, rfl, k.trans z.2.1, z.2.2.trans e⟩), fun z => absurd (by decide) z⟩
      cases stB q A with
      | false => exact Or.inl rfl
      | true => exact Or.inr rfl
    | succ d ih =>
      intro i h1 hi M k e hf
      have e4 : 4 * nI j + nI i = nI (4 * j + i) := by rw [show (4 : Int32) = nI 4 from rfl, pk_mul, nI_add]
      refine v_X8_isSteady_15 ⟨fun w => absurd w (nI_ge (b := 4) (by omega) (by omega)), fun _ => ⟨by rw [e4]; exact nI_in (by omega) (by omega), nI_in (by omega) (by omega), fun M4 f4 => ?_⟩⟩
      rw [nI_clamp (by omega), e4, nI_clamp (by omega), ((v.kp hj k.i).2.2.2.1 i h1 (by omega)).2.1] at f4
      rw [nI_1]
      refine ih (i + 1) (by omega) (by omega) M4 (by rw [f4]; exact k.sl (by omega)) (by rw [f4]; exact e) (fun q' hq => ?_)
      rw [f4, jsl_at]
      by_cases w : q' = i
      · rw [if_pos ⟨rfl, w⟩, w]; unfold pB; rw [if_neg (by omega)]
      · rw [if_neg (fun z => w z.2)]; exact hf q' (by omega)
  refine v_X8_isSteady_0 ⟨g2, fun M1 e1 => loop 3 1 (by omega) (by omega) M1 (by rw [e1]; exact (iKp.rfl' M0).sl (by omega)) (by rw [e1]; rfl) (fun k hk => ?_)⟩
  have : k = 0 := by omega
  subst this
  rw [e1, jsl_at, if_pos ⟨rfl, rfl⟩, g3, v.2.2.1.2.1]; rfl
theorem m_clear {M0 : jM} {j q p m s : Nat} {A B : Nat → Int32} {K : jK} (hj : j < 6) (v : vR M0 j q p m s A B) (k0 : ∀ M', iKp M0 M' → K (some (some (.int (b2i (clB q B))))) M') {M5 : jM} (k5 : iKp M0 M5) (hf5 : M5.2 76 0 = (nI q).toInt64) : jEv nX8_clear (30, [(0, .ref 67), (1, .int (nI j)), (2, .int 1)], [], M5) K := by
  have loop : ∀ (d i : Nat), 1 ≤ i → i + d = 4 → ∀ M, iKp M0 M → (∀ k, k < i → M.2 76 k = pB q (fun k => (B k).toInt64) k) → jEv nX8_clear (30, [(0, .ref 67), (1, .int (nI j)), (2, .int (nI i))], [], M) K := by
    intro d
    induction d with
    | zero =>
      intro i h1 hi M k hf
      have : i = 4 := by omega
      subst this
      have h := m_free hf (pB_b (q := q) v.1.2.1 v.Bb)
      rw [cl_pB v] at h
      refine v_X8_clear_30 ⟨fun _ => jEv.mono h (fun o M' z => ⟨_, z.1, fun w => ?_, fun w => ?_⟩), fun z => absurd (by decide) z⟩
      · have := k0 M' (k.trans z.2.1)
        rw [w] at this; exact this
      · have := k0 M' (k.trans z.2.1)
        cases e : clB q B with
        | false => rw [e] at w; exact absurd rfl w
        | true => rw [e] at this; exact this
    | succ d ih =>
      intro i h1 hi M k hf
      have e4 : 4 * nI j + nI i = nI (4 * j + i) := by rw [show (4 : Int32) = nI 4 from rfl, pk_mul, nI_add]
      refine v_X8_clear_30 ⟨fun w => absurd w (nI_ge (b := 4) (by omega) (by omega)), fun _ => ⟨by rw [e4]; exact nI_in (by omega) (by omega), nI_in (by omega) (by omega), fun M4 f4 => ?_⟩⟩
      rw [nI_clamp (by omega), e4, nI_clamp (by omega), ((v.kp hj k.i).2.2.2.2 i h1 (by omega)).2.1] at f4
      rw [nI_1]
      refine ih (i + 1) (by omega) (by omega) M4 (by rw [f4]; exact k.sl (by omega)) (fun q' hq => ?_)
      rw [f4, jsl_at]
      by_cases w : q' = i
      · rw [if_pos ⟨rfl, w⟩, w]; unfold pB; rw [if_neg (by omega)]
      · rw [if_neg (fun z => w z.2)]; exact hf q' (by omega)
  refine loop 3 1 (by omega) (by omega) M5 k5 (fun k hk => ?_)
  have : k = 0 := by omega
  subst this
  rw [hf5]; rfl
theorem b2i_fin {K : jK} {M : jM} {b : Bool} (h : K (some (some (.int (b2i b)))) M) : (b2i b = 0 → K (some (some (.int 0))) M) ∧ (¬ b2i b = 0 → K (some (some (.int 1))) M) := by
  cases b with
  | false => exact ⟨fun _ => h, fun w => absurd rfl w⟩
  | true => exact ⟨fun w => absurd w (by decide), fun _ => h⟩
theorem op_steady {M : jM} (h : iInv M) (y : Int32) : jBoth nX7_steady nX8_steady [(0, .ref 0), (1, .int y)] [(0, .ref 67), (1, .int y)] M := by
  rcases rule_cs h y with ⟨c, m⟩ | ⟨j, q, p, m, s, A, B, hj, rfl, v⟩
  · refine both_i (r := -1) h (v_X7_steady_0 ?_) (fun M1 k => v_X8_steady_0 (fun M2 e2 => ?_))
    · rw [(c M (iI.rfl' M)).iff]
      exact Or.inl ⟨rfl, rfl, iKp.rfl' M⟩
    · have k2 := kp67 e2
      rw [(m M2 (k.trans k2.i)).iff]
      exact ⟨_, rfl, fun _ => ⟨rfl, k2⟩, fun z => absurd rfl z⟩
  · refine both_i (r := b2i (stB q A)) h (v_X7_steady_0 ?_) (fun M1 k => v_X8_steady_0 (fun M2 e2 => ?_))
    · rw [(c_told hj v).iff]
      refine Or.inr ⟨_, jRu_n hj, rfl, jEv.mono (c_steady hj v) (fun o M' z => ⟨_, z.1, ?_⟩)⟩
      exact b2i_fin (K := fun o M1 => o = some (some (.int (b2i (stB q A)))) ∧ iKp M M1) ⟨rfl, z.2⟩
    · have k2 := kp67 e2
      have v2 := v.kp hj (k.trans k2.i)
      rw [(m_told hj v2).iff]
      refine ⟨_, rfl, fun z => absurd z (by decide), fun _ => jEv.mono (m_steady hj v2) (fun o M' z => ⟨_, z.1, ?_⟩)⟩
      exact b2i_fin (K := fun o M2 => o = some (some (.int (b2i (stB q A)))) ∧ iKp M1 M2) ⟨rfl, k2.trans z.2.1⟩
theorem op_clear {M : jM} (h : iInv M) (y : Int32) : jBoth nX7_clear nX8_clear [(0, .ref 0), (1, .int y)] [(0, .ref 67), (1, .int y)] M := by
  rcases rule_cs h y with ⟨c, m⟩ | ⟨j, q, p, m, s, A, B, hj, rfl, v⟩
  · refine both_i (r := -1) h (v_X7_clear_0 ?_) (fun M1 k => v_X8_clear_0 (fun M2 e2 => ?_))
    · rw [(c M (iI.rfl' M)).iff]
      exact Or.inl ⟨rfl, rfl, iKp.rfl' M⟩
    · have k2 := kp67 e2
      rw [(m M2 (k.trans k2.i)).iff]
      exact ⟨_, rfl, fun _ => ⟨rfl, k2⟩, fun z => absurd rfl z⟩
  · obtain ⟨g1, g2, g3⟩ := slot_in hj
    refine both_i (r := b2i (clB q B)) h (v_X7_clear_0 ?_) (fun M1 k => v_X8_clear_0 (fun M2 e2 => ?_))
    · rw [(c_told hj v).iff]
      refine Or.inr ⟨_, jRu_n hj, rfl, jEv.mono (c_clear hj v) (fun o M' z => ⟨_, z.1, ?_⟩)⟩
      exact b2i_fin (K := fun o M1 => o = some (some (.int (b2i (clB q B)))) ∧ iKp M M1) ⟨rfl, z.2⟩
    · have k2 := kp67 e2
      have v2 := v.kp hj (k.trans k2.i)
      rw [(m_told hj v2).iff]
      refine ⟨_, rfl, fun z => absurd z (by decide), fun _ => ⟨g2, fun M5 e5 => ?_⟩⟩
      rw [g3, v2.2.2.1.2.1] at e5
      exact m_clear hj v2 (fun M' z => ⟨rfl, k2.trans z⟩) (M5 := M5) (by rw [e5]; exact (iKp.rfl' M2).sl (by omega)) (by rw [e5, jsl_at, if_pos ⟨rfl, rfl⟩])
