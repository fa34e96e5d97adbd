/-! amiss, both sides -/
def aW (P Q : Nat → Int64) : Nat → Nat × Int64 × Int64
  | 0 => (0, 0, 1)
  | t + 1 => if P t * P t * (aW P Q t).2.2 ≤ (aW P Q t).2.1 * Q t then aW P Q t else (t, P t * P t, Q t)
def aOk (P Q : Nat → Int64) (n : Nat) : Prop := ∀ t, t < n → aL (P t) 307200 ∧ 0 ≤ (Q t).toInt ∧ aL (Q t) 3840 ∧ (Q t = 0 → P t = 0)
theorem sq_int {a : Int64} (h : aL a 307200) : (a * a).toInt = a.toInt * a.toInt ∧ aL (a * a) 94371840000 ∧ 0 ≤ (a * a).toInt := by
  obtain ⟨e1, e2⟩ := aL_mul h h (by decide)
  refine ⟨e1, e2, ?_⟩
  rw [e1]
  rcases Int.le_total 0 a.toInt with z | z
  · exact Int.mul_nonneg z z
  · exact Int.mul_nonneg_of_nonpos_of_nonpos z z
theorem aW_ok {P Q : Nat → Int64} {n : Nat} (h : aOk P Q n) : ∀ t, t ≤ n → (0 ≤ (aW P Q t).2.1.toInt ∧ aL (aW P Q t).2.1 94371840000 ∧ 0 < (aW P Q t).2.2.toInt ∧ aL (aW P Q t).2.2 3840) ∧ (((aW P Q t).1 < t ∧ (aW P Q t).2.1 = P (aW P Q t).1 * P (aW P Q t).1 ∧ (aW P Q t).2.2 = Q (aW P Q t).1) ∨ ((aW P Q t).1 = 0 ∧ (aW P Q t).2.1 = 0 ∧ (aW P Q t).2.2 = 1 ∧ (0 < t → P 0 = 0))) := by
  intro t
  induction t with
  | zero =>
    intro _
    exact ⟨⟨show 0 ≤ (0 : Int64).toInt by decide, show (0 : Int64).toInt.natAbs ≤ 94371840000 by decide, show 0 < (1 : Int64).toInt by decide, show (1 : Int64).toInt.natAbs ≤ 3840 by decide⟩, Or.inr ⟨rfl, rfl, rfl, fun z => absurd z (by omega)⟩⟩
  | succ t ih =>
    intro ht
    obtain ⟨⟨i1, i2, i3, i4⟩, i5⟩ := ih (by omega)
    obtain ⟨h1, h2, h3, h4⟩ := h t (by omega)
    obtain ⟨s1, s2, s3⟩ := sq_int h1
    have eL := aL_mul s2 i4 (by decide)
    have eR := aL_mul i2 h3 (by decide)
    show (0 ≤ (if P t * P t * (aW P Q t).2.2 ≤ (aW P Q t).2.1 * Q t then aW P Q t else (t, P t * P t, Q t)).2.1.toInt ∧ aL (if P t * P t * (aW P Q t).2.2 ≤ (aW P Q t).2.1 * Q t then aW P Q t else (t, P t * P t, Q t)).2.1 94371840000 ∧ 0 < (if P t * P t * (aW P Q t).2.2 ≤ (aW P Q t).2.1 * Q t then aW P Q t else (t, P t * P t, Q t)).2.2.toInt ∧ aL (if P t * P t * (aW P Q t).2.2 ≤ (aW P Q t).2.1 * Q t then aW P Q t else (t, P t * P t, Q t)).2.2 3840) ∧ (((if P t * P t * (aW P Q t).2.2 ≤ (aW P Q t).2.1 * Q t then aW P Q t else (t, P t * P t, Q t)).1 < t + 1 ∧ (if P t * P t * (aW P Q t).2.2 ≤ (aW P Q t).2.1 * Q t then aW P Q t else (t, P t * P t, Q t)).2.1 = P (if P t * P t * (aW P Q t).2.2 ≤ (aW P Q t).2.1 * Q t then aW P Q t else (t, P t * P t, Q t)).1 * P (if P t * P t * (aW P Q t).2.2 ≤ (aW P Q t).2.1 * Q t then aW P Q t else (t, P t * P t, Q t)).1 ∧ (if P t * P t * (aW P Q t).2.2 ≤ (aW P Q t).2.1 * Q t then aW P Q t else (t, P t * P t, Q t)).2.2 = Q (if P t * P t * (aW P Q t).2.2 ≤ (aW P Q t).2.1 * Q t then aW P Q t else (t, P t * P t, Q t)).1) ∨ ((if P t * P t * (aW P Q t).2.2 ≤ (aW P Q t).2.1 * Q t then aW P Q t else (t, P t * P t, Q t)).1 = 0 ∧ (if P t * P t * (aW P Q t).2.2 ≤ (aW P Q t).2.1 * Q t then aW P Q t else (t, P t * P t, Q t)).2.1 = 0 ∧ (if P t * P t * (aW P Q t).2.2 ≤ (aW P Q t).2.1 * Q t then aW P Q t else (t, P t * P t, Q t)).2.2 = 1 ∧ (0 < t + 1 → P 0 = 0)))
    by_cases c : P t * P t * (aW P Q t).2.2 ≤ (aW P Q t).2.1 * Q t
    · rw [if_pos c]
      refine ⟨⟨i1, i2, i3, i4⟩, ?_⟩
      rcases i5 with ⟨j1, j2, j3⟩ | ⟨j1, j2, j3, j4⟩
      · exact Or.inl ⟨by omega, j2, j3⟩
      · refine Or.inr ⟨j1, j2, j3, fun _ => ?_⟩
        rcases Nat.eq_zero_or_pos t with z | z
        · subst z
          rw [j2, j3, Int64.le_iff_toInt_le, Int64.zero_mul, Int64.mul_one, Int64.toInt_zero, s1] at c
          have : (P 0).toInt = 0 := by
            have e : (P 0).toInt * (P 0).toInt = 0 := by rw [s1] at s3; omega
            rcases Int.mul_eq_zero.mp e with g | g <;> exact g
          exact Int64.toInt_inj.mp (by rw [this]; rfl)
        · exact j4 z
    · rw [if_neg c]
      refine ⟨⟨s3, s2, ?_, h3⟩, Or.inl ⟨by show t < t + 1; omega, rfl, rfl⟩⟩
      show 0 < (Q t).toInt
      rcases Int.lt_or_eq_of_le h2 with z | z
      · exact z
      · exfalso
        have q0 : Q t = 0 := Int64.toInt_inj.mp (by rw [← z]; rfl)
        refine c ?_
        rw [h4 q0, q0]
        simp only [Int64.mul_zero, Int64.zero_mul]
        exact Int64.le_refl _
/-- fractions held against one another crosswise, in lowest terms or not -/
theorem dv_ex2 {a b : Int} (hb : 0 < b) : ∃ g : Int, 0 < g ∧ a = (Rat.divInt a b).num * g ∧ b = (Rat.divInt a b).den * g := by
  obtain ⟨m, hm, h1, h2⟩ := Rat.divInt_num_den (n := a) (d := b) (n' := (Rat.divInt a b).num) (d' := (Rat.divInt a b).den) (z' := (Rat.divInt a b).den_nz) (c := (Rat.divInt a b).reduced) (by omega) rfl
  refine ⟨m, ?_, h1, h2⟩
  have hd := (Rat.divInt a b).den_pos
  rcases Int.lt_trichotomy m 0 with z | z | z
  · have := Int.mul_neg_of_pos_of_neg (show (0 : Int) < (Rat.divInt a b).den by omega) z
    omega
  · exact absurd z hm
  · exact z
theorem dv_lt {a b c d : Int} (hb : 0 < b) (hd : 0 < d) : (Rat.divInt a b).num * (Rat.divInt c d).den < (Rat.divInt c d).num * (Rat.divInt a b).den ↔ a * d < c * b := by
  obtain ⟨g, g0, g1, g2⟩ := dv_ex2 (a := a) hb
  obtain ⟨k, k0, k1, k2⟩ := dv_ex2 (a := c) hd
  have e1 : a * d = (g * k) * ((Rat.divInt a b).num * (Rat.divInt c d).den) := by
    calc a * d = ((Rat.divInt a b).num * g) * ((Rat.divInt c d).den * k) := by rw [← g1, ← k2]
      _ = _ := by grind
  have e2 : c * b = (g * k) * ((Rat.divInt c d).num * (Rat.divInt a b).den) := by
    calc c * b = ((Rat.divInt c d).num * k) * ((Rat.divInt a b).den * g) := by rw [← k1, ← g2]
      _ = _ := by grind
  rw [e1, e2]
  exact (Int.mul_lt_mul_left (Int.mul_pos g0 k0)).symm
def aR (q : Nat) (s : Nat × Int64 × Int64) : Rat := Rat.divInt s.2.1.toInt (s.2.2.toInt * ((q : Int) * q))
theorem iInv.drop {M M' : jM} (h : iInv M) (e : ∀ a k, ¬ (a = 0 ∧ k = 15) → ¬ (a = 67 ∧ (k = 0 ∨ k = 36)) → M'.1 a k = M.1 a k) (e2 : ∀ a k, ((63 ≤ a ∧ a ≤ 65) ∨ a = 94 ∨ a = 95) → M'.2 a k = M.2 a k) (d : iDrop M') : iInv M' :=
  ⟨h.1.cg fun a k z => e a k (by omega) (by omega), fun j hj => (h.2.1 j hj).cg fun a k z => e a k (by omega) (by omega), fun j hj => (h.2.2.1 j hj).cg fun a k z => e a k (by omega) (by omega), h.2.2.2.1.cg fun a k z => e a k (by omega) (by omega), h.2.2.2.2.1.cg (fun a k z => e a k (by omega) (by omega)) (fun a k z => e2 a k (by omega)), d⟩
theorem vR.cg {M M' : jM} {j q p m s : Nat} {A B : Nat → Int32} (h : vR M j q p m s A B) (k : ∀ a i, ((4 ≤ a ∧ a < 43) ∨ (69 ≤ a ∧ a ≤ 75)) → M'.1 a i = M.1 a i) (hj : j < 6) : vR M' j q p m s A B := by
  obtain ⟨h0, ⟨a1, a2, a3, a4, a5⟩, ⟨b1, b2, b3, b4, b5⟩, h3, h4⟩ := h
  refine ⟨h0, ⟨?_, ?_, ?_, ?_, ?_⟩, ⟨?_, ?_, ?_, ?_, ?_⟩, fun i i1 i2 => ?_, fun i i1 i2 => ?_⟩
  · rw [k (4 + 4 * j) 0 (by omega)]; exact a1
  · rw [k (4 + 4 * j) 1 (by omega)]; exact a2
  · rw [k (4 + 4 * j) 2 (by omega)]; exact a3
  · rw [k (4 + 4 * j) 3 (by omega)]; exact a4
  · rw [k (4 + 4 * j) 4 (by omega)]; exact a5
  · rw [k 69 j (by omega)]; exact b1
  · rw [k 70 j (by omega)]; exact b2
  · rw [k 71 j (by omega)]; exact b3
  · rw [k 72 j (by omega)]; exact b4
  · rw [k 73 j (by omega)]; exact b5
  · rw [k (4 + 4 * j + 1) i (by omega), k 74 (4 * j + i) (by omega)]; exact h3 i i1 i2
  · rw [k (4 + 4 * j + 2) i (by omega), k 75 (4 * j + i) (by omega)]; exact h4 i i1 i2
theorem vW.cg {M M' : jM} {n : Nat} {x : Nat → Int32} (h : vW M n x) (k : ∀ a i, (a = 41 ∨ a = 42 ∨ a = 90 ∨ (a = 67 ∧ i = 27)) → M'.1 a i = M.1 a i) : vW M' n x := by
  obtain ⟨h0, h1, h2, h3⟩ := h
  refine ⟨h0, ?_, ?_, fun i i1 => ?_⟩
  · rw [k 41 2 (by omega)]; exact h1
  · rw [k 67 27 (by omega)]; exact h2
  · rw [k 42 i (by omega), k 90 i (by omega)]; exact h3 i i1
theorem c_worst {M : jM} {n j q p m s : Nat} {x A B : Nat → Int32} (hj : j < 6) (h : vW M n x) (v : vR M j q p m s A B) (hp : p ≤ n) : jTo nX4_worstPlace (0, [(0, .ref 41), (1, .ref (4 + 4 * j))], [], M) (some (some (.int (nI (aW (aP q p n A x) (fun t => aQ q p n A t t) n).1)))) M := by
  have hn := h.1
  have lp : ∀ (d t : Nat), t + d = n → jTo nX4_worstPlace (10, [(0, .ref 41), (1, .ref (4 + 4 * j)), (2, .int (nI (aW (aP q p n A x) (fun t => aQ q p n A t t) t).1)), (3, .long (aW (aP q p n A x) (fun t => aQ q p n A t t) t).2.1), (5, .long (aW (aP q p n A x) (fun t => aQ q p n A t t) t).2.2), (7, .int (nI t))], [], M) (some (some (.int (nI (aW (aP q p n A x) (fun t => aQ q p n A t t) n).1)))) M := by
    intro d
    induction d with
    | zero =>
      intro t ht
      have : t = n := by omega
      subst this
      exact v_X4_worstPlace_10 (jRu_n hj) ⟨fun _ => ⟨rfl, rfl⟩, fun z => absurd (by rw [h.2.1]; exact Int32.le_refl _) z⟩
    | succ d ih =>
      intro t ht
      refine v_X4_worstPlace_10 (jRu_n hj) ⟨fun z => absurd z (by rw [h.2.1]; exact nI_ge (by omega) (by omega)), fun _ => ?_⟩
      rw [(c_pulled hj h v (t := t) (by omega) hp).iff]
      refine ⟨_, rfl, ?_⟩
      rw [(c_squared hj h v (t := t) (by omega) hp).iff]
      have nx := ih (t + 1) (by omega)
      refine ⟨_, rfl, fun c => ?_, fun c => ?_⟩
      · rw [show aW (aP q p n A x) (fun t => aQ q p n A t t) (t + 1) = aW (aP q p n A x) (fun t => aQ q p n A t t) t from if_pos c] at nx
        rw [nI_1]; exact nx
      · rw [show aW (aP q p n A x) (fun t => aQ q p n A t t) (t + 1) = (t, aP q p n A x t * aP q p n A x t, aQ q p n A t t) from if_neg c] at nx
        rw [nI_1]; exact nx
  exact v_X4_worstPlace_0 (jRu_n hj) (lp n 0 (by omega))
theorem a_ok {M : jM} {n j q p m s : Nat} {x A B : Nat → Int32} (h : vW M n x) (v : vR M j q p m s A B) : aOk (aP q p n A x) (fun t => aQ q p n A t t) n :=
  fun t _ => ⟨aP_b v.1.2.1 v.1.2.2.1 v.rA h t, (aQ_pos v.1.2.1 v.rA h t).1, aQ_b v.1.2.1 v.rA h t t, (aQ_pos v.1.2.1 v.rA h t).2⟩
theorem qq_int {q : Nat} (h1 : 1 ≤ q) (hq : q ≤ 4) {b : Int64} (hb : aL b 3840) : (b * (nI q).toInt64 * (nI q).toInt64).toInt = b.toInt * ((q : Int) * q) ∧ aL (b * (nI q).toInt64 * (nI q).toInt64) 61440 := by
  have a : aL (nI q).toInt64 4 := by unfold aL; rw [nIq hq]; omega
  have e1 := aL_mul hb a (by decide)
  have e2 := aL_mul e1.2 a (by decide)
  exact ⟨by rw [e2.1, e1.1, nIq hq, Int.mul_assoc], e2.2⟩
theorem aR_sm {q : Nat} (h1 : 1 ≤ q) (hq : q ≤ 4) {s : Nat × Int64 × Int64} (hT : aL s.2.1 94371840000) (hB : 0 < s.2.2.toInt) (hB2 : aL s.2.2 3840) : sm (aR q s) 94371840000 61440 := by
  have e := qq_int h1 hq hB2
  have p : 0 < (q : Int) * q := Int.mul_pos (by omega) (by omega)
  have p2 : 0 < s.2.2.toInt * ((q : Int) * q) := Int.mul_pos hB p
  refine (sm_div (by omega)).mono hT ?_
  rw [← e.1]; exact e.2
theorem m_amiss {M0 : jM} {K : jK} {n j q p m s : Nat} {x A B : Nat → Int32} (hj : j < 6) (h : vW M0 n x) (v : vR M0 j q p m s A B) (hp : p ≤ n) (k : ∀ M M1, iKp M0 M → M.1 = M0.1 → M1 = jsl (jsl (jsi M 67 36 1) 67 37 (cU (aR q (aW (aP q p n A x) (fun t => aQ q p n A t t) n)))) 67 38 (cL (aR q (aW (aP q p n A x) (fun t => aQ q p n A t t) n))) → K (some (some (.int (nI (aW (aP q p n A x) (fun t => aQ q p n A t t) n).1)))) M1) : ∀ (d t : Nat), t + d = n → ∀ M, iKp M0 M → M.1 = M0.1 → jEv nX8_amiss (45, [(0, .ref 67), (1, .int (nI j)), (2, .int (nI (aW (aP q p n A x) (fun t => aQ q p n A t t) t).1)), (3, .long (cU (aR q (aW (aP q p n A x) (fun t => aQ q p n A t t) t)))), (5, .long (cL (aR q (aW (aP q p n A x) (fun t => aQ q p n A t t) t)))), (7, .int (nI t))], [], M) K := by
  obtain ⟨g1, g2, g3⟩ := slot_in hj
  have hn := h.1
  have hq1 := v.1.1
  have hq4 := v.1.2.1
  have ok := a_ok h v
  intro d
  induction d with
  | zero =>
    intro t ht M kp f1
    have : t = n := by omega
    subst this
    refine v_X8_amiss_45 ⟨fun _ M1 e1 M2 e2 M3 e3 => ?_, fun z => absurd (by rw [f1, h.2.2.1]; exact Int32.le_refl _) z⟩
    exact k M M3 kp f1 (by rw [e3, e2, e1])
  | succ d ih =>
    intro t ht M kp f1
    have hM := h.cg (M' := M) (fun a i _ => by rw [f1])
    have vM := v.cg (M' := M) (fun a i _ => by rw [f1]) hj
    have fin : ∀ (e u : Nat), p ≤ u → u + e = n → jEv nX8_amiss (68, [(0, .ref 67), (1, .int (nI j)), (2, .int (nI (aW (aP q p n A x) (fun t => aQ q p n A t t) t).1)), (3, .long (cU (aR q (aW (aP q p n A x) (fun t => aQ q p n A t t) t)))), (5, .long (cL (aR q (aW (aP q p n A x) (fun t => aQ q p n A t t) t)))), (7, .int (nI t)), (8, .long (sL (aPf q p A x t) u)), (10, .long (sL (aQf q p A t t) u)), (12, .int (nI u))], [], M) K := by
      intro e
      induction e with
      | zero =>
        intro u _ hu
        have : u = n := by omega
        subst this
        obtain ⟨o1, o2, o3, o4⟩ := ok t (by omega)
        obtain ⟨⟨i1, i2, i3, i4⟩, -⟩ := aW_ok ok t (by omega)
        obtain ⟨s1, s2, s3⟩ := sq_int o1
        have eL := aL_mul s2 i4 (by decide)
        have eR := aL_mul i2 o3 (by decide)
        refine v_X8_amiss_68 ⟨fun _ => ⟨fun z => ?_, fun z => ⟨g2, g2, ?_⟩⟩, fun z => absurd (by rw [hM.2.2.1]; exact Int32.le_refl _) z⟩
        · have z' : aQ q p u A t t = 0 := z
          have c : aP q p u A x t * aP q p u A x t * (aW (aP q p u A x) (fun t => aQ q p u A t t) t).2.2 ≤ (aW (aP q p u A x) (fun t => aQ q p u A t t) t).2.1 * aQ q p u A t t := by
            rw [o4 z', z']
            simp only [Int64.mul_zero, Int64.zero_mul]
            exact Int64.le_refl _
          have nx := ih (t + 1) (by omega) M kp f1
          rw [show aW (aP q p u A x) (fun t => aQ q p u A t t) (t + 1) = aW (aP q p u A x) (fun t => aQ q p u A t t) t from if_pos c] at nx
          rw [nI_1]; exact nx
        · have z' : ¬ aQ q p u A t t = 0 := z
          have qp : 0 < (aQ q p u A t t).toInt := by
            rcases Int.lt_or_eq_of_le o2 with y | y
            · exact y
            · exact absurd (Int64.toInt_inj.mp (by rw [← y]; rfl)) z'
          have pq : 0 < (q : Int) * q := Int.mul_pos (by omega) (by omega)
          obtain ⟨e1, e2⟩ := qq_int hq1 hq4 o3
          have b0 : ¬ aQ q p u A t t * (nI q).toInt64 * (nI q).toInt64 = 0 := by
            intro y
            have := Int.mul_pos qp pq
            rw [← e1, y, Int64.toInt_zero] at this
            omega
          show jEv nX8_set (0, [(0, .ref 67), (1, .long (aP q p u A x t * aP q p u A x t)), (3, .long (aQ q p u A t t * (M.1 70 (nI j).toNatClampNeg).toInt64 * (M.1 70 (nI j).toNatClampNeg).toInt64))], [], M) _
          rw [g3, vM.2.2.1.2.1, (m_setF M (s2.ne (by decide)) (e2.ne (by decide)) b0).iff]
          have er : rQ (aP q p u A x t * aP q p u A x t) (aQ q p u A t t * (nI q).toInt64 * (nI q).toInt64) = aR q (t, aP q p u A x t * aP q p u A x t, aQ q p u A t t) := by
            unfold rQ aR
            rw [e1]
          have smn := aR_sm hq1 hq4 (s := (t, aP q p u A x t * aP q p u A x t, aQ q p u A t t)) s2 qp o3
          have smo := aR_sm hq1 hq4 i2 i3 i4
          have cu := cU_i smn (by decide)
          have cl := cL_i smn (by decide)
          have du := cU_i smo (by decide)
          have dl := cL_i smo (by decide)
          have lu : aL (cU (aR q (t, aP q p u A x t * aP q p u A x t, aQ q p u A t t))) 94371840000 := by unfold aL; rw [cu]; exact smn.1
          have ll : aL (cL (aR q (t, aP q p u A x t * aP q p u A x t, aQ q p u A t t))) 61440 := by unfold aL; rw [cl]; exact smn.2
          have ku : aL (cU (aR q (aW (aP q p u A x) (fun t => aQ q p u A t t) t))) 94371840000 := by unfold aL; rw [du]; exact smo.1
          have kl : aL (cL (aR q (aW (aP q p u A x) (fun t => aQ q p u A t t) t))) 61440 := by unfold aL; rw [dl]; exact smo.2
          have m1 := aL_mul ku ll (by decide)
          have m2 := aL_mul lu kl (by decide)
          have cmp : cU (aR q (aW (aP q p u A x) (fun t => aQ q p u A t t) t)) * cL (aR q (t, aP q p u A x t * aP q p u A x t, aQ q p u A t t)) < cU (aR q (t, aP q p u A x t * aP q p u A x t, aQ q p u A t t)) * cL (aR q (aW (aP q p u A x) (fun t => aQ q p u A t t) t)) ↔ ¬ (aP q p u A x t * aP q p u A x t * (aW (aP q p u A x) (fun t => aQ q p u A t t) t).2.2 ≤ (aW (aP q p u A x) (fun t => aQ q p u A t t) t).2.1 * aQ q p u A t t) := by
            rw [Int64.lt_iff_toInt_lt, Int64.le_iff_toInt_le, m1.1, m2.1, cu, cl, du, dl, eL.1, eR.1]
            unfold aR
            rw [dv_lt (Int.mul_pos i3 pq) (Int.mul_pos qp pq)]
            show (aW (aP q p u A x) (fun t => aQ q p u A t t) t).2.1.toInt * ((aQ q p u A t t).toInt * ((q : Int) * q)) < (aP q p u A x t * aP q p u A x t).toInt * ((aW (aP q p u A x) (fun t => aQ q p u A t t) t).2.2.toInt * ((q : Int) * q)) ↔ _
            have ar : ∀ a b c d e : Int, 0 < e → (a * (b * e) < c * (d * e) ↔ a * b < c * d) := fun a b c d e he => by rw [← Int.mul_assoc, ← Int.mul_assoc, Int.mul_lt_mul_right he]
            rw [ar _ _ _ _ _ pq]
            dsimp only
            omega
          rw [er]
          refine ⟨rfl, fun c => ?_, fun c => ?_⟩
          · rw [jF_u, jF_l] at c ⊢
            have nx := ih (t + 1) (by omega) (jF M (aR q (t, aP q p u A x t * aP q p u A x t, aQ q p u A t t))) (jF_kp kp _) f1
            rw [show aW (aP q p u A x) (fun t => aQ q p u A t t) (t + 1) = (t, aP q p u A x t * aP q p u A x t, aQ q p u A t t) from if_neg (cmp.mp c)] at nx
            rw [nI_1]; exact nx
          · rw [jF_u, jF_l] at c
            have nx := ih (t + 1) (by omega) (jF M (aR q (t, aP q p u A x t * aP q p u A x t, aQ q p u A t t))) (jF_kp kp _) f1
            rw [show aW (aP q p u A x) (fun t => aQ q p u A t t) (t + 1) = aW (aP q p u A x) (fun t => aQ q p u A t t) t from if_pos (Decidable.not_not.mp (fun y => c (cmp.mpr y)))] at nx
            rw [nI_1]; exact nx
      | succ e ihe =>
        intro u hpu hu
        refine v_X8_amiss_68 ⟨fun z => absurd z (by rw [hM.2.2.1]; exact nI_ge (by omega) (by omega)), fun _ => ?_⟩
        have pt := m_partD hj vM (t := u) (u := t) (by omega) (by omega)
        rw [pt.iff]
        refine ⟨_, rfl, ?_⟩
        rw [(m_miss hj hM vM hpu (by omega)).iff]
        refine ⟨_, rfl, ?_⟩
        rw [pt.iff]
        refine ⟨_, rfl, ?_⟩
        rw [pt.iff]
        refine ⟨_, rfl, ?_⟩
        have nx := ihe (u + 1) (by omega) (by omega)
        rw [show sL (aPf q p A x t) (u + 1) = sL (aPf q p A x t) u + (pD q A u t).toInt64 * mT q p A x u by show _ + aPf q p A x t u = _; unfold aPf; rw [if_pos hpu], show sL (aQf q p A t t) (u + 1) = sL (aQf q p A t t) u + (pD q A u t).toInt64 * (pD q A u t).toInt64 by show _ + aQf q p A t t u = _; unfold aQf; rw [if_pos hpu]] at nx
        rw [nI_1]; exact nx
    refine v_X8_amiss_45 ⟨fun z => absurd z (by rw [hM.2.2.1]; exact nI_ge (by omega) (by omega)), fun _ => ⟨g2, ?_⟩⟩
    rw [g3, vM.2.2.1.2.2.1]
    have := fin (n - p) p (Nat.le_refl p) (by omega)
    rw [sL_zero (fun i hi => by unfold aPf; rw [if_neg (by omega)]), sL_zero (fun i hi => by unfold aQf; rw [if_neg (by omega)])] at this
    exact this
theorem gaps_cg {M : jM} {n : Nat} {x : Nat → Int32} (h : vW M n x) : cN (fun t => decide (M.1 42 t = 100)) n = cN (fun t => decide (x t = 100)) n ∧ cN (fun t => decide (M.1 90 t = 100)) n = cN (fun t => decide (x t = 100)) n :=
  ⟨cN_congr (fun i hi => by rw [(h.2.2.2 i hi).1]), cN_congr (fun i hi => by rw [(h.2.2.2 i hi).2.1])⟩
theorem op_amiss {M : jM} (h : iInv M) (y : Int32) : jBoth nX7_amiss nX8_amiss [(0, .ref 0), (1, .int y)] [(0, .ref 67), (1, .int y)] M := by
  obtain ⟨n, x, w⟩ := h.vW
  have hn := w.1
  rcases plain_cs h y with ⟨c, m⟩ | ⟨j, q, p, s, A, B, hj, rfl, v⟩
  · refine both_i (r := -1) h (v_X7_amiss_0 ?_) (fun M1 k => v_X8_amiss_0 (fun M2 e2 => ?_))
    · rw [(c M (iI.rfl' M)).iff]
      exact Or.inl ⟨rfl, rfl, iKp.rfl' M⟩
    · have k2 := kp67 e2
      rw [(m M2 (k.trans k2.i)).iff]
      exact ⟨_, rfl, fun _ => ⟨rfl, k2⟩, fun z => absurd rfl z⟩
  obtain ⟨g1, g2, g3⟩ := slot_in hj
  have hp3 := v.1.2.2.1
  have hq1 := v.1.1
  have hq4 := v.1.2.1
  have cle := cN_le (fun t => decide (x t = 100)) n
  by_cases hc : 0 < cN (fun t => decide (x t = 100)) n
  · refine both_i (r := -1) h (v_X7_amiss_0 ?_) (fun M1 k => v_X8_amiss_0 (fun M2 e2 => ?_))
    · rw [(c_plain hj v).iff]
      refine Or.inr ⟨_, jRu_n hj, rfl, ?_⟩
      rw [(s_gapCount M hn w.2.1).iff, (gaps_cg w).1]
      exact ⟨_, rfl, fun _ => ⟨rfl, iKp.rfl' M⟩, fun z => absurd ((nI_ltI (a := 0) (by omega) (by omega)).mpr hc) z⟩
    · have k2 := kp67 e2
      have v2 := v.kp hj (k.trans k2.i)
      have w2 := w.kp (k.trans k2.i)
      rw [(m_plain hj v2).iff]
      refine ⟨_, rfl, fun z => absurd z (by decide), fun _ => ?_⟩
      rw [(s_gaps M2 hn w2.2.2.1).iff, (gaps_cg w2).2]
      exact ⟨_, rfl, fun _ => ⟨rfl, k2⟩, fun z => absurd ((nI_ltI (a := 0) (by omega) (by omega)).mpr hc) z⟩
  have nc : ∀ {P : Prop}, 0 < nI (cN (fun t => decide (x t = 100)) n) → P := fun z => absurd ((nI_ltI (a := 0) (by omega) (by omega)).mp z) hc
  by_cases hpn : p < n
  case neg =>
    refine both_i (r := -1) h (v_X7_amiss_0 ?_) (fun M1 k => v_X8_amiss_0 (fun M2 e2 => ?_))
    · rw [(c_plain hj v).iff]
      refine Or.inr ⟨_, jRu_n hj, rfl, ?_⟩
      rw [(s_gapCount M hn w.2.1).iff, (gaps_cg w).1]
      refine ⟨_, rfl, fun z => nc z, fun _ => ⟨fun z => ?_, fun _ => ⟨rfl, iKp.rfl' M⟩⟩⟩
      rw [v.2.1.2.2.1, w.2.1] at z
      exact absurd ((nI_ltI (by omega) (by omega)).mp z) hpn
    · have k2 := kp67 e2
      have v2 := v.kp hj (k.trans k2.i)
      have w2 := w.kp (k.trans k2.i)
      rw [(m_plain hj v2).iff]
      refine ⟨_, rfl, fun z => absurd z (by decide), fun _ => ?_⟩
      rw [(s_gaps M2 hn w2.2.2.1).iff, (gaps_cg w2).2]
      refine ⟨_, rfl, fun z => nc z, fun _ => ⟨g2, fun z => ?_, fun _ => ⟨rfl, k2⟩⟩⟩
      rw [g3, v2.2.2.1.2.2.1, w2.2.2.1] at z
      exact absurd ((nI_ltI (by omega) (by omega)).mp z) hpn
  have ok := a_ok w v
  obtain ⟨⟨i1, i2, i3, i4⟩, i5⟩ := aW_ok ok n (Nat.le_refl n)
  have pq : 0 < (q : Int) * q := Int.mul_pos (by omega) (by omega)
  have wl : (aW (aP q p n A x) (fun t => aQ q p n A t t) n).1 < n := by
    rcases i5 with z | z
    · exact z.1
    · rw [z.1]; omega
  -- the class's mark
  have cls : jEv nX7_amiss (0, [(0, .ref 0), (1, .int (nI j))], [], M) (fun o M1 => o = some (some (.int (nI (aW (aP q p n A x) (fun t => aQ q p n A t t) n).1))) ∧ M1 = jsi (jsl (jsl M 66 0 (cU (aR q (aW (aP q p n A x) (fun t => aQ q p n A t t) n)))) 66 1 (cL (aR q (aW (aP q p n A x) (fun t => aQ q p n A t t) n)))) 0 15 1) := by
    refine v_X7_amiss_0 ?_
    rw [(c_plain hj v).iff]
    refine Or.inr ⟨_, jRu_n hj, rfl, ?_⟩
    rw [(s_gapCount M hn w.2.1).iff, (gaps_cg w).1]
    refine ⟨_, rfl, fun z => nc z, fun _ => ⟨fun _ => ?_, fun z => ?_⟩⟩
    · rw [(c_worst hj w v (by omega)).iff]
      refine ⟨_, rfl, ?_⟩
      rw [(c_pulled hj w v wl (by omega)).iff]
      refine ⟨_, rfl, ?_⟩
      rw [(c_squared hj w v wl (by omega)).iff]
      obtain ⟨o1, o2, o3, o4⟩ := ok _ wl
      obtain ⟨s1, s2, s3⟩ := sq_int o1
      refine ⟨_, rfl, fun z => ?_, fun z => ?_⟩
      · have p0 : aP q p n A x (aW (aP q p n A x) (fun t => aQ q p n A t t) n).1 = 0 := o4 z
        rw [p0, Int64.zero_mul, (c_set M (r := 66) (Or.inr (Or.inr (Or.inr (Or.inr (Or.inr rfl))))) (a := 0) (b := 1) (by decide) (by decide) (by decide)).iff]
        refine ⟨rfl, fun M3 e3 => ⟨rfl, ?_⟩⟩
        have er : rQ 0 1 = aR q (aW (aP q p n A x) (fun t => aQ q p n A t t) n) := by
          rcases i5 with ⟨j1, j2, j3⟩ | ⟨j1, j2, j3, j4⟩
          · exfalso
            rw [j3, z, Int64.toInt_zero] at i3
            omega
          · unfold rQ aR
            rw [j2, Int64.toInt_zero, Rat.zero_divInt, Rat.zero_divInt]
        rw [e3, er]
      · rw [v.2.1.2.1]
        refine ((s_power M _ (n := 2) (by decide)).iff _).mpr ⟨_, rfl, ?_⟩
        obtain ⟨e1, e2⟩ := qq_int hq1 hq4 o3
        have ep : aQ q p n A (aW (aP q p n A x) (fun t => aQ q p n A t t) n).1 (aW (aP q p n A x) (fun t => aQ q p n A t t) n).1 * pwL (nI q).toInt64 2 = aQ q p n A (aW (aP q p n A x) (fun t => aQ q p n A t t) n).1 (aW (aP q p n A x) (fun t => aQ q p n A t t) n).1 * (nI q).toInt64 * (nI q).toInt64 := by
          rw [← sq_pw, Int64.mul_assoc]
        have qp : 0 < (aQ q p n A (aW (aP q p n A x) (fun t => aQ q p n A t t) n).1 (aW (aP q p n A x) (fun t => aQ q p n A t t) n).1).toInt := by
          rcases Int.lt_or_eq_of_le o2 with y | y
          · exact y
          · exact absurd (Int64.toInt_inj.mp (by rw [← y]; rfl)) z
        have b0 : ¬ aQ q p n A (aW (aP q p n A x) (fun t => aQ q p n A t t) n).1 (aW (aP q p n A x) (fun t => aQ q p n A t t) n).1 * (nI q).toInt64 * (nI q).toInt64 = 0 := by
          intro y
          have := Int.mul_pos qp pq
          rw [← e1, y, Int64.toInt_zero] at this
          omega
        rw [ep, (c_set M (r := 66) (Or.inr (Or.inr (Or.inr (Or.inr (Or.inr rfl))))) (s2.ne (by decide)) (e2.ne (by decide)) b0).iff]
        refine ⟨rfl, fun M3 e3 => ⟨rfl, ?_⟩⟩
        have er : rQ (aP q p n A x (aW (aP q p n A x) (fun t => aQ q p n A t t) n).1 * aP q p n A x (aW (aP q p n A x) (fun t => aQ q p n A t t) n).1) (aQ q p n A (aW (aP q p n A x) (fun t => aQ q p n A t t) n).1 (aW (aP q p n A x) (fun t => aQ q p n A t t) n).1 * (nI q).toInt64 * (nI q).toInt64) = aR q (aW (aP q p n A x) (fun t => aQ q p n A t t) n) := by
          rcases i5 with ⟨j1, j2, j3⟩ | ⟨j1, j2, j3, j4⟩
          · unfold rQ aR
            rw [e1, j2, j3]
          · unfold rQ aR
            rw [j1, j2, j4 (by omega), Int64.zero_mul, Int64.toInt_zero, Rat.zero_divInt, Rat.zero_divInt]
        rw [e3, er]
    · rw [v.2.1.2.2.1, w.2.1] at z
      exact absurd (nI_lt hpn (by omega)) z
  refine jEv.mono cls (fun o M1 z => ⟨_, z.1, v_X8_amiss_0 (fun M2 e2 => ?_)⟩)
  obtain ⟨-, e1⟩ := z
  have f1 : ∀ a i, ¬ (a = 0 ∧ i = 15) → ¬ (a = 67 ∧ i = 0) → M2.1 a i = M.1 a i := by
    intro a i z1 z2
    rw [e2, jsi_at, if_neg z2, e1, jsi_at, if_neg z1]; rfl
  have v2 := v.cg (M' := M2) (fun a i z => f1 a i (by omega) (by omega)) hj
  have w2 := w.cg (M' := M2) (fun a i z => f1 a i (by omega) (by omega))
  have l2 : ∀ a i, a ≠ 66 → M2.2 a i = M.2 a i := by
    intro a i z1
    rw [e2, jsi_at2, e1, jsi_at2, jsl_at, if_neg (fun z => z1 z.1), jsl_at, if_neg (fun z => z1 z.1)]
  have d2 : M2.2 66 0 = cU (aR q (aW (aP q p n A x) (fun t => aQ q p n A t t) n)) ∧ M2.2 66 1 = cL (aR q (aW (aP q p n A x) (fun t => aQ q p n A t t) n)) ∧ M2.1 0 15 = 1 := by
    refine ⟨?_, ?_, ?_⟩
    · rw [e2, jsi_at2, e1, jsi_at2, jsl_at, if_neg (by decide), jsl_at, if_pos ⟨rfl, rfl⟩]
    · rw [e2, jsi_at2, e1, jsi_at2, jsl_at, if_pos ⟨rfl, rfl⟩]
    · rw [e2, jsi_at, if_neg (by decide), e1, jsi_at, if_pos ⟨rfl, rfl⟩]
  rw [(m_plain hj v2).iff]
  refine ⟨_, rfl, fun z => absurd z (by decide), fun _ => ?_⟩
  rw [(s_gaps M2 hn w2.2.2.1).iff, (gaps_cg w2).2]
  refine ⟨_, rfl, fun z => nc z, fun _ => ⟨g2, fun _ => ?_, fun z => ?_⟩⟩
  · have r0 : aR q (0, 0, 1) = 0 := by unfold aR; rw [Int64.toInt_zero, Rat.zero_divInt]
    have := m_amiss (K := fun o2 M3 => o2 = some (some (.int (nI (aW (aP q p n A x) (fun t => aQ q p n A t t) n).1))) ∧ iInv M3) hj w2 v2 (by omega) (fun M3 M4 kp g1 e4 => ⟨rfl, ?_⟩) n 0 (by omega) M2 (iKp.rfl' M2) rfl
    · rw [show aW (aP q p n A x) (fun t => aQ q p n A t t) 0 = (0, 0, 1) from rfl, r0] at this
      exact this
    · refine h.drop (fun a i z1 z2 => ?_) (fun a i z => ?_) (Or.inr ⟨?_, ?_, ?_, ?_⟩)
      · rw [e4, jsl_at1, jsl_at1, jsi_at, if_neg (by omega), g1]
        exact f1 a i z1 (by omega)
      · rw [e4, jsl_at, if_neg (by omega), jsl_at, if_neg (by omega), jsi_at2, kp.2 a i (by omega)]
        exact l2 a i (by omega)
      · rw [e4, jsl_at1, jsl_at1, jsi_at, if_pos ⟨rfl, rfl⟩]
      · rw [e4, jsl_at1, jsl_at1, jsi_at, if_neg (by decide), g1]; exact d2.2.2
      · rw [e4, jsl_at, if_neg (by decide), jsl_at, if_neg (by decide), jsi_at2, kp.2 66 0 (by omega), jsl_at, if_neg (by decide), jsl_at, if_pos ⟨rfl, rfl⟩]; exact d2.1
      · rw [e4, jsl_at, if_neg (by decide), jsl_at, if_neg (by decide), jsi_at2, kp.2 66 1 (by omega), jsl_at, if_pos ⟨rfl, rfl⟩]; exact d2.2.1
  · rw [g3, v2.2.2.1.2.2.1, w2.2.2.1] at z
    exact absurd (nI_lt hpn (by omega)) z
