/-! the model's rows of weights; weight, both sides -/
theorem nIq {q : Nat} (hq : q ≤ 4) : (nI q).toInt64.toInt = q := by rw [Int32.toInt_toInt64, nI_toInt (by omega)]
theorem q_set {q : Nat} (h1 : 1 ≤ q) (hq : q ≤ 4) : (nI q).toInt64.toInt ≠ -9223372036854775808 ∧ ¬ (nI q).toInt64 = 0 := by
  have := nIq hq
  refine ⟨by omega, fun z => ?_⟩
  rw [z, Int64.toInt_zero] at this
  omega
theorem jF_e (M : jM) {r r' : Rat} (h : r = r') : jF M r = jF M r' := by rw [h]
theorem rQ_q {X : Int64} {q : Nat} {x : Int} (hX : X.toInt = x) (hq : q ≤ 4) : rQ X (nI q).toInt64 = Rat.divInt x q := by
  unfold rQ
  rw [hX, nIq hq]
theorem m_weights_in {K : jK} {M0 : jM} {j q p m s : Nat} {A B : Nat → Int32} (hj : j < 6) (v : vR M0 j q p m s A B) (o : Int32) {k : Nat} (k8 : k < 9) {M : jM} (ht : ∀ i, i < k → M.2 77 i = cU (wR q (wl o A B) (we o A B) i) ∧ M.2 78 i = cL (wR q (wl o A B) (we o A B) i))
    (nx : ∀ M1, iKp M0 M1 → M1.1 = M0.1 → (∀ a i, a ≠ 67 → M1.2 a i = M.2 a i) → jEv nX8_weights (10, [(0, .ref 67), (1, .int (nI j)), (2, .int o), (3, .int (nI q)), (4, .int (nI (k + 1)))], [], jsl (jsl M1 77 k (cU (wR q (wl o A B) (we o A B) k))) 78 k (cL (wR q (wl o A B) (we o A B) k))) K) :
    ∀ (d i : Nat), i + d = min 3 k → ∀ M1, iKp M0 M1 → M1.1 = M0.1 → (∀ a i, a ≠ 67 → M1.2 a i = M.2 a i) → jEv nX8_weights (90, [(0, .ref 67), (1, .int (nI j)), (2, .int o), (3, .int (nI q)), (4, .int (nI k)), (5, .long (cU (wA q (wl o A B) (we o A B) k i))), (7, .long (cL (wA q (wl o A B) (we o A B) k i))), (9, .int (nI (i + 1)))], [], M1) K := by
  have w := w_ok v o
  have ink := nI_in (c := k) (N := 9) (by omega) (by omega)
  obtain ⟨q1, q2⟩ := q_set w.1 w.2.1
  intro d
  induction d with
  | zero =>
    intro i hi M1 kp f1 f2
    have fin : ∀ M3 : jM, M3 = jsl M1 77 (nI k).toNatClampNeg (cU (wA q (wl o A B) (we o A B) k i)) → ¬ (nI k < 0 ∨ 9 ≤ (nI k).toNatClampNeg) ∧ (∀ M4 : jM, M4 = jsl M3 78 (nI k).toNatClampNeg (cL (wA q (wl o A B) (we o A B) k i)) → jEv nX8_weights (10, [(0, .ref 67), (1, .int (nI j)), (2, .int o), (3, .int (nI q)), (4, .int (nI k + 1))], [], M4) K) := by
      intro M3 e3
      refine ⟨ink, fun M4 e4 => ?_⟩
      rw [e4, e3, nI_clamp (by omega), nI_1, show i = min 3 k by omega, ← wR_A w.2.2.1]
      exact nx M1 kp f1 f2
    refine v_X8_weights_90 ⟨fun _ => ⟨ink, fin⟩, fun z => ⟨fun _ => ⟨ink, fin⟩, fun z2 => ?_⟩⟩
    have a1 : ¬ 4 ≤ i + 1 := fun y => z ((nI_leI (a := 4) (b := i + 1) (by omega) (by omega)).mpr y)
    have a2 : ¬ k < i + 1 := fun y => z2 ((nI_ltI (by omega) (by omega)).mpr y)
    omega
  | succ d ih =>
    intro i hi M1 kp f1 f2
    have e4 : 4 * nI j + nI (i + 1) = nI (4 * j + (i + 1)) := by rw [show (4 : Int32) = nI 4 from rfl, pk_mul, nI_add]
    have in24 := nI_in (c := 4 * j + (i + 1)) (N := 24) (by omega) (by omega)
    have in9 := nI_in (c := k - (i + 1)) (N := 9) (by omega) (by omega)
    have step : ∀ X : Int64, X.toInt = we o A B (i + 1) → jEv nX8_set (0, [(0, .ref 67), (1, .long X), (3, .long (nI q).toInt64)], [], M1) (fun o5 M6 => o5 = some none ∧ (¬ (nI k - nI (i + 1) < 0 ∨ 9 ≤ (nI k - nI (i + 1)).toNatClampNeg) ∧ (¬ (nI k - nI (i + 1) < 0 ∨ 9 ≤ (nI k - nI (i + 1)).toNatClampNeg) ∧ (jEv nX8_times (0, [(0, .ref 67), (1, .long (M6.2 77 (nI k - nI (i + 1)).toNatClampNeg)), (3, .long (M6.2 78 (nI k - nI (i + 1)).toNatClampNeg))], [], M6) (fun o7 M8 => o7 = some none ∧ (jEv nX8_plus (0, [(0, .ref 67), (1, .long (cU (wA q (wl o A B) (we o A B) k i))), (3, .long (cL (wA q (wl o A B) (we o A B) k i)))], [], M8) (fun o9 M10 => o9 = some none ∧ jEv nX8_weights (90, [(0, .ref 67), (1, .int (nI j)), (2, .int o), (3, .int (nI q)), (4, .int (nI k)), (5, .long (M10.2 67 3)), (7, .long (M10.2 67 4)), (9, .int (nI (i + 1) + 1))], [], M10) K))))))) := by
      intro X hX
      have hx8 := w.2.2.2.2 (i + 1) (by omega) (by omega)
      have sX : sm (Rat.divInt (we o A B (i + 1)) q) 8 4 := (sm_div (show (q : Int) ≠ 0 by have := w.1; omega)).mono hx8 (by have := w.2.1; omega)
      rw [(m_setF M1 (by rw [hX]; omega) q1 q2).iff, rQ_q hX w.2.1, nI_sub (by omega)]
      refine ⟨rfl, in9, in9, ?_⟩
      rw [nI_clamp (by omega), jF_o _ _ (by decide), jF_o _ _ (by decide), f2 77 _ (by decide), f2 78 _ (by decide), (ht (k - (i + 1)) (by omega)).1, (ht (k - (i + 1)) (by omega)).2]
      rw [(m_times sX (wR_sm w (k := k - (i + 1)) (by omega)) (by decide) (by decide) (by decide) (by decide) (jF_u _ _) (jF_l _ _)).iff]
      refine ⟨rfl, ?_⟩
      rw [(m_plus (sm_mul sX (wR_sm w (k := k - (i + 1)) (by omega))) (wA_sm w k8 (i := i) (by omega) (by omega)) (by decide) (by decide) (by decide) (by decide) (jF_u _ _) (jF_l _ _)).iff]
      refine ⟨rfl, ?_⟩
      rw [wA_s w.1 (by omega), jF_u, jF_l, nI_1]
      refine ih (i + 1) (by omega) _ (jF_kp (jF_kp (jF_kp kp _) _) _) f1 (fun a b ha => ?_)
      rw [jF_o _ _ ha, jF_o _ _ ha, jF_o _ _ ha]
      exact f2 a b ha
    refine v_X8_weights_90 ⟨fun z => absurd ((nI_leI (a := 4) (b := i + 1) (by omega) (by omega)).mp z) (by omega), fun _ => ⟨fun z => absurd ((nI_ltI (by omega) (by omega)).mp z) (by omega), fun _ => ⟨fun h => ⟨?_, ?_⟩, fun h => ⟨?_, ?_⟩⟩⟩⟩
    · rw [e4]; exact in24
    · refine step _ ?_
      rw [e4, nI_clamp (by omega), f1, (v.2.2.2.1 (i + 1) (by omega) (by omega)).2.1, Int32.toInt_toInt64]
      unfold we
      rw [if_pos h]
    · rw [e4]; exact in24
    · refine step _ ?_
      have b8 := v.2.2.2.2 (i + 1) (by omega) (by omega)
      rw [e4, nI_clamp (by omega), f1, b8.2.1, Int32.toInt_toInt64, neg8 b8.2.2.1 b8.2.2.2.1]
      unfold we
      rw [if_neg h]
theorem wA_0 {q : Nat} {l e : Nat → Int} (hq : 1 ≤ q) {k : Nat} (hk : 1 ≤ k) : wA q l e k 0 = Rat.divInt (l k) q := by
  show Rat.divInt (l k * (q : Int) ^ (k - 1) + 0) ((q : Int) ^ k) = _
  have : (q : Int) ^ k = (q : Int) * (q : Int) ^ (k - 1) := by
    rw [Int.mul_comm, ← Int.pow_succ, Nat.succ_eq_add_one, show k - 1 + 1 = k by omega]
  rw [this, Int.add_zero, Rat.divInt_mul_right (q_ne hq _)]
theorem wA_00 {q : Nat} {l e : Nat → Int} (hq : 1 ≤ q) (h0 : l 0 = 1) : wA q l e 0 0 = Rat.divInt q q := by
  show Rat.divInt (l 0 * (q : Int) ^ 0 + 0) ((q : Int) ^ 0) = _
  rw [h0, Rat.divInt_self' (show (q : Int) ≠ 0 by omega), Int.pow_zero, Int.mul_one, Int.add_zero]
  rfl
theorem m_weights {M0 : jM} {j q p m s : Nat} {A B : Nat → Int32} (hj : j < 6) (v : vR M0 j q p m s A B) (o : Int32) : jEv nX8_weights (0, [(0, .ref 67), (1, .int (nI j)), (2, .int o)], [], M0) (fun x M' => x = some none ∧ iKp M0 M' ∧ M'.1 = M0.1 ∧ (∀ a i, a ≠ 67 → a ≠ 77 → a ≠ 78 → M'.2 a i = M0.2 a i) ∧ ∀ i, i < 9 → M'.2 77 i = cU (wR q (wl o A B) (we o A B) i) ∧ M'.2 78 i = cL (wR q (wl o A B) (we o A B) i)) := by
  obtain ⟨g1, g2, g3⟩ := slot_in hj
  have w := w_ok v o
  obtain ⟨q1, q2⟩ := q_set w.1 w.2.1
  have loop : ∀ (d k : Nat), k + d = 9 → ∀ M, iKp M0 M → M.1 = M0.1 → (∀ a i, a ≠ 67 → a ≠ 77 → a ≠ 78 → M.2 a i = M0.2 a i) → (∀ i, i < k → M.2 77 i = cU (wR q (wl o A B) (we o A B) i) ∧ M.2 78 i = cL (wR q (wl o A B) (we o A B) i)) → jEv nX8_weights (10, [(0, .ref 67), (1, .int (nI j)), (2, .int o), (3, .int (nI q)), (4, .int (nI k))], [], M) (fun x M' => x = some none ∧ iKp M0 M' ∧ M'.1 = M0.1 ∧ (∀ a i, a ≠ 67 → a ≠ 77 → a ≠ 78 → M'.2 a i = M0.2 a i) ∧ ∀ i, i < 9 → M'.2 77 i = cU (wR q (wl o A B) (we o A B) i) ∧ M'.2 78 i = cL (wR q (wl o A B) (we o A B) i)) := by
    intro d
    induction d with
    | zero =>
      intro k hk M kp f1 f2 f3
      have : k = 9 := by omega
      subst this
      exact v_X8_weights_10 ⟨fun _ => ⟨rfl, kp, f1, f2, f3⟩, fun z => absurd (by decide) z⟩
    | succ d ih =>
      intro k hk M kp f1 f2 f3
      have e4 : 4 * nI j + nI k = nI (4 * j + k) := by rw [show (4 : Int32) = nI 4 from rfl, pk_mul, nI_add]
      have inner := m_weights_in hj v o (k := k) (by omega) (M := M) f3 (fun M1 kp1 h1 h2 => ih (k + 1) (by omega) _ ((kp1.sl (by omega)).sl (by omega)) h1 (fun a i z1 z2 z3 => by rw [jsl_at, if_neg (fun z => z3 z.1), jsl_at, if_neg (fun z => z2 z.1), h2 a i z1]; exact f2 a i z1 z2 z3) (fun i hi => by
        rw [jsl_at, jsl_at, jsl_at, if_neg (show ¬ (77 = 78 ∧ i = k) from fun z => absurd z.1 (by decide)), jsl_at, if_neg (show ¬ (78 = 77 ∧ i = k) from fun z => absurd z.1 (by decide))]
        by_cases z : i = k
        · rw [if_pos ⟨rfl, z⟩, if_pos ⟨rfl, z⟩, z]; exact ⟨rfl, rfl⟩
        · rw [if_neg (fun y => z y.2), if_neg (fun y => z y.2), h2 77 i (by decide), h2 78 i (by decide)]; exact f3 i (by omega))) (min 3 k) 0 (by omega)
      have step : ∀ X : Int64, X.toInt.natAbs ≤ 8 → Rat.divInt X.toInt q = wA q (wl o A B) (we o A B) k 0 → jEv nX8_set (0, [(0, .ref 67), (1, .long X), (3, .long (nI q).toInt64)], [], M) (fun o7 M8 => o7 = some none ∧ jEv nX8_weights (90, [(0, .ref 67), (1, .int (nI j)), (2, .int o), (3, .int (nI q)), (4, .int (nI k)), (5, .long (M8.2 67 3)), (7, .long (M8.2 67 4)), (9, .int 1)], [], M8) (fun x M' => x = some none ∧ iKp M0 M' ∧ M'.1 = M0.1 ∧ (∀ a i, a ≠ 67 → a ≠ 77 → a ≠ 78 → M'.2 a i = M0.2 a i) ∧ ∀ i, i < 9 → M'.2 77 i = cU (wR q (wl o A B) (we o A B) i) ∧ M'.2 78 i = cL (wR q (wl o A B) (we o A B) i))) := by
        intro X hX he
        rw [(m_setF M (by omega) q1 q2).iff, rQ_q rfl w.2.1, he]
        refine ⟨rfl, ?_⟩
        rw [jF_u, jF_l]
        exact inner _ (jF_kp kp _) f1 (fun a i ha => jF_o _ _ ha)
      refine v_X8_weights_10 ⟨fun z => absurd ((nI_leI (a := 9) (b := k) (by omega) (by omega)).mp z) (by omega), fun _ => ⟨fun z => ?_, fun z => ⟨fun z3 => ⟨fun h => ⟨?_, ?_⟩, fun h => ⟨?_, ?_⟩⟩, fun z3 => ?_⟩⟩⟩
      · have k0 : k = 0 := by
          rcases Nat.eq_zero_or_pos k with y | y
          · exact y
          · exact absurd z (nI_ne0 y (by omega))
        subst k0
        refine step _ (by have := nIq w.2.1; have := w.2.1; omega) ?_
        rw [nIq w.2.1, wA_00 w.1 w.2.2.1]
      · rw [e4]; exact nI_in (by have := (nI_leI (b := 3) (by omega) (by omega)).mp z3; omega) (by omega)
      · have k3 := (nI_leI (a := k) (b := 3) (by omega) (by omega)).mp z3
        have k1 : 1 ≤ k := Nat.pos_of_ne_zero (fun y => z (by rw [y]; rfl))
        have b8 := v.2.2.2.2 k k1 (by omega)
        have ev : (M.1 75 (4 * nI j + nI k).toNatClampNeg).toInt64.toInt = wl o A B k := by
          rw [e4, nI_clamp (by omega), f1, b8.2.1, Int32.toInt_toInt64]
          unfold wl
          rw [if_neg (by omega), if_pos k3, if_pos h]
        refine step _ (by rw [ev]; exact (w.2.2.2.1 k).1) ?_
        rw [ev, wA_0 w.1 k1]
      · rw [e4]; exact nI_in (by have := (nI_leI (b := 3) (by omega) (by omega)).mp z3; omega) (by omega)
      · have k3 := (nI_leI (a := k) (b := 3) (by omega) (by omega)).mp z3
        have k1 : 1 ≤ k := Nat.pos_of_ne_zero (fun y => z (by rw [y]; rfl))
        have b8 := v.2.2.2.1 k k1 (by omega)
        have ev : (-(M.1 74 (4 * nI j + nI k).toNatClampNeg)).toInt64.toInt = wl o A B k := by
          rw [e4, nI_clamp (by omega), f1, b8.2.1, Int32.toInt_toInt64, neg8 b8.2.2.1 b8.2.2.2.1]
          unfold wl
          rw [if_neg (by omega), if_pos k3, if_neg h]
        refine step _ (by rw [ev]; exact (w.2.2.2.1 k).1) ?_
        rw [ev, wA_0 w.1 k1]
      · have k3 : 3 < k := Nat.not_le.mp (fun y => z3 ((nI_leI (a := k) (b := 3) (by omega) (by omega)).mpr y))
        refine step 0 (by decide) ?_
        rw [wA_0 w.1 (by omega), (w.2.2.2.1 k).2 k3]
        rfl
  refine v_X8_weights_0 ⟨g2, ?_⟩
  rw [g3, v.2.2.1.2.1]
  exact loop 9 0 (by omega) M0 (iKp.rfl' M0) rfl (fun _ _ _ _ _ => rfl) (fun i hi => absurd hi (by omega))
/-- the model marks a throw -/
theorem m_thrT {M1 : jM} {A : jM → Prop} : jEv nX8_throwsIf (0, [(0, .ref 67), (1, .int 1)], [], M1) (fun o4 M5 => ∃ r6 : Int32, o4 = some (some (.int r6)) ∧ ((r6 = 0 → A M5) ∧ (¬ r6 = 0 → some (some (Value.long 0)) = some (some (.long 0)) ∧ M5.1 67 0 = 1 ∧ iKp M1 M5))) := m_thr1 ⟨rfl, by rw [jsi_at, if_pos (by decide)], (iKp.rfl' M1).si (by decide)⟩
theorem rng08 {x : Int32} (h : 0 ≤ x ∧ x ≤ 8) : ∃ k : Nat, k < 9 ∧ x = nI k := by
  obtain ⟨k, hk, rfl⟩ := nI_of2 (M := 8) (n := 8) rfl (Int32.not_lt.mpr h.1) h.2
  exact ⟨k, by omega, rfl⟩
theorem wI_ne {q : Nat} {l e : Nat → Int} (w : wOk q l e) {k : Nat} (hk : k < 9) : (Int64.ofInt (wI q l e k)).toInt = wI q l e k ∧ (Int64.ofInt (wI q l e k)).toInt ≠ -9223372036854775808 := by
  have h1 := wI_abs w k k (Nat.le_refl k) hk
  have h2 := bW_le k hk
  have : (Int64.ofInt (wI q l e k)).toInt = wI q l e k := by
    rw [Int64.toInt_ofInt]; exact fb_bmodL (by omega) (by omega)
  exact ⟨this, by omega⟩
theorem op_weight {M : jM} (h : iInv M) (y x o x' : Int32) : jBothX nX7_weight nX8_weight [(0, .ref 0), (1, .int y), (2, .int x), (3, .int o), (4, .int x')] [(0, .ref 67), (1, .int y), (2, .int x), (3, .int o), (4, .int x')] M := by
  rcases rule_cs h y with ⟨c, m⟩ | ⟨j, q, p, m, s, A, B, hj, rfl, v⟩
  · refine both_t h (v_X7_weight_0 ?_) (fun M1 k => v_X8_weight_0 ?_)
    · rw [(c M (iI.rfl' M)).iff]
      exact Or.inl ⟨rfl, rfl, iKp.rfl' M⟩
    · rw [(m M1 k).iff]
      exact ⟨_, rfl, fun _ => m_thrT, fun z => absurd rfl z⟩
  · by_cases hx : 0 ≤ x ∧ x ≤ 8
    · by_cases hp : x' = 0 ∨ x' = 1
      · obtain ⟨k, hk, rfl⟩ := rng08 hx
        have ink := nI_in (c := k) (N := 9) (by omega) (by omega)
        have w := w_ok v o
        refine both_l (v := pQ x' (wR q (wl o A B) (we o A B) k)) h (v_X7_weight_0 ?_) (fun M1 k1 => v_X8_weight_0 ?_)
        · rw [(c_told hj v).iff]
          refine Or.inr ⟨_, jRu_n hj, rfl, ?_⟩
          rw [e_isWithin, if_pos hx]
          refine ⟨_, rfl, fun z => absurd z (by decide), fun _ => ?_⟩
          rw [e_isPart, if_pos hp]
          refine ⟨_, rfl, fun z => absurd z (by decide), fun _ => jEv.mono (c_weigh hj v o) (fun r M2 z => ⟨z.1, ink, ?_⟩)⟩
          obtain ⟨-, z1, z2, z3⟩ := z
          rw [z1, v.2.1.2.1, (s_power M2 _ (n := k) (by omega)).iff]
          refine ⟨_, rfl, ?_⟩
          rw [nI_clamp (by omega), z3 k hk]
          obtain ⟨p1, p2⟩ := pw_ok (k := k) w.1 w.2.1 (by omega)
          obtain ⟨i1, i2⟩ := wI_ne w hk
          have er : rQ (Int64.ofInt (wI q (wl o A B) (we o A B) k)) (pwL (nI q).toInt64 k) = wR q (wl o A B) (we o A B) k := by
            unfold rQ wR
            rw [i1, pw_toInt w.2.1 (by omega), Int.natCast_pow]
          have kp2 : iKp M M2 := by
            refine ⟨fun a b _ _ _ _ _ _ => by rw [z1], fun a b ha => z2 a b (by omega)⟩
          exact c_setpart (K := fun o' M2 => o' = some (some (.long (pQ x' (wR q (wl o A B) (we o A B) k)))) ∧ iKp M M2) i2 p1 p2 (fun M' kk => ⟨by rw [er], kp2.trans kk⟩)
        · rw [(m_told hj (v.kp hj k1)).iff]
          refine ⟨_, rfl, fun z => absurd z (by decide), fun _ => ⟨fun z => absurd z (nI_pos (by omega)), fun _ => ⟨fun z => absurd hx.2 (Int32.not_le.mpr z), fun _ => ⟨fun z => absurd z ((part_iff x').mp hp).1, fun _ => ⟨fun _ => m_thr0 ?_, fun z => absurd ((part_iff x').mp hp).2 z⟩⟩⟩⟩⟩
          have v2 := v.kp hj k1.s67 (M' := jsi M1 67 0 0)
          refine jEv.mono (m_weights hj v2 o) (fun r M2 z => ⟨z.1, ink, ink, ?_⟩)
          obtain ⟨-, z1, z2, z3, z4⟩ := z
          rw [nI_clamp (by omega), (z4 k hk).1, (z4 k hk).2]
          have sw := wR_sm w hk
          have er : rQ (cU (wR q (wl o A B) (we o A B) k)) (cL (wR q (wl o A B) (we o A B) k)) = wR q (wl o A B) (we o A B) k := rQ_c sw (by decide) (by decide)
          refine m_settold (K := fun o' M2 => o' = some (some (.long (pQ x' (wR q (wl o A B) (we o A B) k)))) ∧ M2.1 67 0 = 0 ∧ iKp M1 M2) (cU_ne sw (by decide)) (cL_ne sw (by decide)) (cL_0 sw (by decide)) (fun M' e kk => ⟨by rw [er], ?_, (((iKp.rfl' M1).si (by decide)).trans z1).trans kk⟩)
          rw [e, z2, jsi_at, if_pos (by decide)]
      · refine both_t h (v_X7_weight_0 ?_) (fun M1 k => v_X8_weight_0 ?_)
        · rw [(c_told hj v).iff]
          refine Or.inr ⟨_, jRu_n hj, rfl, ?_⟩
          rw [e_isWithin, if_pos hx]
          refine ⟨_, rfl, fun z => absurd z (by decide), fun _ => ?_⟩
          rw [e_isPart, if_neg hp]
          exact ⟨_, rfl, fun _ => ⟨rfl, iKp.rfl' M⟩, fun z => absurd rfl z⟩
        · rw [(m_told hj (v.kp hj k)).iff]
          refine ⟨_, rfl, fun z => absurd z (by decide), fun _ => ⟨fun _ => m_thrT, fun _ => ⟨fun _ => m_thrT, fun _ => ⟨fun _ => m_thrT, fun z1 => ⟨fun z2 => absurd ((part_iff x').mpr ⟨z1, z2⟩) hp, fun _ => m_thrT⟩⟩⟩⟩⟩
    · refine both_t h (v_X7_weight_0 ?_) (fun M1 k => v_X8_weight_0 ?_)
      · rw [(c_told hj v).iff]
        refine Or.inr ⟨_, jRu_n hj, rfl, ?_⟩
        rw [e_isWithin, if_neg hx]
        exact ⟨_, rfl, fun _ => ⟨rfl, iKp.rfl' M⟩, fun z => absurd rfl z⟩
      · rw [(m_told hj (v.kp hj k)).iff]
        refine ⟨_, rfl, fun z => absurd z (by decide), fun _ => ⟨fun _ => m_thrT, fun z1 => ⟨fun _ => m_thrT, fun z2 => absurd ⟨Int32.not_lt.mp z1, Int32.not_lt.mp z2⟩ hx⟩⟩⟩
