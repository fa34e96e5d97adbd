/-! share, left: both sides -/
theorem m_thrK {M0 M1 : jM} {A : jM → Prop} (kp : iKp M0 M1) : jEv nX8_throwsIf (0, [(0, .ref 67), (1, .int 1)], [], M1) (fun o4 M5 => ∃ r6 : Int32, o4 = some (some (.int r6)) ∧ ((r6 = 0 → A M5) ∧ (¬ r6 = 0 → some (some (Value.long 0)) = some (some (.long 0)) ∧ M5.1 67 0 = 1 ∧ iKp M0 M5))) := m_thr1 ⟨rfl, by rw [jsi_at, if_pos (by decide)], kp.si (by decide)⟩
theorem m_shareOf {M0 : jM} {j n k c : Nat} {r : Nat → Int32} (hj : j < 6) (v : vL M0 j n r) (hk : k < n) (hc : c < k) (hp : 0 < tD r k) : jEv nX8_shareOf (0, [(0, .ref 67), (1, .int (nI j)), (2, .int (nI k)), (3, .int (nI (c + 1)))], [], M0) (fun o M' => o = some none ∧ ∃ M5, bFr M0 M5 ∧ M' = jF M5 (rQ (dM (tzj (tR r) c) k) (tD r k))) := by
  have hn := v.2.1
  have lp : ∀ (d i : Nat), i + d = k → ∀ M, M.1 = M0.1 → (∀ a q, a ≠ 88 → M.2 a q = M0.2 a q) → (∀ i' x, i' < k → x < k → M.2 88 (5 * i' + x) = if x = c ∧ i' < i then tR r (i' + 1) else tz (tR r) i' x) → jEv nX8_shareOf (9, [(0, .ref 67), (1, .int (nI j)), (2, .int (nI k)), (3, .int (nI (c + 1))), (4, .int (nI i))], [], M) (fun o M' => o = some none ∧ ∃ M5, bFr M0 M5 ∧ M' = jF M5 (rQ (dM (tzj (tR r) c) k) (tD r k))) := by
    intro d
    induction d with
    | zero =>
      intro i hi M f1 f2 f3
      have : i = k := by omega
      subst this
      refine v_X8_shareOf_9 ⟨fun _ => ?_, fun z => absurd (Int32.le_refl _) z⟩
      refine jEv.mono (m_det (M0 := M) (n := i) (by omega)) (fun o M2 z => ⟨_, z.1, ?_⟩)
      have b2 : bFr M0 M2 := bFr.trans ⟨fun a q _ => by rw [f1], f2⟩ z.2.b
      refine jEv.mono (m_block hj (v.b hj b2) (k := i) (by omega)) (fun o M5 y => ⟨_, y.1, ?_⟩)
      have e : dM (fun i j => M.2 88 (5 * i + j)) i = dM (tzj (tR r) c) i := by
        refine dM_congr (fun a b ha hb => ?_)
        rw [f3 a b ha hb]
        unfold tzj tz
        by_cases q : b = c
        · rw [if_pos ⟨q, ha⟩, if_pos q]
        · rw [if_neg (fun y => q y.1), if_neg q]
      rw [e, (m_setF M5 (tJ_b v hk c) (tD_b v (by omega)) (pos_ne hp)).iff]
      exact ⟨rfl, rfl, M5, b2.trans y.2, rfl⟩
    | succ d ih =>
      intro i hi M f1 f2 f3
      have e1 : 5 * nI i + nI (c + 1) - 1 = nI (5 * i + c) := by
        rw [nI5]
        exact nI_pred (5 * i + c)
      refine v_X8_shareOf_9 ⟨fun z => absurd z (nI_ge (by omega) (by omega)), fun _ => ?_⟩
      rw [e1, nI5, nI_1]
      refine ⟨nI_in (by omega) (by omega), nI_in (by omega) (by omega), fun M9 e9 => ?_⟩
      rw [nI_clamp (by omega), nI_clamp (by omega), f1, Nat.add_assoc, (v.2.2.2.2.1 (i + 1) (by omega)).2.1] at e9
      rw [nI_1]
      refine ih (i + 1) (by omega) M9 (by rw [e9]; exact f1) (fun a q ha => by rw [e9, jsl_at, if_neg (fun z => ha z.1)]; exact f2 a q ha) (fun i' x hi' hx => ?_)
      rw [e9, jsl_at]
      by_cases z : 5 * i' + x = 5 * i + c
      · have z1 : i' = i := by omega
        have z2 : x = c := by omega
        rw [if_pos ⟨rfl, z⟩, if_pos ⟨z2, by omega⟩, z1]; rfl
      · rw [if_neg (fun y => z y.2), f3 i' x hi' hx]
        by_cases y : x = c ∧ i' < i
        · rw [if_pos y, if_pos ⟨y.1, by omega⟩]
        · rw [if_neg y, if_neg (by omega)]
  refine v_X8_shareOf_0 (jEv.mono (m_toep hj v (k := k) (by omega)) (fun o M2 z => ⟨z.1, ?_⟩))
  obtain ⟨-, z1, z2, z3⟩ := z
  refine lp k 0 (by omega) M2 z1 z2 (fun i' x hi' hx => ?_)
  rw [if_neg (by omega)]
  exact z3 i' x hi' hx
theorem m_toldK {M0 M1 M5 : jM} {r : Rat} {x : Int32} (e : M1 = jF M5 r) (kp : iKp M0 M5) (h0 : M5.1 67 0 = 0) : jEv nX8_told (0, [(0, .ref 67), (1, .int x)], [], M1) (fun o9 M10 => ∃ r11 : Int64, o9 = some (some (.long r11)) ∧ (some (some (Value.long r11)) = some (some (.long (pQ x r))) ∧ M10.1 67 0 = 0 ∧ iKp M0 M10)) := by
  rw [(m_part M1 x).iff]
  refine ⟨_, rfl, ?_, ?_, ?_⟩
  · rw [e, jF_u, jF_l]; rfl
  · rw [e]; exact h0
  · rw [e]; exact jF_kp kp r
theorem op_share {M : jM} (h : iInv M) (y x z x' : Int32) : jBothX nX7_share nX8_share [(0, .ref 0), (1, .int y), (2, .int x), (3, .int z), (4, .int x')] [(0, .ref 67), (1, .int y), (2, .int x), (3, .int z), (4, .int x')] M := by
  rcases lik_cs h y with ⟨c, m⟩ | ⟨j, n, r, hj, rfl, v⟩
  · refine both_t h (v_X7_share_0 ?_) (fun M1 k => v_X8_share_0 ?_)
    · rw [(c M (iI.rfl' M)).iff]
      exact Or.inl ⟨rfl, rfl, iKp.rfl' M⟩
    · rw [(m M1 k).iff]
      exact ⟨_, rfl, fun _ => m_thrT, fun z => absurd rfl z⟩
  have hn := v.2.1
  have hn1 := v.1
  have hl := stS_le (tD r) (n - 1) 0
  by_cases hg : ((¬ z < 1 ∧ ¬ x < z) ∧ ¬ nI (stS (tD r) (n - 1) 0) < x) ∧ (x' = 0 ∨ x' = 1)
  case neg =>
    refine both_t h (v_X7_share_0 ?_) (fun M1 k => v_X8_share_0 ?_)
    · rw [(c_lik hj v).iff]
      refine Or.inr ⟨_, ⟨j, hj, rfl⟩, rfl, fun _ => ⟨rfl, iKp.rfl' M⟩, fun z1 => ⟨fun _ => ⟨rfl, iKp.rfl' M⟩, fun z2 => jEv.mono (c_stepsThere hj v) (fun o M5 w => ⟨_, w.1, fun _ => ⟨rfl, w.2.kp⟩, fun z3 => ?_⟩)⟩⟩
      rw [e_isPart, if_neg (fun q => hg ⟨⟨⟨z1, z2⟩, z3⟩, q⟩)]
      exact ⟨_, rfl, fun _ => ⟨rfl, w.2.kp⟩, fun q => absurd rfl q⟩
    · have v1 := v.kp hj k
      rw [(m_lik hj v1).iff]
      refine ⟨_, rfl, fun q => absurd q (by decide), fun _ => ⟨fun _ => m_thrT, fun _ => jEv.mono (m_stepsOf hj v1) (fun o M2 w => ⟨_, w.1, fun _ => m_thrK w.2.kp, fun z3 => ⟨fun _ => m_thrK w.2.kp, fun z1 => ⟨fun _ => m_thrK w.2.kp, fun z2 => ⟨fun _ => m_thrK w.2.kp, fun z4 => ⟨fun z5 => ?_, fun _ => m_thrK w.2.kp⟩⟩⟩⟩⟩)⟩⟩
      exact absurd ⟨⟨⟨z1, z2⟩, z3⟩, (part_iff x').mpr ⟨z4, z5⟩⟩ hg
  obtain ⟨⟨⟨h1, h2⟩, h3⟩, hp⟩ := hg
  have pp := (part_iff x').mp hp
  have n0 : ∀ {a : Int32}, ¬ a < 1 → ¬ a < 0 := fun ha q => ha (Int32.lt_of_lt_of_le q (by decide))
  obtain ⟨c', hc31, rfl⟩ := nI_of (n0 h1)
  have x0 : ¬ x < 0 := fun q => h2 (Int32.lt_of_lt_of_le q (nI_pos' hc31))
  obtain ⟨k, hk31, rfl⟩ := nI_of x0
  have c1 : 1 ≤ c' := Nat.not_lt.mp (fun q => h1 ((nI_ltI (b := 1) hc31 (by omega)).mpr q))
  have ck : c' ≤ k := Nat.not_lt.mp (fun q => h2 (nI_lt q hc31))
  have kN : k ≤ stS (tD r) (n - 1) 0 := Nat.not_lt.mp (fun q => h3 (nI_lt q hk31))
  have hpos : 0 < tD r k := stS_pos (tD r) (n - 1) 0 (tD_0 r) k (by omega) kN
  obtain ⟨c, rfl⟩ : ∃ c, c' = c + 1 := ⟨c' - 1, by omega⟩
  refine both_l (v := pQ x' (rQ (dM (tzj (tR r) c) k) (tD r k))) h (v_X7_share_0 ?_) (fun M1 k1 => v_X8_share_0 ?_)
  · rw [(c_lik hj v).iff]
    refine Or.inr ⟨_, ⟨j, hj, rfl⟩, rfl, fun q => absurd q h1, fun _ => ⟨fun q => absurd q h2, fun _ => jEv.mono (c_stepsThere hj v) (fun o M5 w => ⟨_, w.1, fun q => absurd q h3, fun _ => ?_⟩)⟩⟩
    rw [e_isPart, if_pos hp]
    refine ⟨_, rfl, fun q => absurd q (by decide), fun _ => jEv.mono (c_solveStep hj (v.s hj w.2.1) (k := k) (by omega)) (fun o M6 u => ⟨u.1, ?_⟩)⟩
    obtain ⟨-, u1, u2⟩ := u
    obtain ⟨s1, s2⟩ := sol_pos (by omega) u2 hpos
    rw [nI_pred]
    refine ⟨nI_in (by omega) (by omega), ?_⟩
    rw [nI_clamp (by omega), s1, s2 c (by omega)]
    exact c_setpart (K := fun o' M2 => o' = some (some (.long (pQ x' (rQ (dM (tzj (tR r) c) k) (tD r k))))) ∧ iKp M M2) (tJ_b v (by omega) c) (tD_b v (by omega)) (pos_ne hpos) (fun M' kk => ⟨rfl, (w.2.kp.trans u1.kp).trans kk⟩)
  · have v1 := v.kp hj k1
    rw [(m_lik hj v1).iff]
    refine ⟨_, rfl, fun q => absurd q (by decide), fun _ => ⟨fun q => absurd ((nI_ltI (b := 1) (by omega) (by omega)).mp q) (by omega), fun _ => jEv.mono (m_stepsOf hj v1) (fun o M2 w => ⟨_, w.1, fun q => absurd q h3, fun z3 => ⟨fun q => absurd q h1, fun z1 => ⟨fun q => absurd q h2, fun z2 => ⟨fun q => absurd q pp.1, fun z4 => ⟨fun z5 => m_thr0 ?_, fun q => absurd pp.2 q⟩⟩⟩⟩⟩)⟩⟩
    have k2 : iKp M1 (jsi M2 67 0 0) := w.2.kp.si (by decide)
    have v2 : vL (jsi M2 67 0 0) j n r := v.kp hj (k1.trans k2.i)
    refine jEv.mono (m_shareOf hj v2 (k := k) (c := c) (by omega) (by omega) hpos) (fun o M3 u => ⟨u.1, ?_⟩)
    obtain ⟨-, M5, u1, u2⟩ := u
    refine m_toldK u2 (k2.trans u1.kp) ?_
    rw [u1.1 67 0 (by decide), jsi_at, if_pos (by decide)]
theorem op_left {M : jM} (h : iInv M) (y x x' : Int32) : jBothX nX7_left nX8_left [(0, .ref 0), (1, .int y), (2, .int x), (3, .int x')] [(0, .ref 67), (1, .int y), (2, .int x), (3, .int x')] M := by
  rcases lik_cs h y with ⟨c, m⟩ | ⟨j, n, r, hj, rfl, v⟩
  · refine both_t h (v_X7_left_0 ?_) (fun M1 k => v_X8_left_0 ?_)
    · rw [(c M (iI.rfl' M)).iff]
      exact Or.inl ⟨rfl, rfl, iKp.rfl' M⟩
    · rw [(m M1 k).iff]
      exact ⟨_, rfl, fun _ => m_thrT, fun z => absurd rfl z⟩
  have hn := v.2.1
  have hn1 := v.1
  have hl := stS_le (tD r) (n - 1) 0
  by_cases hg : (¬ x < 0 ∧ ¬ nI (stS (tD r) (n - 1) 0) < x) ∧ (x' = 0 ∨ x' = 1)
  case neg =>
    refine both_t h (v_X7_left_0 ?_) (fun M1 k => v_X8_left_0 ?_)
    · rw [(c_lik hj v).iff]
      refine Or.inr ⟨_, ⟨j, hj, rfl⟩, rfl, fun _ => ⟨rfl, iKp.rfl' M⟩, fun z1 => jEv.mono (c_stepsThere hj v) (fun o M5 w => ⟨_, w.1, fun _ => ⟨rfl, w.2.kp⟩, fun z3 => ?_⟩)⟩
      rw [e_isPart, if_neg (fun q => hg ⟨⟨z1, z3⟩, q⟩)]
      exact ⟨_, rfl, fun _ => ⟨rfl, w.2.kp⟩, fun q => absurd rfl q⟩
    · have v1 := v.kp hj k
      rw [(m_lik hj v1).iff]
      refine ⟨_, rfl, fun q => absurd q (by decide), fun _ => ⟨fun _ => m_thrT, fun z1 => jEv.mono (m_stepsOf hj v1) (fun o M2 w => ⟨_, w.1, fun _ => m_thrK w.2.kp, fun z3 => ⟨fun _ => m_thrK w.2.kp, fun z4 => ⟨fun z5 => ?_, fun _ => m_thrK w.2.kp⟩⟩⟩)⟩⟩
      exact absurd ⟨⟨z1, z3⟩, (part_iff x').mpr ⟨z4, z5⟩⟩ hg
  obtain ⟨⟨h1, h3⟩, hp⟩ := hg
  have pp := (part_iff x').mp hp
  obtain ⟨k, hk31, rfl⟩ := nI_of h1
  have kN : k ≤ stS (tD r) (n - 1) 0 := Nat.not_lt.mp (fun q => h3 (nI_lt q hk31))
  have hpos : 0 < tD r k := stS_pos (tD r) (n - 1) 0 (tD_0 r) k (by omega) kN
  refine both_l (v := pQ x' (rQ (tD r (k + 1)) (tD r k))) h (v_X7_left_0 ?_) (fun M1 k1 => v_X8_left_0 ?_)
  · rw [(c_lik hj v).iff]
    refine Or.inr ⟨_, ⟨j, hj, rfl⟩, rfl, fun q => absurd q h1, fun _ => jEv.mono (c_stepsThere hj v) (fun o M5 w => ⟨_, w.1, fun q => absurd q h3, fun _ => ?_⟩)⟩
    rw [e_isPart, if_pos hp]
    refine ⟨_, rfl, fun q => absurd q (by decide), fun _ => ?_⟩
    refine c_stepRest (K := fun r14 M13 => (jEv nX1_set (0, [(0, .ref 60), (1, .long r14), (3, .long (M13.2 44 4))], [], M13) (fun o15 M16 => o15 = some none ∧ (jEv nX1_part (0, [(0, .ref 60), (1, .int x')], [], M16) (fun o17 M18 => ∃ r19 : Int64, o17 = some (some (.long r19)) ∧ (some (some (Value.long r19)) = some (some (.long (pQ x' (rQ (tD r (k + 1)) (tD r k))))) ∧ iKp M M18)))))) hj (v.s hj w.2.1) (k := k) (by omega) hpos (fun M6 f6 s1 s2 => ?_)
    rw [s1]
    exact c_setpart (K := fun o' M2 => o' = some (some (.long (pQ x' (rQ (tD r (k + 1)) (tD r k))))) ∧ iKp M M2) (tD_b v (by omega)) (tD_b v (by omega)) (pos_ne hpos) (fun M' kk => ⟨rfl, (w.2.kp.trans f6.kp).trans kk⟩)
  · have v1 := v.kp hj k1
    rw [(m_lik hj v1).iff]
    refine ⟨_, rfl, fun q => absurd q (by decide), fun _ => ⟨fun q => absurd q h1, fun _ => jEv.mono (m_stepsOf hj v1) (fun o M2 w => ⟨_, w.1, fun q => absurd q h3, fun z3 => ⟨fun q => absurd q pp.1, fun z4 => ⟨fun z5 => m_thr0 ?_, fun q => absurd pp.2 q⟩⟩⟩)⟩⟩
    have k2 : iKp M1 (jsi M2 67 0 0) := w.2.kp.si (by decide)
    have v2 : vL (jsi M2 67 0 0) j n r := v.kp hj (k1.trans k2.i)
    refine v_X8_leftOf_0 ?_
    rw [nI_1]
    refine jEv.mono (m_block hj v2 (k := k + 1) (by omega)) (fun o M3 u => ⟨_, u.1, jEv.mono (m_block hj (v2.b hj u.2) (k := k) (by omega)) (fun o M4 t => ⟨_, t.1, ?_⟩)⟩)
    rw [(m_setF M4 (tD_b v (by omega)) (tD_b v (by omega)) (pos_ne hpos)).iff]
    refine ⟨rfl, rfl, m_toldK rfl ((k2.trans u.2.kp).trans t.2.kp) ?_⟩
    rw [t.2.1 67 0 (by decide), u.2.1 67 0 (by decide), jsi_at, if_pos (by decide)]
