/-! next: the model's side; both -/
theorem m_next_no {M : jM} {y x2 x3 i : Int32} : jEv nX8_next (50, [(0, .ref 67), (1, .int y), (2, .int x2), (3, .int x3), (4, .int 0), (5, .int i)], [], M) (fun o M2 => o = some (some (.long 0)) ∧ M2.1 67 0 = 1 ∧ iKp M M2) :=
  v_X8_next_50 ⟨fun _ => ⟨fun _ => m_thrT, fun z => absurd rfl z⟩, fun z => absurd rfl z⟩
theorem m_next_chk {M : jM} {K : jK} {n j q p m s : Nat} {x A B : Nat → Int32} {x2 x3 : Int32} (hj : j < 6) (h : vW M n x) (v : vR M j q p m s A B) (hp : p ≤ n) (kn : gB x (n - p) p = false → ∀ i : Int32, jEv nX8_next (50, [(0, .ref 67), (1, .int (nI j)), (2, .int x2), (3, .int x3), (4, .int 0), (5, .int i)], [], M) K) (k : gB x (n - p) p = true → jEv nX8_next (126, [(0, .ref 67), (1, .int (nI j)), (2, .int x2), (3, .int x3), (5, .int (nI p)), (6, .int 0)], [], jsi M 67 0 0) K) : ∀ (d i : Nat), i + d = p → gB x (n - i) i = true → jEv nX8_next (50, [(0, .ref 67), (1, .int (nI j)), (2, .int x2), (3, .int x3), (4, .int 1), (5, .int (nI (i + 1)))], [], M) K := by
  obtain ⟨g1, g2, g3⟩ := slot_in hj
  have hn := h.1
  have hp3 := v.1.2.2.1
  intro d
  induction d with
  | zero =>
    intro i hi hg
    have : i = p := by omega
    subst this
    have e : (jsi M 67 0 0).1 71 (nI j).toNatClampNeg = nI i := by
      rw [g3, jsi_at, if_neg (by omega)]; exact v.2.2.1.2.2.1
    refine v_X8_next_50 ⟨fun z => absurd z (by decide), fun _ => ⟨g2, fun z => ⟨fun z => absurd z (by decide), fun _ => m_thr0 ⟨g2, ?_⟩⟩, fun z => absurd ?_ z⟩⟩
    · rw [e]; exact k hg
    · rw [g3, v.2.2.1.2.2.1]; exact nI_lt (by omega) (by omega)
  | succ d ih =>
    intro i hi hg
    have e1 : M.1 67 27 - nI (i + 1) = nI (n - (i + 1)) := by rw [h.2.2.1, nI_sub (by omega)]
    refine v_X8_next_50 ⟨fun z => absurd z (by decide), fun _ => ⟨g2, fun z => absurd z ?_, fun _ => ⟨?_, fun z => ?_, fun z => ?_⟩⟩⟩
    · rw [g3, v.2.2.1.2.2.1]; exact nI_nlt (by omega) (by omega)
    · rw [e1]; exact nI_in (by omega) (by omega)
    · rw [e1, nI_clamp (by omega), (h.2.2.2 (n - (i + 1)) (by omega)).2.1] at z
      refine kn ?_ _
      cases e : gB x (n - p) p with
      | false => rfl
      | true => exact absurd z ((gB_iff x _ _).mp e (n - (i + 1)) (by omega) (by omega))
    · rw [e1, nI_clamp (by omega), (h.2.2.2 (n - (i + 1)) (by omega)).2.1] at z
      rw [nI_1]
      refine ih (i + 1) (by omega) ((gB_iff x _ _).mpr (fun t t1 t2 => ?_))
      rcases Nat.lt_or_ge t (n - i) with y | y
      · have : t = n - (i + 1) := by omega
        rw [this]; exact z
      · exact (gB_iff x _ _).mp hg t y (by omega)
/-- what the model's rows of next numbers hold up to t -/
def mN (q p : Nat) (X A : Nat → Int) (M0 M : jM) (t : Nat) : Prop := iKp M0 M ∧ M.1 = M0.1 ∧ ∀ i, i < t → M.2 91 i = cU (nR q p X A i) ∧ M.2 92 i = cL (nR q p X A i)
theorem mN.put {q p : Nat} {X A : Nat → Int} {M0 M : jM} {t : Nat} (h : mN q p X A M0 M t) {r : Rat} (hr : r = nR q p X A t) : mN q p X A M0 (jsl (jsl M 91 t (cU r)) 92 t (cL r)) (t + 1) := by
  obtain ⟨h1, h2, h3⟩ := h
  refine ⟨(h1.sl (by omega)).sl (by omega), h2, fun i hi => ?_⟩
  rw [jsl_at, jsl_at, jsl_at, jsl_at, if_neg (show ¬ (91 = 92 ∧ i = t) from fun z => absurd z.1 (by decide)), if_neg (show ¬ (92 = 91 ∧ i = t) from fun z => absurd z.1 (by decide))]
  by_cases z : i = t
  · rw [if_pos ⟨rfl, z⟩, if_pos ⟨rfl, z⟩, hr, z]; exact ⟨rfl, rfl⟩
  · rw [if_neg (fun y => z y.2), if_neg (fun y => z y.2)]; exact h3 i (by omega)
theorem mN.fr {q p : Nat} {X A : Nat → Int} {M0 M : jM} {t : Nat} (h : mN q p X A M0 M t) (r : Rat) : mN q p X A M0 (jF M r) t :=
  ⟨jF_kp h.1 r, h.2.1, fun i hi => by rw [jF_o _ _ (by decide), jF_o _ _ (by decide)]; exact h.2.2 i hi⟩
theorem m_next_in {K : jK} {M0 : jM} {j q p m s : Nat} {A B : Nat → Int32} {X : Nat → Int} {x2 x3 : Int32} (hj : j < 6) (v : vR M0 j q p m s A B) (w : gOk q p X (fun k => (A k).toInt)) {t : Nat} (h1 : p ≤ t) (ht : t < p + 5)
    (nx : ∀ M, mN q p X (fun k => (A k).toInt) M0 M (t + 1) → jEv nX8_next (174, [(0, .ref 67), (1, .int (nI j)), (2, .int x2), (3, .int x3), (5, .int (nI p)), (6, .int (nI (t + 1)))], [], M) K) : ∀ (d i : Nat), i + d = p → ∀ M, mN q p X (fun k => (A k).toInt) M0 M t → jEv nX8_next (192, [(0, .ref 67), (1, .int (nI j)), (2, .int x2), (3, .int x3), (5, .int (nI p)), (6, .int (nI t)), (7, .long (cU (nA q p X (fun k => (A k).toInt) t i))), (9, .long (cL (nA q p X (fun k => (A k).toInt) t i))), (11, .int (nI (i + 1)))], [], M) K := by
  obtain ⟨g1, g2, g3⟩ := slot_in hj
  have hp3 := w.2.2.1
  have hq4 := w.2.1
  have hq1 := w.1
  obtain ⟨q1, q2⟩ := q_set hq1 hq4
  have int8 := nI_in (c := t) (N := 8) (by omega) (by omega)
  intro d
  induction d with
  | zero =>
    intro i hi M hM
    have : i = p := by omega
    subst this
    refine v_X8_next_192 ⟨fun _ => ⟨int8, fun M1 e1 => ⟨int8, fun M2 e2 => ?_⟩⟩, fun z => absurd (nI_lt (by omega) (by omega)) z⟩
    rw [nI_clamp (by omega)] at e1 e2
    rw [e2, e1, nI_1]
    exact nx _ (hM.put (nA_p w h1 ht))
  | succ d ih =>
    intro i hi M hM
    have e4 : 4 * nI j + nI (i + 1) = nI (4 * j + (i + 1)) := by rw [show (4 : Int32) = nI 4 from rfl, pk_mul, nI_add]
    have in8 := nI_in (c := t - (i + 1)) (N := 8) (by omega) (by omega)
    have a8 := (v.A8 (i + 1) (by omega) (by omega)).1
    have sX : sm (Rat.divInt (A (i + 1)).toInt q) 8 4 := (sm_div (show (q : Int) ≠ 0 by omega)).mono a8 (by omega)
    refine v_X8_next_192 ⟨fun z => absurd z (nI_nlt (by omega) (by omega)), fun _ => ⟨by rw [e4]; exact nI_in (by omega) (by omega), g2, ?_⟩⟩
    rw [e4, nI_clamp (by omega), g3, hM.2.1, v.2.2.1.2.1, (v.2.2.2.1 (i + 1) (by omega) (by omega)).2.1, (m_setF M (by rw [Int32.toInt_toInt64]; omega) q1 q2).iff, rQ_q (Int32.toInt_toInt64 _) hq4, nI_sub (by omega)]
    refine ⟨rfl, in8, in8, ?_⟩
    have h3 := hM.2.2 (t - (i + 1)) (by omega)
    have sR := nR_sm w (i := t - (i + 1)) (by omega)
    rw [nI_clamp (by omega), jF_o _ _ (by decide), jF_o _ _ (by decide), h3.1, h3.2, (m_times sX sR (by decide) (by decide) (by decide) (by decide) (jF_u _ _) (jF_l _ _)).iff]
    refine ⟨rfl, ?_⟩
    rw [(m_plus (sm_mul sX sR) (nA_sm w (i := t) (j := i) (by omega) (by omega) ht) (by decide) (by decide) (by decide) (by decide) (jF_u _ _) (jF_l _ _)).iff]
    refine ⟨rfl, ?_⟩
    rw [nA_s (A := fun k => (A k).toInt) hq1, jF_u, jF_l, nI_1]
    exact ih (i + 1) (by omega) _ (((hM.fr _).fr _).fr _)
theorem op_next {M : jM} (h : iInv M) (y x x' : Int32) : jBothX nX7_next nX8_next [(0, .ref 0), (1, .int y), (2, .int x), (3, .int x')] [(0, .ref 67), (1, .int y), (2, .int x), (3, .int x')] M := by
  obtain ⟨n, f, w⟩ := h.vW
  have hn := w.1
  rcases plain_cs h y with ⟨c, m⟩ | ⟨j, q, p, s, A, B, hj, rfl, v⟩
  · refine both_t h (v_X7_next_0 ?_) (fun M1 k => v_X8_next_0 ?_)
    · rw [(c M (iI.rfl' M)).iff]
      exact Or.inl ⟨rfl, rfl, iKp.rfl' M⟩
    · rw [(m M1 k).iff]
      exact ⟨_, rfl, fun _ => m_next_no, fun z => absurd rfl z⟩
  obtain ⟨g1, g2, g3⟩ := slot_in hj
  have hp3 := v.1.2.2.1
  by_cases hx : 1 ≤ x ∧ x ≤ 5
  case neg =>
    refine both_t h (v_X7_next_0 ?_) (fun M1 k => v_X8_next_0 ?_)
    · rw [(c_plain hj v).iff]
      refine Or.inr ⟨_, jRu_n hj, rfl, ?_⟩
      rw [e_isWithin, if_neg hx]
      exact ⟨_, rfl, fun _ => ⟨rfl, iKp.rfl' M⟩, fun z => absurd rfl z⟩
    · rw [(m_plain hj (v.kp hj k)).iff]
      exact ⟨_, rfl, fun z => absurd z (by decide), fun _ => ⟨fun _ => m_next_no, fun z1 => ⟨fun _ => m_next_no, fun z2 => absurd ⟨Int32.not_lt.mp z1, Int32.not_lt.mp z2⟩ hx⟩⟩⟩
  by_cases hp : x' = 0 ∨ x' = 1
  case neg =>
    refine both_t h (v_X7_next_0 ?_) (fun M1 k => v_X8_next_0 ?_)
    · rw [(c_plain hj v).iff]
      refine Or.inr ⟨_, jRu_n hj, rfl, ?_⟩
      rw [e_isWithin, if_pos hx]
      refine ⟨_, rfl, fun z => absurd z (by decide), fun _ => ?_⟩
      rw [e_isPart, if_neg hp]
      exact ⟨_, rfl, fun _ => ⟨rfl, iKp.rfl' M⟩, fun z => absurd rfl z⟩
    · rw [(m_plain hj (v.kp hj k)).iff]
      exact ⟨_, rfl, fun z => absurd z (by decide), fun _ => ⟨fun _ => m_next_no, fun z1 => ⟨fun _ => m_next_no, fun z2 => ⟨fun _ => m_next_no, fun z3 => ⟨fun _ => m_next_no, fun z4 => absurd ((part_iff x').mpr ⟨z3, Int32.not_lt.mp z4⟩) hp⟩⟩⟩⟩⟩
  have pp := (part_iff x').mp hp
  -- the class up to the row's end
  have cl : ∀ {K : jK} {b : Bool}, jTo nX4_endsWhole (0, [(0, .ref 41), (1, .int (nI p))], [], M) (some (some (.int (b2i b)))) M → (b = false → K none M) → (b = true → jEv nX4_guessOn (0, [(0, .ref 41), (1, .ref (4 + 4 * j)), (2, .ref 58)], [], M) (fun o13 M14 => o13 = some none ∧ (¬ (((M14.1 (4 + 4 * j) 2) + x) - 1 < 0 ∨ 8 ≤ (((M14.1 (4 + 4 * j) 2) + x) - 1).toNatClampNeg) ∧ (jEv nX7_power (0, [(0, .long ((M14.1 (4 + 4 * j) 1).toInt64)), (2, .int 5)], [], M14) (fun o15 M16 => ∃ r17 : Int64, o15 = some (some (.long r17)) ∧ (jEv nX1_set (0, [(0, .ref 60), (1, .long (M14.2 58 (((M14.1 (4 + 4 * j) 2) + x) - 1).toNatClampNeg)), (3, .long r17)], [], M16) (fun o18 M19 => o18 = some none ∧ (jEv nX1_part (0, [(0, .ref 60), (1, .int x')], [], M19) (fun o20 M21 => ∃ r22 : Int64, o20 = some (some (.long r22)) ∧ K (some (some (.long r22))) M21))))))))) → jEv nX7_next (0, [(0, .ref 0), (1, .int (nI j)), (2, .int x), (3, .int x')], [], M) K := by
    intro K b he kn k
    refine v_X7_next_0 ?_
    rw [(c_plain hj v).iff]
    refine Or.inr ⟨_, jRu_n hj, rfl, ?_⟩
    rw [e_isWithin, if_pos hx]
    refine ⟨_, rfl, fun z => absurd z (by decide), fun _ => ?_⟩
    rw [e_isPart, if_pos hp]
    refine ⟨_, rfl, fun z => absurd z (by decide), fun _ => ?_⟩
    rw [v.2.1.2.2.1, he.iff]
    refine ⟨_, rfl, fun z => ?_, fun z => ?_⟩
    · cases b with
      | false => exact kn rfl
      | true => exact absurd z (by decide)
    · cases b with
      | false => exact absurd rfl z
      | true => exact k rfl
  by_cases hpn : p ≤ n
  case neg =>
    refine both_t h (cl (b := false) (v_X4_endsWhole_0 (v_X4_isGapless_0 ⟨fun _ => ⟨_, rfl, Or.inl rfl, rfl, rfl⟩, fun z => absurd ?_ z⟩)) (fun _ => ⟨rfl, iKp.rfl' M⟩) (fun z => absurd z (by decide))) (fun M1 k => v_X8_next_0 ?_)
    · rw [w.2.1]; exact nI_subneg (by omega) (by omega)
    · have w1 := w.kp k
      have v1 := v.kp hj k
      rw [(m_plain hj v1).iff]
      refine ⟨_, rfl, fun z => absurd z (by decide), fun _ => ⟨fun _ => m_next_no, fun z1 => ⟨fun _ => m_next_no, fun z2 => ⟨fun _ => m_next_no, fun z3 => ⟨fun _ => m_next_no, fun z4 => ⟨g2, fun _ => m_next_no, fun z => absurd ?_ z⟩⟩⟩⟩⟩⟩
      rw [g3, w1.2.2.1, v1.2.2.1.2.2.1]
      exact nI_lt (by omega) (by omega)
  have ew : jTo nX4_endsWhole (0, [(0, .ref 41), (1, .int (nI p))], [], M) (some (some (.int (b2i (gB f (n - p) p))))) M := by
    refine v_X4_endsWhole_0 ?_
    rw [w.2.1, nI_sub hpn]
    refine v_X4_isGapless_0 ⟨fun z => absurd z (nI_pos (by omega)), fun _ => ⟨fun _ => ?_, fun z => absurd (by rw [w.2.1]; exact Int32.le_refl _) z⟩⟩
    rw [(s_gapless_loop w (b := n) (by omega) p (n - p) (by omega)).iff]
    refine ⟨_, rfl, ?_, rfl, rfl⟩
    cases gB f (n - p) p with
    | false => exact Or.inl rfl
    | true => exact Or.inr rfl
  have md : ∀ {M1 : jM} {K : jK}, iI M M1 → (gB f (n - p) p = false → ∀ i : Int32, jEv nX8_next (50, [(0, .ref 67), (1, .int (nI j)), (2, .int x), (3, .int x'), (4, .int 0), (5, .int i)], [], M1) K) → (gB f (n - p) p = true → jEv nX8_next (126, [(0, .ref 67), (1, .int (nI j)), (2, .int x), (3, .int x'), (5, .int (nI p)), (6, .int 0)], [], jsi M1 67 0 0) K) → jEv nX8_next (0, [(0, .ref 67), (1, .int (nI j)), (2, .int x), (3, .int x')], [], M1) K := by
    intro M1 K k kn ky
    have w1 := w.kp k
    have v1 := v.kp hj k
    refine v_X8_next_0 ?_
    rw [(m_plain hj v1).iff]
    refine ⟨_, rfl, fun z => absurd z (by decide), fun _ => ⟨fun z => absurd hx.1 (Int32.not_le.mpr z), fun z1 => ⟨fun z => absurd hx.2 (Int32.not_le.mpr z), fun z2 => ⟨fun z => absurd z pp.1, fun z3 => ⟨fun z => absurd pp.2 (Int32.not_le.mpr z), fun z4 => ⟨g2, fun z => absurd z ?_, fun z => ?_⟩⟩⟩⟩⟩⟩
    · rw [g3, w1.2.2.1, v1.2.2.1.2.2.1]; exact nI_nlt hpn (by omega)
    · exact m_next_chk hj w1 v1 hpn kn ky p 0 (by omega) rfl
  cases hg : gB f (n - p) p with
  | false =>
    rw [hg] at ew md
    exact both_t h (cl ew (fun _ => ⟨rfl, iKp.rfl' M⟩) (fun z => absurd z (by decide))) (fun M1 k => md k (fun _ i => m_next_no) (fun z => absurd z (by decide)))
  | true =>
    rw [hg] at ew md
    have g := g_ok w v hpn hg
    obtain ⟨k, hk1, rfl⟩ : ∃ k : Nat, (1 ≤ k ∧ k ≤ 5) ∧ x = nI k := by
      obtain ⟨k, hk, rfl⟩ := nI_of2 (M := 5) (n := 5) rfl (fun z => absurd (Int32.lt_of_lt_of_le z (show (0 : Int32) ≤ 1 by decide)) (Int32.not_lt.mpr hx.1)) hx.2
      exact ⟨k, ⟨(nI_leI (a := 1) (by omega) (by omega)).mp hx.1, hk⟩, rfl⟩
    have ek : nI p + nI k - 1 = nI (p + k - 1) := by
      rw [nI_add]
      have := nI_pred (p + k - 1)
      rw [show p + k - 1 + 1 = p + k by omega] at this
      exact this
    have sR := nR_sm g (i := p + k - 1) (by omega)
    refine both_l (v := pQ x' (nR q p (nX n p f) (fun k => (A k).toInt) (p + k - 1))) h (cl ew (fun z => absurd z (by decide)) (fun _ => jEv.mono (c_guess hj w v hpn g) (fun o M2 z => ⟨z.1, ?_⟩))) (fun M1 k1 => md k1 (fun z => absurd z (by decide)) (fun _ => ?_))
    · obtain ⟨-, z1, z2, z3⟩ := z
      rw [z1, v.2.1.2.2.1, ek]
      refine ⟨nI_in (by omega) (by omega), ?_⟩
      rw [v.2.1.2.1]
      refine ((s_power M2 _ (n := 5) (by decide)).iff _).mpr ⟨_, rfl, ?_⟩
      rw [nI_clamp (by omega), z3 (p + k - 1) (by omega)]
      obtain ⟨p1, p2⟩ := pw_ok (k := 5) v.1.1 v.1.2.1 (by omega)
      have b := gG_abs g (i := p + k - 1) (by omega)
      have i1 : (Int64.ofInt (gG q p (nX n p f) (fun k => (A k).toInt) (p + k - 1))).toInt = gG q p (nX n p f) (fun k => (A k).toInt) (p + k - 1) := by
        rw [Int64.toInt_ofInt]; exact fb_bmodL (by omega) (by omega)
      have er : rQ (Int64.ofInt (gG q p (nX n p f) (fun k => (A k).toInt) (p + k - 1))) (pwL (nI q).toInt64 5) = nR q p (nX n p f) (fun k => (A k).toInt) (p + k - 1) := by
        unfold rQ nR
        rw [i1, pw_toInt v.1.2.1 (by omega), Int.natCast_pow]
      have kp2 : iKp M M2 := ⟨fun a b _ _ _ _ _ _ => by rw [z1], fun a b ha => z2 a b (by omega)⟩
      exact c_setpart (K := fun o' M2 => o' = some (some (.long (pQ x' (nR q p (nX n p f) (fun k => (A k).toInt) (p + k - 1))))) ∧ iKp M M2) (by rw [i1]; omega) p1 p2 (fun M' kk => ⟨by rw [er], kp2.trans kk⟩)
    · have w2 := w.kp k1.s67 (M' := jsi M1 67 0 0)
      have v2 := v.kp hj k1.s67 (M' := jsi M1 67 0 0)
      have kk0 : iKp M1 (jsi M1 67 0 0) := (iKp.rfl' M1).si (by decide)
      have z67 : (jsi M1 67 0 0).1 67 0 = 0 := by rw [jsi_at, if_pos (by decide)]
      generalize jsi M1 67 0 0 = M2 at *
      have lp2 : ∀ (d t : Nat), p ≤ t → t + d = p + k → ∀ M3, mN q p (nX n p f) (fun k => (A k).toInt) M2 M3 t → jEv nX8_next (174, [(0, .ref 67), (1, .int (nI j)), (2, .int (nI k)), (3, .int x'), (5, .int (nI p)), (6, .int (nI t))], [], M3) (fun o' M4 => o' = some (some (.long (pQ x' (nR q p (nX n p f) (fun k => (A k).toInt) (p + k - 1))))) ∧ M4.1 67 0 = 0 ∧ iKp M1 M4) := by
        intro d
        induction d with
        | zero =>
          intro t h1 ht M3 hM
          have : t = p + k := by omega
          subst this
          have in8 := nI_in (c := p + k - 1) (N := 8) (by omega) (by omega)
          refine v_X8_next_174 ⟨fun _ => ?_, fun z => absurd (by rw [nI_add]; exact Int32.le_refl _) z⟩
          rw [ek]
          refine ⟨in8, in8, ?_⟩
          rw [nI_clamp (by omega), (hM.2.2 (p + k - 1) (by omega)).1, (hM.2.2 (p + k - 1) (by omega)).2]
          have er := rQ_c sR (by decide) (by decide)
          refine m_settold (K := fun o' M4 => o' = some (some (.long (pQ x' (nR q p (nX n p f) (fun k => (A k).toInt) (p + k - 1))))) ∧ M4.1 67 0 = 0 ∧ iKp M1 M4) (cU_ne sR (by decide)) (cL_ne sR (by decide)) (cL_0 sR (by decide)) (fun M' e kk => ⟨by rw [er], ?_, (kk0.trans hM.1).trans kk⟩)
          rw [e, hM.2.1]; exact z67
        | succ d ih =>
          intro t h1 ht M3 hM
          refine v_X8_next_174 ⟨fun z => absurd z (by rw [nI_add]; exact nI_ge (by omega) (by omega)), fun _ => ?_⟩
          have := m_next_in hj v2 g h1 (by omega) (x2 := nI k) (x3 := x') (fun M4 h4 => ih (t + 1) (by omega) (by omega) M4 h4) p 0 (by omega) M3 hM
          rw [nA_0] at this
          exact this
      have lp1 : ∀ (d t : Nat), t + d = p → ∀ M3, mN q p (nX n p f) (fun k => (A k).toInt) M2 M3 t → jEv nX8_next (126, [(0, .ref 67), (1, .int (nI j)), (2, .int (nI k)), (3, .int x'), (5, .int (nI p)), (6, .int (nI t))], [], M3) (fun o' M4 => o' = some (some (.long (pQ x' (nR q p (nX n p f) (fun k => (A k).toInt) (p + k - 1))))) ∧ M4.1 67 0 = 0 ∧ iKp M1 M4) := by
        intro d
        induction d with
        | zero =>
          intro t ht M3 hM
          have : t = p := by omega
          subst this
          exact v_X8_next_126 ⟨fun _ => lp2 k t (by omega) (by omega) M3 hM, fun z => absurd (Int32.le_refl _) z⟩
        | succ d ih =>
          intro t ht M3 hM
          have e1 : M3.1 67 27 - nI p + nI t = nI (n - p + t) := by rw [hM.2.1, w2.2.2.1, nI_sub hpn, nI_add]
          have in8 := nI_in (c := t) (N := 8) (by omega) (by omega)
          refine v_X8_next_126 ⟨fun z => absurd z (nI_ge (by omega) (by omega)), fun _ => ⟨?_, in8, fun M4 e4 => ⟨in8, fun M5 e5 => ?_⟩⟩⟩
          · rw [e1]; exact nI_in (by omega) (by omega)
          · rw [e1, nI_clamp (by omega), nI_clamp (by omega), hM.2.1, (w2.2.2.2 (n - p + t) (by omega)).2.1, w64] at e4
            rw [nI_clamp (by omega)] at e5
            have hr := nR_lo (X := nX n p f) (A := fun k => (A k).toInt) v.1.1 (i := t) (p := p) (by omega)
            have := hM.put (r := Rat.divInt (nX n p f t) 1) hr.symm
            rw [cU_1, cL_1] at this
            rw [nI_1, e5, e4]
            exact ih (t + 1) (by omega) _ this
      exact lp1 p 0 (by omega) M2 ⟨iKp.rfl' M2, rfl, fun i hi => absurd hi (by omega)⟩
