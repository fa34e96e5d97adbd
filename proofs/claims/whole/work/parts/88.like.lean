/-! like, same: both sides -/
theorem kFr.kp {a : Nat} (ha : jSu a) {M0 M : jM} (h : kFr a M0 M) : iKp M0 M := by
  have := jSu_c ha
  exact ⟨fun b k _ _ _ _ _ _ => by rw [h.1], fun b k z => h.2 b k (by omega) (by omega) (by omega) (by omega)⟩
theorem l_set {q p : Nat} {A mm : Nat → Int} (h : lOk q p A mm) {k : Nat} (hk : k < 9) : (Int64.ofInt (tt q p A mm k)).toInt ≠ -9223372036854775808 ∧ (Int64.ofInt (lB q p A)).toInt ≠ -9223372036854775808 ∧ ¬ Int64.ofInt (lB q p A) = 0 ∧ rQ (Int64.ofInt (tt q p A mm k)) (Int64.ofInt (lB q p A)) = lR q p A mm k := by
  have b1 := tt_abs h hk
  have b2 := h.B.2
  obtain ⟨n0, e2⟩ := ofI_ne h.B.1 b2 (by decide)
  have e1 : (Int64.ofInt (tt q p A mm k)).toInt = tt q p A mm k := by rw [Int64.toInt_ofInt]; exact fb_bmodL (by omega) (by omega)
  refine ⟨by omega, by omega, n0, ?_⟩
  unfold rQ lR
  rw [e1, e2]
theorem b2i_t {b : Bool} (h : b = true) : ¬ b2i b = 0 := by rw [h]; decide
theorem b2i_f {b : Bool} (h : b = false) : b2i b = 0 := by rw [h]; rfl
theorem op_like {M : jM} (h : iInv M) (y x x' : Int32) : jBothX nX7_like nX8_like [(0, .ref 0), (1, .int y), (2, .int x), (3, .int x')] [(0, .ref 67), (1, .int y), (2, .int x), (3, .int x')] M := by
  rcases rule_cs h y with ⟨c, m⟩ | ⟨j, q, p, m, s, A, B, hj, rfl, v⟩
  · refine both_t h (v_X7_like_0 ?_) (fun M1 k => v_X8_like_0 ?_)
    · rw [(c M (iI.rfl' M)).iff]
      exact Or.inl ⟨rfl, rfl, iKp.rfl' M⟩
    · rw [(m M1 k).iff]
      exact ⟨_, rfl, fun _ => m_thrT, fun z => absurd rfl z⟩
  by_cases hg : (stB q A = true ∧ (0 ≤ x ∧ x ≤ 8)) ∧ (x' = 0 ∨ x' = 1)
  case neg =>
    refine both_t h (v_X7_like_0 ?_) (fun M1 k => v_X8_like_0 ?_)
    · rw [(c_told hj v).iff]
      refine Or.inr ⟨_, jRu_n hj, rfl, jEv.mono (c_steady hj v) (fun o M5 z => ⟨_, z.1, fun _ => ⟨rfl, z.2⟩, fun w => ?_⟩)⟩
      have st : stB q A = true := by
        cases e : stB q A with
        | true => rfl
        | false => exact absurd (b2i_f e) w
      rw [e_isWithin]
      by_cases hx : 0 ≤ x ∧ x ≤ 8
      · rw [if_pos hx]
        refine ⟨_, rfl, fun w => absurd w (by decide), fun _ => ?_⟩
        rw [e_isPart, if_neg (fun w => hg ⟨⟨st, hx⟩, w⟩)]
        exact ⟨_, rfl, fun _ => ⟨rfl, z.2⟩, fun w => absurd rfl w⟩
      · rw [if_neg hx]
        exact ⟨_, rfl, fun _ => ⟨rfl, z.2⟩, fun w => absurd rfl w⟩
    · have v1 := v.kp hj k
      rw [(m_told hj v1).iff]
      refine ⟨_, rfl, fun w => absurd w (by decide), fun _ => jEv.mono (m_steady hj v1) (fun o M2 z => ⟨_, z.1, fun _ => m_thrK z.2.1, fun w => ⟨fun _ => m_thrK z.2.1, fun w1 => ⟨fun _ => m_thrK z.2.1, fun w2 => ⟨fun _ => m_thrK z.2.1, fun w3 => ⟨fun w4 => ?_, fun _ => m_thrK z.2.1⟩⟩⟩⟩⟩)⟩
      have st : stB q A = true := by
        cases e : stB q A with
        | true => rfl
        | false => exact absurd (b2i_f e) w
      exact absurd ⟨⟨st, Int32.not_lt.mp w1, Int32.not_lt.mp w2⟩, (part_iff x').mpr ⟨w3, w4⟩⟩ hg
  obtain ⟨⟨st, hx⟩, hp⟩ := hg
  have pp := (part_iff x').mp hp
  obtain ⟨k, hk, rfl⟩ := rng08 hx
  have i9 := nI_in (c := k) (N := 9) (by omega) (by omega)
  have ok := l_ok v st
  obtain ⟨s1, s2, s3, s4⟩ := l_set ok hk
  refine both_l (v := pQ x' (lR q p (AZ A) (lm q s A B) k)) h (v_X7_like_0 ?_) (fun M1 k1 => v_X8_like_0 ?_)
  · rw [(c_told hj v).iff]
    refine Or.inr ⟨_, jRu_n hj, rfl, jEv.mono (c_steady hj v) (fun o M5 z => ⟨_, z.1, fun w => absurd w (b2i_t st), fun _ => ?_⟩)⟩
    rw [e_isWithin, if_pos hx]
    refine ⟨_, rfl, fun w => absurd w (by decide), fun _ => ?_⟩
    rw [e_isPart, if_pos hp]
    refine ⟨_, rfl, fun w => absurd w (by decide), fun _ => jEv.mono (c_find (a := 53) (Or.inl rfl) hj (v.kp hj z.2.i) st) (fun o M6 u => ⟨u.1, i9, ?_⟩)⟩
    obtain ⟨-, u1, u2, u3⟩ := u
    rw [nI_clamp (by omega), u2, u3 k hk]
    exact c_setpart (K := fun o' M2 => o' = some (some (.long (pQ x' (lR q p (AZ A) (lm q s A B) k)))) ∧ iKp M M2) s1 s2 s3 (fun M' kk => ⟨by rw [s4], (z.2.trans (u1.kp (Or.inl rfl))).trans kk⟩)
  · have v1 := v.kp hj k1
    rw [(m_told hj v1).iff]
    refine ⟨_, rfl, fun w => absurd w (by decide), fun _ => jEv.mono (m_steady hj v1) (fun o M2 z => ⟨_, z.1, fun w => absurd w (b2i_t st), fun w => ⟨fun w1 => absurd w1 (nI_pos (by omega)), fun w1 => ⟨fun w2 => absurd hx.2 (Int32.not_le.mpr w2), fun w2 => ⟨fun w3 => absurd w3 pp.1, fun w3 => ⟨fun w4 => m_thr0 ?_, fun w4 => absurd pp.2 w4⟩⟩⟩⟩⟩)⟩
    have k2 : iKp M1 (jsi M2 67 0 0) := z.2.1.si (by decide)
    have v2 : vR (jsi M2 67 0 0) j q p m s A B := v.kp hj (k1.trans k2.i)
    refine jEv.mono (m_likes hj v2 st) (fun o M3 u => ⟨u.1, ?_⟩)
    obtain ⟨-, u1, u2⟩ := u
    have z0 : M3.1 67 0 = 0 := by rw [u1.1, jsi_at, if_pos (by decide)]
    rw [nI_clamp (by omega), (u2 k hk).1, (u2 k hk).2]
    have i9' : ¬ (nI k < 0 ∨ 9 ≤ k) := by rw [nI_clamp (by omega)] at i9; exact i9
    refine ⟨fun e => ⟨i9', ?_, z0, k2.trans u1.kp⟩, fun e => ⟨i9', ?_, z0, k2.trans u1.kp⟩⟩
    · unfold pQ; rw [if_pos e]
    · unfold pQ; rw [if_neg e]
/-- alike from k on, d places -/
def smB (f g : Nat → Rat) : Nat → Nat → Bool
  | 0, _ => true
  | d + 1, k => (decide (cU (f k) = cU (g k)) && decide (cL (f k) = cL (g k))) && smB f g d (k + 1)
theorem c_same75 {M0 : jM} {q p q' p' : Nat} {A mm A' mm' : Nat → Int} (h : lOk q p A mm) (h' : lOk q' p' A' mm') : ∀ (d k : Nat), k + d = 9 → ∀ M, iKp M0 M → (∀ i, i < 9 → M.2 54 i = Int64.ofInt (tt q p A mm i) ∧ M.2 56 i = Int64.ofInt (tt q' p' A' mm' i)) → M.2 53 1 = Int64.ofInt (lB q p A) → M.2 55 1 = Int64.ofInt (lB q' p' A') → jEv nX7_same (75, [(0, .ref 0), (5, .int (nI k))], [], M) (fun o M' => o = some (some (.int (b2i (smB (lR q p A mm) (lR q' p' A' mm') d k)))) ∧ iKp M0 M') := by
  intro d
  induction d with
  | zero =>
    intro k hk M kp t b b'
    have : k = 9 := by omega
    subst this
    exact v_X7_same_75 ⟨fun _ => ⟨rfl, kp⟩, fun z => absurd (by decide) z⟩
  | succ d ih =>
    intro k hk M kp t b b'
    have i9 := nI_in (c := k) (N := 9) (by omega) (by omega)
    obtain ⟨s1, s2, s3, s4⟩ := l_set h (k := k) (by omega)
    obtain ⟨r1, r2, r3, r4⟩ := l_set h' (k := k) (by omega)
    refine v_X7_same_75 ⟨fun z => absurd ((nI_ltI (a := 8) (b := k) (by omega) (by omega)).mp z) (by omega), fun _ => ⟨i9, ?_⟩⟩
    rw [nI_clamp (by omega), (t k (by omega)).1, b, (c_set M (r := 60) (Or.inl rfl) s1 s2 s3).iff, s4]
    have i9' : ¬ (nI k < 0 ∨ 9 ≤ k) := by rw [nI_clamp (by omega)] at i9; exact i9
    refine ⟨rfl, i9', ?_⟩
    have e56 : (jsl (jsl M 60 0 (cU (lR q p A mm k))) 60 1 (cL (lR q p A mm k))).2 56 k = Int64.ofInt (tt q' p' A' mm' k) := by
      rw [jsl_at, if_neg (by omega), jsl_at, if_neg (by omega)]; exact (t k (by omega)).2
    have e55 : (jsl (jsl M 60 0 (cU (lR q p A mm k))) 60 1 (cL (lR q p A mm k))).2 55 1 = Int64.ofInt (lB q' p' A') := by
      rw [jsl_at, if_neg (by omega), jsl_at, if_neg (by omega)]; exact b'
    rw [e56, e55, (c_set _ (r := 61) (Or.inr (Or.inl rfl)) r1 r2 r3).iff, r4]
    refine ⟨rfl, ?_⟩
    have kp2 : iKp M0 (jsl (jsl (jsl (jsl M 60 0 (cU (lR q p A mm k))) 60 1 (cL (lR q p A mm k))) 61 0 (cU (lR q' p' A' mm' k))) 61 1 (cL (lR q' p' A' mm' k))) := (((kp.sl (by decide)).sl (by decide)).sl (by decide)).sl (by decide)
    have a60 : (jsl (jsl (jsl (jsl M 60 0 (cU (lR q p A mm k))) 60 1 (cL (lR q p A mm k))) 61 0 (cU (lR q' p' A' mm' k))) 61 1 (cL (lR q' p' A' mm' k))).2 60 0 = cU (lR q p A mm k) ∧ (jsl (jsl (jsl (jsl M 60 0 (cU (lR q p A mm k))) 60 1 (cL (lR q p A mm k))) 61 0 (cU (lR q' p' A' mm' k))) 61 1 (cL (lR q' p' A' mm' k))).2 60 1 = cL (lR q p A mm k) ∧ (jsl (jsl (jsl (jsl M 60 0 (cU (lR q p A mm k))) 60 1 (cL (lR q p A mm k))) 61 0 (cU (lR q' p' A' mm' k))) 61 1 (cL (lR q' p' A' mm' k))).2 61 0 = cU (lR q' p' A' mm' k) ∧ (jsl (jsl (jsl (jsl M 60 0 (cU (lR q p A mm k))) 60 1 (cL (lR q p A mm k))) 61 0 (cU (lR q' p' A' mm' k))) 61 1 (cL (lR q' p' A' mm' k))).2 61 1 = cL (lR q' p' A' mm' k) := ⟨rfl, rfl, rfl, rfl⟩
    have oth : ∀ a i, a ≠ 60 → a ≠ 61 → (jsl (jsl (jsl (jsl M 60 0 (cU (lR q p A mm k))) 60 1 (cL (lR q p A mm k))) 61 0 (cU (lR q' p' A' mm' k))) 61 1 (cL (lR q' p' A' mm' k))).2 a i = M.2 a i := fun a i h1 h2 => by
      rw [jsl_at, if_neg (fun w => h2 w.1), jsl_at, if_neg (fun w => h2 w.1), jsl_at, if_neg (fun w => h1 w.1), jsl_at, if_neg (fun w => h1 w.1)]
    generalize jsl (jsl (jsl (jsl M 60 0 (cU (lR q p A mm k))) 60 1 (cL (lR q p A mm k))) 61 0 (cU (lR q' p' A' mm' k))) 61 1 (cL (lR q' p' A' mm' k)) = M4 at *
    obtain ⟨a1, a2, a3, a4⟩ := a60
    have go := ih (k + 1) (by omega) M4 kp2 (fun i hi => by rw [oth 54 i (by decide) (by decide), oth 56 i (by decide) (by decide)]; exact t i hi) (by rw [oth 53 1 (by decide) (by decide)]; exact b) (by rw [oth 55 1 (by decide) (by decide)]; exact b')
    refine v_X1_isLike_0 (Or.inl rfl) (Or.inr (Or.inl rfl)) ?_
    rw [a1, a2, a3, a4]
    unfold smB
    refine ⟨fun w1 => ⟨fun w2 => ⟨_, rfl, fun z => absurd z (by decide), fun _ => ?_⟩, fun w2 => ⟨_, rfl, fun _ => ⟨?_, kp2⟩, fun z => absurd rfl z⟩⟩, fun w1 => ⟨_, rfl, fun _ => ⟨?_, kp2⟩, fun z => absurd rfl z⟩⟩
    · rw [decide_eq_true w1, decide_eq_true w2, Bool.true_and, Bool.true_and, nI_1]
      exact go
    · rw [decide_eq_false w2, Bool.and_false, Bool.false_and]; rfl
    · rw [decide_eq_false w1, Bool.false_and, Bool.false_and]; rfl
theorem m_same89 {M0 M : jM} {f g : Nat → Rat} (kp : iKp M0 M) (h1 : ∀ i, i < 9 → M.2 83 i = cU (f i) ∧ M.2 84 i = cL (f i)) (h2 : ∀ i, i < 9 → M.2 79 i = cU (g i) ∧ M.2 80 i = cL (g i)) : ∀ (d k : Nat), k + d = 9 → jEv nX8_same (89, [(0, .ref 67), (3, .int (nI k))], [], M) (fun o M' => o = some (some (.int (b2i (smB f g d k)))) ∧ iKp M0 M') := by
  intro d
  induction d with
  | zero =>
    intro k hk
    have : k = 9 := by omega
    subst this
    exact v_X8_same_89 ⟨fun _ => ⟨rfl, kp⟩, fun z => absurd (by decide) z⟩
  | succ d ih =>
    intro k hk
    have i9 := nI_in (c := k) (N := 9) (by omega) (by omega)
    have go := ih (k + 1) (by omega)
    refine v_X8_same_89 ⟨fun z => absurd z (nI_ge (b := 9) (by omega) (by omega)), fun _ => ⟨i9, i9, ?_⟩⟩
    have i9' : ¬ (nI k < 0 ∨ 9 ≤ k) := by rw [nI_clamp (by omega)] at i9; exact i9
    rw [nI_clamp (by omega), (h1 k (by omega)).1, (h1 k (by omega)).2, (h2 k (by omega)).1, (h2 k (by omega)).2]
    unfold smB
    refine ⟨fun w1 => ⟨i9', i9', fun w2 => ?_, fun w2 => ⟨?_, kp⟩⟩, fun w1 => ⟨?_, kp⟩⟩
    · rw [decide_eq_true w1, decide_eq_true w2, Bool.true_and, Bool.true_and, nI_1]
      exact go
    · rw [decide_eq_false w2, Bool.and_false, Bool.false_and]; rfl
    · rw [decide_eq_false w1, Bool.false_and, Bool.false_and]; rfl
theorem op_same {M : jM} (h : iInv M) (y y' : Int32) : jBoth nX7_same nX8_same [(0, .ref 0), (1, .int y), (2, .int y')] [(0, .ref 67), (1, .int y), (2, .int y')] M := by
  rcases rule_cs h y with ⟨c, m⟩ | ⟨j, q, p, m, s, A, B, hj, rfl, v⟩
  · refine both_i (r := -1) h (v_X7_same_0 ?_) (fun M1 k => v_X8_same_0 (fun M2 e2 => ?_))
    · rw [(c M (iI.rfl' M)).iff]
      refine Or.inl ⟨rfl, ?_⟩
      rcases rule_cs h y' with ⟨c', m'⟩ | ⟨j', q', p', m', s', A', B', hj', rfl, v'⟩
      · rw [(c' M (iI.rfl' M)).iff]
        exact Or.inl ⟨rfl, rfl, iKp.rfl' M⟩
      · rw [(c_told hj' v').iff]
        exact Or.inr ⟨_, jRu_n hj', rfl, rfl, iKp.rfl' M⟩
    · have k2 := kp67 e2
      rw [(m M2 (k.trans k2.i)).iff]
      exact ⟨_, rfl, fun _ => ⟨rfl, k2⟩, fun z => absurd rfl z⟩
  rcases rule_cs h y' with ⟨c', m'⟩ | ⟨j', q', p', m', s', A', B', hj', rfl, v'⟩
  · refine both_i (r := -1) h (v_X7_same_0 ?_) (fun M1 k => v_X8_same_0 (fun M2 e2 => ?_))
    · rw [(c_told hj v).iff]
      refine Or.inr ⟨_, jRu_n hj, rfl, ?_⟩
      rw [(c' M (iI.rfl' M)).iff]
      exact Or.inl ⟨rfl, rfl, iKp.rfl' M⟩
    · have k2 := kp67 e2
      rw [(m_told hj (v.kp hj (k.trans k2.i))).iff]
      refine ⟨_, rfl, fun z => absurd z (by decide), fun _ => ?_⟩
      rw [(m' M2 (k.trans k2.i)).iff]
      exact ⟨_, rfl, fun _ => ⟨rfl, k2⟩, fun z => absurd rfl z⟩
  by_cases hs : stB q A = true
  case neg =>
    have hs' : stB q A = false := by
      cases e : stB q A with
      | true => exact absurd e hs
      | false => rfl
    refine both_i (r := -1) h (v_X7_same_0 ?_) (fun M1 k => v_X8_same_0 (fun M2 e2 => ?_))
    · rw [(c_told hj v).iff]
      refine Or.inr ⟨_, jRu_n hj, rfl, ?_⟩
      rw [(c_told hj' v').iff]
      exact Or.inr ⟨_, jRu_n hj', rfl, jEv.mono (c_steady hj v) (fun o M3 z => ⟨_, z.1, fun _ => ⟨rfl, z.2⟩, fun w => absurd (b2i_f hs') w⟩)⟩
    · have k2 := kp67 e2
      have v2 := v.kp hj (k.trans k2.i)
      have v2' := v'.kp hj' (k.trans k2.i)
      rw [(m_told hj v2).iff]
      refine ⟨_, rfl, fun z => absurd z (by decide), fun _ => ?_⟩
      rw [(m_told hj' v2').iff]
      exact ⟨_, rfl, fun z => absurd z (by decide), fun _ => jEv.mono (m_steady hj v2) (fun o M3 z => ⟨_, z.1, fun _ => ⟨rfl, k2.trans z.2.1⟩, fun w => absurd (b2i_f hs') w⟩)⟩
  by_cases ht : stB q' A' = true
  case neg =>
    have ht' : stB q' A' = false := by
      cases e : stB q' A' with
      | true => exact absurd e ht
      | false => rfl
    refine both_i (r := -1) h (v_X7_same_0 ?_) (fun M1 k => v_X8_same_0 (fun M2 e2 => ?_))
    · rw [(c_told hj v).iff]
      refine Or.inr ⟨_, jRu_n hj, rfl, ?_⟩
      rw [(c_told hj' v').iff]
      exact Or.inr ⟨_, jRu_n hj', rfl, jEv.mono (c_steady hj v) (fun o M3 z => ⟨_, z.1, fun w => absurd w (b2i_t hs), fun _ => jEv.mono (c_steady hj' (v'.kp hj' z.2.i)) (fun o M4 u => ⟨_, u.1, fun _ => ⟨rfl, z.2.trans u.2⟩, fun w => absurd (b2i_f ht') w⟩)⟩)⟩
    · have k2 := kp67 e2
      have v2 := v.kp hj (k.trans k2.i)
      have v2' := v'.kp hj' (k.trans k2.i)
      rw [(m_told hj v2).iff]
      refine ⟨_, rfl, fun z => absurd z (by decide), fun _ => ?_⟩
      rw [(m_told hj' v2').iff]
      exact ⟨_, rfl, fun z => absurd z (by decide), fun _ => jEv.mono (m_steady hj v2) (fun o M3 z => ⟨_, z.1, fun w => absurd w (b2i_t hs), fun _ => jEv.mono (m_steady hj' (v2'.kp hj' z.2.1.i)) (fun o M4 u => ⟨_, u.1, fun _ => ⟨rfl, (k2.trans z.2.1).trans u.2.1⟩, fun w => absurd (b2i_f ht') w⟩)⟩)⟩
  have ok := l_ok v hs
  have ok' := l_ok v' ht
  refine both_i (r := b2i (smB (lR q p (AZ A) (lm q s A B)) (lR q' p' (AZ A') (lm q' s' A' B')) 9 0)) h (v_X7_same_0 ?_) (fun M1 k => v_X8_same_0 (fun M2 e2 => ?_))
  · rw [(c_told hj v).iff]
    refine Or.inr ⟨_, jRu_n hj, rfl, ?_⟩
    rw [(c_told hj' v').iff]
    refine Or.inr ⟨_, jRu_n hj', rfl, jEv.mono (c_steady hj v) (fun o M3 z => ⟨_, z.1, fun w => absurd w (b2i_t hs), fun _ => jEv.mono (c_steady hj' (v'.kp hj' z.2.i)) (fun o M4 u => ⟨_, u.1, fun w => absurd w (b2i_t ht), fun _ => ?_⟩)⟩)⟩
    have k4 := z.2.trans u.2
    refine jEv.mono (c_find (a := 53) (Or.inl rfl) hj (v.kp hj k4.i) hs) (fun o M5 w => ⟨w.1, ?_⟩)
    obtain ⟨-, w1, w2, w3⟩ := w
    have k5 := k4.trans (w1.kp (Or.inl rfl))
    refine jEv.mono (c_find (a := 55) (Or.inr rfl) hj' (v'.kp hj' k5.i) ht) (fun o M6 r => ⟨r.1, ?_⟩)
    obtain ⟨-, r1, r2, r3⟩ := r
    exact c_same75 ok ok' 9 0 (by omega) M6 (k5.trans (r1.kp (Or.inr rfl))) (fun i hi => ⟨by rw [r1.2 54 i (by decide) (by decide) (by decide) (by decide)]; exact w3 i hi, r3 i hi⟩) (by rw [r1.2 53 1 (by decide) (by decide) (by decide) (by decide)]; exact w2) r2
  · have k2 := kp67 e2
    have v2 := v.kp hj (k.trans k2.i)
    have v2' := v'.kp hj' (k.trans k2.i)
    rw [(m_told hj v2).iff]
    refine ⟨_, rfl, fun z => absurd z (by decide), fun _ => ?_⟩
    rw [(m_told hj' v2').iff]
    refine ⟨_, rfl, fun z => absurd z (by decide), fun _ => jEv.mono (m_steady hj v2) (fun o M3 z => ⟨_, z.1, fun w => absurd w (b2i_t hs), fun _ => jEv.mono (m_steady hj' (v2'.kp hj' z.2.1.i)) (fun o M4 u => ⟨_, u.1, fun w => absurd w (b2i_t ht), fun _ => ?_⟩)⟩)⟩
    have k4 := (k2.trans z.2.1).trans u.2.1
    refine jEv.mono (m_likes hj (v.kp hj (k.trans k4.i)) hs) (fun o M5 w => ⟨w.1, ?_⟩)
    obtain ⟨-, w1, w2⟩ := w
    have k5 := k4.trans w1.kp
    -- the copies
    have lp : ∀ (d i : Nat), i + d = 9 → ∀ M6, iKp M1 M6 → mLk q p (AZ A) (lm q s A B) 9 M6 → (∀ x, x < i → M6.2 83 x = cU (lR q p (AZ A) (lm q s A B) x) ∧ M6.2 84 x = cL (lR q p (AZ A) (lm q s A B) x)) → jEv nX8_same (46, [(0, .ref 67), (2, .int (nI j')), (3, .int (nI i))], [], M6) (fun o M' => o = some (some (.int (b2i (smB (lR q p (AZ A) (lm q s A B)) (lR q' p' (AZ A') (lm q' s' A' B')) 9 0)))) ∧ iKp M1 M') := by
      intro d
      induction d with
      | zero =>
        intro i hi M6 k6 l6 c6
        have : i = 9 := by omega
        subst this
        refine v_X8_same_46 ⟨fun _ => jEv.mono (m_likes hj' (v'.kp hj' (k.trans k6.i)) ht) (fun o M7 r => ⟨r.1, ?_⟩), fun z => absurd (by decide) z⟩
        obtain ⟨-, r1, r2⟩ := r
        exact m_same89 (k6.trans r1.kp) (fun i hi => by rw [r1.2.1 83 i (by decide) (by decide), r1.2.1 84 i (by decide) (by decide)]; exact c6 i hi) r2 9 0 (by omega)
      | succ d ih =>
        intro i hi M6 k6 l6 c6
        have i9 := nI_in (c := i) (N := 9) (by omega) (by omega)
        refine v_X8_same_46 ⟨fun z => absurd z (nI_ge (b := 9) (by omega) (by omega)), fun _ => ⟨i9, i9, fun M7 e7 => ⟨i9, i9, fun M8 e8 => ?_⟩⟩⟩
        rw [nI_clamp (by omega), (l6 i (by omega)).1] at e7
        rw [nI_clamp (by omega), e7, jsl_at, if_neg (by omega), (l6 i (by omega)).2] at e8
        rw [nI_1, e8]
        refine ih (i + 1) (by omega) _ ((k6.sl (by omega)).sl (by omega)) (fun x hx => ?_) (fun x hx => ?_)
        · rw [jsl_at, if_neg (by omega), jsl_at, if_neg (by omega), jsl_at, if_neg (by omega), jsl_at, if_neg (by omega)]; exact l6 x hx
        · rw [jsl_at, if_neg (show ¬ (83 = 84 ∧ x = i) from fun w => absurd w.1 (by decide)), jsl_at, jsl_at, jsl_at, if_neg (show ¬ (84 = 83 ∧ x = i) from fun w => absurd w.1 (by decide))]
          by_cases w : x = i
          · rw [if_pos ⟨rfl, w⟩, if_pos ⟨rfl, w⟩, w]; exact ⟨rfl, rfl⟩
          · rw [if_neg (fun q => w q.2), if_neg (fun q => w q.2)]; exact c6 x (by omega)
    exact lp 9 0 (by omega) M5 k5 w2 (fun x hx => absurd hx (by omega))
