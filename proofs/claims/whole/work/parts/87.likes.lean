/-! likes, model's side: told; like and same, both sides -/
theorem sI_one {f : Nat → Int} {k : Nat} : ∀ {n : Nat}, (∀ j, j < n → j ≠ k → f j = 0) → sI f n = if k < n then f k else 0
  | 0, _ => by rw [if_neg (Nat.not_lt_zero k)]; rfl
  | n + 1, h => by
    show sI f n + f n = _
    rw [sI_one (n := n) (fun j hj hk => h j (by omega) hk)]
    by_cases z : k < n
    · rw [if_pos z, if_pos (by omega), h n (by omega) (by omega), Int.add_zero]
    · rw [if_neg z, Int.zero_add]
      by_cases y : k = n
      · rw [if_pos (by omega), y]
      · rw [if_neg (by omega), h n (by omega) (fun e => y e.symm)]
/-- what the model's rows of likes hold below k -/
def mLk (q p : Nat) (A mm : Nat → Int) (k : Nat) (M : jM) : Prop := ∀ i, i < k → M.2 79 i = cU (lR q p A mm i) ∧ M.2 80 i = cL (lR q p A mm i)
theorem mLk.put {q p : Nat} {A mm : Nat → Int} {k : Nat} {M : jM} (h : mLk q p A mm k M) : mLk q p A mm (k + 1) (jsl (jsl M 79 k (cU (lR q p A mm k))) 80 k (cL (lR q p A mm k))) := by
  intro i hi
  rw [jsl_at, if_neg (show ¬ (79 = 80 ∧ i = k) from fun w => absurd w.1 (by decide)), jsl_at, jsl_at, jsl_at, if_neg (show ¬ (80 = 79 ∧ i = k) from fun w => absurd w.1 (by decide))]
  by_cases z : i = k
  · rw [if_pos ⟨rfl, z⟩, if_pos ⟨rfl, z⟩, z]; exact ⟨rfl, rfl⟩
  · rw [if_neg (fun y => z y.2), if_neg (fun y => z y.2)]; exact h i (by omega)
theorem mLk.jF {q p : Nat} {A mm : Nat → Int} {k : Nat} {M : jM} (h : mLk q p A mm k M) (r : Rat) : mLk q p A mm k (jF M r) := by
  intro i hi
  rw [jF_o _ _ (by decide), jF_o _ _ (by decide)]
  exact h i hi
/-- weights, and all else, as before -/
def wFr (M0 M : jM) : Prop := pFr M0 M ∧ ∀ a y, (a = 77 ∨ a = 78) → M.2 a y = M0.2 a y
theorem wFr.jF {M0 M : jM} (h : wFr M0 M) (r : Rat) : wFr M0 (jF M r) := ⟨h.1.jF r, fun a y ha => by rw [jF_o _ _ (by omega)]; exact h.2 a y ha⟩
theorem wFr.sl {M0 M : jM} (h : wFr M0 M) {a k : Nat} {v : Int64} (ha : 79 ≤ a ∧ a ≤ 82) : wFr M0 (jsl M a k v) := ⟨h.1.sl (by omega), fun b y hb => by rw [jsl_at, if_neg (by omega)]; exact h.2 b y hb⟩
theorem m_likes210 {K : jK} {M0 : jM} {q p j : Nat} {A mm : Nat → Int} {mf : Mw} (h : lOk q p A mm) (hok : ∀ k, k < p + 1 → rOk (mG mf k) = true) (hd : eDg (p + 1) mf = true) (nx : ∀ M, wFr M0 M → mLk q p A mm (p + 1) M → jEv nX8_likes (291, [(0, .ref 67), (1, .int (nI j)), (2, .int (nI (p + 1))), (3, .int (nI (p + 1)))], [], M) K) : ∀ (d k : Nat), k + d = p + 1 → ∀ M, wFr M0 M → eqM (p + 1) (lT q p A mm) (lL q p A) mf M → mLk q p A mm k M → jEv nX8_likes (210, [(0, .ref 67), (1, .int (nI j)), (2, .int (nI (p + 1))), (3, .int (nI k))], [], M) K := by
  have hp := h.1.2.2
  have hq := h.1.1
  have t := t_ok h
  intro d
  induction d with
  | zero =>
    intro k hk M f s l
    have : k = p + 1 := by omega
    subst this
    exact v_X8_likes_210 ⟨fun _ => nx M f l, fun z => absurd (Int32.le_refl _) z⟩
  | succ d ih =>
    intro k hk M f s l
    have i4 := nI_in (c := 5 * k + 4) (N := 20) (by omega) (by omega)
    have ik := nI_in (c := 5 * k + k) (N := 20) (by omega) (by omega)
    have i9 := nI_in (c := k) (N := 9) (by omega) (by omega)
    have dg := aAll_at hd k (by omega)
    have dgo : ∀ i, i < p + 1 → i ≠ k → rN (mG mf k) i = 0 := fun i hi hik => by
      have := aAll_at dg i hi
      rw [if_neg hik] at this
      exact of_decide_eq_true this
    have dgk : rN (mG mf k) k ≠ 0 := by
      have := aAll_at dg k (by omega)
      rw [if_pos rfl, Bool.not_eq_true', decide_eq_false_iff_not] at this
      exact this
    have okk := hok k (by omega)
    have kb := rOk_b okk
    have sF := vN_sm t okk 4
    have s4 := s k (by omega) 4 (Or.inr rfl)
    have sk := s k (by omega) k (Or.inl (by omega))
    have smk : sm (vN (p + 1) (lT q p A mm) (lL q p A) (mG mf k) k) 2000 300 := by
      unfold vN; rw [if_pos (by omega)]; exact (sm_div kb.1).mono (kb.2.2.1 k) kb.2.1
    have la : aL (cL (vN (p + 1) (lT q p A mm) (lL q p A) (mG mf k) k)) 300 := by unfold aL; rw [cL_i smk (by decide)]; exact smk.2
    have lu : aL (cU (vN (p + 1) (lT q p A mm) (lL q p A) (mG mf k) k)) 2000 := by unfold aL; rw [cU_i smk (by decide)]; exact smk.1
    have uc : ¬ cU (vN (p + 1) (lT q p A mm) (lL q p A) (mG mf k) k) = 0 := fun w => dgk ((cell0 t okk (by omega)).mp w)
    refine v_X8_likes_210 ⟨fun z => absurd z (nI_ge (by omega) (by omega)), fun _ => ?_⟩
    rw [show 5 * nI k + 4 = nI (5 * k + 4) from nI5 k 4, nI5]
    refine ⟨i4, i4, ?_⟩
    rw [nI_clamp (show 5 * k + 4 < 2 ^ 31 by omega), nI_clamp (show 5 * k + k < 2 ^ 31 by omega), s4.1, s4.2, (m_setC sF (by decide) (by decide)).iff]
    have ik' : ¬ (nI (5 * k + k) < 0 ∨ 20 ≤ 5 * k + k) := by rw [nI_clamp (by omega)] at ik; exact ik
    refine ⟨rfl, ik', ik', ?_⟩
    rw [jF_o _ _ (by decide), jF_o _ _ (by decide), sk.1, sk.2, (m_timesG sF la lu uc (by decide) (by decide) (by decide) (by decide) (by decide) (by decide) (jF_u _ _) (jF_l _ _)).iff]
    have er : vN (p + 1) (lT q p A mm) (lL q p A) (mG mf k) 4 * rQ (cL (vN (p + 1) (lT q p A mm) (lL q p A) (mG mf k) k)) (cU (vN (p + 1) (lT q p A mm) (lL q p A) (mG mf k) k)) = lR q p A mm k := by
      have e1 : rQ (cL (vN (p + 1) (lT q p A mm) (lL q p A) (mG mf k) k)) (cU (vN (p + 1) (lT q p A mm) (lL q p A) (mG mf k) k)) = Rat.divInt (mG mf k).1 (rN (mG mf k) k) := by
        unfold rQ
        rw [cL_i smk (by decide), cU_i smk (by decide), ← Rat.inv_divInt, Rat.num_divInt_den]
        unfold vN
        rw [if_pos (by omega), Rat.inv_divInt]
      have e2 : rSm (p + 1) (lT q p A mm) (mG mf k) = rN (mG mf k) k * lT q p A mm k := by
        unfold rSm
        rw [sI_one (k := k) (fun i hi hik => by rw [dgo i hi hik, Int.zero_mul]), if_pos (by omega)]
      rw [e1]
      unfold vN
      rw [if_neg (by omega), Rat.divInt_mul_divInt, e2, show rN (mG mf k) k * lT q p A mm k * (mG mf k).1 = (rN (mG mf k) k * (mG mf k).1) * lT q p A mm k by grind, show (mG mf k).1 * lL q p A * rN (mG mf k) k = (rN (mG mf k) k * (mG mf k).1) * lL q p A by grind, Rat.divInt_mul_left (Int.mul_ne_zero dgk kb.1)]
      unfold lR lB lL
      rw [tt_lo (by omega), Rat.divInt_mul_right (q_ne hq 8)]
    rw [er]
    refine ⟨rfl, i9, fun M5 e5 => ⟨i9, fun M6 e6 => ?_⟩⟩
    rw [nI_clamp (by omega), jF_u] at e5
    have e54 : M5.2 67 4 = cL (lR q p A mm k) := by rw [e5, jsl_at, if_neg (by omega), jF_l]
    rw [nI_clamp (by omega), e54] at e6
    rw [nI_1, e6, e5]
    refine ih (k + 1) (by omega) _ (((((f.jF _).jF _).sl (by omega))).sl (by omega)) (fun k' hk' i hi => ?_) ((l.jF _).jF _).put
    rw [jsl_at, if_neg (by omega), jsl_at, if_neg (by omega), jsl_at, if_neg (by omega), jsl_at, if_neg (by omega), jF_o _ _ (by decide), jF_o _ _ (by decide), jF_o _ _ (by decide), jF_o _ _ (by decide)]
    exact s k' hk' i hi
theorem m_likes332 {K : jK} {M0 : jM} {j q p m s k : Nat} {A B : Nat → Int32} (hj : j < 6) (v : vR M0 j q p m s A B) (ok : lOk q p (AZ A) (lm q s A B)) (h1 : p < k) (hk : k < 9) (nx : ∀ M, wFr M0 M → mLk q p (AZ A) (lm q s A B) (k + 1) M → jEv nX8_likes (291, [(0, .ref 67), (1, .int (nI j)), (2, .int (nI (p + 1))), (3, .int (nI (k + 1)))], [], M) K) : ∀ (d i : Nat), i + d = p → ∀ M, wFr M0 M → mLk q p (AZ A) (lm q s A B) k M → jEv nX8_likes (332, [(0, .ref 67), (1, .int (nI j)), (2, .int (nI (p + 1))), (3, .int (nI k)), (4, .long (cU (lA q p (AZ A) (lm q s A B) k i))), (6, .long (cL (lA q p (AZ A) (lm q s A B) k i))), (8, .int (nI (i + 1)))], [], M) K := by
  obtain ⟨g1, g2, g3⟩ := slot_in hj
  have hp3 := v.1.2.2.1
  have hq4 := v.1.2.1
  have hq1 := v.1.1
  obtain ⟨q1, q2⟩ := q_set hq1 hq4
  have i9 := nI_in (c := k) (N := 9) (by omega) (by omega)
  have hA : ∀ k, 1 ≤ k → k < 4 → (AZ A k).natAbs ≤ 8 := fun k k1 k2 => by rw [AZ_v A k1 k2]; exact (v.A8 k k1 k2).1
  intro d
  induction d with
  | zero =>
    intro i hi M f l
    have : i = p := by omega
    subst this
    refine v_X8_likes_332 ⟨fun _ => ⟨i9, fun M1 e1 => ⟨i9, fun M2 e2 => ?_⟩⟩, fun z => absurd (Int32.le_refl _) z⟩
    rw [nI_clamp (by omega)] at e1 e2
    rw [lA_p ok h1 hk] at e1 e2
    rw [e2, e1, nI_1]
    exact nx _ ((f.sl (by omega)).sl (by omega)) l.put
  | succ d ih =>
    intro i hi M f l
    have vM := f.1.vR hj v
    have i9' := nI_in (c := k - (i + 1)) (N := 9) (by omega) (by omega)
    have a8 := hA (i + 1) (by omega) (by omega)
    have sX : sm (Rat.divInt (AZ A (i + 1)) q) 8 4 := (sm_div (show (q : Int) ≠ 0 by omega)).mono a8 (by omega)
    have sR := lR_sm ok (k := k - (i + 1)) (by omega)
    obtain ⟨e1, e2⟩ := lA_s ok k i
    refine v_X8_likes_332 ⟨fun z => absurd z (nI_ge (by omega) (by omega)), fun _ => ⟨by rw [nI4]; exact nI_in (by omega) (by omega), g2, ?_⟩⟩
    rw [show M.1 70 (nI j).toNatClampNeg = nI q by rw [g3]; exact vM.2.2.1.2.1, show M.1 74 (4 * nI j + nI (i + 1)).toNatClampNeg = A (i + 1) by rw [nI4, nI_clamp (by omega)]; exact (vM.2.2.2.1 (i + 1) (by omega) (by omega)).2.1]
    have hX : (A (i + 1)).toInt64.toInt = AZ A (i + 1) := by rw [Int32.toInt_toInt64, AZ_v A (by omega) (by omega)]
    rw [(m_setF M (by rw [hX]; omega) q1 q2).iff, rQ_q hX hq4, nI_sub (by omega)]
    refine ⟨rfl, i9', i9', ?_⟩
    have lk := l (k - (i + 1)) (by omega)
    rw [nI_clamp (by omega), jF_o _ _ (by decide), jF_o _ _ (by decide), lk.1, lk.2, (m_times sX sR (by decide) (by decide) (by decide) (by decide) (jF_u _ _) (jF_l _ _)).iff]
    refine ⟨rfl, ?_⟩
    have bt := tt_abs ok (k := k - (i + 1)) (by omega)
    have bs := lSS_abs ok hA (k := k) (j := i) (by omega) (by omega) hk
    have bm : (AZ A (i + 1) * tt q p (AZ A) (lm q s A B) (k - (i + 1))).natAbs ≤ 8 * 216000000000000000 := by rw [Int.natAbs_mul]; exact Nat.mul_le_mul a8 bt
    rw [(m_plusL (s := lA q p (AZ A) (lm q s A B) k i) e1 rfl ok.qB.1 (by omega) (Nat.lt_of_le_of_lt ok.qB.2 (by decide)) (jF_u _ _) (jF_l _ _)).iff, e2]
    refine ⟨rfl, ?_⟩
    rw [jF_u, jF_l, nI_1]
    exact ih (i + 1) (by omega) _ (((f.jF _).jF _).jF _) (((l.jF _).jF _).jF _)
theorem m_likes {M0 : jM} {j q p m s : Nat} {A B : Nat → Int32} (hj : j < 6) (v : vR M0 j q p m s A B) (st : stB q A = true) : jEv nX8_likes (0, [(0, .ref 67), (1, .int (nI j))], [], M0) (fun o M' => o = some none ∧ pFr M0 M' ∧ mLk q p (AZ A) (lm q s A B) 9 M') := by
  obtain ⟨g1, g2, g3⟩ := slot_in hj
  have hp3 := v.1.2.2.1
  have hq4 := v.1.2.1
  have hq1 := v.1.1
  have ok := l_ok v st
  obtain ⟨r1, r2, r3⟩ := ok.run
  have t := t_ok ok
  refine v_X8_likes_0 (jEv.mono (m_weights hj v 0) (fun o M1 z => ⟨z.1, g2, ?_⟩))
  obtain ⟨-, z1, z2, z3, z4⟩ := z
  have f1 : pFr M0 M1 := ⟨z2, fun a k h1 h2 => z3 a k h1 (by omega) (by omega), fun k hk => z1.2 67 k (by omega)⟩
  have v1 := f1.vR hj v
  rw [g3, v1.2.2.1.2.2.1, nI_1]
  -- likes beyond
  have lp9 : ∀ (d k : Nat), p < k → k + d = 9 → ∀ M, wFr M1 M → mLk q p (AZ A) (lm q s A B) k M → jEv nX8_likes (291, [(0, .ref 67), (1, .int (nI j)), (2, .int (nI (p + 1))), (3, .int (nI k))], [], M) (fun o M' => o = some none ∧ pFr M0 M' ∧ mLk q p (AZ A) (lm q s A B) 9 M') := by
    intro d
    induction d with
    | zero =>
      intro k h1 hk M f l
      have : k = 9 := by omega
      subst this
      exact v_X8_likes_291 ⟨fun _ => ⟨rfl, f1.trans f.1, l⟩, fun z => absurd (by decide) z⟩
    | succ d ih =>
      intro k h1 hk M f l
      have vM := f.1.vR hj v1
      have go := m_likes332 hj v1 ok h1 (by omega) (fun M' f' l' => ih (k + 1) (by omega) (by omega) M' f' l') p 0 (by omega)
      rw [lA_0 ok] at go
      refine v_X8_likes_291 ⟨fun z => absurd z (nI_ge (b := 9) (by omega) (by omega)), fun _ => ⟨fun z => ?_, fun z => ?_⟩⟩
      · have k4 : 4 ≤ k := (nI_leI (a := 4) (b := k) (by omega) (by omega)).mp z
        have m0 : lm q s A B k = 0 := by
          unfold lm
          rw [show 4 - k = 0 by omega]
          exact Int.mul_zero _
        rw [m0, Rat.zero_divInt] at go
        rw [(m_setF M (a := 0) (b := 1) (by decide) (by decide) (by decide)).iff, show rQ 0 1 = 0 by unfold rQ; rw [Int64.toInt_zero, Rat.zero_divInt]]
        refine ⟨rfl, ?_⟩
        rw [jF_u, jF_l]
        exact go _ (f.jF _) (l.jF _)
      · have k4 : ¬ 4 ≤ k := fun y => z ((nI_leI (a := 4) (b := k) (by omega) (by omega)).mpr y)
        refine jEv.mono (m_right hj vM (fun i hi => by rw [f.2 77 i (by omega), f.2 78 i (by omega)]; exact z4 i hi) (k := k) (by omega)) (fun o M4 y => ⟨y.1, ?_⟩)
        obtain ⟨-, y1, y2, y3, y4, y5⟩ := y
        rw [y4, y5]
        refine go M4 ⟨f.1.trans ⟨y1, fun a k h1 _ => y2 a k h1, y3⟩, fun a y ha => by rw [y2 a y (by omega)]; exact f.2 a y ha⟩ (fun i hi => ?_)
        rw [y2 79 i (by decide), y2 80 i (by decide)]
        exact l i hi
  -- the rows
  have lp17 : ∀ (d k : Nat), k + d = p + 1 → ∀ M, pFr M1 M → (∀ a y, (a = 77 ∨ a = 78) → M.2 a y = M1.2 a y) → (∀ k', k' < k → eqr (p + 1) (lT q p (AZ A) (lm q s A B)) (lL q p (AZ A)) (mG (eM0 q p (AZ A)) k') k' M) → jEv nX8_likes (17, [(0, .ref 67), (1, .int (nI j)), (2, .int (nI (p + 1))), (3, .int (nI k))], [], M) (fun o M' => o = some none ∧ pFr M0 M' ∧ mLk q p (AZ A) (lm q s A B) 9 M') := by
    intro d
    induction d with
    | zero =>
      intro k hk M f w e
      have : k = p + 1 := by omega
      subst this
      refine v_X8_likes_17 ⟨fun _ => ?_, fun z => absurd (Int32.le_refl _) z⟩
      refine m_likesEl (M0 := M) t r1 (fun M2 f2 ok2 s2 => ?_) (p + 1) 0 (by omega) r2 r1 M (qFe.rfl' M) e
      refine m_likes210 (M0 := M1) ok ok2 r3 (fun M3 f3 l3 => lp9 (9 - (p + 1)) (p + 1) (by omega) (by omega) M3 f3 l3) (p + 1) 0 (by omega) M2 ⟨f.trans f2.1, fun a y ha => by rw [f2.2 a y (by omega)]; exact w a y ha⟩ s2 (fun i hi => absurd hi (by omega))
    | succ d ih =>
      intro k hk M f w e
      refine v_X8_likes_17 ⟨fun z => absurd z (nI_ge (by omega) (by omega)), fun _ => ?_⟩
      refine m_likesRow hj (f.vR hj v1) ok (show k < p + 1 by omega) (fun i hi => by rw [w 77 i (by omega), w 78 i (by omega)]; exact z4 i hi) (fun M2 o2 e2 => ?_)
      refine ih (k + 1) (by omega) M2 (f.trans o2.1) (fun a y ha => by rw [o2.2.2 a y (by omega)]; exact w a y ha) (fun k' hk' => ?_)
      by_cases y : k' = k
      · subst y; exact e2
      · exact (e k' (by omega)).o o2 (by omega) y
  exact lp17 (p + 1) 0 (by omega) M1 (pFr.rfl' M1) (fun _ _ _ => rfl) (fun k' hk' => absurd hk' (by omega))
