/-! likes: the model's rows, solution, likes beyond -/
def lL (q p : Nat) (A : Nat → Int) : Int := lD q p A * (q : Int) ^ 3
theorem t_ok {q p : Nat} {A mm : Nat → Int} (h : lOk q p A mm) : tOk (p + 1) (lT q p A mm) (lL q p A) := by
  have hp := h.1.2.2
  refine ⟨⟨by omega, by omega⟩, fun j hj => h.T hj, Int.mul_ne_zero h.D.1 (q_ne h.1.1 3), ?_⟩
  unfold lL
  rw [Int.natAbs_mul]
  exact Nat.le_trans (Nat.mul_le_mul h.D.2 (pw_abs h.1.2.1 3)) (by decide)
theorem eM0_1 (q : Int) (p : Nat) (A : Nat → Int) {k : Nat} (hk : k < 4) : (mG (eM0 q p A) k).1 = 1 := by
  rcases (show k = 0 ∨ k = 1 ∨ k = 2 ∨ k = 3 by omega) with rfl | rfl | rfl | rfl <;> rfl
theorem vN0 {q p : Nat} {A mm : Nat → Int} (h : lOk q p A mm) {k : Nat} (hk : k < p + 1) : (∀ i, i < p + 1 → vN (p + 1) (lT q p A mm) (lL q p A) (mG (eM0 q p A) k) i = Rat.divInt (yI q p A k i) 1) ∧ vN (p + 1) (lT q p A mm) (lL q p A) (mG (eM0 q p A) k) 4 = Rat.divInt (mm k) ((q : Int) ^ 4) * Rat.divInt q 1 := by
  have hp := h.1.2.2
  have hq := h.1.1
  refine ⟨fun i hi => ?_, ?_⟩
  · unfold vN
    rw [if_pos hi, eM0_1 _ _ _ (by omega), ← lz_y q p A k (by omega) i (by omega)]
    rfl
  · unfold vN
    rw [if_neg (by omega), eM0_1 _ _ _ (by omega)]
    have e : rSm (p + 1) (lT q p A mm) (mG (eM0 q p A) k) = lD q p A * mm k := crm (lz q p A) mm (show p + 1 ≤ 4 by omega) hk
    rw [e, Int.one_mul, Rat.divInt_mul_divInt, Int.mul_one]
    unfold lL
    rw [Rat.divInt_mul_left h.D.1, show (q : Int) ^ 4 = (q : Int) ^ 3 * q from Int.pow_succ .., Rat.divInt_mul_right (show (q : Int) ≠ 0 by omega)]
theorem m_likesRow {K : jK} {M0 : jM} {j q p m s k : Nat} {A B : Nat → Int32} (hj : j < 6) (v : vR M0 j q p m s A B) (ok : lOk q p (AZ A) (lm q s A B)) (hk : k < p + 1) (hw : ∀ i, i < 9 → M0.2 77 i = cU (wR q (wl 0 A B) (we 0 A B) i) ∧ M0.2 78 i = cL (wR q (wl 0 A B) (we 0 A B) i)) (nx : ∀ M, oRow k M0 M → eqr (p + 1) (lT q p (AZ A) (lm q s A B)) (lL q p (AZ A)) (mG (eM0 q p (AZ A)) k) k M → jEv nX8_likes (17, [(0, .ref 67), (1, .int (nI j)), (2, .int (nI (p + 1))), (3, .int (nI (k + 1)))], [], M) K) : jEv nX8_likes (25, [(0, .ref 67), (1, .int (nI j)), (2, .int (nI (p + 1))), (3, .int (nI k)), (4, .int 0)], [], M0) K := by
  obtain ⟨g1, g2, g3⟩ := slot_in hj
  have hp3 := v.1.2.2.1
  have hq4 := v.1.2.1
  have hq1 := v.1.1
  have o0 : ∀ {M : jM} {y : Nat} {v : Int64} {a : Nat}, oRow k M0 M → (a = 81 ∨ a = 82) → (5 * k ≤ y ∧ y < 5 * k + 5) → oRow k M0 (jsl M a y v) := by
    intro M y v a h ha hy
    refine ⟨h.1.sl (by omega), fun z hz => ?_, fun b z hb => by rw [jsl_at, if_neg (by omega)]; exact h.2.2 b z hb⟩
    rw [jsl_at, jsl_at, if_neg (by omega), if_neg (by omega)]
    exact h.2.1 z hz
  -- behind the sums: the right side
  have fin : ∀ M, oRow k M0 M → (∀ i, i < p + 1 → M.2 81 (5 * k + i) = Int64.ofInt (yI q p (AZ A) k i) ∧ M.2 82 (5 * k + i) = 1) → jEv nX8_right (0, [(0, .ref 67), (1, .int (nI j)), (2, .int (nI k))], [], M) (fun o1 M2 => o1 = some none ∧ (¬ (nI j < 0 ∨ 6 ≤ (nI j).toNatClampNeg) ∧ (jEv nX8_times (0, [(0, .ref 67), (1, .long ((M2.1 70 (nI j).toNatClampNeg).toInt64)), (3, .long 1)], [], M2) (fun o3 M4 => o3 = some none ∧ (¬ ((5 * nI k) + 4 < 0 ∨ 20 ≤ ((5 * nI k) + 4).toNatClampNeg) ∧ (∀ M5 : jM, M5 = jsl M4 81 (((5 * nI k) + 4).toNatClampNeg) (M4.2 67 3) → (¬ ((5 * nI k) + 4 < 0 ∨ 20 ≤ ((5 * nI k) + 4).toNatClampNeg) ∧ (∀ M6 : jM, M6 = jsl M5 82 (((5 * nI k) + 4).toNatClampNeg) (M5.2 67 4) → jEv nX8_likes (17, [(0, .ref 67), (1, .int (nI j)), (2, .int (nI (p + 1))), (3, .int (nI k + 1))], [], M6) K)))))))) := by
    intro M f s1
    have vM := f.1.vR hj v
    refine jEv.mono (m_right hj vM (fun i hi => by rw [f.2.2 77 i (by omega), f.2.2 78 i (by omega)]; exact hw i hi) (k := k) (by omega)) (fun o M2 z => ⟨z.1, g2, ?_⟩)
    obtain ⟨-, z1, z2, z3, z4, z5⟩ := z
    have sr : sm (Rat.divInt (lm q s A B k) ((q : Int) ^ 4)) 542720 256 := (sm_div (q_ne hq1 4)).mono (lm_abs v k) (pw_abs hq4 4)
    have sq' : sm (Rat.divInt (q : Int) 1) 4 1 := (sm_div (by decide)).mono (by omega) (by decide)
    rw [show M2.1 70 (nI j).toNatClampNeg = nI q by rw [g3, z1]; exact vM.2.2.1.2.1, int1 (nI_toInt (show q < 2 ^ 31 by omega))]
    have tm := m_times (M := M2) sr sq' (by decide) (by decide) (by decide) (by decide) z4 z5
    rw [cL_1] at tm
    rw [tm.iff, show 5 * nI k + 4 = nI (5 * k + 4) from nI5 k 4]
    have i20 := nI_in (c := 5 * k + 4) (N := 20) (by omega) (by omega)
    refine ⟨rfl, i20, fun M5 e5 => ⟨i20, fun M6 e6 => ?_⟩⟩
    rw [nI_clamp (by omega), jF_u] at e5
    have e54 : M5.2 67 4 = cL (Rat.divInt (lm q s A B k) ((q : Int) ^ 4) * Rat.divInt q 1) := by rw [e5, jsl_at, if_neg (by omega), jF_l]
    rw [nI_clamp (by omega), e54] at e6
    rw [nI_1]
    have f2 : oRow k M0 M2 := ⟨f.1.trans ⟨z1, fun a y h1 _ => z2 a y h1, z3⟩, fun y hy => by rw [z2 81 y (by decide), z2 82 y (by decide)]; exact f.2.1 y hy, fun a y ha => by rw [z2 a y (by omega)]; exact f.2.2 a y ha⟩
    have f6 : oRow k M0 M6 := by rw [e6, e5]; exact o0 (o0 (f2.jF _) (Or.inl rfl) (by omega)) (Or.inr rfl) (by omega)
    obtain ⟨n1, n2⟩ := vN0 ok hk
    refine nx M6 f6 (fun i hi => ?_)
    rcases hi with hi | hi
    · rw [n1 i hi, cU_1, cL_1, e6, jsl_at, if_neg (by omega), jsl_at, if_neg (by omega), e5, jsl_at, if_neg (by omega), jsl_at, if_neg (by omega), jF_o _ _ (by decide), jF_o _ _ (by decide), z2 81 _ (by decide), z2 82 _ (by decide)]
      exact s1 i hi
    · subst hi
      rw [n2, e6, jsl_at, if_neg (by omega), jsl_at, if_pos ⟨rfl, rfl⟩, e5, jsl_at, if_pos ⟨rfl, rfl⟩]
      exact ⟨rfl, rfl⟩
  -- the sums
  have lp2 : ∀ (d i : Nat), i + d = p + 1 → ∀ M, oRow k M0 M → (∀ c, c < p + 1 → M.2 81 (5 * k + c) = Int64.ofInt (yP q (AZ A) k c i) ∧ M.2 82 (5 * k + c) = 1) → jEv nX8_likes (64, [(0, .ref 67), (1, .int (nI j)), (2, .int (nI (p + 1))), (3, .int (nI k)), (4, .int (nI i))], [], M) K := by
    intro d
    induction d with
    | zero =>
      intro i hi M f s1
      have : i = p + 1 := by omega
      subst this
      exact v_X8_likes_64 ⟨fun _ => fin M f s1, fun z => absurd (Int32.le_refl _) z⟩
    | succ d ih =>
      intro i hi M f s1
      have l := nd_lt (i := k) (j := i) (k := p + 1) hk (by omega)
      have vM := f.1.vR hj v
      have i20 := nI_in (c := 5 * k + nd k i) (N := 20) (by omega) (by omega)
      have st : ∀ (X : Int64) (M2 : jM), X = Int64.ofInt (ya q (AZ A) i) → M2 = jsl M 81 (5 * k + nd k i) (M.2 81 (5 * k + nd k i) + X) → jEv nX8_likes (64, [(0, .ref 67), (1, .int (nI j)), (2, .int (nI (p + 1))), (3, .int (nI k)), (4, .int (nI i + 1))], [], M2) K := by
        intro X M2 hX e2
        rw [(s1 (nd k i) l).1, hX, ← Int64.ofInt_add] at e2
        rw [nI_1]
        refine ih (i + 1) (by omega) M2 (by rw [e2]; exact o0 f (Or.inl rfl) (by omega)) (fun c hc => ?_)
        rw [e2, jsl_at, jsl_at, if_neg (show ¬ (82 = 81 ∧ 5 * k + c = 5 * k + nd k i) from fun w => absurd w.1 (by decide)), yP_s]
        by_cases w : c = nd k i
        · rw [if_pos ⟨rfl, by rw [w]⟩, if_pos w.symm, w]; exact ⟨rfl, (s1 (nd k i) l).2⟩
        · rw [if_neg (by omega), if_neg (fun y => w y.symm), Int.add_zero]; exact s1 c hc
      have y0 : i = 0 → (nI q).toInt64 = Int64.ofInt (ya q (AZ A) i) := fun e => by rw [w64, nI_toInt (by omega), e]; rfl
      have y1 : ∀ h : ¬ i = 0, (-(A i)).toInt64 = Int64.ofInt (ya q (AZ A) i) := fun h => by
        have r := v.rA i (by omega) (by omega)
        rw [w64, neg8 r.1 r.2.1]
        unfold ya
        rw [if_neg h, AZ_v A (by omega) (by omega)]
      have z0 : ∀ {P : Prop}, nI i = 0 → (i = 0 → P) → P := fun h k => k (by
        rcases Nat.eq_zero_or_pos i with y | y
        · exact y
        · exact absurd h (nI_ne0 y (by omega)))
      have m70 : M.1 70 (nI j).toNatClampNeg = nI q := by rw [g3]; exact vM.2.2.1.2.1
      have m74 : ¬ i = 0 → M.1 74 (4 * nI j + nI i).toNatClampNeg = A i := fun h => by rw [nI4, nI_clamp (by omega)]; exact (vM.2.2.2.1 i (by omega) (by omega)).2.1
      have i24 : ¬ (4 * nI j + nI i < 0 ∨ 24 ≤ (4 * nI j + nI i).toNatClampNeg) := by rw [nI4]; exact nI_in (by omega) (by omega)
      refine v_X8_likes_64 ⟨fun z => absurd z (nI_ge (by omega) (by omega)), fun _ => ⟨fun z => ?_, fun z => ?_⟩⟩
      · have z' : k ≤ i := (nI_leI (by omega) (by omega)).mp z
        rw [nI_sub z', nI5, show i - k = nd k i by unfold nd; omega, nI_clamp (show 5 * k + nd k i < 2 ^ 31 by omega)]
        have i20' : ¬ (nI (5 * k + nd k i) < 0 ∨ 20 ≤ 5 * k + nd k i) := by rw [nI_clamp (by omega)] at i20; exact i20
        refine ⟨i20', fun y => ⟨g2, i20', fun M8 e8 => ?_⟩, fun y => ⟨i24, i20', fun M8 e8 => ?_⟩⟩
        · rw [m70] at e8
          exact z0 y (fun e => st _ M8 (y0 e) e8)
        · have i0 : ¬ i = 0 := fun e => y (by rw [e]; rfl)
          rw [m74 i0] at e8
          exact st _ M8 (y1 i0) e8
      · have z' : ¬ k ≤ i := fun y => z (nI_le y (by omega))
        rw [nI_sub (show i ≤ k by omega), nI5, show k - i = nd k i by unfold nd; omega, nI_clamp (show 5 * k + nd k i < 2 ^ 31 by omega)]
        have i20' : ¬ (nI (5 * k + nd k i) < 0 ∨ 20 ≤ 5 * k + nd k i) := by rw [nI_clamp (by omega)] at i20; exact i20
        refine ⟨i20', fun y => ⟨g2, i20', fun M8 e8 => ?_⟩, fun y => ⟨i24, i20', fun M8 e8 => ?_⟩⟩
        · rw [m70] at e8
          exact z0 y (fun e => st _ M8 (y0 e) e8)
        · have i0 : ¬ i = 0 := fun e => y (by rw [e]; rfl)
          rw [m74 i0] at e8
          exact st _ M8 (y1 i0) e8
  -- the row wiped
  have lp1 : ∀ (d i : Nat), i + d = p + 1 → ∀ M, oRow k M0 M → (∀ c, c < i → M.2 81 (5 * k + c) = 0 ∧ M.2 82 (5 * k + c) = 1) → jEv nX8_likes (25, [(0, .ref 67), (1, .int (nI j)), (2, .int (nI (p + 1))), (3, .int (nI k)), (4, .int (nI i))], [], M) K := by
    intro d
    induction d with
    | zero =>
      intro i hi M f s1
      have : i = p + 1 := by omega
      subst this
      exact v_X8_likes_25 ⟨fun _ => lp2 (p + 1) 0 (by omega) M f s1, fun z => absurd (Int32.le_refl _) z⟩
    | succ d ih =>
      intro i hi M f s1
      have i20 := nI_in (c := 5 * k + i) (N := 20) (by omega) (by omega)
      refine v_X8_likes_25 ⟨fun z => absurd z (nI_ge (by omega) (by omega)), fun _ => ?_⟩
      rw [nI5]
      refine ⟨i20, fun M1 e1 => ⟨i20, fun M2 e2 => ?_⟩⟩
      rw [nI_clamp (by omega)] at e1 e2
      rw [nI_1]
      refine ih (i + 1) (by omega) M2 (by rw [e2, e1]; exact o0 (o0 f (Or.inl rfl) (by omega)) (Or.inr rfl) (by omega)) (fun c hc => ?_)
      rw [e2, jsl_at, if_neg (by omega), jsl_at, e1, jsl_at, jsl_at, if_neg (show ¬ (82 = 81 ∧ 5 * k + c = 5 * k + i) from fun w => absurd w.1 (by decide))]
      by_cases w : c = i
      · rw [if_pos ⟨rfl, by rw [w]⟩, if_pos ⟨rfl, by rw [w]⟩]; exact ⟨rfl, rfl⟩
      · rw [if_neg (by omega), if_neg (by omega)]; exact s1 c (by omega)
  exact lp1 (p + 1) 0 (by omega) M0 ⟨pFr.rfl' M0, fun _ _ => ⟨rfl, rfl⟩, fun _ _ _ => rfl⟩ (fun c hc => absurd hc (by omega))
theorem m_likesEl {M0 : jM} {n : Nat} {T : Nat → Int} {L : Int} {m : Mw} {K : jK} {j : Nat} (t : tOk n T L) (hok : ∀ k, k < n → rOk (mG m k) = true) (nx : ∀ M, qFe M0 M → (∀ k, k < n → rOk (mG (eR n m n) k) = true) → eqM n T L (eR n m n) M → jEv nX8_likes (210, [(0, .ref 67), (1, .int (nI j)), (2, .int (nI n)), (3, .int 0)], [], M) K) : ∀ (d c : Nat), c + d = n → eRk n m n = true → (∀ k, k < n → rOk (mG (eR n m c) k) = true) → ∀ M, qFe M0 M → eqM n T L (eR n m c) M → jEv nX8_likes (191, [(0, .ref 67), (1, .int (nI j)), (2, .int (nI n)), (3, .int (nI c))], [], M) K := by
  have hn4 := t.1.2
  have eKm : ∀ {d c : Nat}, c + d = n → eRk n m n = true → eRk n m c = true := by
    intro d
    induction d with
    | zero => intro k hk h; rw [Nat.add_zero] at hk; rw [hk]; exact h
    | succ d ih =>
      intro k hk h
      have h' : (eRk n m k && eSk n k (eR n m k)) = true := ih (c := k + 1) (by omega) h
      rw [Bool.and_eq_true] at h'
      exact h'.1
  intro d
  induction d with
  | zero =>
    intro c hc he ok M f s
    have : c = n := by omega
    subst this
    exact v_X8_likes_191 ⟨fun _ => nx M f ok s, fun z => absurd (Int32.le_refl _) z⟩
  | succ d ih =>
    intro c hc he ok M f s
    have h' : (eRk n m c && eSk n c (eR n m c)) = true := eKm (d := d) (c := c + 1) (by omega) he
    rw [Bool.and_eq_true] at h'
    obtain ⟨ok2, run⟩ := m_elim t (show c < n by omega) ok h'.2 s
    refine v_X8_likes_191 ⟨fun z => absurd z (nI_ge (by omega) (by omega)), fun _ => jEv.mono run (fun o M2 z => ⟨z.1, ?_⟩)⟩
    rw [nI_1]
    exact ih (c + 1) (by omega) he ok2 M2 (f.trans z.2.1) z.2.2
