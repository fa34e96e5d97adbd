/-! likes: the class's side -/
def AZ (A : Nat → Int32) (k : Nat) : Int := a3 (A 1).toInt (A 2).toInt (A 3).toInt k
theorem AZ_v (A : Nat → Int32) {k : Nat} (h1 : 1 ≤ k) (h2 : k < 4) : AZ A k = (A k).toInt := by
  rcases (show k = 1 ∨ k = 2 ∨ k = 3 by omega) with rfl | rfl | rfl <;> rfl
def lb (q : Nat) (B : Nat → Int32) (j : Nat) : Int := if j = 0 then q else if j ≤ 3 then (B j).toInt else 0
def lmS (q : Nat) (A B : Nat → Int32) (k d : Nat) : Int := sI (fun i => lb q B (k + i) * wI q (wl 0 A B) (we 0 A B) i * (q : Int) ^ (3 - i)) d
def lm (q s : Nat) (A B : Nat → Int32) (k : Nat) : Int := (s : Int) * lmS q A B k (4 - k)
theorem sN_mono {f : Nat → Nat} {a : Nat} : ∀ {d : Nat}, sN f a ≤ sN f (a + d)
  | 0 => Nat.le_refl _
  | d + 1 => Nat.le_trans (sN_mono (d := d)) (Nat.le_add_right _ _)
theorem lmS_abs {M : jM} {j q p m s : Nat} {A B : Nat → Int32} (v : vR M j q p m s A B) {k d : Nat} (hd : d ≤ 4) : (lmS q A B k d).natAbs ≤ 27136 := by
  have h1 : (lmS q A B k d).natAbs ≤ sN (fun i => 8 * bW i * 4 ^ (3 - i)) d := by
    refine sI_abs (fun i hi => ?_)
    rw [Int.natAbs_mul, Int.natAbs_mul]
    refine Nat.mul_le_mul (Nat.mul_le_mul ?_ (wI_abs (w_ok v 0) i i (Nat.le_refl i) (by omega))) (pw_abs v.1.2.1 _)
    unfold lb
    split
    · have := v.1.2.1; omega
    · split
      · exact (v.A8 (k + i) (by omega) (by omega)).2.2
      · decide
  have h2 := sN_mono (f := fun i => 8 * bW i * 4 ^ (3 - i)) (a := d) (d := 4 - d)
  rw [show d + (4 - d) = 4 by omega] at h2
  exact Nat.le_trans h1 (Nat.le_trans h2 (by decide))
theorem lm_abs {M : jM} {j q p m s : Nat} {A B : Nat → Int32} (v : vR M j q p m s A B) (k : Nat) : (lm q s A B k).natAbs ≤ 542720 := by
  unfold lm
  rw [Int.natAbs_mul, Int.natAbs_natCast]
  exact Nat.le_trans (Nat.mul_le_mul v.1.2.2.2.2.2 (lmS_abs v (k := k) (d := 4 - k) (by omega))) (by decide)
theorem l_ok {M : jM} {j q p m s : Nat} {A B : Nat → Int32} (v : vR M j q p m s A B) (st : stB q A = true) : lOk q p (AZ A) (lm q s A B) := by
  have hq1 := v.1.1
  have hq4 := v.1.2.1
  have hp3 := v.1.2.2.1
  refine ⟨⟨hq1, hq4, hp3⟩, ?_, lm_abs v⟩
  have r1 := v.rA 1 (by omega) (by omega)
  have r2 := v.rA 2 (by omega) (by omega)
  have r3 := v.rA 3 (by omega) (by omega)
  obtain ⟨x, hx⟩ : ∃ x : Nat, x < 17 ∧ ((x : Int) - 8) = (A 1).toInt := ⟨((A 1).toInt + 8).toNat, by omega, by omega⟩
  obtain ⟨y, hy⟩ : ∃ y : Nat, y < 17 ∧ ((y : Int) - 8) = (A 2).toInt := ⟨((A 2).toInt + 8).toNat, by omega, by omega⟩
  obtain ⟨z, hz⟩ : ∃ z : Nat, z < 17 ∧ ((z : Int) - 8) = (A 3).toInt := ⟨((A 3).toInt + 8).toNat, by omega, by omega⟩
  have key : lC3 q x y z = true := by
    rcases (show q = 1 ∨ q = 2 ∨ q = 3 ∨ q = 4 by omega) with rfl | rfl | rfl | rfl
    · exact aAll_at (aAll_at (aAll_at lCq1 x hx.1) y hy.1) z hz.1
    · exact aAll_at (aAll_at (aAll_at lCq2 x hx.1) y hy.1) z hz.1
    · exact aAll_at (aAll_at (aAll_at lCq3 x hx.1) y hy.1) z hz.1
    · exact aAll_at (aAll_at (aAll_at lCq4 x hx.1) y hy.1) z hz.1
  unfold lC3 at key
  rw [hx.2, hy.2, hz.2] at key
  have st' : tI q (-(A 1).toInt) (-(A 2).toInt) (-(A 3).toInt) = true := st
  rw [st', Bool.not_true, Bool.false_or, Bool.and_eq_true, Bool.and_eq_true, Bool.and_eq_true] at key
  obtain ⟨k0, k1, k2, k3⟩ := key
  have zero : ∀ {w : Nat} {a : Int32}, ((w : Int) - 8) = a.toInt → a = 0 → w = 8 := by
    intro w a h1 h2
    rw [h2, Int32.toInt_zero] at h1
    omega
  rcases (show p = 0 ∨ p = 1 ∨ p = 2 ∨ p = 3 by omega) with rfl | rfl | rfl | rfl
  · rw [decide_eq_true (⟨zero hx.2 (r1.2.2 (by omega)), zero hy.2 (r2.2.2 (by omega)), zero hz.2 (r3.2.2 (by omega))⟩ : x = 8 ∧ y = 8 ∧ z = 8), Bool.not_true, Bool.false_or] at k0
    exact k0
  · rw [decide_eq_true (⟨zero hy.2 (r2.2.2 (by omega)), zero hz.2 (r3.2.2 (by omega))⟩ : y = 8 ∧ z = 8), Bool.not_true, Bool.false_or] at k1
    exact k1
  · rw [decide_eq_true (zero hz.2 (r3.2.2 (by omega)) : z = 8), Bool.not_true, Bool.false_or] at k2
    exact k2
  · exact k3
theorem lmS_end {M : jM} {j q p m s : Nat} {A B : Nat → Int32} (v : vR M j q p m s A B) {k : Nat} : ∀ {e d : Nat}, m < k + d → lmS q A B k d = lmS q A B k (d + e)
  | 0, _, _ => rfl
  | e + 1, d, h => by
    show _ = lmS q A B k (d + e) + lb q B (k + (d + e)) * wI q (wl 0 A B) (we 0 A B) (d + e) * (q : Int) ^ (3 - (d + e))
    have : lb q B (k + (d + e)) = 0 := by
      unfold lb
      rw [if_neg (by omega)]
      split
      · rw [(v.2.2.2.2 (k + (d + e)) (by omega) (by omega)).2.2.2.2 (by omega)]; rfl
      · rfl
    rw [this, Int.zero_mul, Int.zero_mul, Int.add_zero]
    exact lmS_end v h
theorem c_missPart {M : jM} {j q p m s : Nat} {A B : Nat → Int32} (hj : j < 6) (v : vR M j q p m s A B) (hw : ∀ i, i < 9 → M.2 57 i = Int64.ofInt (wI q (wl 0 A B) (we 0 A B) i)) {k : Nat} (hk : k < 9) : jTo nX2_missPart (0, [(0, .ref (4 + 4 * j)), (1, .int (nI k)), (2, .ref 57)], [], M) (some (some (.long (Int64.ofInt (lm q s A B k))))) M := by
  have hq4 := v.1.2.1
  have hm3 := v.1.2.2.2.1
  have hs := v.1.2.2.2.2.2
  have fin : ∀ d, d ≤ 4 - k → m < k + d → jTo nX2_missPart (31, [(0, .ref (4 + 4 * j)), (1, .int (nI k)), (2, .ref 57), (3, .long (Int64.ofInt (lmS q A B k d))), (5, .int (nI (k + d)))], [], M) (some (some (.long (Int64.ofInt (lm q s A B k))))) M := by
    intro d hd hmd
    refine v_X2_missPart_31 (jRu_n hj) ⟨fun _ => ⟨?_, rfl⟩, fun z => absurd (by rw [v.2.1.2.2.2.1]; exact nI_lt hmd (by omega)) z⟩
    rw [v.2.1.2.2.2.2, w64, nI_toInt (by omega), ← Int64.ofInt_mul, lmS_end v (e := 4 - k - d) hmd, show d + (4 - k - d) = 4 - k by omega]
    rfl
  have lp : ∀ (e d : Nat), d ≤ 4 - k → k + d + e = m + 1 → 1 ≤ k + d → jTo nX2_missPart (31, [(0, .ref (4 + 4 * j)), (1, .int (nI k)), (2, .ref 57), (3, .long (Int64.ofInt (lmS q A B k d))), (5, .int (nI (k + d)))], [], M) (some (some (.long (Int64.ofInt (lm q s A B k))))) M := by
    intro e
    induction e with
    | zero =>
      intro d hd he h1
      exact fin d hd (by omega)
    | succ e ih =>
      intro d hd he h1
      refine v_X2_missPart_31 (jRu_n hj) ⟨fun z => absurd z (by rw [v.2.1.2.2.2.1]; exact nI_nlt (by omega) (by omega)), fun _ => ⟨nI_in (by omega) (by omega), ?_⟩⟩
      rw [nI_sub (by omega), show k + d - k = d by omega, show (3 : Int32) = nI 3 from rfl, nI_sub (by omega), v.2.1.2.1]
      refine ⟨nI_in (by omega) (by omega), ?_⟩
      rw [(s_power M _ (n := 3 - d) (by omega)).iff]
      refine ⟨_, rfl, ?_⟩
      rw [nI_clamp (by omega), nI_clamp (by omega), nI_1, (v.2.2.2.2 (k + d) h1 (by omega)).1, hw d (by omega), w64, pw_of hq4, ← Int64.ofInt_mul, ← Int64.ofInt_mul, ← Int64.ofInt_add]
      have nx := ih (d + 1) (by omega) (by omega) (by omega)
      have e1 : lmS q A B k (d + 1) = lmS q A B k d + (B (k + d)).toInt * wI q (wl 0 A B) (we 0 A B) d * (q : Int) ^ (3 - d) := by
        show _ + lb q B (k + d) * _ * _ = _
        have : lb q B (k + d) = (B (k + d)).toInt := by
          unfold lb
          rw [if_neg (by omega), if_pos (by omega)]
        rw [this]
        rfl
      rw [e1] at nx
      exact nx
  have go : ∀ d, d ≤ 4 - k → 1 ≤ k + d → jTo nX2_missPart (31, [(0, .ref (4 + 4 * j)), (1, .int (nI k)), (2, .ref 57), (3, .long (Int64.ofInt (lmS q A B k d))), (5, .int (nI (k + d)))], [], M) (some (some (.long (Int64.ofInt (lm q s A B k))))) M := by
    intro d hd h1
    by_cases z : m < k + d
    · exact fin d hd z
    · exact lp (m + 1 - (k + d)) d hd (by omega) h1
  refine v_X2_missPart_0 (jRu_n hj) ⟨fun z => ?_, fun z => ?_⟩
  · have k0 : k = 0 := by
      rcases Nat.eq_zero_or_pos k with y | y
      · exact y
      · exact absurd z (nI_ne0 y (by omega))
    subst k0
    rw [v.2.1.2.1]
    refine ((s_power M _ (n := 3) (by decide)).iff _).mpr ⟨_, rfl, ?_⟩
    have := go 1 (by omega) (by omega)
    have e1 : lmS q A B 0 1 = (q : Int) * (q : Int) ^ 3 := by
      show 0 + lb q B (0 + 0) * wI q (wl 0 A B) (we 0 A B) 0 * (q : Int) ^ 3 = _
      show 0 + (q : Int) * 1 * (q : Int) ^ 3 = _
      rw [Int.zero_add, Int.mul_one]
    rw [e1, Int64.ofInt_mul, ← pw_of hq4 3] at this
    rw [w64, nI_toInt (by omega)]
    rw [w64, nI_toInt (by omega)] at this
    exact this
  · have k1 : 1 ≤ k := Nat.pos_of_ne_zero (fun y => z (by rw [y]; rfl))
    have := go 0 (by omega) (by omega)
    have k2 : ¬ nI k < 1 := fun y => absurd ((nI_ltI (a := k) (b := 1) (by omega) (by omega)).mp y) (by omega)
    rw [if_neg k2]
    exact this
theorem c_wipe {M0 : jM} : jEv nX0_wipeCells (0, [(0, .ref 44)], [], M0) (fun o M' => o = some none ∧ M'.1 = M0.1 ∧ (∀ a k, ¬ (46 ≤ a ∧ a ≤ 49) → M'.2 a k = M0.2 a k) ∧ ∀ i c, i < 4 → c < 4 → M'.2 (46 + i) c = 0) := by
  have lp2 : ∀ (i : Nat), i < 4 → (∀ M, M.1 = M0.1 → (∀ a k, ¬ (46 ≤ a ∧ a ≤ 49) → M.2 a k = M0.2 a k) → (∀ i' c, i' < i + 1 → c < 4 → M.2 (46 + i') c = 0) → jEv nX0_wipeCells (2, [(0, .ref 44), (1, .int (nI (i + 1)))], [], M) (fun o M' => o = some none ∧ M'.1 = M0.1 ∧ (∀ a k, ¬ (46 ≤ a ∧ a ≤ 49) → M'.2 a k = M0.2 a k) ∧ ∀ i c, i < 4 → c < 4 → M'.2 (46 + i) c = 0)) → ∀ (d c : Nat), c + d = 4 → ∀ M, M.1 = M0.1 → (∀ a k, ¬ (46 ≤ a ∧ a ≤ 49) → M.2 a k = M0.2 a k) → (∀ i' c, i' < i → c < 4 → M.2 (46 + i') c = 0) → (∀ x, x < c → M.2 (46 + i) x = 0) → jEv nX0_wipeCells (9, [(0, .ref 44), (1, .int (nI i)), (2, .int (nI c))], [], M) (fun o M' => o = some none ∧ M'.1 = M0.1 ∧ (∀ a k, ¬ (46 ≤ a ∧ a ≤ 49) → M'.2 a k = M0.2 a k) ∧ ∀ i c, i < 4 → c < 4 → M'.2 (46 + i) c = 0) := by
    intro i hi nx d
    induction d with
    | zero =>
      intro c hc M f1 f2 s1 s2
      have : c = 4 := by omega
      subst this
      refine v_X0_wipeCells_9 ⟨fun _ => ?_, fun z => absurd (by decide) z⟩
      rw [nI_1]
      refine nx M f1 f2 (fun i' x hi' hx => ?_)
      by_cases z : i' = i
      · subst z; exact s2 x hx
      · exact s1 i' x (by omega) hx
    | succ d ih =>
      intro c hc M f1 f2 s1 s2
      refine v_X0_wipeCells_9 ⟨fun z => absurd z (nI_ge (b := 4) (by omega) (by omega)), fun _ => ⟨nI_in (by omega) (by omega), nI_in (by omega) (by omega), fun M2 e2 => ?_⟩⟩
      rw [nI_clamp (by omega), nI_clamp (by omega)] at e2
      rw [nI_1]
      refine ih (c + 1) (by omega) M2 (by rw [e2]; exact f1) (fun a k ha => by rw [e2, jsl_at, if_neg (by omega)]; exact f2 a k ha) (fun i' x hi' hx => by rw [e2, jsl_at, if_neg (by omega)]; exact s1 i' x hi' hx) (fun x hx => ?_)
      rw [e2, jsl_at]
      by_cases z : x = c
      · rw [if_pos ⟨rfl, z⟩]
      · rw [if_neg (fun y => z y.2)]; exact s2 x (by omega)
  have lp : ∀ (d i : Nat), i + d = 4 → ∀ M, M.1 = M0.1 → (∀ a k, ¬ (46 ≤ a ∧ a ≤ 49) → M.2 a k = M0.2 a k) → (∀ i' c, i' < i → c < 4 → M.2 (46 + i') c = 0) → jEv nX0_wipeCells (2, [(0, .ref 44), (1, .int (nI i))], [], M) (fun o M' => o = some none ∧ M'.1 = M0.1 ∧ (∀ a k, ¬ (46 ≤ a ∧ a ≤ 49) → M'.2 a k = M0.2 a k) ∧ ∀ i c, i < 4 → c < 4 → M'.2 (46 + i) c = 0) := by
    intro d
    induction d with
    | zero =>
      intro i hi M f1 f2 s1
      have : i = 4 := by omega
      subst this
      exact v_X0_wipeCells_2 ⟨fun _ => ⟨rfl, f1, f2, s1⟩, fun z => absurd (by decide) z⟩
    | succ d ih =>
      intro i hi M f1 f2 s1
      exact v_X0_wipeCells_2 ⟨fun z => absurd z (nI_ge (b := 4) (by omega) (by omega)), fun _ => lp2 i (by omega) (fun M' g1 g2 g3 => ih (i + 1) (by omega) M' g1 g2 g3) 4 0 (by omega) M f1 f2 s1 (fun x hx => absurd hx (by omega))⟩
  exact v_X0_wipeCells_0 (lp 4 0 (by omega) M0 rfl (fun _ _ _ => rfl) (fun i' c hi' => absurd hi' (by omega)))
