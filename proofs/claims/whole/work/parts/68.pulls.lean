/-! pulls and pulled misses, both sides -/
def aPf (q p : Nat) (A x : Nat → Int32) (t u : Nat) : Int64 := if p ≤ u then (pD q A u t).toInt64 * mT q p A x u else 0
def aQf (q p : Nat) (A : Nat → Int32) (t t' u : Nat) : Int64 := if p ≤ u then (pD q A u t).toInt64 * (pD q A u t').toInt64 else 0
def aP (q p n : Nat) (A x : Nat → Int32) (t : Nat) : Int64 := sL (aPf q p A x t) n
def aQ (q p n : Nat) (A : Nat → Int32) (t t' : Nat) : Int64 := sL (aQf q p A t t') n
/-- beyond the misses that feel a place nothing is pulled -/
theorem pD_z {q p : Nat} {A : Nat → Int32} (h : rA p A) {t u : Nat} (w : u < t ∨ t + p < u) : pD q A u t = 0 := by
  unfold pD
  by_cases y : t ≤ u
  · rw [if_pos y]
    unfold pl
    rw [if_neg (by omega)]
    by_cases z : u - t ≤ 3
    · rw [if_pos z, (h (u - t) (by omega) (by omega)).2.2 (by omega)]
      decide
    · rw [if_neg z]
  · rw [if_neg y]
theorem sL_tail {f : Nat → Int64} {u : Nat} : ∀ {d : Nat}, (∀ i, u ≤ i → i < u + d → f i = 0) → sL f (u + d) = sL f u
  | 0, _ => rfl
  | d + 1, h => by
    show sL f (u + d) + f (u + d) = _
    rw [sL_tail (fun i a b => h i a (by omega)), h (u + d) (by omega) (by omega)]
    exact Int64.add_zero _
theorem aPf_z {q p : Nat} {A x : Nat → Int32} (h : rA p A) {t u : Nat} (w : u < p ∨ u < t ∨ t + p < u) : aPf q p A x t u = 0 := by
  unfold aPf
  by_cases y : p ≤ u
  · rw [if_pos y, pD_z h (by omega), show (0 : Int32).toInt64 = 0 from rfl, Int64.zero_mul]
  · rw [if_neg y]
theorem aQf_z {q p : Nat} {A : Nat → Int32} (h : rA p A) {t t' u : Nat} (w : u < p ∨ u < t ∨ t + p < u) : aQf q p A t t' u = 0 := by
  unfold aQf
  by_cases y : p ≤ u
  · rw [if_pos y, pD_z h (by omega), show (0 : Int32).toInt64 = 0 from rfl, Int64.zero_mul]
  · rw [if_neg y]
theorem nI_max {p t : Nat} (hp : p < 2 ^ 31) (ht : t < 2 ^ 31) : (if nI p < nI t then nI t else nI p) = nI (max p t) := by
  by_cases q : p < t
  · rw [if_pos (nI_lt q ht), Nat.max_eq_right (by omega)]
  · rw [if_neg (Int32.not_lt.mpr ((nI_leI ht hp).mpr (by omega))), Nat.max_eq_left (by omega)]
theorem c_pulled {M : jM} {n j q p m s : Nat} {x A B : Nat → Int32} (hj : j < 6) (h : vW M n x) (v : vR M j q p m s A B) {t : Nat} (ht : t < n) (hp : p ≤ n) : jTo nX4_pulledMisses (0, [(0, .ref 41), (1, .ref (4 + 4 * j)), (2, .int (nI t))], [], M) (some (some (.long (aP q p n A x t)))) M := by
  have hn := h.1
  have lp : ∀ (d u : Nat), p ≤ u → t ≤ u → u + d = n → jTo nX4_pulledMisses (12, [(0, .ref 41), (1, .ref (4 + 4 * j)), (2, .int (nI t)), (3, .long (sL (aPf q p A x t) u)), (5, .int (nI u))], [], M) (some (some (.long (aP q p n A x t)))) M := by
    intro d
    induction d with
    | zero =>
      intro u _ _ hu
      have : u = n := by omega
      subst this
      exact v_X4_pulledMisses_12 (jRu_n hj) ⟨fun _ => ⟨rfl, rfl⟩, fun z => absurd (by rw [h.2.1]; exact Int32.le_refl _) z⟩
    | succ d ih =>
      intro u hpu htu hu
      refine v_X4_pulledMisses_12 (jRu_n hj) ⟨fun z => absurd z (by rw [h.2.1]; exact nI_ge (by omega) (by omega)), fun _ => ?_⟩
      rw [v.2.1.2.2.1, nI_add]
      refine ⟨fun z => ⟨?_, rfl⟩, fun _ => ?_⟩
      · have w : t + p < u := by
          rcases Nat.lt_or_ge (t + p) u with y | y
          · exact y
          · exact absurd z (Int32.not_lt.mpr ((nI_leI (by omega) (by omega)).mpr y))
        have e : aP q p n A x t = sL (aPf q p A x t) u := by
          unfold aP
          rw [← hu]
          exact sL_tail (fun i a _ => aPf_z v.rA (by omega))
        rw [e]
      rw [(c_pullD hj v (t := u) (u := t) (by omega) (by omega)).iff]
      refine ⟨_, rfl, ?_⟩
      rw [(c_miss hj h v hpu (by omega)).iff]
      refine ⟨_, rfl, ?_⟩
      have nx := ih (u + 1) (by omega) (by omega) (by omega)
      rw [show sL (aPf q p A x t) (u + 1) = sL (aPf q p A x t) u + (pD q A u t).toInt64 * mT q p A x u by show _ + aPf q p A x t u = _; unfold aPf; rw [if_pos hpu]] at nx
      rw [nI_1]
      exact nx
  refine v_X4_pulledMisses_0 (jRu_n hj) ?_
  have hp3 := v.1.2.2.1
  rw [v.2.1.2.2.1, nI_max (by omega) (by omega)]
  have := lp (n - max p t) (max p t) (by omega) (by omega) (by omega)
  rw [sL_zero (fun i hi => aPf_z v.rA (by omega))] at this
  exact this
theorem c_joint {M : jM} {n j q p m s : Nat} {x A B : Nat → Int32} (hj : j < 6) (h : vW M n x) (v : vR M j q p m s A B) {t t' : Nat} (ht : t < n) (ht' : t' < n) (hp : p ≤ n) : jTo nX4_jointPulls (0, [(0, .ref 41), (1, .ref (4 + 4 * j)), (2, .int (nI t)), (3, .int (nI t'))], [], M) (some (some (.long (aQ q p n A t t')))) M := by
  have hn := h.1
  have hq := v.1.2.1
  have lp : ∀ (d u : Nat), p ≤ u → t ≤ u → u + d = n → jTo nX4_jointPulls (13, [(0, .ref 41), (1, .ref (4 + 4 * j)), (2, .int (nI t)), (3, .int (nI t')), (4, .long (sL (aQf q p A t t') u)), (6, .int (nI u))], [], M) (some (some (.long (aQ q p n A t t')))) M := by
    intro d
    induction d with
    | zero =>
      intro u _ _ hu
      have : u = n := by omega
      subst this
      exact v_X4_jointPulls_13 (jRu_n hj) ⟨fun _ => ⟨rfl, rfl⟩, fun z => absurd (by rw [h.2.1]; exact Int32.le_refl _) z⟩
    | succ d ih =>
      intro u hpu htu hu
      refine v_X4_jointPulls_13 (jRu_n hj) ⟨fun z => absurd z (by rw [h.2.1]; exact nI_ge (by omega) (by omega)), fun _ => ?_⟩
      rw [v.2.1.2.2.1, nI_add]
      refine ⟨fun z => ⟨?_, rfl⟩, fun _ => ?_⟩
      · have w : t + p < u := by
          rcases Nat.lt_or_ge (t + p) u with y | y
          · exact y
          · exact absurd z (Int32.not_lt.mpr ((nI_leI (by omega) (by omega)).mpr y))
        have e : aQ q p n A t t' = sL (aQf q p A t t') u := by
          unfold aQ
          rw [← hu]
          exact sL_tail (fun i a _ => aQf_z v.rA (by omega))
        rw [e]
      rw [(c_pullD hj v (t := u) (u := t) (by omega) (by omega)).iff]
      refine ⟨_, rfl, ?_⟩
      rw [(c_pullD hj v (t := u) (u := t') (by omega) (by omega)).iff]
      refine ⟨_, rfl, ?_⟩
      have nx := ih (u + 1) (by omega) (by omega) (by omega)
      rw [show sL (aQf q p A t t') (u + 1) = sL (aQf q p A t t') u + (pD q A u t * pD q A u t').toInt64 by show _ + aQf q p A t t' u = _; unfold aQf; rw [if_pos hpu, mulw (pD_b hq v.rA u t) (pD_b hq v.rA u t') (by decide)]] at nx
      rw [nI_1]
      exact nx
  refine v_X4_jointPulls_0 (jRu_n hj) ?_
  have hp3 := v.1.2.2.1
  rw [v.2.1.2.2.1, nI_max (by omega) (by omega)]
  have := lp (n - max p t) (max p t) (by omega) (by omega) (by omega)
  rw [sL_zero (fun i hi => aQf_z v.rA (by omega))] at this
  exact this
theorem c_squared {M : jM} {n j q p m s : Nat} {x A B : Nat → Int32} (hj : j < 6) (h : vW M n x) (v : vR M j q p m s A B) {t : Nat} (ht : t < n) (hp : p ≤ n) : jTo nX4_squaredPulls (0, [(0, .ref 41), (1, .ref (4 + 4 * j)), (2, .int (nI t))], [], M) (some (some (.long (aQ q p n A t t)))) M := by
  refine v_X4_squaredPulls_0 (jRu_n hj) ?_
  rw [(c_joint hj h v ht ht hp).iff]
  exact ⟨_, rfl, rfl, rfl⟩
theorem pD64 {q p : Nat} {A : Nat → Int32} (hq : q ≤ 4) (h : rA p A) (t u : Nat) : aL (pD q A t u).toInt64 8 := aL_w (pD_b hq h t u)
theorem aP_b {q p n : Nat} {A x : Nat → Int32} {M : jM} (hq : q ≤ 4) (hp : p ≤ 3) (h : rA p A) (w : vW M n x) (t : Nat) : aL (aP q p n A x t) 307200 := by
  refine (sL_aL (C := 5120) (N := 60) (by decide) w.1 (fun i hi => ?_)).mono (Nat.mul_le_mul_right 5120 w.1)
  unfold aPf
  split
  · exact (aL_mul (pD64 hq h i t) (mT_b hq hp h w hi) (by decide)).2
  · exact aL_0 _
theorem aQ_b {q p n : Nat} {A x : Nat → Int32} {M : jM} (hq : q ≤ 4) (h : rA p A) (w : vW M n x) (t t' : Nat) : aL (aQ q p n A t t') 3840 := by
  refine (sL_aL (C := 64) (N := 60) (by decide) w.1 (fun i hi => ?_)).mono (Nat.mul_le_mul_right 64 w.1)
  unfold aQf
  split
  · exact (aL_mul (pD64 hq h i t) (pD64 hq h i t') (by decide)).2
  · exact aL_0 _
theorem sL_pos {f : Nat → Int64} {C : Nat} (hC : 60 * C < 9223372036854775808) : ∀ {n : Nat}, n ≤ 60 → (∀ i, i < n → 0 ≤ (f i).toInt ∧ aL (f i) C) → 0 ≤ (sL f n).toInt ∧ (sL f n = 0 → ∀ i, i < n → f i = 0)
  | 0, _, _ => ⟨by show 0 ≤ (0 : Int64).toInt; rw [Int64.toInt_zero]; exact Int.le_refl 0, fun _ i hi => absurd hi (by omega)⟩
  | n + 1, hn, h => by
    obtain ⟨h1, h2⟩ := sL_pos hC (n := n) (by omega) (fun i hi => h i (by omega))
    have b := sL_aL (C := C) (N := 60) hC (n := n) (by omega) (fun i hi => (h i (by omega)).2)
    obtain ⟨h3, h4⟩ := h n (by omega)
    have e := (aL_add b h4 (by
      have : n * C + C = (n + 1) * C := (Nat.succ_mul n C).symm
      have : (n + 1) * C ≤ 60 * C := Nat.mul_le_mul_right C hn
      omega)).1
    refine ⟨by show 0 ≤ (sL f n + f n).toInt; omega, fun z i hi => ?_⟩
    have z' : (sL f n + f n).toInt = 0 := by
      have : sL f n + f n = 0 := z
      rw [this, Int64.toInt_zero]
    by_cases y : i = n
    · subst y; exact Int64.toInt_inj.mp (by rw [Int64.toInt_zero]; omega)
    · exact h2 (Int64.toInt_inj.mp (by rw [Int64.toInt_zero]; omega)) i (by omega)
theorem aQ_pos {q p n : Nat} {A x : Nat → Int32} {M : jM} (hq : q ≤ 4) (h : rA p A) (w : vW M n x) (t : Nat) : 0 ≤ (aQ q p n A t t).toInt ∧ (aQ q p n A t t = 0 → aP q p n A x t = 0) := by
  have b : ∀ i, i < n → 0 ≤ (aQf q p A t t i).toInt ∧ aL (aQf q p A t t i) 64 := by
    intro i hi
    unfold aQf
    split
    · have e := aL_mul (pD64 hq h i t) (pD64 hq h i t) (by decide)
      refine ⟨?_, e.2⟩
      rw [e.1]
      rcases Int.le_total 0 (pD q A i t).toInt64.toInt with z | z
      · exact Int.mul_nonneg z z
      · exact Int.mul_nonneg_of_nonpos_of_nonpos z z
    · exact ⟨by rw [Int64.toInt_zero]; exact Int.le_refl 0, aL_0 _⟩
  obtain ⟨h1, h2⟩ := sL_pos (by decide) w.1 b
  refine ⟨h1, fun z => sL_zero (fun i hi => ?_)⟩
  have := h2 z i hi
  unfold aQf at this
  unfold aPf
  split
  · next y =>
    rw [if_pos y] at this
    have e := aL_mul (pD64 hq h i t) (pD64 hq h i t) (by decide)
    rw [this, Int64.toInt_zero] at e
    have : (pD q A i t).toInt64 = 0 := by
      refine Int64.toInt_inj.mp ?_
      rw [Int64.toInt_zero]
      rcases Int.mul_eq_zero.mp e.1.symm with g | g <;> exact g
    rw [this, Int64.zero_mul]
  · rfl
