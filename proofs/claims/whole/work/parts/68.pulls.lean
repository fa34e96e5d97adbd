/-! pulls and pulled misses, both sides -/
def aPf (q p : Nat) (A x : Nat → Int32) (t u : Nat) : Int64 := if p ≤ u then (pD q A u t).toInt64 * mT q p A x u else 0
def aQf (q p : Nat) (A : Nat → Int32) (t t' u : Nat) : Int64 := if p ≤ u then (pD q A u t).toInt64 * (pD q A u t').toInt64 else 0
def aP (q p n : Nat) (A x : Nat → Int32) (t : Nat) : Int64 := sL (aPf q p A x t) n
def aQ (q p n : Nat) (A : Nat → Int32) (t t' : Nat) : Int64 := sL (aQf q p A t t') n
theorem c_pulled {M : jM} {n j q p m s : Nat} {x A B : Nat → Int32} (hj : j < 6) (h : vW M n x) (v : vR M j q p m s A B) {t : Nat} (ht : t < n) (hp : p ≤ n) : jTo nX4_pulledMisses (0, [(0, .ref 41), (1, .ref (4 + 4 * j)), (2, .int (nI t))], [], M) (some (some (.long (aP q p n A x t)))) M := by
  have hn := h.1
  have lp : ∀ (d u : Nat), p ≤ u → u + d = n → jTo nX4_pulledMisses (8, [(0, .ref 41), (1, .ref (4 + 4 * j)), (2, .int (nI t)), (3, .long (sL (aPf q p A x t) u)), (5, .int (nI u))], [], M) (some (some (.long (aP q p n A x t)))) M := by
    intro d
    induction d with
    | zero =>
      intro u _ hu
      have : u = n := by omega
      subst this
      exact v_X4_pulledMisses_8 (jRu_n hj) ⟨fun _ => ⟨rfl, rfl⟩, fun z => absurd (by rw [h.2.1]; exact Int32.le_refl _) z⟩
    | succ d ih =>
      intro u hpu hu
      refine v_X4_pulledMisses_8 (jRu_n hj) ⟨fun z => absurd z (by rw [h.2.1]; exact nI_ge (by omega) (by omega)), fun _ => ?_⟩
      rw [(c_pullD hj v (t := u) (u := t) (by omega) (by omega)).iff]
      refine ⟨_, rfl, ?_⟩
      rw [(c_miss hj h v hpu (by omega)).iff]
      refine ⟨_, rfl, ?_⟩
      have nx := ih (u + 1) (by omega) (by omega)
      rw [show sL (aPf q p A x t) (u + 1) = sL (aPf q p A x t) u + (pD q A u t).toInt64 * mT q p A x u by show _ + aPf q p A x t u = _; unfold aPf; rw [if_pos hpu]] at nx
      rw [nI_1]
      exact nx
  refine v_X4_pulledMisses_0 (jRu_n hj) ?_
  rw [v.2.1.2.2.1]
  have := lp (n - p) p (Nat.le_refl p) (by omega)
  rw [sL_zero (fun i hi => by unfold aPf; rw [if_neg (by omega)])] at this
  exact this
theorem c_joint {M : jM} {n j q p m s : Nat} {x A B : Nat → Int32} (hj : j < 6) (h : vW M n x) (v : vR M j q p m s A B) {t t' : Nat} (ht : t < n) (ht' : t' < n) (hp : p ≤ n) : jTo nX4_jointPulls (0, [(0, .ref 41), (1, .ref (4 + 4 * j)), (2, .int (nI t)), (3, .int (nI t'))], [], M) (some (some (.long (aQ q p n A t t')))) M := by
  have hn := h.1
  have hq := v.1.2.1
  have lp : ∀ (d u : Nat), p ≤ u → u + d = n → jTo nX4_jointPulls (9, [(0, .ref 41), (1, .ref (4 + 4 * j)), (2, .int (nI t)), (3, .int (nI t')), (4, .long (sL (aQf q p A t t') u)), (6, .int (nI u))], [], M) (some (some (.long (aQ q p n A t t')))) M := by
    intro d
    induction d with
    | zero =>
      intro u _ hu
      have : u = n := by omega
      subst this
      exact v_X4_jointPulls_9 (jRu_n hj) ⟨fun _ => ⟨rfl, rfl⟩, fun z => absurd (by rw [h.2.1]; exact Int32.le_refl _) z⟩
    | succ d ih =>
      intro u hpu hu
      refine v_X4_jointPulls_9 (jRu_n hj) ⟨fun z => absurd z (by rw [h.2.1]; exact nI_ge (by omega) (by omega)), fun _ => ?_⟩
      rw [(c_pullD hj v (t := u) (u := t) (by omega) (by omega)).iff]
      refine ⟨_, rfl, ?_⟩
      rw [(c_pullD hj v (t := u) (u := t') (by omega) (by omega)).iff]
      refine ⟨_, rfl, ?_⟩
      have nx := ih (u + 1) (by omega) (by omega)
      rw [show sL (aQf q p A t t') (u + 1) = sL (aQf q p A t t') u + (pD q A u t * pD q A u t').toInt64 by show _ + aQf q p A t t' u = _; unfold aQf; rw [if_pos hpu, mulw (pD_b hq v.rA u t) (pD_b hq v.rA u t') (by decide)]] at nx
      rw [nI_1]
      exact nx
  refine v_X4_jointPulls_0 (jRu_n hj) ?_
  rw [v.2.1.2.2.1]
  have := lp (n - p) p (Nat.le_refl p) (by omega)
  rw [sL_zero (fun i hi => by unfold aQf; rw [if_neg (by omega)])] at this
  exact this
theorem c_squared {M : jM} {n j q p m s : Nat} {x A B : Nat → Int32} (hj : j < 6) (h : vW M n x) (v : vR M j q p m s A B) {t : Nat} (ht : t < n) (hp : p ≤ n) : jTo nX4_squaredPulls (0, [(0, .ref 41), (1, .ref (4 + 4 * j)), (2, .int (nI t))], [], M) (some (some (.long (aQ q p n A t t)))) M := by
  refine v_X4_squaredPulls_0 (jRu_n hj) ?_
  rw [(c_joint hj h v ht ht hp).iff]
  exact ⟨_, rfl, rfl, rfl⟩
theorem pD64 {q p : Nat} {A : Nat → Int32} (hq : q ≤ 4) (h : rA p A) (t u : Nat) : aL (pD q A t u).toInt64 8 := aL_w (pD_b hq h t u)
theorem aP_b {q p n : Nat} {A x : Nat → Int32} {M : jM} (hq : q ≤ 4) (hp : p ≤ 3) (h : rA p A) (w : vW M n x) (t : Nat) : aL (aP q p n A x t) 307200 := by
  refine (sL_aL (C := 5120) (N := 60) (by decide) w.1 (fun i hi => ?_)).mono (Nat.mul_le_mul_right 5120 w.1)
  unfold aPf
  split
  · exact (aL_mul (pD64 hq h i t) (mT_b hq hp h w hi) (by decide)).2
  · exact aL_0 _
theorem aQ_b {q p n : Nat} {A x : Nat → Int32} {M : jM} (hq : q ≤ 4) (h : rA p A) (w : vW M n x) (t t' : Nat) : aL (aQ q p n A t t') 3840 := by
  refine (sL_aL (C := 64) (N := 60) (by decide) w.1 (fun i hi => ?_)).mono (Nat.mul_le_mul_right 64 w.1)
  unfold aQf
  split
  · exact (aL_mul (pD64 hq h i t) (pD64 hq h i t') (by decide)).2
  · exact aL_0 _
theorem sL_pos {f : Nat → Int64} {C : Nat} (hC : 60 * C < 9223372036854775808) : ∀ {n : Nat}, n ≤ 60 → (∀ i, i < n → 0 ≤ (f i).toInt ∧ aL (f i) C) → 0 ≤ (sL f n).toInt ∧ (sL f n = 0 → ∀ i, i < n → f i = 0)
  | 0, _, _ => ⟨by show 0 ≤ (0 : Int64).toInt; rw [Int64.toInt_zero]; exact Int.le_refl 0, fun _ i hi => absurd hi (by omega)⟩
  | n + 1, hn, h => by
    obtain ⟨h1, h2⟩ := sL_pos hC (n := n) (by omega) (fun i hi => h i (by omega))
    have b := sL_aL (C := C) (N := 60) hC (n := n) (by omega) (fun i hi => (h i (by omega)).2)
    obtain ⟨h3, h4⟩ := h n (by omega)
    have e := (aL_add b h4 (by
      have : n * C + C = (n + 1) * C := (Nat.succ_mul n C).symm
      have : (n + 1) * C ≤ 60 * C := Nat.mul_le_mul_right C hn
      omega)).1
    refine ⟨by show 0 ≤ (sL f n + f n).toInt; omega, fun z i hi => ?_⟩
    have z' : (sL f n + f n).toInt = 0 := by
      have : sL f n + f n = 0 := z
      rw [this, Int64.toInt_zero]
    by_cases y : i = n
    · subst y; exact Int64.toInt_inj.mp (by rw [Int64.toInt_zero]; omega)
    · exact h2 (Int64.toInt_inj.mp (by rw [Int64.toInt_zero]; omega)) i (by omega)
theorem aQ_pos {q p n : Nat} {A x : Nat → Int32} {M : jM} (hq : q ≤ 4) (h : rA p A) (w : vW M n x) (t : Nat) : 0 ≤ (aQ q p n A t t).toInt ∧ (aQ q p n A t t = 0 → aP q p n A x t = 0) := by
  have b : ∀ i, i < n → 0 ≤ (aQf q p A t t i).toInt ∧ aL (aQf q p A t t i) 64 := by
    intro i hi
    unfold aQf
    split
    · have e := aL_mul (pD64 hq h i t) (pD64 hq h i t) (by decide)
      refine ⟨?_, e.2⟩
      rw [e.1]
      rcases Int.le_total 0 (pD q A i t).toInt64.toInt with z | z
      · exact Int.mul_nonneg z z
      · exact Int.mul_nonneg_of_nonpos_of_nonpos z z
    · exact ⟨by rw [Int64.toInt_zero]; exact Int.le_refl 0, aL_0 _⟩
  obtain ⟨h1, h2⟩ := sL_pos (by decide) w.1 b
  refine ⟨h1, fun z => sL_zero (fun i hi => ?_)⟩
  have := h2 z i hi
  unfold aQf at this
  unfold aPf
  split
  · next y =>
    rw [if_pos y] at this
    have e := aL_mul (pD64 hq h i t) (pD64 hq h i t) (by decide)
    rw [this, Int64.toInt_zero] at e
    have : (pD q A i t).toInt64 = 0 := by
      refine Int64.toInt_inj.mp ?_
      rw [Int64.toInt_zero]
      rcases Int.mul_eq_zero.mp e.1.symm with g | g <;> exact g
    rw [this, Int64.zero_mul]
  · rfl
