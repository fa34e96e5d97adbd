/-! squares: both -/
/-- bounded longs -/
def aL (v : Int64) (C : Nat) : Prop := v.toInt.natAbs ≤ C
theorem aL.mono {v : Int64} {C D : Nat} (h : aL v C) (g : C ≤ D) : aL v D := Nat.le_trans h g
theorem aL.ne {v : Int64} {C : Nat} (h : aL v C) (hC : C < 9223372036854775808) : v.toInt ≠ -9223372036854775808 := by
  unfold aL at h; omega
theorem aL_add {a b : Int64} {C D : Nat} (ha : aL a C) (hb : aL b D) (h : C + D < 9223372036854775808) : (a + b).toInt = a.toInt + b.toInt ∧ aL (a + b) (C + D) := by
  unfold aL at *
  have e : (a + b).toInt = a.toInt + b.toInt := fb_addL (by omega) (by omega)
  exact ⟨e, by rw [e]; omega⟩
theorem aL_sub {a b : Int64} {C D : Nat} (ha : aL a C) (hb : aL b D) (h : C + D < 9223372036854775808) : (a - b).toInt = a.toInt - b.toInt ∧ aL (a - b) (C + D) := by
  unfold aL at *
  have e : (a - b).toInt = a.toInt - b.toInt := fb_subL (by omega) (by omega)
  exact ⟨e, by rw [e]; omega⟩
theorem aL_mul {a b : Int64} {C D : Nat} (ha : aL a C) (hb : aL b D) (h : C * D < 9223372036854775808) : (a * b).toInt = a.toInt * b.toInt ∧ aL (a * b) (C * D) := by
  unfold aL at *
  have l : (a.toInt * b.toInt).natAbs ≤ C * D := by rw [Int.natAbs_mul]; exact Nat.mul_le_mul ha hb
  have e : (a * b).toInt = a.toInt * b.toInt := fb_mulL (by omega) (by omega)
  exact ⟨e, by rw [e]; exact l⟩
theorem aL_neg {a : Int64} {C : Nat} (ha : aL a C) (h : C < 9223372036854775808) : (-a).toInt = -a.toInt ∧ aL (-a) C := by
  unfold aL at *
  have e : (-a).toInt = -a.toInt := by rw [Int64.toInt_neg]; exact fb_bmodL (by omega) (by omega)
  exact ⟨e, by rw [e]; omega⟩
theorem aL_0 (C : Nat) : aL 0 C := by unfold aL; rw [Int64.toInt_zero]; exact Nat.zero_le C
/-- sums of longs -/
def sL (f : Nat → Int64) : Nat → Int64
  | 0 => 0
  | n + 1 => sL f n + f n
theorem sL_congr {f g : Nat → Int64} : ∀ {n : Nat}, (∀ i, i < n → f i = g i) → sL f n = sL g n
  | 0, _ => rfl
  | n + 1, h => by unfold sL; rw [sL_congr (fun i hi => h i (by omega)), h n (by omega)]
theorem sL_zero {f : Nat → Int64} : ∀ {n : Nat}, (∀ i, i < n → f i = 0) → sL f n = 0
  | 0, _ => rfl
  | n + 1, h => by unfold sL; rw [sL_zero (fun i hi => h i (by omega)), h n (by omega)]; rfl
theorem sL_aL {f : Nat → Int64} {C N : Nat} (hN : N * C < 9223372036854775808) : ∀ {n : Nat}, n ≤ N → (∀ i, i < n → aL (f i) C) → aL (sL f n) (n * C)
  | 0, _, _ => aL_0 _
  | n + 1, hn, h => by
    have l : (n + 1) * C ≤ N * C := Nat.mul_le_mul_right C hn
    have e : (n + 1) * C = n * C + C := Nat.succ_mul n C
    unfold sL
    rw [e]
    exact (aL_add (sL_aL hN (by omega) (fun i hi => h i (by omega))) (h n (by omega)) (by omega)).2
/-- what a distance counts -/
def pl (q : Nat) (A : Nat → Int32) (i : Nat) : Int32 := if i = 0 then nI q else if i ≤ 3 then -(A i) else 0
def pD (q : Nat) (A : Nat → Int32) (t u : Nat) : Int32 := if u ≤ t then pl q A (t - u) else 0
def rA (p : Nat) (A : Nat → Int32) : Prop := ∀ k, 1 ≤ k → k < 4 → -8 ≤ (A k).toInt ∧ (A k).toInt ≤ 8 ∧ (p < k → A k = 0)
theorem vR.rA {M : jM} {j q p m s : Nat} {A B : Nat → Int32} (v : vR M j q p m s A B) : rA p A := fun k k1 k2 => (v.2.2.2.1 k k1 k2).2.2
theorem neg8 {a : Int32} (h1 : -8 ≤ a.toInt) (h2 : a.toInt ≤ 8) : (-a).toInt = -a.toInt := fb_negI (by omega)
theorem pl_b {q p : Nat} {A : Nat → Int32} (hq : q ≤ 4) (h : rA p A) (i : Nat) : (pl q A i).toInt.natAbs ≤ 8 := by
  unfold pl
  split
  · rw [nI_toInt (by omega)]; omega
  · split
    · obtain ⟨h1, h2, -⟩ := h i (by omega) (by omega)
      rw [neg8 h1 h2]; omega
    · decide
theorem pD_b {q p : Nat} {A : Nat → Int32} (hq : q ≤ 4) (h : rA p A) (t u : Nat) : (pD q A t u).toInt.natAbs ≤ 8 := by
  unfold pD
  split
  · exact pl_b hq h _
  · decide
theorem c_pull {M : jM} {j q p m s : Nat} {A B : Nat → Int32} (hj : j < 6) (v : vR M j q p m s A B) {i : Nat} (hi : i < 2 ^ 31) : jTo nX5_pull (0, [(0, .ref (4 + 4 * j)), (1, .int (nI i))], [], M) (some (some (.int (pl q A i)))) M := by
  refine v_X5_pull_0 (jRu_n hj) ⟨fun w => ?_, fun w => ?_⟩
  · have : i = 0 := by
      rcases Nat.eq_zero_or_pos i with e | e
      · exact e
      · exact absurd w (nI_ne0 e hi)
    subst this
    exact ⟨by rw [v.2.1.2.1]; rfl, rfl⟩
  · have h0 : ¬ i = 0 := fun e => w (by rw [e]; rfl)
    rw [e_isWithin]
    by_cases h3 : i ≤ 3
    · rw [if_pos ⟨(nI_leI (a := 1) (by omega) hi).mpr (by omega), (nI_leI (b := 3) hi (by omega)).mpr h3⟩]
      refine ⟨_, rfl, fun z => absurd z (by decide), fun _ => ⟨nI_in (by omega) (by omega), ?_, rfl⟩⟩
      rw [nI_clamp hi, (v.2.2.2.1 i (by omega) (by omega)).1]
      unfold pl
      rw [if_neg h0, if_pos h3]
    · rw [if_neg (fun z => h3 ((nI_leI (b := 3) hi (by omega)).mp z.2))]
      refine ⟨_, rfl, fun _ => ⟨?_, rfl⟩, fun z => absurd rfl z⟩
      unfold pl
      rw [if_neg h0, if_neg h3]
theorem nI_subneg {t u : Nat} (h : t < u) (hu : u < 2 ^ 31) : nI t - nI u < 0 := by
  rw [Int32.lt_iff_toInt_lt, Int32.toInt_zero, fb_subI (by rw [nI_toInt (by omega), nI_toInt hu]; omega) (by rw [nI_toInt (by omega), nI_toInt hu]; omega), nI_toInt (by omega), nI_toInt hu]
  omega
theorem c_pullD {M : jM} {j q p m s : Nat} {A B : Nat → Int32} (hj : j < 6) (v : vR M j q p m s A B) {t u : Nat} (ht : t < 2 ^ 31) (hu : u < 2 ^ 31) : jTo nX5_pull (0, [(0, .ref (4 + 4 * j)), (1, .int (nI t - nI u))], [], M) (some (some (.int (pD q A t u)))) M := by
  unfold pD
  by_cases h : u ≤ t
  · rw [if_pos h, nI_sub h]
    exact c_pull hj v (by omega)
  · rw [if_neg h]
    have hn := nI_subneg (t := t) (u := u) (by omega) hu
    refine v_X5_pull_0 (jRu_n hj) ⟨fun w => absurd hn (by rw [w]; decide), fun w => ?_⟩
    rw [e_isWithin, if_neg (fun z => absurd (Int32.lt_of_lt_of_le hn (show (0 : Int32) ≤ 1 by decide)) (Int32.not_lt.mpr z.1))]
    exact ⟨_, rfl, fun _ => ⟨rfl, rfl⟩, fun z => absurd rfl z⟩
theorem m_partD {M : jM} {j q p m s : Nat} {A B : Nat → Int32} (hj : j < 6) (v : vR M j q p m s A B) {t u : Nat} (ht : t < 2 ^ 31) (hu : u < 2 ^ 31) : jTo nX8_part (0, [(0, .ref 67), (1, .int (nI j)), (2, .int (nI t)), (3, .int (nI u))], [], M) (some (some (.long (pD q A t u).toInt64))) M := by
  obtain ⟨h1, h2, h3⟩ := slot_in hj
  have hp3 := v.1.2.2.1
  unfold pD
  by_cases h : u ≤ t
  · rw [if_pos h]
    have key := v_X8_part_0 (M := M) (x1 := nI j) (x2 := nI t) (x3 := nI u) (K := fun o M' => o = some (some (.long (pl q A (t - u)).toInt64)) ∧ M' = M)
    rw [nI_sub h] at key
    refine key ⟨fun w => ⟨h2, ?_, rfl⟩, fun w => ⟨fun w2 => ?_, fun w2 => ⟨h2, ?_⟩⟩⟩
    · have e : t - u = 0 := by
        rcases Nat.eq_zero_or_pos (t - u) with e | e
        · exact e
        · exact absurd w (nI_ne0 e (by omega))
      rw [h3, v.2.2.1.2.1, e]; rfl
    · exact absurd w2 (nI_nle (Nat.pos_of_ne_zero (fun e => w (by rw [e]; rfl))) (by omega))
    · have h0 : ¬ t - u = 0 := fun e => w (by rw [e]; rfl)
      rw [h3, v.2.2.1.2.2.1]
      refine ⟨fun w3 => ?_, fun w3 => ?_⟩
      · have hlt : p < t - u := (nI_ltI (by omega) (by omega)).mp w3
        refine ⟨?_, rfl⟩
        unfold pl
        rw [if_neg h0]
        by_cases h4 : t - u ≤ 3
        · rw [if_pos h4, (v.rA (t - u) (by omega) (by omega)).2.2 hlt]; rfl
        · rw [if_neg h4]; rfl
      · have hge : t - u ≤ p := Nat.not_lt.mp (fun z => w3 (nI_lt z (by omega)))
        have e4 : 4 * nI j + nI (t - u) = nI (4 * j + (t - u)) := by rw [show (4 : Int32) = nI 4 from rfl, pk_mul, nI_add]
        rw [e4, nI_clamp (by omega), (v.2.2.2.1 (t - u) (by omega) (by omega)).2.1]
        have hin := nI_in (c := 4 * j + (t - u)) (N := 24) (by omega) (by omega)
        rw [nI_clamp (by omega)] at hin
        refine ⟨hin, ?_, rfl⟩
        unfold pl
        rw [if_neg h0, if_pos (by omega)]
  · rw [if_neg h]
    have hn := nI_subneg (t := t) (u := u) (by omega) hu
    exact v_X8_part_0 ⟨fun w => absurd hn (by rw [w]; decide), fun _ => ⟨fun _ => ⟨rfl, rfl⟩, fun w => absurd (Int32.le_of_lt hn) w⟩⟩
theorem mulw {a b : Int32} {C D : Nat} (ha : a.toInt.natAbs ≤ C) (hb : b.toInt.natAbs ≤ D) (h : C * D < 2147483648) : (a * b).toInt64 = a.toInt64 * b.toInt64 := by
  have l : (a.toInt * b.toInt).natAbs ≤ C * D := by rw [Int.natAbs_mul]; exact Nat.mul_le_mul ha hb
  refine Int64.toInt_inj.mp ?_
  rw [Int32.toInt_toInt64, fb_mulI (by omega) (by omega), fb_mulL (by rw [Int32.toInt_toInt64, Int32.toInt_toInt64]; omega) (by rw [Int32.toInt_toInt64, Int32.toInt_toInt64]; omega), Int32.toInt_toInt64, Int32.toInt_toInt64]
/-- q times the miss at t, nothing standing in the gaps -/
def mF (q : Nat) (A x : Nat → Int32) (t i : Nat) : Int64 := if x (t - i) = 100 then 0 else (pl q A i).toInt64 * (x (t - i)).toInt64
def mT (q p : Nat) (A x : Nat → Int32) (t : Nat) : Int64 := sL (mF q A x t) (p + 1)
theorem mF_b {q p n t i : Nat} {A x : Nat → Int32} {M : jM} (hq : q ≤ 4) (h : rA p A) (w : vW M n x) (hi : t - i < n) : aL (mF q A x t i) 160 := by
  unfold mF
  split
  · exact aL_0 _
  · next e =>
    obtain ⟨-, -, hx⟩ := w.2.2.2 (t - i) hi
    have hx2 := hx.resolve_left e
    refine (aL_mul (C := 8) (D := 20) ?_ ?_ (by decide)).2
    · unfold aL; rw [Int32.toInt_toInt64]; exact pl_b hq h i
    · unfold aL; rw [Int32.toInt_toInt64]; omega
theorem mT_b {q p n t : Nat} {A x : Nat → Int32} {M : jM} (hq : q ≤ 4) (hp : p ≤ 3) (h : rA p A) (w : vW M n x) (ht : t < n) : aL (mT q p A x t) 640 :=
  (sL_aL (C := 160) (N := 4) (by decide) (by omega) (fun i _ => mF_b hq h w (by omega))).mono (by omega)
theorem c_miss_loop {M : jM} {n j q p m s : Nat} {x A B : Nat → Int32} (hj : j < 6) (h : vW M n x) (v : vR M j q p m s A B) {t : Nat} (hp : p ≤ t) (ht : t < n) : ∀ (d i : Nat), i + d = p + 1 → jTo nX4_missAt (5, [(0, .ref 41), (1, .ref (4 + 4 * j)), (2, .int (nI t)), (3, .long (sL (mF q A x t) i)), (5, .int (nI i))], [], M) (some (some (.long (mT q p A x t)))) M := by
  have hp3 := v.1.2.2.1
  have hn := h.1
  intro d
  induction d with
  | zero =>
    intro i hi
    have : i = p + 1 := by omega
    subst this
    exact v_X4_missAt_5 (jRu_n hj) ⟨fun _ => ⟨rfl, rfl⟩, fun w => absurd (by rw [v.2.1.2.2.1]; exact nI_lt (by omega) (by omega)) w⟩
  | succ d ih =>
    intro i hi
    have hin := nI_in (c := t - i) (N := 60) (by omega) (by omega)
    obtain ⟨x1, x2, x3⟩ := h.2.2.2 (t - i) (by omega)
    have nx := ih (i + 1) (by omega)
    refine v_X4_missAt_5 (jRu_n hj) ⟨fun w => absurd w (by rw [v.2.1.2.2.1]; exact nI_nlt (by omega) (by omega)), fun _ => ⟨by rw [nI_sub (by omega)]; exact hin, ?_⟩⟩
    rw [nI_sub (by omega), nI_clamp (by omega), x1, nI_1]
    refine ⟨fun w => ?_, fun w => ?_⟩
    · rw [show sL (mF q A x t) (i + 1) = sL (mF q A x t) i + 0 by show _ + mF q A x t i = _; unfold mF; rw [if_pos w]] at nx
      exact nx
    · rw [(c_pull hj v (by omega)).iff]
      refine ⟨_, rfl, ?_⟩
      rw [show sL (mF q A x t) (i + 1) = sL (mF q A x t) i + (pl q A i * x (t - i)).toInt64 by
        show _ + mF q A x t i = _
        unfold mF
        rw [if_neg w, mulw (C := 8) (D := 20) (pl_b v.1.2.1 v.rA i) (by have := x3.resolve_left w; omega) (by decide)]] at nx
      exact nx
theorem c_miss {M : jM} {n j q p m s : Nat} {x A B : Nat → Int32} (hj : j < 6) (h : vW M n x) (v : vR M j q p m s A B) {t : Nat} (hp : p ≤ t) (ht : t < n) : jTo nX4_missAt (0, [(0, .ref 41), (1, .ref (4 + 4 * j)), (2, .int (nI t))], [], M) (some (some (.long (mT q p A x t)))) M :=
  v_X4_missAt_0 (jRu_n hj) (c_miss_loop hj h v hp ht (p + 1) 0 (by omega))
theorem m_miss_loop {M : jM} {n j q p m s : Nat} {x A B : Nat → Int32} (hj : j < 6) (h : vW M n x) (v : vR M j q p m s A B) {t : Nat} (hp : p ≤ t) (ht : t < n) : ∀ (d i : Nat), i + d = p + 1 → jTo nX8_missOf (5, [(0, .ref 67), (1, .int (nI j)), (2, .int (nI t)), (3, .long (sL (mF q A x t) i)), (5, .int (nI i))], [], M) (some (some (.long (mT q p A x t)))) M := by
  have hp3 := v.1.2.2.1
  have hn := h.1
  obtain ⟨h1, h2, h3⟩ := slot_in hj
  intro d
  induction d with
  | zero =>
    intro i hi
    have : i = p + 1 := by omega
    subst this
    refine v_X8_missOf_5 ⟨h2, ?_⟩
    rw [h3, v.2.2.1.2.2.1]
    exact ⟨fun _ => ⟨rfl, rfl⟩, fun w => absurd (nI_lt (by omega) (by omega)) w⟩
  | succ d ih =>
    intro i hi
    have hin := nI_in (c := t - i) (N := 60) (by omega) (by omega)
    obtain ⟨x1, x2, x3⟩ := h.2.2.2 (t - i) (by omega)
    have nx := ih (i + 1) (by omega)
    refine v_X8_missOf_5 ⟨h2, ?_⟩
    rw [h3, v.2.2.1.2.2.1, nI_sub (by omega)]
    refine ⟨fun w => absurd w (nI_nlt (by omega) (by omega)), fun _ => ⟨hin, ?_⟩⟩
    rw [nI_clamp (by omega), x2, nI_1]
    refine ⟨fun w => ?_, fun w => ?_⟩
    · rw [show sL (mF q A x t) (i + 1) = sL (mF q A x t) i + 0 by show _ + mF q A x t i = _; unfold mF; rw [if_pos w]] at nx
      exact nx
    · rw [(m_partD hj v (by omega) (by omega)).iff]
      rw [nI_clamp (by omega)] at hin
      refine ⟨_, rfl, hin, ?_⟩
      rw [x2]
      rw [show sL (mF q A x t) (i + 1) = sL (mF q A x t) i + (pD q A t (t - i)).toInt64 * (x (t - i)).toInt64 by
        show _ + mF q A x t i = _
        unfold mF pD
        rw [if_neg w, if_pos (by omega), show t - (t - i) = i by omega]] at nx
      exact nx
theorem m_miss {M : jM} {n j q p m s : Nat} {x A B : Nat → Int32} (hj : j < 6) (h : vW M n x) (v : vR M j q p m s A B) {t : Nat} (hp : p ≤ t) (ht : t < n) : jTo nX8_missOf (0, [(0, .ref 67), (1, .int (nI j)), (2, .int (nI t))], [], M) (some (some (.long (mT q p A x t)))) M :=
  v_X8_missOf_0 (m_miss_loop hj h v hp ht (p + 1) 0 (by omega))
def sqF (q p : Nat) (A x : Nat → Int32) (t : Nat) : Int64 := if wB x p t = true then mT q p A x t * mT q p A x t else 0
theorem b2i_0 {b : Bool} : b2i b = 0 ↔ ¬ b = true := by cases b <;> decide
theorem c_sq_loop {M : jM} {n j q p m s : Nat} {x A B : Nat → Int32} (hj : j < 6) (h : vW M n x) (v : vR M j q p m s A B) : ∀ (d t : Nat), p ≤ t → t + d = n → jTo nX4_squaresTop (8, [(0, .ref 41), (1, .ref (4 + 4 * j)), (2, .long (sL (sqF q p A x) t)), (4, .int (nI t))], [], M) (some (some (.long (sL (sqF q p A x) n)))) M := by
  have hn := h.1
  intro d
  induction d with
  | zero =>
    intro t hp ht
    have : t = n := by omega
    subst this
    exact v_X4_squaresTop_8 (jRu_n hj) ⟨fun _ => ⟨rfl, rfl⟩, fun w => absurd (by rw [h.2.1]; exact Int32.le_refl _) w⟩
  | succ d ih =>
    intro t hp ht
    refine v_X4_squaresTop_8 (jRu_n hj) ⟨fun w => absurd w (by rw [h.2.1]; exact nI_ge (by omega) (by omega)), fun _ => ?_⟩
    rw [v.2.1.2.2.1, (s_gapless h hp (by omega)).iff]
    have nx := ih (t + 1) (by omega) (by omega)
    refine ⟨_, rfl, fun w => ?_, fun w => ?_⟩
    · rw [nI_1]
      rw [show sL (sqF q p A x) (t + 1) = sL (sqF q p A x) t by show _ + sqF q p A x t = _; unfold sqF; rw [if_neg (b2i_0.mp w), Int64.add_zero]] at nx
      exact nx
    · rw [(c_miss hj h v hp (by omega)).iff]
      have wt : wB x p t = true := by
        cases e : wB x p t with
        | true => rfl
        | false => exact absurd (b2i_0.mpr (by rw [e]; decide)) w
      refine ⟨_, rfl, ?_⟩
      rw [nI_1]
      rw [show sL (sqF q p A x) (t + 1) = sL (sqF q p A x) t + mT q p A x t * mT q p A x t by show _ + sqF q p A x t = _; unfold sqF; rw [if_pos wt]] at nx
      exact nx
theorem sqF_lo {q p t : Nat} {A x : Nat → Int32} (h : t < p) : sqF q p A x t = 0 := by unfold sqF; rw [wB_lo h]; rfl
theorem c_squaresTop {M : jM} {n j q p m s : Nat} {x A B : Nat → Int32} (hj : j < 6) (h : vW M n x) (v : vR M j q p m s A B) : jTo nX4_squaresTop (0, [(0, .ref 41), (1, .ref (4 + 4 * j))], [], M) (some (some (.long (sL (sqF q p A x) n)))) M := by
  refine v_X4_squaresTop_0 (jRu_n hj) ?_
  rw [v.2.1.2.2.1]
  by_cases hp : p ≤ n
  · have := c_sq_loop hj h v (n - p) p (Nat.le_refl p) (by omega)
    rw [sL_zero (n := p) (fun i hi => sqF_lo hi)] at this
    exact this
  · refine v_X4_squaresTop_8 (jRu_n hj) ⟨fun _ => ⟨?_, rfl⟩, fun w => absurd (by rw [h.2.1]; exact nI_le (by omega) (by have := v.1; omega)) w⟩
    rw [sL_zero (fun i hi => sqF_lo (by omega))]
theorem m_sq_loop {M : jM} {K : jK} {n j q p m s : Nat} {x A B : Nat → Int32} {y : Int32} (hj : j < 6) (h : vW M n x) (v : vR M j q p m s A B) (k : jEv nX8_set (0, [(0, .ref 67), (1, .long (sL (sqF q p A x) n)), (3, .long ((nI q).toInt64 * (nI q).toInt64))], [], M) (fun o1 M2 => o1 = some none ∧ (jEv nX8_told (0, [(0, .ref 67), (1, .int y)], [], M2) (fun o3 M4 => ∃ r5 : Int64, o3 = some (some (.long r5)) ∧ K (some (some (.long r5))) M4)))) : ∀ (d t : Nat), t + d = n → jEv nX8_squares (36, [(0, .ref 67), (1, .int (nI j)), (2, .int y), (3, .long (sL (sqF q p A x) t)), (5, .int (nI t))], [], M) K := by
  have hn := h.1
  obtain ⟨h1, h2, h3⟩ := slot_in hj
  intro d
  induction d with
  | zero =>
    intro t ht
    have : t = n := by omega
    subst this
    refine v_X8_squares_36 ⟨fun _ => ⟨h2, h2, ?_⟩, fun w => absurd (by rw [h.2.2.1]; exact Int32.le_refl _) w⟩
    rw [h3, v.2.2.1.2.1]
    exact k
  | succ d ih =>
    intro t ht
    refine v_X8_squares_36 ⟨fun w => absurd w (by rw [h.2.2.1]; exact nI_ge (by omega) (by omega)), fun _ => ?_⟩
    rw [(m_isWhole hj h v (by omega)).iff]
    have nx := ih (t + 1) (by omega)
    refine ⟨_, rfl, fun w => ?_, fun w => ?_⟩
    · rw [nI_1]
      rw [show sL (sqF q p A x) (t + 1) = sL (sqF q p A x) t + 0 by show _ + sqF q p A x t = _; unfold sqF; rw [if_neg (b2i_0.mp w)]] at nx
      exact nx
    · have wt : wB x p t = true := by
        cases e : wB x p t with
        | true => rfl
        | false => exact absurd (b2i_0.mpr (by rw [e]; decide)) w
      have hp : p ≤ t := by
        rcases Nat.lt_or_ge t p with z | z
        · rw [wB_lo z] at wt; exact absurd wt (by decide)
        · exact z
      rw [(m_miss hj h v hp (by omega)).iff]
      refine ⟨_, rfl, ?_⟩
      rw [(m_miss hj h v hp (by omega)).iff]
      refine ⟨_, rfl, ?_⟩
      rw [nI_1]
      rw [show sL (sqF q p A x) (t + 1) = sL (sqF q p A x) t + mT q p A x t * mT q p A x t by show _ + sqF q p A x t = _; unfold sqF; rw [if_pos wt]] at nx
      exact nx
theorem pw_toInt {q : Nat} (hq : q ≤ 4) : ∀ {k : Nat}, k ≤ 16 → (pwL (nI q).toInt64 k).toInt = ((q ^ k : Nat) : Int)
  | 0, _ => rfl
  | k + 1, hk => by
    have h := pw_toInt hq (k := k) (by omega)
    have hl : q ^ k ≤ 4 ^ 16 := Nat.le_trans (Nat.pow_le_pow_left hq k) (Nat.pow_le_pow_right (by decide) (by omega))
    have h2 : (nI q).toInt64.toInt = q := by rw [Int32.toInt_toInt64, nI_toInt (by omega)]
    have := (aL_mul (a := pwL (nI q).toInt64 k) (b := (nI q).toInt64) (C := 4 ^ 16) (D := 4) (by unfold aL; rw [h]; omega) (by unfold aL; rw [h2]; omega) (by decide)).1
    show (pwL (nI q).toInt64 k * (nI q).toInt64).toInt = _
    rw [this, h, h2, Nat.pow_succ, Int.natCast_mul]
theorem sq_pw {q : Nat} : (nI q).toInt64 * (nI q).toInt64 = pwL (nI q).toInt64 2 := by
  show _ = 1 * (nI q).toInt64 * (nI q).toInt64
  rw [Int64.one_mul]
theorem pw_ok {q k : Nat} (h1 : 1 ≤ q) (hq : q ≤ 4) (hk : k ≤ 16) : (pwL (nI q).toInt64 k).toInt ≠ -9223372036854775808 ∧ ¬ pwL (nI q).toInt64 k = 0 := by
  have h := pw_toInt hq hk
  have hp : 0 < q ^ k := Nat.pow_pos h1
  exact ⟨by rw [h]; omega, fun e => by rw [e, Int64.toInt_zero] at h; omega⟩
theorem op_squares {M : jM} (h : iInv M) (y x' : Int32) : jBothX nX7_squares nX8_squares [(0, .ref 0), (1, .int y), (2, .int x')] [(0, .ref 67), (1, .int y), (2, .int x')] M := by
  obtain ⟨n, x, w⟩ := h.vW
  have thr : ∀ {M1 : jM} {A : jM → Prop}, jEv nX8_throwsIf (0, [(0, .ref 67), (1, .int 1)], [], M1) (fun o4 M5 => ∃ r6 : Int32, o4 = some (some (.int r6)) ∧ ((r6 = 0 → A M5) ∧ (¬ r6 = 0 → some (some (Value.long 0)) = some (some (.long 0)) ∧ M5.1 67 0 = 1 ∧ iKp M1 M5))) := fun {M1 A} => m_thr1 ⟨rfl, by rw [jsi_at, if_pos (by decide)], (iKp.rfl' M1).si (by decide)⟩
  rcases plain_cs h y with ⟨c, m⟩ | ⟨j, q, p, s, A, B, hj, rfl, v⟩
  · refine both_t h (v_X7_squares_0 ?_) (fun M1 k => v_X8_squares_0 ?_)
    · rw [(c M (iI.rfl' M)).iff]
      exact Or.inl ⟨rfl, rfl, iKp.rfl' M⟩
    · rw [(m M1 k).iff]
      exact ⟨_, rfl, fun _ => thr, fun z => absurd rfl z⟩
  · by_cases hp : x' = 0 ∨ x' = 1
    · have hb : aL (sL (sqF q p A x) n) (60 * 409600) := by
        refine (sL_aL (C := 409600) (N := 60) (by decide) w.1 (fun i hi => ?_)).mono (Nat.mul_le_mul_right _ w.1)
        unfold sqF
        split
        · have := mT_b v.1.2.1 v.1.2.2.1 v.rA w hi
          exact (aL_mul this this (by decide)).2
        · exact aL_0 _
      have hne := hb.ne (by decide)
      obtain ⟨g1, g2⟩ := pw_ok (k := 2) v.1.1 v.1.2.1 (by decide)
      refine both_l (v := pQ x' (rQ (sL (sqF q p A x) n) (pwL (nI q).toInt64 2))) h (v_X7_squares_0 ?_) (fun M1 k => v_X8_squares_0 ?_)
      · rw [(c_plain hj v).iff]
        refine Or.inr ⟨_, jRu_n hj, rfl, ?_⟩
        rw [e_isPart, if_pos hp]
        refine ⟨_, rfl, fun z => absurd z (by decide), fun _ => ?_⟩
        rw [(c_squaresTop hj w v).iff]
        refine ⟨_, rfl, ?_⟩
        rw [v.2.1.2.1]
        refine ((s_power M _ (n := 2) (by decide)).iff _).mpr ⟨_, rfl, ?_⟩
        exact c_setpart (K := fun o M2 => o = some (some (.long (pQ x' (rQ (sL (sqF q p A x) n) (pwL (nI q).toInt64 2))))) ∧ iKp M M2) hne g1 g2 (fun M' k => ⟨rfl, k⟩)
      · rw [(m_plain hj (v.kp hj k)).iff]
        refine ⟨_, rfl, fun z => absurd z (by decide), fun _ => ⟨fun z => absurd z ((part_iff x').mp hp).1, fun _ => ⟨fun _ => m_thr0 ?_, fun z => absurd ((part_iff x').mp hp).2 z⟩⟩⟩
        have v2 := v.kp hj k.s67 (M' := jsi M1 67 0 0)
        have w2 := w.kp k.s67 (M' := jsi M1 67 0 0)
        refine m_sq_loop hj w2 v2 ?_ n 0 (by omega)
        rw [sq_pw]
        refine m_settold (K := fun o M2 => o = some (some (.long (pQ x' (rQ (sL (sqF q p A x) n) (pwL (nI q).toInt64 2))))) ∧ M2.1 67 0 = 0 ∧ iKp M1 M2) hne g1 g2 (fun M' e k => ⟨rfl, ?_, ((iKp.rfl' M1).si (by decide)).trans k⟩)
        rw [e, jsi_at, if_pos (by decide)]
    · refine both_t h (v_X7_squares_0 ?_) (fun M1 k => v_X8_squares_0 ?_)
      · rw [(c_plain hj v).iff]
        refine Or.inr ⟨_, jRu_n hj, rfl, ?_⟩
        rw [e_isPart, if_neg hp]
        exact ⟨_, rfl, fun _ => ⟨rfl, iKp.rfl' M⟩, fun z => absurd rfl z⟩
      · rw [(m_plain hj (v.kp hj k)).iff]
        refine ⟨_, rfl, fun z => absurd z (by decide), fun _ => ⟨fun _ => thr, fun z1 => ⟨fun z2 => absurd ((part_iff x').mpr ⟨z1, z2⟩) hp, fun _ => thr⟩⟩⟩
