/-! next, both sides -/
def gS (A f : Nat → Int) (i j : Nat) : Int := sI (fun y => A (y + 1) * f (i - (y + 1))) j
def gF (q : Int) (p : Nat) (X A : Nat → Int) : Nat → Nat → Int
  | 0 => fun i => X i * q ^ 5
  | d + 1 => fun i => if i = p + d then gS A (gF q p X A d) (p + d) p / q else gF q p X A d i
def gG (q : Int) (p : Nat) (X A : Nat → Int) (i : Nat) : Int := gF q p X A (i + 1 - p) i
theorem gF_le (q : Int) (p : Nat) (X A : Nat → Int) : ∀ (d i : Nat), i < p + d → gF q p X A d i = gG q p X A i := by
  intro d
  induction d with
  | zero =>
    intro i hi
    unfold gG
    rw [show i + 1 - p = 0 by omega]
  | succ d ih =>
    intro i hi
    by_cases e : i = p + d
    · unfold gG
      rw [show i + 1 - p = d + 1 by omega]
    · show (if i = p + d then _ else gF q p X A d i) = _
      rw [if_neg e]
      exact ih i (by omega)
theorem gS_congr {A f g : Nat → Int} {i j : Nat} (hj : j ≤ i) (h : ∀ y, y < i → f y = g y) : gS A f i j = gS A g i j :=
  sI_congr (fun y hy => by rw [h (i - (y + 1)) (by omega)])
theorem sI_dvd {f : Nat → Int} {c : Int} : ∀ {n : Nat}, (∀ i, i < n → c ∣ f i) → c ∣ sI f n
  | 0, _ => Int.dvd_zero c
  | n + 1, h => Int.dvd_add (sI_dvd (n := n) (fun i hi => h i (by omega))) (h n (by omega))
theorem sN_const (c : Nat) : ∀ n : Nat, sN (fun _ => c) n = n * c
  | 0 => by rw [Nat.zero_mul]; rfl
  | n + 1 => by
    show sN (fun _ => c) n + c = _
    rw [sN_const c n, Nat.succ_mul]
theorem gS_abs {A f : Nat → Int} {i j C : Nat} (hj : j ≤ i) (j3 : j ≤ 3) (hA : ∀ k, 1 ≤ k → k < 4 → (A k).natAbs ≤ 8) (h : ∀ y, y < i → (f y).natAbs ≤ C) : (gS A f i j).natAbs ≤ j * (8 * C) := by
  rw [← sN_const]
  refine sI_abs (fun y hy => ?_)
  rw [Int.natAbs_mul]
  exact Nat.mul_le_mul (hA (y + 1) (by omega) (by omega)) (h _ (by omega))
def gOk (q p : Nat) (X A : Nat → Int) : Prop := 1 ≤ q ∧ q ≤ 4 ∧ p ≤ 3 ∧ (∀ i, i < p → (X i).natAbs ≤ 20) ∧ ∀ k, 1 ≤ k → k < 4 → (A k).natAbs ≤ 8
theorem gF_ok {q p : Nat} {X A : Nat → Int} (w : gOk q p X A) : ∀ d, d ≤ 5 → (∀ i, i < p + d → ((q : Int) ^ (5 - d)) ∣ gF q p X A d i ∧ (gF q p X A d i).natAbs ≤ 20480 * 24 ^ d) ∧ (d < 5 → (q : Int) * gF q p X A (d + 1) (p + d) = gS A (gF q p X A d) (p + d) p) := by
  obtain ⟨w1, w2, w3, w4, w5⟩ := w
  have nx : ∀ d, d < 5 → (∀ i, i < p + d → ((q : Int) ^ (5 - d)) ∣ gF q p X A d i ∧ (gF q p X A d i).natAbs ≤ 20480 * 24 ^ d) → ∃ z : Int, gS A (gF q p X A d) (p + d) p = (q : Int) * ((q : Int) ^ (5 - (d + 1)) * z) ∧ gF q p X A (d + 1) (p + d) = (q : Int) ^ (5 - (d + 1)) * z := by
    intro d hd h
    have dv : (q : Int) ^ (5 - d) ∣ gS A (gF q p X A d) (p + d) p := sI_dvd (fun y hy => Int.dvd_trans (h (p + d - (y + 1)) (by omega)).1 (Int.dvd_mul_left ..))
    obtain ⟨z, hz⟩ := dv
    have e1 : (q : Int) ^ (5 - d) = (q : Int) * (q : Int) ^ (5 - (d + 1)) := by
      rw [Int.mul_comm, ← Int.pow_succ, Nat.succ_eq_add_one, show 5 - (d + 1) + 1 = 5 - d by omega]
    rw [e1, Int.mul_assoc] at hz
    refine ⟨z, hz, ?_⟩
    show (if p + d = p + d then gS A (gF q p X A d) (p + d) p / q else _) = _
    rw [if_pos rfl, hz, Int.mul_ediv_cancel_left _ (by omega)]
  intro d
  induction d with
  | zero =>
    intro _
    have b : ∀ i, i < p + 0 → ((q : Int) ^ (5 - 0)) ∣ gF q p X A 0 i ∧ (gF q p X A 0 i).natAbs ≤ 20480 * 24 ^ 0 := by
      intro i hi
      refine ⟨Int.dvd_mul_left .., ?_⟩
      show (X i * (q : Int) ^ 5).natAbs ≤ 20480 * 1
      rw [Int.natAbs_mul]
      exact Nat.le_trans (Nat.mul_le_mul (w4 i (by omega)) (pw_abs w2 5)) (by decide)
    refine ⟨b, fun h5 => ?_⟩
    obtain ⟨z, h1, h2⟩ := nx 0 h5 b
    rw [h1, h2]
  | succ d ih =>
    intro hd
    obtain ⟨b0, -⟩ := ih (by omega)
    obtain ⟨z, h1, h2⟩ := nx d (by omega) b0
    have b : ∀ i, i < p + (d + 1) → ((q : Int) ^ (5 - (d + 1))) ∣ gF q p X A (d + 1) i ∧ (gF q p X A (d + 1) i).natAbs ≤ 20480 * 24 ^ (d + 1) := by
      intro i hi
      by_cases e : i = p + d
      · subst e
        refine ⟨by rw [h2]; exact Int.dvd_mul_right .., ?_⟩
        have hs := gS_abs (A := A) (f := gF q p X A d) (i := p + d) (j := p) (C := 20480 * 24 ^ d) (by omega) w3 w5 (fun y hy => (b0 y (by omega)).2)
        have h3 : (gF q p X A (d + 1) (p + d)).natAbs ≤ (gS A (gF q p X A d) (p + d) p).natAbs := by
          rw [h1, ← h2, Int.natAbs_mul]
          exact Nat.le_mul_of_pos_left _ (by omega)
        refine Nat.le_trans h3 (Nat.le_trans hs ?_)
        rw [Nat.pow_succ, ← Nat.mul_assoc, show 20480 * (24 ^ d * 24) = 24 * (20480 * 24 ^ d) by rw [← Nat.mul_assoc, Nat.mul_comm]]
        exact Nat.mul_le_mul_right _ (by omega)
      · have e2 : gF q p X A (d + 1) i = gF q p X A d i := by
          show (if i = p + d then _ else gF q p X A d i) = _
          rw [if_neg e]
        rw [e2]
        obtain ⟨c1, c2⟩ := b0 i (by omega)
        refine ⟨Int.dvd_trans (show (q : Int) ^ (5 - (d + 1)) ∣ (q : Int) ^ (5 - d) from ⟨q, by rw [← Int.pow_succ, Nat.succ_eq_add_one, show 5 - (d + 1) + 1 = 5 - d by omega]⟩) c1, Nat.le_trans c2 (Nat.mul_le_mul_left _ (Nat.pow_le_pow_right (by decide) (by omega)))⟩
    refine ⟨b, fun h5 => ?_⟩
    obtain ⟨z', h3, h4⟩ := nx (d + 1) h5 b
    rw [h3, h4]
theorem gG_abs {q p : Nat} {X A : Nat → Int} (w : gOk q p X A) {i : Nat} (hi : i < p + 5) : (gG q p X A i).natAbs ≤ 163074539520 := by
  rw [← gF_le q p X A 5 i hi]
  exact ((gF_ok w 5 (by omega)).1 i hi).2
theorem gG_lo {q p : Nat} {X A : Nat → Int} {i : Nat} (hi : i < p) : gG q p X A i = X i * (q : Int) ^ 5 := by
  rw [← gF_le q p X A 0 i (by omega)]; rfl
theorem gG_rec {q p : Nat} {X A : Nat → Int} (w : gOk q p X A) {i : Nat} (h1 : p ≤ i) (hi : i < p + 5) : (q : Int) * gG q p X A i = gS A (gG q p X A) i p := by
  have := (gF_ok w (i - p) (by omega)).2 (by omega)
  rw [gF_le q p X A (i - p + 1) (p + (i - p)) (by omega), show p + (i - p) = i by omega] at this
  rw [this]
  exact gS_congr h1 (fun y hy => gF_le q p X A (i - p) y (by omega))
theorem gSS_abs {q p : Nat} {X A : Nat → Int} (w : gOk q p X A) {i j : Nat} (hj : j ≤ i) (j3 : j ≤ 3) (hi : i < p + 5) : (gS A (gG q p X A) i j).natAbs ≤ 3913788948480 :=
  Nat.le_trans (gS_abs hj j3 w.2.2.2.2 (C := 163074539520) (fun y hy => gG_abs w (by omega))) (Nat.le_trans (Nat.mul_le_mul_right _ j3) (by decide))
/-! as rationals -/
def nR (q p : Nat) (X A : Nat → Int) (i : Nat) : Rat := Rat.divInt (gG q p X A i) ((q : Int) ^ 5)
def nA (q p : Nat) (X A : Nat → Int) (i j : Nat) : Rat := Rat.divInt (gS A (gG q p X A) i j) ((q : Int) * (q : Int) ^ 5)
theorem qq_ne {q : Nat} (h : 1 ≤ q) (k : Nat) : ((q : Int) * (q : Int) ^ k) ≠ 0 := Int.mul_ne_zero (by omega) (q_ne h k)
theorem nR_sm {q p : Nat} {X A : Nat → Int} (w : gOk q p X A) {i : Nat} (hi : i < p + 5) : sm (nR q p X A i) 163074539520 1024 :=
  (sm_div (q_ne w.1 5)).mono (gG_abs w hi) (Nat.le_trans (pw_abs w.2.1 5) (by decide))
theorem nA_sm {q p : Nat} {X A : Nat → Int} (w : gOk q p X A) {i j : Nat} (hj : j ≤ i) (j3 : j ≤ 3) (hi : i < p + 5) : sm (nA q p X A i j) 3913788948480 4096 := by
  refine (sm_div (qq_ne w.1 5)).mono (gSS_abs w hj j3 hi) ?_
  rw [Int.natAbs_mul]
  exact Nat.le_trans (Nat.mul_le_mul (show (q : Int).natAbs ≤ 4 by have := w.2.1; omega) (pw_abs w.2.1 5)) (by decide)
theorem nA_0 (q p : Nat) (X A : Nat → Int) (i : Nat) : nA q p X A i 0 = 0 := Rat.zero_divInt _
theorem nA_s {q p : Nat} {X A : Nat → Int} (hq : 1 ≤ q) (i j : Nat) : Rat.divInt (A (j + 1)) q * nR q p X A (i - (j + 1)) + nA q p X A i j = nA q p X A i (j + 1) := by
  unfold nR nA
  rw [Rat.divInt_mul_divInt, dv_add (qq_ne hq 5), Int.add_comm]
  rfl
theorem nA_p {q p : Nat} {X A : Nat → Int} (w : gOk q p X A) {i : Nat} (h1 : p ≤ i) (hi : i < p + 5) : nA q p X A i p = nR q p X A i := by
  unfold nR nA
  rw [← gG_rec w h1 hi, Rat.divInt_mul_left (show (q : Int) ≠ 0 by have := w.1; omega)]
theorem cU_1 (z : Int) : cU (Rat.divInt z 1) = Int64.ofInt z := by
  unfold cU
  rw [Rat.num_divInt, show Int.sign 1 = 1 from rfl, Int.one_mul, Int.gcd_one_left]
  exact congrArg Int64.ofInt (Int.ediv_one z)
theorem cL_1 (z : Int) : cL (Rat.divInt z 1) = 1 := by
  unfold cL
  rw [Rat.den_divInt, if_neg (by decide), Int.gcd_one_left]
  rfl
theorem nR_lo {q p : Nat} {X A : Nat → Int} (hq : 1 ≤ q) {i : Nat} (hi : i < p) : nR q p X A i = Rat.divInt (X i) 1 := by
  unfold nR
  rw [gG_lo hi]
  have := Rat.divInt_mul_right (n := X i) (d := 1) (q_ne hq 5)
  rw [Int.one_mul] at this
  exact this
/-! the class -/
theorem ofI_div {S G q : Int} {C : Nat} (hS : S.natAbs ≤ C) (hC : C < 9223372036854775808) (hq : 1 ≤ q) (hq4 : q ≤ 4) (h : q * G = S) : Int64.ofInt S / Int64.ofInt q = Int64.ofInt G := by
  have e1 : (Int64.ofInt S).toInt = S := by rw [Int64.toInt_ofInt]; exact fb_bmodL (by omega) (by omega)
  have e2 : (Int64.ofInt q).toInt = q := by rw [Int64.toInt_ofInt]; exact fb_bmodL (by omega) (by omega)
  obtain ⟨x1, x2⟩ := dv_ex (a := Int64.ofInt S) (g := Int64.ofInt q) (C := C) (by unfold aL; rw [e1]; exact hS) hC (by rw [Int64.lt_iff_toInt_lt, Int64.toInt_zero, e2]; omega) (by rw [e1, e2, ← h]; exact Int.dvd_mul_right ..)
  rw [e1, e2] at x1
  have := Int.eq_of_mul_eq_mul_left (show q ≠ 0 by omega) (h.trans x1)
  rw [this, Int64.ofInt_toInt]
theorem c_guess_in {K : jK} {M : jM} {j q p m s : Nat} {A B : Nat → Int32} {X : Nat → Int} (hj : j < 6) (v : vR M j q p m s A B) (w : gOk q p X (fun k => (A k).toInt)) {t : Nat} (h1 : p ≤ t) (ht : t < p + 5) (hg : ∀ i, i < t → M.2 58 i = Int64.ofInt (gG q p X (fun k => (A k).toInt) i))
    (nx : jEv nX4_guessOn (58, [(1, .ref (4 + 4 * j)), (2, .ref 58), (5, .int (nI (t + 1)))], [], jsl M 58 t (Int64.ofInt (gG q p X (fun k => (A k).toInt) t))) K) : ∀ (d i : Nat), i + d = p → jEv nX4_guessOn (75, [(1, .ref (4 + 4 * j)), (2, .ref 58), (5, .int (nI t)), (6, .long (Int64.ofInt (gS (fun k => (A k).toInt) (gG q p X (fun k => (A k).toInt)) t i))), (8, .int (nI (i + 1)))], [], M) K := by
  have hp3 := w.2.2.1
  have hq4 := w.2.1
  have hq1 := w.1
  have int8 := nI_in (c := t) (N := 8) (by omega) (by omega)
  intro d
  induction d with
  | zero =>
    intro i hi
    have : i = p := by omega
    subst this
    refine v_X4_guessOn_75 (jRu_n hj) ⟨fun _ => ⟨fun z => ?_, fun z => ⟨?_, int8, fun M1 e1 => ?_⟩⟩, fun z => ?_⟩
    · rw [v.2.1.2.1] at z
      exact absurd z (nI_ne0 hq1 (by omega))
    · rw [v.2.1.2.1]; exact (q_set hq1 hq4).2
    · rw [v.2.1.2.1, w64, nI_toInt (by omega), ofI_div (gSS_abs w h1 hp3 ht) (by decide) (by omega) (by omega) (gG_rec w h1 ht), nI_clamp (by omega)] at e1
      rw [e1, nI_1]
      exact nx
    · rw [v.2.1.2.2.1] at z
      exact absurd (nI_lt (by omega) (by omega)) z
  | succ d ih =>
    intro i hi
    refine v_X4_guessOn_75 (jRu_n hj) ⟨fun z => ?_, fun _ => ⟨nI_in (by omega) (by omega), ?_⟩⟩
    · rw [v.2.1.2.2.1] at z
      exact absurd z (nI_nlt (by omega) (by omega))
    · rw [nI_sub (by omega), nI_clamp (by omega), nI_clamp (by omega), nI_1, (v.2.2.2.1 (i + 1) (by omega) (by omega)).1, hg (t - (i + 1)) (by omega), w64, ← Int64.ofInt_mul, ← Int64.ofInt_add]
      refine ⟨?_, ih (i + 1) (by omega)⟩
      have := nI_in (c := t - (i + 1)) (N := 8) (by omega) (by omega)
      rw [nI_clamp (by omega)] at this
      exact this
def nX (n p : Nat) (x : Nat → Int32) (i : Nat) : Int := (x (n - p + i)).toInt
theorem g_ok {M : jM} {n j q p m s : Nat} {x A B : Nat → Int32} (h : vW M n x) (v : vR M j q p m s A B) (hp : p ≤ n) (hg : gB x (n - p) p = true) : gOk q p (nX n p x) (fun k => (A k).toInt) := by
  refine ⟨v.1.1, v.1.2.1, v.1.2.2.1, fun i hi => ?_, fun k k1 k2 => (v.A8 k k1 k2).1⟩
  have h1 := (gB_iff x p (n - p)).mp hg (n - p + i) (by omega) (by omega)
  rcases (h.2.2.2 (n - p + i) (by omega)).2.2 with z | z
  · exact absurd z h1
  · unfold nX; omega
theorem c_guess {M0 : jM} {n j q p m s : Nat} {x A B : Nat → Int32} (hj : j < 6) (h : vW M0 n x) (v : vR M0 j q p m s A B) (hp : p ≤ n) (w : gOk q p (nX n p x) (fun k => (A k).toInt)) : jEv nX4_guessOn (0, [(0, .ref 41), (1, .ref (4 + 4 * j)), (2, .ref 58)], [], M0) (fun o M' => o = some none ∧ M'.1 = M0.1 ∧ (∀ a i, a ≠ 58 → M'.2 a i = M0.2 a i) ∧ ∀ i, i < p + 5 → M'.2 58 i = Int64.ofInt (gG q p (nX n p x) (fun k => (A k).toInt) i)) := by
  have hp3 := w.2.2.1
  have hq4 := w.2.1
  have hn := h.1
  have up : ∀ {M : jM} {t : Nat}, M.1 = M0.1 → (∀ a i, a ≠ 58 → M.2 a i = M0.2 a i) → (∀ i, i < t → M.2 58 i = Int64.ofInt (gG q p (nX n p x) (fun k => (A k).toInt) i)) → ((jsl M 58 t (Int64.ofInt (gG q p (nX n p x) (fun k => (A k).toInt) t))).1 = M0.1 ∧ (∀ a i, a ≠ 58 → (jsl M 58 t (Int64.ofInt (gG q p (nX n p x) (fun k => (A k).toInt) t))).2 a i = M0.2 a i) ∧ ∀ i, i < t + 1 → (jsl M 58 t (Int64.ofInt (gG q p (nX n p x) (fun k => (A k).toInt) t))).2 58 i = Int64.ofInt (gG q p (nX n p x) (fun k => (A k).toInt) i)) := by
    intro M t f1 f2 f3
    refine ⟨f1, fun a i ha => by rw [jsl_at, if_neg (fun z => ha z.1)]; exact f2 a i ha, fun i hi => ?_⟩
    rw [jsl_at]
    by_cases z : i = t
    · rw [if_pos ⟨rfl, z⟩, z]
    · rw [if_neg (fun y => z y.2)]; exact f3 i (by omega)
  have lp2 : ∀ (d t : Nat), p ≤ t → t + d = p + 5 → ∀ M, M.1 = M0.1 → (∀ a i, a ≠ 58 → M.2 a i = M0.2 a i) → (∀ i, i < t → M.2 58 i = Int64.ofInt (gG q p (nX n p x) (fun k => (A k).toInt) i)) → jEv nX4_guessOn (58, [(1, .ref (4 + 4 * j)), (2, .ref 58), (5, .int (nI t))], [], M) (fun o M' => o = some none ∧ M'.1 = M0.1 ∧ (∀ a i, a ≠ 58 → M'.2 a i = M0.2 a i) ∧ ∀ i, i < p + 5 → M'.2 58 i = Int64.ofInt (gG q p (nX n p x) (fun k => (A k).toInt) i)) := by
    intro d
    induction d with
    | zero =>
      intro t h1 ht M f1 f2 f3
      have : t = p + 5 := by omega
      subst this
      refine v_X4_guessOn_58 (jRu_n hj) ⟨fun _ => ⟨rfl, f1, f2, f3⟩, fun z => absurd ?_ z⟩
      rw [f1, v.2.1.2.2.1, show (5 : Int32) = nI 5 from rfl, nI_add]
      exact Int32.le_refl _
    | succ d ih =>
      intro t h1 ht M f1 f2 f3
      have vM : vR M j q p m s A B := v.kp hj (fun a k _ _ _ _ _ _ => by rw [f1])
      refine v_X4_guessOn_58 (jRu_n hj) ⟨fun z => absurd z ?_, fun _ => ?_⟩
      · rw [f1, v.2.1.2.2.1, show (5 : Int32) = nI 5 from rfl, nI_add]
        exact nI_ge (by omega) (by omega)
      · obtain ⟨u1, u2, u3⟩ := up (t := t) f1 f2 f3
        exact c_guess_in hj vM w h1 (by omega) f3 (ih (t + 1) (by omega) (by omega) _ u1 u2 u3) p 0 (by omega)
  have lp1 : ∀ (d t : Nat), t + d = p → ∀ M, M.1 = M0.1 → (∀ a i, a ≠ 58 → M.2 a i = M0.2 a i) → (∀ i, i < t → M.2 58 i = Int64.ofInt (gG q p (nX n p x) (fun k => (A k).toInt) i)) → jEv nX4_guessOn (13, [(0, .ref 41), (1, .ref (4 + 4 * j)), (2, .ref 58), (3, .long (pwL (nI q).toInt64 5)), (5, .int (nI t))], [], M) (fun o M' => o = some none ∧ M'.1 = M0.1 ∧ (∀ a i, a ≠ 58 → M'.2 a i = M0.2 a i) ∧ ∀ i, i < p + 5 → M'.2 58 i = Int64.ofInt (gG q p (nX n p x) (fun k => (A k).toInt) i)) := by
    intro d
    induction d with
    | zero =>
      intro t ht M f1 f2 f3
      have : t = p := by omega
      subst this
      refine v_X4_guessOn_13 (jRu_n hj) ⟨fun _ => ?_, fun z => absurd ?_ z⟩
      · rw [f1, v.2.1.2.2.1]
        exact lp2 5 t (by omega) (by omega) M f1 f2 f3
      · rw [f1, v.2.1.2.2.1]; exact Int32.le_refl _
    | succ d ih =>
      intro t ht M f1 f2 f3
      obtain ⟨u1, u2, u3⟩ := up (t := t) f1 f2 f3
      have e1 : M.1 41 2 - M.1 (4 + 4 * j) 2 + nI t = nI (n - p + t) := by rw [f1, h.2.1, v.2.1.2.2.1, nI_sub hp, nI_add]
      refine v_X4_guessOn_13 (jRu_n hj) ⟨fun z => absurd z ?_, fun _ => ⟨?_, nI_in (by omega) (by omega), fun M1 g1 => ?_⟩⟩
      · rw [f1, v.2.1.2.2.1]; exact nI_ge (by omega) (by omega)
      · rw [e1]; exact nI_in (by omega) (by omega)
      · rw [e1, nI_clamp (by omega), nI_clamp (by omega), f1, (h.2.2.2 (n - p + t) (by omega)).1, w64, pw_of hq4, ← Int64.ofInt_mul] at g1
        have e2 : (x (n - p + t)).toInt * (q : Int) ^ 5 = gG q p (nX n p x) (fun k => (A k).toInt) t := by rw [gG_lo (p := p) (i := t) (by omega)]; rfl
        rw [e2] at g1
        rw [g1, nI_1]
        exact ih (t + 1) (by omega) _ u1 u2 u3
  refine v_X4_guessOn_0 (jRu_n hj) ?_
  rw [v.2.1.2.1]
  exact ((s_power M0 _ (n := 5) (by decide)).iff _).mpr ⟨_, rfl, lp1 p 0 (by omega) M0 rfl (fun _ _ _ => rfl) (fun i hi => absurd hi (by omega))⟩
