/-! likes as whole numbers over one bottom -/
def lz (q p : Nat) (A : Nat → Int) (i j : Nat) : Int := rN (mG (eM0 q p A) i) j
def lD (q p : Nat) (A : Nat → Int) : Int := dZ (lz q p A) (p + 1)
def lT (q p : Nat) (A mm : Nat → Int) (c : Nat) : Int := dZ (zc (lz q p A) mm c) (p + 1)
def lS' (q p : Nat) (A mm f : Nat → Int) (k j : Nat) : Int := mm k * lD q p A * (q : Int) ^ 8 + gS A f k j
def tF (q p : Nat) (A mm : Nat → Int) : Nat → Nat → Int
  | 0 => fun k => lT q p A mm k * (q : Int) ^ 8
  | d + 1 => fun k => if k = p + 1 + d then lS' q p A mm (tF q p A mm d) k p / q else tF q p A mm d k
def tt (q p : Nat) (A mm : Nat → Int) (k : Nat) : Int := tF q p A mm (k - p) k
def lOk (q p : Nat) (A mm : Nat → Int) : Prop := (1 ≤ q ∧ q ≤ 4 ∧ p ≤ 3) ∧ lCk q p A = true ∧ ∀ k, (mm k).natAbs ≤ 542720
theorem lz_y (q p : Nat) (A : Nat → Int) : ∀ i, i < 4 → ∀ j, j < 4 → lz q p A i j = yI q p A i j := by
  intro i hi j hj
  rcases (show i = 0 ∨ i = 1 ∨ i = 2 ∨ i = 3 by omega) with rfl | rfl | rfl | rfl <;> rcases (show j = 0 ∨ j = 1 ∨ j = 2 ∨ j = 3 by omega) with rfl | rfl | rfl | rfl <;> rfl
theorem lOk.D {q p : Nat} {A mm : Nat → Int} (h : lOk q p A mm) : lD q p A ≠ 0 ∧ (lD q p A).natAbs ≤ 300 := by
  have h2 := h.2.1
  unfold lCk at h2
  simp only [Bool.and_eq_true, Bool.not_eq_true', decide_eq_false_iff_not, decide_eq_true_eq] at h2
  exact ⟨h2.1, h2.2.1⟩
theorem lOk.cof {q p : Nat} {A mm : Nat → Int} (h : lOk q p A mm) {c : Nat} (hc : c < p + 1) : sN (fun k => (dZ (zc (lz q p A) (fun i => if i = k then 1 else 0) c) (p + 1)).natAbs) (p + 1) ≤ 300 := by
  have h2 := h.2.1
  unfold lCk at h2
  simp only [Bool.and_eq_true] at h2
  have := aAll_at h2.2.2.1 c hc
  exact of_decide_eq_true this
theorem lOk.g {q p : Nat} {A mm : Nat → Int} (h : lOk q p A mm) : sN (fun y => (A (y + 1)).natAbs) p ≤ gg p * q := by
  have h2 := h.2.1
  unfold lCk at h2
  simp only [Bool.and_eq_true] at h2
  have := h2.2.2.2.2.2.2
  rw [decide_eq_true_eq] at this
  omega
theorem lOk.run {q p : Nat} {A mm : Nat → Int} (h : lOk q p A mm) : (∀ k, k < p + 1 → rOk (mG (eM0 q p A) k) = true) ∧ eRk (p + 1) (eM0 q p A) (p + 1) = true ∧ eDg (p + 1) (eR (p + 1) (eM0 q p A) (p + 1)) = true := by
  have h2 := h.2.1
  unfold lCk at h2
  simp only [Bool.and_eq_true] at h2
  exact ⟨fun k hk => aAll_at h2.2.2.2.1 k hk, h2.2.2.2.2.1, h2.2.2.2.2.2.1⟩
theorem sN_mulr (f : Nat → Nat) (C : Nat) : ∀ n, sN (fun k => f k * C) n = sN f n * C
  | 0 => by show 0 = 0 * C; rw [Nat.zero_mul]
  | n + 1 => by
    show sN (fun k => f k * C) n + f n * C = (sN f n + f n) * C
    rw [sN_mulr f C n, Nat.add_mul]
theorem lOk.T {q p : Nat} {A mm : Nat → Int} (h : lOk q p A mm) {c : Nat} (hc : c < p + 1) : (lT q p A mm c).natAbs ≤ 162816000 := by
  have hp := h.1.2.2
  unfold lT
  rw [lin _ _ (by omega) hc]
  have : (sI (fun k => dZ (zc (lz q p A) (fun i => if i = k then 1 else 0) c) (p + 1) * mm k) (p + 1)).natAbs ≤ sN (fun k => (dZ (zc (lz q p A) (fun i => if i = k then 1 else 0) c) (p + 1)).natAbs * 542720) (p + 1) :=
    sI_abs (fun k hk => by rw [Int.natAbs_mul]; exact Nat.mul_le_mul_left _ (h.2.2 k))
  rw [sN_mulr] at this
  exact Nat.le_trans this (Nat.le_trans (Nat.mul_le_mul_right _ (h.cof hc)) (by decide))
theorem tF_le (q p : Nat) (A mm : Nat → Int) : ∀ (d k : Nat), k < p + 1 + d → tF q p A mm d k = tt q p A mm k := by
  intro d
  induction d with
  | zero =>
    intro k hk
    unfold tt
    rw [show k - p = 0 by omega]
  | succ d ih =>
    intro k hk
    by_cases e : k = p + 1 + d
    · unfold tt
      rw [show k - p = d + 1 by omega]
    · show (if k = p + 1 + d then _ else tF q p A mm d k) = _
      rw [if_neg e]
      exact ih k (by omega)
def vB (g : Nat) : Nat → Nat
  | 0 => 11000000000000
  | d + 1 => g * vB g d + 11000000000000
theorem vB_le : ∀ p, p < 4 → ∀ d, d < 9 → d ≤ 8 - p → vB (gg p) d ≤ 216000000000000000 := by decide
theorem gS_absA {A f : Nat → Int} {i j C : Nat} (hj : j ≤ i) (h : ∀ y, y < i → (f y).natAbs ≤ C) : (gS A f i j).natAbs ≤ sN (fun y => (A (y + 1)).natAbs) j * C := by
  rw [← sN_mulr]
  refine sI_abs (fun y hy => ?_)
  rw [Int.natAbs_mul]
  exact Nat.mul_le_mul_left _ (h _ (by omega))
theorem lOk.c8 {q p : Nat} {A mm : Nat → Int} (h : lOk q p A mm) (k : Nat) : (mm k * lD q p A * (q : Int) ^ 8).natAbs ≤ 11000000000000 := by
  rw [Int.natAbs_mul, Int.natAbs_mul]
  exact Nat.le_trans (Nat.mul_le_mul (Nat.mul_le_mul (h.2.2 k) h.D.2) (pw_abs h.1.2.1 8)) (by decide)
theorem tF_ok {q p : Nat} {A mm : Nat → Int} (h : lOk q p A mm) : ∀ d, d ≤ 8 - p → (∀ k, k < p + 1 + d → ((q : Int) ^ (8 - d)) ∣ tF q p A mm d k ∧ (tF q p A mm d k).natAbs ≤ vB (gg p) d) ∧ (d < 8 - p → (q : Int) * tF q p A mm (d + 1) (p + 1 + d) = lS' q p A mm (tF q p A mm d) (p + 1 + d) p ∧ (lS' q p A mm (tF q p A mm d) (p + 1 + d) p).natAbs ≤ q * vB (gg p) (d + 1)) := by
  have w1 := h.1.1
  have w2 := h.1.2.1
  have w3 := h.1.2.2
  have nx : ∀ d, d < 8 - p → (∀ k, k < p + 1 + d → ((q : Int) ^ (8 - d)) ∣ tF q p A mm d k ∧ (tF q p A mm d k).natAbs ≤ vB (gg p) d) → (lS' q p A mm (tF q p A mm d) (p + 1 + d) p).natAbs ≤ q * vB (gg p) (d + 1) ∧ ∃ z : Int, lS' q p A mm (tF q p A mm d) (p + 1 + d) p = (q : Int) * ((q : Int) ^ (8 - (d + 1)) * z) ∧ tF q p A mm (d + 1) (p + 1 + d) = (q : Int) ^ (8 - (d + 1)) * z := by
    intro d hd hh
    have e8 : (q : Int) ^ 8 = (q : Int) ^ (8 - d) * (q : Int) ^ d := by rw [← Int.pow_add, show 8 - d + d = 8 by omega]
    have dv : (q : Int) ^ (8 - d) ∣ lS' q p A mm (tF q p A mm d) (p + 1 + d) p := by
      refine Int.dvd_add ?_ (sI_dvd (fun y hy => Int.dvd_trans (hh (p + 1 + d - (y + 1)) (by omega)).1 (Int.dvd_mul_left ..)))
      rw [e8]
      exact Int.dvd_trans (Int.dvd_mul_right ..) (Int.dvd_mul_left ..)
    refine ⟨?_, ?_⟩
    · have a1 := h.c8 (p + 1 + d)
      have a2 := gS_absA (A := A) (f := tF q p A mm d) (i := p + 1 + d) (j := p) (C := vB (gg p) d) (by omega) (fun y hy => (hh y (by omega)).2)
      have a3 := Nat.mul_le_mul_right (vB (gg p) d) h.g
      have a4 : q * vB (gg p) (d + 1) = q * (gg p * vB (gg p) d) + q * 11000000000000 := by show q * (gg p * vB (gg p) d + 11000000000000) = _; rw [Nat.mul_add]
      have a5 : gg p * q * vB (gg p) d = q * (gg p * vB (gg p) d) := by rw [Nat.mul_comm (gg p) q, Nat.mul_assoc]
      have a6 : 11000000000000 ≤ q * 11000000000000 := Nat.le_mul_of_pos_left _ w1
      unfold lS'
      omega
    · obtain ⟨z, hz⟩ := dv
      have e1 : (q : Int) ^ (8 - d) = (q : Int) * (q : Int) ^ (8 - (d + 1)) := by
        rw [Int.mul_comm, ← Int.pow_succ, Nat.succ_eq_add_one, show 8 - (d + 1) + 1 = 8 - d by omega]
      rw [e1, Int.mul_assoc] at hz
      refine ⟨z, hz, ?_⟩
      show (if p + 1 + d = p + 1 + d then lS' q p A mm (tF q p A mm d) (p + 1 + d) p / q else _) = _
      rw [if_pos rfl, hz, Int.mul_ediv_cancel_left _ (by omega)]
  intro d
  induction d with
  | zero =>
    intro _
    have b : ∀ k, k < p + 1 + 0 → ((q : Int) ^ (8 - 0)) ∣ tF q p A mm 0 k ∧ (tF q p A mm 0 k).natAbs ≤ vB (gg p) 0 := by
      intro k hk
      refine ⟨Int.dvd_mul_left .., ?_⟩
      show (lT q p A mm k * (q : Int) ^ 8).natAbs ≤ 11000000000000
      rw [Int.natAbs_mul]
      exact Nat.le_trans (Nat.mul_le_mul (h.T (by omega)) (pw_abs w2 8)) (by decide)
    refine ⟨b, fun h5 => ?_⟩
    obtain ⟨b1, z, h1, h2⟩ := nx 0 h5 b
    exact ⟨by rw [h1, h2], b1⟩
  | succ d ih =>
    intro hd
    obtain ⟨b0, -⟩ := ih (by omega)
    obtain ⟨c1, z, h1, h2⟩ := nx d (by omega) b0
    have b : ∀ k, k < p + 1 + (d + 1) → ((q : Int) ^ (8 - (d + 1))) ∣ tF q p A mm (d + 1) k ∧ (tF q p A mm (d + 1) k).natAbs ≤ vB (gg p) (d + 1) := by
      intro k hk
      by_cases e : k = p + 1 + d
      · subst e
        refine ⟨by rw [h2]; exact Int.dvd_mul_right .., ?_⟩
        have h3 : q * (tF q p A mm (d + 1) (p + 1 + d)).natAbs ≤ q * vB (gg p) (d + 1) := by
          have : (lS' q p A mm (tF q p A mm d) (p + 1 + d) p).natAbs = q * (tF q p A mm (d + 1) (p + 1 + d)).natAbs := by
            rw [h1, ← h2, Int.natAbs_mul, Int.natAbs_natCast]
          omega
        exact Nat.le_of_mul_le_mul_left h3 (by omega)
      · have e2 : tF q p A mm (d + 1) k = tF q p A mm d k := by
          show (if k = p + 1 + d then _ else tF q p A mm d k) = _
          rw [if_neg e]
        rw [e2]
        obtain ⟨d1, d2⟩ := b0 k (by omega)
        refine ⟨Int.dvd_trans (show (q : Int) ^ (8 - (d + 1)) ∣ (q : Int) ^ (8 - d) from ⟨q, by rw [← Int.pow_succ, Nat.succ_eq_add_one, show 8 - (d + 1) + 1 = 8 - d by omega]⟩) d1, Nat.le_trans d2 ?_⟩
        show vB (gg p) d ≤ gg p * vB (gg p) d + 11000000000000
        have vm : ∀ d, vB (gg p) d ≤ gg p * vB (gg p) d + 11000000000000 := by
          intro d
          rcases Nat.eq_zero_or_pos (gg p) with y | y
          · rw [y]
            cases d with
            | zero => decide
            | succ d => show 0 * vB 0 d + 11000000000000 ≤ _; rw [Nat.zero_mul]; omega
          · have := Nat.le_mul_of_pos_left (vB (gg p) d) y
            omega
        exact vm d
    refine ⟨b, fun h5 => ?_⟩
    obtain ⟨b1, z', h3, h4⟩ := nx (d + 1) h5 b
    exact ⟨by rw [h3, h4], b1⟩
theorem tt_abs {q p : Nat} {A mm : Nat → Int} (h : lOk q p A mm) {k : Nat} (hk : k < 9) : (tt q p A mm k).natAbs ≤ 216000000000000000 := by
  have hp := h.1.2.2
  have := ((tF_ok h (8 - p) (Nat.le_refl _)).1 k (by omega)).2
  rw [tF_le q p A mm (8 - p) k (by omega)] at this
  exact Nat.le_trans this (vB_le p (by omega) (8 - p) (by omega) (Nat.le_refl _))
theorem tt_lo {q p : Nat} {A mm : Nat → Int} {k : Nat} (hk : k ≤ p) : tt q p A mm k = lT q p A mm k * (q : Int) ^ 8 := by
  rw [← tF_le q p A mm 0 k (by omega)]; rfl
theorem lS'_c {q p : Nat} {A mm f g : Nat → Int} {k j : Nat} (hj : j ≤ k) (h : ∀ y, y < k → f y = g y) : lS' q p A mm f k j = lS' q p A mm g k j := by
  unfold lS'
  rw [gS_congr hj h]
theorem tt_rec {q p : Nat} {A mm : Nat → Int} (h : lOk q p A mm) {k : Nat} (h1 : p < k) (hk : k < 9) : (q : Int) * tt q p A mm k = lS' q p A mm (tt q p A mm) k p := by
  have hp := h.1.2.2
  have := ((tF_ok h (k - p - 1) (by omega)).2 (by omega)).1
  rw [tF_le q p A mm (k - p - 1 + 1) (p + 1 + (k - p - 1)) (by omega), show p + 1 + (k - p - 1) = k by omega] at this
  rw [this]
  exact lS'_c (by omega) (fun y hy => tF_le q p A mm (k - p - 1) y (by omega))
theorem lSS_abs {q p : Nat} {A mm : Nat → Int} (h : lOk q p A mm) {k j : Nat} (hA : ∀ k, 1 ≤ k → k < 4 → (A k).natAbs ≤ 8) (hjk : j ≤ k) (j3 : j ≤ p) (hk : k < 9) : (lS' q p A mm (tt q p A mm) k j).natAbs ≤ 5300000000000000000 := by
  have hp := h.1.2.2
  have a1 := h.c8 k
  have a2 := gS_abs (A := A) (f := tt q p A mm) (i := k) (j := j) (C := 216000000000000000) hjk (by omega) hA (fun y hy => tt_abs h (by omega))
  have a3 : j * (8 * 216000000000000000) ≤ 3 * (8 * 216000000000000000) := Nat.mul_le_mul_right _ (by omega)
  unfold lS'
  omega
/-! as rationals -/
def lB (q p : Nat) (A : Nat → Int) : Int := lD q p A * (q : Int) ^ 3 * (q : Int) ^ 8
def lR (q p : Nat) (A mm : Nat → Int) (k : Nat) : Rat := Rat.divInt (tt q p A mm k) (lB q p A)
def lA (q p : Nat) (A mm : Nat → Int) (k j : Nat) : Rat := Rat.divInt (lS' q p A mm (tt q p A mm) k j) ((q : Int) * lB q p A)
theorem lOk.B {q p : Nat} {A mm : Nat → Int} (h : lOk q p A mm) : lB q p A ≠ 0 ∧ (lB q p A).natAbs ≤ 1258291200 := by
  refine ⟨Int.mul_ne_zero (Int.mul_ne_zero h.D.1 (q_ne h.1.1 3)) (q_ne h.1.1 8), ?_⟩
  unfold lB
  rw [Int.natAbs_mul, Int.natAbs_mul]
  exact Nat.le_trans (Nat.mul_le_mul (Nat.mul_le_mul h.D.2 (pw_abs h.1.2.1 3)) (pw_abs h.1.2.1 8)) (by decide)
theorem lOk.qB {q p : Nat} {A mm : Nat → Int} (h : lOk q p A mm) : (q : Int) * lB q p A ≠ 0 ∧ ((q : Int) * lB q p A).natAbs ≤ 5033164800 := by
  refine ⟨Int.mul_ne_zero (by have := h.1.1; omega) h.B.1, ?_⟩
  rw [Int.natAbs_mul, Int.natAbs_natCast]
  exact Nat.le_trans (Nat.mul_le_mul h.1.2.1 h.B.2) (by decide)
theorem lR_sm {q p : Nat} {A mm : Nat → Int} (h : lOk q p A mm) {k : Nat} (hk : k < 9) : sm (lR q p A mm k) 216000000000000000 1258291200 :=
  (sm_div h.B.1).mono (tt_abs h hk) h.B.2
theorem lA_s {q p : Nat} {A mm : Nat → Int} (h : lOk q p A mm) (k j : Nat) : Rat.divInt (A (j + 1)) q * lR q p A mm (k - (j + 1)) = Rat.divInt (A (j + 1) * tt q p A mm (k - (j + 1))) ((q : Int) * lB q p A) ∧ Rat.divInt (A (j + 1)) q * lR q p A mm (k - (j + 1)) + lA q p A mm k j = lA q p A mm k (j + 1) := by
  have e : Rat.divInt (A (j + 1)) q * lR q p A mm (k - (j + 1)) = Rat.divInt (A (j + 1) * tt q p A mm (k - (j + 1))) ((q : Int) * lB q p A) := by
    unfold lR
    rw [Rat.divInt_mul_divInt]
  refine ⟨e, ?_⟩
  rw [e]
  unfold lA
  rw [dv_add h.qB.1, Int.add_comm]
  unfold lS'
  rw [Int.add_assoc]
  rfl
theorem lA_p {q p : Nat} {A mm : Nat → Int} (h : lOk q p A mm) {k : Nat} (h1 : p < k) (hk : k < 9) : lA q p A mm k p = lR q p A mm k := by
  unfold lR lA
  rw [← tt_rec h h1 hk, Rat.divInt_mul_left (show (q : Int) ≠ 0 by have := h.1.1; omega)]
theorem lA_0 {q p : Nat} {A mm : Nat → Int} (h : lOk q p A mm) (k : Nat) : lA q p A mm k 0 = Rat.divInt (mm k) ((q : Int) ^ 4) := by
  unfold lA lS' lB
  show Rat.divInt (mm k * lD q p A * (q : Int) ^ 8 + 0) _ = _
  rw [Int.add_zero, show (q : Int) * (lD q p A * (q : Int) ^ 3 * (q : Int) ^ 8) = (q : Int) ^ 4 * (lD q p A * (q : Int) ^ 8) by grind, Int.mul_assoc, Rat.divInt_mul_right (Int.mul_ne_zero h.D.1 (q_ne h.1.1 8))]
