/-! elimination: rows of whole numbers behind the model's fractions -/
theorem mG_S (m : Mw) (r : Rw) {k k' : Nat} (hk : k < 4) (hk' : k' < 4) : mG (mS m k r) k' = if k' = k then r else mG m k' := by
  rcases (show k = 0 ∨ k = 1 ∨ k = 2 ∨ k = 3 by omega) with rfl | rfl | rfl | rfl <;> rcases (show k' = 0 ∨ k' = 1 ∨ k' = 2 ∨ k' = 3 by omega) with rfl | rfl | rfl | rfl <;> rfl
theorem rC_n (rk rc : Rw) (c j : Nat) : rN (rC rk rc c) j = rN rk j * rN rc c - rN rk c * rN rc j := by
  by_cases h0 : j = 0
  · subst h0; rfl
  by_cases h1 : j = 1
  · subst h1; rfl
  by_cases h2 : j = 2
  · subst h2; rfl
  have e : ∀ r : Rw, rN r j = r.2.2.2.2 := fun r => by unfold rN; rw [if_neg h0, if_neg h1, if_neg h2]
  rw [e, e, e]; rfl
theorem rD_n (r : Rw) (j : Nat) : rN (rD r) j = rN r j / (rGd r : Int) := by
  by_cases h0 : j = 0
  · subst h0; rfl
  by_cases h1 : j = 1
  · subst h1; rfl
  by_cases h2 : j = 2
  · subst h2; rfl
  have e : ∀ r : Rw, rN r j = r.2.2.2.2 := fun r => by unfold rN; rw [if_neg h0, if_neg h1, if_neg h2]
  rw [e, e]; rfl
theorem rGd_dvd (r : Rw) : (rGd r : Int) ∣ r.1 ∧ ∀ j, (rGd r : Int) ∣ rN r j := by
  have a1 : rGd r ∣ Nat.gcd (Nat.gcd (Nat.gcd r.1.natAbs r.2.1.natAbs) r.2.2.1.natAbs) r.2.2.2.1.natAbs := Nat.gcd_dvd_left ..
  have a2 : rGd r ∣ Nat.gcd (Nat.gcd r.1.natAbs r.2.1.natAbs) r.2.2.1.natAbs := Nat.dvd_trans a1 (Nat.gcd_dvd_left ..)
  have a3 : rGd r ∣ Nat.gcd r.1.natAbs r.2.1.natAbs := Nat.dvd_trans a2 (Nat.gcd_dvd_left ..)
  refine ⟨Int.ofNat_dvd_left.mpr (Nat.dvd_trans a3 (Nat.gcd_dvd_left ..)), fun j => Int.ofNat_dvd_left.mpr ?_⟩
  unfold rN
  split
  · exact Nat.dvd_trans a3 (Nat.gcd_dvd_right ..)
  · split
    · exact Nat.dvd_trans a2 (Nat.gcd_dvd_right ..)
    · split
      · exact Nat.dvd_trans a1 (Nat.gcd_dvd_right ..)
      · exact Nat.gcd_dvd_right ..
theorem rD_eq {r : Rw} (h : r.1 ≠ 0) : (rGd r : Int) ≠ 0 ∧ r.1 = (rGd r : Int) * (rD r).1 ∧ ∀ j, rN r j = (rGd r : Int) * rN (rD r) j := by
  obtain ⟨d1, d2⟩ := rGd_dvd r
  refine ⟨fun z => h ?_, (Int.mul_ediv_cancel' d1).symm, fun j => by rw [rD_n]; exact (Int.mul_ediv_cancel' (d2 j)).symm⟩
  rw [z] at d1
  obtain ⟨x, hx⟩ := d1
  rw [hx, Int.zero_mul]
theorem rOk_b {r : Rw} (h : rOk r = true) : r.1 ≠ 0 ∧ r.1.natAbs ≤ 300 ∧ (∀ j, (rN r j).natAbs ≤ 2000) ∧ ∀ n, n ≤ 4 → sN (fun j => (rN r j).natAbs) n ≤ 2000 := by
  unfold rOk at h
  simp only [Bool.and_eq_true, Bool.not_eq_true', decide_eq_false_iff_not, decide_eq_true_eq] at h
  obtain ⟨h1, h2, h3⟩ := h
  refine ⟨h1, h2, fun j => ?_, fun n hn => ?_⟩
  · unfold rN
    split
    · omega
    · split
      · omega
      · split <;> omega
  · have s4 : sN (fun j => (rN r j).natAbs) 4 ≤ 2000 := by
      show 0 + r.2.1.natAbs + r.2.2.1.natAbs + r.2.2.2.1.natAbs + r.2.2.2.2.natAbs ≤ 2000
      omega
    have := sN_mono (f := fun j => (rN r j).natAbs) (a := n) (d := 4 - n)
    rw [show n + (4 - n) = 4 by omega] at this
    omega
theorem sI_lin (f g : Nat → Int) (a b : Int) : ∀ n, sI (fun j => f j * a - b * g j) n = sI f n * a - b * sI g n
  | 0 => by show 0 = 0 * a - b * 0; rw [Int.zero_mul, Int.mul_zero]; rfl
  | n + 1 => by
    show sI (fun j => f j * a - b * g j) n + (f n * a - b * g n) = (sI f n + f n) * a - b * (sI g n + g n)
    rw [sI_lin f g a b n]; grind
theorem sI_mull (f : Nat → Int) (a : Int) : ∀ n, sI (fun j => a * f j) n = a * sI f n
  | 0 => by show 0 = a * 0; rw [Int.mul_zero]
  | n + 1 => by
    show sI (fun j => a * f j) n + a * f n = a * (sI f n + f n)
    rw [sI_mull f a n, Int.mul_add]
def rSm (n : Nat) (T : Nat → Int) (r : Rw) : Int := sI (fun j => rN r j * T j) n
/-- a row's value at a place: a cell, or the right side -/
def vN (n : Nat) (T : Nat → Int) (L : Int) (r : Rw) (i : Nat) : Rat := if i < n then Rat.divInt (rN r i) r.1 else Rat.divInt (rSm n T r) (r.1 * L)
theorem vN_D {n : Nat} {T : Nat → Int} {L : Int} {r : Rw} (h : r.1 ≠ 0) (i : Nat) : vN n T L (rD r) i = vN n T L r i := by
  obtain ⟨g0, g1, g2⟩ := rD_eq h
  unfold vN
  by_cases z : i < n
  · rw [if_pos z, if_pos z, g2 i]
    rw [show Rat.divInt ((rGd r : Int) * rN (rD r) i) r.1 = Rat.divInt ((rGd r : Int) * rN (rD r) i) ((rGd r : Int) * (rD r).1) by rw [← g1], Rat.divInt_mul_left g0]
  · rw [if_neg z, if_neg z]
    have e : rSm n T r = (rGd r : Int) * rSm n T (rD r) := by
      unfold rSm
      rw [← sI_mull]
      exact sI_congr (fun j _ => by rw [g2 j, Int.mul_assoc])
    rw [e, show r.1 * L = (rGd r : Int) * ((rD r).1 * L) by rw [← Int.mul_assoc, ← g1], Rat.divInt_mul_left g0]
/-- bounds that hold throughout -/
def tOk (n : Nat) (T : Nat → Int) (L : Int) : Prop := (1 ≤ n ∧ n ≤ 4) ∧ (∀ j, j < n → (T j).natAbs ≤ 162816000) ∧ L ≠ 0 ∧ L.natAbs ≤ 19200
theorem rSm_b {n : Nat} {T : Nat → Int} {L : Int} (t : tOk n T L) {r : Rw} (h : rOk r = true) : (rSm n T r).natAbs ≤ 325632000000 := by
  have : (rSm n T r).natAbs ≤ sN (fun j => (rN r j).natAbs * 162816000) n := sI_abs (fun j hj => by rw [Int.natAbs_mul]; exact Nat.mul_le_mul_left _ (t.2.1 j hj))
  rw [sN_mulr] at this
  exact Nat.le_trans this (Nat.le_trans (Nat.mul_le_mul_right _ ((rOk_b h).2.2.2 n t.1.2)) (by decide))
theorem vN_sm {n : Nat} {T : Nat → Int} {L : Int} (t : tOk n T L) {r : Rw} (h : rOk r = true) (i : Nat) : sm (vN n T L r i) 325632000000 5760000 := by
  obtain ⟨h1, h2, h3, -⟩ := rOk_b h
  unfold vN
  split
  · exact (sm_div h1).mono (Nat.le_trans (h3 i) (by decide)) (Nat.le_trans h2 (by decide))
  · refine (sm_div (Int.mul_ne_zero h1 t.2.2.1)).mono (rSm_b t h) ?_
    rw [Int.natAbs_mul]
    exact Nat.le_trans (Nat.mul_le_mul h2 t.2.2.2) (by decide)
def rho (rk rc : Rw) (c : Nat) : Rat := Rat.divInt (-(rN rk c * rc.1)) (rk.1 * rN rc c)
theorem rho_sm {rk rc : Rw} {c : Nat} (hk : rOk rk = true) (hc : rOk rc = true) (h0 : rN rc c ≠ 0) : sm (rho rk rc c) 600000 600000 := by
  obtain ⟨k1, k2, k3, -⟩ := rOk_b hk
  obtain ⟨c1, c2, c3, -⟩ := rOk_b hc
  refine (sm_div (Int.mul_ne_zero k1 h0)).mono ?_ ?_
  · rw [Int.natAbs_neg, Int.natAbs_mul]
    exact Nat.le_trans (Nat.mul_le_mul (k3 c) c2) (by decide)
  · rw [Int.natAbs_mul]
    exact Nat.le_trans (Nat.mul_le_mul k2 (c3 c)) (by decide)
theorem comb {n : Nat} {T : Nat → Int} {L : Int} (t : tOk n T L) {rk rc : Rw} {c : Nat} (hk : rOk rk = true) (hc : rOk rc = true) (h0 : rN rc c ≠ 0) (i : Nat) : ∃ a b X : Int, X ≠ 0 ∧ X.natAbs < 9223372036854775808 ∧ a.natAbs + b.natAbs < 9223372036854775808 ∧ vN n T L rc i * rho rk rc c = Rat.divInt a X ∧ vN n T L rk i = Rat.divInt b X ∧ vN n T L rc i * rho rk rc c + vN n T L rk i = vN n T L (rC rk rc c) i := by
  obtain ⟨k1, k2, k3, -⟩ := rOk_b hk
  obtain ⟨c1, c2, c3, -⟩ := rOk_b hc
  by_cases z : i < n
  · have X0 : rk.1 * rN rc c ≠ 0 := Int.mul_ne_zero k1 h0
    have e1 : vN n T L rc i * rho rk rc c = Rat.divInt (-(rN rk c * rN rc i)) (rk.1 * rN rc c) := by
      unfold vN rho
      rw [if_pos z, Rat.divInt_mul_divInt, show rN rc i * -(rN rk c * rc.1) = rc.1 * -(rN rk c * rN rc i) by grind, Rat.divInt_mul_left c1]
    have e2 : vN n T L rk i = Rat.divInt (rN rk i * rN rc c) (rk.1 * rN rc c) := by
      unfold vN
      rw [if_pos z, Rat.divInt_mul_right h0]
    refine ⟨_, _, _, X0, ?_, ?_, e1, e2, ?_⟩
    · rw [Int.natAbs_mul]
      exact Nat.lt_of_le_of_lt (Nat.mul_le_mul k2 (c3 c)) (by decide)
    · have n1 : (-(rN rk c * rN rc i)).natAbs ≤ 2000 * 2000 := by rw [Int.natAbs_neg, Int.natAbs_mul]; exact Nat.mul_le_mul (k3 c) (c3 i)
      have n2 : (rN rk i * rN rc c).natAbs ≤ 2000 * 2000 := by rw [Int.natAbs_mul]; exact Nat.mul_le_mul (k3 i) (c3 c)
      omega
    · rw [e1, e2, dv_add X0]
      unfold vN
      rw [if_pos z, rC_n, show -(rN rk c * rN rc i) + rN rk i * rN rc c = rN rk i * rN rc c - rN rk c * rN rc i by omega]
      rfl
  · have X0 : rk.1 * rN rc c * L ≠ 0 := Int.mul_ne_zero (Int.mul_ne_zero k1 h0) t.2.2.1
    have bk := rSm_b t hk
    have bc := rSm_b t hc
    have e1 : vN n T L rc i * rho rk rc c = Rat.divInt (-(rN rk c * rSm n T rc)) (rk.1 * rN rc c * L) := by
      unfold vN rho
      rw [if_neg z, Rat.divInt_mul_divInt, show rSm n T rc * -(rN rk c * rc.1) = rc.1 * -(rN rk c * rSm n T rc) by grind, show rc.1 * L * (rk.1 * rN rc c) = rc.1 * (rk.1 * rN rc c * L) by grind, Rat.divInt_mul_left c1]
    have e2 : vN n T L rk i = Rat.divInt (rSm n T rk * rN rc c) (rk.1 * rN rc c * L) := by
      unfold vN
      rw [if_neg z, show rk.1 * rN rc c * L = rk.1 * L * rN rc c by grind, Rat.divInt_mul_right h0]
    refine ⟨_, _, _, X0, ?_, ?_, e1, e2, ?_⟩
    · rw [Int.natAbs_mul, Int.natAbs_mul]
      exact Nat.lt_of_le_of_lt (Nat.mul_le_mul (Nat.mul_le_mul k2 (c3 c)) t.2.2.2) (by decide)
    · have n1 : (-(rN rk c * rSm n T rc)).natAbs ≤ 2000 * 325632000000 := by rw [Int.natAbs_neg, Int.natAbs_mul]; exact Nat.mul_le_mul (k3 c) bc
      have n2 : (rSm n T rk * rN rc c).natAbs ≤ 325632000000 * 2000 := by rw [Int.natAbs_mul]; exact Nat.mul_le_mul bk (c3 c)
      omega
    · rw [e1, e2, dv_add X0]
      unfold vN
      rw [if_neg z]
      have e3 : rSm n T (rC rk rc c) = rSm n T rk * rN rc c - rN rk c * rSm n T rc := by
        unfold rSm
        rw [← sI_lin]
        exact sI_congr (fun j _ => by rw [rC_n]; grind)
      rw [e3, show -(rN rk c * rSm n T rc) + rSm n T rk * rN rc c = rSm n T rk * rN rc c - rN rk c * rSm n T rc by omega]
      rfl
theorem cU_neg (r : Rat) : cU (-r) = -(cU r) := by unfold cU; rw [Rat.neg_num, Int64.ofInt_neg]
theorem cL_neg (r : Rat) : cL (-r) = cL r := by unfold cL; rw [Rat.neg_den]
theorem cU_0 {r : Rat} {C D : Nat} (h : sm r C D) (hC : C < 9223372036854775808) : cU r = 0 ↔ r = 0 := by
  constructor
  · intro z
    have := cU_i h hC
    rw [z, Int64.toInt_zero] at this
    exact Rat.num_eq_zero.mp this.symm
  · intro z; rw [z]; rfl
theorem dv_0 {n d : Int} (hd : d ≠ 0) : Rat.divInt n d = 0 ↔ n = 0 := by
  constructor
  · intro z
    obtain ⟨m, -, m1, -⟩ := dv_nd (a := n) hd
    rw [z] at m1
    rw [m1]; show (0 : Int) * m = 0; rw [Int.zero_mul]
  · intro z; rw [z, Rat.zero_divInt]
/-- the model's row k holds row r -/
def eqr (n : Nat) (T : Nat → Int) (L : Int) (r : Rw) (k : Nat) (M : jM) : Prop := ∀ i, (i < n ∨ i = 4) → M.2 81 (5 * k + i) = cU (vN n T L r i) ∧ M.2 82 (5 * k + i) = cL (vN n T L r i)
def eqM (n : Nat) (T : Nat → Int) (L : Int) (m : Mw) (M : jM) : Prop := ∀ k, k < n → eqr n T L (mG m k) k M
/-- rows but one, and all else, are as before -/
def oRow (k : Nat) (M0 M : jM) : Prop := pFr M0 M ∧ (∀ y, ¬ (5 * k ≤ y ∧ y < 5 * k + 5) → M.2 81 y = M0.2 81 y ∧ M.2 82 y = M0.2 82 y) ∧ ∀ a y, (77 ≤ a ∧ a ≤ 80) → M.2 a y = M0.2 a y
theorem oRow.jF {k : Nat} {M0 M : jM} (h : oRow k M0 M) (r : Rat) : oRow k M0 (jF M r) := ⟨h.1.jF r, fun y hy => by rw [jF_o _ _ (by decide), jF_o _ _ (by decide)]; exact h.2.1 y hy, fun a y ha => by rw [jF_o _ _ (by omega)]; exact h.2.2 a y ha⟩
theorem m_el234 {K : jK} {M0 : jM} {n c k : Nat} {T : Nat → Int} {L : Int} {rk rc : Rw} (t : tOk n T L) (hc4 : c < n) (hk4 : k < n) (hck : k ≠ c) (ok : rOk rk = true) (oc : rOk rc = true) (h0 : rN rc c ≠ 0) (ec : eqr n T L rc c M0) (ek : eqr n T L rk k M0) (nx : ∀ M, oRow k M0 M → eqr n T L (rC rk rc c) k M → jEv nX8_eliminate (137, [(0, .ref 67), (1, .int (nI c)), (2, .int (nI n)), (4, .int (nI (k + 1)))], [], M) K) : ∀ (d x : Nat), x + d = 5 → ∀ M, oRow k M0 M → (∀ i, (i < n ∨ i = 4) → i < x → M.2 81 (5 * k + i) = cU (vN n T L (rC rk rc c) i) ∧ M.2 82 (5 * k + i) = cL (vN n T L (rC rk rc c) i)) → (∀ i, (i < n ∨ i = 4) → x ≤ i → M.2 81 (5 * k + i) = cU (vN n T L rk i) ∧ M.2 82 (5 * k + i) = cL (vN n T L rk i)) → jEv nX8_eliminate (234, [(0, .ref 67), (1, .int (nI c)), (2, .int (nI n)), (4, .int (nI k)), (5, .long (cU (rho rk rc c))), (7, .long (cL (rho rk rc c))), (9, .int (nI x))], [], M) K := by
  have hn4 := t.1.2
  have hn1 := t.1.1
  have rs := rho_sm ok oc h0
  have en : nI n - 1 = nI (n - 1) := by
    have := nI_pred (n - 1)
    rw [show n - 1 + 1 = n by omega] at this
    exact this
  intro d
  induction d with
  | zero =>
    intro x hx M f s1 s2
    have : x = 5 := by omega
    subst this
    refine v_X8_eliminate_234 ⟨fun _ => ?_, fun z => absurd (by decide) z⟩
    rw [nI_1]
    exact nx M f (fun i hi => s1 i hi (by omega))
  | succ d ih =>
    intro x hx M f s1 s2
    have step : (x < n ∨ x = 4) → (¬ ((5 * nI c) + nI x < 0 ∨ 20 ≤ ((5 * nI c) + nI x).toNatClampNeg) ∧ (¬ ((5 * nI c) + nI x < 0 ∨ 20 ≤ ((5 * nI c) + nI x).toNatClampNeg) ∧ (jEv nX8_set (0, [(0, .ref 67), (1, .long (M.2 81 ((5 * nI c) + nI x).toNatClampNeg)), (3, .long (M.2 82 ((5 * nI c) + nI x).toNatClampNeg))], [], M) (fun o1 M2 => o1 = some none ∧ (jEv nX8_times (0, [(0, .ref 67), (1, .long (cU (rho rk rc c))), (3, .long (cL (rho rk rc c)))], [], M2) (fun o3 M4 => o3 = some none ∧ (¬ ((5 * nI k) + nI x < 0 ∨ 20 ≤ ((5 * nI k) + nI x).toNatClampNeg) ∧ (¬ ((5 * nI k) + nI x < 0 ∨ 20 ≤ ((5 * nI k) + nI x).toNatClampNeg) ∧ (jEv nX8_plus (0, [(0, .ref 67), (1, .long (M4.2 81 ((5 * nI k) + nI x).toNatClampNeg)), (3, .long (M4.2 82 ((5 * nI k) + nI x).toNatClampNeg))], [], M4) (fun o5 M6 => o5 = some none ∧ (¬ ((5 * nI k) + nI x < 0 ∨ 20 ≤ ((5 * nI k) + nI x).toNatClampNeg) ∧ (∀ M7 : jM, M7 = jsl M6 81 (((5 * nI k) + nI x).toNatClampNeg) (M6.2 67 3) → (¬ ((5 * nI k) + nI x < 0 ∨ 20 ≤ ((5 * nI k) + nI x).toNatClampNeg) ∧ (∀ M8 : jM, M8 = jsl M7 82 (((5 * nI k) + nI x).toNatClampNeg) (M7.2 67 4) → jEv nX8_eliminate (234, [(0, .ref 67), (1, .int (nI c)), (2, .int (nI n)), (4, .int (nI k)), (5, .long (cU (rho rk rc c))), (7, .long (cL (rho rk rc c))), (9, .int (nI x + 1))], [], M8) K)))))))))))))) := by
      intro hv
      have ic := nI_in (c := 5 * c + x) (N := 20) (by omega) (by omega)
      have ik := nI_in (c := 5 * k + x) (N := 20) (by omega) (by omega)
      have sc := vN_sm t oc x
      obtain ⟨a, b, X, X0, Xb, ab, e1, e2, e3⟩ := comb t ok oc h0 x
      rw [nI5, nI5]
      refine ⟨ic, ic, ?_⟩
      rw [nI_clamp (show 5 * c + x < 2 ^ 31 by omega), nI_clamp (show 5 * k + x < 2 ^ 31 by omega)]
      have cc := f.2.1 (5 * c + x) (by omega)
      rw [cc.1, cc.2, (ec x hv).1, (ec x hv).2, (m_setC sc (by decide) (by decide)).iff]
      refine ⟨rfl, ?_⟩
      rw [(m_times sc rs (by decide) (by decide) (by decide) (by decide) (jF_u _ _) (jF_l _ _)).iff]
      have ik' : ¬ (nI (5 * k + x) < 0 ∨ 20 ≤ 5 * k + x) := by rw [nI_clamp (by omega)] at ik; exact ik
      refine ⟨rfl, ik', ik', ?_⟩
      have sk := s2 x hv (Nat.le_refl x)
      rw [jF_o _ _ (by decide), jF_o _ _ (by decide), jF_o _ _ (by decide), jF_o _ _ (by decide), sk.1, sk.2, (m_plusL e1 e2 X0 ab Xb (jF_u _ _) (jF_l _ _)).iff, e3]
      refine ⟨rfl, ik', fun M7 e7 => ⟨ik', fun M8 e8 => ?_⟩⟩
      rw [jF_u] at e7
      have e74 : M7.2 67 4 = cL (vN n T L (rC rk rc c) x) := by rw [e7, jsl_at, if_neg (by omega), jF_l]
      rw [e74] at e8
      have F := ((f.jF (vN n T L rc x)).jF (vN n T L rc x * rho rk rc c)).jF (vN n T L (rC rk rc c) x)
      generalize hM9 : jF (jF (jF M (vN n T L rc x)) (vN n T L rc x * rho rk rc c)) (vN n T L (rC rk rc c) x) = M9 at *
      have o9 : ∀ a y, a ≠ 67 → M9.2 a y = M.2 a y := fun a y ha => by rw [← hM9, jF_o _ _ ha, jF_o _ _ ha, jF_o _ _ ha]
      have at8 : ∀ y, M8.2 81 y = (if y = 5 * k + x then cU (vN n T L (rC rk rc c) x) else M.2 81 y) ∧ M8.2 82 y = (if y = 5 * k + x then cL (vN n T L (rC rk rc c) x) else M.2 82 y) := by
        intro y
        rw [e8, jsl_at, jsl_at, e7, jsl_at, jsl_at, if_neg (show ¬ (81 = 82 ∧ y = 5 * k + x) from fun w => absurd w.1 (by decide)), if_neg (show ¬ (82 = 81 ∧ y = 5 * k + x) from fun w => absurd w.1 (by decide)), o9 81 y (by decide), o9 82 y (by decide)]
        by_cases w : y = 5 * k + x
        · rw [if_pos ⟨rfl, w⟩, if_pos w, if_pos ⟨rfl, w⟩, if_pos w]; exact ⟨rfl, rfl⟩
        · rw [if_neg (fun u => w u.2), if_neg w, if_neg (fun u => w u.2), if_neg w]; exact ⟨rfl, rfl⟩
      rw [nI_1]
      refine ih (x + 1) (by omega) M8 ⟨?_, fun y hy => ?_, fun a y ha => ?_⟩ (fun i hi hix => ?_) (fun i hi hix => ?_)
      · rw [e8, e7]; exact (F.1.sl (by omega)).sl (by omega)
      · rw [(at8 y).1, (at8 y).2, if_neg (by omega), if_neg (by omega)]; exact f.2.1 y hy
      · rw [e8, jsl_at, if_neg (by omega), e7, jsl_at, if_neg (by omega)]; exact F.2.2 a y ha
      · rw [(at8 _).1, (at8 _).2]
        by_cases w : i = x
        · rw [if_pos (by rw [w]), if_pos (by rw [w]), w]; exact ⟨rfl, rfl⟩
        · rw [if_neg (by omega), if_neg (by omega)]; exact s1 i hi (by omega)
      · rw [(at8 _).1, (at8 _).2, if_neg (by omega), if_neg (by omega)]; exact s2 i hi (by omega)
    refine v_X8_eliminate_234 ⟨fun z => absurd z (nI_ge (b := 5) (by omega) (by omega)), fun _ => ?_⟩
    rw [en]
    refine ⟨fun z => step (Or.inl (by have := (nI_leI (by omega) (by omega)).mp z; omega)), fun z => ⟨fun y => step (Or.inr (by have := (nI_leI (a := 4) (b := x) (by omega) (by omega)).mp y; omega)), fun y => ?_⟩⟩
    have z' : ¬ x ≤ n - 1 := fun w => z (nI_le w (by omega))
    have y' : ¬ 4 ≤ x := fun w => y ((nI_leI (a := 4) (b := x) (by omega) (by omega)).mpr w)
    rw [nI_1]
    exact ih (x + 1) (by omega) M f (fun i hi hix => s1 i hi (by omega)) (fun i hi hix => s2 i hi (by omega))
