/-! greatest common divisors and fractions in lowest terms: numbers alone -/
theorem g_rem {a b : Int64} {A B : Nat} (ha : a.toInt = A) (hb : b.toInt = B) (h0 : ¬ b = 0) : (a - a / b * b).toInt = ((A % B : Nat) : Int) := by
  have ra := fb_rngL a
  have rb := fb_rngL b
  have hB : 0 < B := by
    rcases Nat.eq_zero_or_pos B with e | e
    · exact absurd (Int64.toInt_inj.mp (by rw [hb, e]; rfl)) h0
    · exact e
  have hd : (a / b).toInt = ((A / B : Nat) : Int) := by
    have l := Nat.div_le_self A B
    rw [Int64.toInt_div, ha, hb, show (A : Int).tdiv (B : Int) = ((A / B : Nat) : Int) from rfl]
    generalize A / B = D at l ⊢
    exact fb_bmodL (by omega) (by omega)
  have hm := Nat.div_add_mod A B
  have hc : A / B * B = B * (A / B) := Nat.mul_comm _ _
  have hp : (a / b * b).toInt = ((A / B * B : Nat) : Int) := by
    have e : (a / b).toInt * b.toInt = ((A / B * B : Nat) : Int) := by rw [hd, hb]; exact (Int.natCast_mul _ _).symm
    rw [fb_mulL (by rw [e]; omega) (by rw [e]; omega), e]
  rw [fb_subL (by rw [ha, hp]; omega) (by rw [ha, hp]; omega), ha, hp]
  omega
theorem g_zero {b : Int64} {B : Nat} (hb : b.toInt = B) : b = 0 ↔ B = 0 := by
  rw [← Int64.toInt_inj, hb]
  show (B : Int) = 0 ↔ _
  omega
theorem g_half {B R : Nat} (h0 : 0 < R) (h : R < B) : 2 * (B % R) < B := by
  have h1 := Nat.mod_lt B h0
  have h2 := Nat.div_add_mod B R
  have h3 : 1 ≤ B / R := (Nat.le_div_iff_mul_le h0).mpr (by omega)
  have h4 : R * 1 ≤ R * (B / R) := Nat.mul_le_mul_left R h3
  omega
/-- the divisor, of numbers that aren't the least long -/
def gI (a b : Int64) : Int64 := Int64.ofInt (Int.gcd a.toInt b.toInt : Nat)
theorem gI_toInt {a b : Int64} (ha : a.toInt ≠ -9223372036854775808) (hb : b.toInt ≠ -9223372036854775808) : (gI a b).toInt = (Int.gcd a.toInt b.toInt : Nat) := by
  have ra := fb_rngL a
  have rb := fb_rngL b
  have h : Int.gcd a.toInt b.toInt < 9223372036854775808 := by
    rcases Nat.eq_zero_or_pos a.toInt.natAbs with e | e
    · have : Int.gcd a.toInt b.toInt = b.toInt.natAbs := by unfold Int.gcd; rw [e, Nat.gcd_zero_left]
      omega
    · have : Int.gcd a.toInt b.toInt ≤ a.toInt.natAbs := Nat.gcd_le_left _ e
      omega
  unfold gI
  rw [Int64.toInt_ofInt]
  exact fb_bmodL (by omega) (by omega)
/-- a fraction in lowest terms -/
def cU (r : Rat) : Int64 := Int64.ofInt r.num
def cL (r : Rat) : Int64 := Int64.ofInt r.den
def rQ (a b : Int64) : Rat := Rat.divInt a.toInt b.toInt
theorem set_num {a b : Int64} (ha : a.toInt ≠ -9223372036854775808) (hb : b.toInt ≠ -9223372036854775808) (h0 : ¬ b = 0) : (0 ≤ b → a / gI a b = cU (rQ a b) ∧ b / gI a b = cL (rQ a b)) ∧ (¬ 0 ≤ b → (a / (-gI a b) = cU (rQ a b) ∧ b / (-gI a b) = cL (rQ a b)) ∧ (-a) / gI a b = cU (rQ a b) ∧ (-b) / gI a b = cL (rQ a b)) ∧ ¬ gI a b = 0 ∧ ¬ (-gI a b) = 0 ∧ 0 < gI a b := by
  have ra := fb_rngL a
  have rb := fb_rngL b
  have hg := gI_toInt ha hb
  have hb0 : b.toInt ≠ 0 := fun e => h0 (Int64.toInt_inj.mp (by rw [e]; rfl))
  have hp : 0 < Int.gcd a.toInt b.toInt := Int.gcd_pos_of_ne_zero_right _ hb0
  have da : ((Int.gcd a.toInt b.toInt : Nat) : Int) ∣ a.toInt := Int.gcd_dvd_left ..
  have db : ((Int.gcd a.toInt b.toInt : Nat) : Int) ∣ b.toInt := Int.gcd_dvd_right ..
  have hn : (-gI a b).toInt = -(Int.gcd a.toInt b.toInt : Nat) := by
    rw [Int64.toInt_neg, hg]
    have := fb_rngL (gI a b)
    exact fb_bmodL (by omega) (by omega)
  have na : (-a).toInt = -a.toInt := by rw [Int64.toInt_neg]; exact fb_bmodL (by omega) (by omega)
  have nb : (-b).toInt = -b.toInt := by rw [Int64.toInt_neg]; exact fb_bmodL (by omega) (by omega)
  obtain ⟨x, hx⟩ := da
  obtain ⟨y, hy⟩ := db
  obtain ⟨G, hG⟩ : ∃ G, Int.gcd a.toInt b.toInt = G := ⟨_, rfl⟩
  rw [hG] at hg hp hn hx hy
  have hG' : b.toInt.gcd a.toInt = G := by rw [Int.gcd_comm]; exact hG
  have hGi : (G : Int) ≠ 0 := by omega
  have num : (rQ a b).num = b.toInt.sign * x := by
    unfold rQ
    rw [Rat.num_divInt, hG', hx, show b.toInt.sign * ((G : Int) * x) = (G : Int) * (b.toInt.sign * x) by rw [Int.mul_left_comm], Int.mul_ediv_cancel_left _ hGi]
  have hyn : b.toInt.natAbs = G * y.natAbs := by rw [hy, Int.natAbs_mul]; rfl
  have den : (rQ a b).den = y.natAbs := by
    unfold rQ
    rw [Rat.den_divInt, if_neg hb0, hG', hyn, Nat.mul_div_cancel_left _ hp]
  have xb : x.natAbs ≤ a.toInt.natAbs := by
    rw [hx, Int.natAbs_mul]
    exact Nat.le_mul_of_pos_left _ hp
  have yb : y.natAbs ≤ b.toInt.natAbs := by
    rw [hyn]
    exact Nat.le_mul_of_pos_left _ hp
  have dv : ∀ {u v : Int64} {w z : Int}, u.toInt = w → v.toInt = z → ∀ {t : Int}, w.tdiv z = t → -9223372036854775808 < t → t < 9223372036854775808 → u / v = Int64.ofInt t := by
    intro u v w z hu hv t ht h1 h2
    refine Int64.toInt_inj.mp ?_
    rw [Int64.toInt_div, hu, hv, ht, Int64.toInt_ofInt]
  have g1 : ∀ z : Int, ((G : Int) * z).tdiv (G : Int) = z := fun z => Int.mul_tdiv_cancel_left z hGi
  have g2 : ∀ z : Int, ((G : Int) * z).tdiv (-(G : Int)) = -z := fun z => by rw [Int.tdiv_neg, g1]
  have g3 : ∀ z : Int, (-((G : Int) * z)).tdiv (G : Int) = -z := fun z => by rw [Int.neg_tdiv, g1]
  refine ⟨fun hs => ?_, fun hs => ?_, ?_, ?_, ?_⟩
  · have hs' : 0 < b.toInt := by
      have := Int64.le_iff_toInt_le.mp hs
      rw [Int64.toInt_zero] at this
      omega
    have sg : b.toInt.sign = 1 := Int.sign_eq_one_of_pos hs'
    have yp : 0 < y := by
      rcases Int.lt_trichotomy y 0 with w | w | w
      · have := Int.mul_neg_of_pos_of_neg (show (0 : Int) < G by omega) w
        omega
      · rw [w, Int.mul_zero] at hy; omega
      · exact w
    unfold cU cL
    rw [num, den, sg, Int.one_mul]
    refine ⟨dv hx hg (g1 x) (by omega) (by omega), ?_⟩
    rw [show ((y.natAbs : Nat) : Int) = y by omega]
    exact dv hy hg (g1 y) (by omega) (by omega)
  · have hs' : b.toInt < 0 := by
      have : ¬ (0 : Int64).toInt ≤ b.toInt := fun q => hs (Int64.le_iff_toInt_le.mpr q)
      rw [Int64.toInt_zero] at this
      omega
    have sg : b.toInt.sign = -1 := Int.sign_eq_neg_one_of_neg hs'
    have yn : y < 0 := by
      rcases Int.lt_trichotomy y 0 with w | w | w
      · exact w
      · rw [w, Int.mul_zero] at hy; omega
      · have := Int.mul_pos (show (0 : Int) < G by omega) w
        omega
    unfold cU cL
    rw [num, den, sg, show (-1 : Int) * x = -x by omega, show ((y.natAbs : Nat) : Int) = -y by omega]
    refine ⟨⟨dv hx hn (g2 x) (by omega) (by omega), dv hy hn (g2 y) (by omega) (by omega)⟩, dv (na.trans (by rw [hx])) hg (g3 x) (by omega) (by omega), dv (nb.trans (by rw [hy])) hg (g3 y) (by omega) (by omega)⟩
  · intro e
    rw [e, Int64.toInt_zero] at hg
    omega
  · intro e
    rw [e, Int64.toInt_zero] at hn
    omega
  · rw [Int64.lt_iff_toInt_lt, hg, Int64.toInt_zero]
    omega
