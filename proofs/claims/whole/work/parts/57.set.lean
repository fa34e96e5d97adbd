/-! the two settings of a fraction come to the same -/
theorem c_gcd_loop (M : jM) : ∀ (k A B i : Nat), B < 2 ^ k → i + 2 * k + 1 ≤ 200 → 0 < Nat.gcd A B → ∀ a b : Int64, a.toInt = A → b.toInt = B → jTo nX1_commonDivisor (15, [(4, .long a), (6, .long b), (8, .int (nI i))], [], M) (some (some (.long (Int64.ofInt (Nat.gcd A B : Nat))))) M := by
  have stop : ∀ (A i : Nat), 0 < A → ∀ a : Int64, a.toInt = A → jTo nX1_commonDivisor (15, [(4, .long a), (6, .long 0), (8, .int (nI i))], [], M) (some (some (.long (Int64.ofInt (Nat.gcd A 0 : Nat))))) M := by
    intro A i hA a ha
    have e : a = Int64.ofInt (Nat.gcd A 0 : Nat) := by rw [Nat.gcd_zero_right, ← ha, Int64.ofInt_toInt]
    have h0 : ¬ a ≤ 0 := by rw [Int64.le_iff_toInt_le, ha, Int64.toInt_zero]; omega
    exact v_X1_commonDivisor_15 ⟨fun _ => ⟨fun w => absurd w h0, fun _ => ⟨by rw [← e], rfl⟩⟩, fun _ => ⟨fun _ => ⟨fun w => absurd w h0, fun _ => ⟨by rw [← e], rfl⟩⟩, fun w => absurd rfl w⟩⟩
  intro k
  induction k with
  | zero =>
    intro A B i hB hi hg a b ha hb
    have : B = 0 := by omega
    subst this
    have e : b = 0 := (g_zero hb).mpr rfl
    subst e
    rw [Nat.gcd_zero_right] at hg
    exact stop A i hg a ha
  | succ k ih =>
    intro A B i hB hi hg a b ha hb
    by_cases h0 : b = 0
    · have e := (g_zero hb).mp h0
      subst e h0
      rw [Nat.gcd_zero_right] at hg
      exact stop A i hg a ha
    · have hB0 : 0 < B := Nat.pos_of_ne_zero (fun e => h0 ((g_zero hb).mpr e))
      refine v_X1_commonDivisor_15 ⟨fun w => absurd w (nI_ge (a := i) (b := 200) (by omega) (by omega)), fun _ => ⟨fun w => absurd w h0, fun _ => ⟨h0, ?_⟩⟩⟩
      have hr := g_rem ha hb h0
      have hl := Nat.mod_lt A hB0
      have e1 : Nat.gcd A B = Nat.gcd B (A % B) := by rw [Nat.gcd_comm A B, Nat.gcd_rec B A, Nat.gcd_comm]
      rw [e1] at hg ⊢
      rw [nI_1]
      generalize a - a / b * b = c at hr ⊢
      generalize hC : A % B = C at *
      by_cases h1 : c = 0
      · have e := (g_zero hr).mp h1
        rw [h1, e]
        exact stop B (i + 1) hB0 b hb
      · have hC0 : 0 < C := Nat.pos_of_ne_zero (fun e => h1 ((g_zero hr).mpr e))
        refine v_X1_commonDivisor_15 ⟨fun w => absurd w (nI_ge (a := i + 1) (b := 200) (by omega) (by omega)), fun _ => ⟨fun w => absurd w h1, fun _ => ⟨h1, ?_⟩⟩⟩
        have hr2 := g_rem hb hr h1
        have hh := g_half hC0 hl
        have e2 : Nat.gcd B C = Nat.gcd C (B % C) := by rw [Nat.gcd_comm B C, Nat.gcd_rec C B, Nat.gcd_comm]
        rw [e2] at hg ⊢
        rw [nI_1]
        exact ih C (B % C) (i + 2) (by rw [Nat.pow_succ] at hB; omega) (by omega) hg _ _ hr hr2
theorem g_abs {a : Int64} (ha : a.toInt ≠ -9223372036854775808) : (if 0 < a then a else -a).toInt = a.toInt.natAbs := by
  have ra := fb_rngL a
  split
  · next h => rw [Int64.lt_iff_toInt_lt, Int64.toInt_zero] at h; omega
  · next h =>
    rw [Int64.lt_iff_toInt_lt, Int64.toInt_zero] at h
    rw [Int64.toInt_neg, fb_bmodL (by omega) (by omega)]
    omega
theorem c_gcd (M : jM) {a b : Int64} (ha : a.toInt ≠ -9223372036854775808) (hb : b.toInt ≠ -9223372036854775808) (h0 : ¬ b = 0) : jTo nX1_commonDivisor (0, [(0, .long a), (2, .long b)], [], M) (some (some (.long (gI a b)))) M := by
  have rb := fb_rngL b
  have hp : 0 < Int.gcd a.toInt b.toInt := Int.gcd_pos_of_ne_zero_right _ (fun e => h0 (Int64.toInt_inj.mp (by rw [e]; rfl)))
  exact v_X1_commonDivisor_0 (c_gcd_loop M 63 a.toInt.natAbs b.toInt.natAbs 0 (by omega) (by omega) hp _ _ (g_abs ha) (g_abs hb))
theorem m_gcd_loop (M : jM) : ∀ (N A B : Nat), B < N → ∀ a b : Int64, a.toInt = A → b.toInt = B → jTo nX8_common (28, [(4, .long a), (6, .long b)], [], M) (some (some (.long (Int64.ofInt (Nat.gcd A B : Nat))))) M := by
  intro N
  induction N with
  | zero => intro A B h; exact absurd h (Nat.not_lt_zero B)
  | succ N ih =>
    intro A B hN a b ha hb
    by_cases h0 : b = 0
    · have e := (g_zero hb).mp h0
      subst e h0
      refine v_X8_common_28 ⟨fun _ => ⟨?_, rfl⟩, fun w => absurd rfl w⟩
      rw [Nat.gcd_zero_right, ← ha, Int64.ofInt_toInt]
    · have hB0 : 0 < B := Nat.pos_of_ne_zero (fun e => h0 ((g_zero hb).mpr e))
      refine v_X8_common_28 ⟨fun w => absurd w h0, fun _ => ⟨h0, ?_⟩⟩
      have hl := Nat.mod_lt A hB0
      have e1 : Nat.gcd A B = Nat.gcd B (A % B) := by rw [Nat.gcd_comm A B, Nat.gcd_rec B A, Nat.gcd_comm]
      rw [e1]
      exact ih B (A % B) (by omega) _ _ hb (g_rem ha hb h0)
theorem m_gcd (M : jM) {a b : Int64} (ha : a.toInt ≠ -9223372036854775808) (hb : b.toInt ≠ -9223372036854775808) : jTo nX8_common (0, [(0, .long a), (2, .long b)], [], M) (some (some (.long (gI a b)))) M := by
  have ra := fb_rngL a
  have rb := fb_rngL b
  have na : (-a).toInt = -a.toInt := by rw [Int64.toInt_neg]; exact fb_bmodL (by omega) (by omega)
  have nb : (-b).toInt = -b.toInt := by rw [Int64.toInt_neg]; exact fb_bmodL (by omega) (by omega)
  have key : ∀ {c d : Int64}, c.toInt = a.toInt.natAbs → d.toInt = b.toInt.natAbs → jTo nX8_common (28, [(4, .long c), (6, .long d)], [], M) (some (some (.long (gI a b)))) M := fun hc hd => m_gcd_loop M _ a.toInt.natAbs b.toInt.natAbs (Nat.lt_succ_self _) _ _ hc hd
  have z : ∀ x : Int64, 0 ≤ x ↔ 0 ≤ x.toInt := fun x => by rw [Int64.le_iff_toInt_le, Int64.toInt_zero]
  refine v_X8_common_0 ⟨fun p => ⟨fun q => key ?_ ?_, fun q => key ?_ ?_⟩, fun p => ⟨fun q => key ?_ ?_, fun q => key ?_ ?_⟩⟩ <;> rw [z] at p q <;> omega
theorem c_set (M : jM) {r : Nat} (hr : jFr r) {a b : Int64} (ha : a.toInt ≠ -9223372036854775808) (hb : b.toInt ≠ -9223372036854775808) (h0 : ¬ b = 0) : jTo nX1_set (0, [(0, .ref r), (1, .long a), (3, .long b)], [], M) (some none) (jsl (jsl M r 0 (cU (rQ a b))) r 1 (cL (rQ a b))) := by
  obtain ⟨s1, s2, s3, s4, -⟩ := set_num ha hb h0
  refine v_X1_set_0 hr ?_
  rw [(c_gcd M ha hb h0).iff]
  refine ⟨_, rfl, fun w => ⟨s3, fun M4 e4 => ⟨s3, fun M5 e5 => ⟨rfl, ?_⟩⟩⟩, fun w => ⟨s4, fun M4 e4 => ⟨s4, fun M5 e5 => ⟨rfl, ?_⟩⟩⟩⟩
  · rw [e5, e4, (s1 w).1, (s1 w).2]
  · rw [e5, e4, (s2 w).1.1, (s2 w).1.2]
theorem m_set (M : jM) {a b : Int64} (ha : a.toInt ≠ -9223372036854775808) (hb : b.toInt ≠ -9223372036854775808) (h0 : ¬ b = 0) : jTo nX8_set (0, [(0, .ref 67), (1, .long a), (3, .long b)], [], M) (some none) (jsl (jsl M 67 3 (cU (rQ a b))) 67 4 (cL (rQ a b))) := by
  obtain ⟨s1, s2, s3, s4, -⟩ := set_num ha hb h0
  refine v_X8_set_0 ?_
  rw [(m_gcd M ha hb).iff]
  refine ⟨_, rfl, fun w => ⟨s3, fun M4 e4 => ⟨fun _ => ⟨s3, fun M5 e5 => ⟨rfl, ?_⟩⟩, fun z => absurd w z⟩⟩, fun w => ⟨s3, fun M4 e4 => ⟨fun z => absurd z w, fun _ => ⟨s3, fun M5 e5 => ⟨rfl, ?_⟩⟩⟩⟩⟩
  · rw [e5, e4, (s1 w).1, (s1 w).2]
  · rw [e5, e4, (s2 w).2.1, (s2 w).2.2]
theorem c_part (M : jM) {r : Nat} (hr : jFr r) (x : Int32) : jTo nX1_part (0, [(0, .ref r), (1, .int x)], [], M) (some (some (.long (if x = 0 then M.2 r 0 else M.2 r 1)))) M :=
  v_X1_part_0 hr ⟨fun w => ⟨by rw [if_pos w], rfl⟩, fun w => ⟨by rw [if_neg w], rfl⟩⟩
theorem m_part (M : jM) (x : Int32) : jTo nX8_told (0, [(0, .ref 67), (1, .int x)], [], M) (some (some (.long (if x = 0 then M.2 67 3 else M.2 67 4)))) M :=
  v_X8_told_0 ⟨fun w => ⟨by rw [if_pos w], rfl⟩, fun w => ⟨by rw [if_neg w], rfl⟩⟩
/-- a part of a fraction -/
def pQ (x : Int32) (r : Rat) : Int64 := if x = 0 then cU r else cL r
theorem c_setpart {M : jM} {K : jK} {a b : Int64} {x : Int32} (ha : a.toInt ≠ -9223372036854775808) (hb : b.toInt ≠ -9223372036854775808) (h0 : ¬ b = 0) (k : ∀ M', iKp M M' → K (some (some (.long (pQ x (rQ a b))))) M') : jEv nX1_set (0, [(0, .ref 60), (1, .long a), (3, .long b)], [], M) (fun o M1 => o = some none ∧ (jEv nX1_part (0, [(0, .ref 60), (1, .int x)], [], M1) (fun o2 M2 => ∃ r : Int64, o2 = some (some (.long r)) ∧ K (some (some (.long r))) M2))) := by
  rw [(c_set M (Or.inl rfl) ha hb h0).iff]
  refine ⟨rfl, ?_⟩
  rw [(c_part _ (Or.inl rfl) x).iff]
  refine ⟨_, rfl, ?_⟩
  exact k _ (((iKp.rfl' M).sl (by decide)).sl (by decide))
theorem m_settold {M : jM} {K : jK} {a b : Int64} {x : Int32} (ha : a.toInt ≠ -9223372036854775808) (hb : b.toInt ≠ -9223372036854775808) (h0 : ¬ b = 0) (k : ∀ M', M'.1 = M.1 → iKp M M' → K (some (some (.long (pQ x (rQ a b))))) M') : jEv nX8_set (0, [(0, .ref 67), (1, .long a), (3, .long b)], [], M) (fun o M1 => o = some none ∧ (jEv nX8_told (0, [(0, .ref 67), (1, .int x)], [], M1) (fun o2 M2 => ∃ r : Int64, o2 = some (some (.long r)) ∧ K (some (some (.long r))) M2))) := by
  rw [(m_set M ha hb h0).iff]
  refine ⟨rfl, ?_⟩
  rw [(m_part _ x).iff]
  refine ⟨_, rfl, ?_⟩
  exact k _ rfl (((iKp.rfl' M).sl (by decide)).sl (by decide))
