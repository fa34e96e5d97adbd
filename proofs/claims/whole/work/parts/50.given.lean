/-! given: both -/
theorem pair_eq (a b : Int32) : (a <<< ((8 : Int32) &&& 31)) ||| (b &&& 255) = a * 256 + (b &&& 255) := by
  apply Int32.toBitVec_inj.mp
  have h1 : (a <<< ((8 : Int32) &&& 31)).toBitVec = a.toBitVec <<< 8 := rfl
  have hd : (a.toBitVec <<< 8) &&& (b.toBitVec &&& 255#32) = 0#32 := by
    apply BitVec.eq_of_getLsbD_eq
    intro i hi
    rw [BitVec.getLsbD_and, BitVec.getLsbD_and, BitVec.getLsbD_shiftLeft, BitVec.getLsbD_zero]
    by_cases h8 : i < 8
    · simp [h8]
    · have : (255#32).getLsbD i = false := (by decide : ∀ i : Fin 32, 8 ≤ i.val → (255#32).getLsbD i.val = false) ⟨i, hi⟩ (by show 8 ≤ i; omega)
      rw [this, Bool.and_false, Bool.and_false]
  rw [Int32.toBitVec_or, Int32.toBitVec_add, Int32.toBitVec_mul, Int32.toBitVec_and, h1]
  show (a.toBitVec <<< 8) ||| (b.toBitVec &&& 255#32) = a.toBitVec * 256#32 + (b.toBitVec &&& 255#32)
  rw [← BitVec.add_eq_or_of_and_eq_zero _ _ hd, BitVec.shiftLeft_eq_mul_twoPow]
  rfl
def prB (f : Nat → Int32) (k : Nat) : Int32 := f (2 * k) * 256 + (f (2 * k + 1) &&& 255)
theorem s_pair (M : jM) {k : Nat} (hk : k < 50) : jTo nX6_pair (0, [(0, .ref 1), (1, .int (nI k))], [], M) (some (some (.int (prB (M.1 2) k)))) M := by
  have e2 : 2 * nI k = nI (2 * k) := by rw [show (2 : Int32) = nI 2 from rfl, pk_mul]
  refine v_X6_pair_0 ?_
  rw [e2, nI_1, nI_clamp (by omega), nI_clamp (by omega)]
  have a1 := nI_in (c := 2 * k) (N := 100) (by omega) (by omega)
  have a2 := nI_in (c := 2 * k + 1) (N := 100) (by omega) (by omega)
  rw [nI_clamp (by omega)] at a1 a2
  exact ⟨a1, a2, rfl, rfl⟩
theorem op_given {M : jM} (h : iInv M) (x : Int32) : jBoth nX7_given nX8_given [(0, .ref 0), (1, .int x)] [(0, .ref 67), (1, .int x)] M := by
  obtain ⟨n, t1, t2, t3, t4⟩ := h.1
  have erem : nI n - nI n / 2 * 2 = nI (n % 2) := pk_rem (d := 2) (by omega) (by omega) (by omega)
  have ediv : nI n / 2 = nI (n / 2) := pk_div (d := 2) (by omega) (by omega) (by omega)
  have used : ∀ M', M'.1 1 1 = 0 → M'.1 67 2 = 0 → (∀ a k, a ≠ 59 → a ≠ 87 → ¬ (a = 1 ∧ k = 1) → ¬ (a = 67 ∧ (k = 0 ∨ k = 2)) → M'.1 a k = M.1 a k) → M'.2 = M.2 → iInv M' := by
    intro M' e1 e2 e3 e4
    refine h.tape ⟨0, by omega, e1, e2, fun i hi => ?_⟩ (fun a k z1 z2 z3 z4 z5 z6 z7 z8 z9 => e3 a k z6 z7 (by omega) (by omega)) (fun a k _ => by rw [e4])
    rw [e3 68 i (by omega) (by omega) (by omega) (by omega), e3 2 i (by omega) (by omega) (by omega) (by omega)]
    exact t4 i hi
  have mod : ∀ (M2 : jM) {K : jK}, (∀ a k, (a = 68 ∨ (a = 67 ∧ k = 2)) → M2.1 a k = M.1 a k) → (∀ M3, M3 = jsi (jsi M2 67 0 0) 67 2 0 → (n < 2 ∨ 10 < n ∨ n % 2 = 1) → K (some (some (.int 0))) M3) → (∀ N, n = 2 * N → 1 ≤ N → N ≤ 5 → ∀ M3, (∀ k, k < N → M3.1 87 k = prB (M.1 68) k) → (∀ a k, a ≠ 87 → ¬ (a = 67 ∧ (k = 0 ∨ k = 2)) → M3.1 a k = M2.1 a k) → M3.1 67 2 = 0 → M3.2 = M2.2 → jEv nX8_puts (0, [(0, .ref 67), (1, .int x), (2, .int (nI N))], [], M3) (fun o1 M2 => ∃ r3 : Int32, o1 = some (some (.int r3)) ∧ ((r3 = 0 ∨ r3 = 1) ∧ K (some (some (.int r3))) M2))) → jEv nX8_given (0, [(0, .ref 67), (1, .int x)], [], M2) K := by
    intro M2 K e0 k0 k1
    refine v_X8_given_0 (fun M1 e1 => ?_)
    rw [(s_taken M1).iff]
    have e3 : M1.1 67 2 = nI n := by rw [e1, jsi_at, if_neg (by decide), e0 67 2 (Or.inr ⟨rfl, rfl⟩)]; exact t3
    rw [e3]
    have kz := k0 (jsi M1 67 2 0) (by rw [e1])
    refine ⟨_, rfl, fun q => kz (Or.inl ?_), fun q => ⟨fun q2 => kz (Or.inr (Or.inl ?_)), fun q2 => ⟨fun q3 => kz (Or.inr (Or.inr ?_)), fun q3 => ?_⟩⟩⟩
    · exact (nI_ltI (b := 2) (by omega) (by omega)).mp q
    · exact (nI_ltI (a := 10) (by omega) (by omega)).mp q2
    · rw [erem] at q3
      exact (nI_eq (b := 1) (by omega) (by omega)).mp q3
    · have n2 : 2 ≤ n := Nat.not_lt.mp (fun w => q (nI_lt (b := 2) w (by omega)))
      have n10 : n ≤ 10 := Nat.not_lt.mp (fun w => q2 (nI_lt (a := 10) w (by omega)))
      have nev : n % 2 = 0 := by
        rcases Nat.mod_two_eq_zero_or_one n with w | w
        · exact w
        · exact absurd (by rw [erem, w]; rfl) q3
      obtain ⟨N, hN⟩ : ∃ N, n = 2 * N := ⟨n / 2, by omega⟩
      have eN : nI n / 2 = nI N := by rw [ediv, hN]; congr 1; omega
      have kk := k1 N hN (by omega) (by omega)
      have f1 : ∀ a k, ¬ (a = 67 ∧ (k = 0 ∨ k = 2)) → (jsi M1 67 2 0).1 a k = M2.1 a k := fun a k z => by rw [jsi_at, if_neg (by omega), e1, jsi_at, if_neg (by omega)]
      have loop : ∀ (r i : Nat), i + r = N → ∀ M4 : jM, (∀ k, k < i → M4.1 87 k = prB (M.1 68) k) → (∀ a k, a ≠ 87 → M4.1 a k = (jsi M1 67 2 0).1 a k) → M4.2 = M2.2 → jEv nX8_given (32, [(0, .ref 67), (1, .int x), (2, .int (nI n)), (3, .int (nI i))], [], M4) K := by
        intro r
        induction r with
        | zero =>
          intro i hi M4 h1 h2 h3
          have : i = N := by omega
          subst this
          refine v_X8_given_32 ⟨fun _ => ?_, fun w => absurd (by rw [eN]; exact Int32.le_refl _) w⟩
          rw [eN]
          exact kk M4 h1 (fun a k z1 z2 => by rw [h2 a k z1, f1 a k z2]) (by rw [h2 67 2 (by omega), jsi_at, if_pos ⟨rfl, rfl⟩]) h3
        | succ r ih =>
          intro i hi M4 h1 h2 h3
          have hc : (nI i).toNatClampNeg = i := nI_clamp (by omega)
          have e5 : 2 * nI i = nI (2 * i) := by rw [show (2 : Int32) = nI 2 from rfl, pk_mul]
          refine v_X8_given_32 ⟨fun w => absurd w (by rw [eN]; exact nI_ge (by omega) (by omega)), fun _ => ⟨by rw [e5]; exact nI_in (by omega) (by omega), by rw [e5, nI_1]; exact nI_in (by omega) (by omega), nI_in (by omega) (by omega), fun M5 f5 => ?_⟩⟩
          rw [hc, e5, nI_1, nI_clamp (by omega), nI_clamp (by omega), pair_eq, h2 68 _ (by omega), h2 68 _ (by omega), f1 68 _ (by omega), f1 68 _ (by omega), e0 68 _ (Or.inl rfl), e0 68 _ (Or.inl rfl)] at f5
          rw [nI_1]
          refine ih (i + 1) (by omega) M5 (fun k hk => ?_) (fun a k z => ?_) (by rw [f5]; exact h3)
          · rw [f5, jsi_at]
            by_cases e : k = i
            · rw [if_pos ⟨rfl, e⟩, e]; rfl
            · rw [if_neg (fun w => e w.2)]; exact h1 k (by omega)
          · rw [f5, jsi_at, if_neg (fun w => z w.1)]; exact h2 a k z
      exact loop N 0 (by omega) _ (fun k hk => absurd hk (Nat.not_lt_zero k)) (fun _ _ _ => rfl) (by rw [e1]; rfl)
  have no : ∀ M1, M1 = jsi M 1 1 0 → (¬ (0 ≤ x ∧ x ≤ 5) ∨ n < 2 ∨ 10 < n ∨ n % 2 = 1) → jEv nX8_given (0, [(0, .ref 67), (1, .int x)], [], M1) (fun o2 M2 => o2 = some (some (.int 0)) ∧ iInv M2) := by
    intro M1 e1 hc
    have f1 : ∀ a k, ¬ (a = 1 ∧ k = 1) → M1.1 a k = M.1 a k := fun a k z => by rw [e1, jsi_at, if_neg z]
    refine mod M1 (fun a k z => f1 a k (by omega)) (fun M3 e3 _ => ⟨rfl, used M3 ?_ ?_ (fun a k z1 z2 z3 z4 => ?_) ?_⟩) (fun N n1 n2 n3 M3 g1 g2 g3 g4 => ?_)
    · rw [e3, jsi_at, if_neg (by decide), jsi_at, if_neg (by decide), e1, jsi_at, if_pos (by decide)]
    · rw [e3, jsi_at, if_pos (by decide)]
    · rw [e3, jsi_at, if_neg (by omega), jsi_at, if_neg (by omega)]; exact f1 a k z3
    · rw [e3, e1]; rfl
    · rcases hc with hx | hx
      · rw [(s_puts_out M3 hx).iff]
        refine ⟨_, rfl, Or.inl rfl, rfl, used M3 ?_ g3 (fun a k z1 z2 z3 z4 => ?_) ?_⟩
        · rw [g2 1 1 (by omega) (by omega), e1, jsi_at, if_pos (by decide)]
        · rw [g2 a k z2 z4]; exact f1 a k z3
        · rw [g4, e1]; rfl
      · exact absurd hx (by omega)
  refine v_X7_given_0 (fun M1 e1 => ?_)
  have f1 : ∀ a k, ¬ (a = 1 ∧ k = 1) → M1.1 a k = M.1 a k := fun a k z => by rw [e1, jsi_at, if_neg z]
  rw [e_isSlot, t2, erem, ediv]
  rcases slot_cases x with ⟨j, hj, rfl⟩ | hx
  · rw [if_pos (slot_in hj).1]
    refine ⟨_, rfl, fun q => absurd q (by decide), fun _ => ⟨fun q => ?_, fun q => ⟨0, rfl, no M1 e1 (Or.inr (Or.inr (Or.inr ?_)))⟩⟩⟩
    · have nev : n % 2 = 0 := (nI_eq (b := 0) (by omega) (by omega)).mp q
      refine ⟨fun q2 => ?_, fun q2 => ⟨0, rfl, no M1 e1 (Or.inr (Or.inr (Or.inl ?_)))⟩⟩
      · have n5 : n / 2 ≤ 5 := (nI_leI (b := 5) (by omega) (by omega)).mp q2
        obtain ⟨N, hN⟩ : ∃ N, n = 2 * N := ⟨n / 2, by omega⟩
        rw [show n / 2 = N by omega]
        have loop : ∀ (r i : Nat), i + r = N → ∀ M4 : jM, (∀ k, k < i → M4.1 59 k = prB (M.1 68) k) → (∀ a k, a ≠ 59 → M4.1 a k = M1.1 a k) → M4.2 = M.2 → jEv nX7_given (45, [(0, .ref 0), (1, .int (nI j)), (3, .int (nI N)), (4, .int (nI i))], [], M4) (fun o1 M1 => ∃ r : Int32, o1 = some (some (.int r)) ∧ jEv nX8_given (0, [(0, .ref 67), (1, .int (nI j))], [], M1) (fun o2 M2 => o2 = some (some (.int r)) ∧ iInv M2)) := by
          intro r
          induction r with
          | zero =>
            intro i hi M4 h1 h2 h3
            have : i = N := by omega
            subst this
            refine v_X7_given_45 ⟨fun _ => ?_, fun w => absurd (Int32.le_refl _) w⟩
            refine c_end (M := M) (d := fun k => prB (M.1 68) k) hj (by omega) h1 (fun a k z z2 => by rw [h2 a k z]; exact f1 a k z2) h3 (fun r1 M5 w1 q1 => ⟨r1, rfl, ?_⟩)
            have q11 : M5.1 1 1 = 0 := by rw [q1, h2 1 1 (by omega), e1, jsi_at, if_pos (by decide)]
            refine mod M5 (fun a k z => w1.1 a k (by omega) (by omega) (by omega) (by omega)) (fun M6 e6 w => ?_) (fun N' n1 n2 n3 M6 g1 g2 g3 g4 => ?_)
            · -- no pair at all
              have i0 : i = 0 := by omega
              obtain ⟨c1, c2, c3⟩ := w1
              rcases c3 with ⟨k1, -⟩ | ⟨-, k2, k3, k4⟩
              · exact absurd k1.1 (by omega)
              · refine ⟨by rw [k2], used M6 ?_ ?_ (fun a k z1 z2 z3 z4 => ?_) ?_⟩
                · rw [e6, jsi_at, if_neg (by decide), jsi_at, if_neg (by decide)]; exact q11
                · rw [e6, jsi_at, if_pos (by decide)]
                · rw [e6, jsi_at, if_neg (by omega), jsi_at, if_neg (by omega)]
                  by_cases a1 : a = 29 + 2 * j
                  · rw [a1]; exact k3 k
                  · by_cases a2 : a = 29 + 2 * j + 1
                    · rw [a2]; exact k4 k
                    · exact c1 a k z1 z3 a1 a2
                · rw [e6]; exact c2
            · have : N' = i := by omega
              subst this
              refine m_end (M := M5) (d := fun k => prB (M.1 68) k) hj (by omega) g1 g2 g4 (fun r2 M7 w2 q2 => ?_)
              have tp : iTape M7 := by
                refine ⟨0, by omega, ?_, ?_, fun b hb => ?_⟩
                · rw [w2.1 1 1 (by omega) (by omega) (by omega) (by omega)]; exact q11
                · rw [q2]; exact g3
                · rw [w2.1 68 b (by omega) (by omega) (by omega) (by omega), w2.1 2 b (by omega) (by omega) (by omega) (by omega), w1.1 68 b (by omega) (by omega) (by omega) (by omega), w1.1 2 b (by omega) (by omega) (by omega) (by omega)]
                  exact t4 b hb
              obtain ⟨b1, b2⟩ := lik_both h hj (by omega) w1 w2 tp
              exact ⟨by rw [b1], b2⟩
          | succ r ih =>
            intro i hi M4 h1 h2 h3
            have hc : (nI i).toNatClampNeg = i := nI_clamp (by omega)
            refine v_X7_given_45 ⟨fun w => absurd w (nI_ge (by omega) (by omega)), fun _ => ?_⟩
            rw [(s_pair M4 (k := i) (by omega)).iff]
            refine ⟨_, rfl, nI_in (by omega) (by omega), fun M5 f5 => ?_⟩
            have e9 : prB (M4.1 2) i = prB (M.1 68) i := by
              unfold prB
              rw [h2 2 _ (by omega), h2 2 _ (by omega), f1 2 _ (by omega), f1 2 _ (by omega), (t4 (2 * i) (by omega)).1, (t4 (2 * i + 1) (by omega)).1]
            rw [hc, e9] at f5
            rw [nI_1]
            refine ih (i + 1) (by omega) M5 (fun k hk => ?_) (fun a k z => ?_) (by rw [f5]; exact h3)
            · rw [f5, jsi_at]
              by_cases e : k = i
              · rw [if_pos ⟨rfl, e⟩, e]
              · rw [if_neg (fun w => e w.2)]; exact h1 k (by omega)
            · rw [f5, jsi_at, if_neg (fun w => z w.1)]; exact h2 a k z
        exact loop N 0 (by omega) M1 (fun k hk => absurd hk (Nat.not_lt_zero k)) (fun _ _ _ => rfl) (by rw [e1]; rfl)
      · have : ¬ n / 2 ≤ 5 := fun w => q2 ((nI_leI (b := 5) (by omega) (by omega)).mpr w)
        omega
    · have : ¬ n % 2 = 0 := fun w => q (by rw [w]; rfl)
      omega
  · rw [if_neg hx]
    exact ⟨_, rfl, fun _ => ⟨0, rfl, no M1 e1 (Or.inl hx)⟩, fun q => absurd rfl q⟩
