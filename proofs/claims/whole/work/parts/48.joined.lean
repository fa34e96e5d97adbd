/-! joined: both -/
theorem op_joined {M : jM} (h : iInv M) (x y z : Int32) : jBoth nX7_joined nX8_joined [(0, .ref 0), (1, .int x), (2, .int y), (3, .int z)] [(0, .ref 67), (1, .int x), (2, .int y), (3, .int z)] M := by
  -- how many a slot has; none where it is no slot
  have many : ∀ w : Int32, (∃ t n, t < 6 ∧ w = nI t ∧ n ≤ 5 ∧ 0 < n ∧ M.1 (29 + 2 * t) 1 = nI n ∧ M.1 86 t = nI n ∧ ∀ k, k < n → M.1 (29 + 2 * t + 1) k = M.1 85 (5 * t + k)) ∨
      (jTo nX7_toldLikenesses (0, [(0, .ref 0), (1, .int w)], [], M) (some (some .null)) M ∧ ∀ M' : jM, (∀ k, M'.1 86 k = M.1 86 k) → jTo nX8_has (0, [(0, .ref 67), (1, .int w)], [], M') (some (some (.int 0))) M') := by
    intro w
    rcases slot_cases w with ⟨t, ht, rfl⟩ | hw
    · obtain ⟨n, l1, l2, l3, l4, -⟩ := h.2.2.1 t ht
      by_cases hn : n = 0
      · refine Or.inr ⟨?_, fun M' e => ?_⟩
        · have := s_toldLik M ht
          rw [l2, hn, nI_0, if_pos rfl] at this
          exact this
        · have := s_has M' ht l1 (by rw [e]; exact l3)
          rw [if_pos hn] at this
          exact this
      · exact Or.inl ⟨t, n, ht, rfl, l1, by omega, l2, l3, l4⟩
    · exact Or.inr ⟨s_toldLik_no M hw, fun M' _ => s_has_no M' hw⟩
  have hasY : ∀ {M' : jM} {t n : Nat}, t < 6 → n ≤ 5 → 0 < n → M'.1 86 t = nI n → jTo nX8_has (0, [(0, .ref 67), (1, .int (nI t))], [], M') (some (some (.int 1))) M' := by
    intro M' t n a1 a2 a3 a4
    have := s_has M' a1 a2 a4
    rw [if_neg (by omega)] at this
    exact this
  have tolY : ∀ {t n : Nat}, t < 6 → n ≤ 5 → 0 < n → M.1 (29 + 2 * t) 1 = nI n → jTo nX7_toldLikenesses (0, [(0, .ref 0), (1, .int (nI t))], [], M) (some (some (.ref (29 + 2 * t)))) M := by
    intro t n a1 a2 a3 a4
    have := s_toldLik M a1
    rw [a4, if_neg (nI_ne0 a3 (by omega))] at this
    exact this
  have f67 : ∀ k, (jsi M 67 0 0).1 86 k = M.1 86 k := fun k => by rw [jsi_at, if_neg (by omega)]
  rcases many y with ⟨t, n, ht, rfl, n1, n2, n3, n4, n5⟩ | ⟨y1, y2⟩
  · rcases many z with ⟨u, m, hu, rfl, m1, m2, m3, m4, m5⟩ | ⟨z1, z2⟩
    · obtain ⟨s1, s2, s3⟩ := slot_in ht
      obtain ⟨u1, u2, u3⟩ := slot_in hu
      refine v_X7_joined_0 ?_
      rw [(tolY ht n1 n2 n3).iff]
      refine Or.inr ⟨_, jLi_n ht, rfl, ?_⟩
      rw [(tolY hu m1 m2 m3).iff]
      refine Or.inr ⟨_, jLi_n hu, rfl, ?_⟩
      rw [e_isSlot, n3, m3]
      have emin : (if nI m < nI n then nI m else nI n) = nI (min n m) := by
        by_cases q : m < n
        · rw [if_pos (nI_lt q (by omega)), Nat.min_eq_right (by omega)]
        · rw [if_neg (nI_nlt (by omega) (by omega)), Nat.min_eq_left (by omega)]
      rw [emin]
      generalize hNe : min n m = N
      have hN : N ≤ 5 := by omega
      have hNn : N ≤ n ∧ N ≤ m := by omega
      -- the model
      have mod : ∀ (M2 : jM) {K : jK}, (∀ a k, (a = 86 ∨ a = 85) → M2.1 a k = M.1 a k) → (∀ M3, (∀ k, k < N → M3.1 87 k = M.1 85 (5 * t + k) + M.1 85 (5 * u + k)) → (∀ a k, a ≠ 87 → ¬ (a = 67 ∧ (k = 0 ∨ k = 2)) → M3.1 a k = M2.1 a k) → M3.1 67 2 = M2.1 67 2 → M3.2 = M2.2 → jEv nX8_puts (0, [(0, .ref 67), (1, .int x), (2, .int (nI N))], [], M3) (fun o1 M2 => ∃ r3 : Int32, o1 = some (some (.int r3)) ∧ ((r3 = 0 ∨ r3 = 1) ∧ K (some (some (.int r3))) M2))) → jEv nX8_joined (0, [(0, .ref 67), (1, .int x), (2, .int (nI t)), (3, .int (nI u))], [], M2) K := by
        intro M2 K e0 k
        refine v_X8_joined_0 (fun M1 e1 => ?_)
        have f1 : ∀ a k, ¬ (a = 67 ∧ k = 0) → M1.1 a k = M2.1 a k := fun a k z => by rw [e1, jsi_at, if_neg z]
        have g1 : M1.1 86 t = nI n := by rw [f1 86 t (by omega), e0 86 t (Or.inl rfl)]; exact n4
        have g2 : M1.1 86 u = nI m := by rw [f1 86 u (by omega), e0 86 u (Or.inl rfl)]; exact m4
        rw [(hasY ht n1 n2 g1).iff]
        refine ⟨_, rfl, fun q => absurd q (by decide), fun _ => ?_⟩
        rw [(hasY hu m1 m2 g2).iff]
        refine ⟨_, rfl, fun q => absurd q (by decide), fun _ => ⟨s2, u2, ?_⟩⟩
        rw [s3, u3, g1, g2]
        have loop : ∀ (r i : Nat), i + r = N → ∀ M4 : jM, (∀ k, k < i → M4.1 87 k = M.1 85 (5 * t + k) + M.1 85 (5 * u + k)) → (∀ a k, a ≠ 87 → M4.1 a k = M1.1 a k) → M4.2 = M2.2 → jEv nX8_joined (58, [(0, .ref 67), (1, .int x), (2, .int (nI t)), (3, .int (nI u)), (4, .int (nI N)), (5, .int (nI i))], [], M4) K := by
          intro r
          induction r with
          | zero =>
            intro i hi M4 h1 h2 h3
            have : i = N := by omega
            subst this
            exact v_X8_joined_58 ⟨fun _ => k M4 h1 (fun a k z1 z2 => by rw [h2 a k z1, f1 a k (by omega)]) (by rw [h2 67 2 (by omega), f1 67 2 (by omega)]) h3, fun q => absurd (Int32.le_refl _) q⟩
          | succ r ih =>
            intro i hi M4 h1 h2 h3
            have hc : (nI i).toNatClampNeg = i := nI_clamp (by omega)
            have e5 : 5 * nI t + nI i = nI (5 * t + i) := by rw [show (5 : Int32) = nI 5 from rfl, pk_mul, nI_add]
            have e6 : 5 * nI u + nI i = nI (5 * u + i) := by rw [show (5 : Int32) = nI 5 from rfl, pk_mul, nI_add]
            refine v_X8_joined_58 ⟨fun q => absurd q (nI_ge (by omega) (by omega)), fun _ => ⟨by rw [e5]; exact nI_in (by omega) (by omega), by rw [e6]; exact nI_in (by omega) (by omega), nI_in (by omega) (by omega), fun M5 f5 => ?_⟩⟩
            rw [hc, e5, e6, nI_clamp (by omega), nI_clamp (by omega), h2 85 _ (by omega), h2 85 _ (by omega), f1 85 _ (by omega), f1 85 _ (by omega), e0 85 _ (Or.inr rfl), e0 85 _ (Or.inr rfl)] at f5
            rw [nI_1]
            refine ih (i + 1) (by omega) M5 (fun k hk => ?_) (fun a k z => ?_) (by rw [f5]; exact h3)
            · rw [f5, jsi_at]
              by_cases e : k = i
              · rw [if_pos ⟨rfl, e⟩, e]
              · rw [if_neg (fun w => e w.2)]; exact h1 k (by omega)
            · rw [f5, jsi_at, if_neg (fun w => z w.1)]; exact h2 a k z
        have hloop := loop N 0 (by omega) M1 (fun k hk => absurd hk (Nat.not_lt_zero k)) (fun _ _ _ => rfl) (by rw [e1]; rfl)
        refine ⟨fun q => ⟨by rw [u3] at u2; exact u2, ?_⟩, fun q => ⟨by rw [s3] at s2; exact s2, ?_⟩⟩
        · have : m ≤ n := (nI_leI (by omega) (by omega)).mp q
          rw [show m = N by omega]; exact hloop
        · have : ¬ m ≤ n := fun w => q ((nI_leI (by omega) (by omega)).mpr w)
          rw [show n = N by omega]; exact hloop
      rcases slot_cases x with ⟨j, hj, rfl⟩ | hx
      · rw [if_pos (slot_in hj).1]
        refine ⟨_, rfl, fun q => absurd q (by decide), fun _ => ?_⟩
        have loop : ∀ (r i : Nat), i + r = N → ∀ M4 : jM, (∀ k, k < i → M4.1 59 k = M.1 85 (5 * t + k) + M.1 85 (5 * u + k)) → (∀ a k, a ≠ 59 → M4.1 a k = M.1 a k) → M4.2 = M.2 → jEv nX7_joined (51, [(0, .ref 0), (1, .int (nI j)), (4, .ref (29 + 2 * t)), (5, .ref (29 + 2 * u)), (6, .int (nI N)), (7, .int (nI i))], [], M4) (fun o1 M1 => ∃ r : Int32, o1 = some (some (.int r)) ∧ jEv nX8_joined (0, [(0, .ref 67), (1, .int (nI j)), (2, .int (nI t)), (3, .int (nI u))], [], M1) (fun o2 M2 => o2 = some (some (.int r)) ∧ iInv M2)) := by
          intro r
          induction r with
          | zero =>
            intro i hi M4 h1 h2 h3
            have : i = N := by omega
            subst this
            refine v_X7_joined_51 (jLi_n ht) (jLi_n hu) ⟨fun _ => ?_, fun q => absurd (Int32.le_refl _) q⟩
            refine c_end (M := M) (d := fun k => M.1 85 (5 * t + k) + M.1 85 (5 * u + k)) hj hN h1 (fun a k z _ => h2 a k z) h3 (fun r1 M5 w1 q1 => ⟨r1, rfl, ?_⟩)
            refine mod M5 (fun a k z => w1.1 a k (by omega) (by omega) (by omega) (by omega)) (fun M6 g1 g2 g3 g4 => ?_)
            refine m_end (M := M5) (d := fun k => M.1 85 (5 * t + k) + M.1 85 (5 * u + k)) hj hN g1 g2 g4 (fun r2 M7 w2 q2 => ?_)
            have tp : iTape M7 := h.1.cg fun a k z => by
              by_cases a1 : a = 1 ∧ k = 1
              · rw [a1.1, a1.2, w2.1 1 1 (by omega) (by omega) (by omega) (by omega), q1, h2 1 1 (by omega)]
              · by_cases a2 : a = 67 ∧ k = 2
                · rw [a2.1, a2.2, q2, g3, w1.1 67 2 (by omega) (by omega) (by omega) (by omega)]
                · rw [w2.1 a k (by omega) (by omega) (by omega) (by omega), w1.1 a k (by omega) (by omega) (by omega) (by omega)]
            obtain ⟨b1, b2⟩ := lik_both h hj hN w1 w2 tp
            exact ⟨by rw [b1], b2⟩
          | succ r ih =>
            intro i hi M4 h1 h2 h3
            have hc : (nI i).toNatClampNeg = i := nI_clamp (by omega)
            refine v_X7_joined_51 (jLi_n ht) (jLi_n hu) ⟨fun q => absurd q (nI_ge (by omega) (by omega)), fun _ => ⟨nI_in (by omega) (by omega), nI_in (by omega) (by omega), nI_in (by omega) (by omega), fun M5 f5 => ?_⟩⟩
            rw [hc, h2 _ _ (by omega), h2 _ _ (by omega), n5 i (by omega), m5 i (by omega)] at f5
            rw [nI_1]
            refine ih (i + 1) (by omega) M5 (fun k hk => ?_) (fun a k z => ?_) (by rw [f5]; exact h3)
            · rw [f5, jsi_at]
              by_cases e : k = i
              · rw [if_pos ⟨rfl, e⟩, e]
              · rw [if_neg (fun w => e w.2)]; exact h1 k (by omega)
            · rw [f5, jsi_at, if_neg (fun w => z w.1)]; exact h2 a k z
        exact loop N 0 (by omega) M (fun k hk => absurd hk (Nat.not_lt_zero k)) (fun _ _ _ => rfl) rfl
      · rw [if_neg hx]
        refine ⟨_, rfl, fun _ => ⟨0, rfl, mod M (fun _ _ _ => rfl) (fun M3 g1 g2 g3 g4 => ?_)⟩, fun q => absurd rfl q⟩
        rw [(s_puts_out M3 hx).iff]
        refine ⟨_, rfl, Or.inl rfl, rfl, h.kp ⟨fun a k z1 z2 z3 z4 z5 z6 => ?_, fun a k _ => by rw [g4]⟩⟩
        by_cases w : a = 67 ∧ k = 2
        · rw [w.1, w.2]; exact g3
        · exact g2 a k z3 (by omega)
    · refine v_X7_joined_0 ?_
      rw [(tolY ht n1 n2 n3).iff]
      refine Or.inr ⟨_, jLi_n ht, rfl, ?_⟩
      rw [z1.iff]
      refine Or.inl ⟨rfl, ?_⟩
      rw [e_isSlot]
      have q : jEv nX8_joined (0, [(0, .ref 67), (1, .int x), (2, .int (nI t)), (3, .int z)], [], M) (fun o2 M2 => o2 = some (some (.int 0)) ∧ iInv M2) := by
        refine v_X8_joined_0 (fun M1 e1 => ?_)
        rw [e1, (hasY ht n1 n2 (by rw [f67]; exact n4)).iff]
        refine ⟨_, rfl, fun q => absurd q (by decide), fun _ => ?_⟩
        rw [(z2 _ f67).iff]
        exact ⟨_, rfl, fun _ => ⟨rfl, h.kp (kp67v M 0)⟩, fun q => absurd rfl q⟩
      exact ⟨_, rfl, fun _ => ⟨0, rfl, q⟩, fun _ => ⟨0, rfl, q⟩⟩
  · have q : jEv nX8_joined (0, [(0, .ref 67), (1, .int x), (2, .int y), (3, .int z)], [], M) (fun o2 M2 => o2 = some (some (.int 0)) ∧ iInv M2) := by
      refine v_X8_joined_0 (fun M1 e1 => ?_)
      rw [e1, (y2 _ f67).iff]
      exact ⟨_, rfl, fun _ => ⟨rfl, h.kp (kp67v M 0)⟩, fun q => absurd rfl q⟩
    refine v_X7_joined_0 ?_
    rw [y1.iff]
    refine Or.inl ⟨rfl, ?_⟩
    have fin : ∀ {P : Prop}, P → jEv nX7_isSlot (0, [(0, .int x)], [], M) (fun o M' => ∃ r : Int32, o = some (some (.int r)) ∧ ((r = 0 → ∃ r' : Int32, some (some (Value.int 0)) = some (some (.int r')) ∧ jEv nX8_joined (0, [(0, .ref 67), (1, .int x), (2, .int y), (3, .int z)], [], M') (fun o2 M2 => o2 = some (some (.int r')) ∧ iInv M2)) ∧ (¬ r = 0 → ∃ r' : Int32, some (some (Value.int 0)) = some (some (.int r')) ∧ jEv nX8_joined (0, [(0, .ref 67), (1, .int x), (2, .int y), (3, .int z)], [], M') (fun o2 M2 => o2 = some (some (.int r')) ∧ iInv M2)))) := by
      intro P _
      rw [e_isSlot]
      exact ⟨_, rfl, fun _ => ⟨0, rfl, q⟩, fun _ => ⟨0, rfl, q⟩⟩
    rcases many z with ⟨u, m, hu, rfl, m1, m2, m3, m4, m5⟩ | ⟨z1, z2⟩
    · rw [(tolY hu m1 m2 m3).iff]
      exact Or.inr ⟨_, jLi_n hu, rfl, fin (P := True) trivial⟩
    · rw [z1.iff]
      exact Or.inl ⟨rfl, fin (P := True) trivial⟩
