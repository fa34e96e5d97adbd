/-! joined, thin: both; the common end of what lays likenesses down -/
theorem okL_congr {d d' : Nat → Int32} {n : Nat} (h : ∀ k, k < n → d k = d' k) : okL d n ↔ okL d' n := by
  have one : ∀ {d d' : Nat → Int32}, (∀ k, k < n → d k = d' k) → okL d n → okL d' n := by
    intro d d' h w
    obtain ⟨w1, w2, w3⟩ := w
    have e0 := h 0 (by omega)
    refine ⟨w1, by rw [← e0]; exact w2, fun k k1 k2 => ?_⟩
    rw [← e0, ← h k k2]
    exact w3 k k1 k2
  exact ⟨one h, one (fun k hk => (h k hk).symm)⟩
def outC (j n : Nat) (d : Nat → Int32) (M M2 : jM) (r : Int32) : Prop := (∀ a k, a ≠ 59 → ¬ (a = 1 ∧ k = 1) → ¬ (a = 29 + 2 * j) → ¬ (a = 29 + 2 * j + 1) → M2.1 a k = M.1 a k) ∧ M2.2 = M.2 ∧
  ((okL d n ∧ r = 1 ∧ M2.1 (29 + 2 * j) 1 = nI n ∧ ∀ k, k < n → M2.1 (29 + 2 * j + 1) k = d k) ∨ (¬ okL d n ∧ r = 0 ∧ (∀ k, M2.1 (29 + 2 * j) k = M.1 (29 + 2 * j) k) ∧ ∀ k, M2.1 (29 + 2 * j + 1) k = M.1 (29 + 2 * j + 1) k))
def outM (j n : Nat) (d : Nat → Int32) (M M2 : jM) (r : Int32) : Prop := (∀ a k, a ≠ 87 → ¬ (a = 67 ∧ (k = 0 ∨ k = 2)) → ¬ (a = 86 ∧ k = j) → ¬ (a = 85 ∧ 5 * j ≤ k ∧ k < 5 * j + 5) → M2.1 a k = M.1 a k) ∧ M2.2 = M.2 ∧
  ((okL d n ∧ r = 1 ∧ M2.1 86 j = nI n ∧ ∀ k, k < n → M2.1 85 (5 * j + k) = d k) ∨ (¬ okL d n ∧ r = 0 ∧ M2.1 86 j = M.1 86 j ∧ ∀ k, 5 * j ≤ k → k < 5 * j + 5 → M2.1 85 k = M.1 85 k))
theorem c_end {j n : Nat} {d : Nat → Int32} {M M1 : jM} (hj : j < 6) (hn : n ≤ 5) (e1 : ∀ k, k < n → M1.1 59 k = d k) (ch : ∀ a k, a ≠ 59 → ¬ (a = 1 ∧ k = 1) → M1.1 a k = M.1 a k) (e2 : M1.2 = M.2) {G : Int32 → jM → Prop} (g : ∀ r M2, outC j n d M M2 r → M2.1 1 1 = M1.1 1 1 → G r M2) :
    jEv nX7_takeDrawn (0, [(0, .ref 0), (1, .int (nI j)), (2, .int (nI n))], [], M1) (fun o1 M2 => ∃ r3 : Int32, o1 = some (some (.int r3)) ∧ ((r3 = 0 ∨ r3 = 1) ∧ G r3 M2)) := by
  by_cases hk : okL (M1.1 59) n
  · refine jEv.mono (s_takeDrawn_yes M1 hj hn hk) (fun o M2 w => ⟨1, w.1, Or.inr rfl, g 1 M2 ⟨fun a k z1 z2 z3 z4 => ?_, ?_, Or.inl ⟨(okL_congr e1).mp hk, rfl, w.2.1, fun k hk2 => ?_⟩⟩ ?_⟩)
    · rw [w.2.2.2.1 a k (fun q => z3 q.1) z4]; exact ch a k z1 z2
    · rw [w.2.2.2.2, e2]
    · rw [w.2.2.1 k hk2, e1 k hk2]
    · exact w.2.2.2.1 1 1 (by omega) (by omega)
  · refine jEv.mono (s_takeDrawn_no M1 (j := j) hn hk) (fun o M2 w => ⟨0, w.1, Or.inl rfl, g 0 M2 ?_ (by rw [w.2])⟩)
    rw [w.2]
    exact ⟨fun a k z1 z2 _ _ => ch a k z1 z2, e2, Or.inr ⟨fun q => hk ((okL_congr e1).mpr q), rfl, fun k => ch _ k (by omega) (by omega), fun k => ch _ k (by omega) (by omega)⟩⟩
theorem m_end {j n : Nat} {d : Nat → Int32} {M M1 : jM} (hj : j < 6) (hn : n ≤ 5) (e1 : ∀ k, k < n → M1.1 87 k = d k) (ch : ∀ a k, a ≠ 87 → ¬ (a = 67 ∧ (k = 0 ∨ k = 2)) → M1.1 a k = M.1 a k) (e2 : M1.2 = M.2) {G : Int32 → jM → Prop} (g : ∀ r M2, outM j n d M M2 r → M2.1 67 2 = M1.1 67 2 → G r M2) :
    jEv nX8_puts (0, [(0, .ref 67), (1, .int (nI j)), (2, .int (nI n))], [], M1) (fun o1 M2 => ∃ r3 : Int32, o1 = some (some (.int r3)) ∧ ((r3 = 0 ∨ r3 = 1) ∧ G r3 M2)) := by
  by_cases hk : okL (M1.1 87) n
  · refine jEv.mono (s_puts_yes M1 hj hn hk) (fun o M2 w => ⟨1, w.1, Or.inr rfl, g 1 M2 ⟨fun a k z1 z2 z3 z4 => ?_, ?_, Or.inl ⟨(okL_congr e1).mp hk, rfl, w.2.1, fun k hk2 => ?_⟩⟩ ?_⟩)
    · rw [w.2.2.2.1 a k z3 z4]; exact ch a k z1 z2
    · rw [w.2.2.2.2, e2]
    · rw [w.2.2.1 k hk2, e1 k hk2]
    · exact w.2.2.2.1 67 2 (by omega) (by omega)
  · refine jEv.mono (s_puts_no M1 hj hn hk) (fun o M2 w => ⟨0, w.1, Or.inl rfl, g 0 M2 ?_ (by rw [w.2])⟩)
    rw [w.2]
    exact ⟨fun a k z1 z2 _ _ => ch a k z1 z2, e2, Or.inr ⟨fun q => hk ((okL_congr e1).mpr q), rfl, ch 86 j (by omega) (by omega), fun k _ _ => ch 85 k (by omega) (by omega)⟩⟩
theorem okL_int {d : Nat → Int32} {n : Nat} (h : okL d n) : (1 ≤ (d 0).toInt ∧ (d 0).toInt ≤ 1000) ∧ ∀ k, k < n → -(d 0).toInt ≤ (d k).toInt ∧ (d k).toInt ≤ (d 0).toInt := by
  obtain ⟨h1, h2, h3⟩ := h
  have a := (rng_lit (a := 1) (b := 1000) (A := 1) (B := 1000) rfl rfl (d 0)).mp h2
  refine ⟨a, fun k hk => ?_⟩
  by_cases e : k = 0
  · rw [e]; omega
  · have w := h3 k (by omega) hk
    rw [Int32.le_iff_toInt_le, Int32.le_iff_toInt_le, fb_negI (by omega)] at w
    exact w
/-- both ends together -/
theorem lik_both {M M2 M3 : jM} {j n : Nat} {d : Nat → Int32} {r r' : Int32} (h : iInv M) (hj : j < 6) (hn : n ≤ 5) (c : outC j n d M M2 r) (m : outM j n d M2 M3 r') (t : iTape M3) : r' = r ∧ iInv M3 := by
  obtain ⟨c1, c2, c3⟩ := c
  obtain ⟨m1, m2, m3⟩ := m
  have e : ∀ a k, a ≠ 59 → ¬ (a = 1 ∧ k = 1) → ¬ (a = 29 + 2 * j) → ¬ (a = 29 + 2 * j + 1) → a ≠ 87 → ¬ (a = 67 ∧ (k = 0 ∨ k = 2)) → ¬ (a = 86 ∧ k = j) → ¬ (a = 85 ∧ 5 * j ≤ k ∧ k < 5 * j + 5) → M3.1 a k = M.1 a k :=
    fun a k z1 z2 z3 z4 z5 z6 z7 z8 => (m1 a k z5 z6 z7 z8).trans (c1 a k z1 z2 z3 z4)
  have e2 : M3.2 = M.2 := m2.trans c2
  have rest : iLik M3 j → iInv M3 := by
    intro l
    refine ⟨t, fun i hi => (h.2.1 i hi).cg fun a q z => e a q (by omega) (by omega) (by omega) (by omega) (by omega) (by omega) (by omega) (by omega), fun i hi => ?_, h.2.2.2.1.cg fun a q z => e a q (by omega) (by omega) (by omega) (by omega) (by omega) (by omega) (by omega) (by omega), ?_, ?_⟩
    · by_cases ij : i = j
      · rw [ij]; exact l
      · exact (h.2.2.1 i hi).cg fun a q z => e a q (by omega) (by omega) (by omega) (by omega) (by omega) (by omega) (by omega) (by omega)
    · exact h.2.2.2.2.1.cg (fun a q z => e a q (by omega) (by omega) (by omega) (by omega) (by omega) (by omega) (by omega) (by omega)) (fun a q z => by rw [e2])
    · exact h.2.2.2.2.2.cg (fun a q z => e a q (by omega) (by omega) (by omega) (by omega) (by omega) (by omega) (by omega) (by omega)) (fun a q z => by rw [e2])
  rcases c3 with ⟨k1, k2, k3, k4⟩ | ⟨k1, k2, k3, k4⟩
  · rcases m3 with ⟨q1, q2, q3, q4⟩ | ⟨q1, -⟩
    · refine ⟨by rw [k2, q2], rest ⟨n, hn, ?_, q3, fun k hk => ?_, fun _ => ?_, fun k hk => ?_⟩⟩
      · rw [m1 (29 + 2 * j) 1 (by omega) (by omega) (by omega) (by omega)]; exact k3
      · rw [m1 (29 + 2 * j + 1) k (by omega) (by omega) (by omega) (by omega), k4 k hk, q4 k hk]
      · have := q4 0 (by have := k1.1; omega)
        rw [Nat.add_zero] at this
        rw [this]; exact (okL_int k1).1
      · have := q4 0 (by omega)
        rw [Nat.add_zero] at this
        rw [this, q4 k hk]; exact (okL_int k1).2 k hk
    · exact absurd k1 q1
  · rcases m3 with ⟨q1, -⟩ | ⟨q1, q2, q3, q4⟩
    · exact absurd q1 k1
    · refine ⟨by rw [k2, q2], rest ((h.2.2.1 j hj).cg fun a k z => ?_)⟩
      by_cases a1 : a = 29 + 2 * j
      · rw [a1, m1 (29 + 2 * j) k (by omega) (by omega) (by omega) (by omega)]; exact k3 k
      · by_cases a2 : a = 29 + 2 * j + 1
        · rw [a2, m1 (29 + 2 * j + 1) k (by omega) (by omega) (by omega) (by omega)]; exact k4 k
        · by_cases a3 : a = 86 ∧ k = j
          · rw [a3.1, a3.2, q3]; exact c1 86 j (by omega) (by omega) (by omega) (by omega)
          · have a4 : a = 85 ∧ 5 * j ≤ k ∧ k < 5 * j + 5 := by omega
            rw [a4.1, q4 k a4.2.1 a4.2.2]; exact c1 85 k (by omega) (by omega) (by omega) (by omega)
theorem iTape.same {M M3 : jM} (h : iTape M) (e : ∀ a k, a = 1 ∨ a = 2 ∨ a = 68 ∨ (a = 67 ∧ k = 2) → M3.1 a k = M.1 a k) : iTape M3 := h.cg fun a k z => e a k (by omega)
theorem op_thin {M : jM} (h : iInv M) (x y : Int32) : jBoth nX7_thin nX8_thin [(0, .ref 0), (1, .int x), (2, .int y)] [(0, .ref 67), (1, .int x), (2, .int y)] M := by
  -- nothing to take from
  have none_ : jEv nX8_has (0, [(0, .ref 67), (1, .int y)], [], jsi M 67 0 0) (fun o M' => o = some (some (.int 0)) ∧ M' = jsi M 67 0 0) → jEv nX8_thin (0, [(0, .ref 67), (1, .int x), (2, .int y)], [], M) (fun o2 M2 => o2 = some (some (.int 0)) ∧ iInv M2) := by
    intro hh
    refine v_X8_thin_0 (fun M1 e1 => ?_)
    rw [e1, jTo.iff hh]
    exact ⟨_, rfl, fun _ => ⟨rfl, h.kp (kp67v M 0)⟩, fun q => absurd rfl q⟩
  have slot0 : ∀ {M5 : jM} {P : Prop}, P → jEv nX7_isSlot (0, [(0, .int x)], [], M5) (fun o M' => ∃ r : Int32, o = some (some (.int r)) ∧ ((r = 0 → P) ∧ (¬ r = 0 → P))) := by
    intro M5 P p
    rw [e_isSlot]
    exact ⟨_, rfl, fun _ => p, fun _ => p⟩
  rcases slot_cases y with ⟨t, ht, rfl⟩ | hy
  · obtain ⟨n, l1, l2, l3, l4, l5, l6⟩ := h.2.2.1 t ht
    obtain ⟨s1, s2, s3⟩ := slot_in ht
    refine v_X7_thin_0 ?_
    rw [(s_toldLik M ht).iff, l2]
    by_cases hn : n = 0
    · refine Or.inl ⟨by rw [hn, nI_0, if_pos rfl], ?_⟩
      rw [e_isSlot]
      have z : jEv nX8_thin (0, [(0, .ref 67), (1, .int x), (2, .int (nI t))], [], M) (fun o2 M2 => o2 = some (some (.int 0)) ∧ iInv M2) := none_ (by
        have := s_has (jsi M 67 0 0) ht l1 (by rw [jsi_at, if_neg (by omega)]; exact l3)
        rw [if_pos hn] at this
        exact this)
      exact ⟨_, rfl, fun _ => ⟨0, rfl, z⟩, fun _ => ⟨0, rfl, z⟩⟩
    · refine Or.inr ⟨29 + 2 * t, jLi_n ht, by rw [if_neg (nI_ne0 (by omega) (by omega))], ?_⟩
      rw [e_isSlot, l2]
      have e2 : (nI n + 1) / 2 = nI ((n + 1) / 2) := by rw [nI_1, show (2 : Int32) = nI 2 from rfl, pk_div (by omega) (by omega) (by omega)]
      rw [e2]
      have hN : (n + 1) / 2 ≤ 3 := by omega
      generalize hNe : (n + 1) / 2 = N at hN
      -- the model, from a memory M2 that the class has left
      have mod : ∀ (M2 : jM) {K : jK}, (∀ a k, (a = 86 ∨ a = 85) → M2.1 a k = M.1 a k) → (∀ M3, (∀ k, k < N → M3.1 87 k = M.1 85 (5 * t + 2 * k)) → (∀ a k, a ≠ 87 → ¬ (a = 67 ∧ (k = 0 ∨ k = 2)) → M3.1 a k = M2.1 a k) → M3.1 67 2 = M2.1 67 2 → M3.2 = M2.2 → jEv nX8_puts (0, [(0, .ref 67), (1, .int x), (2, .int (nI N))], [], M3) (fun o1 M2 => ∃ r3 : Int32, o1 = some (some (.int r3)) ∧ ((r3 = 0 ∨ r3 = 1) ∧ K (some (some (.int r3))) M2))) → jEv nX8_thin (0, [(0, .ref 67), (1, .int x), (2, .int (nI t))], [], M2) K := by
        intro M2 K e0 k
        refine v_X8_thin_0 (fun M1 e1 => ?_)
        have f1 : ∀ a k, ¬ (a = 67 ∧ k = 0) → M1.1 a k = M2.1 a k := fun a k z => by rw [e1, jsi_at, if_neg z]
        rw [(s_has M1 ht l1 (by rw [f1 86 t (by omega), e0 86 t (Or.inl rfl)]; exact l3)).iff]
        refine ⟨_, rfl, fun z => absurd z (by rw [if_neg hn]; decide), fun _ => ⟨s2, ?_⟩⟩
        rw [s3, f1 86 t (by omega), e0 86 t (Or.inl rfl), l3, e2, hNe]
        have loop : ∀ (r i : Nat), i + r = N → ∀ M4 : jM, (∀ k, k < i → M4.1 87 k = M.1 85 (5 * t + 2 * k)) → (∀ a k, a ≠ 87 → M4.1 a k = M1.1 a k) → M4.2 = M2.2 → jEv nX8_thin (29, [(0, .ref 67), (1, .int x), (2, .int (nI t)), (3, .int (nI N)), (4, .int (nI i))], [], M4) K := by
          intro r
          induction r with
          | zero =>
            intro i hi M4 h1 h2 h3
            have : i = N := by omega
            subst this
            refine v_X8_thin_29 ⟨fun _ => k M4 h1 (fun a k z1 z2 => by rw [h2 a k z1, f1 a k (by omega)]) (by rw [h2 67 2 (by omega), f1 67 2 (by omega)]) h3, fun q => absurd (Int32.le_refl _) q⟩
          | succ r ih =>
            intro i hi M4 h1 h2 h3
            have hc : (nI i).toNatClampNeg = i := nI_clamp (by omega)
            have e5 : 5 * nI t + 2 * nI i = nI (5 * t + 2 * i) := by rw [show (5 : Int32) = nI 5 from rfl, show (2 : Int32) = nI 2 from rfl, pk_mul, pk_mul, nI_add]
            refine v_X8_thin_29 ⟨fun q => absurd q (nI_ge (by omega) (by omega)), fun _ => ⟨by rw [e5]; exact nI_in (by omega) (by omega), nI_in (by omega) (by omega), fun M5 f5 => ?_⟩⟩
            rw [hc, e5, nI_clamp (by omega), h2 85 _ (by omega), f1 85 _ (by omega), e0 85 _ (Or.inr rfl)] at f5
            rw [nI_1]
            refine ih (i + 1) (by omega) M5 (fun k hk => ?_) (fun a k z => ?_) (by rw [f5]; exact h3)
            · rw [f5, jsi_at]
              by_cases e : k = i
              · rw [if_pos ⟨rfl, e⟩, e]
              · rw [if_neg (fun w => e w.2)]; exact h1 k (by omega)
            · rw [f5, jsi_at, if_neg (fun w => z w.1)]; exact h2 a k z
        exact loop N 0 (by omega) M1 (fun k hk => absurd hk (Nat.not_lt_zero k)) (fun _ _ _ => rfl) (by rw [e1]; rfl)
      rcases slot_cases x with ⟨j, hj, rfl⟩ | hx
      · rw [if_pos (slot_in hj).1]
        refine ⟨_, rfl, fun z => absurd z (by decide), fun _ => ?_⟩
        have loop : ∀ (r i : Nat), i + r = N → ∀ M4 : jM, (∀ k, k < i → M4.1 59 k = M.1 85 (5 * t + 2 * k)) → (∀ a k, a ≠ 59 → M4.1 a k = M.1 a k) → M4.2 = M.2 → jEv nX7_thin (32, [(0, .ref 0), (1, .int (nI j)), (3, .ref (29 + 2 * t)), (4, .int (nI N)), (5, .int (nI i))], [], M4) (fun o1 M1 => ∃ r : Int32, o1 = some (some (.int r)) ∧ jEv nX8_thin (0, [(0, .ref 67), (1, .int (nI j)), (2, .int (nI t))], [], M1) (fun o2 M2 => o2 = some (some (.int r)) ∧ iInv M2)) := by
          intro r
          induction r with
          | zero =>
            intro i hi M4 h1 h2 h3
            have : i = N := by omega
            subst this
            refine v_X7_thin_32 (jLi_n ht) ⟨fun _ => ?_, fun q => absurd (Int32.le_refl _) q⟩
            refine c_end (M := M) (d := fun k => M.1 85 (5 * t + 2 * k)) hj (by omega) h1 (fun a k z _ => h2 a k z) h3 (fun r1 M5 w1 q1 => ⟨r1, rfl, ?_⟩)
            refine mod M5 (fun a k z => w1.1 a k (by omega) (by omega) (by omega) (by omega)) (fun M6 g1 g2 g3 g4 => ?_)
            refine m_end (M := M5) (d := fun k => M.1 85 (5 * t + 2 * k)) hj (by omega) g1 g2 g4 (fun r2 M7 w2 q2 => ?_)
            have tp : iTape M7 := h.1.cg fun a k z => by
              by_cases a1 : a = 1 ∧ k = 1
              · rw [a1.1, a1.2, w2.1 1 1 (by omega) (by omega) (by omega) (by omega), q1, h2 1 1 (by omega)]
              · by_cases a2 : a = 67 ∧ k = 2
                · rw [a2.1, a2.2, q2, g3, w1.1 67 2 (by omega) (by omega) (by omega) (by omega)]
                · rw [w2.1 a k (by omega) (by omega) (by omega) (by omega), w1.1 a k (by omega) (by omega) (by omega) (by omega)]
            obtain ⟨b1, b2⟩ := lik_both h hj (by omega) w1 w2 tp
            exact ⟨by rw [b1], b2⟩
          | succ r ih =>
            intro i hi M4 h1 h2 h3
            have hc : (nI i).toNatClampNeg = i := nI_clamp (by omega)
            have e5 : 2 * nI i = nI (2 * i) := by rw [show (2 : Int32) = nI 2 from rfl, pk_mul]
            refine v_X7_thin_32 (jLi_n ht) ⟨fun q => absurd q (nI_ge (by omega) (by omega)), fun _ => ⟨by rw [e5]; exact nI_in (by omega) (by omega), nI_in (by omega) (by omega), fun M5 f5 => ?_⟩⟩
            rw [hc, e5, nI_clamp (by omega), h2 _ _ (by omega), l4 (2 * i) (by omega)] at f5
            rw [nI_1]
            refine ih (i + 1) (by omega) M5 (fun k hk => ?_) (fun a k z => ?_) (by rw [f5]; exact h3)
            · rw [f5, jsi_at]
              by_cases e : k = i
              · rw [if_pos ⟨rfl, e⟩, e]
              · rw [if_neg (fun w => e w.2)]; exact h1 k (by omega)
            · rw [f5, jsi_at, if_neg (fun w => z w.1)]; exact h2 a k z
        exact loop N 0 (by omega) M (fun k hk => absurd hk (Nat.not_lt_zero k)) (fun _ _ _ => rfl) rfl
      · rw [if_neg hx]
        refine ⟨_, rfl, fun _ => ⟨0, rfl, mod M (fun _ _ _ => rfl) (fun M3 g1 g2 g3 g4 => ?_)⟩, fun z => absurd rfl z⟩
        rw [(s_puts_out M3 hx).iff]
        refine ⟨_, rfl, Or.inl rfl, rfl, h.kp ⟨fun a k z1 z2 z3 z4 z5 z6 => ?_, fun a k _ => by rw [g4]⟩⟩
        by_cases w : a = 67 ∧ k = 2
        · rw [w.1, w.2]; exact g3
        · exact g2 a k z3 (by omega)
  · refine v_X7_thin_0 ?_
    rw [(s_toldLik_no M hy).iff]
    refine Or.inl ⟨rfl, ?_⟩
    rw [e_isSlot]
    have z := none_ (s_has_no (jsi M 67 0 0) hy)
    exact ⟨_, rfl, fun _ => ⟨0, rfl, z⟩, fun _ => ⟨0, rfl, z⟩⟩
