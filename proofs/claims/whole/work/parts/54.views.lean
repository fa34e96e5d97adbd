/-! what a query sees: a told rule, the row, told likenesses, on both sides -/
/-- ints alike but for scratch -/
def iI (M M' : jM) : Prop := ∀ a k, a ≠ 43 → a ≠ 59 → a ≠ 87 → a ≠ 89 → a ≠ 93 → ¬ (a = 67 ∧ k = 0) → M'.1 a k = M.1 a k
theorem iKp.i {M M' : jM} (h : iKp M M') : iI M M' := h.1
theorem iI.rfl' (M : jM) : iI M M := fun _ _ _ _ _ _ _ _ => rfl
theorem iI.trans {M1 M2 M3 : jM} (h : iI M1 M2) (g : iI M2 M3) : iI M1 M3 := fun a k h1 h2 h3 h4 h5 h6 => (g a k h1 h2 h3 h4 h5 h6).trans (h a k h1 h2 h3 h4 h5 h6)
theorem iI.sl {M M' : jM} (h : iI M M') {a k : Nat} {v : Int64} : iI M (jsl M' a k v) := h
theorem iI.s67 {M M' : jM} (h : iI M M') {v : Int32} : iI M (jsi M' 67 0 v) := h.trans ((iKp.rfl' M').si (by decide)).i
def vR (M : jM) (j q p m s : Nat) (A B : Nat → Int32) : Prop := (1 ≤ q ∧ q ≤ 4 ∧ p ≤ 3 ∧ m ≤ 3 ∧ 1 ≤ s ∧ s ≤ 20) ∧ (M.1 (4 + 4 * j) 0 = 1 ∧ M.1 (4 + 4 * j) 1 = nI q ∧ M.1 (4 + 4 * j) 2 = nI p ∧ M.1 (4 + 4 * j) 3 = nI m ∧ M.1 (4 + 4 * j) 4 = nI s) ∧ (M.1 69 j = 1 ∧ M.1 70 j = nI q ∧ M.1 71 j = nI p ∧ M.1 72 j = nI m ∧ M.1 73 j = nI s) ∧
  (∀ k, 1 ≤ k → k < 4 → M.1 (4 + 4 * j + 1) k = A k ∧ M.1 74 (4 * j + k) = A k ∧ -8 ≤ (A k).toInt ∧ (A k).toInt ≤ 8 ∧ (p < k → A k = 0)) ∧
  (∀ k, 1 ≤ k → k < 4 → M.1 (4 + 4 * j + 2) k = B k ∧ M.1 75 (4 * j + k) = B k ∧ -8 ≤ (B k).toInt ∧ (B k).toInt ≤ 8 ∧ (m < k → B k = 0))
theorem vR.kp {M M' : jM} {j q p m s : Nat} {A B : Nat → Int32} (h : vR M j q p m s A B) (hj : j < 6) (k : iI M M') : vR M' j q p m s A B := by
  obtain ⟨h0, ⟨a1, a2, a3, a4, a5⟩, ⟨b1, b2, b3, b4, b5⟩, h3, h4⟩ := h
  refine ⟨h0, ⟨?_, ?_, ?_, ?_, ?_⟩, ⟨?_, ?_, ?_, ?_, ?_⟩, fun i i1 i2 => ?_, fun i i1 i2 => ?_⟩
  · rw [k (4 + 4 * j) 0 (by omega) (by omega) (by omega) (by omega) (by omega) (by omega)]; exact a1
  · rw [k (4 + 4 * j) 1 (by omega) (by omega) (by omega) (by omega) (by omega) (by omega)]; exact a2
  · rw [k (4 + 4 * j) 2 (by omega) (by omega) (by omega) (by omega) (by omega) (by omega)]; exact a3
  · rw [k (4 + 4 * j) 3 (by omega) (by omega) (by omega) (by omega) (by omega) (by omega)]; exact a4
  · rw [k (4 + 4 * j) 4 (by omega) (by omega) (by omega) (by omega) (by omega) (by omega)]; exact a5
  · rw [k 69 j (by omega) (by omega) (by omega) (by omega) (by omega) (by omega)]; exact b1
  · rw [k 70 j (by omega) (by omega) (by omega) (by omega) (by omega) (by omega)]; exact b2
  · rw [k 71 j (by omega) (by omega) (by omega) (by omega) (by omega) (by omega)]; exact b3
  · rw [k 72 j (by omega) (by omega) (by omega) (by omega) (by omega) (by omega)]; exact b4
  · rw [k 73 j (by omega) (by omega) (by omega) (by omega) (by omega) (by omega)]; exact b5
  · rw [k (4 + 4 * j + 1) i (by omega) (by omega) (by omega) (by omega) (by omega) (by omega), k 74 (4 * j + i) (by omega) (by omega) (by omega) (by omega) (by omega) (by omega)]; exact h3 i i1 i2
  · rw [k (4 + 4 * j + 2) i (by omega) (by omega) (by omega) (by omega) (by omega) (by omega), k 75 (4 * j + i) (by omega) (by omega) (by omega) (by omega) (by omega) (by omega)]; exact h4 i i1 i2
def vW (M : jM) (n : Nat) (x : Nat → Int32) : Prop := n ≤ 60 ∧ M.1 41 2 = nI n ∧ M.1 67 27 = nI n ∧ ∀ t, t < n → M.1 42 t = x t ∧ M.1 90 t = x t ∧ (x t = 100 ∨ (-20 ≤ (x t).toInt ∧ (x t).toInt ≤ 20))
theorem vW.kp {M M' : jM} {n : Nat} {x : Nat → Int32} (h : vW M n x) (k : iI M M') : vW M' n x := by
  obtain ⟨h0, h1, h2, h3⟩ := h
  refine ⟨h0, ?_, ?_, fun i i1 => ?_⟩
  · rw [k 41 2 (by omega) (by omega) (by omega) (by omega) (by omega) (by omega)]; exact h1
  · rw [k 67 27 (by omega) (by omega) (by omega) (by omega) (by omega) (by omega)]; exact h2
  · rw [k 42 i (by omega) (by omega) (by omega) (by omega) (by omega) (by omega), k 90 i (by omega) (by omega) (by omega) (by omega) (by omega) (by omega)]; exact h3 i i1
theorem iInv.vW {M : jM} (h : iInv M) : ∃ (n : Nat) (x : Nat → Int32), vW M n x := by
  obtain ⟨n, r1, r2, r3, r4⟩ := h.2.2.2.1
  exact ⟨n, fun t => M.1 90 t, r1, r2, r3, fun t ht => ⟨(r4 t ht).1, rfl, (r4 t ht).2⟩⟩
def vL (M : jM) (j n : Nat) (r : Nat → Int32) : Prop := 1 ≤ n ∧ n ≤ 5 ∧ M.1 (29 + 2 * j) 1 = nI n ∧ M.1 86 j = nI n ∧ (∀ k, k < n → M.1 (29 + 2 * j + 1) k = r k ∧ M.1 85 (5 * j + k) = r k ∧ -(r 0).toInt ≤ (r k).toInt ∧ (r k).toInt ≤ (r 0).toInt) ∧ 1 ≤ (r 0).toInt ∧ (r 0).toInt ≤ 1000
theorem vL.kp {M M' : jM} {j n : Nat} {r : Nat → Int32} (h : vL M j n r) (hj : j < 6) (k : iI M M') : vL M' j n r := by
  obtain ⟨h0, h1, h2, h3, h4, h5, h6⟩ := h
  refine ⟨h0, h1, ?_, ?_, fun i i1 => ?_, h5, h6⟩
  · rw [k (29 + 2 * j) 1 (by omega) (by omega) (by omega) (by omega) (by omega) (by omega)]; exact h2
  · rw [k 86 j (by omega) (by omega) (by omega) (by omega) (by omega) (by omega)]; exact h3
  · rw [k (29 + 2 * j + 1) i (by omega) (by omega) (by omega) (by omega) (by omega) (by omega), k 85 (5 * j + i) (by omega) (by omega) (by omega) (by omega) (by omega) (by omega)]; exact h4 i i1
/-! putting the two sides together -/
theorem both_i {yc ym : Nat} {Lc Lm : List (Nat × Value)} {M : jM} {r : Int32} (h : iInv M) (c : jEv yc (0, Lc, [], M) (fun o M1 => o = some (some (.int r)) ∧ iKp M M1)) (m : ∀ M1, iI M M1 → jEv ym (0, Lm, [], M1) (fun o M2 => o = some (some (.int r)) ∧ iKp M1 M2)) : jBoth yc ym Lc Lm M :=
  jEv.mono c (fun o M1 w => ⟨r, w.1, jEv.mono (m M1 w.2.i) (fun o2 M2 w2 => ⟨w2.1, (h.kp w.2).kp w2.2⟩)⟩)
theorem both_t {yc ym : Nat} {Lc Lm : List (Nat × Value)} {M : jM} (h : iInv M) (c : jEv yc (0, Lc, [], M) (fun o M1 => o = none ∧ iKp M M1)) (m : ∀ M1, iI M M1 → jEv ym (0, Lm, [], M1) (fun o M2 => o = some (some (.long 0)) ∧ M2.1 67 0 = 1 ∧ iKp M1 M2)) : jBothX yc ym Lc Lm M :=
  jEv.mono c (fun o M1 w => Or.inl ⟨w.1, jEv.mono (m M1 w.2.i) (fun o2 M2 w2 => ⟨0, w2.1, w2.2.1, (h.kp w.2).kp w2.2.2⟩)⟩)
theorem both_l {yc ym : Nat} {Lc Lm : List (Nat × Value)} {M : jM} {v : Int64} (h : iInv M) (c : jEv yc (0, Lc, [], M) (fun o M1 => o = some (some (.long v)) ∧ iKp M M1)) (m : ∀ M1, iI M M1 → jEv ym (0, Lm, [], M1) (fun o M2 => o = some (some (.long v)) ∧ M2.1 67 0 = 0 ∧ iKp M1 M2)) : jBothX yc ym Lc Lm M :=
  jEv.mono c (fun o M1 w => Or.inr ⟨v, w.1, jEv.mono (m (jsl M1 97 0 v) w.2.i.sl) (fun o2 M2 w2 => ⟨w2.1, w2.2.1, by rw [w2.2.2.2 97 0 (by omega), jsl_at, if_pos ⟨rfl, rfl⟩], ((h.kp w.2).out v).kp w2.2.2⟩)⟩)
/-! a slot's rule: none, or told on both sides -/
theorem m_hasRule_no (M : jM) {x : Int32} (h : ¬ (0 ≤ x ∧ x ≤ 5)) : jTo nX8_hasRule (0, [(0, .ref 67), (1, .int x)], [], M) (some (some (.int 0))) M :=
  v_X8_hasRule_0 ⟨fun _ => ⟨rfl, rfl⟩, fun q => ⟨fun _ => ⟨rfl, rfl⟩, fun q2 => absurd (slot_out h) (fun w => w.elim q q2)⟩⟩
theorem m_hasRule (M : jM) {j : Nat} (hj : j < 6) : jTo nX8_hasRule (0, [(0, .ref 67), (1, .int (nI j))], [], M) (some (some (.int (if M.1 69 j = 0 then 0 else 1)))) M := by
  obtain ⟨h1, h2, h3⟩ := slot_in hj
  refine v_X8_hasRule_0 ⟨fun q => absurd q (slot_not hj).1, fun _ => ⟨fun q => absurd q (slot_not hj).2, fun _ => ⟨h2, ?_⟩⟩⟩
  rw [h3]
  exact ⟨fun q => ⟨by rw [if_pos q], rfl⟩, fun q => ⟨by rw [if_neg q], rfl⟩⟩
theorem rule_cs {M : jM} (h : iInv M) (x : Int32) : ((∀ M1, iI M M1 → jTo nX7_toldRule (0, [(0, .ref 0), (1, .int x)], [], M1) (some (some .null)) M1) ∧ ∀ M1, iI M M1 → jTo nX8_hasRule (0, [(0, .ref 67), (1, .int x)], [], M1) (some (some (.int 0))) M1) ∨ ∃ (j q p m s : Nat) (A B : Nat → Int32), j < 6 ∧ x = nI j ∧ vR M j q p m s A B := by
  rcases slot_cases x with ⟨j, hj, rfl⟩ | hx
  · rcases h.2.1 j hj with ⟨w1, w2⟩ | ⟨w1, w2, q, p, m, s, r1, r2, r3, r4, r5, r6, r7, r8, r9, r10, r11, r12, r13, r14, r15, r16⟩
    · left
      refine ⟨fun M1 k => ?_, fun M1 k => ?_⟩
      · have := s_toldRule M1 hj
        rw [k (4 + 4 * j) 0 (by omega) (by omega) (by omega) (by omega) (by omega) (by omega), if_pos w1] at this
        exact this
      · have := m_hasRule M1 hj
        rw [k 69 j (by omega) (by omega) (by omega) (by omega) (by omega) (by omega), if_pos w2] at this
        exact this
    · right
      exact ⟨j, q, p, m, s, fun k => M.1 74 (4 * j + k), fun k => M.1 75 (4 * j + k), hj, rfl, ⟨r1, r2, r3, r4, r5, r6⟩, ⟨w1, r7, r9, r11, r13⟩, ⟨w2, r8, r10, r12, r14⟩, fun k k1 k2 => ⟨(r15 k k1 k2).1, rfl, (r15 k k1 k2).2⟩, fun k k1 k2 => ⟨(r16 k k1 k2).1, rfl, (r16 k k1 k2).2⟩⟩
  · exact Or.inl ⟨fun M1 _ => s_toldRule_no M1 hx, fun M1 _ => m_hasRule_no M1 hx⟩
theorem c_told {M : jM} {j q p m s : Nat} {A B : Nat → Int32} (hj : j < 6) (h : vR M j q p m s A B) : jTo nX7_toldRule (0, [(0, .ref 0), (1, .int (nI j))], [], M) (some (some (.ref (4 + 4 * j)))) M := by
  have := s_toldRule M hj
  rw [h.2.1.1, if_neg (by decide)] at this
  exact this
theorem m_told {M : jM} {j q p m s : Nat} {A B : Nat → Int32} (hj : j < 6) (h : vR M j q p m s A B) : jTo nX8_hasRule (0, [(0, .ref 67), (1, .int (nI j))], [], M) (some (some (.int 1))) M := by
  have := m_hasRule M hj
  rw [h.2.2.1.1, if_neg (by decide)] at this
  exact this
theorem lik_cs {M : jM} (h : iInv M) (x : Int32) : ((∀ M1, iI M M1 → jTo nX7_toldLikenesses (0, [(0, .ref 0), (1, .int x)], [], M1) (some (some .null)) M1) ∧ ∀ M1, iI M M1 → jTo nX8_has (0, [(0, .ref 67), (1, .int x)], [], M1) (some (some (.int 0))) M1) ∨ ∃ (j n : Nat) (r : Nat → Int32), j < 6 ∧ x = nI j ∧ vL M j n r := by
  rcases slot_cases x with ⟨j, hj, rfl⟩ | hx
  · obtain ⟨n, l1, l2, l3, l4, l5, l6⟩ := h.2.2.1 j hj
    by_cases hn : n = 0
    · left
      refine ⟨fun M1 k => ?_, fun M1 k => ?_⟩
      · have := s_toldLik M1 hj
        rw [k (29 + 2 * j) 1 (by omega) (by omega) (by omega) (by omega) (by omega) (by omega), l2, hn, nI_0, if_pos rfl] at this
        exact this
      · have e : M1.1 86 j = nI n := by rw [k 86 j (by omega) (by omega) (by omega) (by omega) (by omega) (by omega)]; exact l3
        have := s_has M1 hj l1 e
        rw [if_pos hn] at this
        exact this
    · right
      refine ⟨j, n, fun k => M.1 85 (5 * j + k), hj, rfl, by omega, l1, l2, l3, fun k hk => ⟨l4 k hk, rfl, l6 k hk⟩, l5 (by omega)⟩
  · exact Or.inl ⟨fun M1 _ => s_toldLik_no M1 hx, fun M1 _ => s_has_no M1 hx⟩
theorem c_lik {M : jM} {j n : Nat} {r : Nat → Int32} (hj : j < 6) (h : vL M j n r) : jTo nX7_toldLikenesses (0, [(0, .ref 0), (1, .int (nI j))], [], M) (some (some (.ref (29 + 2 * j)))) M := by
  have := s_toldLik M hj
  obtain ⟨h0, h1, h2, h3, -⟩ := h
  rw [h2, if_neg (nI_ne0 (by omega) (by omega))] at this
  exact this
theorem m_lik {M : jM} {j n : Nat} {r : Nat → Int32} (hj : j < 6) (h : vL M j n r) : jTo nX8_has (0, [(0, .ref 67), (1, .int (nI j))], [], M) (some (some (.int 1))) M := by
  obtain ⟨h0, h1, h2, h3, -⟩ := h
  have := s_has M hj h1 h3
  rw [if_neg (show ¬ n = 0 by omega)] at this
  exact this
/-! plain rules -/
theorem plain_cs {M : jM} (h : iInv M) (x : Int32) : ((∀ M1, iI M M1 → jTo nX7_plainRule (0, [(0, .ref 0), (1, .int x)], [], M1) (some (some .null)) M1) ∧ ∀ M1, iI M M1 → jTo nX8_isBare (0, [(0, .ref 67), (1, .int x)], [], M1) (some (some (.int 0))) M1) ∨ ∃ (j q p s : Nat) (A B : Nat → Int32), j < 6 ∧ x = nI j ∧ vR M j q p 0 s A B := by
  rcases rule_cs h x with ⟨c, m⟩ | ⟨j, q, p, m, s, A, B, hj, rfl, v⟩
  · left
    refine ⟨fun M1 k => v_X7_plainRule_0 ?_, fun M1 k => v_X8_isBare_0 ?_⟩
    · rw [(c M1 k).iff]; exact Or.inl ⟨rfl, rfl, rfl⟩
    · rw [(m M1 k).iff]; exact ⟨_, rfl, fun _ => ⟨rfl, rfl⟩, fun w => absurd rfl w⟩
  · by_cases hm : m = 0
    · subst hm
      exact Or.inr ⟨j, q, p, s, A, B, hj, rfl, v⟩
    · left
      refine ⟨fun M1 k => v_X7_plainRule_0 ?_, fun M1 k => v_X8_isBare_0 ?_⟩
      · have v1 := v.kp hj k
        rw [(c_told hj v1).iff]
        refine Or.inr ⟨_, jRu_n hj, rfl, fun w => ?_, fun _ => ⟨rfl, rfl⟩⟩
        rw [v1.2.1.2.2.2.1] at w
        exact absurd ((nI_leI (b := 0) (by have := v.1; omega) (by omega)).mp w) (by omega)
      · have v1 := v.kp hj k
        rw [(m_told hj v1).iff]
        obtain ⟨h1, h2, h3⟩ := slot_in hj
        refine ⟨_, rfl, fun w => absurd w (by decide), fun _ => ⟨h2, ?_⟩⟩
        rw [h3, v1.2.2.1.2.2.2.1]
        exact ⟨fun w => absurd w (nI_ne0 (by omega) (by have := v.1; omega)), fun _ => ⟨rfl, rfl⟩⟩
theorem c_plain {M : jM} {j q p s : Nat} {A B : Nat → Int32} (hj : j < 6) (h : vR M j q p 0 s A B) : jTo nX7_plainRule (0, [(0, .ref 0), (1, .int (nI j))], [], M) (some (some (.ref (4 + 4 * j)))) M := by
  refine v_X7_plainRule_0 ?_
  rw [(c_told hj h).iff]
  refine Or.inr ⟨_, jRu_n hj, rfl, fun w => ⟨rfl, rfl⟩, fun w => absurd ?_ w⟩
  rw [h.2.1.2.2.2.1]
  exact Int32.le_refl _
theorem m_plain {M : jM} {j q p s : Nat} {A B : Nat → Int32} (hj : j < 6) (h : vR M j q p 0 s A B) : jTo nX8_isBare (0, [(0, .ref 67), (1, .int (nI j))], [], M) (some (some (.int 1))) M := by
  refine v_X8_isBare_0 ?_
  rw [(m_told hj h).iff]
  obtain ⟨h1, h2, h3⟩ := slot_in hj
  refine ⟨_, rfl, fun w => absurd w (by decide), fun _ => ⟨h2, ?_⟩⟩
  rw [h3, h.2.2.1.2.2.2.1]
  exact ⟨fun w => ⟨rfl, rfl⟩, fun w => absurd rfl w⟩
