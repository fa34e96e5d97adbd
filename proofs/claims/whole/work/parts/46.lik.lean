/-! likenesses: what is asked of them, how they are laid down, on both sides -/
theorem slot_out {x : Int32} (h : ¬ (0 ≤ x ∧ x ≤ 5)) : x < 0 ∨ 6 ≤ x := by
  by_cases h0 : x < 0
  · exact Or.inl h0
  · refine Or.inr ?_
    have h5 : ¬ x ≤ 5 := fun w => h ⟨Int32.not_lt.mp h0, w⟩
    rw [Int32.le_iff_toInt_le] at h5 ⊢
    have e1 : (5 : Int32).toInt = 5 := rfl
    have e2 : (6 : Int32).toInt = 6 := rfl
    omega
theorem slot_not {j : Nat} (h : j < 6) : ¬ nI j < 0 ∧ ¬ 6 ≤ nI j := ⟨nI_pos (by omega), nI_ge (b := 6) h (by omega)⟩
theorem s_has_no (M : jM) {x : Int32} (h : ¬ (0 ≤ x ∧ x ≤ 5)) : jTo nX8_has (0, [(0, .ref 67), (1, .int x)], [], M) (some (some (.int 0))) M :=
  v_X8_has_0 ⟨fun _ => ⟨rfl, rfl⟩, fun q => ⟨fun _ => ⟨rfl, rfl⟩, fun q2 => absurd (slot_out h) (fun w => w.elim q q2)⟩⟩
theorem s_has (M : jM) {j : Nat} (h : j < 6) {n : Nat} (hn : n ≤ 5) (e : M.1 86 j = nI n) : jTo nX8_has (0, [(0, .ref 67), (1, .int (nI j))], [], M) (some (some (.int (if n = 0 then 0 else 1)))) M := by
  obtain ⟨h1, h2, h3⟩ := slot_in h
  refine v_X8_has_0 ⟨fun q => absurd q (slot_not h).1, fun _ => ⟨fun q => absurd q (slot_not h).2, fun _ => ⟨h2, ?_⟩⟩⟩
  rw [h3, e]
  refine ⟨fun q => ⟨?_, rfl⟩, fun q => ⟨?_, rfl⟩⟩
  · rw [if_pos]
    exact Nat.le_zero.mp ((nI_leI (b := 0) (by omega) (by omega)).mp q)
  · rw [if_neg]
    intro w
    rw [w] at q
    exact q (Int32.le_refl _)
theorem s_throwsIf1 (M : jM) : jTo nX8_throwsIf (0, [(0, .ref 67), (1, .int 1)], [], M) (some (some (.int 1))) (jsi M 67 0 1) :=
  v_X8_throwsIf_0 ⟨fun q => absurd q (by decide), fun _ M1 e => ⟨Or.inr rfl, rfl, e⟩⟩
theorem s_throwsIf0 (M : jM) : jTo nX8_throwsIf (0, [(0, .ref 67), (1, .int 0)], [], M) (some (some (.int 0))) (jsi M 67 0 0) :=
  v_X8_throwsIf_0 ⟨fun _ M1 e => ⟨Or.inl rfl, rfl, e⟩, fun q => absurd rfl q⟩
theorem kp67v (M : jM) (v : Int32) : iKp M (jsi M 67 0 v) := (iKp.rfl' M).si (by decide)
/-- the class throws and the model marks it, or both tell the same int -/
def jBothI (yc ym : Nat) (Lc Lm : List (Nat × Value)) (M : jM) : Prop := jEv yc (0, Lc, [], M) (fun o1 M1 =>
  (o1 = none ∧ jEv ym (0, Lm, [], M1) (fun o2 M2 => ∃ b : Int32, o2 = some (some (.int b)) ∧ M2.1 67 0 = 1 ∧ iInv M2)) ∨
  (∃ v : Int32, o1 = some (some (.int v)) ∧ jEv ym (0, Lm, [], jsl M1 97 0 v.toInt64) (fun o2 M2 => o2 = some (some (.int v)) ∧ M2.1 67 0 = 0 ∧ M2.2 97 0 = v.toInt64 ∧ iInv M2)))
theorem op_likeness {M : jM} (h : iInv M) (x y : Int32) : jBothI nX7_likeness nX8_likeness [(0, .ref 0), (1, .int x), (2, .int y)] [(0, .ref 67), (1, .int x), (2, .int y)] M := by
  have thr : ∀ {P : jM → Prop}, P (jsi M 67 0 1) → jEv nX8_throwsIf (0, [(0, .ref 67), (1, .int 1)], [], M) (fun o4 M5 => ∃ r6 : Int32, o4 = some (some (.int r6)) ∧ ((r6 = 0 → (¬ ((5 * x) + y < 0 ∨ 30 ≤ ((5 * x) + y).toNatClampNeg) ∧ ∃ b : Int32, some (some (Value.int (M5.1 85 ((5 * x) + y).toNatClampNeg))) = some (some (.int b)) ∧ M5.1 67 0 = 1 ∧ iInv M5)) ∧ (¬ r6 = 0 → ∃ b : Int32, some (some (Value.int 0)) = some (some (.int b)) ∧ M5.1 67 0 = 1 ∧ iInv M5))) := by
    intro P _
    rw [(s_throwsIf1 M).iff]
    exact ⟨_, rfl, fun q => absurd q (by decide), fun _ => ⟨0, rfl, by rw [jsi_at, if_pos (by decide)], h.kp (kp67v M 1)⟩⟩
  rcases slot_cases x with ⟨j, hj, rfl⟩ | hx
  · obtain ⟨n, l1, l2, l3, l4, l5, l6⟩ := h.2.2.1 j hj
    obtain ⟨h1, h2, h3⟩ := slot_in hj
    have no : (n = 0 ∨ y < 0 ∨ ¬ y < nI n) → jEv nX8_likeness (0, [(0, .ref 67), (1, .int (nI j)), (2, .int y)], [], M) (fun o2 M2 => ∃ b : Int32, o2 = some (some (.int b)) ∧ M2.1 67 0 = 1 ∧ iInv M2) := by
      intro hc
      refine v_X8_likeness_0 ?_
      rw [(s_has M hj l1 l3).iff]
      refine ⟨_, rfl, fun _ => thr (P := fun _ => True) trivial, fun q => ⟨fun _ => thr (P := fun _ => True) trivial, fun q2 => ⟨h2, ?_⟩⟩⟩
      rw [h3, l3]
      refine ⟨fun q3 => ?_, fun _ => thr (P := fun _ => True) trivial⟩
      exact hc.elim (fun w => absurd (by rw [if_pos w]) q) (fun w => w.elim (fun w => absurd w q2) (fun w => absurd q3 w))
    refine v_X7_likeness_0 ?_
    rw [(s_toldLik M hj).iff, l2]
    by_cases hn : n = 0
    · refine Or.inl ⟨by rw [hn, nI_0, if_pos rfl], Or.inl ⟨rfl, no (Or.inl hn)⟩⟩
    · refine Or.inr ⟨29 + 2 * j, jLi_n hj, by rw [if_neg (nI_ne0 (by omega) (by omega))], fun q => Or.inl ⟨rfl, no (Or.inr (Or.inl q))⟩, fun q => ⟨fun q2 => ?_, fun q2 => Or.inl ⟨rfl, no (Or.inr (Or.inr (by rw [l2] at q2; exact q2)))⟩⟩⟩
      rw [l2] at q2
      obtain ⟨k, hk, rfl⟩ := nI_of q
      have hkn : k < n := (nI_ltI hk (by omega)).mp q2
      refine ⟨nI_in (by omega) (by omega), Or.inr ⟨_, rfl, ?_⟩⟩
      rw [nI_clamp hk, l4 k hkn]
      refine v_X8_likeness_0 ?_
      rw [(s_has (jsl M 97 0 _) hj l1 l3).iff]
      refine ⟨_, rfl, fun z => absurd z (by rw [if_neg hn]; decide), fun _ => ⟨fun z => absurd z q, fun _ => ⟨h2, ?_⟩⟩⟩
      rw [h3, jsl_at1, l3]
      refine ⟨fun _ => ?_, fun z => absurd q2 z⟩
      rw [(s_throwsIf0 _).iff]
      have e5 : 5 * nI j + nI k = nI (5 * j + k) := by rw [show (5 : Int32) = nI 5 from rfl, pk_mul, nI_add]
      rw [e5, nI_clamp (by omega)]
      have hin := nI_in (c := 5 * j + k) (N := 30) (by omega) (by omega)
      rw [nI_clamp (by omega)] at hin
      refine ⟨_, rfl, fun _ => ⟨hin, rfl, rfl, ?_, ?_⟩, fun z => absurd rfl z⟩
      · rw [jsi_at2, jsl_at, if_pos (by decide)]
      · exact (h.out _).kp (kp67v _ 0)
  · refine v_X7_likeness_0 ?_
    rw [(s_toldLik_no M hx).iff]
    refine Or.inl ⟨rfl, Or.inl ⟨rfl, v_X8_likeness_0 ?_⟩⟩
    rw [(s_has_no M hx).iff]
    exact ⟨_, rfl, fun _ => thr (P := fun _ => True) trivial, fun q => absurd rfl q⟩
/-! laying down -/
def okL (d : Nat → Int32) (n : Nat) : Prop := 1 ≤ n ∧ (1 ≤ d 0 ∧ d 0 ≤ 1000) ∧ ∀ k, 1 ≤ k → k < n → (-(d 0) ≤ d k ∧ d k ≤ d 0)
theorem okL_dec (d : Nat → Int32) : ∀ n : Nat, (∀ k, 1 ≤ k → k < n → (-(d 0) ≤ d k ∧ d k ≤ d 0)) ∨ ∃ k, 1 ≤ k ∧ k < n ∧ ¬ (-(d 0) ≤ d k ∧ d k ≤ d 0) := by
  intro n
  by_cases h : ∃ k, 1 ≤ k ∧ k < n ∧ ¬ (-(d 0) ≤ d k ∧ d k ≤ d 0)
  · exact Or.inr h
  · refine Or.inl (fun k k1 k2 => ?_)
    by_cases w : -(d 0) ≤ d k ∧ d k ≤ d 0
    · exact w
    · exact absurd ⟨k, k1, k2, w⟩ h
theorem s_are_loop_yes (M : jM) {n : Nat} (hn : n ≤ 5) (h : ∀ k, 1 ≤ k → k < n → (-(M.1 59 0) ≤ M.1 59 k ∧ M.1 59 k ≤ M.1 59 0)) : ∀ (r i : Nat), 1 ≤ i → i + r = n → jTo nX7_areLikenesses (22, [(0, .ref 59), (1, .int (nI n)), (2, .int (nI i))], [], M) (some (some (.int 1))) M := by
  intro r
  induction r with
  | zero =>
    intro i h1 hi
    exact v_X7_areLikenesses_22 ⟨fun _ => ⟨rfl, rfl⟩, fun q => absurd (nI_le (by omega) (by omega)) q⟩
  | succ r ih =>
    intro i h1 hi
    have hc : (nI i).toNatClampNeg = i := nI_clamp (by omega)
    refine v_X7_areLikenesses_22 ⟨fun q => absurd q (nI_ge (by omega) (by omega)), fun _ => ⟨nI_in (by omega) (by omega), ?_⟩⟩
    rw [hc, e_isWithin, if_pos (h i h1 (by omega))]
    refine ⟨_, rfl, fun z => absurd z (by decide), fun _ => ?_⟩
    rw [nI_1]
    exact ih (i + 1) (by omega) (by omega)
theorem s_are_loop_no (M : jM) {n : Nat} (hn : n ≤ 5) : ∀ (r i : Nat), 1 ≤ i → i + r = n → (∃ k, i ≤ k ∧ k < n ∧ ¬ (-(M.1 59 0) ≤ M.1 59 k ∧ M.1 59 k ≤ M.1 59 0)) → jTo nX7_areLikenesses (22, [(0, .ref 59), (1, .int (nI n)), (2, .int (nI i))], [], M) (some (some (.int 0))) M := by
  intro r
  induction r with
  | zero =>
    intro i h1 hi h
    obtain ⟨k, k1, k2, -⟩ := h
    exact absurd k2 (by omega)
  | succ r ih =>
    intro i h1 hi h
    have hc : (nI i).toNatClampNeg = i := nI_clamp (by omega)
    refine v_X7_areLikenesses_22 ⟨fun q => absurd q (nI_ge (by omega) (by omega)), fun _ => ⟨nI_in (by omega) (by omega), ?_⟩⟩
    rw [hc, e_isWithin]
    by_cases hr : -(M.1 59 0) ≤ M.1 59 i ∧ M.1 59 i ≤ M.1 59 0
    · rw [if_pos hr]
      refine ⟨_, rfl, fun z => absurd z (by decide), fun _ => ?_⟩
      rw [nI_1]
      refine ih (i + 1) (by omega) (by omega) ?_
      obtain ⟨k, k1, k2, k3⟩ := h
      refine ⟨k, ?_, k2, k3⟩
      rcases Nat.lt_or_ge i k with w | w
      · omega
      · have : k = i := by omega
        rw [this] at k3
        exact absurd hr k3
    · rw [if_neg hr]
      exact ⟨_, rfl, fun _ => ⟨rfl, rfl⟩, fun z => absurd rfl z⟩
theorem s_are_yes (M : jM) {n : Nat} (hn : n ≤ 5) (h : okL (M.1 59) n) : jTo nX7_areLikenesses (0, [(0, .ref 59), (1, .int (nI n))], [], M) (some (some (.int 1))) M := by
  obtain ⟨h1, h2, h3⟩ := h
  refine v_X7_areLikenesses_0 ⟨fun q => absurd q (nI_nlt (b := 1) (by omega) (by omega)), fun _ => ?_⟩
  rw [e_isWithin, if_pos h2]
  exact ⟨_, rfl, fun z => absurd z (by decide), fun _ => s_are_loop_yes M hn h3 (n - 1) 1 (Nat.le_refl 1) (by omega)⟩
theorem s_are_no (M : jM) {n : Nat} (hn : n ≤ 5) (h : ¬ okL (M.1 59) n) : jTo nX7_areLikenesses (0, [(0, .ref 59), (1, .int (nI n))], [], M) (some (some (.int 0))) M := by
  refine v_X7_areLikenesses_0 ⟨fun _ => ⟨rfl, rfl⟩, fun q => ?_⟩
  have h1 : 1 ≤ n := Nat.not_lt.mp (fun w => q (nI_lt (b := 1) w (by omega)))
  rw [e_isWithin]
  by_cases h2 : 1 ≤ M.1 59 0 ∧ M.1 59 0 ≤ 1000
  · rw [if_pos h2]
    refine ⟨_, rfl, fun z => absurd z (by decide), fun _ => ?_⟩
    rcases okL_dec (M.1 59) n with w | ⟨k, k1, k2, k3⟩
    · exact absurd ⟨h1, h2, w⟩ h
    · exact s_are_loop_no M hn (n - 1) 1 (Nat.le_refl 1) (by omega) ⟨k, k1, k2, k3⟩
  · rw [if_neg h2]
    exact ⟨_, rfl, fun _ => ⟨rfl, rfl⟩, fun z => absurd rfl z⟩
/-- n values d laid into the class's slot at a -/
def lWc (a n : Nat) (d : Nat → Int32) (M M' : jM) : Prop := M'.1 a 1 = nI n ∧ (∀ k, k < n → M'.1 (a + 1) k = d k) ∧ (∀ b k, ¬ (b = a ∧ k = 1) → b ≠ a + 1 → M'.1 b k = M.1 b k) ∧ M'.2 = M.2
theorem s_X3_take (M0 : jM) {a : Nat} (ha : jLi a) {n : Nat} (hn : n ≤ 5) : jEv nX3_take (0, [(0, .ref a), (1, .ref 59), (2, .int (nI n))], [], M0) (fun o M' => o = some none ∧ lWc a n (M0.1 59) M0 M') := by
  obtain ⟨j, hj, rfl⟩ := id ha
  have loop : ∀ (r i : Nat), i + r = n → ∀ M : jM, M.1 (29 + 2 * j) 1 = nI n → (∀ k, k < i → M.1 (29 + 2 * j + 1) k = M0.1 59 k) → (∀ b k, ¬ (b = 29 + 2 * j ∧ k = 1) → b ≠ 29 + 2 * j + 1 → M.1 b k = M0.1 b k) → M.2 = M0.2 → jEv nX3_take (7, [(0, .ref (29 + 2 * j)), (1, .ref 59), (2, .int (nI n)), (3, .int (nI i))], [], M) (fun o M' => o = some none ∧ lWc (29 + 2 * j) n (M0.1 59) M0 M') := by
    intro r
    induction r with
    | zero =>
      intro i hi M h1 h2 h3 h4
      have : i = n := by omega
      subst this
      exact v_X3_take_7 ha ⟨fun _ => ⟨rfl, h1, h2, h3, h4⟩, fun q => absurd (Int32.le_refl _) q⟩
    | succ r ih =>
      intro i hi M h1 h2 h3 h4
      have hc : (nI i).toNatClampNeg = i := nI_clamp (by omega)
      refine v_X3_take_7 ha ⟨fun q => absurd q (nI_ge (by omega) (by omega)), fun _ => ⟨nI_in (by omega) (by omega), nI_in (by omega) (by omega), fun M1 e1 => ?_⟩⟩
      rw [hc] at e1
      rw [nI_1]
      refine ih (i + 1) (by omega) M1 ?_ (fun k hk => ?_) (fun b k z1 z2 => ?_) (by rw [e1]; exact h4)
      · rw [e1, jsi_at, if_neg (by omega)]; exact h1
      · rw [e1, jsi_at]
        by_cases e : k = i
        · rw [if_pos ⟨rfl, e⟩, e, h3 59 i (by omega) (by omega)]
        · rw [if_neg (fun w => e w.2)]; exact h2 k (by omega)
      · rw [e1, jsi_at, if_neg (fun w => z2 w.1)]; exact h3 b k z1 z2
  refine v_X3_take_0 ha (fun M1 e1 => loop n 0 (by omega) M1 ?_ (fun k hk => absurd hk (Nat.not_lt_zero k)) (fun b k z1 z2 => ?_) (by rw [e1]; rfl))
  · rw [e1, jsi_at, if_pos ⟨rfl, rfl⟩]
  · rw [e1, jsi_at, if_neg z1]
theorem s_takeDrawn_yes (M : jM) {j : Nat} (hj : j < 6) {n : Nat} (hn : n ≤ 5) (h : okL (M.1 59) n) : jEv nX7_takeDrawn (0, [(0, .ref 0), (1, .int (nI j)), (2, .int (nI n))], [], M) (fun o M' => o = some (some (.int 1)) ∧ lWc (29 + 2 * j) n (M.1 59) M M') := by
  obtain ⟨h1, h2, h3⟩ := slot_in hj
  refine v_X7_takeDrawn_0 ?_
  rw [(s_are_yes M hn h).iff]
  refine ⟨_, rfl, fun z => absurd z (by decide), fun _ => ⟨h2, ?_⟩⟩
  rw [h3]
  exact jEv.mono (s_X3_take M (jLi_n hj) hn) (fun o M' w => ⟨w.1, rfl, w.2⟩)
theorem s_takeDrawn_no (M : jM) {j n : Nat} (hn : n ≤ 5) (h : ¬ okL (M.1 59) n) : jTo nX7_takeDrawn (0, [(0, .ref 0), (1, .int (nI j)), (2, .int (nI n))], [], M) (some (some (.int 0))) M := by
  refine v_X7_takeDrawn_0 ?_
  rw [(s_are_no M hn h).iff]
  exact ⟨_, rfl, fun _ => ⟨rfl, rfl⟩, fun z => absurd rfl z⟩
/-- n values d laid into the model's slot j -/
def lWm (j n : Nat) (d : Nat → Int32) (M M' : jM) : Prop := M'.1 86 j = nI n ∧ (∀ k, k < n → M'.1 85 (5 * j + k) = d k) ∧ (∀ b k, ¬ (b = 86 ∧ k = j) → ¬ (b = 85 ∧ 5 * j ≤ k ∧ k < 5 * j + 5) → M'.1 b k = M.1 b k) ∧ M'.2 = M.2
theorem s_puts_out (M : jM) {x y : Int32} (h : ¬ (0 ≤ x ∧ x ≤ 5)) : jTo nX8_puts (0, [(0, .ref 67), (1, .int x), (2, .int y)], [], M) (some (some (.int 0))) M :=
  v_X8_puts_0 ⟨fun _ => ⟨rfl, rfl⟩, fun q => ⟨fun _ => ⟨rfl, rfl⟩, fun q2 => absurd (slot_out h) (fun w => w.elim q q2)⟩⟩
theorem s_puts_chk_yes {M : jM} {K : jK} {j n : Nat} (hj : j < 6) (hn : n ≤ 5) (h : ∀ k, 1 ≤ k → k < n → (-(M.1 87 0) ≤ M.1 87 k ∧ M.1 87 k ≤ M.1 87 0)) (k : jEv nX8_puts (99, [(0, .ref 67), (1, .int (nI j)), (2, .int (nI n)), (3, .int 0)], [], jsi M 86 j (nI n)) K) : ∀ (r i : Nat), 1 ≤ i → i + r = n → jEv nX8_puts (46, [(0, .ref 67), (1, .int (nI j)), (2, .int (nI n)), (3, .int (nI i))], [], M) K := by
  obtain ⟨h1, h2, h3⟩ := slot_in hj
  intro r
  induction r with
  | zero =>
    intro i i1 hi
    refine v_X8_puts_46 ⟨fun _ => ⟨h2, fun M1 e1 => ?_⟩, fun q => absurd (nI_le (by omega) (by omega)) q⟩
    rw [h3] at e1
    rw [e1]; exact k
  | succ r ih =>
    intro i i1 hi
    have hc : (nI i).toNatClampNeg = i := nI_clamp (by omega)
    obtain ⟨w1, w2⟩ := h i i1 (by omega)
    have hin := nI_in (c := i) (N := 5) (by omega) (by omega)
    refine v_X8_puts_46 ⟨fun q => absurd q (nI_ge (by omega) (by omega)), fun _ => ⟨hin, ?_⟩⟩
    rw [hc]
    refine ⟨fun q => absurd q (Int32.not_lt.mpr w2), fun _ => ⟨by rw [hc] at hin; exact hin, fun _ => ?_, fun q => absurd w1 q⟩⟩
    rw [nI_1]
    exact ih (i + 1) (by omega) (by omega)
theorem s_puts_chk_no {M : jM} {j n : Nat} (hn : n ≤ 5) : ∀ (r i : Nat), 1 ≤ i → i + r = n → (∃ k, i ≤ k ∧ k < n ∧ ¬ (-(M.1 87 0) ≤ M.1 87 k ∧ M.1 87 k ≤ M.1 87 0)) → jTo nX8_puts (46, [(0, .ref 67), (1, .int (nI j)), (2, .int (nI n)), (3, .int (nI i))], [], M) (some (some (.int 0))) M := by
  intro r
  induction r with
  | zero =>
    intro i i1 hi h
    obtain ⟨k, k1, k2, -⟩ := h
    exact absurd k2 (by omega)
  | succ r ih =>
    intro i i1 hi h
    have hc : (nI i).toNatClampNeg = i := nI_clamp (by omega)
    have hin := nI_in (c := i) (N := 5) (by omega) (by omega)
    refine v_X8_puts_46 ⟨fun q => absurd q (nI_ge (by omega) (by omega)), fun _ => ⟨hin, ?_⟩⟩
    rw [hc]
    refine ⟨fun _ => ⟨rfl, rfl⟩, fun q1 => ⟨by rw [hc] at hin; exact hin, fun q2 => ?_, fun _ => ⟨rfl, rfl⟩⟩⟩
    rw [nI_1]
    refine ih (i + 1) (by omega) (by omega) ?_
    obtain ⟨k, k1, k2, k3⟩ := h
    refine ⟨k, ?_, k2, k3⟩
    rcases Nat.lt_or_ge i k with w | w
    · omega
    · have : k = i := by omega
      rw [this] at k3
      exact absurd ⟨q2, Int32.not_lt.mp q1⟩ k3
theorem s_puts_lay (M0 : jM) {j n : Nat} (hj : j < 6) (hn : n ≤ 5) : ∀ (r i : Nat), i + r = n → ∀ M : jM, M.1 86 j = nI n → (∀ k, k < i → M.1 85 (5 * j + k) = M0.1 87 k) → (∀ b k, ¬ (b = 86 ∧ k = j) → ¬ (b = 85 ∧ 5 * j ≤ k ∧ k < 5 * j + 5) → M.1 b k = M0.1 b k) → M.2 = M0.2 → jEv nX8_puts (99, [(0, .ref 67), (1, .int (nI j)), (2, .int (nI n)), (3, .int (nI i))], [], M) (fun o M' => o = some (some (.int 1)) ∧ lWm j n (M0.1 87) M0 M') := by
  intro r
  induction r with
  | zero =>
    intro i hi M h1 h2 h3 h4
    have : i = n := by omega
    subst this
    exact v_X8_puts_99 ⟨fun _ => ⟨rfl, h1, h2, h3, h4⟩, fun q => absurd (Int32.le_refl _) q⟩
  | succ r ih =>
    intro i hi M h1 h2 h3 h4
    have hc : (nI i).toNatClampNeg = i := nI_clamp (by omega)
    have e5 : 5 * nI j + nI i = nI (5 * j + i) := by rw [show (5 : Int32) = nI 5 from rfl, pk_mul, nI_add]
    refine v_X8_puts_99 ⟨fun q => absurd q (nI_ge (by omega) (by omega)), fun _ => ⟨nI_in (by omega) (by omega), by rw [e5]; exact nI_in (by omega) (by omega), fun M1 e1 => ?_⟩⟩
    rw [hc, e5, nI_clamp (by omega), h3 87 i (by omega) (by omega)] at e1
    rw [nI_1]
    refine ih (i + 1) (by omega) M1 ?_ (fun k hk => ?_) (fun b k z1 z2 => ?_) (by rw [e1]; exact h4)
    · rw [e1, jsi_at, if_neg (by omega)]; exact h1
    · rw [e1, jsi_at]
      by_cases e : k = i
      · rw [if_pos ⟨rfl, by omega⟩, e]
      · rw [if_neg (by omega)]; exact h2 k (by omega)
    · rw [e1, jsi_at, if_neg (by omega)]; exact h3 b k z1 z2
theorem s_puts_yes (M : jM) {j : Nat} (hj : j < 6) {n : Nat} (hn : n ≤ 5) (h : okL (M.1 87) n) : jEv nX8_puts (0, [(0, .ref 67), (1, .int (nI j)), (2, .int (nI n))], [], M) (fun o M' => o = some (some (.int 1)) ∧ lWm j n (M.1 87) M M') := by
  obtain ⟨h1, h2, h3⟩ := h
  refine v_X8_puts_0 ⟨fun q => absurd q (slot_not hj).1, fun _ => ⟨fun q => absurd q (slot_not hj).2, fun _ => ⟨fun q => absurd q (nI_nlt (b := 1) (by omega) (by omega)), fun _ => ⟨fun q => absurd q (nI_nlt (a := 5) (by omega) (by omega)), fun _ => ⟨fun q => absurd q (Int32.not_lt.mpr h2.1), fun _ => ⟨fun _ => ?_, fun q => absurd h2.2 q⟩⟩⟩⟩⟩⟩
  refine s_puts_chk_yes hj hn h3 ?_ (n - 1) 1 (Nat.le_refl 1) (by omega)
  refine s_puts_lay M hj hn n 0 (by omega) _ (by rw [jsi_at, if_pos ⟨rfl, rfl⟩]) (fun k hk => absurd hk (Nat.not_lt_zero k)) (fun b k z1 _ => by rw [jsi_at, if_neg z1]) rfl
theorem s_puts_no (M : jM) {j : Nat} (hj : j < 6) {n : Nat} (hn : n ≤ 5) (h : ¬ okL (M.1 87) n) : jTo nX8_puts (0, [(0, .ref 67), (1, .int (nI j)), (2, .int (nI n))], [], M) (some (some (.int 0))) M := by
  refine v_X8_puts_0 ⟨fun _ => ⟨rfl, rfl⟩, fun _ => ⟨fun _ => ⟨rfl, rfl⟩, fun _ => ⟨fun _ => ⟨rfl, rfl⟩, fun q => ⟨fun _ => ⟨rfl, rfl⟩, fun _ => ⟨fun _ => ⟨rfl, rfl⟩, fun q2 => ⟨fun q3 => ?_, fun _ => ⟨rfl, rfl⟩⟩⟩⟩⟩⟩⟩
  have h1 : 1 ≤ n := Nat.not_lt.mp (fun w => q (nI_lt (b := 1) w (by omega)))
  rcases okL_dec (M.1 87) n with w | ⟨k, k1, k2, k3⟩
  · exact absurd ⟨h1, ⟨Int32.not_lt.mp q2, q3⟩, w⟩ h
  · exact s_puts_chk_no hn (n - 1) 1 (Nat.le_refl 1) (by omega) ⟨k, k1, k2, k3⟩
