/-! whole: both -/
theorem nI_sub {t i : Nat} (h : i ≤ t) : nI t - nI i = nI (t - i) := by
  have e : nI t = nI (t - i) + nI i := by rw [nI_add, Nat.sub_add_cancel h]
  rw [e, Int32.add_sub_cancel]
def b2i (b : Bool) : Int32 := if b then 1 else 0
/-- no gap among d places from a on -/
def gB (x : Nat → Int32) : Nat → Nat → Bool
  | _, 0 => true
  | a, d + 1 => !decide (x a = 100) && gB x (a + 1) d
theorem gB_iff (x : Nat → Int32) : ∀ (d a : Nat), gB x a d = true ↔ ∀ t, a ≤ t → t < a + d → ¬ x t = 100
  | 0, a => ⟨fun _ t h1 h2 => absurd h2 (by omega), fun _ => rfl⟩
  | d + 1, a => by
    unfold gB
    rw [Bool.and_eq_true, gB_iff x d (a + 1)]
    constructor
    · rintro ⟨h1, h2⟩ t t1 t2
      rcases Nat.lt_or_ge a t with w | w
      · exact h2 t (by omega) (by omega)
      · have : t = a := by omega
        rw [this]
        simpa using h1
    · intro h
      exact ⟨by simpa using h a (by omega) (by omega), fun t t1 t2 => h t (by omega) (by omega)⟩
/-- place t and the p before it are there, without a gap -/
def wB (x : Nat → Int32) (p t : Nat) : Bool := decide (p ≤ t) && gB x (t - p) (p + 1)
theorem s_gapless_loop {M : jM} {n : Nat} {x : Nat → Int32} (h : vW M n x) {b : Nat} (hb : b ≤ n) : ∀ (d a : Nat), a + d = b → jTo nX4_isGapless (16, [(0, .ref 41), (2, .int (nI b)), (3, .int (nI a))], [], M) (some (some (.int (b2i (gB x a d))))) M := by
  obtain ⟨h0, h1, h2, h3⟩ := h
  intro d
  induction d with
  | zero =>
    intro a ha
    have : a = b := by omega
    subst this
    exact v_X4_isGapless_16 ⟨fun _ => ⟨rfl, rfl⟩, fun w => absurd (Int32.le_refl _) w⟩
  | succ d ih =>
    intro a ha
    refine v_X4_isGapless_16 ⟨fun w => absurd w (nI_ge (by omega) (by omega)), fun _ => ⟨nI_in (by omega) (by omega), ?_⟩⟩
    rw [nI_clamp (by omega), (h3 a (by omega)).1]
    unfold gB
    refine ⟨fun w => ⟨by rw [decide_eq_true w]; rfl, rfl⟩, fun w => ?_⟩
    rw [decide_eq_false w, nI_1]
    exact ih (a + 1) (by omega)
theorem s_gapless {M : jM} {n : Nat} {x : Nat → Int32} (h : vW M n x) {p t : Nat} (hp : p ≤ t) (ht : t < n) : jTo nX4_isGapless (0, [(0, .ref 41), (1, .int (nI t - nI p)), (2, .int (nI t + 1))], [], M) (some (some (.int (b2i (wB x p t))))) M := by
  have hw : wB x p t = gB x (t - p) (p + 1) := by unfold wB; rw [decide_eq_true hp]; rfl
  have l := s_gapless_loop h (b := t + 1) (by omega) (p + 1) (t - p) (by omega)
  obtain ⟨h0, h1, h2, h3⟩ := h
  rw [nI_sub hp, nI_1, hw]
  refine v_X4_isGapless_0 ⟨fun w => absurd w (nI_pos (by omega)), fun _ => ⟨fun _ => l, fun w => absurd ?_ w⟩⟩
  rw [h1]
  exact nI_le (by omega) (by omega)
theorem c_whole_loop {M : jM} {n j q p m s : Nat} {x A B : Nat → Int32} (hj : j < 6) (h : vW M n x) (v : vR M j q p m s A B) : ∀ (d t : Nat), p ≤ t → t + d = n → jTo nX4_wholeCount (7, [(0, .ref 41), (1, .ref (4 + 4 * j)), (2, .int (nI (cN (wB x p) t))), (3, .int (nI t))], [], M) (some (some (.int (nI (cN (wB x p) n))))) M := by
  intro d
  induction d with
  | zero =>
    intro t hp ht
    have : t = n := by omega
    subst this
    exact v_X4_wholeCount_7 (jRu_n hj) ⟨fun _ => ⟨rfl, rfl⟩, fun w => absurd (by rw [h.2.1]; exact Int32.le_refl _) w⟩
  | succ d ih =>
    intro t hp ht
    refine v_X4_wholeCount_7 (jRu_n hj) ⟨fun w => absurd w (by rw [h.2.1]; exact nI_ge (by omega) (by have := h.1; omega)), fun _ => ?_⟩
    rw [v.2.1.2.2.1, (s_gapless h hp (by omega)).iff]
    have := ih (t + 1) (by omega) (by omega)
    refine ⟨_, rfl, fun w => ?_, fun w => ?_⟩
    · rw [cN_no (p := wB x p) (by cases e : wB x p t with | false => rfl | true => rw [e] at w; exact absurd w (by decide)), nI_1]
      exact this
    · rw [cN_yes (p := wB x p) (by cases e : wB x p t with | true => rfl | false => rw [e] at w; exact absurd rfl w), nI_1]
      exact this
theorem cN_zero {P : Nat → Bool} : ∀ {n : Nat}, (∀ i, i < n → P i = false) → cN P n = 0
  | 0, _ => rfl
  | n + 1, h => by unfold cN; rw [cN_zero (fun i hi => h i (by omega)), h n (by omega)]; rfl
theorem wB_lo {x : Nat → Int32} {p t : Nat} (h : t < p) : wB x p t = false := by unfold wB; rw [decide_eq_false (by omega)]; rfl
theorem c_wholeCount {M : jM} {n j q p m s : Nat} {x A B : Nat → Int32} (hj : j < 6) (h : vW M n x) (v : vR M j q p m s A B) : jTo nX4_wholeCount (0, [(0, .ref 41), (1, .ref (4 + 4 * j))], [], M) (some (some (.int (nI (cN (wB x p) n))))) M := by
  refine v_X4_wholeCount_0 (jRu_n hj) ?_
  rw [v.2.1.2.2.1]
  by_cases hp : p ≤ n
  · have := c_whole_loop hj h v (n - p) p (Nat.le_refl p) (by omega)
    rw [cN_zero (fun i hi => wB_lo hi)] at this
    exact this
  · refine v_X4_wholeCount_7 (jRu_n hj) ⟨fun _ => ⟨?_, rfl⟩, fun w => absurd (by rw [h.2.1]; exact nI_le (by omega) (by have := v.1; omega)) w⟩
    rw [cN_zero (fun i hi => wB_lo (by omega))]
    rfl
theorem m_isWhole_loop {M : jM} {n j q p m s : Nat} {x A B : Nat → Int32} (hj : j < 6) (h : vW M n x) (v : vR M j q p m s A B) {t : Nat} (hp : p ≤ t) (ht : t < n) : ∀ (d i : Nat), i + d = p + 1 → gB x (t - p + d) i = true → jTo nX8_isWhole (19, [(0, .ref 67), (1, .int (nI j)), (2, .int (nI t)), (3, .int 1), (4, .int (nI i))], [], M) (some (some (.int (b2i (gB x (t - p) (p + 1)))))) M := by
  obtain ⟨h1, h2, h3⟩ := slot_in hj
  have hp3 := v.1.2.2.1
  have hn := h.1
  intro d
  induction d with
  | zero =>
    intro i hi hg
    have : i = p + 1 := by omega
    subst this
    refine v_X8_isWhole_19 ⟨h2, ?_⟩
    rw [h3, v.2.2.1.2.2.1]
    refine ⟨fun _ => ⟨Or.inr rfl, ?_, rfl⟩, fun w => absurd (nI_lt (by omega) (by omega)) w⟩
    rw [Nat.add_zero] at hg
    rw [hg]; rfl
  | succ d ih =>
    intro i hi hg
    refine v_X8_isWhole_19 ⟨h2, ?_⟩
    rw [h3, v.2.2.1.2.2.1, nI_sub (by omega), nI_clamp (by omega), (h.2.2.2 (t - i) (by omega)).2.1]
    refine ⟨fun w => absurd w (nI_nlt (by omega) (by omega)), fun _ => ⟨fun w => absurd w (by decide), fun _ => ⟨?_, fun w => ?_, fun w => ?_⟩⟩⟩
    · have := nI_in (c := t - i) (N := 60) (by omega) (by omega)
      rw [nI_clamp (by omega)] at this
      exact this
    · have no : gB x (t - p) (p + 1) = false := by
        cases e : gB x (t - p) (p + 1) with
        | false => rfl
        | true => exact absurd w ((gB_iff x _ _).mp e (t - i) (by omega) (by omega))
      rw [no]
      refine v_X8_isWhole_19 ⟨h2, ?_⟩
      rw [h3, v.2.2.1.2.2.1]
      exact ⟨fun _ => ⟨Or.inl rfl, rfl, rfl⟩, fun _ => ⟨fun _ => ⟨Or.inl rfl, rfl, rfl⟩, fun z => absurd rfl z⟩⟩
    · rw [nI_1]
      refine ih (i + 1) (by omega) ((gB_iff x _ _).mpr (fun u u1 u2 => ?_))
      rcases Nat.lt_or_ge u (t - p + (d + 1)) with z | z
      · have : u = t - i := by omega
        rw [this]; exact w
      · exact (gB_iff x _ _).mp hg u z (by omega)
theorem m_isWhole {M : jM} {n j q p m s : Nat} {x A B : Nat → Int32} (hj : j < 6) (h : vW M n x) (v : vR M j q p m s A B) {t : Nat} (ht : t < n) : jTo nX8_isWhole (0, [(0, .ref 67), (1, .int (nI j)), (2, .int (nI t))], [], M) (some (some (.int (b2i (wB x p t))))) M := by
  obtain ⟨h1, h2, h3⟩ := slot_in hj
  have hp3 := v.1.2.2.1
  have hn := h.1
  refine v_X8_isWhole_0 ⟨h2, ?_⟩
  rw [h3, v.2.2.1.2.2.1]
  by_cases hp : p ≤ t
  · refine ⟨fun w => absurd w (nI_nlt hp (by omega)), fun _ => ?_⟩
    have hw : wB x p t = gB x (t - p) (p + 1) := by unfold wB; rw [decide_eq_true hp]; rfl
    rw [hw]
    exact m_isWhole_loop hj h v hp ht (p + 1) 0 (by omega) rfl
  · refine ⟨fun _ => ?_, fun w => absurd (nI_lt (by omega) (by omega)) w⟩
    rw [wB_lo (by omega)]
    refine v_X8_isWhole_19 ⟨h2, ?_⟩
    rw [h3, v.2.2.1.2.2.1]
    exact ⟨fun _ => ⟨Or.inl rfl, rfl, rfl⟩, fun _ => ⟨fun _ => ⟨Or.inl rfl, rfl, rfl⟩, fun z => absurd rfl z⟩⟩
theorem m_whole_loop {M : jM} {n j q p m s : Nat} {x A B : Nat → Int32} (hj : j < 6) (h : vW M n x) (v : vR M j q p m s A B) : ∀ (d t : Nat), t + d = n → jTo nX8_whole (19, [(0, .ref 67), (1, .int (nI j)), (2, .int (nI (cN (wB x p) t))), (3, .int (nI t))], [], M) (some (some (.int (nI (cN (wB x p) n))))) M := by
  intro d
  induction d with
  | zero =>
    intro t ht
    have : t = n := by omega
    subst this
    exact v_X8_whole_19 ⟨fun _ => ⟨rfl, rfl⟩, fun w => absurd (by rw [h.2.2.1]; exact Int32.le_refl _) w⟩
  | succ d ih =>
    intro t ht
    refine v_X8_whole_19 ⟨fun w => absurd w (by rw [h.2.2.1]; exact nI_ge (by omega) (by have := h.1; omega)), fun _ => ?_⟩
    rw [(m_isWhole hj h v (by omega)).iff]
    have := ih (t + 1) (by omega)
    refine ⟨_, rfl, fun w => ?_, fun w => ?_⟩
    · rw [cN_no (p := wB x p) (by cases e : wB x p t with | false => rfl | true => rw [e] at w; exact absurd w (by decide)), nI_1]
      exact this
    · rw [cN_yes (p := wB x p) (by cases e : wB x p t with | true => rfl | false => rw [e] at w; exact absurd rfl w), nI_1]
      exact this
theorem op_whole {M : jM} (h : iInv M) (y : Int32) : jBoth nX7_whole nX8_whole [(0, .ref 0), (1, .int y)] [(0, .ref 67), (1, .int y)] M := by
  obtain ⟨n, x, w⟩ := h.vW
  rcases plain_cs h y with ⟨c, m⟩ | ⟨j, q, p, s, A, B, hj, rfl, v⟩
  · refine both_i (r := -1) h (v_X7_whole_0 ?_) (fun M1 k => v_X8_whole_0 (fun M2 e2 => ?_))
    · rw [(c M (iI.rfl' M)).iff]
      exact Or.inl ⟨rfl, rfl, iKp.rfl' M⟩
    · have k2 := kp67 e2
      rw [(m M2 (k.trans k2.i)).iff]
      exact ⟨_, rfl, fun _ => ⟨rfl, k2⟩, fun z => absurd rfl z⟩
  · refine both_i (r := nI (cN (wB x p) n)) h (v_X7_whole_0 ?_) (fun M1 k => v_X8_whole_0 (fun M2 e2 => ?_))
    · rw [(c_plain hj v).iff]
      refine Or.inr ⟨_, jRu_n hj, rfl, ?_⟩
      rw [(c_wholeCount hj w v).iff]
      exact ⟨_, rfl, rfl, iKp.rfl' M⟩
    · have k2 := kp67 e2
      have v2 := v.kp hj (k.trans k2.i)
      have w2 := w.kp (k.trans k2.i)
      rw [(m_plain hj v2).iff]
      refine ⟨_, rfl, fun z => absurd z (by decide), fun _ => ?_⟩
      refine ((m_whole_loop hj w2 v2 n 0 (by omega)).iff _).mpr ⟨rfl, k2⟩
