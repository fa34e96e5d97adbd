/-! fill: the class's side -/
/-- where the gaps are, as found by t places -/
def gP (P : Nat → Bool) : Nat → Nat → Nat
  | 0 => fun _ => 0
  | t + 1 => fun i => if P t = true ∧ i = cN P t then t else gP P t i
theorem cN_mono (P : Nat → Bool) (t : Nat) : cN P t ≤ cN P (t + 1) := by
  show cN P t ≤ cN P t + _
  exact Nat.le_add_right _ _
theorem gP_le {P : Nat → Bool} {i : Nat} : ∀ {d t : Nat}, i < cN P t → gP P (t + d) i = gP P t i
  | 0, t, _ => rfl
  | d + 1, t, h => by
    have h2 : cN P t ≤ cN P (t + d) := by
      clear h
      induction d with
      | zero => exact Nat.le_refl _
      | succ d ih => exact Nat.le_trans ih (cN_mono P (t + d))
    show (if P (t + d) = true ∧ i = cN P (t + d) then t + d else gP P (t + d) i) = _
    rw [if_neg (by omega)]
    exact gP_le h
theorem gP_lt {P : Nat → Bool} : ∀ {t i : Nat}, i < cN P t → gP P t i < t
  | 0, i, h => absurd h (Nat.not_lt_zero i)
  | t + 1, i, h => by
    show (if P t = true ∧ i = cN P t then t else gP P t i) < t + 1
    by_cases z : P t = true ∧ i = cN P t
    · rw [if_pos z]; omega
    · rw [if_neg z]
      have h' : i < cN P t := by
        cases e : P t with
        | true =>
          have h1 : cN P (t + 1) = cN P t + 1 := by show cN P t + _ = _; rw [e]; rfl
          have : i ≠ cN P t := fun y => z ⟨e, y⟩
          omega
        | false =>
          have h1 : cN P (t + 1) = cN P t := by show cN P t + _ = _; rw [e]; rfl
          omega
      have := gP_lt h'
      omega
theorem cN_t {P : Nat → Bool} {t : Nat} (h : P t = true) : cN P (t + 1) = cN P t + 1 := by show cN P t + _ = _; rw [h]; rfl
theorem cN_f {P : Nat → Bool} {t : Nat} (h : P t = false) : cN P (t + 1) = cN P t := by show cN P t + _ = _; rw [h]; rfl
theorem gP_here {P : Nat → Bool} {t : Nat} (h : P t = true) : gP P (t + 1) (cN P t) = t := if_pos ⟨h, rfl⟩
theorem gP_f {P : Nat → Bool} {t i : Nat} (h : P t = false) : gP P (t + 1) i = gP P t i := if_neg (fun z => by rw [h] at z; exact absurd z.1 (by decide))
theorem cN_ge {P : Nat → Bool} : ∀ {d t : Nat}, cN P t ≤ cN P (t + d)
  | 0, _ => Nat.le_refl _
  | d + 1, t => Nat.le_trans (cN_ge (d := d)) (cN_mono P (t + d))
def gx (x : Nat → Int32) (t : Nat) : Bool := decide (x t = 100)
theorem c_findGaps {M0 : jM} {n g : Nat} {x : Nat → Int32} (h : vW M0 n x) (hg : cN (gx x) n = g) (g3 : g ≤ 3) : jEv nX4_findGaps (0, [(0, .ref 41), (1, .int (nI g))], [], M0) (fun o M' => o = some none ∧ M'.2 = M0.2 ∧ (∀ a k, a ≠ 43 → M'.1 a k = M0.1 a k) ∧ ∀ i, i < g → M'.1 43 i = nI (gP (gx x) n i)) := by
  have hn := h.1
  have lp : ∀ (d t : Nat), t + d = n → ∀ M, M.2 = M0.2 → (∀ a k, a ≠ 43 → M.1 a k = M0.1 a k) → (∀ i, i < cN (gx x) t → M.1 43 i = nI (gP (gx x) t i)) → jEv nX4_findGaps (4, [(0, .ref 41), (1, .int (nI g)), (2, .int (nI (cN (gx x) t))), (3, .int (nI t))], [], M) (fun o M' => o = some none ∧ M'.2 = M0.2 ∧ (∀ a k, a ≠ 43 → M'.1 a k = M0.1 a k) ∧ ∀ i, i < g → M'.1 43 i = nI (gP (gx x) n i)) := by
    intro d
    induction d with
    | zero =>
      intro t ht M f1 f2 f3
      have : t = n := by omega
      subst this
      refine v_X4_findGaps_4 ⟨fun _ => ⟨rfl, f1, f2, fun i hi => f3 i (by omega)⟩, fun z => absurd ?_ z⟩
      rw [f2 41 2 (by decide), h.2.1]; exact Int32.le_refl _
    | succ d ih =>
      intro t ht M f1 f2 f3
      have hc := cN_ge (P := gx x) (t := t) (d := d + 1)
      rw [ht, hg] at hc
      refine v_X4_findGaps_4 ⟨fun z => absurd z ?_, fun _ => ⟨fun z => ⟨rfl, f1, f2, fun i hi => ?_⟩, fun z => ⟨nI_in (by omega) (by omega), fun y => ⟨?_, fun M1 e1 => ?_⟩, fun y => ?_⟩⟩⟩
      · rw [f2 41 2 (by decide), h.2.1]; exact nI_ge (by omega) (by omega)
      · have z' : g ≤ cN (gx x) t := (nI_leI (by omega) (by omega)).mp z
        rw [f3 i (by omega), ← gP_le (P := gx x) (i := i) (d := d + 1) (t := t) (by omega), ht]
      · have z' : ¬ g ≤ cN (gx x) t := fun w => z (nI_le w (by omega))
        exact nI_in (by omega) (by omega)
      · have z' : ¬ g ≤ cN (gx x) t := fun w => z (nI_le w (by omega))
        rw [nI_clamp (by omega), f2 42 t (by decide), (h.2.2.2 t (by omega)).1] at y
        have yb : gx x t = true := decide_eq_true y
        rw [nI_clamp (by omega)] at e1
        rw [nI_1, nI_1, ← cN_t yb]
        refine ih (t + 1) (by omega) M1 (by rw [e1]; exact f1) (fun a k ha => by rw [e1, jsi_at, if_neg (fun w => ha w.1)]; exact f2 a k ha) (fun i hi => ?_)
        rw [e1, jsi_at]
        by_cases w : i = cN (gx x) t
        · rw [if_pos ⟨rfl, w⟩, w, gP_here yb]
        · rw [if_neg (fun u => w u.2)]
          rw [cN_t yb] at hi
          rw [f3 i (by omega), gP_le (d := 1) (by omega)]
      · rw [nI_clamp (by omega), f2 42 t (by decide), (h.2.2.2 t (by omega)).1] at y
        have yb : gx x t = false := decide_eq_false y
        have := ih (t + 1) (by omega) M f1 f2 (fun i hi => by rw [cN_f yb] at hi; rw [gP_f yb]; exact f3 i hi)
        rw [cN_f yb] at this
        rw [nI_1]; exact this
  exact v_X4_findGaps_0 (lp n 0 (by omega) M0 rfl (fun _ _ _ => rfl) (fun i hi => absurd hi (by show ¬ i < 0; omega)))
theorem c_pulledN {M : jM} {n j q p m s : Nat} {x A B : Nat → Int32} (hj : j < 6) (h : vW M n x) (v : vR M j q p m s A B) {t : Nat} (ht : t < n) : jTo nX4_pulledMisses (0, [(0, .ref 41), (1, .ref (4 + 4 * j)), (2, .int (nI t))], [], M) (some (some (.long (aP q p n A x t)))) M := by
  by_cases hp : p ≤ n
  · exact c_pulled hj h v ht hp
  · have hp3 := v.1.2.2.1
    have hn := h.1
    refine v_X4_pulledMisses_0 (jRu_n hj) (v_X4_pulledMisses_12 (jRu_n hj) ⟨fun _ => ⟨?_, rfl⟩, fun z => absurd ?_ z⟩)
    · unfold aP
      rw [sL_zero (fun i hi => by unfold aPf; rw [if_neg (by omega)])]
    · rw [h.2.1, v.2.1.2.2.1, nI_max (by omega) (by omega)]; exact nI_le (by omega) (by omega)
theorem c_jointN {M : jM} {n j q p m s : Nat} {x A B : Nat → Int32} (hj : j < 6) (h : vW M n x) (v : vR M j q p m s A B) {t t' : Nat} (ht : t < n) (ht' : t' < n) : jTo nX4_jointPulls (0, [(0, .ref 41), (1, .ref (4 + 4 * j)), (2, .int (nI t)), (3, .int (nI t'))], [], M) (some (some (.long (aQ q p n A t t')))) M := by
  by_cases hp : p ≤ n
  · exact c_joint hj h v ht ht' hp
  · have hp3 := v.1.2.2.1
    have hn := h.1
    refine v_X4_jointPulls_0 (jRu_n hj) (v_X4_jointPulls_13 (jRu_n hj) ⟨fun _ => ⟨?_, rfl⟩, fun z => absurd ?_ z⟩)
    · unfold aQ
      rw [sL_zero (fun i hi => by unfold aQf; rw [if_neg (by omega)])]
    · rw [h.2.1, v.2.1.2.2.1, nI_max (by omega) (by omega)]; exact nI_le (by omega) (by omega)
/-- the equations of a filling: a column may be the right side -/
def fC (P : Nat → Int64) (Q : Nat → Nat → Int64) (col : Int32) (i c : Nat) : Int64 := if nI c = col then -(P i) else Q i c
/-- rows of the equations laid down so far -/
def stq (P : Nat → Int64) (Q : Nat → Nat → Int64) (g i : Nat) (M : jM) : Prop := ∀ i', i' < i → M.2 50 i' = -(P i') ∧ ∀ c, c < g → M.2 (46 + i') c = Q i' c
def qFr (M0 M : jM) : Prop := (∀ a k, a ≠ 43 → M.1 a k = M0.1 a k) ∧ ∀ a k, (a < 44 ∨ 52 < a) → M.2 a k = M0.2 a k
theorem qFr.kp {M0 M : jM} (h : qFr M0 M) : iKp M0 M := ⟨fun a k z _ _ _ _ _ => h.1 a k z, fun a k z => h.2 a k (by omega)⟩
theorem qFr.sl {M0 M : jM} (h : qFr M0 M) {a k : Nat} {v : Int64} (ha : 44 ≤ a ∧ a ≤ 52) : qFr M0 (jsl M a k v) := ⟨h.1, fun b q z => by rw [jsl_at, if_neg (by omega)]; exact h.2 b q z⟩
theorem nI_in_4 {i : Nat} (h : i < 4) : ¬ (nI i < 0 ∨ 4 ≤ i) := by
  have := nI_in (c := i) (N := 4) h (by omega)
  rw [nI_clamp (by omega)] at this
  exact this
theorem c_ask {M0 : jM} {n j q p m s g : Nat} {x A B : Nat → Int32} (hj : j < 6) (h : vW M0 n x) (v : vR M0 j q p m s A B) (hg : cN (gx x) n = g) (g3 : g ≤ 3) : jEv nX4_askForGaps (0, [(0, .ref 41), (1, .ref (4 + 4 * j)), (2, .int (nI g)), (3, .ref 44)], [], M0) (fun o M' => o = some none ∧ qFr M0 M' ∧ stq (fun i => aP q p n A x (gP (gx x) n i)) (fun i c => aQ q p n A (gP (gx x) n i) (gP (gx x) n c)) g g M') := by
  have hn := h.1
  have gl : ∀ i, i < g → gP (gx x) n i < n := fun i hi => gP_lt (by omega)
  refine v_X4_askForGaps_0 (jRu_n hj) (jEv.mono (c_findGaps h hg g3) (fun o M1 z => ⟨z.1, ?_⟩))
  obtain ⟨-, z1, z2, z3⟩ := z
  have q1 : qFr M0 M1 := ⟨z2, fun a k _ => by rw [z1]⟩
  have at43 : ∀ {M : jM}, M.1 = M1.1 → ∀ i, i < g → M.1 43 i = nI (gP (gx x) n i) := fun e i hi => by rw [e]; exact z3 i hi
  have vv : ∀ {M : jM}, M.1 = M1.1 → vR M j q p m s A B := fun e => v.cg (fun a i w => by rw [e]; exact z2 a i (by omega)) hj
  have ww : ∀ {M : jM}, M.1 = M1.1 → vW M n x := fun e => h.cg (fun a i w => by rw [e]; exact z2 a i (by omega))
  have lp : ∀ (d i : Nat), i + d = g → ∀ M, M.1 = M1.1 → qFr M0 M → stq (fun i => aP q p n A x (gP (gx x) n i)) (fun i c => aQ q p n A (gP (gx x) n i) (gP (gx x) n c)) g i M → jEv nX4_askForGaps (8, [(0, .ref 41), (1, .ref (4 + 4 * j)), (2, .int (nI g)), (3, .ref 44), (4, .int (nI i))], [], M) (fun o M' => o = some none ∧ qFr M0 M' ∧ stq (fun i => aP q p n A x (gP (gx x) n i)) (fun i c => aQ q p n A (gP (gx x) n i) (gP (gx x) n c)) g g M') := by
    intro d
    induction d with
    | zero =>
      intro i hi M e f s1
      have : i = g := by omega
      subst this
      exact v_X4_askForGaps_8 (jRu_n hj) ⟨fun _ => ⟨rfl, f, s1⟩, fun z => absurd (Int32.le_refl _) z⟩
    | succ d ih =>
      intro i hi M e f s1
      refine v_X4_askForGaps_8 (jRu_n hj) ⟨fun z => absurd z (nI_ge (by omega) (by omega)), fun _ => ⟨nI_in (by omega) (by omega), ?_⟩⟩
      rw [nI_clamp (by omega), at43 e i (by omega), (c_pulledN hj (ww e) (vv e) (gl i (by omega))).iff]
      refine ⟨_, rfl, nI_in_4 (by omega), fun M4 e4 => ?_⟩
      have lp2 : ∀ (d2 c : Nat), c + d2 = g → ∀ M5, M5.1 = M1.1 → qFr M0 M5 → stq (fun i => aP q p n A x (gP (gx x) n i)) (fun i c => aQ q p n A (gP (gx x) n i) (gP (gx x) n c)) g i M5 → M5.2 50 i = -(aP q p n A x (gP (gx x) n i)) → (∀ y, y < c → M5.2 (46 + i) y = aQ q p n A (gP (gx x) n i) (gP (gx x) n y)) → jEv nX4_askForGaps (37, [(0, .ref 41), (1, .ref (4 + 4 * j)), (2, .int (nI g)), (3, .ref 44), (4, .int (nI i)), (5, .int (nI c))], [], M5) (fun o M' => o = some none ∧ qFr M0 M' ∧ stq (fun i => aP q p n A x (gP (gx x) n i)) (fun i c => aQ q p n A (gP (gx x) n i) (gP (gx x) n c)) g g M') := by
        intro d2
        induction d2 with
        | zero =>
          intro c hc M5 e5 f5 s5 t5 u5
          have : c = g := by omega
          subst this
          refine v_X4_askForGaps_37 (jRu_n hj) ⟨fun _ => ?_, fun z => absurd (Int32.le_refl _) z⟩
          rw [nI_1]
          refine ih (i + 1) (by omega) M5 e5 f5 (fun i' hi' => ?_)
          by_cases w : i' = i
          · subst w; exact ⟨t5, u5⟩
          · exact s5 i' (by omega)
        | succ d2 ih2 =>
          intro c hc M5 e5 f5 s5 t5 u5
          refine v_X4_askForGaps_37 (jRu_n hj) ⟨fun z => absurd z (nI_ge (by omega) (by omega)), fun _ => ⟨nI_in (by omega) (by omega), nI_in (by omega) (by omega), nI_in (by omega) (by omega), ?_⟩⟩
          rw [nI_clamp (by omega), nI_clamp (by omega), at43 e5 i (by omega), at43 e5 c (by omega), (c_jointN hj (ww e5) (vv e5) (gl i (by omega)) (gl c (by omega))).iff]
          refine ⟨_, rfl, nI_in_4 (by omega), fun M6 e6 => ?_⟩
          rw [nI_1]
          refine ih2 (c + 1) (by omega) M6 (by rw [e6]; exact e5) (by rw [e6]; exact f5.sl (by omega)) (fun i' hi' => ⟨?_, fun y hy => ?_⟩) ?_ (fun y hy => ?_)
          · rw [e6, jsl_at, if_neg (by omega)]; exact (s5 i' hi').1
          · rw [e6, jsl_at, if_neg (by omega)]; exact (s5 i' hi').2 y hy
          · rw [e6, jsl_at, if_neg (by omega)]; exact t5
          · rw [e6, jsl_at]
            by_cases w : y = c
            · rw [if_pos ⟨rfl, w⟩, w]
            · rw [if_neg (fun u => w u.2)]; exact u5 y (by omega)
      refine lp2 g 0 (by omega) M4 (by rw [e4]; exact e) (by rw [e4]; exact f.sl (by omega)) (fun i' hi' => ⟨?_, fun y hy => ?_⟩) (by rw [e4, jsl_at, if_pos ⟨rfl, rfl⟩]) (fun y hy => absurd hy (by omega))
      · rw [e4, jsl_at, if_neg (by omega)]; exact (s1 i' hi').1
      · rw [e4, jsl_at, if_neg (by omega)]; exact (s1 i' hi').2 y hy
  exact lp g 0 (by omega) M1 rfl q1 (fun i' hi' => absurd hi' (by omega))
theorem stq_cl {P : Nat → Int64} {Q : Nat → Nat → Int64} {g : Nat} {M : jM} (hg : g ≤ 3) (h : stq P Q g g M) (col : Int32) : dC (dcl M col) g = dM (fC P Q col) g := by
  rw [← dCM _ (show g ≤ 4 by omega)]
  refine dC_congr (by omega) (fun i c hi hc => ?_)
  unfold dcl fC
  by_cases z : nI c = col
  · rw [if_pos z, if_pos z]; exact (h i hi).1
  · rw [if_neg z, if_neg z, if_pos (by omega)]; exact (h i hi).2 c hc
