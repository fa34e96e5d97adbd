/-! fill: the model's side; both -/
theorem nI4 (i c : Nat) : 4 * nI i + nI c = nI (4 * i + c) := by rw [show (4 : Int32) = nI 4 from rfl, pk_mul, nI_add]
theorem m_cramer {M0 : jM} {n : Nat} (hn : n ≤ 3) (col : Int32) : jEv nX8_cramer (0, [(0, .ref 67), (1, .int (nI n)), (2, .int col)], [], M0) (fun o M' => o = some (some (.long (dM (fun i c => if nI c = col then M0.2 96 (4 * i + n) else M0.2 96 (4 * i + c)) n))) ∧ bFr M0 M') := by
  have lp2 : ∀ (i : Nat), i < n → (∀ M, M.1 = M0.1 → (∀ a q, a ≠ 88 → M.2 a q = M0.2 a q) → (∀ i' c, i' < i + 1 → c < n → M.2 88 (5 * i' + c) = if nI c = col then M0.2 96 (4 * i' + n) else M0.2 96 (4 * i' + c)) → jEv nX8_cramer (2, [(0, .ref 67), (1, .int (nI n)), (2, .int col), (3, .int (nI (i + 1)))], [], M) (fun o M' => o = some (some (.long (dM (fun i c => if nI c = col then M0.2 96 (4 * i + n) else M0.2 96 (4 * i + c)) n))) ∧ bFr M0 M')) → ∀ (d c : Nat), c + d = n → ∀ M, M.1 = M0.1 → (∀ a q, a ≠ 88 → M.2 a q = M0.2 a q) → (∀ i' c, i' < i → c < n → M.2 88 (5 * i' + c) = if nI c = col then M0.2 96 (4 * i' + n) else M0.2 96 (4 * i' + c)) → (∀ x, x < c → M.2 88 (5 * i + x) = if nI x = col then M0.2 96 (4 * i + n) else M0.2 96 (4 * i + x)) → jEv nX8_cramer (10, [(0, .ref 67), (1, .int (nI n)), (2, .int col), (3, .int (nI i)), (4, .int (nI c))], [], M) (fun o M' => o = some (some (.long (dM (fun i c => if nI c = col then M0.2 96 (4 * i + n) else M0.2 96 (4 * i + c)) n))) ∧ bFr M0 M') := by
    intro i hi nx d
    induction d with
    | zero =>
      intro c hc M f1 f2 s1 s2
      have : c = n := by omega
      subst this
      refine v_X8_cramer_10 ⟨fun _ => ?_, fun z => absurd (Int32.le_refl _) z⟩
      rw [nI_1]
      refine nx M f1 f2 (fun i' x hi' hx => ?_)
      by_cases z : i' = i
      · subst z; exact s2 x hx
      · exact s1 i' x (by omega) hx
    | succ d ih =>
      intro c hc M f1 f2 s1 s2
      have st : ∀ M2 : jM, M2 = jsl M 88 (5 * i + c) (if nI c = col then M0.2 96 (4 * i + n) else M0.2 96 (4 * i + c)) → jEv nX8_cramer (10, [(0, .ref 67), (1, .int (nI n)), (2, .int col), (3, .int (nI i)), (4, .int (nI c + 1))], [], M2) (fun o M' => o = some (some (.long (dM (fun i c => if nI c = col then M0.2 96 (4 * i + n) else M0.2 96 (4 * i + c)) n))) ∧ bFr M0 M') := by
        intro M2 e2
        rw [nI_1]
        refine ih (c + 1) (by omega) M2 (by rw [e2]; exact f1) (fun a q ha => by rw [e2, jsl_at, if_neg (fun z => ha z.1)]; exact f2 a q ha) (fun i' x hi' hx => ?_) (fun x hx => ?_)
        · rw [e2, jsl_at, if_neg (by omega)]; exact s1 i' x hi' hx
        · rw [e2, jsl_at]
          by_cases z : x = c
          · rw [if_pos ⟨rfl, by rw [z]⟩, z]
          · rw [if_neg (by omega)]; exact s2 x (by omega)
      refine v_X8_cramer_10 ⟨fun z => absurd z (nI_ge (by omega) (by omega)), fun _ => ?_⟩
      rw [nI4, nI5, nI4]
      refine ⟨fun z => ⟨nI_in (by omega) (by omega), nI_in (by omega) (by omega), fun M2 e2 => st M2 ?_⟩, fun z => ⟨nI_in (by omega) (by omega), nI_in (by omega) (by omega), fun M2 e2 => st M2 ?_⟩⟩
      · rw [e2, nI_clamp (by omega), nI_clamp (by omega), if_pos z, f2 96 _ (by decide)]
      · rw [e2, nI_clamp (by omega), nI_clamp (by omega), if_neg z, f2 96 _ (by decide)]
  have lp : ∀ (d i : Nat), i + d = n → ∀ M, M.1 = M0.1 → (∀ a q, a ≠ 88 → M.2 a q = M0.2 a q) → (∀ i' c, i' < i → c < n → M.2 88 (5 * i' + c) = if nI c = col then M0.2 96 (4 * i' + n) else M0.2 96 (4 * i' + c)) → jEv nX8_cramer (2, [(0, .ref 67), (1, .int (nI n)), (2, .int col), (3, .int (nI i))], [], M) (fun o M' => o = some (some (.long (dM (fun i c => if nI c = col then M0.2 96 (4 * i + n) else M0.2 96 (4 * i + c)) n))) ∧ bFr M0 M') := by
    intro d
    induction d with
    | zero =>
      intro i hi M f1 f2 s1
      have : i = n := by omega
      subst this
      refine v_X8_cramer_2 ⟨fun _ => ?_, fun z => absurd (Int32.le_refl _) z⟩
      refine jEv.mono (m_det (M0 := M) (n := i) (by omega)) (fun o M2 z => ⟨_, z.1, ?_, bFr.trans ⟨fun a q _ => by rw [f1], f2⟩ z.2.b⟩)
      rw [dM_congr (fun a b ha hb => s1 a b ha hb)]
    | succ d ih =>
      intro i hi M f1 f2 s1
      exact v_X8_cramer_2 ⟨fun z => absurd z (nI_ge (by omega) (by omega)), fun _ => lp2 i (by omega) (fun M' g1 g2 g3 => ih (i + 1) (by omega) M' g1 g2 g3) n 0 (by omega) M f1 f2 s1 (fun x hx => absurd hx (by omega))⟩
  exact v_X8_cramer_0 (lp n 0 (by omega) M0 rfl (fun _ _ _ => rfl) (fun i' c hi' => absurd hi' (by omega)))
theorem sL_neg (f : Nat → Int64) : ∀ n, sL (fun u => -(f u)) n = -(sL f n)
  | 0 => by show (0 : Int64) = -0; decide
  | n + 1 => by
    show sL (fun u => -(f u)) n + -(f n) = -(sL f n + f n)
    rw [sL_neg f n, Int64.neg_add, Int64.sub_eq_add_neg]
/-- a cell of the normal equations: the right side behind the last column -/
def nF (q p : Nat) (A x : Nat → Int32) (G : Nat → Nat) (g i c u : Nat) : Int64 := if c < g then aQf q p A (G i) (G c) u else -(aPf q p A x (G i) u)
def nE (q p n : Nat) (A x : Nat → Int32) (G : Nat → Nat) (g i c : Nat) : Int64 := if c < g then aQ q p n A (G i) (G c) else -(aP q p n A x (G i))
theorem nF_n (q p n : Nat) (A x : Nat → Int32) (G : Nat → Nat) (g i c : Nat) : sL (nF q p A x G g i c) n = nE q p n A x G g i c := by
  unfold nE
  by_cases z : c < g
  · rw [if_pos z]
    exact sL_congr (fun u _ => by unfold nF; rw [if_pos z])
  · rw [if_neg z]
    unfold aP
    rw [← sL_neg]
    exact sL_congr (fun u _ => by unfold nF; rw [if_neg z])
theorem nF_lo {q p : Nat} {A x : Nat → Int32} {G : Nat → Nat} {g i c u : Nat} (h : u < p) : nF q p A x G g i c u = 0 := by
  unfold nF
  split
  · unfold aQf; rw [if_neg (by omega)]
  · unfold aPf; rw [if_neg (by omega)]; decide
/-- the model at the normal equations: ints as in Ms, longs as in Ms but for the equations -/
def nS (Ms M : jM) : Prop := M.1 = Ms.1 ∧ ∀ a k, a ≠ 96 → M.2 a k = Ms.2 a k
theorem m_fill96 {K : jK} {Ms : jM} {n j q p m s g : Nat} {x A B : Nat → Int32} {G : Nat → Nat} (hj : j < 6) (h : vW Ms n x) (v : vR Ms j q p m s A B) (g3 : g ≤ 3) (hG : ∀ i, i < g → Ms.1 93 i = nI (G i) ∧ G i < n) {i c : Nat} (hi : i < g) (hc : c ≤ g) {M : jM} (hM : nS Ms M) (nx : jEv nX8_fill (79, [(0, .ref 67), (1, .int (nI j)), (2, .int (nI g)), (3, .int (nI i)), (4, .int (nI (c + 1)))], [], jsl M 96 (4 * i + c) (nE q p n A x G g i c)) K) : ∀ (d u : Nat), p ≤ u → u + d = n → jEv nX8_fill (96, [(0, .ref 67), (1, .int (nI j)), (2, .int (nI g)), (3, .int (nI i)), (4, .int (nI c)), (5, .long (sL (nF q p A x G g i c) u)), (7, .int (nI u))], [], M) K := by
  have hn := h.1
  have wM : vW M n x := h.cg (fun a i _ => by rw [hM.1])
  have vM : vR M j q p m s A B := v.cg (fun a i _ => by rw [hM.1]) hj
  intro d
  induction d with
  | zero =>
    intro u hu hd
    have : u = n := by omega
    subst this
    refine v_X8_fill_96 ⟨fun _ => ?_, fun z => absurd (by rw [wM.2.2.1]; exact Int32.le_refl _) z⟩
    rw [nI4]
    refine ⟨nI_in (by omega) (by omega), fun M1 e1 => ?_⟩
    rw [nI_clamp (by omega), nF_n] at e1
    rw [e1, nI_1]; exact nx
  | succ d ih =>
    intro u hu hd
    refine v_X8_fill_96 ⟨fun z => absurd z (by rw [wM.2.2.1]; exact nI_ge (by omega) (by omega)), fun _ => ⟨nI_in (by omega) (by omega), ?_⟩⟩
    rw [nI_clamp (by omega), hM.1, (hG i hi).1, (m_partD hj vM (t := u) (u := G i) (by omega) (by have := (hG i hi).2; omega)).iff]
    have go := ih (u + 1) (by omega) (by omega)
    rw [show sL (nF q p A x G g i c) (u + 1) = sL (nF q p A x G g i c) u + nF q p A x G g i c u from rfl] at go
    refine ⟨_, rfl, fun z => ?_, fun z => ⟨nI_in (by have : ¬ g ≤ c := fun y => z (nI_le y (by omega)); omega) (by omega), ?_⟩⟩
    · have z' : g ≤ c := (nI_leI (by omega) (by omega)).mp z
      rw [(m_miss hj wM vM hu (by omega)).iff]
      refine ⟨_, rfl, ?_⟩
      unfold nF aPf at go
      rw [if_neg (by omega), if_pos hu, ← Int64.mul_neg] at go
      rw [nI_1]; exact go
    · have z' : ¬ g ≤ c := fun y => z (nI_le y (by omega))
      rw [nI_clamp (by omega), hM.1, (hG c (by omega)).1, (m_partD hj vM (t := u) (u := G c) (by omega) (by have := (hG c (by omega)).2; omega)).iff]
      refine ⟨_, rfl, ?_⟩
      unfold nF aQf at go
      rw [if_pos (by omega), if_pos hu] at go
      rw [nI_1]; exact go
theorem m_fill71 {K : jK} {Ms : jM} {n j q p m s g : Nat} {x A B : Nat → Int32} {G : Nat → Nat} (hj : j < 6) (h : vW Ms n x) (v : vR Ms j q p m s A B) (g3 : g ≤ 3) (hG : ∀ i, i < g → Ms.1 93 i = nI (G i) ∧ G i < n) (nx : ∀ M, nS Ms M → (∀ i c, i < g → c ≤ g → M.2 96 (4 * i + c) = nE q p n A x G g i c) → jEv nX8_cramer (0, [(0, .ref 67), (1, .int (nI g)), (2, .int (-1))], [], M) (fun o1 M2 => ∃ r3 : Int64, o1 = some (some (.long r3)) ∧ ((r3 = 0 → K (some (some (.int 0))) M2) ∧ (¬ r3 = 0 → jEv nX8_fill (204, [(0, .ref 67), (2, .int (nI g)), (3, .long r3), (5, .int 0)], [], M2) K)))) : ∀ (d i : Nat), i + d = g → ∀ M, nS Ms M → (∀ i' c, i' < i → c ≤ g → M.2 96 (4 * i' + c) = nE q p n A x G g i' c) → jEv nX8_fill (71, [(0, .ref 67), (1, .int (nI j)), (2, .int (nI g)), (3, .int (nI i))], [], M) K := by
  obtain ⟨g1, g2, g3'⟩ := slot_in hj
  have hn := h.1
  have hp3 := v.1.2.2.1
  intro d
  induction d with
  | zero =>
    intro i hi M hM s1
    have : i = g := by omega
    subst this
    exact v_X8_fill_71 ⟨fun _ => nx M hM s1, fun z => absurd (Int32.le_refl _) z⟩
  | succ d ih =>
    intro i hi M hM s1
    refine v_X8_fill_71 ⟨fun z => absurd z (nI_ge (by omega) (by omega)), fun _ => ?_⟩
    have lp2 : ∀ (d2 c : Nat), c + d2 = g + 1 → ∀ M, nS Ms M → (∀ i' c, i' < i → c ≤ g → M.2 96 (4 * i' + c) = nE q p n A x G g i' c) → (∀ y, y < c → M.2 96 (4 * i + y) = nE q p n A x G g i y) → jEv nX8_fill (79, [(0, .ref 67), (1, .int (nI j)), (2, .int (nI g)), (3, .int (nI i)), (4, .int (nI c))], [], M) K := by
      intro d2
      induction d2 with
      | zero =>
        intro c hc M hM s1 s2
        have : c = g + 1 := by omega
        subst this
        refine v_X8_fill_79 ⟨fun _ => ?_, fun z => absurd (nI_lt (by omega) (by omega)) z⟩
        rw [nI_1]
        refine ih (i + 1) (by omega) M hM (fun i' y hi' hy => ?_)
        by_cases w : i' = i
        · subst w; exact s2 y (by omega)
        · exact s1 i' y (by omega) hy
      | succ d2 ih2 =>
        intro c hc M hM s1 s2
        have nx2 := ih2 (c + 1) (by omega) (jsl M 96 (4 * i + c) (nE q p n A x G g i c)) ⟨hM.1, fun a k ha => by rw [jsl_at, if_neg (fun w => ha w.1)]; exact hM.2 a k ha⟩ (fun i' y hi' hy => by rw [jsl_at, if_neg (by omega)]; exact s1 i' y hi' hy) (fun y hy => by
          rw [jsl_at]
          by_cases w : y = c
          · rw [if_pos ⟨rfl, by rw [w]⟩, w]
          · rw [if_neg (by omega)]; exact s2 y (by omega))
        refine v_X8_fill_79 ⟨fun z => absurd z (nI_nlt (by omega) (by omega)), fun _ => ⟨g2, ?_⟩⟩
        rw [g3', hM.1, v.2.2.1.2.2.1]
        by_cases hp : p ≤ n
        · have := m_fill96 hj h v g3 hG (by omega) (show c ≤ g by omega) hM nx2 (n - p) p (Nat.le_refl p) (by omega)
          rw [sL_zero (fun u hu => nF_lo hu)] at this
          exact this
        · refine v_X8_fill_96 ⟨fun _ => ?_, fun z => absurd (by rw [hM.1, h.2.2.1]; exact nI_le (by omega) (by omega)) z⟩
          rw [nI4]
          refine ⟨nI_in (by omega) (by omega), fun M1 e1 => ?_⟩
          have e0 : nE q p n A x G g i c = 0 := by
            rw [← nF_n, sL_zero (fun u hu => nF_lo (by omega))]
          rw [e0] at nx2
          rw [nI_clamp (by omega)] at e1
          rw [e1, nI_1]; exact nx2
    exact lp2 (g + 1) 0 (by omega) M hM s1 (fun y hy => absurd hy (by omega))
theorem m_fill19 {K : jK} {M0 : jM} {n j : Nat} {x : Nat → Int32} (h : vW M0 n x) (k0 : (cN (gx x) n < 1 ∨ 3 < cN (gx x) n) → ∀ M, iKp M0 M → K (some (some (.int 0))) M) (nx : 1 ≤ cN (gx x) n → cN (gx x) n ≤ 3 → ∀ M, M.2 = M0.2 → (∀ a k, a ≠ 93 → M.1 a k = M0.1 a k) → (∀ i, i < cN (gx x) n → M.1 93 i = nI (gP (gx x) n i)) → jEv nX8_fill (71, [(0, .ref 67), (1, .int (nI j)), (2, .int (nI (cN (gx x) n))), (3, .int 0)], [], M) K) : ∀ (d t : Nat), t + d = n → ∀ M, M.2 = M0.2 → (∀ a k, a ≠ 93 → M.1 a k = M0.1 a k) → (∀ i, i < cN (gx x) t → M.1 93 i = nI (gP (gx x) t i)) → jEv nX8_fill (19, [(0, .ref 67), (1, .int (nI j)), (2, .int (nI (cN (gx x) t))), (3, .int (nI t))], [], M) K := by
  have hn := h.1
  intro d
  induction d with
  | zero =>
    intro t ht M f1 f2 f3
    have : t = n := by omega
    subst this
    have hl := cN_le (gx x) t
    have kp : iKp M0 M := ⟨fun a k _ _ _ _ z _ => f2 a k z, fun a k _ => by rw [f1]⟩
    refine v_X8_fill_19 ⟨fun _ => ⟨fun z => k0 (Or.inl ((nI_ltI (b := 1) (by omega) (by omega)).mp z)) M kp, fun z => ⟨fun y => nx (Nat.not_lt.mp (fun w => z ((nI_ltI (b := 1) (by omega) (by omega)).mpr w))) ((nI_leI (b := 3) (by omega) (by omega)).mp y) M f1 f2 f3, fun y => k0 (Or.inr (Nat.not_le.mp (fun w => y ((nI_leI (b := 3) (by omega) (by omega)).mpr w)))) M kp⟩⟩, fun z => absurd ?_ z⟩
    rw [f2 67 27 (by decide), h.2.2.1]; exact Int32.le_refl _
  | succ d ih =>
    intro t ht M f1 f2 f3
    have hl := cN_le (gx x) t
    refine v_X8_fill_19 ⟨fun z => absurd z ?_, fun _ => ⟨nI_in (by omega) (by omega), fun y => ⟨nI_in (by omega) (by omega), fun M1 e1 => ?_⟩, fun y => ?_⟩⟩
    · rw [f2 67 27 (by decide), h.2.2.1]; exact nI_ge (by omega) (by omega)
    · rw [nI_clamp (by omega), f2 90 t (by decide), (h.2.2.2 t (by omega)).2.1] at y
      have yb : gx x t = true := decide_eq_true y
      rw [nI_clamp (by omega)] at e1
      rw [nI_1, nI_1, ← cN_t yb]
      refine ih (t + 1) (by omega) M1 (by rw [e1]; exact f1) (fun a k ha => by rw [e1, jsi_at, if_neg (fun w => ha w.1)]; exact f2 a k ha) (fun i hi => ?_)
      rw [e1, jsi_at]
      by_cases w : i = cN (gx x) t
      · rw [if_pos ⟨rfl, w⟩, w, gP_here yb]
      · rw [if_neg (fun u => w u.2)]
        rw [cN_t yb] at hi
        rw [f3 i (by omega), gP_le (d := 1) (by omega)]
    · rw [nI_clamp (by omega), f2 90 t (by decide), (h.2.2.2 t (by omega)).2.1] at y
      have yb : gx x t = false := decide_eq_false y
      have := ih (t + 1) (by omega) M f1 f2 (fun i hi => by rw [cN_f yb] at hi; rw [gP_f yb]; exact f3 i hi)
      rw [cN_f yb] at this
      rw [nI_1]; exact this
theorem dM_b3 {sq : Nat → Nat → Int64} {n : Nat} (hn : n ≤ 3) (h : ∀ i j, i < n → j < n → aL (sq i j) 307200) : (dM sq n).toInt ≠ -9223372036854775808 := by
  have hN : n ^ n ≤ 27 := by
    have key : ∀ m : Nat, m < 4 → m ^ m ≤ 27 := by decide
    exact key n (by omega)
  have hC : ∀ k, k ≤ n → 307200 ^ k ≤ 307200 ^ 3 := fun k hk => Nat.pow_le_pow_right (by decide) (by omega)
  have := sL_aL (f := dtm sq n) (C := 307200 ^ 3) (N := 27) (by decide) (n := n ^ n) hN (fun w hw => ?_)
  · exact (this.mono (Nat.mul_le_mul_right _ hN)).ne (by decide)
  · refine (dpr_b (N := n) (C := 307200) ?_ (fun k hk => ?_) (fun i hi => h i _ hi (dcol_lt (by omega))) n (Nat.le_refl n)).mono (hC n (Nat.le_refl n))
    · have := dgo_b (dcol n w) n
      unfold aL
      rw [Int64.toInt_ofInt, fb_bmodL (by omega) (by omega)]
      exact this
    · have := hC k hk
      omega
