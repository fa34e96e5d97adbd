/-! fill, both sides -/
theorem iInv.fill {M M' : jM} (h : iInv M) (e : ∀ a k, ¬ (a = 0 ∧ k = 13) → ¬ (a = 67 ∧ (k = 0 ∨ k = 30 ∨ k = 31)) → a ≠ 43 → a ≠ 93 → a ≠ 89 → M'.1 a k = M.1 a k) (e2 : ∀ a k, ((a = 66 ∧ k < 2) ∨ (a = 67 ∧ (k = 37 ∨ k = 38))) → M'.2 a k = M.2 a k) (d : iFill M') : iInv M' :=
  ⟨h.1.cg fun a k z => e a k (by omega) (by omega) (by omega) (by omega) (by omega), fun j hj => (h.2.1 j hj).cg fun a k z => e a k (by omega) (by omega) (by omega) (by omega) (by omega), fun j hj => (h.2.2.1 j hj).cg fun a k z => e a k (by omega) (by omega) (by omega) (by omega) (by omega), h.2.2.2.1.cg fun a k z => e a k (by omega) (by omega) (by omega) (by omega) (by omega), d, h.2.2.2.2.2.cg (fun a k z => e a k (by omega) (by omega) (by omega) (by omega) (by omega)) (fun a k z => e2 a k (by omega))⟩
theorem jFr_63 {i : Nat} (hi : i < 3) : jFr (63 + i) := by
  have := jFr_i (i := nI i) (nI_in (by omega) (by omega))
  rw [nI_clamp (by omega)] at this
  exact this
/-- the class's fillings told -/
theorem c_fill60 {M0 : jM} {K : jK} {g : Nat} {D : Int64} {T : Nat → Int64} (g3 : g ≤ 3) (hb : M0.2 44 4 = D) (ht : ∀ i, i < g → M0.2 51 i = T i) (hD : D.toInt ≠ -9223372036854775808) (hD0 : ¬ D = 0) (hT : ∀ i, i < g → (T i).toInt ≠ -9223372036854775808)
    (k : ∀ M, M.1 = M0.1 → (∀ a q, (a < 63 ∨ 65 < a) → M.2 a q = M0.2 a q) → (∀ i, i < g → M.2 (63 + i) 0 = cU (rQ (T i) D) ∧ M.2 (63 + i) 1 = cL (rQ (T i) D)) → K (some (some (.int (nI g)))) (jsi M 0 13 (nI g))) : ∀ (d i : Nat), i + d = g → ∀ M, M.1 = M0.1 → (∀ a q, (a < 63 ∨ 65 < a) → M.2 a q = M0.2 a q) → (∀ i', i' < i → M.2 (63 + i') 0 = cU (rQ (T i') D) ∧ M.2 (63 + i') 1 = cL (rQ (T i') D)) → jEv nX7_fill (60, [(0, .ref 0), (3, .int (nI g)), (4, .int (nI i))], [], M) K := by
  intro d
  induction d with
  | zero =>
    intro i hi M f1 f2 f3
    have : i = g := by omega
    subst this
    refine v_X7_fill_60 ⟨fun _ M1 e1 => ?_, fun z => absurd (Int32.le_refl _) z⟩
    rw [e1]; exact k M f1 f2 f3
  | succ d ih =>
    intro i hi M f1 f2 f3
    refine v_X7_fill_60 ⟨fun z => absurd z (nI_ge (by omega) (by omega)), fun _ => ⟨nI_in (by omega) (by omega), nI_in (by omega) (by omega), ?_⟩⟩
    rw [nI_clamp (by omega), f2 51 i (by decide), f2 44 4 (by decide), hb, ht i (by omega), (c_set M (jFr_63 (show i < 3 by omega)) (hT i (by omega)) hD hD0).iff]
    refine ⟨rfl, ?_⟩
    rw [nI_1]
    refine ih (i + 1) (by omega) _ f1 (fun a q ha => ?_) (fun i' hi' => ?_)
    · rw [jsl_at, if_neg (by omega), jsl_at, if_neg (by omega)]; exact f2 a q ha
    · rw [jsl_at, jsl_at, jsl_at, jsl_at]
      by_cases w : i' = i
      · subst w
        rw [if_neg (by omega), if_pos ⟨rfl, rfl⟩, if_pos ⟨rfl, rfl⟩]; exact ⟨rfl, rfl⟩
      · rw [if_neg (by omega), if_neg (by omega), if_neg (by omega), if_neg (by omega)]
        exact f3 i' (by omega)
theorem m_fill204 {M0 : jM} {K : jK} {g : Nat} {D : Int64} {T : Nat → Int64} (g3 : g ≤ 3) (hT : ∀ i, i < g → dM (fun a c => if nI c = nI i then M0.2 96 (4 * a + g) else M0.2 96 (4 * a + c)) g = T i) (hD : D.toInt ≠ -9223372036854775808) (hD0 : ¬ D = 0) (hTb : ∀ i, i < g → (T i).toInt ≠ -9223372036854775808)
    (k : ∀ M, (∀ a q, a ≠ 89 → M.1 a q = M0.1 a q) → (∀ a q, a ≠ 88 → a ≠ 94 → a ≠ 95 → ¬ (a = 67 ∧ (q = 3 ∨ q = 4)) → M.2 a q = M0.2 a q) → (∀ i, i < g → M.2 94 i = cU (rQ (T i) D) ∧ M.2 95 i = cL (rQ (T i) D)) → K (some (some (.int (nI g)))) (jsi (jsi M 67 30 1) 67 31 (nI g))) : ∀ (d i : Nat), i + d = g → ∀ M, (∀ a q, a ≠ 89 → M.1 a q = M0.1 a q) → (∀ a q, a ≠ 88 → a ≠ 94 → a ≠ 95 → ¬ (a = 67 ∧ (q = 3 ∨ q = 4)) → M.2 a q = M0.2 a q) → (∀ i', i' < i → M.2 94 i' = cU (rQ (T i') D) ∧ M.2 95 i' = cL (rQ (T i') D)) → jEv nX8_fill (204, [(0, .ref 67), (2, .int (nI g)), (3, .long D), (5, .int (nI i))], [], M) K := by
  intro d
  induction d with
  | zero =>
    intro i hi M f1 f2 f3
    have : i = g := by omega
    subst this
    refine v_X8_fill_204 ⟨fun _ M1 e1 M2 e2 => ?_, fun z => absurd (Int32.le_refl _) z⟩
    rw [e2, e1]; exact k M f1 f2 f3
  | succ d ih =>
    intro i hi M f1 f2 f3
    have in3 := nI_in (c := i) (N := 3) (by omega) (by omega)
    refine v_X8_fill_204 ⟨fun z => absurd z (nI_ge (by omega) (by omega)), fun _ => jEv.mono (m_cramer (M0 := M) g3 (nI i)) (fun o M4 z => ⟨_, z.1, ?_⟩)⟩
    have e : dM (fun a c => if nI c = nI i then M.2 96 (4 * a + g) else M.2 96 (4 * a + c)) g = T i := by
      rw [← hT i (by omega)]
      exact dM_congr (fun a c _ _ => by rw [f2 96 _ (by decide) (by decide) (by decide) (by omega), f2 96 _ (by decide) (by decide) (by decide) (by omega)])
    rw [e, (m_setF M4 (hTb i (by omega)) hD hD0).iff]
    refine ⟨rfl, in3, fun M8 e8 => ⟨in3, fun M9 e9 => ?_⟩⟩
    have b := z.2
    rw [nI_clamp (by omega), jF_u] at e8
    have e67 : M8.2 67 4 = cL (rQ (T i) D) := by rw [e8, jsl_at, if_neg (by omega), jF_l]
    rw [nI_clamp (by omega), e67] at e9
    rw [nI_1]
    refine ih (i + 1) (by omega) M9 (fun a q ha => ?_) (fun a q h1 h2 h3 h4 => ?_) (fun i' hi' => ?_)
    · rw [e9, jsl_at1, e8, jsl_at1, jF_1, b.1 a q ha]; exact f1 a q ha
    · rw [e9, jsl_at, if_neg (fun w => h3 w.1), e8, jsl_at, if_neg (fun w => h2 w.1)]
      unfold jF
      rw [jsl_at, if_neg (by omega), jsl_at, if_neg (by omega), b.2 a q h1]
      exact f2 a q h1 h2 h3 h4
    · rw [e9, jsl_at, jsl_at, e8, jsl_at, jsl_at, jF_o _ _ (by decide), jF_o _ _ (by decide)]
      by_cases w : i' = i
      · subst w
        rw [if_neg (by omega), if_pos ⟨rfl, rfl⟩, if_pos ⟨rfl, rfl⟩]; exact ⟨rfl, rfl⟩
      · rw [if_neg (by omega), if_neg (by omega), if_neg (by omega), if_neg (by omega), b.2 94 i' (by decide), b.2 95 i' (by decide)]
        exact f3 i' (by omega)
theorem op_fill {M : jM} (h : iInv M) (y : Int32) : jBoth nX7_fill nX8_fill [(0, .ref 0), (1, .int y)] [(0, .ref 67), (1, .int y)] M := by
  obtain ⟨n, x, w⟩ := h.vW
  have hn := w.1
  rcases plain_cs h y with ⟨c, m⟩ | ⟨j, q, p, s, A, B, hj, rfl, v⟩
  · refine both_i (r := -1) h (v_X7_fill_0 ?_) (fun M1 k => v_X8_fill_0 (fun M2 e2 => ?_))
    · rw [(c M (iI.rfl' M)).iff]
      exact Or.inl ⟨rfl, rfl, iKp.rfl' M⟩
    · have k2 := kp67 e2
      rw [(m M2 (k.trans k2.i)).iff]
      exact ⟨_, rfl, fun _ => ⟨rfl, k2⟩, fun z => absurd rfl z⟩
  have hl := cN_le (gx x) n
  -- the class up to the gaps' count
  have cl : ∀ {K : jK}, (¬ (1 ≤ cN (gx x) n ∧ cN (gx x) n ≤ 3) → K (some (some (.int 0))) M) → ((1 ≤ cN (gx x) n ∧ cN (gx x) n ≤ 3) → jEv nX4_askForGaps (0, [(0, .ref 41), (1, .ref (4 + 4 * j)), (2, .int (nI (cN (gx x) n))), (3, .ref 44)], [], M) (fun o10 M11 => o10 = some none ∧ (jEv nX0_solve (0, [(0, .ref 44), (1, .int (nI (cN (gx x) n)))], [], M11) (fun o12 M13 => ∃ r14 : Int32, o12 = some (some (.int r14)) ∧ ((r14 = 0 → K (some (some (.int 0))) M13) ∧ (¬ r14 = 0 → jEv nX7_fill (60, [(0, .ref 0), (3, .int (nI (cN (gx x) n))), (4, .int 0)], [], M13) K)))))) → jEv nX7_fill (0, [(0, .ref 0), (1, .int (nI j))], [], M) K := by
    intro K k0 k1
    refine v_X7_fill_0 ?_
    rw [(c_plain hj v).iff]
    refine Or.inr ⟨_, jRu_n hj, rfl, ?_⟩
    rw [(s_gapCount M hn w.2.1).iff, (gaps_cg w).1, show cN (fun t => decide (x t = 100)) n = cN (gx x) n from rfl]
    refine ⟨_, rfl, ?_⟩
    rw [e_isWithin]
    by_cases hg : 1 ≤ cN (gx x) n ∧ cN (gx x) n ≤ 3
    · rw [if_pos ⟨(nI_leI (a := 1) (by omega) (by omega)).mpr hg.1, (nI_leI (b := 3) (by omega) (by omega)).mpr hg.2⟩]
      exact ⟨_, rfl, fun z => absurd z (by decide), fun _ => k1 hg⟩
    · rw [if_neg (fun z => hg ⟨(nI_leI (a := 1) (by omega) (by omega)).mp z.1, (nI_leI (b := 3) (by omega) (by omega)).mp z.2⟩)]
      exact ⟨_, rfl, fun _ => k0 hg, fun z => absurd rfl z⟩
  by_cases hg : 1 ≤ cN (gx x) n ∧ cN (gx x) n ≤ 3
  case neg =>
    refine both_i (r := 0) h (cl (fun _ => ⟨rfl, iKp.rfl' M⟩) (fun z => absurd z hg)) (fun M1 k => v_X8_fill_0 (fun M2 e2 => ?_))
    have k2 := kp67 e2
    have v2 := v.kp hj (k.trans k2.i)
    have w2 := w.kp (k.trans k2.i)
    rw [(m_plain hj v2).iff]
    refine ⟨_, rfl, fun z => absurd z (by decide), fun _ => ?_⟩
    exact m_fill19 (j := j) w2 (fun _ M3 k3 => ⟨rfl, k2.trans k3⟩) (fun z1 z2 => absurd ⟨z1, z2⟩ hg) n 0 (by omega) M2 rfl (fun _ _ _ => rfl) (fun i hi => absurd hi (by show ¬ i < 0; omega))
  obtain ⟨g, hgg⟩ : ∃ g, cN (gx x) n = g := ⟨_, rfl⟩
  rw [hgg] at cl hg
  -- the determinants
  have fb : ∀ col : Int32, (dM (fC (fun i => aP q p n A x (gP (gx x) n i)) (fun i c => aQ q p n A (gP (gx x) n i) (gP (gx x) n c)) col) g).toInt ≠ -9223372036854775808 := by
    intro col
    refine dM_b3 hg.2 (fun i c _ _ => ?_)
    unfold fC
    split
    · exact (aL_neg (aP_b v.1.2.1 v.1.2.2.1 v.rA w _) (by decide)).2
    · exact (aQ_b v.1.2.1 v.rA w _ _).mono (by decide)
  have nE_C : ∀ (col : Int32) (Mx : jM), (∀ i c, i < g → c ≤ g → Mx.2 96 (4 * i + c) = nE q p n A x (gP (gx x) n) g i c) → dM (fun i c => if nI c = col then Mx.2 96 (4 * i + g) else Mx.2 96 (4 * i + c)) g = dM (fC (fun i => aP q p n A x (gP (gx x) n i)) (fun i c => aQ q p n A (gP (gx x) n i) (gP (gx x) n c)) col) g := by
    intro col Mx hN
    refine dM_congr (fun i c hi hc => ?_)
    show (if nI c = col then Mx.2 96 (4 * i + g) else Mx.2 96 (4 * i + c)) = fC (fun i => aP q p n A x (gP (gx x) n i)) (fun i c => aQ q p n A (gP (gx x) n i) (gP (gx x) n c)) col i c
    unfold fC
    by_cases z : nI c = col
    · rw [if_pos z, if_pos z, hN i g hi (Nat.le_refl g)]; unfold nE; rw [if_neg (by omega)]
    · rw [if_neg z, if_neg z, hN i c hi (by omega)]; unfold nE; rw [if_pos hc]
  -- the model up to its determinant, from a state that looks as M
  have md : ∀ {M2 : jM} {K : jK}, vW M2 n x → vR M2 j q p 0 s A B → (∀ Ms, iKp M2 Ms → (∀ a k, a ≠ 93 → Ms.1 a k = M2.1 a k) → (∀ a k, a ≠ 96 → Ms.2 a k = M2.2 a k) → (∀ i c, i < g → c ≤ g → Ms.2 96 (4 * i + c) = nE q p n A x (gP (gx x) n) g i c) → jEv nX8_cramer (0, [(0, .ref 67), (1, .int (nI g)), (2, .int (-1))], [], Ms) (fun o1 M2 => ∃ r3 : Int64, o1 = some (some (.long r3)) ∧ ((r3 = 0 → K (some (some (.int 0))) M2) ∧ (¬ r3 = 0 → jEv nX8_fill (204, [(0, .ref 67), (2, .int (nI g)), (3, .long r3), (5, .int 0)], [], M2) K)))) → jEv nX8_fill (19, [(0, .ref 67), (1, .int (nI j)), (2, .int 0), (3, .int 0)], [], M2) K := by
    intro M2 K w2 v2 nx
    refine m_fill19 (j := j) w2 (fun z => by rw [hgg] at z; omega) (fun _ _ M3 f1 f2 f3 => ?_) n 0 (by omega) M2 rfl (fun _ _ _ => rfl) (fun i hi => absurd hi (by show ¬ i < 0; omega))
    rw [hgg] at f3 ⊢
    have w3 : vW M3 n x := w2.cg (fun a i z => f2 a i (by omega))
    have v3 : vR M3 j q p 0 s A B := v2.cg (fun a i z => f2 a i (by omega)) hj
    refine m_fill71 hj w3 v3 hg.2 (fun i hi => ⟨f3 i hi, gP_lt (by omega)⟩) (fun Ms hS hN => nx Ms ?_ ?_ ?_ hN) g 0 (by omega) M3 ⟨rfl, fun _ _ _ => rfl⟩ (fun i' c hi' => absurd hi' (by omega))
    · exact ⟨fun a k _ _ _ _ z _ => by rw [hS.1]; exact f2 a k z, fun a k z => by rw [hS.2 a k (by omega), f1]⟩
    · intro a k z; rw [hS.1]; exact f2 a k z
    · intro a k z; rw [hS.2 a k z, f1]
  by_cases hD : dM (fC (fun i => aP q p n A x (gP (gx x) n i)) (fun i c => aQ q p n A (gP (gx x) n i) (gP (gx x) n c)) (-1)) g = 0
  · refine both_i (r := 0) h (cl (fun z => absurd hg z) (fun _ => jEv.mono (c_ask hj w v hgg hg.2) (fun o M1 z => ⟨z.1, ?_⟩))) (fun M1 k => v_X8_fill_0 (fun M2 e2 => ?_))
    · obtain ⟨-, z1, z2⟩ := z
      refine jEv.mono (c_solve (M0 := M1) (n := g) (by omega)) (fun o M3 u => ?_)
      obtain ⟨u1, u2⟩ := u
      rw [stq_cl hg.2 z2] at u2
      rcases u2 with ⟨-, t2, -⟩ | ⟨t1, -⟩
      · exact ⟨_, t2, fun _ => ⟨rfl, z1.kp.trans u1.kp⟩, fun z => absurd rfl z⟩
      · exact absurd hD t1
    · have k2 := kp67 e2
      have v2 := v.kp hj (k.trans k2.i)
      have w2 := w.kp (k.trans k2.i)
      rw [(m_plain hj v2).iff]
      refine ⟨_, rfl, fun z => absurd z (by decide), fun _ => md w2 v2 (fun Ms ks fs1 fs2 hN => jEv.mono (m_cramer (M0 := Ms) hg.2 (-1)) (fun o M4 u => ⟨_, u.1, fun _ => ⟨rfl, (k2.trans ks).trans u.2.kp⟩, fun z => absurd ?_ z⟩))⟩
      rw [nE_C (-1) Ms hN]; exact hD
  · have cls : jEv nX7_fill (0, [(0, .ref 0), (1, .int (nI j))], [], M) (fun o M1 => o = some (some (.int (nI g))) ∧ (∀ a k, a ≠ 43 → ¬ (a = 0 ∧ k = 13) → M1.1 a k = M.1 a k) ∧ M1.1 0 13 = nI g ∧ (∀ a k, ((a < 44 ∨ 52 < a) ∧ (a < 63 ∨ 65 < a)) → M1.2 a k = M.2 a k) ∧ ∀ i, i < g → M1.2 (63 + i) 0 = cU (rQ (dM (fC (fun i => aP q p n A x (gP (gx x) n i)) (fun i c => aQ q p n A (gP (gx x) n i) (gP (gx x) n c)) (nI i)) g) (dM (fC (fun i => aP q p n A x (gP (gx x) n i)) (fun i c => aQ q p n A (gP (gx x) n i) (gP (gx x) n c)) (-1)) g)) ∧ M1.2 (63 + i) 1 = cL (rQ (dM (fC (fun i => aP q p n A x (gP (gx x) n i)) (fun i c => aQ q p n A (gP (gx x) n i) (gP (gx x) n c)) (nI i)) g) (dM (fC (fun i => aP q p n A x (gP (gx x) n i)) (fun i c => aQ q p n A (gP (gx x) n i) (gP (gx x) n c)) (-1)) g))) := by
      refine cl (fun z => absurd hg z) (fun _ => jEv.mono (c_ask hj w v hgg hg.2) (fun o M1 z => ⟨z.1, ?_⟩))
      obtain ⟨-, z1, z2⟩ := z
      refine jEv.mono (c_solve (M0 := M1) (n := g) (by omega)) (fun o M3 u => ?_)
      obtain ⟨u1, u2⟩ := u
      rw [stq_cl hg.2 z2] at u2
      rcases u2 with ⟨t1, -⟩ | ⟨-, t2, t3, t4⟩
      · exact absurd t1 hD
      · refine ⟨_, t2, fun z => absurd z (by decide), fun _ => ?_⟩
        refine c_fill60 hg.2 t3 (fun i hi => (t4 i hi).trans (stq_cl hg.2 z2 (nI i))) (fb (-1)) hD (fun i _ => fb (nI i)) (fun M5 f1 f2 f3 => ⟨rfl, fun a k a1 a2 => ?_, ?_, fun a k a1 => ?_, fun i hi => f3 i hi⟩) g 0 (by omega) M3 rfl (fun _ _ _ => rfl) (fun i' hi' => absurd hi' (by omega))
        · rw [jsi_at, if_neg a2, f1, u1.1]; exact z1.1 a k a1
        · rw [jsi_at, if_pos ⟨rfl, rfl⟩]
        · rw [jsi_at2, f2 a k a1.2, u1.2 a k (by omega) (by omega) (by omega)]; exact z1.2 a k a1.1
    refine jEv.mono cls (fun o M1 z => ⟨_, z.1, v_X8_fill_0 (fun M2 e2 => ?_)⟩)
    obtain ⟨-, c1, c2, c3, c4⟩ := z
    have f2 : ∀ a k, a ≠ 43 → ¬ (a = 0 ∧ k = 13) → ¬ (a = 67 ∧ k = 0) → M2.1 a k = M.1 a k := by
      intro a k a1 a2 a3
      rw [e2, jsi_at, if_neg a3]; exact c1 a k a1 a2
    have l2 : M2.2 = M1.2 := by rw [e2]; rfl
    have v2 := v.cg (M' := M2) (fun a i z => f2 a i (by omega) (by omega) (by omega)) hj
    have w2 := w.cg (M' := M2) (fun a i z => f2 a i (by omega) (by omega) (by omega))
    rw [(m_plain hj v2).iff]
    refine ⟨_, rfl, fun z => absurd z (by decide), fun _ => md w2 v2 (fun Ms ks fs1 fs2 hN => jEv.mono (m_cramer (M0 := Ms) hg.2 (-1)) (fun o M4 u => ⟨_, u.1, fun z => ?_, fun _ => ?_⟩))⟩
    · rw [nE_C (-1) Ms hN] at z; exact absurd z hD
    · rw [nE_C (-1) Ms hN]
      have b4 := u.2
      have hN4 : ∀ i c, i < g → c ≤ g → M4.2 96 (4 * i + c) = nE q p n A x (gP (gx x) n) g i c := fun i c hi hc => by rw [b4.2 96 _ (by decide)]; exact hN i c hi hc
      refine m_fill204 hg.2 (fun i hi => nE_C (nI i) M4 hN4) (fb (-1)) hD (fun i _ => fb (nI i)) (fun M5 d1 d2 d3 => ⟨rfl, ?_⟩) g 0 (by omega) M4 (fun _ _ _ => rfl) (fun _ _ _ _ _ _ => rfl) (fun i' hi' => absurd hi' (by omega))
      refine h.fill (fun a k a1 a2 a3 a4 a5 => ?_) (fun a k a1 => ?_) (Or.inr ⟨?_, g, hg.1, hg.2, ?_, ?_, fun i hi => ?_⟩)
      · rw [jsi_at, if_neg (by omega), jsi_at, if_neg (by omega), d1 a k a5, b4.1 a k a5, fs1 a k a4]
        exact f2 a k a3 a1 (by omega)
      · rw [jsi_at2, jsi_at2, d2 a k (by omega) (by omega) (by omega) (by omega), b4.2 a k (by omega), fs2 a k (by omega), l2]
        exact c3 a k (by omega)
      · rw [jsi_at, if_neg (by decide), jsi_at, if_pos ⟨rfl, rfl⟩]
      · rw [jsi_at, if_neg (by decide), jsi_at, if_neg (by decide), d1 0 13 (by decide), b4.1 0 13 (by decide), fs1 0 13 (by decide), e2, jsi_at, if_neg (by decide)]; exact c2
      · rw [jsi_at, if_pos ⟨rfl, rfl⟩]
      · rw [jsi_at2, jsi_at2, jsi_at2, jsi_at2, jsi_at2, jsi_at2, jsi_at2, jsi_at2, (d3 i hi).1, (d3 i hi).2, d2 (63 + i) 0 (by omega) (by omega) (by omega) (by omega), d2 (63 + i) 1 (by omega) (by omega) (by omega) (by omega), b4.2 (63 + i) 0 (by omega), b4.2 (63 + i) 1 (by omega), fs2 (63 + i) 0 (by omega), fs2 (63 + i) 1 (by omega), l2]
        exact c4 i hi
