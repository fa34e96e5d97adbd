/-! likes: the class's equations, their solution, the likes beyond -/
theorem yP_1 (q : Int) (A : Nat → Int) {k c : Nat} : yP q A k c 1 = if c = k then q else 0 := by
  show 0 + (if nd k 0 = c then ya q A 0 else 0) = _
  rw [Int.zero_add]
  have : nd k 0 = k := by unfold nd; omega
  rw [this]
  by_cases z : c = k
  · rw [if_pos z, if_pos z.symm]; rfl
  · rw [if_neg z, if_neg (fun y => z y.symm)]
theorem yP_s (q : Int) (A : Nat → Int) (k c i : Nat) : yP q A k c (i + 1) = yP q A k c i + if nd k i = c then ya q A i else 0 := rfl
/-- the class's frame at the likes -/
def kFr (a : Nat) (M0 M : jM) : Prop := M.1 = M0.1 ∧ ∀ b k, ¬ (44 ≤ b ∧ b ≤ 52) → b ≠ 57 → b ≠ a → b ≠ a + 1 → M.2 b k = M0.2 b k
theorem kFr.sl {a : Nat} {M0 M : jM} (h : kFr a M0 M) {b k : Nat} {v : Int64} (hb : (44 ≤ b ∧ b ≤ 52) ∨ b = a ∨ b = a + 1) : kFr a M0 (jsl M b k v) := ⟨h.1, fun x y z1 z2 z3 z4 => by rw [jsl_at, if_neg (by omega)]; exact h.2 x y z1 z2 z3 z4⟩
theorem jSu_c {a : Nat} (h : jSu a) : a = 53 ∨ a = 55 := h
theorem c_find13 {K : jK} {M0 : jM} {a j q p m s : Nat} {A B : Nat → Int32} (ha : jSu a) (hj : j < 6) (v : vR M0 j q p m s A B) (nx : ∀ M, kFr a M0 M → (∀ i, i < 9 → M.2 57 i = Int64.ofInt (wI q (wl 0 A B) (we 0 A B) i)) → (∀ i, i < p + 1 → M.2 50 i = Int64.ofInt (lm q s A B i) ∧ ∀ c, c < 4 → M.2 (46 + i) c = Int64.ofInt (yP q (AZ A) i c 1)) → jEv nX2_find (60, [(0, .ref a), (1, .ref (4 + 4 * j)), (2, .ref 44), (3, .ref 57), (4, .int 0)], [], M) K) : ∀ (d k : Nat), k + d = p + 1 → ∀ M, kFr a M0 M → (∀ i, i < 9 → M.2 57 i = Int64.ofInt (wI q (wl 0 A B) (we 0 A B) i)) → (∀ i, i < k → M.2 50 i = Int64.ofInt (lm q s A B i) ∧ ∀ c, c < 4 → M.2 (46 + i) c = Int64.ofInt (yP q (AZ A) i c 1)) → (∀ i, k ≤ i → i < 4 → ∀ c, c < 4 → M.2 (46 + i) c = 0) → jEv nX2_find (13, [(0, .ref a), (1, .ref (4 + 4 * j)), (2, .ref 44), (3, .ref 57), (4, .int (nI k))], [], M) K := by
  have hp3 := v.1.2.2.1
  have hq4 := v.1.2.1
  have ac := jSu_c ha
  intro d
  induction d with
  | zero =>
    intro k hk M f hw s1 s2
    have : k = p + 1 := by omega
    subst this
    exact v_X2_find_13 ha (jRu_n hj) ⟨fun _ => nx M f hw s1, fun z => absurd (by rw [f.1, v.2.1.2.2.1]; exact nI_lt (by omega) (by omega)) z⟩
  | succ d ih =>
    intro k hk M f hw s1 s2
    have in4 := nI_in (c := k) (N := 4) (by omega) (by omega)
    refine v_X2_find_13 ha (jRu_n hj) ⟨fun z => absurd z (by rw [f.1, v.2.1.2.2.1]; exact nI_nlt (by omega) (by omega)), fun _ => ⟨in4, in4, fun M2 e2 => ?_⟩⟩
    rw [nI_clamp (by omega), f.1, v.2.1.2.1, w64, nI_toInt (by omega)] at e2
    have f2 : kFr a M0 M2 := by rw [e2]; exact f.sl (by omega)
    have v2 : vR M2 j q p m s A B := v.cg (fun b i _ => by rw [f2.1]) hj
    have w2 : ∀ i, i < 9 → M2.2 57 i = Int64.ofInt (wI q (wl 0 A B) (we 0 A B) i) := fun i hi => by rw [e2, jsl_at, if_neg (by omega)]; exact hw i hi
    rw [(c_missPart hj v2 w2 (k := k) (by omega)).iff]
    refine ⟨_, rfl, in4, fun M6 e6 => ?_⟩
    rw [nI_clamp (by omega)] at e6
    rw [nI_1]
    refine ih (k + 1) (by omega) M6 (by rw [e6]; exact f2.sl (by omega)) (fun i hi => by rw [e6, jsl_at, if_neg (by omega)]; exact w2 i hi) (fun i hi => ?_) (fun i h1 h2 c hc => ?_)
    · by_cases z : i = k
      · subst z
        refine ⟨by rw [e6, jsl_at, if_pos ⟨rfl, rfl⟩], fun c hc => ?_⟩
        rw [e6, jsl_at, if_neg (by omega), e2, jsl_at, yP_1]
        by_cases y : c = i
        · rw [if_pos ⟨rfl, y⟩, if_pos y]
        · rw [if_neg (fun w => y w.2), if_neg y, s2 i (Nat.le_refl i) (by omega) c hc]; rfl
      · obtain ⟨t1, t2⟩ := s1 i (by omega)
        refine ⟨by rw [e6, jsl_at, if_neg (by omega), e2, jsl_at, if_neg (by omega)]; exact t1, fun c hc => ?_⟩
        rw [e6, jsl_at, if_neg (by omega), e2, jsl_at, if_neg (by omega)]; exact t2 c hc
    · rw [e6, jsl_at, if_neg (by omega), e2, jsl_at, if_neg (by omega)]; exact s2 i (by omega) h2 c hc
theorem c_find60 {K : jK} {M0 : jM} {a j q p m s : Nat} {A B : Nat → Int32} (ha : jSu a) (hj : j < 6) (v : vR M0 j q p m s A B) {x4 : Nat} : ∀ (d i : Nat), 1 ≤ i → i + d = p + 1 → ∀ M, kFr a M0 M → x4 < p + 1 → (nx : ∀ M', kFr a M0 M' → (∀ b k, ¬ (b = 46 + x4) → M'.2 b k = M.2 b k) → (∀ c, c < 4 → M'.2 (46 + x4) c = Int64.ofInt (yI q p (AZ A) x4 c)) → jEv nX2_find (60, [(0, .ref a), (1, .ref (4 + 4 * j)), (2, .ref 44), (3, .ref 57), (4, .int (nI (x4 + 1)))], [], M') K) → (∀ c, c < 4 → M.2 (46 + x4) c = Int64.ofInt (yP q (AZ A) x4 c i)) → jEv nX2_find (72, [(0, .ref a), (1, .ref (4 + 4 * j)), (2, .ref 44), (3, .ref 57), (4, .int (nI x4)), (5, .int (nI i))], [], M) K := by
  have hp3 := v.1.2.2.1
  intro d
  induction d with
  | zero =>
    intro i i1 hi M f hx nx s1
    have : i = p + 1 := by omega
    subst this
    refine v_X2_find_72 ha (jRu_n hj) ⟨fun _ => ?_, fun z => absurd (by rw [f.1, v.2.1.2.2.1]; exact nI_lt (by omega) (by omega)) z⟩
    rw [nI_1]
    exact nx M f (fun _ _ _ => rfl) s1
  | succ d ih =>
    intro i i1 hi M f hx nx s1
    have l : nd x4 i < 4 := nd_lt (by omega) (by omega)
    have in4 := nI_in (c := nd x4 i) (N := 4) l (by omega)
    refine v_X2_find_72 ha (jRu_n hj) ⟨fun z => absurd z (by rw [f.1, v.2.1.2.2.1]; exact nI_nlt (by omega) (by omega)), fun _ => ?_⟩
    rw [nd_abs x4 (by omega) i (by omega)]
    refine ⟨nI_in (by omega) (by omega), in4, nI_in (by omega) (by omega), in4, fun M2 e2 => ?_⟩
    rw [nI_clamp (by omega), nI_clamp (by omega), nI_clamp (by omega), s1 (nd x4 i) l, f.1, (v.2.2.2.1 i i1 (by omega)).1, w64, ← Int64.ofInt_sub] at e2
    rw [nI_1]
    refine ih (i + 1) (by omega) (by omega) M2 (by rw [e2]; exact f.sl (by omega)) hx (fun M' f' g1 g2 => nx M' f' (fun b k hb => by rw [g1 b k hb, e2, jsl_at, if_neg (fun w => hb w.1)]) g2) (fun c hc => ?_)
    rw [e2, jsl_at, yP_s]
    by_cases z : c = nd x4 i
    · rw [if_pos ⟨rfl, z⟩, if_pos z.symm, z]
      congr 1
      unfold ya
      rw [if_neg (by omega), AZ_v A i1 (by omega), Int.sub_eq_add_neg]
    · rw [if_neg (fun y => z y.2), if_neg (fun y => z y.symm), Int.add_zero]; exact s1 c hc
theorem c_findEq {K : jK} {M0 : jM} {a j q p m s : Nat} {A B : Nat → Int32} (ha : jSu a) (hj : j < 6) (v : vR M0 j q p m s A B) (nx : ∀ M, kFr a M0 M → (∀ i, i < 9 → M.2 57 i = Int64.ofInt (wI q (wl 0 A B) (we 0 A B) i)) → (∀ i, i < p + 1 → M.2 50 i = Int64.ofInt (lm q s A B i) ∧ ∀ c, c < 4 → M.2 (46 + i) c = Int64.ofInt (yI q p (AZ A) i c)) → jEv nX0_solve (0, [(0, .ref 44), (1, .int (nI (p + 1)))], [], M) (fun o1 M2 => ∃ r3 : Int32, o1 = some (some (.int r3)) ∧ (jEv nX7_power (0, [(0, .long ((M2.1 (4 + 4 * j) 1).toInt64)), (2, .int 8)], [], M2) (fun o4 M5 => ∃ r6 : Int64, o4 = some (some (.long r6)) ∧ (jEv nX7_power (0, [(0, .long ((M5.1 (4 + 4 * j) 1).toInt64)), (2, .int 3)], [], M5) (fun o7 M8 => ∃ r9 : Int64, o7 = some (some (.long r9)) ∧ (∀ M10 : jM, M10 = jsl M8 a 1 (((M5.2 44 4) * r9) * r6) → jEv nX2_find (167, [(0, .ref a), (1, .ref (4 + 4 * j)), (2, .ref 44), (3, .ref 57), (4, .long r6), (6, .int 0)], [], M10) K)))))))
    : jEv nX2_find (0, [(0, .ref a), (1, .ref (4 + 4 * j)), (2, .ref 44), (3, .ref 57)], [], M0) K := by
  have hp3 := v.1.2.2.1
  have ac := jSu_c ha
  have lp : ∀ (d k : Nat), k + d = p + 1 → ∀ M, kFr a M0 M → (∀ i, i < 9 → M.2 57 i = Int64.ofInt (wI q (wl 0 A B) (we 0 A B) i)) → (∀ i, i < p + 1 → M.2 50 i = Int64.ofInt (lm q s A B i)) → (∀ i, i < k → ∀ c, c < 4 → M.2 (46 + i) c = Int64.ofInt (yI q p (AZ A) i c)) → (∀ i, k ≤ i → i < p + 1 → ∀ c, c < 4 → M.2 (46 + i) c = Int64.ofInt (yP q (AZ A) i c 1)) → jEv nX2_find (60, [(0, .ref a), (1, .ref (4 + 4 * j)), (2, .ref 44), (3, .ref 57), (4, .int (nI k))], [], M) K := by
    intro d
    induction d with
    | zero =>
      intro k hk M f hw s1 s2 s3
      have : k = p + 1 := by omega
      subst this
      refine v_X2_find_60 ha (jRu_n hj) ⟨fun _ => ?_, fun z => absurd (by rw [f.1, v.2.1.2.2.1]; exact nI_lt (by omega) (by omega)) z⟩
      rw [f.1, v.2.1.2.2.1, nI_1]
      exact nx M f hw (fun i hi => ⟨s1 i hi, s2 i hi⟩)
    | succ d ih =>
      intro k hk M f hw s1 s2 s3
      refine v_X2_find_60 ha (jRu_n hj) ⟨fun z => absurd z (by rw [f.1, v.2.1.2.2.1]; exact nI_nlt (by omega) (by omega)), fun _ => ?_⟩
      refine c_find60 ha hj v p 1 (by omega) (by omega) M f (by omega) (fun M' f' g1 g2 => ih (k + 1) (by omega) M' f' (fun i hi => by rw [g1 57 i (by omega)]; exact hw i hi) (fun i hi => by rw [g1 50 i (by omega)]; exact s1 i hi) (fun i hi c hc => ?_) (fun i h1 h2 c hc => by rw [g1 (46 + i) c (by omega)]; exact s3 i (by omega) h2 c hc)) (fun c hc => s3 k (Nat.le_refl k) (by omega) c hc)
      by_cases z : i = k
      · subst z; exact g2 c hc
      · rw [g1 (46 + i) c (by omega)]; exact s2 i (by omega) c hc
  refine v_X2_find_0 ha (jRu_n hj) (jEv.mono (c_weigh hj v 0) (fun o M2 z => ⟨z.1, jEv.mono (c_wipe (M0 := M2)) (fun o' M4 y => ⟨y.1, ?_⟩)⟩))
  obtain ⟨-, z1, z2, z3⟩ := z
  obtain ⟨-, y1, y2, y3⟩ := y
  refine c_find13 ha hj v (fun M f hw s1 => lp (p + 1) 0 (by omega) M f hw (fun i hi => (s1 i hi).1) (fun i hi => absurd hi (by omega)) (fun i _ hi c hc => (s1 i hi).2 c hc)) (p + 1) 0 (by omega) M4 ⟨y1.trans z1, fun b k h1 h2 h3 h4 => by rw [y2 b k (by omega)]; exact z2 b k h2⟩ (fun i hi => by rw [y2 57 i (by omega)]; exact z3 i hi) (fun i hi => absurd hi (by omega)) (fun i _ hi c hc => y3 i c hi hc)
theorem ofI_ne {z : Int} {C : Nat} (h : z ≠ 0) (hz : z.natAbs ≤ C) (hC : C < 9223372036854775808) : ¬ Int64.ofInt z = 0 ∧ (Int64.ofInt z).toInt = z := by
  have e : (Int64.ofInt z).toInt = z := by rw [Int64.toInt_ofInt]; exact fb_bmodL (by omega) (by omega)
  refine ⟨fun y => h ?_, e⟩
  rw [y, Int64.toInt_zero] at e
  exact e.symm
theorem c_find234 {K : jK} {M0 : jM} {a j q p m s : Nat} {A B : Nat → Int32} (ha : jSu a) (hj : j < 6) (v : vR M0 j q p m s A B) (ok : lOk q p (AZ A) (lm q s A B)) {x4 : Int64} {k : Nat} (h1 : p < k) (hk : k < 9) {M : jM} (f : M.1 = M0.1) (ht : ∀ i, i < k → M.2 (a + 1) i = Int64.ofInt (tt q p (AZ A) (lm q s A B) i)) (nx : jEv nX2_find (207, [(0, .ref a), (1, .ref (4 + 4 * j)), (2, .ref 44), (3, .ref 57), (4, .long x4), (6, .int (nI (k + 1)))], [], jsl M (a + 1) k (Int64.ofInt (tt q p (AZ A) (lm q s A B) k))) K) : ∀ (d i : Nat), i + d = p → jEv nX2_find (234, [(0, .ref a), (1, .ref (4 + 4 * j)), (2, .ref 44), (3, .ref 57), (4, .long x4), (6, .int (nI k)), (7, .long (Int64.ofInt (lS' q p (AZ A) (lm q s A B) (tt q p (AZ A) (lm q s A B)) k i))), (9, .int (nI (i + 1)))], [], M) K := by
  have hp3 := v.1.2.2.1
  have hq4 := v.1.2.1
  have hq1 := v.1.1
  have in9 := nI_in (c := k) (N := 9) (by omega) (by omega)
  intro d
  induction d with
  | zero =>
    intro i hi
    have : i = p := by omega
    subst this
    refine v_X2_find_234 ha (jRu_n hj) ⟨fun _ => ⟨fun z => ?_, fun z => ⟨?_, in9, fun M1 e1 => ?_⟩⟩, fun z => ?_⟩
    · rw [f, v.2.1.2.1] at z
      exact absurd z (nI_ne0 hq1 (by omega))
    · rw [f, v.2.1.2.1]; exact (q_set hq1 hq4).2
    · have hA : ∀ k, 1 ≤ k → k < 4 → (AZ A k).natAbs ≤ 8 := fun k k1 k2 => by rw [AZ_v A k1 k2]; exact (v.A8 k k1 k2).1
      rw [f, v.2.1.2.1, w64, nI_toInt (by omega), ofI_div (lSS_abs ok hA (by omega) (Nat.le_refl i) hk) (by decide) (by omega) (by omega) (tt_rec ok h1 hk), nI_clamp (by omega)] at e1
      rw [e1, nI_1]
      exact nx
    · rw [f, v.2.1.2.2.1] at z
      exact absurd (nI_lt (by omega) (by omega)) z
  | succ d ih =>
    intro i hi
    refine v_X2_find_234 ha (jRu_n hj) ⟨fun z => ?_, fun _ => ⟨nI_in (by omega) (by omega), ?_⟩⟩
    · rw [f, v.2.1.2.2.1] at z
      exact absurd z (nI_nlt (by omega) (by omega))
    · rw [nI_sub (by omega)]
      refine ⟨nI_in (by omega) (by omega), ?_⟩
      rw [nI_clamp (by omega), nI_clamp (by omega), nI_1, f, (v.2.2.2.1 (i + 1) (by omega) (by omega)).1, ht (k - (i + 1)) (by omega), w64, ← AZ_v A (show 1 ≤ i + 1 by omega) (by omega), ← Int64.ofInt_mul, ← Int64.ofInt_add]
      have nx2 := ih (i + 1) (by omega)
      rw [show lS' q p (AZ A) (lm q s A B) (tt q p (AZ A) (lm q s A B)) k (i + 1) = lS' q p (AZ A) (lm q s A B) (tt q p (AZ A) (lm q s A B)) k i + AZ A (i + 1) * tt q p (AZ A) (lm q s A B) (k - (i + 1)) by unfold lS'; rw [Int.add_assoc]; rfl] at nx2
      exact nx2
theorem c_find {M0 : jM} {a j q p m s : Nat} {A B : Nat → Int32} (ha : jSu a) (hj : j < 6) (v : vR M0 j q p m s A B) (st : stB q A = true) : jEv nX2_find (0, [(0, .ref a), (1, .ref (4 + 4 * j)), (2, .ref 44), (3, .ref 57)], [], M0) (fun o M' => o = some none ∧ kFr a M0 M' ∧ M'.2 a 1 = Int64.ofInt (lB q p (AZ A)) ∧ ∀ k, k < 9 → M'.2 (a + 1) k = Int64.ofInt (tt q p (AZ A) (lm q s A B) k)) := by
  have hp3 := v.1.2.2.1
  have hq4 := v.1.2.1
  have hq1 := v.1.1
  have ac := jSu_c ha
  have ok := l_ok v st
  refine c_findEq ha hj v (fun M f hw s1 => ?_)
  -- the determinants
  have m1 : ∀ c, c < 4 → ¬ nI c = -1 := by decide +kernel
  have eD : dC (dcl M (-1)) (p + 1) = Int64.ofInt (lD q p (AZ A)) := by
    unfold lD
    rw [← dCZ _ (show p + 1 ≤ 4 by omega)]
    refine dC_congr (by omega) (fun i c hi hc => ?_)
    unfold dcl
    rw [if_neg (m1 c (by omega)), if_pos (by omega), (s1 i hi).2 c (by omega), lz_y q p (AZ A) i (by omega) c (by omega)]
  have eT : ∀ k, k < p + 1 → dC (dcl M (nI k)) (p + 1) = Int64.ofInt (lT q p (AZ A) (lm q s A B) k) := by
    intro k hk
    unfold lT
    rw [← dCZ _ (show p + 1 ≤ 4 by omega)]
    refine dC_congr (by omega) (fun i c hi hc => ?_)
    unfold dcl zc
    by_cases z : c = k
    · rw [if_pos (by rw [z]), if_pos z]; exact (s1 i hi).1
    · rw [if_neg (fun y => z ((nI_eq (by omega) (by omega)).mp y)), if_neg z, if_pos (by omega), (s1 i hi).2 c (by omega), lz_y q p (AZ A) i (by omega) c (by omega)]
  obtain ⟨d0, d1⟩ := ofI_ne ok.D.1 ok.D.2 (by decide)
  refine jEv.mono (c_solve (M0 := M) (n := p + 1) (by omega)) (fun o M2 z => ?_)
  obtain ⟨z1, z2⟩ := z
  rw [eD] at z2
  rcases z2 with ⟨y1, -⟩ | ⟨-, y2, y3, y4⟩
  · exact absurd y1 d0
  refine ⟨_, y2, ?_⟩
  rw [z1.1, f.1, v.2.1.2.1]
  refine ((s_power M2 _ (n := 8) (by decide)).iff _).mpr ⟨_, rfl, ?_⟩
  rw [z1.1, f.1, v.2.1.2.1]
  refine ((s_power M2 _ (n := 3) (by decide)).iff _).mpr ⟨_, rfl, fun M10 e10 => ?_⟩
  rw [y3, pw_of hq4, pw_of hq4, ← Int64.ofInt_mul, ← Int64.ofInt_mul] at e10
  rw [pw_of hq4]
  have f2 : kFr a M0 M2 := ⟨z1.1.trans f.1, fun b k h1 h2 h3 h4 => by rw [z1.2 b k (by omega) (by omega) (by omega)]; exact f.2 b k h1 h2 h3 h4⟩
  have f10 : kFr a M0 M10 := by rw [e10]; exact f2.sl (by omega)
  have b10 : M10.2 a 1 = Int64.ofInt (lB q p (AZ A)) := by rw [e10, jsl_at, if_pos ⟨rfl, rfl⟩]; rfl
  have t10 : ∀ k, k < p + 1 → M10.2 51 k = Int64.ofInt (lT q p (AZ A) (lm q s A B) k) := fun k hk => by rw [e10, jsl_at, if_neg (by omega), y4 k hk]; exact eT k hk
  have w10 : ∀ i, i < 9 → M10.2 57 i = Int64.ofInt (wI q (wl 0 A B) (we 0 A B) i) := fun i hi => by rw [e10, jsl_at, if_neg (by omega), z1.2 57 i (by omega) (by omega) (by omega)]; exact hw i hi
  have q10 : M10.2 44 4 = Int64.ofInt (lD q p (AZ A)) := by rw [e10, jsl_at, if_neg (by omega)]; exact y3
  clear e10
  have lp2 : ∀ (d k : Nat), p < k → k + d = 9 → ∀ M', kFr a M0 M' → M'.2 a 1 = Int64.ofInt (lB q p (AZ A)) → (∀ i, i < 9 → M'.2 57 i = Int64.ofInt (wI q (wl 0 A B) (we 0 A B) i)) → M'.2 44 4 = Int64.ofInt (lD q p (AZ A)) → (∀ i, i < k → M'.2 (a + 1) i = Int64.ofInt (tt q p (AZ A) (lm q s A B) i)) → jEv nX2_find (207, [(0, .ref a), (1, .ref (4 + 4 * j)), (2, .ref 44), (3, .ref 57), (4, .long (Int64.ofInt ((q : Int) ^ 8))), (6, .int (nI k))], [], M') (fun o M' => o = some none ∧ kFr a M0 M' ∧ M'.2 a 1 = Int64.ofInt (lB q p (AZ A)) ∧ ∀ k, k < 9 → M'.2 (a + 1) k = Int64.ofInt (tt q p (AZ A) (lm q s A B) k)) := by
    intro d
    induction d with
    | zero =>
      intro k h1 hk M' g1 g2 g3 g4 g5
      have : k = 9 := by omega
      subst this
      exact v_X2_find_207 ha (jRu_n hj) ⟨fun _ => ⟨rfl, g1, g2, g5⟩, fun z => absurd (by decide) z⟩
    | succ d ih =>
      intro k h1 hk M' g1 g2 g3 g4 g5
      have vM : vR M' j q p m s A B := v.cg (fun b i _ => by rw [g1.1]) hj
      refine v_X2_find_207 ha (jRu_n hj) ⟨fun z => absurd ((nI_ltI (a := 8) (b := k) (by omega) (by omega)).mp z) (by omega), fun _ => ?_⟩
      rw [(c_missPart hj vM g3 (k := k) (by omega)).iff]
      refine ⟨_, rfl, ?_⟩
      rw [g4, ← Int64.ofInt_mul, ← Int64.ofInt_mul]
      have := c_find234 ha hj v ok (x4 := Int64.ofInt ((q : Int) ^ 8)) h1 (by omega) g1.1 g5 (ih (k + 1) (by omega) (by omega) _ (g1.sl (by omega)) (by rw [jsl_at, if_neg (by omega)]; exact g2) (fun i hi => by rw [jsl_at, if_neg (by omega)]; exact g3 i hi) (by rw [jsl_at, if_neg (by omega)]; exact g4) (fun i hi => by
        rw [jsl_at]
        by_cases z : i = k
        · rw [if_pos ⟨rfl, z⟩, z]
        · rw [if_neg (fun y => z y.2)]; exact g5 i (by omega))) p 0 (by omega)
      rw [show lS' q p (AZ A) (lm q s A B) (tt q p (AZ A) (lm q s A B)) k 0 = lm q s A B k * lD q p (AZ A) * (q : Int) ^ 8 from Int.add_zero _] at this
      exact this
  have lp1 : ∀ (d k : Nat), k + d = p + 1 → ∀ M', kFr a M0 M' → M'.2 a 1 = Int64.ofInt (lB q p (AZ A)) → (∀ i, i < 9 → M'.2 57 i = Int64.ofInt (wI q (wl 0 A B) (we 0 A B) i)) → M'.2 44 4 = Int64.ofInt (lD q p (AZ A)) → (∀ k, k < p + 1 → M'.2 51 k = Int64.ofInt (lT q p (AZ A) (lm q s A B) k)) → (∀ i, i < k → M'.2 (a + 1) i = Int64.ofInt (tt q p (AZ A) (lm q s A B) i)) → jEv nX2_find (167, [(0, .ref a), (1, .ref (4 + 4 * j)), (2, .ref 44), (3, .ref 57), (4, .long (Int64.ofInt ((q : Int) ^ 8))), (6, .int (nI k))], [], M') (fun o M' => o = some none ∧ kFr a M0 M' ∧ M'.2 a 1 = Int64.ofInt (lB q p (AZ A)) ∧ ∀ k, k < 9 → M'.2 (a + 1) k = Int64.ofInt (tt q p (AZ A) (lm q s A B) k)) := by
    intro d
    induction d with
    | zero =>
      intro k hk M' g1 g2 g3 g4 g5 g6
      have : k = p + 1 := by omega
      subst this
      refine v_X2_find_167 ha (jRu_n hj) ⟨fun _ => ?_, fun z => absurd (by rw [g1.1, v.2.1.2.2.1]; exact nI_lt (by omega) (by omega)) z⟩
      rw [g1.1, v.2.1.2.2.1, nI_1]
      exact lp2 (9 - (p + 1)) (p + 1) (by omega) (by omega) M' g1 g2 g3 g4 g6
    | succ d ih =>
      intro k hk M' g1 g2 g3 g4 g5 g6
      refine v_X2_find_167 ha (jRu_n hj) ⟨fun z => absurd z (by rw [g1.1, v.2.1.2.2.1]; exact nI_nlt (by omega) (by omega)), fun _ => ⟨nI_in (by omega) (by omega), nI_in (by omega) (by omega), fun M1 e1 => ?_⟩⟩
      rw [nI_clamp (by omega), g5 k (by omega), ← Int64.ofInt_mul, ← tt_lo (by omega)] at e1
      rw [nI_1, e1]
      refine ih (k + 1) (by omega) _ (g1.sl (by omega)) (by rw [jsl_at, if_neg (by omega)]; exact g2) (fun i hi => by rw [jsl_at, if_neg (by omega)]; exact g3 i hi) (by rw [jsl_at, if_neg (by omega)]; exact g4) (fun i hi => by rw [jsl_at, if_neg (by omega)]; exact g5 i hi) (fun i hi => ?_)
      rw [jsl_at]
      by_cases z : i = k
      · rw [if_pos ⟨rfl, z⟩, z]
      · rw [if_neg (fun y => z y.2)]; exact g6 i (by omega)
  exact lp1 (p + 1) 0 (by omega) M10 f10 b10 w10 q10 t10 (fun i hi => absurd hi (by omega))
