/-! steps of likenesses: the equations of a step, what is left -/
def sFr (M0 M : jM) : Prop := M.1 = M0.1 ∧ ∀ a k, (a < 44 ∨ 52 < a) → M.2 a k = M0.2 a k
theorem sFr.rfl' (M : jM) : sFr M M := ⟨rfl, fun _ _ _ => rfl⟩
theorem sFr.kp {M0 M : jM} (h : sFr M0 M) : iKp M0 M := ⟨fun a k _ _ _ _ _ _ => by rw [h.1], fun a k z => h.2 a k (by omega)⟩
theorem sFr.trans {M1 M2 M3 : jM} (h : sFr M1 M2) (g : sFr M2 M3) : sFr M1 M3 := ⟨g.1.trans h.1, fun a k z => (g.2 a k z).trans (h.2 a k z)⟩
theorem fFr.s {M0 M : jM} (h : fFr M0 M) : sFr M0 M := ⟨h.1, fun a k z => h.2 a k (by omega) (by omega) (by omega)⟩
theorem sFr.sl {M0 M : jM} (h : sFr M0 M) {a k : Nat} {v : Int64} (ha : 44 ≤ a ∧ a ≤ 52) : sFr M0 (jsl M a k v) := ⟨h.1, fun b q z => by rw [jsl_at, if_neg (by omega)]; exact h.2 b q z⟩
theorem nd_abs : ∀ i, i < 5 → ∀ j, j < 5 → (if 0 ≤ nI i - nI j then nI i - nI j else 0 - (nI i - nI j)) = nI (nd i j) := by decide +kernel
theorem nd_lt {i j k : Nat} (hi : i < k) (hj : j < k) : nd i j < k := by unfold nd; omega
theorem vL.s {M0 M : jM} {j n : Nat} {r : Nat → Int32} (v : vL M0 j n r) (hj : j < 6) (h : M.1 = M0.1) : vL M j n r := v.kp hj (fun a k _ _ _ _ _ _ => by rw [h])
def tR (r : Nat → Int32) (i : Nat) : Int64 := (r i).toInt64
/-- rows of the equations laid down so far -/
def stp (R : Nat → Int64) (k i : Nat) (M : jM) : Prop := ∀ i', i' < i → M.2 50 i' = R (i' + 1) ∧ ∀ j, j < k → M.2 (46 + i') j = tz R i' j
theorem c_fill25 {K : jK} {M0 : jM} {j n k i : Nat} {r : Nat → Int32} (hj : j < 6) (v : vL M0 j n r) (hk : k < n) (hi : i < k) (nx : ∀ M, sFr M0 M → stp (tR r) k (i + 1) M → jEv nX3_solveStep (2, [(0, .ref (29 + 2 * j)), (1, .int (nI k)), (2, .ref 44), (3, .int (nI (i + 1)))], [], M) K) : ∀ (d c : Nat), c + d = k → ∀ M, sFr M0 M → stp (tR r) k i M → M.2 50 i = tR r (i + 1) → (∀ x, x < c → M.2 (46 + i) x = tz (tR r) i x) → jEv nX3_solveStep (25, [(0, .ref (29 + 2 * j)), (1, .int (nI k)), (2, .ref 44), (3, .int (nI i)), (4, .int (nI c))], [], M) K := by
  have hn := v.2.1
  intro d
  induction d with
  | zero =>
    intro c hc M f s1 s2 s3
    have : c = k := by omega
    subst this
    refine v_X3_solveStep_25 ⟨j, hj, rfl⟩ ⟨fun _ => ?_, fun z => absurd (Int32.le_refl _) z⟩
    rw [nI_1]
    refine nx M f (fun i' hi' => ?_)
    by_cases z : i' = i
    · subst z; exact ⟨s2, s3⟩
    · exact s1 i' (by omega)
  | succ d ih =>
    intro c hc M f s1 s2 s3
    have l := nd_lt (i := i) (j := c) (k := k) (by omega) (by omega)
    refine v_X3_solveStep_25 ⟨j, hj, rfl⟩ ⟨fun z => absurd z (nI_ge (by omega) (by omega)), fun _ => ?_⟩
    rw [nd_abs i (by omega) c (by omega)]
    refine ⟨nI_in (by omega) (by omega), nI_in (by omega) (by omega), nI_in (by omega) (by omega), fun M2 e2 => ?_⟩
    rw [nI_clamp (by omega), nI_clamp (by omega), nI_clamp (by omega), f.1, (v.2.2.2.2.1 (nd i c) (by omega)).1] at e2
    rw [nI_1]
    refine ih (c + 1) (by omega) M2 (by rw [e2]; exact f.sl (by omega)) (fun i' hi' => ⟨?_, fun x hx => ?_⟩) ?_ (fun x hx => ?_)
    · rw [e2, jsl_at, if_neg (by omega)]; exact (s1 i' hi').1
    · rw [e2, jsl_at, if_neg (by omega)]; exact (s1 i' hi').2 x hx
    · rw [e2, jsl_at, if_neg (by omega)]; exact s2
    · rw [e2, jsl_at]
      by_cases z : x = c
      · rw [if_pos ⟨rfl, z⟩, z]; rfl
      · rw [if_neg (fun y => z y.2)]; exact s3 x (by omega)
theorem c_fill2 {K : jK} {M0 : jM} {j n k : Nat} {r : Nat → Int32} (hj : j < 6) (v : vL M0 j n r) (hk : k < n) (nx : ∀ M, sFr M0 M → stp (tR r) k k M → jEv nX0_solve (0, [(0, .ref 44), (1, .int (nI k))], [], M) (fun o1 M2 => ∃ r3 : Int32, o1 = some (some (.int r3)) ∧ K (some none) M2)) : ∀ (d i : Nat), i + d = k → ∀ M, sFr M0 M → stp (tR r) k i M → jEv nX3_solveStep (2, [(0, .ref (29 + 2 * j)), (1, .int (nI k)), (2, .ref 44), (3, .int (nI i))], [], M) K := by
  have hn := v.2.1
  intro d
  induction d with
  | zero =>
    intro i hi M f s1
    have : i = k := by omega
    subst this
    exact v_X3_solveStep_2 ⟨j, hj, rfl⟩ ⟨fun _ => nx M f s1, fun z => absurd (Int32.le_refl _) z⟩
  | succ d ih =>
    intro i hi M f s1
    refine v_X3_solveStep_2 ⟨j, hj, rfl⟩ ⟨fun z => absurd z (nI_ge (by omega) (by omega)), fun _ => ?_⟩
    rw [nI_1]
    refine ⟨nI_in (by omega) (by omega), nI_in (by omega) (by omega), fun M4 e4 => ?_⟩
    rw [nI_clamp (by omega), nI_clamp (by omega), f.1, (v.2.2.2.2.1 (i + 1) (by omega)).1] at e4
    refine c_fill25 hj v hk (by omega) (fun M5 f5 s5 => ih (i + 1) (by omega) M5 f5 s5) k 0 (by omega) M4 (by rw [e4]; exact f.sl (by omega)) (fun i' hi' => ⟨?_, fun x hx => ?_⟩) (by rw [e4, jsl_at, if_pos ⟨rfl, rfl⟩]; rfl) (fun x hx => absurd hx (by omega))
    · rw [e4, jsl_at, if_neg (by omega)]; exact (s1 i' hi').1
    · rw [e4, jsl_at, if_neg (by omega)]; exact (s1 i' hi').2 x hx
theorem stp_cl {R : Nat → Int64} {k : Nat} {M : jM} (hk : k ≤ 4) (h : stp R k k M) : dC (dcl M (-1)) k = dC (tz R) k ∧ ∀ i, i < k → dC (dcl M (nI i)) k = dC (tzj R i) k := by
  have m1 : ∀ c, c < 4 → ¬ nI c = -1 := by decide +kernel
  refine ⟨dC_congr hk (fun i c hi hc => ?_), fun q hq => dC_congr hk (fun i c hi hc => ?_)⟩
  · unfold dcl
    rw [if_neg (m1 c (by omega)), if_pos (by omega)]
    exact (h i hi).2 c hc
  · unfold dcl tzj
    by_cases z : c = q
    · rw [if_pos (by rw [z]), if_pos z]; exact (h i hi).1
    · rw [if_neg (fun y => z ((nI_eq (by omega) (by omega)).mp y)), if_neg z, if_pos (by omega)]
      exact (h i hi).2 c hc
/-- the equations of step k, solved -/
def sol (R : Nat → Int64) (k : Nat) (M : jM) : Prop := (dC (tz R) k = 0 ∧ M.2 44 4 = 1) ∨ (¬ dC (tz R) k = 0 ∧ M.2 44 4 = dC (tz R) k ∧ ∀ i, i < k → M.2 51 i = dC (tzj R i) k)
theorem c_solveStep {M0 : jM} {j n k : Nat} {r : Nat → Int32} (hj : j < 6) (v : vL M0 j n r) (hk : k < n) : jEv nX3_solveStep (0, [(0, .ref (29 + 2 * j)), (1, .int (nI k)), (2, .ref 44)], [], M0) (fun o M' => o = some none ∧ sFr M0 M' ∧ sol (tR r) k M') := by
  have hn := v.2.1
  refine v_X3_solveStep_0 ⟨j, hj, rfl⟩ (c_fill2 hj v hk (fun M f s => ?_) k 0 (by omega) M0 (sFr.rfl' M0) (fun i' hi' => absurd hi' (by omega)))
  obtain ⟨c1, c2⟩ := stp_cl (by omega) s
  refine jEv.mono (c_solve (n := k) (by omega)) (fun o M2 z => ?_)
  obtain ⟨z1, z2⟩ := z
  rw [c1] at z2
  rcases z2 with ⟨y1, y2, y3⟩ | ⟨y1, y2, y3, y4⟩
  · exact ⟨_, y2, rfl, f.trans z1.s, Or.inl ⟨y1, y3⟩⟩
  · exact ⟨_, y2, rfl, f.trans z1.s, Or.inr ⟨y1, y3, fun i hi => by rw [y4 i hi, c2 i hi]⟩⟩
theorem c_rest {M : jM} {j n k : Nat} {r : Nat → Int32} (hj : j < 6) (v : vL M j n r) (hk : k < n) {b : Int64} {tp : Nat → Int64} (hb : M.2 44 4 = b) (ht : ∀ i, i < k → M.2 51 i = tp i) : jTo nX3_restTop (0, [(0, .ref (29 + 2 * j)), (1, .int (nI k)), (2, .ref 44)], [], M) (some (some (.long (rs b tp (tR r) k)))) M := by
  have hn := v.2.1
  have lp : ∀ (d i : Nat), i + d = k → jTo nX3_restTop (16, [(0, .ref (29 + 2 * j)), (1, .int (nI k)), (2, .ref 44), (3, .long (rs b tp (tR r) i)), (5, .int (nI (i + 1)))], [], M) (some (some (.long (rs b tp (tR r) k)))) M := by
    intro d
    induction d with
    | zero =>
      intro i hi
      have : i = k := by omega
      subst this
      exact v_X3_restTop_16 ⟨j, hj, rfl⟩ ⟨fun _ => ⟨rfl, rfl⟩, fun z => absurd (nI_lt (by omega) (by omega)) z⟩
    | succ d ih =>
      intro i hi
      refine v_X3_restTop_16 ⟨j, hj, rfl⟩ ⟨fun z => absurd z (nI_nlt (by omega) (by omega)), fun _ => ?_⟩
      rw [nI_pred]
      refine ⟨nI_in (by omega) (by omega), nI_in (by omega) (by omega), ?_⟩
      rw [nI_clamp (by omega), nI_clamp (by omega), nI_1, ht i (by omega), (v.2.2.2.2.1 (i + 1) (by omega)).1]
      exact ih (i + 1) (by omega)
  refine v_X3_restTop_0 ⟨j, hj, rfl⟩ ?_
  rw [hb, (v.2.2.2.2.1 0 (by omega)).1]
  exact lp k 0 (by omega)
/-- how many steps are there: d is the determinants' row -/
def stS (D : Nat → Int64) : Nat → Nat → Nat
  | 0, k => k
  | d + 1, k => if 0 < D (k + 1) then stS D d (k + 1) else k
theorem stS_le (D : Nat → Int64) : ∀ d k, k ≤ stS D d k ∧ stS D d k ≤ k + d
  | 0, k => ⟨Nat.le_refl k, Nat.le_refl k⟩
  | d + 1, k => by
    have := stS_le D d (k + 1)
    unfold stS
    split <;> omega
theorem stS_pos (D : Nat → Int64) : ∀ d k, 0 < D k → ∀ i, k ≤ i → i ≤ stS D d k → 0 < D i
  | 0, k, h, i, h1, h2 => by
    have h2' : i ≤ k := h2
    have : i = k := by omega
    subst this; exact h
  | d + 1, k, h, i, h1, h2 => by
    unfold stS at h2
    by_cases z : 0 < D (k + 1)
    · rw [if_pos z] at h2
      by_cases y : i = k
      · subst y; exact h
      · exact stS_pos D d (k + 1) z i (by omega) h2
    · rw [if_neg z] at h2
      have : i = k := by omega
      subst this; exact h
def tD (r : Nat → Int32) (k : Nat) : Int64 := dM (tz (tR r)) k
theorem tD_0 (r : Nat → Int32) : 0 < tD r 0 := by
  unfold tD
  rw [dM0]
  decide
theorem pos_ne {a : Int64} (h : 0 < a) : ¬ a = 0 := fun z => by rw [z] at h; exact absurd h (by decide)
theorem sol_pos {r : Nat → Int32} {k : Nat} {M : jM} (hk : k ≤ 4) (h : sol (tR r) k M) (hp : 0 < tD r k) : M.2 44 4 = tD r k ∧ ∀ i, i < k → M.2 51 i = dM (tzj (tR r) i) k := by
  have e : dC (tz (tR r)) k = tD r k := dCM _ hk
  rcases h with ⟨h1, -⟩ | ⟨-, h2, h3⟩
  · rw [e] at h1; exact absurd h1 (pos_ne hp)
  · exact ⟨h2.trans e, fun i hi => (h3 i hi).trans (dCM _ hk)⟩
theorem c_stepRest {K : Int64 → jM → Prop} {M0 : jM} {j n k : Nat} {r : Nat → Int32} (hj : j < 6) (v : vL M0 j n r) (hk : k < n) (hp : 0 < tD r k) (nx : ∀ M, sFr M0 M → M.2 44 4 = tD r k → (∀ i, i < k → M.2 51 i = dM (tzj (tR r) i) k) → K (tD r (k + 1)) M) : jEv nX3_solveStep (0, [(0, .ref (29 + 2 * j)), (1, .int (nI k)), (2, .ref 44)], [], M0) (fun o1 M2 => o1 = some none ∧ (jEv nX3_restTop (0, [(0, .ref (29 + 2 * j)), (1, .int (nI k)), (2, .ref 44)], [], M2) (fun o3 M4 => ∃ r5 : Int64, o3 = some (some (.long r5)) ∧ K r5 M4))) := by
  have hn := v.2.1
  refine jEv.mono (c_solveStep hj v hk) (fun o M2 z => ⟨z.1, ?_⟩)
  obtain ⟨-, f, s⟩ := z
  obtain ⟨s1, s2⟩ := sol_pos (by omega) s hp
  rw [(c_rest hj (v.s hj f.1) hk s1 s2).iff]
  refine ⟨_, rfl, ?_⟩
  have e : rs (tD r k) (fun i => dM (tzj (tR r) i) k) (tR r) k = tD r (k + 1) := by
    have := rest_ok (tR r) (k := k) (by omega)
    rw [dCM _ (show k ≤ 4 by omega)] at this
    rw [show (fun j => dC (tzj (tR r) j) k) = (fun j => dM (tzj (tR r) j) k) from funext (fun j => dCM _ (by omega))] at this
    exact this
  rw [e]
  exact nx M2 f s1 s2
theorem c_stepsThere {M0 : jM} {j n : Nat} {r : Nat → Int32} (hj : j < 6) (v : vL M0 j n r) : jEv nX3_stepsThere (0, [(0, .ref (29 + 2 * j)), (1, .ref 44)], [], M0) (fun o M' => o = some (some (.int (nI (stS (tD r) (n - 1) 0)))) ∧ sFr M0 M') := by
  have hn := v.2.1
  have hn1 := v.1
  have e1 : ∀ {M : jM}, M.1 = M0.1 → M.1 (29 + 2 * j) 1 - 1 = nI (n - 1) := by
    intro M h
    rw [h, v.2.2.1]
    have := nI_pred (n - 1)
    rw [show n - 1 + 1 = n by omega] at this
    exact this
  have lp : ∀ (d k : Nat), k + d = n - 1 → 0 < tD r k → ∀ M, sFr M0 M → stS (tD r) d k = stS (tD r) (n - 1) 0 → jEv nX3_stepsThere (2, [(0, .ref (29 + 2 * j)), (1, .ref 44), (2, .int (nI k))], [], M) (fun o M' => o = some (some (.int (nI (stS (tD r) (n - 1) 0)))) ∧ sFr M0 M') := by
    intro d
    induction d with
    | zero =>
      intro k hk hp M f hs
      refine v_X3_stepsThere_2 ⟨j, hj, rfl⟩ ?_
      rw [e1 f.1]
      have hk' : k = n - 1 := by omega
      refine ⟨fun _ => ⟨?_, f⟩, fun z => absurd (by rw [hk']; exact Int32.le_refl _) z⟩
      rw [← hs, ← hk']; rfl
    | succ d ih =>
      intro k hk hp M f hs
      refine v_X3_stepsThere_2 ⟨j, hj, rfl⟩ ?_
      rw [e1 f.1]
      refine ⟨fun z => absurd z (nI_ge (by omega) (by omega)), fun _ => ?_⟩
      refine c_stepRest (K := fun r5 M4 => (0 < r5 → jEv nX3_stepsThere (2, [(0, .ref (29 + 2 * j)), (1, .ref 44), (2, .int (nI k + 1))], [], M4) (fun o M' => o = some (some (.int (nI (stS (tD r) (n - 1) 0)))) ∧ sFr M0 M')) ∧ (¬ (0 < r5) → some (some (Value.int (nI k))) = some (some (.int (nI (stS (tD r) (n - 1) 0)))) ∧ sFr M0 M4)) hj (v.s hj f.1) (by omega) hp (fun M4 f4 _ _ => ⟨fun z => ?_, fun z => ⟨?_, f.trans f4⟩⟩)
      · rw [nI_1]
        refine ih (k + 1) (by omega) z M4 (f.trans f4) ?_
        rw [← hs]
        exact (if_pos z).symm
      · rw [← hs]
        exact congrArg (fun q => some (some (Value.int (nI q)))) (if_neg z).symm
  exact v_X3_stepsThere_0 ⟨j, hj, rfl⟩ (lp (n - 1) 0 (by omega) (tD_0 r) M0 (sFr.rfl' M0) rfl)
