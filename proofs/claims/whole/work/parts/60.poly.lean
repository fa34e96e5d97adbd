/-! Schur's test, the class's -/
theorem nI_m1 (d : Nat) : nI (d + 1) + (-1) = nI d := by
  rw [nI_succ, Int32.add_assoc, show (1 : Int32) + (-1) = 0 from by decide, Int32.add_zero]
def cA (x : Int64) : Int64 := if 0 < x then x else -x
def uF (f : Nat → Int64) (d i : Nat) (x y : Int64) (k : Nat) : Int64 := if k = d - i then (x * f (d - i)) - (y * f i) else if k = i then (x * f i) - (y * f (d - i)) else f k
theorem c_p40 {M : jM} {K : jK} {j d i : Nat} {x y : Int64} {f : Nat → Int64} (hj : j < 6) (hd : d ≤ 3) (hi : 2 * i ≤ d) (hf : ∀ k, k < 4 → M.2 (4 + 4 * j + 3) k = f k) (k : ∀ M2, iKp M M2 → (∀ k, k < 4 → M2.2 (4 + 4 * j + 3) k = uF f d i x y k) → jEv nX5_polyHasNoInnerRoot (40, [(0, .ref (4 + 4 * j)), (1, .int (nI d)), (2, .long x), (4, .long y), (6, .int (nI (i + 1)))], [], M2) K) : jEv nX5_polyHasNoInnerRoot (40, [(0, .ref (4 + 4 * j)), (1, .int (nI d)), (2, .long x), (4, .long y), (6, .int (nI i))], [], M) K := by
  have e2 : 2 * nI i = nI (2 * i) := by rw [show (2 : Int32) = nI 2 from rfl, pk_mul]
  have h1 := nI_in (c := i) (N := 4) (by omega) (by omega)
  have h2 := nI_in (c := d - i) (N := 4) (by omega) (by omega)
  rw [← nI_sub (by omega)] at h2
  refine v_X5_polyHasNoInnerRoot_40 (jRu_n hj) ⟨fun w => absurd w (by rw [e2]; exact nI_nlt hi (by omega)), fun _ => ⟨h1, h2, h1, fun M1 f1 => ⟨h2, fun M2 f2 => ?_⟩⟩⟩
  rw [nI_sub (by omega), nI_clamp (by omega), nI_clamp (by omega), hf i (by omega), hf (d - i) (by omega)] at f1 f2
  rw [nI_1]
  refine k M2 (by rw [f2, f1]; exact ((iKp.rfl' M).sl (by omega)).sl (by omega)) (fun q hq => ?_)
  rw [f2, jsl_at, f1, jsl_at]
  unfold uF
  by_cases w : q = d - i
  · rw [if_pos ⟨rfl, w⟩, if_pos w]
  · rw [if_neg (fun z => w z.2), if_neg w]
    by_cases w2 : q = i
    · rw [if_pos ⟨rfl, w2⟩, if_pos w2]
    · rw [if_neg (fun z => w2 z.2), if_neg w2, hf q hq]
theorem c_p40e {M : jM} {K : jK} {j d i : Nat} {x y : Int64} (hj : j < 6) (hd : d + 1 ≤ 3) (hi : d + 1 < 2 * i) (hi2 : i ≤ 3) (k : jEv nX5_polyHasNoInnerRoot (2, [(0, .ref (4 + 4 * j)), (1, .int (nI d))], [], M) K) : jEv nX5_polyHasNoInnerRoot (40, [(0, .ref (4 + 4 * j)), (1, .int (nI (d + 1))), (2, .long x), (4, .long y), (6, .int (nI i))], [], M) K := by
  have e2 : 2 * nI i = nI (2 * i) := by rw [show (2 : Int32) = nI 2 from rfl, pk_mul]
  refine v_X5_polyHasNoInnerRoot_40 (jRu_n hj) ⟨fun _ => ?_, fun w => absurd (by rw [e2]; exact nI_lt hi (by omega)) w⟩
  rw [nI_m1]
  exact k
theorem c_p2 {M : jM} {K : jK} {j d : Nat} {f : Nat → Int64} (hj : j < 6) (h0 : 1 ≤ d) (hd : d ≤ 3) (hf : ∀ k, k < 4 → M.2 (4 + 4 * j + 3) k = f k) (kn : ¬ cA (f d) < cA (f 0) → K (some (some (.int 0))) M) (k : cA (f d) < cA (f 0) → jEv nX5_polyHasNoInnerRoot (40, [(0, .ref (4 + 4 * j)), (1, .int (nI d)), (2, .long (f 0)), (4, .long (f d)), (6, .int (nI 0))], [], M) K) : jEv nX5_polyHasNoInnerRoot (2, [(0, .ref (4 + 4 * j)), (1, .int (nI d))], [], M) K := by
  refine v_X5_polyHasNoInnerRoot_2 (jRu_n hj) ⟨fun w => absurd w (nI_nlt (b := 1) h0 (by omega)), fun _ => ⟨nI_in (by omega) (by omega), ?_⟩⟩
  rw [nI_clamp (by omega), hf d (by omega), hf 0 (by omega)]
  exact ⟨k, kn⟩
/-- the test, as longs -/
def tC (f : Nat → Int64) : Bool := decide (cA (f 3) < cA (f 0)) &&
  (let g := uF (uF f 3 0 (f 0) (f 3)) 3 1 (f 0) (f 3)
   decide (cA (g 2) < cA (g 0)) &&
  (let h := uF (uF g 2 0 (g 0) (g 2)) 2 1 (g 0) (g 2)
   decide (cA (h 1) < cA (h 0))))
theorem c_poly {M : jM} {j : Nat} {f : Nat → Int64} (hj : j < 6) (hf : ∀ k, k < 4 → M.2 (4 + 4 * j + 3) k = f k) : jEv nX5_polyHasNoInnerRoot (0, [(0, .ref (4 + 4 * j))], [], M) (fun o M' => o = some (some (.int (b2i (tC f)))) ∧ iKp M M') := by
  refine v_X5_polyHasNoInnerRoot_0 (jRu_n hj) ?_
  refine c_p2 (d := 3) hj (by omega) (by omega) hf (fun w => ⟨?_, iKp.rfl' M⟩) (fun w => ?_)
  · unfold tC; rw [decide_eq_false w]; rfl
  refine c_p40 (d := 3) (i := 0) hj (by omega) (by omega) hf (fun M1 k1 f1 => ?_)
  refine c_p40 (d := 3) (i := 1) hj (by omega) (by omega) f1 (fun M2 k2 f2 => ?_)
  refine c_p40e (d := 2) (i := 2) hj (by omega) (by omega) (by omega) ?_
  have e1 : tC f = (let g := uF (uF f 3 0 (f 0) (f 3)) 3 1 (f 0) (f 3)
   decide (cA (g 2) < cA (g 0)) &&
  (let h := uF (uF g 2 0 (g 0) (g 2)) 2 1 (g 0) (g 2)
   decide (cA (h 1) < cA (h 0)))) := by unfold tC; rw [decide_eq_true w]; rfl
  rw [e1]
  have K2 := k1.trans k2
  generalize uF (uF f 3 0 (f 0) (f 3)) 3 1 (f 0) (f 3) = g at f2 ⊢
  dsimp only
  refine c_p2 (d := 2) hj (by omega) (by omega) f2 (fun w => ⟨?_, K2⟩) (fun w => ?_)
  · rw [decide_eq_false w]; rfl
  refine c_p40 (d := 2) (i := 0) hj (by omega) (by omega) f2 (fun M3 k3 f3 => ?_)
  refine c_p40 (d := 2) (i := 1) hj (by omega) (by omega) f3 (fun M4 k4 f4 => ?_)
  refine c_p40e (d := 1) (i := 2) hj (by omega) (by omega) (by omega) ?_
  rw [decide_eq_true w, Bool.true_and]
  have K4 := (K2.trans k3).trans k4
  generalize uF (uF g 2 0 (g 0) (g 2)) 2 1 (g 0) (g 2) = h at f4 ⊢
  refine c_p2 (d := 1) hj (by omega) (by omega) f4 (fun w => ⟨?_, K4⟩) (fun w => ?_)
  · rw [decide_eq_false w]; rfl
  refine c_p40 (d := 1) (i := 0) hj (by omega) (by omega) f4 (fun M5 k5 f5 => ?_)
  refine c_p40e (d := 0) (i := 1) hj (by omega) (by omega) (by omega) ?_
  rw [decide_eq_true w]
  exact v_X5_polyHasNoInnerRoot_2 (jRu_n hj) ⟨fun _ => ⟨rfl, K4.trans k5⟩, fun z => absurd (by decide) z⟩
/-- what the poly begins with -/
def pB (q : Nat) (g : Nat → Int64) (k : Nat) : Int64 := if k = 0 then (nI q).toInt64 else g k
theorem c_dies {M0 : jM} {j q p m s : Nat} {A B : Nat → Int32} (hj : j < 6) (v : vR M0 j q p m s A B) : jEv nX5_diesAway (0, [(0, .ref (4 + 4 * j))], [], M0) (fun o M' => o = some (some (.int (b2i (tC (pB q (fun k => (-(A k)).toInt64)))))) ∧ iKp M0 M') := by
  have loop : ∀ (d i : Nat), 1 ≤ i → i + d = 4 → ∀ M, iKp M0 M → (∀ k, k < i → M.2 (4 + 4 * j + 3) k = pB q (fun k => (-(A k)).toInt64) k) → jEv nX5_diesAway (13, [(0, .ref (4 + 4 * j)), (1, .int (nI i))], [], M) (fun o M' => o = some (some (.int (b2i (tC (pB q (fun k => (-(A k)).toInt64)))))) ∧ iKp M0 M') := by
    intro d
    induction d with
    | zero =>
      intro i h1 hi M k hf
      have : i = 4 := by omega
      subst this
      refine v_X5_diesAway_13 (jRu_n hj) ⟨fun _ => jEv.mono (c_poly hj hf) (fun o M' z => ⟨_, z.1, ?_, rfl, k.trans z.2⟩), fun z => absurd (by decide) z⟩
      cases tC (pB q (fun k => (-(A k)).toInt64)) with
      | false => exact Or.inl rfl
      | true => exact Or.inr rfl
    | succ d ih =>
      intro i h1 hi M k hf
      have hin := nI_in (c := i) (N := 4) (by omega) (by omega)
      refine v_X5_diesAway_13 (jRu_n hj) ⟨fun w => absurd w (nI_nlt (a := 3) (by omega) (by omega)), fun _ => ⟨hin, hin, fun M4 e4 => ?_⟩⟩
      rw [nI_clamp (by omega), ((v.kp hj k.i).2.2.2.1 i h1 (by omega)).1] at e4
      rw [nI_1]
      refine ih (i + 1) (by omega) (by omega) M4 (by rw [e4]; exact k.sl (by omega)) (fun q' hq => ?_)
      rw [e4, jsl_at]
      by_cases w : q' = i
      · rw [if_pos ⟨rfl, w⟩, w]; unfold pB; rw [if_neg (by omega)]
      · rw [if_neg (fun z => w z.2)]; exact hf q' (by omega)
  refine v_X5_diesAway_0 (jRu_n hj) (fun M1 e1 => loop 3 1 (by omega) (by omega) M1 (by rw [e1]; exact (iKp.rfl' M0).sl (by omega)) (fun k hk => ?_))
  have : k = 0 := by omega
  subst this
  rw [e1, jsl_at, if_pos ⟨rfl, rfl⟩, v.2.1.2.1]; rfl
theorem c_shows {M0 : jM} {j q p m s : Nat} {A B : Nat → Int32} (hj : j < 6) (v : vR M0 j q p m s A B) : jEv nX5_showsMisses (0, [(0, .ref (4 + 4 * j))], [], M0) (fun o M' => o = some (some (.int (b2i (tC (pB q (fun k => (B k).toInt64)))))) ∧ iKp M0 M') := by
  have loop : ∀ (d i : Nat), 1 ≤ i → i + d = 4 → ∀ M, iKp M0 M → (∀ k, k < i → M.2 (4 + 4 * j + 3) k = pB q (fun k => (B k).toInt64) k) → jEv nX5_showsMisses (13, [(0, .ref (4 + 4 * j)), (1, .int (nI i))], [], M) (fun o M' => o = some (some (.int (b2i (tC (pB q (fun k => (B k).toInt64)))))) ∧ iKp M0 M') := by
    intro d
    induction d with
    | zero =>
      intro i h1 hi M k hf
      have : i = 4 := by omega
      subst this
      refine v_X5_showsMisses_13 (jRu_n hj) ⟨fun _ => jEv.mono (c_poly hj hf) (fun o M' z => ⟨_, z.1, ?_, rfl, k.trans z.2⟩), fun z => absurd (by decide) z⟩
      cases tC (pB q (fun k => (B k).toInt64)) with
      | false => exact Or.inl rfl
      | true => exact Or.inr rfl
    | succ d ih =>
      intro i h1 hi M k hf
      have hin := nI_in (c := i) (N := 4) (by omega) (by omega)
      refine v_X5_showsMisses_13 (jRu_n hj) ⟨fun w => absurd w (nI_nlt (a := 3) (by omega) (by omega)), fun _ => ⟨hin, hin, fun M4 e4 => ?_⟩⟩
      rw [nI_clamp (by omega), ((v.kp hj k.i).2.2.2.2 i h1 (by omega)).1] at e4
      rw [nI_1]
      refine ih (i + 1) (by omega) (by omega) M4 (by rw [e4]; exact k.sl (by omega)) (fun q' hq => ?_)
      rw [e4, jsl_at]
      by_cases w : q' = i
      · rw [if_pos ⟨rfl, w⟩, w]; unfold pB; rw [if_neg (by omega)]
      · rw [if_neg (fun z => w z.2)]; exact hf q' (by omega)
  refine v_X5_showsMisses_0 (jRu_n hj) (fun M1 e1 => loop 3 1 (by omega) (by omega) M1 (by rw [e1]; exact (iKp.rfl' M0).sl (by omega)) (fun k hk => ?_))
  have : k = 0 := by omega
  subst this
  rw [e1, jsl_at, if_pos ⟨rfl, rfl⟩, v.2.1.2.1]; rfl
