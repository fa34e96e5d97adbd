/-! feed: both -/
def fSh : Nat → Int32
  | 0 => 24
  | n + 1 => fSh n + (-8)
def fByte (x : Int32) (d : Nat) : Int32 := ((x >>> (fSh d &&& 31)).toInt8.toInt32).toInt8.toInt32
/-- m bytes g behind the first n -/
def fWr (ob sl ar n m : Nat) (g : Nat → Int32) (M M' : jM) : Prop := M'.1 ob sl = nI (n + m) ∧ (∀ i, M'.1 ar i = if n ≤ i ∧ i < n + m then g (i - n) else M.1 ar i) ∧ (∀ a k, a ≠ ar → ¬ (a = ob ∧ k = sl) → M'.1 a k = M.1 a k) ∧ M'.2 = M.2
def fCat (m : Nat) (g h : Nat → Int32) : Nat → Int32 := fun k => if k < m then g k else h (k - m)
theorem fWr.then {ob sl ar n m r : Nat} {g h : Nat → Int32} {M M1 M2 : jM} (w : fWr ob sl ar n m g M M1) (v : fWr ob sl ar (n + m) r h M1 M2) : fWr ob sl ar n (m + r) (fCat m g h) M M2 := by
  refine ⟨by rw [v.1, Nat.add_assoc], fun i => ?_, fun a k z1 z2 => (v.2.2.1 a k z1 z2).trans (w.2.2.1 a k z1 z2), v.2.2.2.trans w.2.2.2⟩
  rw [v.2.1 i, w.2.1 i]
  unfold fCat
  by_cases h1 : n + m ≤ i ∧ i < n + m + r
  · rw [if_pos h1, if_pos (by omega), if_neg (by omega), Nat.sub_add_eq]
  · rw [if_neg h1]
    by_cases h2 : n ≤ i ∧ i < n + m
    · rw [if_pos h2, if_pos (by omega), if_pos (by omega)]
    · rw [if_neg h2, if_neg (by omega)]
def fAll (x1 x2 x3 x4 x5 : Int32) : Nat → Int32 := fCat 16 (fCat 12 (fCat 8 (fCat 4 (fByte x1) (fByte x2)) (fByte x3)) (fByte x4)) (fByte x5)
theorem byte_rng (y : Int8) : -128 ≤ y.toInt32.toInt ∧ y.toInt32.toInt ≤ 127 := by
  rw [Int8.toInt_toInt32]
  have h1 := Int8.le_toInt y
  have h2 := Int8.toInt_lt y
  omega
theorem fAll_rng (x1 x2 x3 x4 x5 : Int32) (k : Nat) : -128 ≤ (fAll x1 x2 x3 x4 x5 k).toInt ∧ (fAll x1 x2 x3 x4 x5 k).toInt ≤ 127 := by
  unfold fAll fCat fByte
  split
  · split
    · split
      · split
        · exact byte_rng _
        · exact byte_rng _
      · exact byte_rng _
    · exact byte_rng _
  · exact byte_rng _
theorem s_X6_append_loop (M0 : jM) (x : Int32) {n : Nat} (hn : n + 4 ≤ 100) : ∀ (r d : Nat), d + r = 4 → ∀ M : jM, fWr 1 1 2 n d (fByte x) M0 M → jEv nX6_append (3, [(0, .ref 1), (1, .int x), (2, .int (fSh d))], [], M) (fun o M' => o = some none ∧ fWr 1 1 2 n 4 (fByte x) M0 M') := by
  intro r
  induction r with
  | zero =>
    intro d hd M hM
    have : d = 4 := by omega
    subst this
    exact v_X6_append_3 ⟨fun _ => ⟨rfl, hM⟩, fun q => absurd (by decide) q⟩
  | succ r ih =>
    intro d hd M hM
    have e1 : M.1 1 1 = nI (n + d) := hM.1
    have hsh : ¬ fSh d < 0 := by
      have : d < 4 := by omega
      exact jn4 (P := fun d => ¬ fSh d < 0) (by decide) (by decide) (by decide) (by decide) this
    refine v_X6_append_3 ⟨fun q => absurd q hsh, fun _ => ⟨fun q => absurd q (by rw [e1]; exact nI_ge (b := 100) (by omega) (by omega)), fun _ => ⟨?_, fun M1 f1 M2 f2 => ?_⟩⟩⟩
    · rw [e1]; exact nI_in (by omega) (by omega)
    · refine ih (d + 1) (by omega) M2 ?_
      rw [e1, nI_clamp (by omega)] at f1
      have e2 : M1.1 1 1 = nI (n + d) := by rw [f1, jsi_at, if_neg (by omega)]; exact e1
      rw [e2, nI_1] at f2
      refine ⟨by rw [f2, jsi_at, if_pos (by decide)]; rfl, fun i => ?_, fun a k z1 z2 => ?_, ?_⟩
      · rw [f2, jsi_at, if_neg (by omega), f1, jsi_at]
        by_cases hi : i = n + d
        · subst hi
          rw [if_pos ⟨rfl, rfl⟩, if_pos (by omega), show n + d - n = d by omega]
          rfl
        · rw [if_neg (by omega), hM.2.1 i]
          by_cases hc : n ≤ i ∧ i < n + d
          · rw [if_pos hc, if_pos (by omega)]
          · rw [if_neg hc, if_neg (by omega)]
      · rw [f2, jsi_at, if_neg z2, f1, jsi_at, if_neg (fun q => z1 q.1)]
        exact hM.2.2.1 a k z1 z2
      · rw [f2, f1]; exact hM.2.2.2
theorem s_X6_append (M : jM) (x : Int32) {n : Nat} (hn : n + 4 ≤ 100) (e : M.1 1 1 = nI n) : jEv nX6_append (0, [(0, .ref 1), (1, .int x)], [], M) (fun o M' => o = some none ∧ fWr 1 1 2 n 4 (fByte x) M M') :=
  v_X6_append_0 (s_X6_append_loop M x hn 4 0 rfl M ⟨e, fun i => by rw [if_neg (by omega)], fun _ _ _ _ => rfl, rfl⟩)
theorem s_X6_append5 (M : jM) (x1 x2 x3 x4 x5 : Int32) {n : Nat} (hn : n + 20 ≤ 100) (e : M.1 1 1 = nI n) {P : jM → Prop} (k : ∀ M', fWr 1 1 2 n 20 (fAll x1 x2 x3 x4 x5) M M' → P M') :
    jEv nX6_append (0, [(0, .ref 1), (1, .int x1)], [], M) (fun o1 M2 => o1 = some none ∧ (jEv nX6_append (0, [(0, .ref 1), (1, .int x2)], [], M2) (fun o3 M4 => o3 = some none ∧ (jEv nX6_append (0, [(0, .ref 1), (1, .int x3)], [], M4) (fun o5 M6 => o5 = some none ∧ (jEv nX6_append (0, [(0, .ref 1), (1, .int x4)], [], M6) (fun o7 M8 => o7 = some none ∧ (jEv nX6_append (0, [(0, .ref 1), (1, .int x5)], [], M8) (fun o9 M10 => o9 = some none ∧ P M10))))))))) := by
  refine jEv.mono (s_X6_append M x1 (by omega) e) (fun o1 M1 h1 => ⟨h1.1, ?_⟩)
  have w1 := h1.2
  refine jEv.mono (s_X6_append M1 x2 (n := n + 4) (by omega) w1.1) (fun o2 M2 h2 => ⟨h2.1, ?_⟩)
  have w2 := w1.then h2.2
  refine jEv.mono (s_X6_append M2 x3 (n := n + 8) (by omega) w2.1) (fun o3 M3 h3 => ⟨h3.1, ?_⟩)
  have w3 := w2.then h3.2
  refine jEv.mono (s_X6_append M3 x4 (n := n + 12) (by omega) w3.1) (fun o4 M4 h4 => ⟨h4.1, ?_⟩)
  have w4 := w3.then h4.2
  refine jEv.mono (s_X6_append M4 x5 (n := n + 16) (by omega) w4.1) (fun o5 M5 h5 => ⟨h5.1, ?_⟩)
  exact k M5 (w4.then h5.2)
theorem s_X8_four_loop (M0 : jM) (x : Int32) {n : Nat} (hn : n + 4 ≤ 100) : ∀ (r d : Nat), d + r = 4 → ∀ M : jM, fWr 67 2 68 n d (fByte x) M0 M → jEv nX8_four (3, [(0, .ref 67), (1, .int x), (2, .int (fSh d))], [], M) (fun o M' => o = some none ∧ fWr 67 2 68 n 4 (fByte x) M0 M') := by
  intro r
  induction r with
  | zero =>
    intro d hd M hM
    have : d = 4 := by omega
    subst this
    exact v_X8_four_3 ⟨fun _ => ⟨rfl, hM⟩, fun q => absurd (by decide) q⟩
  | succ r ih =>
    intro d hd M hM
    have e1 : M.1 67 2 = nI (n + d) := hM.1
    have hsh : ¬ fSh d < 0 := by
      have : d < 4 := by omega
      exact jn4 (P := fun d => ¬ fSh d < 0) (by decide) (by decide) (by decide) (by decide) this
    refine v_X8_four_3 ⟨fun q => absurd q hsh, fun _ => ⟨?_, fun M1 f1 M2 f2 => ?_⟩⟩
    · rw [e1]; exact nI_in (by omega) (by omega)
    · refine ih (d + 1) (by omega) M2 ?_
      rw [e1, nI_clamp (by omega)] at f1
      have e2 : M1.1 67 2 = nI (n + d) := by rw [f1, jsi_at, if_neg (by omega)]; exact e1
      rw [e2, nI_1] at f2
      refine ⟨by rw [f2, jsi_at, if_pos (by decide)]; rfl, fun i => ?_, fun a k z1 z2 => ?_, ?_⟩
      · rw [f2, jsi_at, if_neg (by omega), f1, jsi_at]
        by_cases hi : i = n + d
        · subst hi
          rw [if_pos ⟨rfl, rfl⟩, if_pos (by omega), show n + d - n = d by omega]
          rfl
        · rw [if_neg (by omega), hM.2.1 i]
          by_cases hc : n ≤ i ∧ i < n + d
          · rw [if_pos hc, if_pos (by omega)]
          · rw [if_neg hc, if_neg (by omega)]
      · rw [f2, jsi_at, if_neg z2, f1, jsi_at, if_neg (fun q => z1 q.1)]
        exact hM.2.2.1 a k z1 z2
      · rw [f2, f1]; exact hM.2.2.2
theorem s_X8_four (M : jM) (x : Int32) {n : Nat} (hn : n + 4 ≤ 100) (e : M.1 67 2 = nI n) : jEv nX8_four (0, [(0, .ref 67), (1, .int x)], [], M) (fun o M' => o = some none ∧ fWr 67 2 68 n 4 (fByte x) M M') :=
  v_X8_four_0 (s_X8_four_loop M x hn 4 0 rfl M ⟨e, fun i => by rw [if_neg (by omega)], fun _ _ _ _ => rfl, rfl⟩)
theorem s_X8_four5 (M : jM) (x1 x2 x3 x4 x5 : Int32) {n : Nat} (hn : n + 20 ≤ 100) (e : M.1 67 2 = nI n) {P : jM → Prop} (k : ∀ M', fWr 67 2 68 n 20 (fAll x1 x2 x3 x4 x5) M M' → P M') :
    jEv nX8_four (0, [(0, .ref 67), (1, .int x1)], [], M) (fun o1 M2 => o1 = some none ∧ (jEv nX8_four (0, [(0, .ref 67), (1, .int x2)], [], M2) (fun o3 M4 => o3 = some none ∧ (jEv nX8_four (0, [(0, .ref 67), (1, .int x3)], [], M4) (fun o5 M6 => o5 = some none ∧ (jEv nX8_four (0, [(0, .ref 67), (1, .int x4)], [], M6) (fun o7 M8 => o7 = some none ∧ (jEv nX8_four (0, [(0, .ref 67), (1, .int x5)], [], M8) (fun o9 M10 => o9 = some none ∧ P M10))))))))) := by
  refine jEv.mono (s_X8_four M x1 (by omega) e) (fun o1 M1 h1 => ⟨h1.1, ?_⟩)
  have w1 := h1.2
  refine jEv.mono (s_X8_four M1 x2 (n := n + 4) (by omega) w1.1) (fun o2 M2 h2 => ⟨h2.1, ?_⟩)
  have w2 := w1.then h2.2
  refine jEv.mono (s_X8_four M2 x3 (n := n + 8) (by omega) w2.1) (fun o3 M3 h3 => ⟨h3.1, ?_⟩)
  have w3 := w2.then h3.2
  refine jEv.mono (s_X8_four M3 x4 (n := n + 12) (by omega) w3.1) (fun o4 M4 h4 => ⟨h4.1, ?_⟩)
  have w4 := w3.then h4.2
  refine jEv.mono (s_X8_four M4 x5 (n := n + 16) (by omega) w4.1) (fun o5 M5 h5 => ⟨h5.1, ?_⟩)
  exact k M5 (w4.then h5.2)
theorem op_feed {M : jM} (h : iInv M) (x1 x2 x3 x4 x5 : Int32) : jBoth nX7_feed nX8_feed [(0, .ref 0), (1, .int x1), (2, .int x2), (3, .int x3), (4, .int x4), (5, .int x5)] [(0, .ref 67), (1, .int x1), (2, .int x2), (3, .int x3), (4, .int x4), (5, .int x5)] M := by
  obtain ⟨n, t1, t2, t3, t4⟩ := h.1
  have hsum : nI n + 20 ≤ 100 ↔ n + 20 ≤ 100 := by
    rw [show (20 : Int32) = nI 20 from rfl, nI_add, show (100 : Int32) = nI 100 from rfl]
    exact nI_leI (by omega) (by omega)
  refine v_X7_feed_0 ⟨fun q => ?_, fun q => ⟨-1, rfl, ?_⟩⟩
  · rw [t2, hsum] at q
    refine s_X6_append5 M x1 x2 x3 x4 x5 q t2 (fun M1 w1 => ⟨_, rfl, ?_⟩)
    refine v_X8_feed_0 (fun M2 e2 => ?_)
    have e3 : M2.1 67 2 = nI n := by rw [e2, jsi_at, if_neg (by decide), w1.2.2.1 67 2 (by decide) (by decide)]; exact t3
    refine ⟨fun _ => ?_, fun z => absurd (by rw [e3, hsum]; exact q) z⟩
    refine s_X8_four5 M2 x1 x2 x3 x4 x5 q e3 (fun M3 w3 => ⟨by rw [w3.1, w1.1], ?_⟩)
    have k1 : ∀ a k, a ≠ 2 → ¬ (a = 1 ∧ k = 1) → a ≠ 68 → ¬ (a = 67 ∧ k = 2) → ¬ (a = 67 ∧ k = 0) → M3.1 a k = M.1 a k := by
      intro a k z1 z2 z3 z4 z5
      rw [w3.2.2.1 a k z3 z4, e2, jsi_at, if_neg z5, w1.2.2.1 a k z1 z2]
    have k2 : M3.2 = M.2 := by rw [w3.2.2.2, e2]; exact w1.2.2.2
    have k3 : ∀ i, M3.1 2 i = if n ≤ i ∧ i < n + 20 then fAll x1 x2 x3 x4 x5 (i - n) else M.1 2 i := fun i => by rw [w3.2.2.1 2 i (by decide) (by omega), e2, jsi_at, if_neg (by omega), w1.2.1 i]
    have k4 : ∀ i, M3.1 68 i = if n ≤ i ∧ i < n + 20 then fAll x1 x2 x3 x4 x5 (i - n) else M.1 68 i := fun i => by
      rw [w3.2.1 i]
      split
      · rfl
      · rw [e2, jsi_at, if_neg (by omega), w1.2.2.1 68 i (by decide) (by omega)]
    refine h.tape ⟨n + 20, q, ?_, w3.1, fun i hi => ?_⟩ (fun a k z1 z2 z3 z4 _ _ _ _ _ => k1 a k z2 (by omega) z3 (by omega) (by omega)) (fun a k _ => by rw [k2])
    · rw [w3.2.2.1 1 1 (by decide) (by decide), e2, jsi_at, if_neg (by decide)]; exact w1.1
    · rw [k3 i, k4 i]
      split
      · exact ⟨rfl, fAll_rng x1 x2 x3 x4 x5 (i - n)⟩
      · exact t4 i hi
  · refine v_X8_feed_0 (fun M2 e2 => ⟨fun z => ?_, fun _ => ⟨rfl, h.kp (kp67 e2)⟩⟩)
    rw [e2, jsi_at, if_neg (by decide), t3] at z
    rw [t2] at q
    exact absurd z q
