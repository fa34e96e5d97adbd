/-! WHAT HOLDS BETWEEN TWO CALLS: the class's part of memory beside the model's -/
def iTape (M : jM) : Prop := ∃ n : Nat, n ≤ 100 ∧ M.1 1 1 = nI n ∧ M.1 67 2 = nI n ∧ ∀ i, i < 100 → M.1 68 i = M.1 2 i ∧ -128 ≤ (M.1 2 i).toInt ∧ (M.1 2 i).toInt ≤ 127
def iRule (M : jM) (j : Nat) : Prop := (M.1 (4 + 4 * j) 0 = 0 ∧ M.1 69 j = 0) ∨ (M.1 (4 + 4 * j) 0 = 1 ∧ M.1 69 j = 1 ∧ ∃ q p m s : Nat, 1 ≤ q ∧ q ≤ 4 ∧ p ≤ 3 ∧ m ≤ 3 ∧ 1 ≤ s ∧ s ≤ 20 ∧
  M.1 (4 + 4 * j) 1 = nI q ∧ M.1 70 j = nI q ∧ M.1 (4 + 4 * j) 2 = nI p ∧ M.1 71 j = nI p ∧ M.1 (4 + 4 * j) 3 = nI m ∧ M.1 72 j = nI m ∧ M.1 (4 + 4 * j) 4 = nI s ∧ M.1 73 j = nI s ∧
  (∀ k, 1 ≤ k → k < 4 → M.1 (4 + 4 * j + 1) k = M.1 74 (4 * j + k) ∧ -8 ≤ (M.1 74 (4 * j + k)).toInt ∧ (M.1 74 (4 * j + k)).toInt ≤ 8 ∧ (p < k → M.1 74 (4 * j + k) = 0)) ∧
  (∀ k, 1 ≤ k → k < 4 → M.1 (4 + 4 * j + 2) k = M.1 75 (4 * j + k) ∧ -8 ≤ (M.1 75 (4 * j + k)).toInt ∧ (M.1 75 (4 * j + k)).toInt ≤ 8 ∧ (m < k → M.1 75 (4 * j + k) = 0)))
def iLik (M : jM) (j : Nat) : Prop := ∃ n : Nat, n ≤ 5 ∧ M.1 (29 + 2 * j) 1 = nI n ∧ M.1 86 j = nI n ∧ (∀ k, k < n → M.1 (29 + 2 * j + 1) k = M.1 85 (5 * j + k)) ∧
  (0 < n → 1 ≤ (M.1 85 (5 * j)).toInt ∧ (M.1 85 (5 * j)).toInt ≤ 1000) ∧ ∀ k, k < n → -(M.1 85 (5 * j)).toInt ≤ (M.1 85 (5 * j + k)).toInt ∧ (M.1 85 (5 * j + k)).toInt ≤ (M.1 85 (5 * j)).toInt
def iRow (M : jM) : Prop := ∃ n : Nat, n ≤ 60 ∧ M.1 41 2 = nI n ∧ M.1 67 27 = nI n ∧ ∀ t, t < n → M.1 42 t = M.1 90 t ∧ (M.1 90 t = 100 ∨ (-20 ≤ (M.1 90 t).toInt ∧ (M.1 90 t).toInt ≤ 20))
def iFill (M : jM) : Prop := (M.1 67 30 = 0 ∧ M.1 0 13 = 0) ∨ (M.1 67 30 = 1 ∧ ∃ g : Nat, 1 ≤ g ∧ g ≤ 3 ∧ M.1 0 13 = nI g ∧ M.1 67 31 = nI g ∧ ∀ i, i < g → M.2 (63 + i) 0 = M.2 94 i ∧ M.2 (63 + i) 1 = M.2 95 i)
def iDrop (M : jM) : Prop := (M.1 67 36 = 0 ∧ M.1 0 15 = 0) ∨ (M.1 67 36 = 1 ∧ M.1 0 15 = 1 ∧ M.2 66 0 = M.2 67 37 ∧ M.2 66 1 = M.2 67 38)
def iInv (M : jM) : Prop := iTape M ∧ (∀ j, j < 6 → iRule M j) ∧ (∀ j, j < 6 → iLik M j) ∧ iRow M ∧ iFill M ∧ iDrop M
/-- nothing but scratch has changed -/
def iKp (M M' : jM) : Prop := (∀ a k, a ≠ 43 → a ≠ 59 → a ≠ 87 → a ≠ 89 → a ≠ 93 → ¬ (a = 67 ∧ k = 0) → M'.1 a k = M.1 a k) ∧ (∀ a k, ((63 ≤ a ∧ a ≤ 66) ∨ (a = 67 ∧ 37 ≤ k) ∨ a = 94 ∨ a = 95 ∨ a = 97) → M'.2 a k = M.2 a k)
theorem iKp.rfl' (M : jM) : iKp M M := ⟨fun _ _ _ _ _ _ _ _ => rfl, fun _ _ _ => rfl⟩
theorem iKp.trans {M1 M2 M3 : jM} (h : iKp M1 M2) (g : iKp M2 M3) : iKp M1 M3 :=
  ⟨fun a k h1 h2 h3 h4 h5 h6 => (g.1 a k h1 h2 h3 h4 h5 h6).trans (h.1 a k h1 h2 h3 h4 h5 h6), fun a k h1 => (g.2 a k h1).trans (h.2 a k h1)⟩
theorem iKp.si {M M' : jM} (h : iKp M M') {a k : Nat} {v : Int32} (ha : a = 43 ∨ a = 59 ∨ a = 87 ∨ a = 89 ∨ a = 93 ∨ (a = 67 ∧ k = 0)) : iKp M (jsi M' a k v) := by
  refine ⟨fun b q h1 h2 h3 h4 h5 h6 => ?_, fun b q h1 => h.2 b q h1⟩
  show (if b = a ∧ q = k then v else M'.1 b q) = M.1 b q
  rw [if_neg (by rintro ⟨rfl, rfl⟩; omega)]
  exact h.1 b q h1 h2 h3 h4 h5 h6
theorem iKp.sl {M M' : jM} (h : iKp M M') {a k : Nat} {v : Int64} (ha : ¬ ((63 ≤ a ∧ a ≤ 66) ∨ (a = 67 ∧ 37 ≤ k) ∨ a = 94 ∨ a = 95 ∨ a = 97)) : iKp M (jsl M' a k v) := by
  refine ⟨h.1, fun b q h1 => ?_⟩
  show (if b = a ∧ q = k then v else M'.2 b q) = M.2 b q
  rw [if_neg (by rintro ⟨rfl, rfl⟩; exact ha h1)]
  exact h.2 b q h1
theorem iTape.cg {M M' : jM} (h : iTape M) (e : ∀ a k, ((a = 1 ∧ k = 1) ∨ a = 2 ∨ a = 68 ∨ (a = 67 ∧ k = 2)) → M'.1 a k = M.1 a k) : iTape M' := by
  obtain ⟨n, h1, h2, h3, h4⟩ := h
  refine ⟨n, h1, ?_, ?_, fun i hi => ?_⟩
  · rw [e 1 1 (by omega)]; exact h2
  · rw [e 67 2 (by omega)]; exact h3
  · rw [e 68 i (by omega), e 2 i (by omega)]
    exact h4 i hi
theorem iRule.cg {M M' : jM} {j : Nat} (h : iRule M j) (e : ∀ a k, ((4 + 4 * j ≤ a ∧ a < 4 + 4 * j + 3) ∨ (69 ≤ a ∧ a ≤ 73 ∧ k = j) ∨ ((a = 74 ∨ a = 75) ∧ 4 * j < k ∧ k < 4 * j + 4)) → M'.1 a k = M.1 a k) : iRule M' j := by
  unfold iRule at h ⊢
  rw [e (4 + 4 * j) 0 (by omega), e (4 + 4 * j) 1 (by omega), e (4 + 4 * j) 2 (by omega), e (4 + 4 * j) 3 (by omega), e (4 + 4 * j) 4 (by omega), e 69 j (by omega), e 70 j (by omega), e 71 j (by omega), e 72 j (by omega), e 73 j (by omega)]
  rcases h with h | ⟨h1, h2, q, p, m, s, r1, r2, r3, r4, r5, r6, r7, r8, r9, r10, r11, r12, r13, r14, r15, r16⟩
  · exact Or.inl h
  · refine Or.inr ⟨h1, h2, q, p, m, s, r1, r2, r3, r4, r5, r6, r7, r8, r9, r10, r11, r12, r13, r14, fun k k1 k2 => ?_, fun k k1 k2 => ?_⟩
    · rw [e (4 + 4 * j + 1) k (by omega), e 74 (4 * j + k) (by omega)]
      exact r15 k k1 k2
    · rw [e (4 + 4 * j + 2) k (by omega), e 75 (4 * j + k) (by omega)]
      exact r16 k k1 k2
theorem iLik.cg {M M' : jM} {j : Nat} (h : iLik M j) (e : ∀ a k, ((29 + 2 * j ≤ a ∧ a < 29 + 2 * j + 2) ∨ (a = 86 ∧ k = j) ∨ (a = 85 ∧ 5 * j ≤ k ∧ k < 5 * j + 5)) → M'.1 a k = M.1 a k) : iLik M' j := by
  obtain ⟨n, h1, h2, h3, h4, h5, h6⟩ := h
  refine ⟨n, h1, ?_, ?_, fun k hk => ?_, fun h0 => ?_, fun k hk => ?_⟩
  · rw [e (29 + 2 * j) 1 (by omega)]; exact h2
  · rw [e 86 j (by omega)]; exact h3
  · rw [e (29 + 2 * j + 1) k (by omega), e 85 (5 * j + k) (by omega)]; exact h4 k hk
  · rw [e 85 (5 * j) (by omega)]; exact h5 h0
  · rw [e 85 (5 * j) (by omega), e 85 (5 * j + k) (by omega)]; exact h6 k hk
theorem iRow.cg {M M' : jM} (h : iRow M) (e : ∀ a k, ((a = 41 ∧ k = 2) ∨ a = 42 ∨ a = 90 ∨ (a = 67 ∧ k = 27)) → M'.1 a k = M.1 a k) : iRow M' := by
  obtain ⟨n, h1, h2, h3, h4⟩ := h
  refine ⟨n, h1, ?_, ?_, fun t ht => ?_⟩
  · rw [e 41 2 (by omega)]; exact h2
  · rw [e 67 27 (by omega)]; exact h3
  · rw [e 42 t (by omega), e 90 t (by omega)]; exact h4 t ht
theorem iFill.cg {M M' : jM} (h : iFill M) (e : ∀ a k, ((a = 67 ∧ (k = 30 ∨ k = 31)) ∨ (a = 0 ∧ k = 13)) → M'.1 a k = M.1 a k) (e2 : ∀ a k, ((63 ≤ a ∧ a ≤ 65) ∨ a = 94 ∨ a = 95) → M'.2 a k = M.2 a k) : iFill M' := by
  unfold iFill at h ⊢
  rw [e 67 30 (by omega), e 67 31 (by omega), e 0 13 (by omega)]
  rcases h with h | ⟨h1, g, h2, h3, h4, h5, h6⟩
  · exact Or.inl h
  · refine Or.inr ⟨h1, g, h2, h3, h4, h5, fun i hi => ?_⟩
    rw [e2 (63 + i) 0 (by omega), e2 (63 + i) 1 (by omega), e2 94 i (by omega), e2 95 i (by omega)]
    exact h6 i hi
theorem iDrop.cg {M M' : jM} (h : iDrop M) (e : ∀ a k, ((a = 67 ∧ k = 36) ∨ (a = 0 ∧ k = 15)) → M'.1 a k = M.1 a k) (e2 : ∀ a k, ((a = 66 ∧ k < 2) ∨ (a = 67 ∧ (k = 37 ∨ k = 38))) → M'.2 a k = M.2 a k) : iDrop M' := by
  unfold iDrop at h ⊢
  rw [e 67 36 (by omega), e 0 15 (by omega), e2 66 0 (by omega), e2 66 1 (by omega), e2 67 37 (by omega), e2 67 38 (by omega)]
  exact h
theorem iInv.kp {M M' : jM} (h : iInv M) (k : iKp M M') : iInv M' := by
  refine ⟨h.1.cg fun a q z => k.1 a q (by omega) (by omega) (by omega) (by omega) (by omega) (by omega), fun j hj => (h.2.1 j hj).cg fun a q z => k.1 a q (by omega) (by omega) (by omega) (by omega) (by omega) (by omega), fun j hj => (h.2.2.1 j hj).cg fun a q z => k.1 a q (by omega) (by omega) (by omega) (by omega) (by omega) (by omega), h.2.2.2.1.cg fun a q z => k.1 a q (by omega) (by omega) (by omega) (by omega) (by omega) (by omega), ?_, ?_⟩
  · exact h.2.2.2.2.1.cg (fun a q z => k.1 a q (by omega) (by omega) (by omega) (by omega) (by omega) (by omega)) (fun a q z => k.2 a q (by omega))
  · exact h.2.2.2.2.2.cg (fun a q z => k.1 a q (by omega) (by omega) (by omega) (by omega) (by omega) (by omega)) (fun a q z => k.2 a q (by omega))
/-- the tape alone has changed, and scratch -/
theorem iInv.tape {M M' : jM} (h : iInv M) (t : iTape M') (e : ∀ a k, a ≠ 1 → a ≠ 2 → a ≠ 68 → ¬ (a = 67 ∧ (k = 0 ∨ k = 2)) → a ≠ 43 → a ≠ 59 → a ≠ 87 → a ≠ 89 → a ≠ 93 → M'.1 a k = M.1 a k) (e2 : ∀ a k, ((63 ≤ a ∧ a ≤ 66) ∨ (a = 67 ∧ 37 ≤ k) ∨ a = 94 ∨ a = 95 ∨ a = 97) → M'.2 a k = M.2 a k) : iInv M' := by
  refine ⟨t, fun j hj => (h.2.1 j hj).cg fun a q z => e a q (by omega) (by omega) (by omega) (by omega) (by omega) (by omega) (by omega) (by omega) (by omega), fun j hj => (h.2.2.1 j hj).cg fun a q z => e a q (by omega) (by omega) (by omega) (by omega) (by omega) (by omega) (by omega) (by omega) (by omega), h.2.2.2.1.cg fun a q z => e a q (by omega) (by omega) (by omega) (by omega) (by omega) (by omega) (by omega) (by omega) (by omega), ?_, ?_⟩
  · exact h.2.2.2.2.1.cg (fun a q z => e a q (by omega) (by omega) (by omega) (by omega) (by omega) (by omega) (by omega) (by omega) (by omega)) (fun a q z => e2 a q (by omega))
  · exact h.2.2.2.2.2.cg (fun a q z => e a q (by omega) (by omega) (by omega) (by omega) (by omega) (by omega) (by omega) (by omega) (by omega)) (fun a q z => e2 a q (by omega))
/-! what a method comes to is one thing: a spec is a rewriting -/
theorem jrun_one {T : jT} {n n' y : Nat} {c o o' : jC} (h : jrun T n y c = some o) (h' : jrun T n' y c = some o') : o = o' := by
  have a := jrun_add h n'
  have b := jrun_add h' n
  rw [Nat.add_comm] at b
  exact Option.some.inj (a.symm.trans b)
theorem jFin_one {y : Nat} {o : jC} {K K' : jK} (h : jFin y o K) (h' : jFin y o K') : ∃ v M, K v M ∧ K' v M := by
  rcases h with ⟨E, r, v, h1, h2, h3, h4⟩ | ⟨k, h1, h0, h2⟩
  · rcases h' with ⟨E', r', v', g1, g2, g3, g4⟩ | ⟨k', g1, g0, g2⟩
    · cases h1.symm.trans g1
      cases h2.symm.trans g2
      cases h3.symm.trans g3
      exact ⟨_, _, h4, g4⟩
    · cases h2.symm.trans g1
      cases h3
  · rcases h' with ⟨E', r', v', g1, g2, g3, g4⟩ | ⟨k', g1, g0, g2⟩
    · cases h1.symm.trans g2
      cases g3
    · exact ⟨_, _, h2, g2⟩
theorem jEv.both {y : Nat} {c : jC} {K K' : jK} (h : jEv y c K) (h' : jEv y c K') : ∃ v M, K v M ∧ K' v M := by
  obtain ⟨n, o, h1, h2⟩ := h
  obtain ⟨n', o', g1, g2⟩ := h'
  cases jrun_one h1 g1
  exact jFin_one h2 g2
/-- y from c on comes to v and M -/
def jTo (y : Nat) (c : jC) (v : Option (Option Value)) (M : jM) : Prop := jEv y c (fun o M' => o = v ∧ M' = M)
theorem jTo.iff {y : Nat} {c : jC} {v : Option (Option Value)} {M : jM} (h : jTo y c v M) (K : jK) : jEv y c K ↔ K v M := by
  constructor
  · intro g
    obtain ⟨v', M', ⟨rfl, rfl⟩, g2⟩ := jEv.both h g
    exact g2
  · intro g
    exact jEv.mono h (fun o M' e => by rw [e.1, e.2]; exact g)
/-- both calls answer alike, and all holds again -/
def jBoth (yc ym : Nat) (Lc Lm : List (Nat × Value)) (M : jM) : Prop := jEv yc (0, Lc, [], M) (fun o1 M1 => ∃ r : Int32, o1 = some (some (.int r)) ∧ jEv ym (0, Lm, [], M1) (fun o2 M2 => o2 = some (some (.int r)) ∧ iInv M2))
/-- the class throws and the model marks it, or both tell the same long (the law keeps the class's in its own row) -/
def jBothX (yc ym : Nat) (Lc Lm : List (Nat × Value)) (M : jM) : Prop := jEv yc (0, Lc, [], M) (fun o1 M1 =>
  (o1 = none ∧ jEv ym (0, Lm, [], M1) (fun o2 M2 => ∃ b : Int64, o2 = some (some (.long b)) ∧ M2.1 67 0 = 1 ∧ iInv M2)) ∨
  (∃ v : Int64, o1 = some (some (.long v)) ∧ jEv ym (0, Lm, [], jsl M1 97 0 v) (fun o2 M2 => o2 = some (some (.long v)) ∧ M2.1 67 0 = 0 ∧ M2.2 97 0 = v ∧ iInv M2)))
theorem iInv.out {M : jM} (h : iInv M) (v : Int64) : iInv (jsl M 97 0 v) := by
  obtain ⟨h1, h2, h3, h4, h5, h6⟩ := h
  refine ⟨h1, h2, h3, h4, ?_, ?_⟩
  · rcases h5 with h | ⟨q1, g, q2, q3, q4, q5, q6⟩
    · exact Or.inl h
    · refine Or.inr ⟨q1, g, q2, q3, q4, q5, fun i hi => ?_⟩
      show (if 63 + i = 97 ∧ 0 = 0 then v else M.2 (63 + i) 0) = (if 94 = 97 ∧ i = 0 then v else M.2 94 i) ∧ (if 63 + i = 97 ∧ 1 = 0 then v else M.2 (63 + i) 1) = (if 95 = 97 ∧ i = 0 then v else M.2 95 i)
      rw [if_neg (by omega), if_neg (by omega), if_neg (by omega), if_neg (by omega)]
      exact q6 i hi
  · exact h6
