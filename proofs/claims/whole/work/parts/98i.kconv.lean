def kpi (i : Nat) : Nat := if i < 4 then i else if i = 4 then 28 else if i < 41 then (if (i - 5) % 6 < 4 then 4 + 4 * ((i - 5) / 6) + (i - 5) % 6 else 29 + 2 * ((i - 5) / 6) + ((i - 5) % 6 - 4)) else i
theorem kpi_ck : (List.range 98).all (fun i => Nat.beq (kpi (kpm i)) i) = true := by decide +kernel
theorem kpm_inj {i j : Nat} (hi : i < 98) (hj : j < 98) (h : kpm i = kpm j) : i = j := by
  have h1 := Nat.eq_of_beq_eq_true (List.all_eq_true.mp kpi_ck i (List.mem_range.mpr hi))
  have h2 := Nat.eq_of_beq_eq_true (List.all_eq_true.mp kpi_ck j (List.mem_range.mpr hj))
  rw [h] at h1
  exact h1.symm.trans h2
theorem jSH_len : jSH.length = 98 := by decide +kernel
/-- the law's names for the cells; 98 the script -/
def kal (α : Nat → Nat) : Nat → Nat := fun i => if i = 98 then α 1000 else α (kpm i)
theorem kal_lt {α : Nat → Nat} {i : Nat} (h : i < 98) : kal α i = α (kpm i) := if_neg (by omega)
theorem kbn {b : Bool} (h : (!b) = true) : b = false := by cases b <;> first | rfl | cases h
theorem m0n_i {a : Nat} (h : m0n a = true) : m0I a = fun _ => 0 := by
  funext k
  unfold m0n at h
  rw [Bool.and_eq_true] at h
  unfold m0I
  rw [kbn h.1]
  rfl
theorem m0n_l {a : Nat} (h : m0n a = true) : m0L a = fun _ => 0 := by
  funext k
  unfold m0n at h
  rw [Bool.and_eq_true, Bool.and_eq_true] at h
  unfold m0L
  rw [kbn h.2.1, kbn h.2.2]
  rfl
theorem kmt_ok {α : Nat → Nat} {cA : Nat → ClassId} {i : Nat} {x : jS} {y : kC} (h : kmt i x y = true) : jcell (kal α) cA m0 i x = kcell α cA y := by
  cases x with
  | inl o =>
    cases y with
    | inr _ => cases h
    | inl o' =>
      unfold kmt at h
      simp only [Bool.and_eq_true, decide_eq_true_iff] at h
      obtain ⟨⟨h1, h2⟩, h3⟩ := h
      simp only [jcell, kcell]
      rw [h1, h2]
      congr 2
      apply List.ext_getElem?
      intro k
      simp only [List.getElem?_mapIdx, List.getElem?_map]
      cases hk : o.2[k]? with
      | none => rfl
      | some f =>
        have hf := of_decide_eq_true (List.all_eq_true.mp h3 f (List.mem_of_getElem? hk))
        simp only [Option.map_some, jfv, m0]
        by_cases g1 : f.1 = 1
        · rw [if_pos g1, if_pos g1]; rfl
        · rw [if_neg g1, if_neg g1]
          by_cases g2 : f.1 = 2
          · rw [if_pos g2, if_pos g2]
            show some (Value.ref (kal α f.2)) = some (Value.ref (α (kpm f.2)))
            rw [kal_lt hf]
          · rw [if_neg g2, if_neg g2]; rfl
  | inr r =>
    cases y with
    | inl _ => cases h
    | inr r' =>
      unfold kmt at h
      simp only [Bool.and_eq_true, decide_eq_true_iff] at h
      obtain ⟨⟨⟨⟨h1, h2⟩, h3⟩, h4⟩, h5⟩ := h
      simp only [jcell, kcell]
      rw [← h1, ← h2]
      by_cases g3 : r.1 = 3
      · rw [if_pos g3, if_pos g3]
        show Sum.inl (_, _, Sum.inr (Sum.inl (m0L i))) = _
        rw [m0n_l h3]
      · rw [if_neg g3, if_neg g3]
        by_cases g4 : r.1 < 3
        · rw [if_pos g4, if_pos g4]
          show Sum.inl (_, _, Sum.inl (m0I i)) = _
          rw [m0n_i h3]
        · rw [if_neg g4, if_neg g4, h4 (by omega)]
          congr 7
          funext k
          rw [List.getElem?_map]
          cases hk : r.2.2[k]? with
          | none => rfl
          | some a =>
            have ha := of_decide_eq_true (List.all_eq_true.mp h5 a (List.mem_of_getElem? hk))
            show some (kal α a) = some (α (kpm a))
            rw [kal_lt ha]
theorem kfin_P {D : va_G} {α : Nat → Nat} {cA : Nat → ClassId} {cs : List kC} {H : Heap} (hck : ((List.range 98).all (fun i => match jSH[i]?, cs[kpm i]? with | some x, some y => kmt i x y | _, _ => false)) = true) (hP : va_P D vwCl (kW α cA cs) H) : va_P D vwCl (jW jSH (kal α) cA m0) H := by
  refine hP.by kpm (fun k q hk => ?_)
  unfold jW at hk
  rw [List.getElem?_mapIdx] at hk
  cases hs : jSH[k]? with
  | none => rw [hs] at hk; cases hk
  | some x =>
    rw [hs] at hk
    cases hk
    have hlt : k < 98 := by
      have := (List.getElem?_eq_some_iff.mp hs).1
      rw [jSH_len] at this
      exact this
    have h1 := List.all_eq_true.mp hck k (List.mem_range.mpr hlt)
    rw [hs] at h1
    cases hy : cs[kpm k]? with
    | none => rw [hy] at h1; cases h1
    | some y =>
      rw [hy] at h1
      show _ = some (kal α k, jcell (kal α) cA m0 k x)
      rw [kW_at hy, kmt_ok h1, kal_lt hlt]
theorem kfin_D {α : Nat → Nat} {cA : Nat → ClassId} {cs : List kC} {A : Nat → Prop} (hck : ((List.range 98).all (fun i => match jSH[i]?, cs[kpm i]? with | some x, some y => kmt i x y | _, _ => false)) = true) (hD : va_D A (kW α cA cs)) : ∀ M, va_D A (jW jSH (kal α) cA M) := by
  intro M
  have key : ∀ (k : Nat) (q : Nat × va_E), (jW jSH (kal α) cA M)[k]? = some q → k < 98 ∧ ∃ q', (kW α cA cs)[kpm k]? = some q' ∧ q.1 = q'.1 := by
    intro k q hk
    unfold jW at hk
    rw [List.getElem?_mapIdx] at hk
    cases hs : jSH[k]? with
    | none => rw [hs] at hk; cases hk
    | some x =>
      rw [hs] at hk
      cases hk
      have hlt : k < 98 := by
        have := (List.getElem?_eq_some_iff.mp hs).1
        rw [jSH_len] at this
        exact this
      have h1 := List.all_eq_true.mp hck k (List.mem_range.mpr hlt)
      rw [hs] at h1
      cases hy : cs[kpm k]? with
      | none => rw [hy] at h1; cases h1
      | some y => exact ⟨hlt, _, kW_at hy, kal_lt hlt⟩
  refine ⟨fun i j p q hi hj e => ?_, fun k q hk => ?_⟩
  · obtain ⟨i1, p', i2, i3⟩ := key i p hi
    obtain ⟨j1, q', j2, j3⟩ := key j q hj
    exact kpm_inj i1 j1 (hD.1 _ _ p' q' i2 j2 (by rw [← i3, ← j3]; exact e))
  · obtain ⟨-, q', k2, k3⟩ := key k q hk
    rw [k3]
    exact hD.2 _ q' k2
theorem m0_z {a k : Nat} (h : ¬ (a = 4 ∨ a = 8 ∨ a = 12 ∨ a = 16 ∨ a = 20 ∨ a = 24) ∨ (k ≠ 1 ∧ k ≠ 4)) : m0.1 a k = 0 := by
  show m0I a k = 0
  unfold m0I
  rw [if_neg]
  intro q
  rw [Bool.and_eq_true, Bool.or_eq_true] at q
  obtain ⟨q1, q2⟩ := q
  rcases h with h | ⟨h1, h2⟩
  · apply h
    simpa using q1
  · rcases q2 with q2 | q2
    · exact h1 (Nat.eq_of_beq_eq_true q2)
    · exact h2 (Nat.eq_of_beq_eq_true q2)
theorem m0_inv : iInv m0 := by
  refine ⟨⟨0, by decide, ?_, ?_, fun i hi => ?_⟩, fun j hj => Or.inl ⟨?_, ?_⟩, fun j hj => ⟨0, by decide, ?_, ?_, fun k hk => absurd hk (Nat.not_lt_zero _), fun h => absurd h (Nat.lt_irrefl _), fun k hk => absurd hk (Nat.not_lt_zero _)⟩, ⟨0, by decide, ?_, ?_, fun t ht => absurd ht (Nat.not_lt_zero _)⟩, Or.inl ⟨?_, ?_⟩, Or.inl ⟨?_, ?_⟩⟩
  · rw [m0_z (by omega), nI_0]
  · rw [m0_z (by omega), nI_0]
  · rw [m0_z (by omega), m0_z (by omega)]
    decide
  · exact m0_z (by omega)
  · exact m0_z (by omega)
  · rw [m0_z (by omega), nI_0]
  · rw [m0_z (by omega), nI_0]
  · rw [m0_z (by omega), nI_0]
  · rw [m0_z (by omega), nI_0]
  · exact m0_z (by omega)
  · exact m0_z (by omega)
  · exact m0_z (by omega)
  · exact m0_z (by omega)
