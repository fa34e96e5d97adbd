section KNew
variable {α0 : Nat → Nat} {n0 : Nat} {cA : Nat → ClassId} {D : va_G} {A : Nat → Prop} {p : Program} {l : Launch} {e : Env} {R : Room} {s : State} {m : MethodId} {args : Array Value} {below : List Frame} {meth : Method} {c : Code} {Q : State → Prop} {E : kE}
variable {pc : Nat} {L : List (Nat × Value)} {S : List Value} {cs : List kC} {nc ns : Nat} {g : kF}
theorem kwt {t : Nat} (ht : t < 4) : Cond.arrayClass (jty t) ∈ jGW := by
  match t, ht with
  | 0, _ => exact jGW_of (by decide +kernel)
  | 1, _ => exact jGW_of (by decide +kernel)
  | 2, _ => exact jGW_of (by decide +kernel)
  | 3, _ => exact jGW_of (by decide +kernel)
  | n + 4, h => exact absurd h (by omega)
set_option maxHeartbeats 4000000 in
theorem kone_new (X : kX E cA D A p R s m args meth c) {i : Nat} (hd : decode E.2.1 pc = .ok (.new i, 3)) (h : kone E (.new i) (pc, L, S, cs, nc, ns) = some g)
    (k : kG α0 n0 cA D A E.2.2.1 p l e R s m args below meth c Q g) : kG α0 n0 cA D A E.2.2.1 p l e R s m args below meth c Q (pc, L, S, cs, nc, ns) := by
  obtain ⟨hx, hb, hml, hown, hts, hnw, hK, hao, hA, hin, hfr, hlo, hce, hsl⟩ := X
  intro α H locs ls e1 e2 hP hD hS hl
  unfold kone at h
  dsimp only at h
  split at h
  · next ci hci =>
    split at h
    · next q hq =>
      by_cases hcc : kall (pc, L, S, cs, nc, ns) = true ∧ nc + 1 ≤ E.2.2.2.2.2.1 ∧ ns + q.2.2 ≤ E.2.2.2.2.2.2
      · rw [if_pos hcc] at h
        cases h
        obtain ⟨w1, w2, w3⟩ := kNw_ok hci hq
        obtain ⟨j1, ⟨ty0, j2⟩, j3⟩ := jokC _ q hq
        refine va_new (ci := ci) (fs := kDf q) (C := q.1) (T := q.2.1) (N := q.2.2) hx hb hts j1 ty0 j2 hown (hts _ w1) (hts _ w2) (hts _ w3) hK hP hD hS hA hq (fun j hj => ?_) (by dsimp only; omega) (by dsimp only; omega) hd (fun q9 H1 hP1 hD1 hS1 => ?_)
        · unfold vp_V kDf
          simp [hj, j2 j hj]
        · refine kpush (x := .inl (ci, kDf q)) hcc.1 (fun v hv => hv) (kDf_ok _ _ _) e1 e2 ?_ ?_ hS1 hl k
          · show va_P D vwCl (kW α cA cs ++ [(q9, .inr (ci, (kDf q).map (jv α)))]) H1
            rw [kDf_map]; exact hP1
          · show va_D A (kW α cA cs ++ [(q9, .inr (ci, (kDf q).map (jv α)))])
            rw [kDf_map]; exact hD1
      · rw [if_neg hcc] at h; cases h
    · cases h
  · cases h
theorem kcell_z {α : Nat → Nat} {t n : Nat} (ht : t < 4) : ∃ a0 : vp_A, kcell α cA (.inr (t, n, [])) = .inl (cA t, a0) ∧ ∀ c : ClassId, vp_cell c a0 = arrV c n (fun _ => defaultValue (jty t)) := by
  match t, ht with
  | 0, _ => exact ⟨_, rfl, fun _ => rfl⟩
  | 1, _ => exact ⟨_, rfl, fun _ => rfl⟩
  | 2, _ => exact ⟨_, rfl, fun _ => rfl⟩
  | 3, _ => exact ⟨_, rfl, fun _ => rfl⟩
  | n + 4, h => exact absurd h (by omega)
set_option maxHeartbeats 4000000 in
theorem kone_arr (X : kX E cA D A p R s m args meth c) {at' : ArrayType} (hd : decode E.2.1 pc = .ok (.newarray at', 2)) (h : kone E (.newarray at') (pc, L, S, cs, nc, ns) = some g)
    (k : kG α0 n0 cA D A E.2.2.1 p l e R s m args below meth c Q g) : kG α0 n0 cA D A E.2.2.1 p l e R s m args below meth c Q (pc, L, S, cs, nc, ns) := by
  obtain ⟨hx, hb, hml, hown, hts, hnw, hK, hao, hA, hin, hfr, hlo, hce, hsl⟩ := X
  intro α H locs ls e1 e2 hP hD hS hl
  unfold kone at h
  dsimp only at h
  split at h
  · next t x S' ht9 =>
    by_cases hcc : kall (pc, L, .int x :: S', cs, nc, ns) = true ∧ ¬ x < 0 ∧ x.toNatClampNeg ≤ 200 ∧ nc + 1 ≤ E.2.2.2.2.2.1 ∧ ns + x.toNatClampNeg ≤ E.2.2.2.2.2.2
    · rw [if_pos hcc] at h
      obtain ⟨c1, c2, c3, c4, c5⟩ := hcc
      cases h
      have hty : t < 4 ∧ newarray.typeOf at' = jty t := by
        cases at' <;> first | (cases ht9; done) | (cases ht9; exact ⟨by decide, rfl⟩)
      obtain ⟨a0, z1, z2⟩ := kcell_z (α := α) (cA := cA) (n := x.toNatClampNeg) hty.1
      have hw := kwt hty.1
      rw [← hty.2] at hw
      have hbt : x.toNatClampNeg * componentBytes (jty t) ≤ 536870912 := by
        have : componentBytes (jty t) ≤ 8 := by
          obtain ⟨h4, -⟩ := hty
          match t, h4 with
          | 0, _ => decide
          | 1, _ => decide
          | 2, _ => decide
          | 3, _ => decide
          | n + 4, h => exact absurd h (by omega)
        have := Nat.mul_le_mul c3 this
        omega
      refine va_newa (a0 := a0) (ty := jty t) hx hb (hts _ hw) hty.2 hK hP hD hS hA z2 c2 rfl hbt (by dsimp only; omega) (by dsimp only; omega) hd (fun q9 cA' H1 hK1 hP1 hD1 hS1 => ?_)
      have ec := kcA hK (by omega) hK1
      subst ec
      refine kpush (x := .inr (t, x.toNatClampNeg, [])) c1 (fun v hv => List.mem_cons_of_mem _ hv) rfl e1 e2 ?_ ?_ hS1 hl k
      · rw [z1]; exact hP1
      · rw [z1]; exact hD1
    · rw [if_neg hcc] at h; cases h
  · cases h
set_option maxHeartbeats 4000000 in
theorem kone_anew (X : kX E cA D A p R s m args meth c) {i : Nat} (hd : decode E.2.1 pc = .ok (.anewarray i, 3)) (h : kone E (.anewarray i) (pc, L, S, cs, nc, ns) = some g)
    (k : kG α0 n0 cA D A E.2.2.1 p l e R s m args below meth c Q g) : kG α0 n0 cA D A E.2.2.1 p l e R s m args below meth c Q (pc, L, S, cs, nc, ns) := by
  obtain ⟨hx, hb, hml, hown, hts, hnw, hK, hao, hA, hin, hfr, hlo, hce, hsl⟩ := X
  intro α H locs ls e1 e2 hP hD hS hl
  unfold kone at h
  dsimp only at h
  split at h
  · next t x S' ht9 =>
    by_cases hcc : kall (pc, L, .int x :: S', cs, nc, ns) = true ∧ ¬ x < 0 ∧ x.toNatClampNeg ≤ 200 ∧ nc + 1 ≤ E.2.2.2.2.2.1 ∧ ns + x.toNatClampNeg ≤ E.2.2.2.2.2.2
    · rw [if_pos hcc] at h
      obtain ⟨c1, c2, c3, c4, c5⟩ := hcc
      cases h
      obtain ⟨C, y1, y2, y3, y4, y5⟩ := kAr_ok ht9
      refine va_newq (C := C) hx hb hown (hts _ y4) (hao _ y5) hK hP hD hS hA c2 rfl (by omega) (by dsimp only; omega) (by dsimp only; omega) hd (fun q9 cA' H1 hK1 hP1 hD1 hS1 => ?_)
      rw [← y1] at hK1
      have ec := kcA hK y2 hK1
      subst ec
      have z1 : kcell α cA (.inr (t, x.toNatClampNeg, List.replicate x.toNatClampNeg none)) = .inl (cA t, x.toNatClampNeg, .inr (.inr (.inr (.inr (fun _ => none))))) := by
        simp only [kcell, if_neg (show ¬ t = 3 by omega), if_neg (show ¬ t < 3 by omega)]
        congr 7
        funext j
        rw [List.getElem?_replicate]
        split <;> rfl
      refine kpush (x := .inr (t, x.toNatClampNeg, List.replicate x.toNatClampNeg none)) c1 (fun v hv => List.mem_cons_of_mem _ hv) (List.all_eq_true.mpr fun o ho => by rw [List.eq_of_mem_replicate ho]; rfl) e1 e2 ?_ ?_ hS1 hl k
      · rw [z1]; exact hP1
      · rw [z1]; exact hD1
    · rw [if_neg hcc] at h; cases h
  · cases h
end KNew
