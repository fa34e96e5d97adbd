section KMna
variable {α0 : Nat → Nat} {n0 : Nat} {cA : Nat → ClassId} {D : va_G} {A : Nat → Prop} {p : Program} {l : Launch} {e : Env} {R : Room} {s : State} {m : MethodId} {args : Array Value} {below : List Frame} {meth : Method} {c : Code} {Q : State → Prop} {E : kE}
variable {pc : Nat} {L : List (Nat × Value)} {S : List Value} {cs : List kC} {nc ns : Nat} {g : kF}
theorem kW_app5 {α : Nat → Nat} {x1 x2 x3 x4 x5 : kC} : kW α cA (cs ++ [x1, x2, x3, x4, x5]) = kW α cA cs ++ [(α cs.length, kcell α cA x1), (α (cs.length + 1), kcell α cA x2), (α (cs.length + 2), kcell α cA x3), (α (cs.length + 3), kcell α cA x4), (α (cs.length + 4), kcell α cA x5)] := by
  have e : cs ++ [x1, x2, x3, x4, x5] = ((((cs ++ [x1]) ++ [x2]) ++ [x3]) ++ [x4]) ++ [x5] := by simp
  rw [e, kW_app, kW_app, kW_app, kW_app, kW_app]
  simp
/-- five names more -/
def kup5 (α : Nat → Nat) (n q : Nat) (r : Nat → Nat) : Nat → Nat := fun i => if i = n then q else if n < i ∧ i < n + 5 then r (i - n - 1) else α i
theorem kup5_lt {α : Nat → Nat} {n q i : Nat} {r : Nat → Nat} (hn : n + 6 ≤ 1000) (h : i < n ∨ 1000 ≤ i) : kup5 α n q r i = α i := by
  unfold kup5
  rw [if_neg (by omega), if_neg (by omega)]
theorem kup5_0 (α : Nat → Nat) (n q : Nat) (r : Nat → Nat) : kup5 α n q r n = q := if_pos rfl
theorem kup5_s (α : Nat → Nat) (n q j : Nat) (r : Nat → Nat) (h : j < 4) : kup5 α n q r (n + (j + 1)) = r j := by
  unfold kup5
  rw [if_neg (by omega), if_pos (by omega)]
  congr 1
  omega
set_option maxHeartbeats 4000000 in
theorem kone_mna (X : kX E cA D A p R s m args meth c) {i d : Nat} (hd : decode E.2.1 pc = .ok (.multianewarray i d, 4)) (h : kone E (.multianewarray i d) (pc, L, S, cs, nc, ns) = some g)
    (k : kG α0 n0 cA D A E.2.2.1 p l e R s m args below meth c Q g) : kG α0 n0 cA D A E.2.2.1 p l e R s m args below meth c Q (pc, L, S, cs, nc, ns) := by
  obtain ⟨hx, hb, hml, hown, hts, hnw, hK, hao, hA, hin, hfr, hlo, hce, hsl⟩ := X
  intro α H locs ls e1 e2 hP hD hS hl
  unfold kone at h
  dsimp only at h
  split at h
  · next x y S' =>
    by_cases hcc : E.2.2.2.1 = 0 ∧ i = 9 ∧ d = 2 ∧ x = 4 ∧ y = 4 ∧ kall (pc, L, .int x :: .int y :: S', cs, nc, ns) = true ∧ nc + 5 ≤ E.2.2.2.2.2.1 ∧ ns + 20 ≤ E.2.2.2.2.2.2
    · rw [if_pos hcc] at h
      obtain ⟨c1, rfl, rfl, rfl, rfl, c6, c7, c8⟩ := hcc
      cases h
      rw [c1] at hown
      have hw : Cond.classLink (kcls 0) 9 ("[" ++ (FieldType.array .long).toString) ∈ jGW := jGW_of (by decide +kernel)
      have hcy : s.vm.findClass (FieldType.array .long).toString = some (cA 3) := (hK.2 3 _ (jtys_at cA (by decide))).2
      refine va_mna (X := kW α cA cs) (L := []) (f := fun _ => .inr (0, [])) (ty := .long) (cy := cA 3) (z := (4, .inr (.inl (fun _ => 0)))) (N' := 4) (K' := 4) hx hb hown (hts _ hw) (hao _ (by decide)) (hts _ (kwt (t := 3) (by decide))) hcy hK (by rw [show va_pl [] (fun _ => (.inr (0, []) : va_E)) = [] from rfl, List.append_nil]; exact hP) (by rw [show va_pl [] (fun _ => (.inr (0, []) : va_E)) = [] from rfl, List.append_nil]; exact hD) hS hA (by decide) (by decide) (by decide) (by decide) (by decide) (by decide) (by decide) (by decide) (by decide) (by dsimp only; omega) (by dsimp only; omega) (fun c => ?_) hd (fun q r cA' H1 r1 r2 hK1 hP1 hD1 hS1 => ?_)
      · show _ = arrV c 4 (fun _ => Value.long 0)
        rw [← arrV_new]
        rfl
      · have ec := kcA (t := 7) hK (by decide) hK1
        subst ec
        obtain ⟨a1, a2, a3, a4⟩ := kall_spec c6
        dsimp only at a1 a2 a3 a4 e2
        have hext : ∀ j, (j < cs.length ∨ 1000 ≤ j) → kup5 α cs.length q r j = α j := fun j hj => kup5_lt a1 hj
        have a5 : S'.all (kok cs.length) = true := List.all_eq_true.mpr fun v hv => List.all_eq_true.mp a4 v (List.mem_cons_of_mem _ (List.mem_cons_of_mem _ hv))
        have u0 := kup5_0 α cs.length q r
        have u1 : kup5 α cs.length q r (cs.length + 1) = r 0 := kup5_s α cs.length q 0 r (by decide)
        have u2 : kup5 α cs.length q r (cs.length + 2) = r 1 := kup5_s α cs.length q 1 r (by decide)
        have u3 : kup5 α cs.length q r (cs.length + 3) = r 2 := kup5_s α cs.length q 2 r (by decide)
        have u4 : kup5 α cs.length q r (cs.length + 4) = r 3 := kup5_s α cs.length q 3 r (by decide)
        have hout : kcell (kup5 α cs.length q r) cA (.inr (7, 4, [some (cs.length + 1), some (cs.length + 2), some (cs.length + 3), some (cs.length + 4)])) = .inl (cA 7, 4, .inr (.inr (.inr (.inr (fun i => if i < 4 then some (r i) else none))))) := by
          simp only [kcell, if_neg (show ¬ (7 : Nat) = 3 by decide), if_neg (show ¬ (7 : Nat) < 3 by decide)]
          congr 7
          funext j
          match j with
          | 0 => simp [u1]
          | 1 => simp [u2]
          | 2 => simp [u3]
          | 3 => simp [u4]
          | j + 4 => simp
        have hpl : va_pl ([] ++ (List.range 4).map r) (vr_up (fun _ => (.inr (0, []) : va_E)) ((List.range 4).map r) (.inl (cA 3, 4, .inr (.inl (fun _ => 0))))) = [(r 0, .inl (cA 3, 4, .inr (.inl (fun _ => 0)))), (r 1, .inl (cA 3, 4, .inr (.inl (fun _ => 0)))), (r 2, .inl (cA 3, 4, .inr (.inl (fun _ => 0)))), (r 3, .inl (cA 3, 4, .inr (.inl (fun _ => 0))))] := by
          show [(r 0, vr_up _ [r 0, r 1, r 2, r 3] _ (r 0)), (r 1, vr_up _ [r 0, r 1, r 2, r 3] _ (r 1)), (r 2, vr_up _ [r 0, r 1, r 2, r 3] _ (r 2)), (r 3, vr_up _ [r 0, r 1, r 2, r 3] _ (r 3))] = _
          rw [vr_up_in (by simp), vr_up_in (by simp), vr_up_in (by simp), vr_up_in (by simp)]
        have hw5 : kW (kup5 α cs.length q r) cA (cs ++ [.inr (7, 4, [some (cs.length + 1), some (cs.length + 2), some (cs.length + 3), some (cs.length + 4)]), .inr (3, 4, []), .inr (3, 4, []), .inr (3, 4, []), .inr (3, 4, [])]) = (kW α cA cs ++ [(q, .inl (cA 7, 4, .inr (.inr (.inr (.inr (fun i => if i < 4 then some (r i) else none))))))]) ++ va_pl ([] ++ (List.range 4).map r) (vr_up (fun _ => (.inr (0, []) : va_E)) ((List.range 4).map r) (.inl (cA 3, 4, .inr (.inl (fun _ => 0))))) := by
          rw [kW_app5, kW_ext hext a2, u0, u1, u2, u3, u4, hout, hpl, List.append_assoc]
          rfl
        have := k (kup5 α cs.length q r) H1 locs ls (fun j hj => by rw [hext j (by rcases hj with hj | hj; exact Or.inl (by omega); exact Or.inr hj)]; exact e1 j hj) (by simp; omega) (by rw [hw5]; exact hP1) (by rw [hw5]; exact hD1) hS1 (by rw [kL_ext hext a3]; exact hl)
        have e3 : (.ref cs.length :: S').map (jv (kup5 α cs.length q r)) = .ref q :: S'.map (jv α) := by
          rw [List.map_cons, kS_ext hext a5]
          show Value.ref (kup5 α cs.length q r cs.length) :: _ = _
          rw [u0]
        dsimp only at this
        rw [e3] at this
        exact this
    · rw [if_neg hcc] at h; cases h
  · cases h
end KMna
