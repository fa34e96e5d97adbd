/-! ROWS OF THE LAW -/
/-- the script: cell 98 by name, L ints -/
def lwX (α : Nat → Nat) (A : Nat → Prop) (s : State) (Ln : Nat) (xs : Nat → Int32) : Prop := va_X (α 98) Ln xs s s.heap ∧ α 98 < s.heap.size ∧ ¬ A (α 98)
theorem hlald {E : jE} {pc : Nat} {L : List (Nat × Value)} {M : jM} : jone jT0 E .laload (pc, L, [.int (Int32.ofInt 0), .ref 97], M) = some (pc + 1, L, [.long (M.2 97 0)], M) := by
  show (match jix jSH 97 (Int32.ofInt 0) with | some (t, k, _) => if t = 3 then some (pc + 1, L, [Value.long (M.2 97 k)], M) else none | none => none) = _
  have h : jix jSH 97 (Int32.ofInt 0) = some (3, 0, []) := by decide +kernel
  rw [h]
  rfl
section LawRows
variable {α : Nat → Nat} {cA : Nat → ClassId} {D : va_G} {A : Nat → Prop} {p : Program} {l : Launch} {e : Env} {R : Room} {s : State} {m : MethodId} {args : Array Value} {below : List Frame} {meth : Method} {c : Code} {cells slots : Nat} {Q : State → Prop}
variable {pc : Nat} {L : List (Nat × Value)} {S : List Value} {M : jM} {g : jC} {Ln : Nat} {xs : Nat → Int32}
theorem lwIa (C : lwC eLw lwI α cA D A p l R s m args c) (X : lwX α A s Ln xs) {i : Int32} (hi : lwI pc = some .iaload) (hin : vp_in i Ln)
    (k : jG jSH α cA vwCl D A s.heap 8 p l e R s m args below meth c cells slots Q (pc + 1, L, .int (xs i.toNatClampNeg) :: S, M)) : jG jSH α cA vwCl D A s.heap 8 p l e R s m args below meth c cells slots Q (pc, L, .int i :: .ref 98 :: S, M) := by
  obtain ⟨⟨hx, hb, -⟩, -, -, -, hI, -⟩ := C
  obtain ⟨n, hd, hn⟩ := hI _ _ hi
  have hd := jlen1 hd hn (Nat.succ_ne_zero _)
  exact fun H locs ls hr => va_sld hx hb X.1 X.2.1 X.2.2 hr.2.1 hin hd (k H locs ls hr)
theorem lwLen (C : lwC eLw lwI α cA D A p l R s m args c) (X : lwX α A s Ln xs) (hi : lwI pc = some .arraylength)
    (k : jG jSH α cA vwCl D A s.heap 8 p l e R s m args below meth c cells slots Q (pc + 1, L, .int (Int32.ofNat Ln) :: S, M)) : jG jSH α cA vwCl D A s.heap 8 p l e R s m args below meth c cells slots Q (pc, L, .ref 98 :: S, M) := by
  obtain ⟨⟨hx, hb, -⟩, -, -, -, hI, -⟩ := C
  obtain ⟨n, hd, hn⟩ := hI _ _ hi
  have hd := jlen1 hd hn (Nat.succ_ne_zero _)
  exact fun H locs ls hr => va_slen hx hb X.1 X.2.1 X.2.2 hr.2.1 hd (k H locs ls hr)
/-- script[i + k] -/
theorem lwS (C : lwC eLw lwI α cA D A p l R s m args c) (X : lwX α A s Ln xs) (hce : cells ≤ R.cells ∧ slots ≤ R.slots) {i : Int32} {k : Int} (h0 : lwI pc = some (.aload_n 0)) (h1 : lwI (pc + 1) = some (.iload 4)) (h3 : lwI (pc + 3) = some (.iconst k)) (h4 : lwI (pc + 4) = some .iadd) (h5 : lwI (pc + 5) = some .iaload)
    (l0 : jlk 0 L = some (.ref 98)) (l4 : jlk 4 L = some (.int i)) (hin : vp_in (i + Int32.ofInt k) Ln)
    (kk : jG jSH α cA vwCl D A s.heap 8 p l e R s m args below meth c cells slots Q (pc + 6, L, .int (xs (i + Int32.ofInt k).toNatClampNeg) :: S, M)) : jG jSH α cA vwCl D A s.heap 8 p l e R s m args below meth c cells slots Q (pc, L, S, M) := by
  refine lw1 (E := eLw) C hce h0 (g := (pc + 1, L, .ref 98 :: S, M)) (by show jla (pc, L, S, M) 1 0 = _; unfold jla; rw [l0]) ?_
  refine lw1 (E := eLw) C hce h1 (g := (pc + 3, L, .int i :: .ref 98 :: S, M)) (by show jli (pc + 1, L, _, M) 2 4 = _; unfold jli; rw [l4]) ?_
  refine lw1 (E := eLw) C hce h3 (g := (pc + 4, L, .int (Int32.ofInt k) :: .int i :: .ref 98 :: S, M)) rfl ?_
  refine lw1 (E := eLw) C hce h4 (g := (pc + 5, L, .int (i + Int32.ofInt k) :: .ref 98 :: S, M)) rfl ?_
  exact lwIa C X h5 hin kk
/-- a number as a truth -/
theorem lwZ (C : lwC eLw lwI α cA D A p l R s m args c) (hce : cells ≤ R.cells ∧ slots ≤ R.slots) {x : Int32} (h0 : lwI pc = some (.ifCond .eq 7)) (h3 : lwI (pc + 3) = some (.iconst 1)) (h4 : lwI (pc + 4) = some (.goto 4)) (h7 : lwI (pc + 7) = some (.iconst 0))
    (kk : jG jSH α cA vwCl D A s.heap 8 p l e R s m args below meth c cells slots Q (pc + 8, L, .int (if x = 0 then 0 else 1) :: S, M)) : jG jSH α cA vwCl D A s.heap 8 p l e R s m args below meth c cells slots Q (pc, L, .int x :: S, M) := by
  have t7 : jtg pc 7 = some (pc + 7) := by unfold jtg; rw [if_pos (by omega)]; congr 1
  have t4 : jtg (pc + 4) 4 = some (pc + 8) := by unfold jtg; rw [if_pos (by omega)]; congr 1
  by_cases hx : x = 0
  · rw [if_pos hx] at kk
    refine lw1 (E := eLw) C hce h0 (g := (pc + 7, L, S, M)) (by show jgo (pc, L, _, M) S (decide (x = 0)) 7 = _; rw [decide_eq_true hx]; unfold jgo; rw [t7]; rfl) ?_
    exact lw1 (E := eLw) C hce h7 (g := (pc + 8, L, .int (Int32.ofInt 0) :: S, M)) rfl kk
  · rw [if_neg hx] at kk
    refine lw1 (E := eLw) C hce h0 (g := (pc + 3, L, S, M)) (by show jgo (pc, L, _, M) S (decide (x = 0)) 7 = _; rw [decide_eq_false hx]; unfold jgo; rw [t7]; rfl) ?_
    refine lw1 (E := eLw) C hce h3 (g := (pc + 4, L, .int (Int32.ofInt 1) :: S, M)) rfl ?_
    exact lw1 (E := eLw) C hce h4 (g := (pc + 8, L, .int (Int32.ofInt 1) :: S, M)) (by show jgo (pc + 4, L, _, M) _ true 4 = _; unfold jgo; rw [t4]; rfl) kk
/-- the two answers are the same -/
theorem lwEq (C : lwC eLw lwI α cA D A p l R s m args c) (hce : cells ≤ R.cells ∧ slots ≤ R.slots) {r : Int32} {off : Int} {t : Nat} (h0 : lwI pc = some (.if_icmp .eq off)) (ht : jtg pc off = some t)
    (kk : jG jSH α cA vwCl D A s.heap 8 p l e R s m args below meth c cells slots Q (t, L, S, M)) : jG jSH α cA vwCl D A s.heap 8 p l e R s m args below meth c cells slots Q (pc, L, .int r :: .int r :: S, M) :=
  lw1 (E := eLw) C hce h0 (g := (t, L, S, M)) (by show jgo (pc, L, _, M) S (decide (r = r)) off = _; rw [decide_eq_true rfl]; unfold jgo; rw [ht]; rfl) kk
set_option maxHeartbeats 2000000 in
/-- a call of a helper -/
theorem lwSX (C : lwC eLw lwI α cA D A p l R s m args c) (hce : cells + 1 ≤ R.cells ∧ slots + 6 ≤ R.slots) (hR : 8 ≤ R.frames ∧ 264 ≤ R.locals) {idx maxL n : Nat} {y : MethodName} {bytes : ByteArray} {hh : List (Nat × Nat × Nat × Nat)} {K : Int32 → jM → Prop} {as rest : List Value} (hi : lwI pc = some (.invokestatic idx)) (hmx : maxL ≤ 7)
    (hM : vx_Met l y (Cond.codeWith y bytes maxL (some .int) hh :: jGW) hRoom (xPc D α cA A M as) (hQc D α cA A K) (fun _ _ _ => False) 1 6 A) (hS : S = as.reverse ++ rest) (hcat : (rest.map fun v => v.category).sum ≤ 8) (hn : as.length = n)
    (hcw : Cond.codeWith y bytes maxL (some .int) hh ∈ jGW) (hlk : Cond.methodLink RL idx y ∈ jGW) (hstat : Cond.static y ∈ jGW) (hini : Cond.initialized y.cls ∈ jGW) (hd : y.cls ≠ "java/lang/invoke/MethodHandle" ∧ y.cls ≠ "java/lang/invoke/VarHandle" ∧ (parseMethodDescriptor y.desc).map (fun d => d.parameters.length) = some n)
    (k : ∀ (r : Int32) (M' : jM), K r M' → jG jSH α cA vwCl D A s.heap 8 p l e R s m args below meth c (cells + 1) (slots + 6) Q (pc + 3, L, .int r :: rest, M')) : jG jSH α cA vwCl D A s.heap 8 p l e R s m args below meth c cells slots Q (pc, L, S, M) := by
  obtain ⟨X, hD, hfr, hlo, hI, ok, hZ, hl⟩ := C
  obtain ⟨ln, hdec, hln⟩ := hI _ _ hi
  have hdec := jlen1 hdec hln (Nat.succ_ne_zero _)
  obtain ⟨hx, hb, hml, hown, hts, hnw, hK⟩ := id X
  have hG : GoodIn jGW (va_wsS RL idx y (Cond.codeWith y bytes maxL (some .int) hh :: jGW)) := by
    have hin : ∀ w ∈ va_wsS RL idx y (Cond.codeWith y bytes maxL (some .int) hh :: jGW), w ∈ jGW := by
      intro w hw
      simp only [va_wsS, List.cons_append, List.nil_append, List.mem_cons] at hw
      rcases hw with rfl | rfl | rfl | rfl | hw
      · exact hlk
      · exact hstat
      · exact hini
      · exact hcw
      · exact hw
    exact goodIn_sub hin (List.all_eq_true.mpr (fun w hw => jGW_good _ (hin w hw)))
  intro H locs ls hrel
  have hcat2 : ((rest.map (jv α)).map fun v => v.category).sum ≤ 8 := by rw [jcat_map]; exact hcat
  have hW8 : 2 * (F0 m pc ls (S.map (jv α))).monitorRoom + ((rest.map (jv α)).map fun v => v.category).sum ≤ 8 := by
    show 2 * 0 + _ ≤ 8
    omega
  have hstk : (F0 m pc ls (S.map (jv α))).stack = (as.map (jv α)).reverse ++ rest.map (jv α) := by
    show S.map (jv α) = _
    rw [hS]
    simp
  have hr := vx_runSX (g := F0 m pc ls (S.map (jv α))) (below := below) (meth := meth) (e := e) (cells := cells) (slots := slots) (locs := locs) (As := as.map (jv α)) (rest := rest.map (jv α)) ⟨hx, hb, hml, hown, hts⟩ hM (vx_cwSW n hts hG rfl rfl rfl hd ⟨by show 7 + 1 ≤ R.frames; omega, by show 8 + (maxL + 11) + 238 ≤ R.locals; omega⟩) ⟨xPc_blind, fun U hU hW => ⟨rfl, by rw [hU]; exact hrel.1, va_K.moved hW.alike hK, jNW_nest.warm hW hnw, xZ.warm hW hrel.2.1 hU hZ⟩⟩ rfl (by rw [List.length_map]; exact hn) hrel.2.2.1 hstk hW8 hdec hce
  intro T hT X
  rcases hr T hT X with ⟨w, st₀, t, T', L9, h0, X', hL, e1, e2, ⟨r, M', hKv, ⟨hv, hP⟩, hF⟩, st⟩ | ⟨q, st₀, t, T', L9, E, ce, h0, X', hL, e1, e2, hF, -⟩
  · cases hv
    obtain ⟨k1, k2, k3⟩ := vx_keep h0 e1 hrel.2.1 (fun _ _ h => h) (fun _ h => h) hL hF
    obtain ⟨t2, a1, b1⟩ := k r M' hKv T'.heap (locs ++ L9) ls ⟨by rw [e1]; exact hP, k3, hrel.2.2⟩ T' rfl X'
    exact ⟨t2, st t2 a1, b1⟩
  · exact absurd hF id
set_option maxHeartbeats 2000000 in
/-- behind the model's answer: b in 6, k in 5, the model's mark, the value in out -/
theorem lwTl (C : lwC eLw lwI α cA D A p l R s m args c) (hce : cells ≤ R.cells ∧ slots ≤ R.slots) {i r : Int32} {b : Int64} {off : Int} (ht : jtg (pc + 29) off = some 1520)
    (h0 : lwI pc = some (.lstore 6)) (h2 : lwI (pc + 2) = some (.aload_n 2)) (h3 : lwI (pc + 3) = some (.invokevirtual 78)) (h6 : lwI (pc + 6) = some (.iload 5)) (h8 : lwI (pc + 8) = some (.if_icmp .eq 5)) (h13 : lwI (pc + 13) = some (.iload 5)) (h15 : lwI (pc + 15) = some (.ifCond .ne 14))
    (h18 : lwI (pc + 18) = some (.aload_n 3)) (h19 : lwI (pc + 19) = some (.iconst 0)) (h20 : lwI (pc + 20) = some .laload) (h21 : lwI (pc + 21) = some (.lload 6)) (h23 : lwI (pc + 23) = some .lcmp) (h24 : lwI (pc + 24) = some (.ifCond .eq 5)) (h29 : lwI (pc + 29) = some (.goto off))
    (hr : M.1 67 0 = r) (hv : r = 1 ∨ (r = 0 ∧ M.2 97 0 = b))
    (kk : jG jSH α cA vwCl D A s.heap 8 p l e R s m args below meth c cells slots Q (1520, [(0, .ref 98), (1, .ref 0), (2, .ref 67), (3, .ref 97), (4, .int i)], [], M)) :
    jG jSH α cA vwCl D A s.heap 8 p l e R s m args below meth c cells slots Q (pc, [(0, .ref 98), (1, .ref 0), (2, .ref 67), (3, .ref 97), (4, .int i), (5, .int r)], [.long b], M) := by
  have t5 : jtg (pc + 8) 5 = some (pc + 13) := by unfold jtg; rw [if_pos (by omega)]; congr 1
  have t14 : jtg (pc + 15) 14 = some (pc + 29) := by unfold jtg; rw [if_pos (by omega)]; congr 1
  have t24 : jtg (pc + 24) 5 = some (pc + 29) := by unfold jtg; rw [if_pos (by omega)]; congr 1
  have hend : jG jSH α cA vwCl D A s.heap 8 p l e R s m args below meth c cells slots Q (pc + 29, [(0, .ref 98), (1, .ref 0), (2, .ref 67), (3, .ref 97), (4, .int i), (5, .int r), (6, .long b)], [], M) := by
    refine lw1 (E := eLw) C hce h29 (g := (1520, [(0, .ref 98), (1, .ref 0), (2, .ref 67), (3, .ref 97), (4, .int i), (5, .int r), (6, .long b)], [], M)) (by show jgo (pc + 29, _, _, M) _ true off = _; unfold jgo; rw [ht]; rfl) ?_
    exact lwsub (E := eLw) (L' := [(0, .ref 98), (1, .ref 0), (2, .ref 67), (3, .ref 97), (4, .int i)]) (fun q hq => List.mem_append_left [(5, Value.int r), (6, Value.long b)] hq) kk
  refine lw1 (E := eLw) C hce h0 (g := (pc + 2, [(0, .ref 98), (1, .ref 0), (2, .ref 67), (3, .ref 97), (4, .int i), (5, .int r), (6, .long b)], [], M)) rfl ?_
  refine lw1 (E := eLw) C hce h2 (g := (pc + 3, _, [.ref 67], M)) rfl ?_
  refine lwV (E := eLw) C hce (idx := 78) (y := nX8_thrown) (F := me_X8_thrown) h3 rfl rfl (as' := []) (rest := []) rfl rfl rfl (Nat.le_of_ble_eq_true rfl) (by decide) (by decide) (jGW_of (by decide +kernel)) (v_X8_thrown_0 (K := fun o M' => o = some (some (.int r)) ∧ M' = M) ⟨by rw [hr], rfl⟩) ?_
  rintro o M' ⟨rfl, rfl⟩
  refine ⟨_, rfl, ?_⟩
  refine lw1 (E := eLw) C hce h6 (g := (pc + 8, _, [.int r, .int r], M')) rfl ?_
  refine lwEq C hce h8 t5 ?_
  refine lw1 (E := eLw) C hce h13 (g := (pc + 15, _, [.int r], M')) rfl ?_
  rcases hv with rfl | ⟨rfl, hv⟩
  · exact lw1 (E := eLw) C hce h15 (g := (pc + 29, _, [], M')) (by show jgo (pc + 15, _, _, M') _ (!decide ((1 : Int32) = 0)) 14 = _; rw [show (!decide ((1 : Int32) = 0)) = true by decide]; unfold jgo; rw [t14]; rfl) hend
  · refine lw1 (E := eLw) C hce h15 (g := (pc + 18, _, [], M')) (by show jgo (pc + 15, _, _, M') _ (!decide ((0 : Int32) = 0)) 14 = _; rw [show (!decide ((0 : Int32) = 0)) = false by decide]; unfold jgo; rw [t14]; rfl) ?_
    refine lw1 (E := eLw) C hce h18 (g := (pc + 19, _, [.ref 97], M')) rfl ?_
    refine lw1 (E := eLw) C hce h19 (g := (pc + 20, _, [.int (Int32.ofInt 0), .ref 97], M')) rfl ?_
    refine lw1 (E := eLw) C hce h20 (g := (pc + 21, _, [.long b], M')) (by rw [hlald, hv]) ?_
    refine lw1 (E := eLw) C hce h21 (g := (pc + 23, _, [.long b, .long b], M')) rfl ?_
    refine lw1 (E := eLw) C hce h23 (g := (pc + 24, _, [.int (lg_cmp b b)], M')) rfl ?_
    exact lw1 (E := eLw) C hce h24 (g := (pc + 29, _, [], M')) (by show jgo (pc + 24, _, _, M') _ (decide (lg_cmp b b = 0)) 5 = _; rw [show decide (lg_cmp b b = 0) = true from decide_eq_true (by unfold lg_cmp; simp)]; unfold jgo; rw [t24]; rfl) hend
set_option maxHeartbeats 2000000 in
/-- the same, of an int -/
theorem lwTi (C : lwC eLw lwI α cA D A p l R s m args c) (hce : cells ≤ R.cells ∧ slots ≤ R.slots) {i r b : Int32} {off : Int} (ht : jtg (pc + 30) off = some 1520)
    (h0 : lwI pc = some (.istore 6)) (h2 : lwI (pc + 2) = some (.aload_n 2)) (h3 : lwI (pc + 3) = some (.invokevirtual 78)) (h6 : lwI (pc + 6) = some (.iload 5)) (h8 : lwI (pc + 8) = some (.if_icmp .eq 5)) (h13 : lwI (pc + 13) = some (.iload 5)) (h15 : lwI (pc + 15) = some (.ifCond .ne 15))
    (h18 : lwI (pc + 18) = some (.aload_n 3)) (h19 : lwI (pc + 19) = some (.iconst 0)) (h20 : lwI (pc + 20) = some .laload) (h21 : lwI (pc + 21) = some (.iload 6)) (h23 : lwI (pc + 23) = some .i2l) (h24 : lwI (pc + 24) = some .lcmp) (h25 : lwI (pc + 25) = some (.ifCond .eq 5)) (h30 : lwI (pc + 30) = some (.goto off))
    (hr : M.1 67 0 = r) (hv : r = 1 ∨ (r = 0 ∧ M.2 97 0 = b.toInt64))
    (kk : jG jSH α cA vwCl D A s.heap 8 p l e R s m args below meth c cells slots Q (1520, [(0, .ref 98), (1, .ref 0), (2, .ref 67), (3, .ref 97), (4, .int i)], [], M)) :
    jG jSH α cA vwCl D A s.heap 8 p l e R s m args below meth c cells slots Q (pc, [(0, .ref 98), (1, .ref 0), (2, .ref 67), (3, .ref 97), (4, .int i), (5, .int r)], [.int b], M) := by
  have t5 : jtg (pc + 8) 5 = some (pc + 13) := by unfold jtg; rw [if_pos (by omega)]; congr 1
  have t14 : jtg (pc + 15) 15 = some (pc + 30) := by unfold jtg; rw [if_pos (by omega)]; congr 1
  have t24 : jtg (pc + 25) 5 = some (pc + 30) := by unfold jtg; rw [if_pos (by omega)]; congr 1
  have hend : jG jSH α cA vwCl D A s.heap 8 p l e R s m args below meth c cells slots Q (pc + 30, [(0, .ref 98), (1, .ref 0), (2, .ref 67), (3, .ref 97), (4, .int i), (5, .int r), (6, .int b)], [], M) := by
    refine lw1 (E := eLw) C hce h30 (g := (1520, [(0, .ref 98), (1, .ref 0), (2, .ref 67), (3, .ref 97), (4, .int i), (5, .int r), (6, .int b)], [], M)) (by show jgo (pc + 30, _, _, M) _ true off = _; unfold jgo; rw [ht]; rfl) ?_
    exact lwsub (E := eLw) (L' := [(0, .ref 98), (1, .ref 0), (2, .ref 67), (3, .ref 97), (4, .int i)]) (fun q hq => List.mem_append_left [(5, Value.int r), (6, Value.int b)] hq) kk
  refine lw1 (E := eLw) C hce h0 (g := (pc + 2, [(0, .ref 98), (1, .ref 0), (2, .ref 67), (3, .ref 97), (4, .int i), (5, .int r), (6, .int b)], [], M)) rfl ?_
  refine lw1 (E := eLw) C hce h2 (g := (pc + 3, _, [.ref 67], M)) rfl ?_
  refine lwV (E := eLw) C hce (idx := 78) (y := nX8_thrown) (F := me_X8_thrown) h3 rfl rfl (as' := []) (rest := []) rfl rfl rfl (Nat.le_of_ble_eq_true rfl) (by decide) (by decide) (jGW_of (by decide +kernel)) (v_X8_thrown_0 (K := fun o M' => o = some (some (.int r)) ∧ M' = M) ⟨by rw [hr], rfl⟩) ?_
  rintro o M' ⟨rfl, rfl⟩
  refine ⟨_, rfl, ?_⟩
  refine lw1 (E := eLw) C hce h6 (g := (pc + 8, _, [.int r, .int r], M')) rfl ?_
  refine lwEq C hce h8 t5 ?_
  refine lw1 (E := eLw) C hce h13 (g := (pc + 15, _, [.int r], M')) rfl ?_
  rcases hv with rfl | ⟨rfl, hv⟩
  · exact lw1 (E := eLw) C hce h15 (g := (pc + 30, _, [], M')) (by show jgo (pc + 15, _, _, M') _ (!decide ((1 : Int32) = 0)) 15 = _; rw [show (!decide ((1 : Int32) = 0)) = true by decide]; unfold jgo; rw [t14]; rfl) hend
  · refine lw1 (E := eLw) C hce h15 (g := (pc + 18, _, [], M')) (by show jgo (pc + 15, _, _, M') _ (!decide ((0 : Int32) = 0)) 15 = _; rw [show (!decide ((0 : Int32) = 0)) = false by decide]; unfold jgo; rw [t14]; rfl) ?_
    refine lw1 (E := eLw) C hce h18 (g := (pc + 19, _, [.ref 97], M')) rfl ?_
    refine lw1 (E := eLw) C hce h19 (g := (pc + 20, _, [.int (Int32.ofInt 0), .ref 97], M')) rfl ?_
    refine lw1 (E := eLw) C hce h20 (g := (pc + 21, _, [.long b.toInt64], M')) (by rw [hlald, hv]) ?_
    refine lw1 (E := eLw) C hce h21 (g := (pc + 23, _, [.int b, .long b.toInt64], M')) rfl ?_
    refine lw1 (E := eLw) C hce h23 (g := (pc + 24, _, [.long b.toInt64, .long b.toInt64], M')) rfl ?_
    refine lw1 (E := eLw) C hce h24 (g := (pc + 25, _, [.int (lg_cmp b.toInt64 b.toInt64)], M')) rfl ?_
    exact lw1 (E := eLw) C hce h25 (g := (pc + 30, _, [], M')) (by show jgo (pc + 25, _, _, M') _ (decide (lg_cmp b.toInt64 b.toInt64 = 0)) 5 = _; rw [show decide (lg_cmp b.toInt64 b.toInt64 = 0) = true from decide_eq_true (by unfold lg_cmp; simp)]; unfold jgo; rw [t24]; rfl) hend
end LawRows
