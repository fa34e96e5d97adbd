/-! WALKS OF METHODS THAT ARE NOT IN THE TABLES (the law, its helpers): single instructions by jone, calls by what the pure machine says of the callee -/
def lwOk (E : jE) (I : Nat → Option Instr) : Prop := ∀ (pc : Nat) (ins : Instr), I pc = some ins → ∃ n : Nat, decode E.2.1 pc = .ok (ins, n) ∧ (jlen ins = 0 ∨ n = jlen ins)
/-- what holds of such a frame -/
def lwC (E : jE) (I : Nat → Option Instr) (α : Nat → Nat) (cA : Nat → ClassId) (D : va_G) (A : Nat → Prop) (p : Program) (l : Launch) (R : Room) (s : State) (m : MethodId) (args : Array Value) (c : Code) : Prop :=
  jX jGW jNW vwCl (jtys cA) D E p s m args c ∧ (∀ M, va_D A (jW jSH α cA M)) ∧ E.2.2.2.2.1 ≤ R.frames ∧ 34 * E.2.2.2.2.1 ≤ R.locals ∧ lwOk E I ∧ jOk1 jT0 jGW jNW vwCl E ∧ xZ A s ∧ l.stackTraces = false
theorem lwOk1 {E : jE} (h : E.2.2.2.2.2.1 = 12) : jOk1 jT0 jGW jNW vwCl E := by
  refine ⟨fun i f hf => ?_, fun i v hv => ?_, jokS, jokC, fun i k hk => ?_⟩
  · rw [h] at hf; cases hf
  · rw [h] at hv; cases hv
  · rw [h] at hk; cases hk
section GWalk
variable {E : jE} {I : Nat → Option Instr} {α : Nat → Nat} {cA : Nat → ClassId} {D : va_G} {A : Nat → Prop} {p : Program} {l : Launch} {e : Env} {R : Room} {s : State} {m : MethodId} {args : Array Value} {below : List Frame} {meth : Method} {c : Code} {cells slots : Nat} {Q : State → Prop}
variable {pc : Nat} {L : List (Nat × Value)} {S : List Value} {M : jM} {g : jC}
theorem lw1 (C : lwC E I α cA D A p l R s m args c) (hce : cells ≤ R.cells ∧ slots ≤ R.slots) {ins : Instr} (hi : I pc = some ins) (h : jone jT0 E ins (pc, L, S, M) = some g)
    (k : jG jSH α cA vwCl D A s.heap E.2.2.1 p l e R s m args below meth c cells slots Q g) : jG jSH α cA vwCl D A s.heap E.2.2.1 p l e R s m args below meth c cells slots Q (pc, L, S, M) := by
  obtain ⟨X, hD, hfr, hlo, hI, ok, -, -⟩ := C
  obtain ⟨n, hd, hn⟩ := hI _ _ hi
  have hD' : ∀ M, va_D A (jW jT0.1 α cA M) := hD
  have k' : jG jT0.1 α cA vwCl D A s.heap E.2.2.1 p l e R s m args below meth c cells slots Q g := k
  have := jone_snd (T := jT0) (GW := jGW) (NW := jNW) (cl := vwCl) (E := E) (α := α) (cA := cA) (D := D) (A := A) (H0 := s.heap) (p := p) (l := l) (e := e) (R := R) (s := s) (m := m) (args := args) (below := below) (meth := meth) (c := c) (cells := cells) (slots := slots) (Q := Q) (pc := pc) (L := L) (S := S) (M := M) (g := g) ok X hD' hfr hlo hce.1 hce.2 hd hn h k'
  exact this
/-- fewer locals -/
theorem lwsub {L' : List (Nat × Value)} (hL : ∀ q ∈ L', q ∈ L) (k : jG jSH α cA vwCl D A s.heap E.2.2.1 p l e R s m args below meth c cells slots Q (pc, L', S, M)) : jG jSH α cA vwCl D A s.heap E.2.2.1 p l e R s m args below meth c cells slots Q (pc, L, S, M) := by
  intro H locs ls hr
  refine k H locs ls ⟨hr.1, hr.2.1, hr.2.2.1, hr.2.2.2.1, fun q hq => ?_⟩
  obtain ⟨r, h1, rfl⟩ := List.mem_map.mp hq
  exact hr.2.2.2.2 _ (List.mem_map.mpr ⟨r, hL r h1, rfl⟩)
theorem lwwiden {cells' slots' : Nat} (h1 : cells ≤ cells') (h2 : slots ≤ slots') (k : jG jSH α cA vwCl D A s.heap E.2.2.1 p l e R s m args below meth c cells' slots' Q g) : jG jSH α cA vwCl D A s.heap E.2.2.1 p l e R s m args below meth c cells slots Q g :=
  fun H locs ls hr => W.widen h1 h2 (k H locs ls hr)
set_option maxHeartbeats 2000000 in
/-- a call of a method that returns -/
theorem lwV (C : lwC E I α cA D A p l R s m args c) (hce : cells ≤ R.cells ∧ slots ≤ R.slots) {idx y : Nat} {F : jE} (hi : I pc = some (.invokevirtual idx)) (hF : jMT y = some F) (hst : F.2.2.2.2.2.2.1 = false)
    {b0 : Nat} {as' rest : List Value} (hS : S = as'.reverse ++ .ref b0 :: rest) {fs : List (Nat × Nat)} (hsh : jSH[b0]? = some (.inl (F.2.2.2.2.2.1, fs))) (hn : as'.length = F.2.2.2.2.2.2.2) (hlen : (lg_sl (.ref b0 :: as')).length ≤ F.2.2.1)
    (hcat : (rest.map fun v => v.category).sum ≤ 8) (hh : F.2.2.2.2.1 < E.2.2.2.2.1) (hlk : Cond.methodLink E.1.cls idx F.1 ∈ jGW) {K : jK} (hev : jEv y (0, lv_args 0 (.ref b0 :: as'), [], M) K)
    (k : ∀ o M', K o M' → ∃ v : Option Value, o = some v ∧ jG jSH α cA vwCl D A s.heap E.2.2.1 p l e R s m args below meth c cells slots Q (pc + 3, L, v.toList ++ rest, M')) : jG jSH α cA vwCl D A s.heap E.2.2.1 p l e R s m args below meth c cells slots Q (pc, L, S, M) := by
  obtain ⟨X, hD, hfr, hlo, hI, ok, -, -⟩ := C
  obtain ⟨ln, hdec, hln⟩ := hI _ _ hi
  have hdec := jlen1 hdec hln (Nat.succ_ne_zero _)
  obtain ⟨n, o, hrun, hfin⟩ := hev
  rcases hfin with ⟨E', r, v, f1, f2, f3, f4⟩ | ⟨k', f1, f2, f3⟩
  · cases hF.symm.trans f1
    obtain ⟨v', hv', kk⟩ := k _ _ f4
    cases hv'
    have hM := jmet jOk_all (jsnd jOk_all jGW_good jNW_nest n) hF hrun f2 f3 hlen hD l (D := D)
    obtain ⟨q1, q2, q3, q4, q5, q6, q7, q8, q9, q10⟩ := jOk_all y F hF
    obtain ⟨hx, hb, hml, hown, hts, hnw, hK⟩ := id X
    have hG : GoodIn jGW (Cond.code F.1 F.2.1 F.2.2.1 F.2.2.2.1 :: jGW) := goodIn_sub (fun w hw => by rcases List.mem_cons.mp hw with rfl | hw; exact q2; exact hw) (List.all_eq_true.mpr (fun w hw => by rcases List.mem_cons.mp hw with rfl | hw; exact jGW_good _ q2; exact jGW_good _ hw))
    have hRm : (jRoom F.2.2.2.2.1).frames + 1 ≤ R.frames ∧ 8 + (F.2.2.1 + 11) + (jRoom F.2.2.2.2.1).locals ≤ R.locals := by
      simp only [jRoom]
      omega
    obtain ⟨i1, i2, cq, i3, i4⟩ := q6 hst
    intro H locs ls hrel
    have hcat2 : ((rest.map (jv α)).map fun v => v.category).sum ≤ 8 := by rw [jcat_map]; exact hcat
    have hW8 : 2 * (F0 m pc ls (S.map (jv α))).monitorRoom + ((rest.map (jv α)).map fun v => v.category).sum ≤ 8 := by
      show 2 * 0 + _ ≤ 8
      omega
    have hrecv := va_recv hK hrel.1 i3 (jo_obj hsh)
    rw [i4] at hrecv
    have hstk : (F0 m pc ls (S.map (jv α))).stack = (as'.map (jv α)).reverse ++ .ref (α b0) :: rest.map (jv α) := by
      show S.map (jv α) = _
      rw [hS]
      simp [jv]
    refine jcallW (va_runV (C := F.1.cls) (As := as'.map (jv α)) (b := α b0) (rest := rest.map (jv α)) ⟨hx, hb, hml, hown, hts⟩ hM ⟨callB_of _ hts hG rfl rfl rfl (hts _ q3) (hts _ hlk) q4 hRm, hts _ i1, hts _ i2⟩ ⟨jPc_blind jNW_nest, hrecv, fun U hU hW => ⟨rfl, by rw [hU]; exact hrel.1, va_K.moved hW.alike hK, jNW_nest.warm hW hnw⟩⟩ rfl (by rw [List.length_map]; exact hn) hrel.2.2.1 hstk hW8 hdec hce) hrel.2.1 ?_
    intro H1 locs1 hP1 hS1
    have := kk H1 locs1 ls ⟨hP1, hS1, hrel.2.2⟩
    cases v with
    | none => exact this
    | some w => exact this
  · obtain ⟨v', hv', -⟩ := k _ _ f3
    cases hv'
end GWalk
section GRuns
variable {α : Nat → Nat} {cA : Nat → ClassId} {D : va_G} {A : Nat → Prop} {H0 : Heap} {p : Program} {l : Launch} {e : Env} {R : Room} {s : State} {m : MethodId} {args : Array Value} {below : List Frame} {meth : Method} {c : Code} {H : Heap} {locs : List Loc} {cells slots : Nat} {Q : State → Prop}
variable {pc : Nat} {ls : Array Slot} {rest st0 : List Value} {a : Array Value} {K : jK}
theorem xcallW (hr : vx_Run p l e R s m args below meth c H locs cells slots 1 6 (F0 m pc ls st0) rest (xQc D α cA A K a) (xXC D α cA A K) A) (hS : va_S A H0 H locs)
    (kx : ∀ (ce : Cell) (q9 : Addr) (M' : jM) (H1 : Heap) (locs1 : List Loc), K none M' → va_P D vwCl (jW jSH α cA M') H1 → va_S A H0 H1 locs1 → H1[q9]? = some ce → ce.vm = .none → s.vm.findClass xN = some ce.cls → vx_W p l e R s m args below meth c H1 locs1 (cells + 1) (slots + 6) Q (F0 m pc ls rest) q9)
    (kk : ∀ (v : Option Value) (M' : jM) (H1 : Heap) (locs1 : List Loc), K (some v) M' → va_P D vwCl (jW jSH α cA M') H1 → va_S A H0 H1 locs1 → W p l e R s m args below meth c H1 locs1 (cells + 1) (slots + 6) Q (F0 m (pc + 3) ls ((v.map (jv α)).toList ++ rest))) : W p l e R s m args below meth c H locs cells slots Q (F0 m pc ls st0) := by
  intro T hT X
  rcases hr T hT X with ⟨w, st₀, t, T', L, h0, X', hL, e1, e2, ⟨v, M', hKv, ⟨hv, hP⟩, hF⟩, st⟩ | ⟨q, st₀, t, T', L, E, ce, h0, X', hL, e1, e2, ⟨hE, M', hKn, hP, hF⟩, hce, hcv, hcl, st⟩
  · cases hv
    obtain ⟨k1, k2, k3⟩ := vx_keep h0 e1 hS (fun _ _ h => h) (fun _ h => h) hL hF
    obtain ⟨t2, a1, b1⟩ := kk v M' T'.heap (locs ++ L) hKv (by rw [e1]; exact hP) k3 T' rfl X'
    exact ⟨t2, st t2 a1, b1⟩
  · subst hE
    obtain ⟨k1, k2, k3⟩ := vx_keep h0 e1 hS (fun _ _ h => h) (fun _ h => h) hL hF
    obtain ⟨t2, a1, b1⟩ := kx ce q M' T'.heap (locs ++ L) hKn (by rw [e1]; exact hP) k3 (by rw [e1]; exact hce) hcv hcl T' rfl X'
    exact ⟨t2, st.trans a1, b1⟩
end GRuns
section GWalkX
variable {E : jE} {I : Nat → Option Instr} {α : Nat → Nat} {cA : Nat → ClassId} {D : va_G} {A : Nat → Prop} {p : Program} {l : Launch} {e : Env} {R : Room} {s : State} {m : MethodId} {args : Array Value} {below : List Frame} {meth : Method} {c : Code} {cells slots : Nat} {Q : State → Prop}
variable {pc : Nat} {L : List (Nat × Value)} {S : List Value} {M : jM} {g : jC}
set_option maxHeartbeats 2000000 in
/-- a call of a method of MemoryRows that returns or throws; the throw is caught at tgt, with the exception on the stack -/
theorem lwVX (C : lwC E I α cA D A p l R s m args c) (hce : cells + 1 ≤ R.cells ∧ slots + 6 ≤ R.slots) (hR : 7 ≤ R.frames ∧ 204 ≤ R.locals) {idx y : Nat} {F : jE} (hi : I pc = some (.invokevirtual idx)) (hF : jMT y = some F) (hst : F.2.2.2.2.2.2.1 = false)
    {as' rest : List Value} (hS : S = as'.reverse ++ .ref 0 :: rest) (hkd : F.2.2.2.2.2.1 = 7) (hn : as'.length = F.2.2.2.2.2.2.2) (hlen : (lg_sl (.ref 0 :: as')).length ≤ F.2.2.1)
    (hcat : (rest.map fun v => v.category).sum ≤ 8) (hht : F.2.2.2.2.1 ≤ 5) (hcls : F.1.cls = RX7) (hsite : xSite y F.2.1) (hlk : Cond.methodLink E.1.cls idx F.1 ∈ jGW) {K : jK} (hev : jEv y (0, lv_args 0 (.ref 0 :: as'), [], M) K)
    (x : ExceptionTableEntry) (htab : c.exceptionTable.toList = [x]) (hcov : covers x pc = true) (hct : x.catchType ≠ 0) (hcl : Cond.classLink E.1.cls x.catchType xN ∈ jGW)
    (kx : ∀ (M' : jM) (q9 : Addr), K none M' → ∀ (H : Heap) (locs : List Loc) (ls : Array Slot), jR jSH α cA vwCl D A s.heap E.2.2.1 (x.handlerPc, L, [], M') H locs ls → W p l e R s m args below meth c H locs (cells + 1) (slots + 6) Q (F0 m x.handlerPc ls [.ref q9]))
    (k : ∀ (v : Option Value) (M' : jM), K (some v) M' → jG jSH α cA vwCl D A s.heap E.2.2.1 p l e R s m args below meth c (cells + 1) (slots + 6) Q (pc + 3, L, v.toList ++ rest, M')) : jG jSH α cA vwCl D A s.heap E.2.2.1 p l e R s m args below meth c cells slots Q (pc, L, S, M) := by
  obtain ⟨X, hD, hfr, hlo, hI, ok, hZ, hl⟩ := C
  obtain ⟨ln, hdec, hln⟩ := hI _ _ hi
  have hdec := jlen1 hdec hln (Nat.succ_ne_zero _)
  have hM := jmetX hF hev hlen hht hcls hsite hD l hl (D := D)
  obtain ⟨q1, q2, q3, q4, q5, q6, q7, q8, q9, q10⟩ := jOk_all y F hF
  obtain ⟨hx, hb, hml, hown, hts, hnw, hK⟩ := id X
  have hG : GoodIn jGW (Cond.code F.1 F.2.1 F.2.2.1 F.2.2.2.1 :: jGW) := goodIn_sub (fun w hw => by rcases List.mem_cons.mp hw with rfl | hw; exact q2; exact hw) (List.all_eq_true.mpr (fun w hw => by rcases List.mem_cons.mp hw with rfl | hw; exact jGW_good _ q2; exact jGW_good _ hw))
  have hRm : xRoom.frames + 1 ≤ R.frames ∧ 8 + (F.2.2.1 + 11) + xRoom.locals ≤ R.locals := by
    simp only [xRoom]
    omega
  obtain ⟨i1, i2, cq, i3, i4⟩ := q6 hst
  intro H locs ls hrel
  have hcat2 : ((rest.map (jv α)).map fun v => v.category).sum ≤ 8 := by rw [jcat_map]; exact hcat
  have hW8 : 2 * (F0 m pc ls (S.map (jv α))).monitorRoom + ((rest.map (jv α)).map fun v => v.category).sum ≤ 8 := by
    show 2 * 0 + _ ≤ 8
    omega
  obtain ⟨fs, hsh⟩ : ∃ fs, jSH[0]? = some (.inl (7, fs)) := ⟨_, rfl⟩
  rw [hkd] at i3
  have hrecv := va_recv hK hrel.1 i3 (jo_obj hsh)
  rw [i4] at hrecv
  have hstk : (F0 m pc ls (S.map (jv α))).stack = (as'.map (jv α)).reverse ++ .ref (α 0) :: rest.map (jv α) := by
    show S.map (jv α) = _
    rw [hS]
    simp [jv]
  refine xcallW (vx_runV (C := F.1.cls) (As := as'.map (jv α)) (b := α 0) (rest := rest.map (jv α)) ⟨hx, hb, hml, hown, hts⟩ hM ⟨callB_of _ hts hG rfl rfl rfl (hts _ q3) (hts _ hlk) q4 hRm, hts _ i1, hts _ i2⟩ ⟨xPc_blind, hrecv, fun U hU hW => ⟨rfl, by rw [hU]; exact hrel.1, va_K.moved hW.alike hK, jNW_nest.warm hW hnw, xZ.warm hW hrel.2.1 hU hZ⟩⟩ rfl (by rw [List.length_map]; exact hn) hrel.2.2.1 hstk hW8 hdec hce) hrel.2.1 ?_ ?_
  · intro ce q9 M' H1 locs1 hKn hP1 hS1 hc1 hc2 hc3
    exact vx_catch hown [] x [] htab (fun z hz => nomatch hz) hcov hct (hts _ hcl) (va_Nw.use rfl (hZ.1 _ xCast)) hc1 hc2 hc3 (kx M' q9 hKn H1 locs1 ls ⟨hP1, hS1, hrel.2.2⟩)
  · intro v M' H1 locs1 hKv hP1 hS1
    have := k v M' hKv H1 locs1 ls ⟨hP1, hS1, hrel.2.2⟩
    cases v with
    | none => exact this
    | some w => exact this
end GWalkX
theorem lwOk_of {E : jE} {l : List (Nat × List (Nat × Instr))} (h : jchkI E.2.1 l = true) : lwOk E (fun pc => jal2 pc l) := by
  intro pc ins hi
  obtain ⟨ch, h1, h2⟩ := jal2_mem hi
  have h3 := List.all_eq_true.mp (List.all_eq_true.mp h ch h1) _ h2
  dsimp only at h3
  split at h3
  · next i n hd =>
    simp only [Bool.and_eq_true, Bool.or_eq_true, decide_eq_true_iff] at h3
    obtain ⟨rfl, h4⟩ := h3
    exact ⟨n, hd, h4⟩
  · cases h3
