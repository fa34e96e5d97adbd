/-! RUNS OF THE MAKING MACHINE ARE SOUND -/
theorem kone_snd {α0 : Nat → Nat} {n0 : Nat} {cA : Nat → ClassId} {D : va_G} {A : Nat → Prop} {p : Program} {l : Launch} {e : Env} {R : Room} {s : State} {m : MethodId} {args : Array Value} {below : List Frame} {meth : Method} {c : Code} {Q : State → Prop} {E : kE} {f g : kF}
    (X : kX E cA D A p R s m args meth c) {ins : Instr} (hd : decode E.2.1 f.1 = .ok (ins, klen ins)) (h : kone E ins f = some g) (k : kG α0 n0 cA D A E.2.2.1 p l e R s m args below meth c Q g) : kG α0 n0 cA D A E.2.2.1 p l e R s m args below meth c Q f := by
  obtain ⟨pc, L, S, cs, nc, ns⟩ := f
  by_cases h1 : kis1 ins = true
  · exact kone_a X hd h h1 k
  by_cases h2 : kis2 ins = true
  · exact kone_b X hd h h2 k
  cases ins <;> first | exact kone_new X hd h k | exact kone_arr X hd h k | exact kone_anew X hd h k | exact kone_mna X hd h k | exact absurd rfl h1 | exact absurd rfl h2 | (cases h; done)
theorem krun_end : ∀ (n : Nat) (E : kE) (f o : kF), krun n E f = some o → ∃ ins : Instr, decode E.2.1 o.1 = .ok (ins, klen ins) ∧ kstop E ins o = true := by
  intro n
  induction n with
  | zero => intro E f o h; cases h
  | succ n ih =>
    intro E f o h
    unfold krun at h
    split at h
    · next ins ln hd =>
      by_cases hl : Nat.beq ln (klen ins) = false
      · rw [if_pos hl] at h; cases h
      · rw [if_neg hl] at h
        have hl2 : ln = klen ins := by
          cases q : Nat.beq ln (klen ins) with
          | false => exact absurd q hl
          | true => exact Nat.eq_of_beq_eq_true q
        subst hl2
        by_cases hs : kstop E ins f = true
        · rw [if_pos hs] at h
          cases h
          exact ⟨ins, hd, hs⟩
        · rw [if_neg hs] at h
          split at h
          · split at h
            · split at h
              · split at h
                · split at h
                  · split at h
                    · exact ih _ _ _ h
                    · cases h
                  · cases h
                · cases h
              · cases h
            · cases h
          · split at h
            · exact ih _ _ _ h
            · cases h
    · cases h
def kRoom (F : kE) : Room := { frames := F.2.2.2.2.1 + 1, cells := F.2.2.2.2.2.1, slots := F.2.2.2.2.2.2, locals := 12 + 32 * F.2.2.2.2.1 }
def kPc (D : va_G) (α : Nat → Nat) (cA : Nat → ClassId) (A : Nat → Prop) (cs : List kC) (a : Nat) : Array Value → State → Prop :=
  va_Pc [.ref (α a)] (fun U => va_P D vwCl (kW α cA cs) U.heap ∧ va_D A (kW α cA cs) ∧ va_K D vwCl (jtys cA) U ∧ (∀ w ∈ jNW, va_Nw w U) ∧ kAO U ∧ ∀ q, U.heap.size ≤ q → A q)
def kQc (D : va_G) (α : Nat → Nat) (cA : Nat → ClassId) (A : Nat → Prop) (cs cs' : List kC) : Array Value → State → Outcome → State → Prop :=
  fun _ st oc t => (oc = .returned none ∧ ∃ α' : Nat → Nat, (∀ i, (i < cs.length ∨ 1000 ≤ i) → α' i = α i) ∧ va_P D vwCl (kW α' cA cs') t.heap ∧ va_D A (kW α' cA cs')) ∧ va_F A st t
theorem kPc_blind {D : va_G} {α : Nat → Nat} {cA : Nat → ClassId} {A : Nat → Prop} {cs : List kC} {a : Nat} : FrameBlind (kPc D α cA A cs a) := by
  intro v U g mk h
  obtain ⟨h1, h2, h3, h4, h5, h6, h7⟩ := h
  exact ⟨h1, h2, h3, va_K.moved (u := U) (U := U.calling g mk v) (Vm.Alike.refl U.vm) h4, jNW_nest.same (s := U) (U := U.calling g mk v) rfl h5, kAO.moved (u := U) (U := U.calling g mk v) (Vm.Alike.refl U.vm) h6, h7⟩
/-- a constructor's words -/
def kMok (F : kE) : Prop := plainName F.1.cls = true ∧ Cond.code F.1 F.2.1 F.2.2.1 none ∈ jGW ∧ Cond.initialized F.1.cls ∈ jGW ∧ Cond.instanceMethod F.1 ∈ jGW ∧ F.1.name = "<init>" ∧ (F.1.cls ≠ "java/lang/invoke/MethodHandle" ∧ F.1.cls ≠ "java/lang/invoke/VarHandle" ∧ (parseMethodDescriptor F.1.desc).map (fun d => d.parameters.length) = some 0) ∧ F.1.cls = kcls F.2.2.2.1 ∧ F.2.2.2.1 < 9 ∧ 1 ≤ F.2.2.1 ∧ F.2.2.1 ≤ 2
def kMchk (F : kE) : Bool := plainName F.1.cls && (decide (Cond.code F.1 F.2.1 F.2.2.1 none ∈ lw_tbl) && goodWord (Cond.code F.1 F.2.1 F.2.2.1 none)) && (decide (Cond.initialized F.1.cls ∈ lw_tbl) && goodWord (Cond.initialized F.1.cls)) && (decide (Cond.instanceMethod F.1 ∈ lw_tbl) && goodWord (Cond.instanceMethod F.1)) && decide (F.1.name = "<init>") && decide (F.1.cls ≠ "java/lang/invoke/MethodHandle" ∧ F.1.cls ≠ "java/lang/invoke/VarHandle" ∧ (parseMethodDescriptor F.1.desc).map (fun d => d.parameters.length) = some 0) && decide (F.1.cls = kcls F.2.2.2.1) && decide (F.2.2.2.1 < 9 ∧ 1 ≤ F.2.2.1 ∧ F.2.2.1 ≤ 2)
def kMs : List (Nat × kE) := [(0, (yX0_init, cX0_init, 1, 0, 0, 8, 44)), (1, (yX1_init, cX1_init, 1, 1, 0, 0, 0)), (2, (yX2_init, cX2_init, 1, 2, 0, 1, 9)), (3, (yX3_init, cX3_init, 1, 3, 0, 1, 5)), (4, (yX4_init, cX4_init, 1, 4, 0, 2, 63)), (5, (yX5_init, cX5_init, 1, 5, 0, 3, 12)), (6, (yX6_init, cX6_init, 1, 6, 0, 1, 100)), (7, (yX7_init, cX7_init, 2, 7, 1, 66, 450)), (8, (yX8_init, cX8_init, 1, 8, 0, 29, 501))]
theorem kMs_ck : kMs.all (fun q => kMchk q.2) = true := by decide +kernel
theorem kMe_ok {y : Nat} {F : kE} (h : kMe y = some F) : kMok F := by
  have hm : (y, F) ∈ kMs := jal_mem h
  have h1 := List.all_eq_true.mp kMs_ck _ hm
  unfold kMchk at h1
  simp only [Bool.and_eq_true, decide_eq_true_iff] at h1
  obtain ⟨⟨⟨⟨⟨⟨⟨a1, a2⟩, a3⟩, a4⟩, a5⟩, a6⟩, a7⟩, a8⟩ := h1
  exact ⟨a1, List.mem_filter.mpr a2, List.mem_filter.mpr a3, List.mem_filter.mpr a4, a5, a6, a7, a8.1, a8.2.1, a8.2.2⟩
theorem kCl_ck : ([(7, [(9, (6, true)), (28, (5, true)), (29, (3, true)), (32, (4, true)), (39, (0, true)), (46, (2, true)), (67, (1, true))]), (12, [(44, (7, false)), (47, (8, false))])] : List (Nat × List (Nat × Nat × Bool))).all (fun e => e.2.all fun q => match kMe q.2.1 with
  | some F => bif q.2.2 then (decide (Cond.methodLinkNest (kcls e.1) q.1 F.1 "MemoryRows" ∈ lw_tbl) && jnestW (Cond.methodLinkNest (kcls e.1) q.1 F.1 "MemoryRows")) else (decide (Cond.methodLink (kcls e.1) q.1 F.1 ∈ lw_tbl) && goodWord (Cond.methodLink (kcls e.1) q.1 F.1))
  | none => false) = true := by decide +kernel
theorem kCl_ok {kd i : Nat} {z : Nat × Bool} (h : kCl kd i = some z) {F : kE} (hF : kMe z.1 = some F) : (z.2 = false → Cond.methodLink (kcls kd) i F.1 ∈ jGW) ∧ (z.2 = true → Cond.methodLinkNest (kcls kd) i F.1 "MemoryRows" ∈ jNW) := by
  have key : ∀ e ∈ ([(7, [(9, (6, true)), (28, (5, true)), (29, (3, true)), (32, (4, true)), (39, (0, true)), (46, (2, true)), (67, (1, true))]), (12, [(44, (7, false)), (47, (8, false))])] : List (Nat × List (Nat × Nat × Bool))), (i, z) ∈ e.2 → (z.2 = false → Cond.methodLink (kcls e.1) i F.1 ∈ jGW) ∧ (z.2 = true → Cond.methodLinkNest (kcls e.1) i F.1 "MemoryRows" ∈ jNW) := by
    intro e he hq
    have h3 := List.all_eq_true.mp (List.all_eq_true.mp kCl_ck e he) _ hq
    dsimp only at h3
    rw [hF] at h3
    dsimp only at h3
    refine ⟨fun hz => ?_, fun hz => ?_⟩
    · rw [hz] at h3; exact jGW_of h3
    · rw [hz] at h3; exact jNW_of h3
  unfold kCl at h
  split at h
  · exact key _ List.mem_cons_self (jal_mem h)
  · exact key _ (List.mem_cons_of_mem _ List.mem_cons_self) (jal_mem h)
  · cases h
def kSnd (n : Nat) : Prop := ∀ (E : kE) (f o : kF), krun n E f = some o → ∀ {α0 : Nat → Nat} {n0 : Nat} {cA : Nat → ClassId} {D : va_G} {A : Nat → Prop} {p : Program} {l : Launch} {e : Env} {R : Room} {s : State} {m : MethodId} {args : Array Value} {below : List Frame} {meth : Method} {c : Code} {Q : State → Prop},
  kX E cA D A p R s m args meth c → kG α0 n0 cA D A E.2.2.1 p l e R s m args below meth c Q o → kG α0 n0 cA D A E.2.2.1 p l e R s m args below meth c Q f
set_option maxHeartbeats 4000000 in
theorem kmet {n : Nat} (ih : kSnd n) {F : kE} (hF : kMok F) {cs : List kC} {a : Nat} {o : kF} (hrun : krun n F (0, [(0, .ref a)], [], cs, 0, 0) = some o) (hst : o.2.2.1 = []) (hlen : cs.length ≤ o.2.2.2.1.length) (hb1 : o.2.2.2.2.1 ≤ F.2.2.2.2.2.1 ∧ o.2.2.2.2.2 ≤ F.2.2.2.2.2.2)
    {α : Nat → Nat} {cA : Nat → ClassId} {D : va_G} {A : Nat → Prop} (l : Launch) : Met l F.1 (Cond.code F.1 F.2.1 F.2.2.1 none :: jGW) (kRoom F) (kPc D α cA A cs a) (kQc D α cA A cs o.2.2.2.1) F.2.2.2.2.2.1 F.2.2.2.2.2.2 A := by
  obtain ⟨o1, o2, o3, o4, o5, o6, o7, o8, o9, o10⟩ := hF
  refine Met.ofW (cc := F.2.1) (maxL := F.2.2.1) (ret := none) o1 rfl ?_
  intro p e s m args below meth c s₁ B hml hPc
  obtain ⟨rfl, hP, hD, hK, hN, hao, hA⟩ := hPc
  have hts0 := atoms_spec (ws := Cond.code F.1 F.2.1 F.2.2.1 none :: jGW) B.pre
  have hown : s.vm.findClass F.1.cls = some m.cls := findClass_of_methodNamed B.named
  have hnm : meth.name = "<init>" := (name_of_methodNamed B.named B.method).1.trans o5
  have X : kX F cA D A p (kRoom F) s m [Value.ref (α a)].toArray meth c := ⟨B.exec, B.bytes, hml, by rw [← o7]; exact hown, fun w hw => hts0 w (List.mem_cons_of_mem _ hw), hN, hK, hao, hA, Or.inr ⟨o8, hnm⟩, Nat.le_refl _, Nat.le_refl _, Nat.le_refl _, Nat.le_refl _⟩
  have hex := B.exec
  have hbt := B.bytes
  have hret := B.returns
  have hlocks := B.notSynchronized
  rw [lg_entry_eq]
  obtain ⟨ins, hdec, hstop⟩ := krun_end n F _ _ hrun
  obtain ⟨opc, oL, oS, ocs, onc, ons⟩ := o
  have hins : ins = .return_ := by
    unfold kstop at hstop
    split at hstop
    · rfl
    · rw [Bool.and_eq_true] at hstop
      have := Nat.eq_of_beq_eq_true hstop.1
      omega
  subst hins
  dsimp only at hst hlen hb1 hdec
  subst hst
  refine ih F _ _ hrun (α0 := α) (n0 := cs.length) X ?_ α s.heap [] _ (fun _ _ => rfl) (Nat.le_refl _) hP hD va_S.rf ?_
  · intro β H locs ls e1 e2 hP1 hD1 hS1 hl1
    refine W.widen (k := F.2.2.2.2.2.1) (n := F.2.2.2.2.2.2) hb1.1 hb1.2 ?_
    exact W.vret hex hbt hret (fun t ht _ => ⟨⟨rfl, β, e1, by rw [ht]; exact hP1, hD1⟩, hS1.F ht⟩) hS1.2.2 hdec
  · exact lv_entry [Value.ref (α a)] o9
set_option maxHeartbeats 4000000 in
theorem ksnd : ∀ n, kSnd n := by
  intro n
  induction n with
  | zero => intro E f o h; cases h
  | succ n ih =>
    intro E f o h α0 n0 cA D A p l e R s m args below meth c Q X k
    unfold krun at h
    split at h
    · next ins ln hd =>
      by_cases hl : Nat.beq ln (klen ins) = false
      · rw [if_pos hl] at h; cases h
      · rw [if_neg hl] at h
        have hl2 : ln = klen ins := by
          cases q : Nat.beq ln (klen ins) with
          | false => exact absurd q hl
          | true => exact Nat.eq_of_beq_eq_true q
        subst hl2
        by_cases hs : kstop E ins f = true
        · rw [if_pos hs] at h
          cases h
          exact k
        · rw [if_neg hs] at h
          split at h
          · next z hz =>
            split at h
            · next F a S' hF hS' =>
              by_cases hcc : kall f = true ∧ F.2.2.2.2.1 < E.2.2.2.2.1 ∧ (S'.map (fun v => v.category)).sum ≤ 8 ∧ f.2.2.2.2.1 + F.2.2.2.2.2.1 ≤ E.2.2.2.2.2.1 ∧ f.2.2.2.2.2 + F.2.2.2.2.2.2 ≤ E.2.2.2.2.2.2
              · rw [if_pos hcc] at h
                split at h
                · next d hd9 =>
                  split at h
                  · next hnil =>
                    by_cases hdd : d.2.2.2.2.1 ≤ F.2.2.2.2.2.1 ∧ d.2.2.2.2.2 ≤ F.2.2.2.2.2.2 ∧ f.2.2.2.1.length ≤ d.2.2.2.1.length
                    · rw [if_pos hdd] at h
                      have kk := ih E _ _ h (α0 := α0) (n0 := n0) X k
                      obtain ⟨c1, c2, c3, c4, c5⟩ := hcc
                      obtain ⟨pc, L, S, cs, nc, ns⟩ := f
                      dsimp only at hS' c4 c5 hdd hd9 kk hd
                      subst hS'
                      obtain ⟨a1, a2, a3, a4⟩ := kall_spec c1
                      dsimp only at a1 a2 a3 a4
                      have hFo := kMe_ok hF
                      obtain ⟨o1, o2, o3, o4, o5, o6, o7, o8, o9, o10⟩ := id hFo
                      obtain ⟨hx, hb, hml, hown, hts, hnw, hK, hao, hA, hin, hfr, hlo, hce, hsl⟩ := id X
                      have hG : GoodIn jGW (Cond.code F.1 F.2.1 F.2.2.1 none :: jGW) := goodIn_sub (fun w hw => by rcases List.mem_cons.mp hw with rfl | hw; exact o2; exact hw) (List.all_eq_true.mpr (fun w hw => by rcases List.mem_cons.mp hw with rfl | hw; exact jGW_good _ o2; exact jGW_good _ hw))
                      have hRm : (kRoom F).frames + 1 ≤ R.frames ∧ 8 + (F.2.2.1 + 11) + (kRoom F).locals ≤ R.locals := by
                        simp only [kRoom]
                        omega
                      intro α H locs ls e1 e2 hP hD hS hl9
                      dsimp only at e2 hP hD hl9
                      have hM := kmet (α := α) (cA := cA) (D := D) (A := A) ih hFo hd9 hnil hdd.2.2 ⟨hdd.1, hdd.2.1⟩ l
                      have hpre : PreS s H (kPc D α cA A cs a) [.ref (α a)] := ⟨kPc_blind, fun U hU hW => ⟨rfl, by rw [hU]; exact hP, hD, va_K.moved hW.alike hK, jNW_nest.warm hW hnw, kAO.moved hW.alike hao, fun q hq => hA q (Nat.le_trans hS.1 (by rw [← hU]; exact hq))⟩⟩
                      have hcat2 : ((S'.map (jv α)).map fun v => v.category).sum ≤ 8 := by rw [jcat_map]; exact c3
                      have hW8 : 2 * (F0 m pc ls ((.ref a :: S').map (jv α))).monitorRoom + ((S'.map (jv α)).map fun v => v.category).sum ≤ 8 := by
                        show 2 * 0 + _ ≤ 8
                        omega
                      have a5 : S'.all (kok cs.length) = true := List.all_eq_true.mpr fun v hv => List.all_eq_true.mp a4 v (List.mem_cons_of_mem _ hv)
                      have hrun : va_Run p l e R s m args below meth c H locs nc ns F.2.2.2.2.2.1 F.2.2.2.2.2.2 (F0 m pc ls ((.ref a :: S').map (jv α))) (S'.map (jv α)) (kQc D α cA A cs d.2.2.2.1 (Value.ref (α a) :: []).toArray) A := by
                        unfold kcal at hz
                        split at hz
                        · next i =>
                          obtain ⟨k1, k2⟩ := kCl_ok hz hF
                          cases hnest : z.2 with
                          | false => exact va_runI (As := []) (b := α a) (rest := S'.map (jv α)) ⟨hx, hb, hml, hown, hts⟩ hM ⟨callB_of 0 hts hG rfl rfl rfl (hts _ o3) (hts _ (k1 hnest)) o6 hRm, o5, hts _ o4⟩ hpre rfl rfl hl9.1 rfl hW8 hd ⟨by omega, by omega⟩
                          | true => exact va_runIN (host := "MemoryRows") (As := []) (b := α a) (rest := S'.map (jv α)) ⟨hx, hb, hml, hown, hts⟩ hM ⟨va_cnB 0 hts hG rfl rfl rfl (hnw _ (k2 hnest)) (hts _ o3) o6 hRm, o5, hts _ o4⟩ hpre rfl rfl hl9.1 rfl hW8 hd ⟨by omega, by omega⟩
                        · cases hz
                      intro T hT X9
                      obtain ⟨w, st₀, t, T', L9, h0, X', hL, q1, q2, ⟨⟨hv, β, b1, b2, b3⟩, hFr⟩, st⟩ := hrun T hT X9
                      cases hv
                      obtain ⟨k1, k2, k3⟩ := vx_keep h0 q1 hS (fun _ _ h => h) (fun _ h => h) hL hFr
                      obtain ⟨t2, r1, r2⟩ := kk β T'.heap (locs ++ L9) ls (fun i hi => by rw [b1 i (by rcases hi with hi | hi; exact Or.inl (by omega); exact Or.inr hi)]; exact e1 i hi) (by dsimp only; omega) (by rw [q1]; exact b2) b3 k3 (by rw [kL_ext b1 a3]; exact hl9) T' rfl X'
                      dsimp only at r1
                      rw [kS_ext b1 a5] at r1
                      exact ⟨t2, st t2 r1, r2⟩
                    · rw [if_neg hdd] at h; cases h
                  · cases h
                · cases h
              · rw [if_neg hcc] at h; cases h
            · cases h
          · split at h
            · next g hg => exact kone_snd X hd hg (ih E _ _ h X k)
            · cases h
    · cases h
