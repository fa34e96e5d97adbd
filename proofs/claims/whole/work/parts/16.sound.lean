/-! calls, and runs -/
def jRoom (h : Nat) : Room := { frames := h, cells := 0, slots := 0, locals := 34 * h }
/-- a method's words and its instructions are what the tables say -/
def jOkM (T : jT) (GW NW : List Cond) (cl : List vw_C) (y : Nat) (E : jE) : Prop :=
  plainName E.1.cls = true ∧ Cond.code E.1 E.2.1 E.2.2.1 E.2.2.2.1 ∈ GW ∧ Cond.initialized E.1.cls ∈ GW ∧ (E.1.cls ≠ "java/lang/invoke/MethodHandle" ∧ E.1.cls ≠ "java/lang/invoke/VarHandle" ∧ (parseMethodDescriptor E.1.desc).map (fun d => d.parameters.length) = some E.2.2.2.2.2.2.2) ∧
  (E.2.2.2.2.2.2.1 = true → Cond.static E.1 ∈ GW) ∧ (E.2.2.2.2.2.2.1 = false → Cond.instanceMethod E.1 ∈ GW ∧ Cond.selects E.1.cls E.1 E.1 ∈ GW ∧ ∃ q : vw_C, cl[E.2.2.2.2.2.1]? = some q ∧ q.1 = E.1.cls) ∧ E.2.2.1 ≤ 15 ∧
  (∀ (pc : Nat) (ins : Instr), T.2.1 y pc = some ins → ∃ n : Nat, decode E.2.1 pc = .ok (ins, n) ∧ (jlen ins = 0 ∨ n = jlen ins)) ∧
  (∀ (i : Nat) (z : Nat × Bool), T.2.2.2.2.1 E.2.2.2.2.2.1 i = some z → ∀ F : jE, T.2.2.1 z.1 = some F → (z.2 = false → Cond.methodLink E.1.cls i F.1 ∈ GW) ∧ (z.2 = true → ∃ host : String, Cond.methodLinkNest E.1.cls i F.1 host ∈ NW)) ∧ jOk1 T GW NW cl E
def jNest (NW : List Cond) : Prop := ∀ w ∈ NW, (∃ (a : String) (i : Nat) (b n d h : String), w = .fieldLinkNest a i b n d h) ∨ (∃ (a : String) (i : Nat) (x : MethodName) (h : String), w = .methodLinkNest a i x h)
theorem jNest.warm {NW : List Cond} (hN : jNest NW) {s U : State} (hW : s.WarmedH U.vm) (h : ∀ w ∈ NW, va_Nw w s) : ∀ w ∈ NW, va_Nw w U := by
  intro w hw
  rcases hN w hw with ⟨a, i, b, n, d, o, rfl⟩ | ⟨a, i, x, o, rfl⟩
  · exact va_Nw.warmF hW (h _ hw)
  · exact va_Nw.warmM hW (h _ hw)
theorem jNest.same {NW : List Cond} (hN : jNest NW) {s U : State} (hW : s.vm = U.vm) (h : ∀ w ∈ NW, va_Nw w s) : ∀ w ∈ NW, va_Nw w U := by
  intro w hw
  rcases hN w hw with ⟨a, i, b, n, d, o, rfl⟩ | ⟨a, i, x, o, rfl⟩
  · exact va_Nw.same rfl hW (h _ hw)
  · exact va_Nw.same rfl hW (h _ hw)
/-- what a call finds -/
def jPc (NW : List Cond) (cl : List vw_C) (D : va_G) (sh : List jS) (α : Nat → Nat) (cA : Nat → ClassId) (M : jM) (as : List Value) : Array Value → State → Prop :=
  va_Pc (as.map (jv α)) (fun U => va_P D cl (jW sh α cA M) U.heap ∧ va_K D cl (jtys cA) U ∧ ∀ w ∈ NW, va_Nw w U)
/-- what a call leaves -/
def jQc (cl : List vw_C) (D : va_G) (sh : List jS) (α : Nat → Nat) (cA : Nat → ClassId) (A : Nat → Prop) (M : jM) (v : Option Value) : Array Value → State → Outcome → State → Prop :=
  fun _ st oc t => (oc = .returned (v.map (jv α)) ∧ va_P D cl (jW sh α cA M) t.heap) ∧ va_F A st t
theorem jPc_blind {NW : List Cond} (hN : jNest NW) {cl : List vw_C} {D : va_G} {sh : List jS} {α : Nat → Nat} {cA : Nat → ClassId} {M : jM} {as : List Value} : FrameBlind (jPc NW cl D sh α cA M as) := by
  intro a U g mk h
  obtain ⟨h1, h2, h3, h4⟩ := h
  exact ⟨h1, h2, va_K.moved (u := U) (U := U.calling g mk a) (Vm.Alike.refl U.vm) h3, hN.same (s := U) (U := U.calling g mk a) rfl h4⟩
theorem jargs_spec {T : jT} {E F : jE} {st : Bool} {S as rest : List Value} (h : jargs T E F st S = some (as, rest)) : S = as.reverse ++ rest ∧ as.length = F.2.2.2.2.2.2.2 + (if st then 0 else 1) ∧ F.2.2.2.2.2.2.1 = st ∧ F.2.2.2.2.1 < E.2.2.2.2.1 ∧ (rest.map (fun v => v.category)).sum ≤ 8 ∧ (lg_sl as).length ≤ F.2.2.1 ∧
    (st = false → ∃ (b : Nat) (as' : List Value) (fs : List (Nat × Nat)), as = .ref b :: as' ∧ T.1[b]? = some (.inl (F.2.2.2.2.2.1, fs))) := by
  unfold jargs at h
  dsimp only at h
  cases st with
  | true =>
    simp only [if_true, Nat.add_zero] at h ⊢
    split at h
    · next hc =>
      obtain ⟨c1, c2, c3, c4, c5⟩ := hc
      cases h
      exact ⟨by simp, c2, c1, c3, c4, c5, fun q => by cases q⟩
    · cases h
  | false =>
    simp only [Bool.false_eq_true, if_false] at h ⊢
    split at h
    · next hc =>
      obtain ⟨c1, c2, c3, c4, c5⟩ := hc
      split at h
      · next b as' hb =>
        split at h
        · next ci fs hs =>
          by_cases hci : ci = F.2.2.2.2.2.1
          · rw [if_pos hci] at h
            cases h
            refine ⟨by simp, c2, c1, c3, c4, c5, fun _ => ⟨b, as', fs, hb, ?_⟩⟩
            rw [hs, hci]
          · rw [if_neg hci] at h; cases h
        · cases h
      · cases h
    · cases h
section JFive
variable {T : jT} {GW NW : List Cond} {cl : List vw_C}
variable {α : Nat → Nat} {cA : Nat → ClassId} {D : va_G} {A : Nat → Prop} {H0 : Heap} {p : Program} {l : Launch} {e : Env} {R : Room} {s : State} {m : MethodId} {args : Array Value} {below : List Frame} {meth : Method} {c : Code} {H : Heap} {locs : List Loc} {cells slots : Nat} {Q : State → Prop}
variable {pc : Nat} {ls : Array Slot} {rest st0 : List Value} {a : Array Value}
theorem jcallW {sh : List jS} {v : Option Value} {M' : jM} (hr : va_Run p l e R s m args below meth c H locs cells slots 0 0 (F0 m pc ls st0) rest (jQc cl D sh α cA A M' v a) A) (hS : va_S A H0 H locs)
    (kk : ∀ (H1 : Heap) (locs1 : List Loc), va_P D cl (jW sh α cA M') H1 → va_S A H0 H1 locs1 → W p l e R s m args below meth c H1 locs1 cells slots Q (F0 m (pc + 3) ls ((v.map (jv α)).toList ++ rest))) : W p l e R s m args below meth c H locs cells slots Q (F0 m pc ls st0) := by
  intro U hU X
  obtain ⟨w, st₀, t, T', L, h0, X', hL, e1, e2, ⟨⟨hv, hP⟩, hz, hk⟩, st⟩ := hr U hU X
  cases hv
  rw [h0] at hz hk
  obtain ⟨t2, a1, b1⟩ := kk T'.heap (locs ++ L) (by rw [e1]; exact hP)
    ⟨Nat.le_trans hS.1 (by rw [e1]; exact hz), fun q h1 h2 => by rw [e1, hk q (Nat.lt_of_lt_of_le h1 hS.1) h2]; exact hS.2.1 q h1 h2, fun q hq => by
      rcases List.mem_append.mp hq with h | h
      · exact hS.2.2 q h
      · exact hL q h⟩ T' rfl X'
  exact ⟨t2, st t2 a1, b1⟩
end JFive
/-- runs of fuel n are sound -/
def jSnd (T : jT) (GW NW : List Cond) (cl : List vw_C) (n : Nat) : Prop :=
  ∀ (y : Nat) (E : jE), T.2.2.1 y = some E → ∀ (f o : jC), jrun T n y f = some o →
    ∀ {α : Nat → Nat} {cA : Nat → ClassId} {D : va_G} {A : Nat → Prop} {H0 : Heap} {p : Program} {l : Launch} {e : Env} {R : Room} {s : State} {m : MethodId} {args : Array Value} {below : List Frame} {meth : Method} {c : Code} {cells slots : Nat} {Q : State → Prop},
    jX GW NW cl (jtys cA) D E p s m args c → (∀ M, va_D A (jW T.1 α cA M)) → E.2.2.2.2.1 ≤ R.frames → 34 * E.2.2.2.2.1 ≤ R.locals → cells ≤ R.cells → slots ≤ R.slots →
    jG T.1 α cA cl D A H0 E.2.2.1 p l e R s m args below meth c cells slots Q o → jG T.1 α cA cl D A H0 E.2.2.1 p l e R s m args below meth c cells slots Q f
section JSix
variable {T : jT} {GW NW : List Cond} {cl : List vw_C}
variable {α : Nat → Nat} {cA : Nat → ClassId} {D : va_G} {A : Nat → Prop}
set_option maxHeartbeats 2000000 in
theorem jmet (ok : ∀ y E, T.2.2.1 y = some E → jOkM T GW NW cl y E) {n : Nat} (ih : jSnd T GW NW cl n) {z : Nat} {F : jE} (hF : T.2.2.1 z = some F) {as : List Value} {M : jM} {o : jC} {r : Instr} {v : Option Value} (hrun : jrun T n z (0, lv_args 0 as, [], M) = some o) (hr : T.2.1 z o.1 = some r) (hv : jback F r o.2.2.1 = some v) (hlen : (lg_sl as).length ≤ F.2.2.1)
    (hD : ∀ M, va_D A (jW T.1 α cA M)) (l : Launch) : Met l F.1 (Cond.code F.1 F.2.1 F.2.2.1 F.2.2.2.1 :: GW) (jRoom F.2.2.2.2.1) (jPc NW cl D T.1 α cA M as) (jQc cl D T.1 α cA A o.2.2.2 v) 0 0 A := by
  obtain ⟨o1, o2, o3, o4, o5, o6, o7, o8, o9, o10⟩ := ok z F hF
  refine Met.ofW (cc := F.2.1) (maxL := F.2.2.1) (ret := F.2.2.2.1) o1 rfl ?_
  intro p e s m args below meth c s₁ B hml hPc
  obtain ⟨rfl, hP, hK, hN⟩ := hPc
  have hts0 := atoms_spec (ws := Cond.code F.1 F.2.1 F.2.2.1 F.2.2.2.1 :: GW) B.pre
  have hX : jX GW NW cl (jtys cA) D F p s m (as.map (jv α)).toArray c := ⟨B.exec, B.bytes, hml, findClass_of_methodNamed B.named, fun w hw => hts0 w (List.mem_cons_of_mem _ hw), hN, hK⟩
  rw [lg_entry_eq]
  obtain ⟨opc, oL, oS, oM⟩ := o
  have hlocks := B.notSynchronized
  have hret := B.returns
  refine ih z F hF _ _ hrun (H0 := s.heap) hX hD (Nat.le_refl _) (Nat.le_refl _) (Nat.zero_le _) (Nat.zero_le _) ?_ s.heap [] _ ⟨hP, va_S.rf, ?_⟩
  · obtain ⟨ln, hdec, hln⟩ := o8 _ _ hr
    intro H locs ls hrel
    have hq : ∀ (w : Option Value) (t : State), w = v.map (jv α) → t.heap = H → jQc cl D T.1 α cA A oM v (as.map (jv α)).toArray s (.returned w) t := fun w t hw ht => ⟨⟨by rw [hw], by rw [ht]; exact hrel.1⟩, hrel.2.1.F ht⟩
    dsimp only at hr hv hdec
    unfold jback at hv
    split at hv
    · split at hv
      · next x =>
        split at hv
        · next hc =>
          cases hv
          have hdec := jlen1 hdec hln (Nat.succ_ne_zero _)
          rcases hc with hc | ⟨hc, hx⟩
          · exact W.iret B.exec B.bytes (hret.trans hc) (fun t ht _ => hq _ t rfl ht) hrel.2.1.2.2 hdec
          · exact W.zret B.exec B.bytes (hret.trans hc) (by rcases hx with rfl | rfl <;> rfl) (fun t ht _ => hq _ t rfl ht) hrel.2.1.2.2 hdec
        · cases hv
      · cases hv
    · split at hv
      · next x =>
        split at hv
        · next hc =>
          cases hv
          have hdec := jlen1 hdec hln (Nat.succ_ne_zero _)
          exact W.lret B.exec B.bytes (hret.trans hc) (fun t ht _ => hq _ t rfl ht) hrel.2.1.2.2 hdec
        · cases hv
      · cases hv
    · split at hv
      · next nm hc =>
        split at hv
        · next x =>
          cases hv
          have hdec := jlen1 hdec hln (Nat.succ_ne_zero _)
          exact W.aret B.exec B.bytes (hret.trans hc) (Or.inl ⟨nm, rfl⟩) (Or.inr ⟨α x, rfl⟩) (fun t ht _ => hq _ t rfl ht) hrel.2.1.2.2 hdec
        · cases hv
          have hdec := jlen1 hdec hln (Nat.succ_ne_zero _)
          exact W.aret B.exec B.bytes (hret.trans hc) (Or.inl ⟨nm, rfl⟩) (Or.inl rfl) (fun t ht _ => hq _ t rfl ht) hrel.2.1.2.2 hdec
        · cases hv
      · cases hv
    · split at hv
      · split at hv
        · next hc =>
          cases hv
          have hdec := jlen1 hdec hln (Nat.succ_ne_zero _)
          exact W.vret B.exec B.bytes (hret.trans hc) (fun t ht _ => hq _ t rfl ht) hrel.2.1.2.2 hdec
        · cases hv
      · cases hv
    · cases hv
  · show lv_has _ F.2.2.1 (jL α (lv_args 0 as))
    rw [jargs_map]
    exact lv_entry (as.map (jv α)) (by rw [jsl_len]; exact hlen)
end JSix
