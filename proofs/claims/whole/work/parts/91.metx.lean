/-! CONTRACTS OF METHODS THAT RETURN OR THROW -/
def xStr : List (Nat × String) := [(126, "no such weight"), (150, "no such like"), (197, "no such likeness"), (203, "no such share"), (211, "no such step"), (250, "no such guess"), (260, "no such squares"), (273, "no such filling"), (289, "nothing was found amiss")]
/-- what a throw needs of a state: words, two statics of Throwable, the texts -/
def xZ (A : Nat → Prop) (U : State) : Prop := (∀ w ∈ xB, va_Nw w U) ∧ vx_Zq Bundle.tN "UNASSIGNED_STACK" Bundle.steD A U U.heap ∧ vx_Zq Bundle.tN "SUPPRESSED_SENTINEL" Bundle.listD A U U.heap ∧ ∀ q ∈ xStr, ∃ sa : Nat, vk_R RX7 q.1 q.2 sa U
theorem xZ.same {A : Nat → Prop} {s U : State} (hv : s.vm = U.vm) (hh : U.heap = s.heap) (h : xZ A s) : xZ A U := by
  obtain ⟨h1, h2, h3, h4⟩ := h
  have ha : s.vm.Alike U.vm := by rw [← hv]; exact Vm.Alike.refl s.vm
  refine ⟨xB_same hv h1, ?_, ?_, fun q hq => ?_⟩
  · rw [hh]; exact vx_Zq.moved ha h2
  · rw [hh]; exact vx_Zq.moved ha h3
  · obtain ⟨sa, h⟩ := h4 q hq
    exact ⟨sa, vk_R.same hv.symm h⟩
theorem xZ.warm {A : Nat → Prop} {s U : State} {H : Heap} {locs : List Loc} (hW : s.WarmedH U.vm) (hS : va_S A s.heap H locs) (hh : U.heap = H) (h : xZ A s) : xZ A U := by
  obtain ⟨h1, h2, h3, h4⟩ := h
  refine ⟨xB_warm hW h1, ?_, ?_, fun q hq => ?_⟩
  · rw [hh]; exact vx_Zq.moved hW.alike (h2.kept hS.2.1)
  · rw [hh]; exact vx_Zq.moved hW.alike (h3.kept hS.2.1)
  · obtain ⟨sa, h⟩ := h4 q hq
    exact ⟨sa, vk_R.warm hW h⟩
def xRoom : Room := { frames := 6, cells := 1, slots := 6, locals := 170 }
def xPc (D : va_G) (α : Nat → Nat) (cA : Nat → ClassId) (A : Nat → Prop) (M : jM) (as : List Value) : Array Value → State → Prop :=
  va_Pc (as.map (jv α)) (fun U => va_P D vwCl (jW jSH α cA M) U.heap ∧ va_K D vwCl (jtys cA) U ∧ (∀ w ∈ jNW, va_Nw w U) ∧ xZ A U)
def xQc (D : va_G) (α : Nat → Nat) (cA : Nat → ClassId) (A : Nat → Prop) (K : jK) : Array Value → State → Outcome → State → Prop :=
  fun a st oc t => ∃ (v : Option Value) (M' : jM), K (some v) M' ∧ jQc vwCl D jSH α cA A M' v a st oc t
def xXC (D : va_G) (α : Nat → Nat) (cA : Nat → ClassId) (A : Nat → Prop) (K : jK) : String → State → State → Prop :=
  fun E st t => E = xN ∧ ∃ M' : jM, K none M' ∧ va_P D vwCl (jW jSH α cA M') t.heap ∧ va_F A st t
theorem xPc_blind {D : va_G} {α : Nat → Nat} {cA : Nat → ClassId} {A : Nat → Prop} {M : jM} {as : List Value} : FrameBlind (xPc D α cA A M as) := by
  intro a U g mk h
  obtain ⟨h1, h2, h3, h4, h5⟩ := h
  exact ⟨h1, h2, va_K.moved (u := U) (U := U.calling g mk a) (Vm.Alike.refl U.vm) h3, jNW_nest.same (s := U) (U := U.calling g mk a) rfl h4, xZ.same (s := U) (U := U.calling g mk a) rfl rfl h5⟩
/-- where a method throws: its place, its text; the text by a short or a long index -/
def xSite (y : Nat) (cc : ByteArray) : Prop := ∃ (pc is n : Nat) (tx : String), (is, tx) ∈ xStr ∧ (∀ pc' k, jMI y pc' = some (.new k) → pc' = pc) ∧ decode cc pc = .ok (.new 124, 3) ∧ decode cc (pc + 3) = .ok (.dup, 1) ∧
  ((decode cc (pc + 4) = .ok (.ldc is, 2) ∧ n = 6) ∨ (decode cc (pc + 4) = .ok (.ldc_w is, 3) ∧ n = 7)) ∧ decode cc (pc + n) = .ok (.invokespecial 128, 3) ∧ decode cc (pc + n + 3) = .ok (.athrow, 1)
set_option maxHeartbeats 4000000 in
theorem jmetX {z : Nat} {F : jE} (hF : jMT z = some F) {as : List Value} {M : jM} {K : jK} (hev : jEv z (0, lv_args 0 as, [], M) K) (hlen : (lg_sl as).length ≤ F.2.2.1) (hht : F.2.2.2.2.1 ≤ 5) (hcls : F.1.cls = RX7) (hsite : xSite z F.2.1)
    {α : Nat → Nat} {cA : Nat → ClassId} {D : va_G} {A : Nat → Prop} (hD : ∀ M, va_D A (jW jSH α cA M)) (l : Launch) (hl : l.stackTraces = false) :
    vx_Met l F.1 (Cond.code F.1 F.2.1 F.2.2.1 F.2.2.2.1 :: jGW) xRoom (xPc D α cA A M as) (xQc D α cA A K) (xXC D α cA A K) 1 6 A := by
  obtain ⟨o1, o2, o3, o4, o5, o6, o7, o8, o9, o10⟩ := jOk_all z F hF
  obtain ⟨n, o, hrun, hfin⟩ := hev
  refine vx_ofW (cc := F.2.1) (maxL := F.2.2.1) (ret := F.2.2.2.1) o1 rfl ?_
  intro p e s m args below meth c s₁ B hml htab hPc
  obtain ⟨rfl, hP, hK, hN, hZ⟩ := hPc
  have hts0 := atoms_spec (ws := Cond.code F.1 F.2.1 F.2.2.1 F.2.2.2.1 :: jGW) B.pre
  have hts : ∀ w ∈ jGW, w.before (as.map (jv α)).toArray s = true := fun w hw => hts0 w (List.mem_cons_of_mem _ hw)
  have hown : s.vm.findClass F.1.cls = some m.cls := findClass_of_methodNamed B.named
  have hX : jX jGW jNW vwCl (jtys cA) D F p s m (as.map (jv α)).toArray c := ⟨B.exec, B.bytes, hml, hown, hts, hN, hK⟩
  rw [lg_entry_eq]
  obtain ⟨opc, oL, oS, oM⟩ := o
  have hlocks := B.notSynchronized
  have hret := B.returns
  refine jsnd jOk_all jGW_good jNW_nest n z F hF _ _ hrun (H0 := s.heap) hX hD (show F.2.2.2.2.1 ≤ 6 by omega) (show 34 * F.2.2.2.2.1 ≤ 170 by omega) (Nat.zero_le _) (Nat.zero_le _) ?_ s.heap [] _ ⟨hP, va_S.rf, ?_⟩
  · intro H locs ls hrel
    rcases hfin with ⟨E, r, v, f1, f2, f3, f4⟩ | ⟨k, f1, f2, f3⟩
    · cases hF.symm.trans f1
      obtain ⟨ln, hdec, hln⟩ := o8 _ _ f2
      have hq : ∀ (w : Option Value) (t : State), w = v.map (jv α) → t.heap = H → xQc D α cA A K (as.map (jv α)).toArray s (.returned w) t := fun w t hw ht => ⟨v, oM, f4, ⟨by rw [hw], by rw [ht]; exact hrel.1⟩, hrel.2.1.F ht⟩
      refine vx_ret (W.widen (k := 1) (n := 6) (Nat.zero_le _) (Nat.zero_le _) ?_)
      dsimp only at f2 f3 hdec
      unfold jback at f3
      split at f3
      · split at f3
        · next x =>
          split at f3
          · next hc =>
            cases f3
            have hdec := jlen1 hdec hln (Nat.succ_ne_zero _)
            rcases hc with hc | ⟨hc, hx⟩
            · exact W.iret B.exec B.bytes (hret.trans hc) (fun t ht _ => hq _ t rfl ht) hrel.2.1.2.2 hdec
            · exact W.zret B.exec B.bytes (hret.trans hc) (by rcases hx with rfl | rfl <;> rfl) (fun t ht _ => hq _ t rfl ht) hrel.2.1.2.2 hdec
          · cases f3
        · cases f3
      · split at f3
        · next x =>
          split at f3
          · next hc =>
            cases f3
            have hdec := jlen1 hdec hln (Nat.succ_ne_zero _)
            exact W.lret B.exec B.bytes (hret.trans hc) (fun t ht _ => hq _ t rfl ht) hrel.2.1.2.2 hdec
          · cases f3
        · cases f3
      · split at f3
        · next nm hc =>
          split at f3
          · next x =>
            cases f3
            have hdec := jlen1 hdec hln (Nat.succ_ne_zero _)
            exact W.aret B.exec B.bytes (hret.trans hc) (Or.inl ⟨nm, rfl⟩) (Or.inr ⟨α x, rfl⟩) (fun t ht _ => hq _ t rfl ht) hrel.2.1.2.2 hdec
          · cases f3
            have hdec := jlen1 hdec hln (Nat.succ_ne_zero _)
            exact W.aret B.exec B.bytes (hret.trans hc) (Or.inl ⟨nm, rfl⟩) (Or.inl rfl) (fun t ht _ => hq _ t rfl ht) hrel.2.1.2.2 hdec
          · cases f3
        · cases f3
      · split at f3
        · split at f3
          · next hc =>
            cases f3
            have hdec := jlen1 hdec hln (Nat.succ_ne_zero _)
            exact W.vret B.exec B.bytes (hret.trans hc) (fun t ht _ => hq _ t rfl ht) hrel.2.1.2.2 hdec
          · cases f3
        · cases f3
      · cases f3
    · obtain ⟨pc, is, sn, tx, s1, s2, s3, s4, s5, s6, s7⟩ := hsite
      have e1 : opc = pc := s2 _ _ f1
      have e2 : oS = [] := f2
      subst e1 e2
      obtain ⟨z1, z2, z3, z4⟩ := hZ
      obtain ⟨sa, hsa⟩ := z4 _ s1
      have hat : ∀ w ∈ xAt, w.before (as.map (jv α)).toArray s = true := by
        refine vx_hat (B := xB) (fun w hw => hts w (xG_in w hw)) (fun w hw => hw) (fun w hw => va_Nw.use ?_ (z1 w hw))
        have h1 := xB_w w hw
        cases w <;> first | (cases h1; done) | rfl
      have hxc : ∀ t : State, s.vm.Alike t.vm → H.size ≤ t.heap.size → (∀ q : Nat, q < H.size → t.heap[q]? = H[q]?) → xXC D α cA A K xN s t := by
        intro t _ h1 h2
        refine ⟨rfl, oM, f3, va_P.kept hrel.1 (fun k q hk => h2 _ (vx_lt hrel.1 hk)), Nat.le_trans hrel.2.1.1 h1, fun q q1 q2 => ?_⟩
        rw [h2 q (Nat.lt_of_lt_of_le q1 hrel.2.1.1)]
        exact hrel.2.1.2.1 q q1 q2
      have hown7 : s.vm.findClass RX7 = some m.cls := by rw [← hcls]; exact hown
      have hsz : ls.size = c.maxLocals := by rw [hml]; exact hrel.2.2.1
      have hout : ∀ k : Nat, ∀ x ∈ c.exceptionTable.toList, covers x k = false := fun k x hx => absurd (htab x hx) id
      exact x_throw B.exec B.bytes hl hown7 (hts _ xCl_in) (hts _ xIn_in) hsa hat z2 z3 hrel.2.1 hsz s3 s4 s5 s6 s7 (hout _) (Nat.le_of_ble_eq_true rfl) (Nat.le_of_ble_eq_true rfl) (Nat.le_of_ble_eq_true rfl) (Nat.le_of_ble_eq_true rfl) hlocks hxc hrel.2.1.2.2 (by decide) (by decide)
  · show lv_has _ F.2.2.1 (jL α (lv_args 0 as))
    rw [jargs_map]
    exact lv_entry (as.map (jv α)) (by rw [jsl_len]; exact hlen)
