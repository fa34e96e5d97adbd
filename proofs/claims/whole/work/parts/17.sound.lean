section JSeven
variable {T : jT} {GW NW : List Cond} {cl : List vw_C}
set_option maxHeartbeats 2000000 in
/-- RUNS ARE SOUND -/
theorem jsnd (ok : ∀ y E, T.2.2.1 y = some E → jOkM T GW NW cl y E) (hGW : ∀ w ∈ GW, goodWord w = true) (hNW : jNest NW) : ∀ n, jSnd T GW NW cl n := by
  intro n
  induction n with
  | zero =>
    intro y E hE f o h
    simp [jrun] at h
  | succ n ih =>
    intro y E hE f o h α cA D A H0 p l e R s m args below meth c cells slots Q X hD hfr hlo hce hsl k
    obtain ⟨pc, L, S, M⟩ := f
    obtain ⟨o1, o2, o3, o4, o5, o6, o7, o8, o9, o10⟩ := ok y E hE
    unfold jrun at h
    rw [hE] at h
    dsimp only at h
    split at h
    · next E' ins hE' hins =>
      cases hE'
      obtain ⟨ln, hdec, hln⟩ := o8 _ _ hins
      by_cases ht : jterm ins = true
      · rw [if_pos ht] at h
        cases h
        exact k
      · rw [if_neg ht] at h
        split at h
        · next z hz =>
          split at h
          · next F hF =>
            split at h
            · next ar har =>
              split at h
              · next d hd =>
                split at h
                · next r hr =>
                  split at h
                  · next v hv =>
                    obtain ⟨as, rest⟩ := ar
                    dsimp only at hd h
                    have kk := ih y E hE _ _ h (H0 := H0) X hD hfr hlo hce hsl k
                    obtain ⟨a1, a2, a3, a4, a5, a6, a7⟩ := jargs_spec har
                    have hM := jmet ok ih hF hd hr hv a6 hD l (D := D)
                    obtain ⟨q1, q2, q3, q4, q5, q6, q7, q8, q9, q10⟩ := ok z.1 F hF
                    obtain ⟨hx, hb, hml, hown, hts, hnw, hK⟩ := id X
                    have hG : GoodIn GW (Cond.code F.1 F.2.1 F.2.2.1 F.2.2.2.1 :: GW) := goodIn_sub (fun w hw => by rcases List.mem_cons.mp hw with rfl | hw; exact q2; exact hw) (List.all_eq_true.mpr (fun w hw => by rcases List.mem_cons.mp hw with rfl | hw; exact hGW _ q2; exact hGW _ hw))
                    have hRm : (jRoom F.2.2.2.2.1).frames + 1 ≤ R.frames ∧ 8 + (F.2.2.1 + 11) + (jRoom F.2.2.2.2.1).locals ≤ R.locals := by
                      simp only [jRoom]
                      omega
                    have hpre : ∀ H : Heap, va_P D cl (jW T.1 α cA M) H → PreS s H (jPc NW cl D T.1 α cA M as) (as.map (jv α)) := fun H hP => ⟨jPc_blind hNW, fun U hU hW => ⟨rfl, by rw [hU]; exact hP, va_K.moved hW.alike hK, hNW.warm hW hnw⟩⟩
                    have hcat : ((rest.map (jv α)).map fun v => v.category).sum ≤ 8 := by rw [jcat_map]; exact a5
                    intro H locs ls hrel
                    have hW8 : 2 * (F0 m pc ls (S.map (jv α))).monitorRoom + ((rest.map (jv α)).map fun v => v.category).sum ≤ 8 := by
                      show 2 * 0 + _ ≤ 8
                      omega
                    have hsz : (F0 m pc ls (S.map (jv α))).locals.size = E.2.2.1 := hrel.2.2.1
                    have hkk : ∀ (H1 : Heap) (locs1 : List Loc), va_P D cl (jW T.1 α cA d.2.2.2) H1 → va_S A H0 H1 locs1 → W p l e R s m args below meth c H1 locs1 cells slots Q (F0 m (pc + 3) ls ((v.map (jv α)).toList ++ rest.map (jv α))) := by
                      intro H1 locs1 hP1 hS1
                      have := kk H1 locs1 ls ⟨hP1, hS1, hrel.2.2⟩
                      cases v with
                      | none => exact this
                      | some w => exact this
                    have hlk := o9
                    unfold jcall at hz
                    split at hz
                    · next i =>
                      split at hz
                      · next z' hz' =>
                        cases hz
                        dsimp only at a2 a7 hF hM
                        obtain ⟨b, as', fs, rfl, hsb⟩ := a7 rfl
                        obtain ⟨i1, i2, cq, i3, i4⟩ := q6 a3
                        have hdec := jlen1 hdec hln (Nat.succ_ne_zero _)
                        have hrecv := va_recv hK hrel.1 i3 (jo_obj hsb)
                        rw [i4] at hrecv
                        have hstk : (F0 m pc ls (S.map (jv α))).stack = (as'.map (jv α)).reverse ++ .ref (α b) :: rest.map (jv α) := by
                          show S.map (jv α) = _
                          rw [a1]
                          simp [jv]
                        have hn2 : (as'.map (jv α)).length = F.2.2.2.2.2.2.2 := by
                          have : as'.length + 1 = F.2.2.2.2.2.2.2 + 1 := a2
                          rw [List.length_map]
                          omega
                        obtain ⟨hp1, hp2⟩ := hpre H hrel.1
                        obtain ⟨k1, k2⟩ := hlk i z' hz' F hF
                        cases hnest : z'.2 with
                        | false =>
                          exact jcallW (va_runV (C := F.1.cls) (As := as'.map (jv α)) (b := α b) (rest := rest.map (jv α)) ⟨hx, hb, hml, hown, hts⟩ hM ⟨callB_of _ hts hG rfl rfl rfl (hts _ q3) (hts _ (k1 hnest)) q4 hRm, hts _ i1, hts _ i2⟩ ⟨hp1, hrecv, hp2⟩ rfl hn2 hsz hstk hW8 hdec ⟨hce, hsl⟩) hrel.2.1 hkk
                        | true =>
                          obtain ⟨host, hw⟩ := k2 hnest
                          exact jcallW (va_runVN (C := F.1.cls) (host := host) (As := as'.map (jv α)) (b := α b) (rest := rest.map (jv α)) ⟨hx, hb, hml, hown, hts⟩ hM ⟨va_cnB _ hts hG rfl rfl rfl (hnw _ hw) (hts _ q3) q4 hRm, hts _ i1, hts _ i2⟩ ⟨hp1, hrecv, hp2⟩ rfl hn2 hsz hstk hW8 hdec ⟨hce, hsl⟩) hrel.2.1 hkk
                      · cases hz
                    · next i =>
                      split at hz
                      · cases hz
                      split at hz
                      · next z' hz' =>
                        cases hz
                        dsimp only at a2 a7 hF hM
                        have i1 := q5 a3
                        have hdec := jlen1 hdec hln (Nat.succ_ne_zero _)
                        have hstk : (F0 m pc ls (S.map (jv α))).stack = (as.map (jv α)).reverse ++ rest.map (jv α) := by
                          show S.map (jv α) = _
                          rw [a1]
                          simp
                        have hn2 : (as.map (jv α)).length = F.2.2.2.2.2.2.2 := by
                          rw [List.length_map]
                          exact a2
                        obtain ⟨k1, k2⟩ := hlk i z' hz' F hF
                        cases hnest : z'.2 with
                        | false =>
                          exact jcallW (va_runS (As := as.map (jv α)) (rest := rest.map (jv α)) ⟨hx, hb, hml, hown, hts⟩ hM ⟨callB_of _ hts hG rfl rfl rfl (hts _ q3) (hts _ (k1 hnest)) q4 hRm, hts _ i1⟩ (hpre H hrel.1) rfl hn2 hsz hstk hW8 hdec ⟨hce, hsl⟩) hrel.2.1 hkk
                        | true =>
                          obtain ⟨host, hw⟩ := k2 hnest
                          exact jcallW (va_runSN (host := host) (As := as.map (jv α)) (rest := rest.map (jv α)) ⟨hx, hb, hml, hown, hts⟩ hM ⟨va_cnB _ hts hG rfl rfl rfl (hnw _ hw) (hts _ q3) q4 hRm, hts _ i1, trivial⟩ (hpre H hrel.1) rfl hn2 hsz hstk hW8 hdec ⟨hce, hsl⟩) hrel.2.1 hkk
                      · cases hz
                    · cases hz
                  · cases h
                · cases h
              · cases h
            · cases h
          · cases h
        · split at h
          · next d hd =>
            refine fun H locs ls hrel => jone_snd o10 X hD hfr hlo hce hsl hdec hln hd (ih y E hE _ _ h X hD hfr hlo hce hsl k) H locs ls ⟨hrel.1, hrel.2.1, jkp_has hrel.2.2⟩
          · cases h
    · cases h
end JSeven
