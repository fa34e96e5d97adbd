def kis1 : Instr → Bool
  | .aload_n _ => true
  | .iload_n _ => true
  | .istore_n _ => true
  | .astore_n _ => true
  | .iconst _ => true
  | .bipush _ => true
  | .lconst _ => true
  | .dup => true
  | .iinc _ _ => true
  | .goto _ => true
  | .if_icmp _ _ => true
  | _ => false
def kis2 : Instr → Bool
  | .getfield _ => true
  | .putfield _ => true
  | .aastore => true
  | .invokespecial _ => true
  | _ => false
section KOne
variable {α0 : Nat → Nat} {n0 : Nat} {cA : Nat → ClassId} {D : va_G} {A : Nat → Prop} {p : Program} {l : Launch} {e : Env} {R : Room} {s : State} {m : MethodId} {args : Array Value} {below : List Frame} {meth : Method} {c : Code} {Q : State → Prop} {E : kE}
variable {pc : Nat} {L : List (Nat × Value)} {S : List Value} {cs : List kC} {nc ns : Nat} {g : kF}
theorem kjL_at {α : Nat → Nat} {ls : Array Slot} {nL i : Nat} {v : Value} (h : lv_has ls nL (jL α L)) (hk : jlk i L = some v) : ls[i]? = some (.val (jv α v)) := jL_at h hk
set_option maxHeartbeats 4000000 in
/-- one of three: registers and jumps -/
theorem kone_a (X : kX E cA D A p R s m args meth c) {ins : Instr} (hd : decode E.2.1 pc = .ok (ins, klen ins)) (h : kone E ins (pc, L, S, cs, nc, ns) = some g)
    (hk : kis1 ins = true)
    (k : kG α0 n0 cA D A E.2.2.1 p l e R s m args below meth c Q g) : kG α0 n0 cA D A E.2.2.1 p l e R s m args below meth c Q (pc, L, S, cs, nc, ns) := by
  obtain ⟨hx, hb, hml, hown, hts, hnw, hK, hao, hA, hin, hfr, hlo, hce, hsl⟩ := X
  intro α H locs ls e1 e2 hP hD hS hl
  unfold kone at h
  cases ins with
  | aload_n i =>
    dsimp only at h
    split at h
    · next a ha =>
      cases h
      exact lv_aload_n hx hb hd rfl (kjL_at hl ha) (k α H locs ls e1 e2 hP hD hS hl)
    · cases h
  | iload_n i =>
    dsimp only at h
    split at h
    · next a ha =>
      cases h
      exact lv_iload_n hx hb hd rfl (kjL_at hl ha) (k α H locs ls e1 e2 hP hD hS hl)
    · cases h
  | istore_n i =>
    dsimp only at h
    split at h
    · next x S' =>
      by_cases hn : (i : Nat) < E.2.2.1
      · rw [if_pos hn] at h
        cases h
        exact lv_istore_n hx hb hd rfl hl hn (by rw [jf1_map]) (fun ls' h => k α H locs ls' e1 e2 hP hD hS (jins_has h))
      · rw [if_neg hn] at h; cases h
    · cases h
  | astore_n i =>
    dsimp only at h
    split at h
    · next x S' =>
      by_cases hn : (i : Nat) < E.2.2.1
      · rw [if_pos hn] at h
        cases h
        exact lv_astore_n hx hb hd rfl hl hn (by rw [jf1_map]) (fun ls' h => k α H locs ls' e1 e2 hP hD hS (jins_has h))
      · rw [if_neg hn] at h; cases h
    · cases h
  | iconst i => cases h; exact lv_iconst hx hb hd rfl (k α H locs ls e1 e2 hP hD hS hl)
  | bipush i => cases h; exact lv_bipush hx hb hd rfl (k α H locs ls e1 e2 hP hD hS hl)
  | lconst i => cases h; exact lv_lconst hx hb hd rfl (k α H locs ls e1 e2 hP hD hS hl)
  | dup =>
    dsimp only at h
    split at h
    · cases h
      exact lv_dup hx hb hd rfl (k α H locs ls e1 e2 hP hD hS hl)
    · cases h
  | iinc i z =>
    dsimp only at h
    split at h
    · next x hx9 =>
      by_cases hn : i < E.2.2.1
      · rw [if_pos hn] at h
        cases h
        obtain ⟨q, hq⟩ := jL_ix (α := α) hx9
        exact lv_iinc hx hb hd hl hq rfl hn (by rw [jf1_map]) (fun ls' h => k α H locs ls' e1 e2 hP hD hS (jins_has h))
      · rw [if_neg hn] at h; cases h
    · cases h
  | goto off =>
    dsimp only at h
    split at h
    · next t ht =>
      cases h
      exact lv_goto hx hb hd (ja_go ht) (k α H locs ls e1 e2 hP hD hS hl)
    · cases h
  | if_icmp co off =>
    cases co with
    | ge =>
      dsimp only at h
      split at h
      · next b a S' t ht =>
        cases h
        refine lv_icmp_ge hx hb hd (ja_go ht) (fun q => ?_) (fun q => ?_)
        · have := k α H locs ls e1 e2 hP hD hS hl
          dsimp only at this
          rw [if_pos q] at this
          exact this
        · have := k α H locs ls e1 e2 hP hD hS hl
          dsimp only at this
          rw [if_neg q] at this
          exact this
      · cases h
    | _ => cases h
  | _ => cases hk
set_option maxHeartbeats 4000000 in
/-- fields, references in arrays, Object's constructor -/
theorem kone_b (X : kX E cA D A p R s m args meth c) {ins : Instr} (hd : decode E.2.1 pc = .ok (ins, klen ins)) (h : kone E ins (pc, L, S, cs, nc, ns) = some g)
    (hk : kis2 ins = true)
    (k : kG α0 n0 cA D A E.2.2.1 p l e R s m args below meth c Q g) : kG α0 n0 cA D A E.2.2.1 p l e R s m args below meth c Q (pc, L, S, cs, nc, ns) := by
  obtain ⟨hx, hb, hml, hown, hts, hnw, hK, hao, hA, hin, hfr, hlo, hce, hsl⟩ := X
  intro α H locs ls e1 e2 hP hD hS hl
  unfold kone at h
  cases ins with
  | getfield i =>
    dsimp only at h
    split at h
    · next k9 a S' hf =>
      split at h
      · next ci fs hc9 =>
        by_cases hci : ci = E.2.2.2.1
        · rw [if_pos hci] at h
          split at h
          · next v hv =>
            cases h
            subst hci
            obtain ⟨hkd, -⟩ := kFi_mem hf
            obtain ⟨q, hq⟩ : ∃ q, vwCl[E.2.2.2.1]? = some q := ⟨_, List.getElem?_eq_getElem hkd⟩
            obtain ⟨f1, f2, f3⟩ := kFi_ok hf hq
            have hown2 : s.vm.findClass q.1 = some m.cls := by rw [← hown]; unfold kcls; rw [hq]
            exact va_get (C := q.1) (T := q.2.1) (N := q.2.2) (ref := (q.2.1 k9).1) (v := jv α v) hx hb hts (jokC _ q hq).1 hown2 hK hP a (kW_at hc9) hq k9 f1 (hts _ f3) (fun _ h => h) (by simp [hv]) hd (k α H locs ls e1 e2 hP hD hS hl)
          · cases h
        · rw [if_neg hci] at h; cases h
      · cases h
    · cases h
  | putfield i =>
    dsimp only at h
    split at h
    · next k9 v a S' hf =>
      split at h
      · next ci fs q hc9 hq =>
        by_cases hcc : ci = E.2.2.2.1 ∧ k9 < fs.length ∧ k9 < q.2.2
        · rw [if_pos hcc] at h
          obtain ⟨hci, hlen, hkN⟩ := hcc
          split at h
          · next ty hty =>
            by_cases hfit : kfit ty v = true
            · rw [if_pos hfit] at h
              cases h
              subst hci
              obtain ⟨f1, f2, f3⟩ := kFi_ok hf hq
              obtain ⟨hkd, -⟩ := kFi_mem hf
              obtain ⟨j1, ⟨ty0, j2⟩, j3⟩ := jokC _ q hq
              have hown2 : s.vm.findClass q.1 = some m.cls := by rw [← hown]; unfold kcls; rw [hq]
              obtain ⟨n1, n2⟩ := kfit_ok (α := α) hfit
              have hset : (kW α cA cs).set a (α a, .inr (E.2.2.2.1, (fs.map (jv α)).set k9 (jv α v))) = kW α cA (cs.set a (.inl (E.2.2.2.1, fs.set k9 v))) := kW_set hc9 (by simp [kcell, List.map_set])
              have kk : ∀ (H1 : Heap) (locs1 : List Loc), va_P D vwCl ((kW α cA cs).set a (α a, .inr (E.2.2.2.1, (fs.map (jv α)).set k9 (jv α v)))) H1 → va_D A ((kW α cA cs).set a (α a, .inr (E.2.2.2.1, (fs.map (jv α)).set k9 (jv α v)))) → va_S A s.heap H1 locs1 → W p l e R s m args below meth c H1 locs1 nc ns Q (F0 m (pc + 3) ls (S'.map (jv α))) := by
                intro H1 locs1 hP1 hD1 hS1
                rw [hset] at hP1 hD1
                exact k α H1 locs1 ls e1 (by simpa using e2) hP1 hD1 hS1 hl
              cases hfin : (q.2.1 k9).2.2.2 with
              | false => exact va_put (C := q.1) (T := q.2.1) (N := q.2.2) (ref := (q.2.1 k9).1) hx hb hts j1 ty0 j2 j3 hown2 hK hP hD hS a (kW_at hc9) hq k9 f1 (hts _ f3) (fun _ h => h) hfin hty n1 n2 (by rw [List.length_map]; exact hlen) hd kk
              | true =>
                have hnm : meth.name = "<init>" := by rcases hin with q9 | q9; omega; exact q9.2
                exact va_putF (C := q.1) (T := q.2.1) (N := q.2.2) (ref := (q.2.1 k9).1) hx hb hts j1 ty0 j2 j3 hown2 hK hP hD hS a (kW_at hc9) hq k9 f1 (hts _ f3) (fun _ h => h) hfin hnm f2 hty n1 n2 (by rw [List.length_map]; exact hlen) hd kk
            · rw [if_neg hfit] at h; cases h
          · cases h
        · rw [if_neg hcc] at h; cases h
      · cases h
    · cases h
  | aastore =>
    dsimp only at h
    split at h
    · next v i a S' =>
      split at h
      · next t n rs ci vs hc9 hv9 =>
        split at h
        · next q hq =>
          by_cases hcc : 4 ≤ t ∧ t < 8 ∧ jty t = .object q.1 ∧ ¬ i < 0 ∧ i.toNatClampNeg < n ∧ i.toNatClampNeg < rs.length
          · rw [if_pos hcc] at h
            obtain ⟨t1, t2, t3, t4, t5, t6⟩ := hcc
            cases h
            have ha : (kW α cA cs)[a]? = some (α a, .inl (cA t, n, .inr (.inr (.inr (.inr (fun k : Nat => (rs[k]?).join.map α)))))) := by
              rw [kW_at hc9]
              simp only [kcell, if_neg (show ¬ t = 3 by omega), if_neg (show ¬ t < 3 by omega)]
            have hset : (kW α cA cs).set a (α a, .inl (cA t, n, .inr (.inr (.inr (.inr (va_up (fun k : Nat => (rs[k]?).join.map α) i.toNatClampNeg (some (α v)))))))) = kW α cA (cs.set a (.inr (t, n, rs.set i.toNatClampNeg (some v)))) := by
              refine kW_set hc9 ?_
              simp only [kcell, if_neg (show ¬ t = 3 by omega), if_neg (show ¬ t < 3 by omega)]
              congr 7
              funext j
              unfold va_up
              rw [List.getElem?_set]
              by_cases hj : j = i.toNatClampNeg
              · subst hj
                simp [t6]
              · rw [if_neg hj, if_neg (fun q => hj q.symm)]
            refine va_astq hx hb hK hP hD hS a t v ci (r := q) (cA := cA t) ha (by rw [jtys_at cA t2, t3]) (kW_at hv9) hq (fun q9 => by rcases q9 with q9 | q9; exact t4 q9; omega) hd (fun H1 locs1 hP1 hD1 hS1 => ?_)
            rw [hset] at hP1 hD1
            exact k α H1 locs1 ls e1 (by simpa using e2) hP1 hD1 hS1 hl
          · rw [if_neg hcc] at h; cases h
        · cases h
      · cases h
    · cases h
  | invokespecial i =>
    dsimp only at h
    split at h
    · next a S' =>
      by_cases hcc : kOb E.2.2.2.1 i = true ∧ (S'.map (fun v => v.category)).sum ≤ 0
      · rw [if_pos hcc] at h
        cases h
        have hkd : E.2.2.2.1 < 9 := by
          rcases hin with q9 | q9
          · rw [q9] at hcc; exact absurd hcc.1 Bool.false_ne_true
          · exact q9.1
        refine W.objInit hx hb hown (hts _ (kOb_ok hkd hcc.1)) (hts _ kob1) (hts _ kob2) rfl (by rw [hml]; exact hl.1) (a := α a) (rest := S'.map (jv α)) rfl hd (by omega) ?_ ?_
        · rw [jcat_map]
          show 2 * 0 + _ + 12 ≤ _
          omega
        · exact k α H locs ls e1 e2 hP hD hS hl
      · rw [if_neg hcc] at h; cases h
    · cases h
  | _ => cases hk
end KOne
