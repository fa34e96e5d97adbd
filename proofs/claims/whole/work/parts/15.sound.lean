section JFour
variable {T : jT} {GW NW : List Cond} {E : jE}
variable {α : Nat → Nat} {cA : Nat → ClassId} {cl : List vw_C} {D : va_G} {A : Nat → Prop} {H0 : Heap} {p : Program} {l : Launch} {e : Env} {R : Room} {s : State} {m : MethodId} {args : Array Value} {below : List Frame} {meth : Method} {c : Code} {cells slots : Nat} {Q : State → Prop}
variable {pc : Nat} {L : List (Nat × Value)} {S : List Value} {M : jM} {g : jC}
theorem jlen1 {ins : Instr} {n : Nat} {cc : ByteArray} (hd : decode cc pc = .ok (ins, n)) (hn : jlen ins = 0 ∨ n = jlen ins) (h0 : ¬ jlen ins = 0) : decode cc pc = .ok (ins, jlen ins) := by
  rcases hn with h | h
  · exact absurd h h0
  · rw [← h]; exact hd
set_option maxHeartbeats 4000000 in
theorem jone_snd (ok : jOk1 T GW NW cl E) (X : jX GW NW cl (jtys cA) D E p s m args c) (hD : ∀ M, va_D A (jW T.1 α cA M)) (hfr : E.2.2.2.2.1 ≤ R.frames) (hlo : 34 * E.2.2.2.2.1 ≤ R.locals) (hce : cells ≤ R.cells) (hsl : slots ≤ R.slots) {ins : Instr} {n : Nat} (hd : decode E.2.1 pc = .ok (ins, n)) (hn : jlen ins = 0 ∨ n = jlen ins) (h : jone T E ins (pc, L, S, M) = some g)
    (k : jG T.1 α cA cl D A H0 E.2.2.1 p l e R s m args below meth c cells slots Q g) : jG T.1 α cA cl D A H0 E.2.2.1 p l e R s m args below meth c cells slots Q (pc, L, S, M) := by
  obtain ⟨hx, hb, hml, hown, hts, hnw, hK⟩ := id X
  cases ins with
  | iconst i => cases h; have hd := jlen1 hd hn (Nat.succ_ne_zero _); exact fun H locs ls hr => lv_iconst hx hb hd rfl (k H locs ls hr)
  | bipush i => cases h; have hd := jlen1 hd hn (Nat.succ_ne_zero _); exact fun H locs ls hr => lv_bipush hx hb hd rfl (k H locs ls hr)
  | sipush i => cases h; have hd := jlen1 hd hn (Nat.succ_ne_zero _); exact fun H locs ls hr => lv_sipush hx hb hd rfl (k H locs ls hr)
  | lconst i => cases h; have hd := jlen1 hd hn (Nat.succ_ne_zero _); exact fun H locs ls hr => lv_lconst hx hb hd rfl (k H locs ls hr)
  | aconst_null => cases h; have hd := jlen1 hd hn (Nat.succ_ne_zero _); exact fun H locs ls hr => lv_null hx hb hd (k H locs ls hr)
  | ldc i =>
    have hd := jlen1 hd hn (Nat.succ_ne_zero _)
    unfold jone at h
    dsimp only at h
    split at h
    · next v hv =>
      cases h
      exact fun H locs ls hr => lv_ldc hx hb hown (hts _ ((ok.2.1 i _ hv).1 v rfl)) hd (k H locs ls hr)
    · cases h
  | ldc_w i =>
    have hd := jlen1 hd hn (Nat.succ_ne_zero _)
    unfold jone at h
    dsimp only at h
    split at h
    · next v hv =>
      cases h
      exact fun H locs ls hr => lv_ldcw hx hb hown (hts _ ((ok.2.1 i _ hv).1 v rfl)) hd (k H locs ls hr)
    · cases h
  | ldc2_w i =>
    have hd := jlen1 hd hn (Nat.succ_ne_zero _)
    unfold jone at h
    dsimp only at h
    split at h
    · next v hv =>
      cases h
      exact fun H locs ls hr => lv_ldc2 hx hb hown (hts _ ((ok.2.1 i _ hv).2 v rfl)) hd (k H locs ls hr)
    · cases h
  | iload_n i => have hd := jlen1 hd hn (Nat.succ_ne_zero _); exact jo_li (fun a b => lv_iload_n hx hb hd rfl a b) h k
  | iload i => have hd := jlen1 hd hn (Nat.succ_ne_zero _); exact jo_li (fun a b => lv_iload hx hb hd a b) h k
  | lload_n i => have hd := jlen1 hd hn (Nat.succ_ne_zero _); exact jo_ll (fun a b => lv_lload_n hx hb hd rfl a b) h k
  | lload i => have hd := jlen1 hd hn (Nat.succ_ne_zero _); exact jo_ll (fun a b => lv_lload hx hb hd a b) h k
  | aload_n i => have hd := jlen1 hd hn (Nat.succ_ne_zero _); exact jo_la (fun a b => lv_aload_n hx hb hd rfl a b) (fun a b => lv_aload_nN hx hb hd rfl a b) h k
  | aload i => have hd := jlen1 hd hn (Nat.succ_ne_zero _); exact jo_la (fun a b => lv_aload hx hb hd a b) (fun a b => lv_aloadN hx hb hd a b) h k
  | istore_n i => have hd := jlen1 hd hn (Nat.succ_ne_zero _); exact jo_is (fun a b d f => lv_istore_n hx hb hd rfl a b d f) h k
  | istore i => have hd := jlen1 hd hn (Nat.succ_ne_zero _); exact jo_is (fun a b d f => lv_istore hx hb hd a b d f) h k
  | lstore_n i => have hd := jlen1 hd hn (Nat.succ_ne_zero _); exact jo_ls (fun a b d f => lv_lstore_n hx hb hd rfl a b d f) h k
  | lstore i => have hd := jlen1 hd hn (Nat.succ_ne_zero _); exact jo_ls (fun a b d f => lv_lstore hx hb hd a b d f) h k
  | astore_n i => have hd := jlen1 hd hn (Nat.succ_ne_zero _); exact jo_as (fun a b d f => lv_astore_n hx hb hd rfl a b d f) (fun a b d f => lv_astore_nN hx hb hd rfl a b d f) h k
  | astore i => have hd := jlen1 hd hn (Nat.succ_ne_zero _); exact jo_as (fun a b d f => lv_astore hx hb hd a b d f) (fun a b d f => lv_astoreN hx hb hd a b d f) h k
  | iinc i z =>
    have hd := jlen1 hd hn (Nat.succ_ne_zero _)
    unfold jone at h
    dsimp only at h
    split at h
    · next x hk =>
      by_cases hi : i < E.2.2.1
      · rw [if_pos hi] at h
        cases h
        exact ja_iinc hx hb hk hi hd k
      · rw [if_neg hi] at h; cases h
    · cases h
  | iadd => have hd := jlen1 hd hn (Nat.succ_ne_zero _); exact jo_ii (fun a => lv_iadd hx hb hd a) h k
  | isub => have hd := jlen1 hd hn (Nat.succ_ne_zero _); exact jo_ii (fun a => lv_isub hx hb hd a) h k
  | imul => have hd := jlen1 hd hn (Nat.succ_ne_zero _); exact jo_ii (fun a => lv_imul hx hb hd a) h k
  | iand => have hd := jlen1 hd hn (Nat.succ_ne_zero _); exact jo_ii (fun a => lv_iand hx hb hd a) h k
  | ior => have hd := jlen1 hd hn (Nat.succ_ne_zero _); exact jo_ii (fun a => lv_ior hx hb hd a) h k
  | ixor => have hd := jlen1 hd hn (Nat.succ_ne_zero _); exact jo_ii (fun a => lv_ixor hx hb hd a) h k
  | ishl => have hd := jlen1 hd hn (Nat.succ_ne_zero _); exact jo_ii (fun a => lv_ishl hx hb hd a) h k
  | ishr => have hd := jlen1 hd hn (Nat.succ_ne_zero _); exact jo_ii (fun a => lv_ishr hx hb hd a) h k
  | iushr => have hd := jlen1 hd hn (Nat.succ_ne_zero _); exact jo_ii (fun a => lv_iushr hx hb hd rfl a) h k
  | idiv => have hd := jlen1 hd hn (Nat.succ_ne_zero _); exact jo_ij (fun b a => lv_idiv hx hb hd b a) h k
  | irem => have hd := jlen1 hd hn (Nat.succ_ne_zero _); exact jo_ij (fun b a => lv_irem hx hb hd b a) h k
  | ladd => have hd := jlen1 hd hn (Nat.succ_ne_zero _); exact jo_LL (fun a => lv_ladd hx hb hd a) h k
  | lsub => have hd := jlen1 hd hn (Nat.succ_ne_zero _); exact jo_LL (fun a => lv_lsub hx hb hd a) h k
  | lmul => have hd := jlen1 hd hn (Nat.succ_ne_zero _); exact jo_LL (fun a => lv_lmul hx hb hd a) h k
  | ldiv => have hd := jlen1 hd hn (Nat.succ_ne_zero _); exact jo_LM (fun b a => lv_ldiv hx hb hd b a) h k
  | lrem => have hd := jlen1 hd hn (Nat.succ_ne_zero _); exact jo_LM (fun b a => lv_lrem hx hb hd b a) h k
  | ineg =>
    have hd := jlen1 hd hn (Nat.succ_ne_zero _)
    unfold jone at h
    dsimp only at h
    split at h
    · cases h
      exact fun H locs ls hr => lv_ineg hx hb hd (k H locs ls hr)
    · cases h
  | lneg =>
    have hd := jlen1 hd hn (Nat.succ_ne_zero _)
    unfold jone at h
    dsimp only at h
    split at h
    · cases h
      exact fun H locs ls hr => lv_lneg hx hb hd (k H locs ls hr)
    · cases h
  | lcmp =>
    have hd := jlen1 hd hn (Nat.succ_ne_zero _)
    unfold jone at h
    dsimp only at h
    split at h
    · cases h
      exact fun H locs ls hr => W.lcmp hx hb hd (k H locs ls hr)
    · cases h
  | i2l =>
    have hd := jlen1 hd hn (Nat.succ_ne_zero _)
    unfold jone at h
    dsimp only at h
    split at h
    · cases h
      exact fun H locs ls hr => lv_i2l hx hb hd rfl (k H locs ls hr)
    · cases h
  | l2i =>
    have hd := jlen1 hd hn (Nat.succ_ne_zero _)
    unfold jone at h
    dsimp only at h
    split at h
    · cases h
      exact fun H locs ls hr => lv_l2i hx hb hd rfl (k H locs ls hr)
    · cases h
  | i2b =>
    have hd := jlen1 hd hn (Nat.succ_ne_zero _)
    unfold jone at h
    dsimp only at h
    split at h
    · cases h
      exact fun H locs ls hr => lv_i2b hx hb hd rfl (k H locs ls hr)
    · cases h
  | dup =>
    have hd := jlen1 hd hn (Nat.succ_ne_zero _)
    unfold jone at h
    dsimp only at h
    split at h
    · next v S' =>
      by_cases hc : v.category = 1
      · rw [if_pos hc] at h
        cases h
        exact fun H locs ls hr => lv_dup hx hb hd ((jv_cat α v).trans hc) (k H locs ls hr)
      · rw [if_neg hc] at h; cases h
    · cases h
  | pop =>
    have hd := jlen1 hd hn (Nat.succ_ne_zero _)
    unfold jone at h
    dsimp only at h
    split at h
    · next v S' =>
      by_cases hc : v.category = 1
      · rw [if_pos hc] at h
        cases h
        exact fun H locs ls hr => lv_pop hx hb hd ((jv_cat α v).trans hc) (k H locs ls hr)
      · rw [if_neg hc] at h; cases h
    · cases h
  | dup2 =>
    have hd := jlen1 hd hn (Nat.succ_ne_zero _)
    unfold jone at h
    dsimp only at h
    split at h
    · next v w S' =>
      by_cases hc : v.category = 1 ∧ w.category = 1
      · rw [if_pos hc] at h
        cases h
        exact fun H locs ls hr => lv_dup2_11 hx hb hd ((jv_cat α v).trans hc.1) ((jv_cat α w).trans hc.2) (k H locs ls hr)
      · rw [if_neg hc] at h; cases h
    · cases h
  | ifCond co off =>
    have hd := jlen1 hd hn (Nat.succ_ne_zero _)
    cases co with
    | eq => exact jo_c1 (P := fun a => a = 0) (fun a => decide_eq_true_iff) (fun ht a b => lv_if_eq hx hb hd ht a b) h k
    | ne => exact jo_c1 (P := fun a => ¬ a = 0) (fun a => by simp) (fun ht a b => lv_if_ne hx hb hd ht a (fun q => b (fun z => z q))) h k
    | lt => exact jo_c1 (P := fun a => a < 0) (fun a => decide_eq_true_iff) (fun ht a b => lv_if_lt hx hb hd ht a b) h k
    | ge => exact jo_c1 (P := fun a => 0 ≤ a) (fun a => decide_eq_true_iff) (fun ht a b => lv_if_ge hx hb hd ht a b) h k
    | gt => exact jo_c1 (P := fun a => 0 < a) (fun a => decide_eq_true_iff) (fun ht a b => lv_if_gt hx hb hd ht a b) h k
    | le => exact jo_c1 (P := fun a => a ≤ 0) (fun a => decide_eq_true_iff) (fun ht a b => lv_if_le hx hb hd ht a b) h k
  | if_icmp co off =>
    have hd := jlen1 hd hn (Nat.succ_ne_zero _)
    cases co with
    | eq => exact jo_c2 (P := fun a b => a = b) (fun a b => decide_eq_true_iff) (fun ht a b => lv_icmp_eq hx hb hd ht a b) h k
    | ne => exact jo_c2 (P := fun a b => ¬ a = b) (fun a b => by simp) (fun ht a b => lv_icmp_ne hx hb hd ht a (fun q => b (fun z => z q))) h k
    | lt => exact jo_c2 (P := fun a b => a < b) (fun a b => decide_eq_true_iff) (fun ht a b => lv_icmp_lt hx hb hd ht a b) h k
    | ge => exact jo_c2 (P := fun a b => b ≤ a) (fun a b => decide_eq_true_iff) (fun ht a b => lv_icmp_ge hx hb hd ht a b) h k
    | gt => exact jo_c2 (P := fun a b => b < a) (fun a b => decide_eq_true_iff) (fun ht a b => lv_icmp_gt hx hb hd ht a b) h k
    | le => exact jo_c2 (P := fun a b => a ≤ b) (fun a b => decide_eq_true_iff) (fun ht a b => lv_icmp_le hx hb hd ht a b) h k
  | goto off =>
    have hd := jlen1 hd hn (Nat.succ_ne_zero _)
    obtain ⟨t, ht, rfl⟩ := jo_go h
    exact fun H locs ls hr => lv_goto hx hb hd ht (k H locs ls hr)
  | ifnull off =>
    have hd := jlen1 hd hn (Nat.succ_ne_zero _)
    unfold jone at h
    dsimp only at h
    split at h
    · obtain ⟨t, ht, rfl⟩ := jo_go h
      exact fun H locs ls hr => lv_ifnullN hx hb hd ht (k H locs ls hr)
    · cases h
      exact fun H locs ls hr => lv_ifnull hx hb hd (k H locs ls hr)
    · cases h
  | ifnonnull off =>
    have hd := jlen1 hd hn (Nat.succ_ne_zero _)
    unfold jone at h
    dsimp only at h
    split at h
    · obtain ⟨t, ht, rfl⟩ := jo_go h
      exact fun H locs ls hr => lv_ifnonnull hx hb hd ht (k H locs ls hr)
    · cases h
      exact fun H locs ls hr => lv_ifnonnullN hx hb hd (k H locs ls hr)
    · cases h
  | tableswitch d lo hi offs =>
    unfold jone at h
    dsimp only at h
    split at h
    · next x S' =>
      by_cases hc : x.toInt < lo ∨ hi < x.toInt
      · rw [if_pos hc] at h
        obtain ⟨t, ht, rfl⟩ := jo_go h
        exact fun H locs ls hr => lv_tableOut hx hb hd hc ht (k H locs ls hr)
      · rw [if_neg hc] at h
        split at h
        · next off ho =>
          obtain ⟨t, ht, rfl⟩ := jo_go h
          exact fun H locs ls hr => lv_tableIn hx hb hd (fun q => hc (Or.inl q)) (fun q => hc (Or.inr q)) ho ht (k H locs ls hr)
        · cases h
    · cases h
  | getfield i =>
    have hd := jlen1 hd hn (Nat.succ_ne_zero _)
    unfold jone at h
    dsimp only at h
    split at h
    · next f hf =>
      split at h
      · next a S' =>
        split at h
        · next v hv =>
          cases h
          exact jf_get ok X hf hv hd k
        · cases h
      · cases h
    · cases h
  | putfield i =>
    have hd := jlen1 hd hn (Nat.succ_ne_zero _)
    unfold jone at h
    dsimp only at h
    split at h
    · next f hf =>
      split at h
      · next v a S' =>
        split at h
        · next M' hv =>
          cases h
          exact jf_put ok X hD hf hv hd k
        · cases h
      · cases h
    · cases h
  | iaload =>
    have hd := jlen1 hd hn (Nat.succ_ne_zero _)
    unfold jone at h
    dsimp only at h
    split at h
    · next i a S' =>
      split at h
      · next t q rs hi =>
        by_cases ht : t = 0
        · rw [if_pos ht] at h
          cases h
          obtain ⟨n', h1, h2, h3⟩ := jo_ix hi
          dsimp only at h1 h3
          subst ht h3
          exact fun H locs ls hr => va_iald hx hb hK hr.1 a 0 (jo_int h1 (by decide)) (jtys_at cA (by decide)) h2 hd (k H locs ls hr)
        · rw [if_neg ht] at h; cases h
      · cases h
    · cases h
  | baload =>
    have hd := jlen1 hd hn (Nat.succ_ne_zero _)
    unfold jone at h
    dsimp only at h
    split at h
    · next i a S' =>
      split at h
      · next t q rs hi =>
        by_cases ht : t = 1 ∨ t = 2
        · rw [if_pos ht] at h
          cases h
          obtain ⟨n', h1, h2, h3⟩ := jo_ix hi
          dsimp only at h1 h3
          subst h3
          rcases ht with rfl | rfl
          · exact fun H locs ls hr => va_bald hx hb hK hr.1 a 1 (jo_int h1 (by decide)) (jtys_at cA (by decide)) h2 hd (k H locs ls hr)
          · exact fun H locs ls hr => va_zald hx hb hK hr.1 a 2 (jo_int h1 (by decide)) (jtys_at cA (by decide)) h2 hd (k H locs ls hr)
        · rw [if_neg ht] at h; cases h
      · cases h
    · cases h
  | laload =>
    have hd := jlen1 hd hn (Nat.succ_ne_zero _)
    unfold jone at h
    dsimp only at h
    split at h
    · next i a S' =>
      split at h
      · next t q rs hi =>
        by_cases ht : t = 3
        · rw [if_pos ht] at h
          cases h
          obtain ⟨n', h1, h2, h3⟩ := jo_ix hi
          dsimp only at h1 h3
          subst ht h3
          exact fun H locs ls hr => va_lald hx hb hK hr.1 a 3 (jo_long h1) (jtys_at cA (by decide)) h2 hd (k H locs ls hr)
        · rw [if_neg ht] at h; cases h
      · cases h
    · cases h
  | aaload =>
    have hd := jlen1 hd hn (Nat.succ_ne_zero _)
    unfold jone at h
    dsimp only at h
    split at h
    · next i a S' =>
      split at h
      · next t q rs hi =>
        by_cases ht : 4 ≤ t ∧ t < 8
        · rw [if_pos ht] at h
          split at h
          · next r hr2 =>
            cases h
            obtain ⟨n', h1, h2, h3⟩ := jo_ix hi
            dsimp only at h1 h3
            subst h3
            refine fun H locs ls hr => ja_aald hx hb hK hr.1 a t (jo_refs h1 ht.1) (jtys_at cA ht.2) (jty_ref ht.1) h2 hd ?_
            rw [hr2]
            exact k H locs ls hr
          · cases h
        · rw [if_neg ht] at h; cases h
      · cases h
    · cases h
  | iastore =>
    have hd := jlen1 hd hn (Nat.succ_ne_zero _)
    unfold jone at h
    dsimp only at h
    split at h
    · next x i a S' =>
      split at h
      · next t q rs hi =>
        by_cases ht : t = 0
        · rw [if_pos ht] at h
          cases h
          obtain ⟨n', h1, h2, h3⟩ := jo_ix hi
          dsimp only at h1 h3
          subst ht h3
          exact fun H locs ls hr => va_iast hx hb hK hr.1 (hD M) hr.2.1 a 0 (jo_int h1 (by decide)) (jtys_at cA (by decide)) h2 hd (fun H1 locs1 hP1 _ hS1 => k H1 locs1 ls ⟨by rw [jo_intS h1 (by decide)] at hP1; exact hP1, hS1, hr.2.2⟩)
        · rw [if_neg ht] at h; cases h
      · cases h
    · cases h
  | lastore =>
    have hd := jlen1 hd hn (Nat.succ_ne_zero _)
    unfold jone at h
    dsimp only at h
    split at h
    · next x i a S' =>
      split at h
      · next t q rs hi =>
        by_cases ht : t = 3
        · rw [if_pos ht] at h
          cases h
          obtain ⟨n', h1, h2, h3⟩ := jo_ix hi
          dsimp only at h1 h3
          subst ht h3
          exact fun H locs ls hr => va_last hx hb hK hr.1 (hD M) hr.2.1 a 3 (jo_long h1) (jtys_at cA (by decide)) h2 hd (fun H1 locs1 hP1 _ hS1 => k H1 locs1 ls ⟨by rw [jo_longS h1] at hP1; exact hP1, hS1, hr.2.2⟩)
        · rw [if_neg ht] at h; cases h
      · cases h
    · cases h
  | bastore =>
    have hd := jlen1 hd hn (Nat.succ_ne_zero _)
    unfold jone at h
    dsimp only at h
    split at h
    · next x i a S' =>
      split at h
      · next t q rs hi =>
        obtain ⟨n', h1, h2, h3⟩ := jo_ix hi
        dsimp only at h1 h3
        subst h3
        by_cases ht : t = 1
        · rw [if_pos ht] at h
          cases h
          subst ht
          exact fun H locs ls hr => va_bast hx hb hK hr.1 (hD M) hr.2.1 a 1 (jo_int h1 (by decide)) (jtys_at cA (by decide)) h2 hd (fun H1 locs1 hP1 _ hS1 => k H1 locs1 ls ⟨by rw [jo_intS h1 (by decide), vp_nar_byte] at hP1; exact hP1, hS1, hr.2.2⟩)
        · rw [if_neg ht] at h
          by_cases ht : t = 2
          · rw [if_pos ht] at h
            cases h
            subst ht
            exact fun H locs ls hr => va_zast hx hb hK hr.1 (hD M) hr.2.1 a 2 (jo_int h1 (by decide)) (jtys_at cA (by decide)) h2 hd (fun H1 locs1 hP1 _ hS1 => k H1 locs1 ls ⟨by rw [jo_intS h1 (by decide)] at hP1; exact hP1, hS1, hr.2.2⟩)
          · rw [if_neg ht] at h; cases h
      · cases h
    · cases h
  | invokestatic i =>
    have hd := jlen1 hd hn (Nat.succ_ne_zero _)
    unfold jone at h
    dsimp only at h
    split at h
    · next q hq =>
      obtain ⟨w1, w2, w3, w4⟩ := ok.2.2.2.2 i q hq
      by_cases h1 : 1 ≤ E.2.2.2.2.1
      · rw [if_pos h1] at h
        have hlo' : ∀ S' : List Value, (S'.map (fun v => v.category)).sum ≤ 8 → ((S'.map (jv α)).map fun v => v.category).sum + 13 ≤ R.locals := fun S' h8 => by rw [jcat_map]; omega
        have hsz : ∀ {H : Heap} {locs : List Loc} {ls : Array Slot}, jR T.1 α cA cl D A H0 E.2.2.1 (pc, L, S, M) H locs ls → c.maxLocals = ls.size := fun hr => hml.trans hr.2.2.1.symm
        unfold jmath at h
        by_cases q0 : q = 0
        · rw [if_pos q0] at h
          subst q0
          dsimp only at h
          split at h
          · next x S' =>
            by_cases h8 : (S'.map (fun v => v.category)).sum ≤ 8
            · rw [if_pos h8] at h
              cases h
              exact fun H locs ls hr => va_mabs hx hb (hsz hr) hown (hts _ w1) (hts _ w2) (hts _ w3) (hts _ w4) (by omega) (hlo' S' h8) hce hsl hd (k H locs ls hr)
            · rw [if_neg h8] at h; cases h
          · cases h
        · rw [if_neg q0] at h
          by_cases q1 : q = 1
          · rw [if_pos q1] at h
            subst q1
            dsimp only at h
            split at h
            · next x S' =>
              by_cases h8 : (S'.map (fun v => v.category)).sum ≤ 8
              · rw [if_pos h8] at h
                cases h
                exact fun H locs ls hr => va_mabs_long hx hb (hsz hr) hown (hts _ w1) (hts _ w2) (hts _ w3) (hts _ w4) (by omega) (hlo' S' h8) hce hsl hd (k H locs ls hr)
              · rw [if_neg h8] at h; cases h
            · cases h
          · rw [if_neg q1] at h
            by_cases q2 : q = 2
            · rw [if_pos q2] at h
              subst q2
              dsimp only at h
              split at h
              · next y x S' =>
                by_cases h8 : (S'.map (fun v => v.category)).sum ≤ 8
                · rw [if_pos h8] at h
                  cases h
                  exact fun H locs ls hr => va_mmax hx hb (hsz hr) hown (hts _ w1) (hts _ w2) (hts _ w3) (hts _ w4) (by omega) (hlo' S' h8) hce hsl hd (k H locs ls hr)
                · rw [if_neg h8] at h; cases h
              · cases h
            · rw [if_neg q2] at h
              have hw : jMw q = (Lib.Math.min.name, Lib.Math.min.code, 2, .int) := by simp [jMw, q0, q1, q2]
              rw [hw] at w1 w2 w4
              dsimp only at h
              split at h
              · next y x S' =>
                by_cases h8 : (S'.map (fun v => v.category)).sum ≤ 8
                · rw [if_pos h8] at h
                  cases h
                  exact fun H locs ls hr => va_mmin hx hb (hsz hr) hown (hts _ w1) (hts _ w2) (hts _ w3) (hts _ w4) (by omega) (hlo' S' h8) hce hsl hd (k H locs ls hr)
                · rw [if_neg h8] at h; cases h
              · cases h
      · rw [if_neg h1] at h; cases h
    · cases h
  | _ => cases h
end JFour
