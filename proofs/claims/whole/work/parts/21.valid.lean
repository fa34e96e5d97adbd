/-! THE TABLES ARE WHAT THE STATEMENT SAYS -/
def jnestW : Cond → Bool
  | .fieldLinkNest _ _ _ _ _ _ => true
  | .methodLinkNest _ _ _ _ => true
  | _ => false
/-- the words that a contract may take along; the words of nest mates -/
def jGW : List Cond := lw_tbl.filter goodWord
def jNW : List Cond := lw_tbl.filter jnestW
theorem jGW_of {w : Cond} (h : (decide (w ∈ lw_tbl) && goodWord w) = true) : w ∈ jGW := by
  rw [Bool.and_eq_true, decide_eq_true_iff] at h
  exact List.mem_filter.mpr h
theorem jNW_of {w : Cond} (h : (decide (w ∈ lw_tbl) && jnestW w) = true) : w ∈ jNW := by
  rw [Bool.and_eq_true, decide_eq_true_iff] at h
  exact List.mem_filter.mpr h
theorem jGW_good : ∀ w ∈ jGW, goodWord w = true := fun _ h => (List.mem_filter.mp h).2
theorem jNW_nest : jNest jNW := by
  intro w hw
  have h := (List.mem_filter.mp hw).2
  cases w <;> first | (cases h; done) | skip
  · exact Or.inr ⟨_, _, _, _, rfl⟩
  · exact Or.inl ⟨_, _, _, _, _, _, rfl⟩
theorem jal_mem {β : Type} {k : Nat} {v : β} : ∀ {l : List (Nat × β)}, jal k l = some v → (k, v) ∈ l
  | [], h => by cases h
  | q :: t, h => by
    unfold jal at h
    cases e : Nat.beq q.1 k with
    | true =>
      rw [e] at h
      cases h
      rw [← Nat.eq_of_beq_eq_true e]
      exact List.mem_cons_self
    | false =>
      rw [e] at h
      exact List.mem_cons_of_mem _ (jal_mem h)
theorem jal2_mem {β : Type} {k : Nat} {v : β} : ∀ {l : List (Nat × List (Nat × β))}, jal2 k l = some v → ∃ ch ∈ l, (k, v) ∈ ch.2
  | [], h => by cases h
  | q :: t, h => by
    unfold jal2 at h
    cases e : Nat.ble k q.1 with
    | true =>
      rw [e] at h
      exact ⟨q, List.mem_cons_self, jal_mem h⟩
    | false =>
      rw [e] at h
      obtain ⟨ch, h1, h2⟩ := jal2_mem h
      exact ⟨ch, List.mem_cons_of_mem _ h1, h2⟩
/-- each instruction is what the bytes say -/
def jchkI (cc : ByteArray) (l : List (Nat × List (Nat × Instr))) : Bool := l.all fun ch => ch.2.all fun q => match decode cc q.1 with
  | .ok (i, n) => decide (i = q.2) && (decide (jlen q.2 = 0) || decide (n = jlen q.2))
  | .error _ => false
/-- a method's words -/
def jchkM (E : jE) : Bool :=
  plainName E.1.cls && (decide (Cond.code E.1 E.2.1 E.2.2.1 E.2.2.2.1 ∈ lw_tbl) && goodWord (Cond.code E.1 E.2.1 E.2.2.1 E.2.2.2.1)) && (decide (Cond.initialized E.1.cls ∈ lw_tbl) && goodWord (Cond.initialized E.1.cls)) &&
  (decide (E.1.cls ≠ "java/lang/invoke/MethodHandle") && decide (E.1.cls ≠ "java/lang/invoke/VarHandle") && decide ((parseMethodDescriptor E.1.desc).map (fun d => d.parameters.length) = some E.2.2.2.2.2.2.2)) &&
  (bif E.2.2.2.2.2.2.1 then (decide (Cond.static E.1 ∈ lw_tbl) && goodWord (Cond.static E.1)) else
    (decide (Cond.instanceMethod E.1 ∈ lw_tbl) && goodWord (Cond.instanceMethod E.1)) && (decide (Cond.selects E.1.cls E.1 E.1 ∈ lw_tbl) && goodWord (Cond.selects E.1.cls E.1 E.1)) && (match vwCl[E.2.2.2.2.2.1]? with | some q => decide (q.1 = E.1.cls) | none => false)) && decide (E.2.2.1 ≤ 15)
def jchkF (own : String) (c : Nat) : Bool := match jal c jFTs with
  | none => true
  | some l => l.all fun ch => ch.2.all fun e => match vwCl[e.2.1]? with
    | some q => bif e.2.2.2 then (decide (Cond.fieldLinkNest own e.1 (q.2.1 e.2.2.1).1 (q.2.1 e.2.2.1).2.1 (q.2.1 e.2.2.1).2.2.1 "MemoryRows" ∈ lw_tbl) && jnestW (Cond.fieldLinkNest own e.1 (q.2.1 e.2.2.1).1 (q.2.1 e.2.2.1).2.1 (q.2.1 e.2.2.1).2.2.1 "MemoryRows")) else (decide (Cond.fieldLink own e.1 (q.2.1 e.2.2.1).1 (q.2.1 e.2.2.1).2.1 (q.2.1 e.2.2.1).2.2.1 ∈ lw_tbl) && goodWord (Cond.fieldLink own e.1 (q.2.1 e.2.2.1).1 (q.2.1 e.2.2.1).2.1 (q.2.1 e.2.2.1).2.2.1))
    | none => true
def jchkC (own : String) (c : Nat) : Bool := match jal c jCTs with
  | none => true
  | some l => l.all fun ch => ch.2.all fun e => match jMT e.2.1 with
    | some F => bif e.2.2 then (decide (Cond.methodLinkNest own e.1 F.1 "MemoryRows" ∈ lw_tbl) && jnestW (Cond.methodLinkNest own e.1 F.1 "MemoryRows")) else (decide (Cond.methodLink own e.1 F.1 ∈ lw_tbl) && goodWord (Cond.methodLink own e.1 F.1))
    | none => true
def jchkK (own : String) (c : Nat) : Bool := match jal c jKTs with
  | none => true
  | some l => l.all fun ch => ch.2.all fun e => match e.2 with
    | .int x => decide (Cond.constant own e.1 x ∈ lw_tbl) && goodWord (Cond.constant own e.1 x)
    | .long x => decide (Cond.constantLong own e.1 x ∈ lw_tbl) && goodWord (Cond.constantLong own e.1 x)
    | _ => false
def jchkX (own : String) (c : Nat) : Bool := match jal c jMMs with
  | none => true
  | some l => l.all fun ch => ch.2.all fun e => (decide (Cond.methodLink own e.1 (jMw e.2).1 ∈ lw_tbl) && goodWord (Cond.methodLink own e.1 (jMw e.2).1)) && (decide (Cond.static (jMw e.2).1 ∈ lw_tbl) && goodWord (Cond.static (jMw e.2).1)) && (decide (Cond.initialized "java/lang/Math" ∈ lw_tbl) && goodWord (Cond.initialized "java/lang/Math")) && (decide (Cond.code (jMw e.2).1 (jMw e.2).2.1 (jMw e.2).2.2.1 (some (jMw e.2).2.2.2) ∈ lw_tbl) && goodWord (Cond.code (jMw e.2).1 (jMw e.2).2.1 (jMw e.2).2.2.1 (some (jMw e.2).2.2.2)))
def jchkS : Bool := jSH.all fun x => match x with
  | .inl o => (match vwCl[o.1]? with
    | some q => (List.range o.2.length).all fun k => match o.2[k]? with
      | some f => decide (k < q.2.2) && (decide (f.1 ≠ 0) || (decide (parseFieldDescriptor (q.2.1 k).2.2.1 = some .int) && !(q.2.1 k).2.2.2)) && (decide (f.1 ≠ 1) || (decide (parseFieldDescriptor (q.2.1 k).2.2.1 = some .long) && !(q.2.1 k).2.2.2)) && (decide (f.1 ≠ 3) || (decide (parseFieldDescriptor (q.2.1 k).2.2.1 = some .boolean) && !(q.2.1 k).2.2.2))
      | none => true
    | none => false)
  | .inr _ => true
theorem jchkS_ok : jchkS = true := by decide +kernel
theorem jokS : ∀ (a ci : Nat) (fs : List (Nat × Nat)) (k : Nat) (f : Nat × Nat), jT0.1[a]? = some (Sum.inl (ci, fs)) → fs[k]? = some f → jFo vwCl ci k f.1 := by
  intro a ci fs k f ha hf
  have h := List.all_eq_true.mp jchkS_ok _ (List.mem_of_getElem? ha)
  dsimp only at h
  split at h
  · next q hq =>
    have hk : k ∈ List.range fs.length := List.mem_range.mpr (List.getElem?_eq_some_iff.mp hf).1
    have h2 := List.all_eq_true.mp h k hk
    rw [hf] at h2
    simp only [Bool.and_eq_true, Bool.or_eq_true, decide_eq_true_iff, Bool.not_eq_true'] at h2
    obtain ⟨⟨⟨h3, h4⟩, h5⟩, h6⟩ := h2
    exact ⟨q.1, q.2.1, q.2.2, hq, h3, fun e => h4.resolve_left (fun z => z e), fun e => h5.resolve_left (fun z => z e), fun e => h6.resolve_left (fun z => z e)⟩
  · cases h
theorem jokC1 {C : String} {T : u_T} {N : Nat} {ty0 : Nat → FieldType} (h : ((u_ws C T N).all fun w => decide (w ∈ lw_tbl) && goodWord w) = true) (h2 : ∀ k, k < N → parseFieldDescriptor (T k).2.2.1 = some (ty0 k)) (h3 : ∀ a, a < N → ∀ b, b < N → a ≠ b → (T a).2.1 ≠ (T b).2.1) : jCo jGW (C, T, N) :=
  ⟨fun w hw => jGW_of (List.all_eq_true.mp h w hw), ⟨ty0, h2⟩, h3⟩
theorem jokC : ∀ (ci : Nat) (q : vw_C), vwCl[ci]? = some q → jCo jGW q := by
  intro ci q h
  match ci, h with
  | 0, h => cases h; exact jokC1 (by decide +kernel) tyX0_ok nmX0
  | 1, h => cases h; exact jokC1 (by decide +kernel) tyX1_ok nmX1
  | 2, h => cases h; exact jokC1 (by decide +kernel) tyX2_ok nmX2
  | 3, h => cases h; exact jokC1 (by decide +kernel) tyX3_ok nmX3
  | 4, h => cases h; exact jokC1 (by decide +kernel) tyX4_ok nmX4
  | 5, h => cases h; exact jokC1 (by decide +kernel) tyX5_ok nmX5
  | 6, h => cases h; exact jokC1 (by decide +kernel) tyX6_ok nmX6
  | 7, h => cases h; exact jokC1 (by decide +kernel) tyX7_ok nmX7
  | 8, h => cases h; exact jokC1 (by decide +kernel) tyX8_ok nmX8
  | n + 9, h => simp at h
theorem jOkM_of {y : Nat} {E : jE} {l : List (Nat × List (Nat × Instr))} (hl : jal2 y jMIs = some l) (hI : jchkI E.2.1 l = true) (hM : jchkM E = true) (hF : jchkF E.1.cls E.2.2.2.2.2.1 = true) (hC : jchkC E.1.cls E.2.2.2.2.2.1 = true) (hK : jchkK E.1.cls E.2.2.2.2.2.1 = true) (hX : jchkX E.1.cls E.2.2.2.2.2.1 = true) : jOkM jT0 jGW jNW vwCl y E := by
  unfold jchkM at hM
  simp only [Bool.and_eq_true, decide_eq_true_iff] at hM
  obtain ⟨⟨⟨⟨⟨m1, m2⟩, m3⟩, ⟨m4, m5⟩, m6⟩, m7⟩, m8⟩ := hM
  refine ⟨m1, List.mem_filter.mpr m2, List.mem_filter.mpr m3, ⟨m4, m5, m6⟩, ?_, ?_, m8, ?_, ?_, ?_, ?_, jokS, jokC, ?_⟩
  · intro hs
    rw [hs] at m7
    exact jGW_of (by simpa using m7)
  · intro hs
    rw [hs] at m7
    simp only [cond_false, Bool.and_eq_true, decide_eq_true_iff] at m7
    obtain ⟨⟨n1, n2⟩, n3⟩ := m7
    refine ⟨List.mem_filter.mpr n1, List.mem_filter.mpr n2, ?_⟩
    split at n3
    · next q hq => exact ⟨q, hq, of_decide_eq_true n3⟩
    · cases n3
  · intro pc ins h
    have h : jMI y pc = some ins := h
    unfold jMI at h
    rw [hl] at h
    obtain ⟨ch, h1, h2⟩ := jal2_mem h
    have h3 := List.all_eq_true.mp (List.all_eq_true.mp hI ch h1) _ h2
    dsimp only at h3
    split at h3
    · next i n hd =>
      simp only [Bool.and_eq_true, Bool.or_eq_true, decide_eq_true_iff] at h3
      exact ⟨n, by rw [hd, h3.1], h3.2⟩
    · cases h3
  · intro i z h F hF2
    have h : jCT E.2.2.2.2.2.1 i = some z := h
    unfold jCT at h
    unfold jchkC at hC
    split at h
    · next l2 hl2 =>
      rw [hl2] at hC
      obtain ⟨ch, h1, h2⟩ := jal2_mem h
      have h3 := List.all_eq_true.mp (List.all_eq_true.mp hC ch h1) _ h2
      dsimp only at h3
      rw [show jMT z.1 = some F from hF2] at h3
      dsimp only at h3
      refine ⟨fun e => ?_, fun e => ⟨"MemoryRows", ?_⟩⟩
      · rw [e] at h3
        exact jGW_of h3
      · rw [e] at h3
        exact jNW_of h3
    · cases h
  · intro i f h C T N hcl
    have h : jFT E.2.2.2.2.2.1 i = some f := h
    unfold jFT at h
    unfold jchkF at hF
    split at h
    · next l2 hl2 =>
      rw [hl2] at hF
      obtain ⟨ch, h1, h2⟩ := jal2_mem h
      have h3 := List.all_eq_true.mp (List.all_eq_true.mp hF ch h1) _ h2
      dsimp only at h3
      rw [hcl] at h3
      dsimp only at h3
      refine ⟨fun e => ?_, fun e => ⟨"MemoryRows", ?_⟩⟩
      · rw [e] at h3
        exact jGW_of h3
      · rw [e] at h3
        exact jNW_of h3
    · cases h
  · intro i v h
    have h : jKT E.2.2.2.2.2.1 i = some v := h
    unfold jKT at h
    unfold jchkK at hK
    split at h
    · next l2 hl2 =>
      rw [hl2] at hK
      obtain ⟨ch, h1, h2⟩ := jal2_mem h
      have h3 := List.all_eq_true.mp (List.all_eq_true.mp hK ch h1) _ h2
      dsimp only at h3
      refine ⟨fun x e => ?_, fun x e => ?_⟩
      · rw [e] at h3
        exact jGW_of h3
      · rw [e] at h3
        exact jGW_of h3
    · cases h
  · intro i k h
    have h : jMM E.2.2.2.2.2.1 i = some k := h
    unfold jMM at h
    unfold jchkX at hX
    split at h
    · next l2 hl2 =>
      rw [hl2] at hX
      obtain ⟨ch, h1, h2⟩ := jal2_mem h
      have h3 := List.all_eq_true.mp (List.all_eq_true.mp hX ch h1) _ h2
      dsimp only at h3
      simp only [Bool.and_eq_true] at h3
      obtain ⟨⟨⟨w1, w2⟩, w3⟩, w4⟩ := h3
      exact ⟨jGW_of (Bool.and_eq_true .. |>.mpr w1), jGW_of (Bool.and_eq_true .. |>.mpr w2), jGW_of (Bool.and_eq_true .. |>.mpr w3), jGW_of (Bool.and_eq_true .. |>.mpr w4)⟩
    · cases h
theorem okd_J6_bitCount_0f7a4 : jchkI cJ6_bitCount_0f7a4 mi_J6_bitCount_0f7a4 = true := by decide +kernel
theorem okm_J6_bitCount_0f7a4 : jchkM me_J6_bitCount_0f7a4 = true := by decide +kernel
theorem okd_X0_wipeCells : jchkI cX0_wipeCells mi_X0_wipeCells = true := by decide +kernel
theorem okm_X0_wipeCells : jchkM me_X0_wipeCells = true := by decide +kernel
theorem okd_X1_isLike : jchkI cX1_isLike mi_X1_isLike = true := by decide +kernel
theorem okm_X1_isLike : jchkM me_X1_isLike = true := by decide +kernel
theorem okd_X1_part : jchkI cX1_part mi_X1_part = true := by decide +kernel
theorem okm_X1_part : jchkM me_X1_part = true := by decide +kernel
theorem okd_X3_restTop : jchkI cX3_restTop mi_X3_restTop = true := by decide +kernel
theorem okm_X3_restTop : jchkM me_X3_restTop = true := by decide +kernel
theorem okd_X3_take : jchkI cX3_take mi_X3_take = true := by decide +kernel
theorem okm_X3_take : jchkM me_X3_take = true := by decide +kernel
theorem okd_X4_findGaps : jchkI cX4_findGaps mi_X4_findGaps = true := by decide +kernel
theorem okm_X4_findGaps : jchkM me_X4_findGaps = true := by decide +kernel
theorem okd_X4_gapCount : jchkI cX4_gapCount mi_X4_gapCount = true := by decide +kernel
theorem okm_X4_gapCount : jchkM me_X4_gapCount = true := by decide +kernel
theorem okd_X4_isGapless : jchkI cX4_isGapless mi_X4_isGapless = true := by decide +kernel
theorem okm_X4_isGapless : jchkM me_X4_isGapless = true := by decide +kernel
theorem okd_X4_productsAt : jchkI cX4_productsAt mi_X4_productsAt = true := by decide +kernel
theorem okm_X4_productsAt : jchkM me_X4_productsAt = true := by decide +kernel
theorem okd_X4_take : jchkI cX4_take mi_X4_take = true := by decide +kernel
theorem okm_X4_take : jchkM me_X4_take = true := by decide +kernel
theorem okd_X5_take : jchkI cX5_take mi_X5_take = true := by decide +kernel
theorem okm_X5_take : jchkM me_X5_take = true := by decide +kernel
theorem okd_X6_append : jchkI cX6_append mi_X6_append = true := by decide +kernel
theorem okm_X6_append : jchkM me_X6_append = true := by decide +kernel
theorem okd_X6_pair : jchkI cX6_pair mi_X6_pair = true := by decide +kernel
theorem okm_X6_pair : jchkM me_X6_pair = true := by decide +kernel
theorem okd_X7_at : jchkI cX7_at mi_X7_at = true := by decide +kernel
theorem okm_X7_at : jchkM me_X7_at = true := by decide +kernel
theorem okd_X7_end : jchkI cX7_end mi_X7_end = true := by decide +kernel
theorem okm_X7_end : jchkM me_X7_end = true := by decide +kernel
theorem okd_X7_isPart : jchkI cX7_isPart mi_X7_isPart = true := by decide +kernel
theorem okm_X7_isPart : jchkM me_X7_isPart = true := by decide +kernel
theorem okd_X7_isWithin : jchkI cX7_isWithin mi_X7_isWithin = true := by decide +kernel
theorem okm_X7_isWithin : jchkM me_X7_isWithin = true := by decide +kernel
theorem okd_X7_likenessesCount : jchkI cX7_likenessesCount mi_X7_likenessesCount = true := by decide +kernel
theorem okm_X7_likenessesCount : jchkM me_X7_likenessesCount = true := by decide +kernel
theorem okd_X7_power : jchkI cX7_power mi_X7_power = true := by decide +kernel
theorem okm_X7_power : jchkM me_X7_power = true := by decide +kernel
theorem okd_X7_ruleCount : jchkI cX7_ruleCount mi_X7_ruleCount = true := by decide +kernel
theorem okm_X7_ruleCount : jchkM me_X7_ruleCount = true := by decide +kernel
theorem okd_X8_at : jchkI cX8_at mi_X8_at = true := by decide +kernel
theorem okm_X8_at : jchkM me_X8_at = true := by decide +kernel
theorem okd_X8_common : jchkI cX8_common mi_X8_common = true := by decide +kernel
theorem okm_X8_common : jchkM me_X8_common = true := by decide +kernel
theorem okd_X8_determinant : jchkI cX8_determinant mi_X8_determinant = true := by decide +kernel
theorem okm_X8_determinant : jchkM me_X8_determinant = true := by decide +kernel
theorem okd_X8_end : jchkI cX8_end mi_X8_end = true := by decide +kernel
theorem okm_X8_end : jchkM me_X8_end = true := by decide +kernel
theorem okd_X8_four : jchkI cX8_four mi_X8_four = true := by decide +kernel
theorem okm_X8_four : jchkM me_X8_four = true := by decide +kernel
theorem okd_X8_gaps : jchkI cX8_gaps mi_X8_gaps = true := by decide +kernel
theorem okm_X8_gaps : jchkM me_X8_gaps = true := by decide +kernel
theorem okd_X8_has : jchkI cX8_has mi_X8_has = true := by decide +kernel
theorem okm_X8_has : jchkM me_X8_has = true := by decide +kernel
theorem okd_X8_hasRule : jchkI cX8_hasRule mi_X8_hasRule = true := by decide +kernel
theorem okm_X8_hasRule : jchkM me_X8_hasRule = true := by decide +kernel
theorem okd_X8_isWhole : jchkI cX8_isWhole mi_X8_isWhole = true := by decide +kernel
theorem okm_X8_isWhole : jchkM me_X8_isWhole = true := by decide +kernel
theorem okd_X8_part : jchkI cX8_part mi_X8_part = true := by decide +kernel
theorem okm_X8_part : jchkM me_X8_part = true := by decide +kernel
theorem okd_X8_put : jchkI cX8_put mi_X8_put = true := by decide +kernel
theorem okm_X8_put : jchkM me_X8_put = true := by decide +kernel
theorem okd_X8_puts : jchkI cX8_puts mi_X8_puts = true := by decide +kernel
theorem okm_X8_puts : jchkM me_X8_puts = true := by decide +kernel
theorem okd_X8_taken : jchkI cX8_taken mi_X8_taken = true := by decide +kernel
theorem okm_X8_taken : jchkM me_X8_taken = true := by decide +kernel
theorem okd_X8_thrown : jchkI cX8_thrown mi_X8_thrown = true := by decide +kernel
theorem okm_X8_thrown : jchkM me_X8_thrown = true := by decide +kernel
theorem okd_X8_throwsIf : jchkI cX8_throwsIf mi_X8_throwsIf = true := by decide +kernel
theorem okm_X8_throwsIf : jchkM me_X8_throwsIf = true := by decide +kernel
theorem okd_X8_toeplitz : jchkI cX8_toeplitz mi_X8_toeplitz = true := by decide +kernel
theorem okm_X8_toeplitz : jchkM me_X8_toeplitz = true := by decide +kernel
theorem okd_X8_told : jchkI cX8_told mi_X8_told = true := by decide +kernel
theorem okm_X8_told : jchkM me_X8_told = true := by decide +kernel
theorem okd_X0_determinant : jchkI cX0_determinant mi_X0_determinant = true := by decide +kernel
theorem okm_X0_determinant : jchkM me_X0_determinant = true := by decide +kernel
theorem okd_X1_commonDivisor : jchkI cX1_commonDivisor mi_X1_commonDivisor = true := by decide +kernel
theorem okm_X1_commonDivisor : jchkM me_X1_commonDivisor = true := by decide +kernel
theorem okd_X2_missPart : jchkI cX2_missPart mi_X2_missPart = true := by decide +kernel
theorem okm_X2_missPart : jchkM me_X2_missPart = true := by decide +kernel
theorem okd_X3_isNowhereBelowZero : jchkI cX3_isNowhereBelowZero mi_X3_isNowhereBelowZero = true := by decide +kernel
theorem okm_X3_isNowhereBelowZero : jchkM me_X3_isNowhereBelowZero = true := by decide +kernel
theorem okd_X4_endsWhole : jchkI cX4_endsWhole mi_X4_endsWhole = true := by decide +kernel
theorem okm_X4_endsWhole : jchkM me_X4_endsWhole = true := by decide +kernel
theorem okd_X4_guessOn : jchkI cX4_guessOn mi_X4_guessOn = true := by decide +kernel
theorem okm_X4_guessOn : jchkM me_X4_guessOn = true := by decide +kernel
theorem okd_X4_wholeCount : jchkI cX4_wholeCount mi_X4_wholeCount = true := by decide +kernel
theorem okm_X4_wholeCount : jchkM me_X4_wholeCount = true := by decide +kernel
theorem okd_X4_write : jchkI cX4_write mi_X4_write = true := by decide +kernel
theorem okm_X4_write : jchkM me_X4_write = true := by decide +kernel
theorem okd_X5_polyHasNoInnerRoot : jchkI cX5_polyHasNoInnerRoot mi_X5_polyHasNoInnerRoot = true := by decide +kernel
theorem okm_X5_polyHasNoInnerRoot : jchkM me_X5_polyHasNoInnerRoot = true := by decide +kernel
theorem okd_X5_pull : jchkI cX5_pull mi_X5_pull = true := by decide +kernel
theorem okm_X5_pull : jchkM me_X5_pull = true := by decide +kernel
theorem okd_X5_weigh : jchkI cX5_weigh mi_X5_weigh = true := by decide +kernel
theorem okm_X5_weigh : jchkM me_X5_weigh = true := by decide +kernel
theorem okd_X6_isEachPlace : jchkI cX6_isEachPlace mi_X6_isEachPlace = true := by decide +kernel
theorem okm_X6_isEachPlace : jchkM me_X6_isEachPlace = true := by decide +kernel
theorem okd_X6_isEachWithin : jchkI cX6_isEachWithin mi_X6_isEachWithin = true := by decide +kernel
theorem okm_X6_isEachWithin : jchkM me_X6_isEachWithin = true := by decide +kernel
theorem okd_X7_areLikenesses : jchkI cX7_areLikenesses mi_X7_areLikenesses = true := by decide +kernel
theorem okm_X7_areLikenesses : jchkM me_X7_areLikenesses = true := by decide +kernel
theorem okd_X7_count : jchkI cX7_count mi_X7_count = true := by decide +kernel
theorem okm_X7_count : jchkM me_X7_count = true := by decide +kernel
theorem okd_X7_feed : jchkI cX7_feed mi_X7_feed = true := by decide +kernel
theorem okm_X7_feed : jchkM me_X7_feed = true := by decide +kernel
theorem okd_X7_filled : jchkI cX7_filled mi_X7_filled = true := by decide +kernel
theorem okm_X7_filled : jchkM me_X7_filled = true := by decide +kernel
theorem okd_X7_isSlot : jchkI cX7_isSlot mi_X7_isSlot = true := by decide +kernel
theorem okm_X7_isSlot : jchkM me_X7_isSlot = true := by decide +kernel
theorem okd_X7_lower : jchkI cX7_lower mi_X7_lower = true := by decide +kernel
theorem okm_X7_lower : jchkM me_X7_lower = true := by decide +kernel
theorem okd_X8_block : jchkI cX8_block mi_X8_block = true := by decide +kernel
theorem okm_X8_block : jchkM me_X8_block = true := by decide +kernel
theorem okd_X8_count : jchkI cX8_count mi_X8_count = true := by decide +kernel
theorem okm_X8_count : jchkM me_X8_count = true := by decide +kernel
theorem okd_X8_counted : jchkI cX8_counted mi_X8_counted = true := by decide +kernel
theorem okm_X8_counted : jchkM me_X8_counted = true := by decide +kernel
theorem okd_X8_cramer : jchkI cX8_cramer mi_X8_cramer = true := by decide +kernel
theorem okm_X8_cramer : jchkM me_X8_cramer = true := by decide +kernel
theorem okd_X8_even : jchkI cX8_even mi_X8_even = true := by decide +kernel
theorem okm_X8_even : jchkM me_X8_even = true := by decide +kernel
theorem okd_X8_feed : jchkI cX8_feed mi_X8_feed = true := by decide +kernel
theorem okm_X8_feed : jchkM me_X8_feed = true := by decide +kernel
theorem okd_X8_filled : jchkI cX8_filled mi_X8_filled = true := by decide +kernel
theorem okm_X8_filled : jchkM me_X8_filled = true := by decide +kernel
theorem okd_X8_given : jchkI cX8_given mi_X8_given = true := by decide +kernel
theorem okm_X8_given : jchkM me_X8_given = true := by decide +kernel
theorem okd_X8_isBare : jchkI cX8_isBare mi_X8_isBare = true := by decide +kernel
theorem okm_X8_isBare : jchkM me_X8_isBare = true := by decide +kernel
theorem okd_X8_isFree : jchkI cX8_isFree mi_X8_isFree = true := by decide +kernel
theorem okm_X8_isFree : jchkM me_X8_isFree = true := by decide +kernel
theorem okd_X8_joined : jchkI cX8_joined mi_X8_joined = true := by decide +kernel
theorem okm_X8_joined : jchkM me_X8_joined = true := by decide +kernel
theorem okd_X8_likeness : jchkI cX8_likeness mi_X8_likeness = true := by decide +kernel
theorem okm_X8_likeness : jchkM me_X8_likeness = true := by decide +kernel
theorem okd_X8_lower : jchkI cX8_lower mi_X8_lower = true := by decide +kernel
theorem okm_X8_lower : jchkM me_X8_lower = true := by decide +kernel
theorem okd_X8_missOf : jchkI cX8_missOf mi_X8_missOf = true := by decide +kernel
theorem okm_X8_missOf : jchkM me_X8_missOf = true := by decide +kernel
theorem okd_X8_row : jchkI cX8_row mi_X8_row = true := by decide +kernel
theorem okm_X8_row : jchkM me_X8_row = true := by decide +kernel
theorem okd_X8_rule : jchkI cX8_rule mi_X8_rule = true := by decide +kernel
theorem okm_X8_rule : jchkM me_X8_rule = true := by decide +kernel
theorem okd_X8_set : jchkI cX8_set mi_X8_set = true := by decide +kernel
theorem okm_X8_set : jchkM me_X8_set = true := by decide +kernel
theorem okd_X8_thin : jchkI cX8_thin mi_X8_thin = true := by decide +kernel
theorem okm_X8_thin : jchkM me_X8_thin = true := by decide +kernel
theorem okd_X0_solve : jchkI cX0_solve mi_X0_solve = true := by decide +kernel
theorem okm_X0_solve : jchkM me_X0_solve = true := by decide +kernel
theorem okd_X1_set : jchkI cX1_set mi_X1_set = true := by decide +kernel
theorem okm_X1_set : jchkM me_X1_set = true := by decide +kernel
theorem okd_X4_jointPulls : jchkI cX4_jointPulls mi_X4_jointPulls = true := by decide +kernel
theorem okm_X4_jointPulls : jchkM me_X4_jointPulls = true := by decide +kernel
theorem okd_X4_missAt : jchkI cX4_missAt mi_X4_missAt = true := by decide +kernel
theorem okm_X4_missAt : jchkM me_X4_missAt = true := by decide +kernel
theorem okd_X5_diesAway : jchkI cX5_diesAway mi_X5_diesAway = true := by decide +kernel
theorem okm_X5_diesAway : jchkM me_X5_diesAway = true := by decide +kernel
theorem okd_X5_showsMisses : jchkI cX5_showsMisses mi_X5_showsMisses = true := by decide +kernel
theorem okm_X5_showsMisses : jchkM me_X5_showsMisses = true := by decide +kernel
theorem okd_X7_put : jchkI cX7_put mi_X7_put = true := by decide +kernel
theorem okm_X7_put : jchkM me_X7_put = true := by decide +kernel
theorem okd_X7_row : jchkI cX7_row mi_X7_row = true := by decide +kernel
theorem okm_X7_row : jchkM me_X7_row = true := by decide +kernel
theorem okd_X7_rule : jchkI cX7_rule mi_X7_rule = true := by decide +kernel
theorem okm_X7_rule : jchkM me_X7_rule = true := by decide +kernel
theorem okd_X7_takeDrawn : jchkI cX7_takeDrawn mi_X7_takeDrawn = true := by decide +kernel
theorem okm_X7_takeDrawn : jchkM me_X7_takeDrawn = true := by decide +kernel
theorem okd_X7_toldLikenesses : jchkI cX7_toldLikenesses mi_X7_toldLikenesses = true := by decide +kernel
theorem okm_X7_toldLikenesses : jchkM me_X7_toldLikenesses = true := by decide +kernel
theorem okd_X7_toldRule : jchkI cX7_toldRule mi_X7_toldRule = true := by decide +kernel
theorem okm_X7_toldRule : jchkM me_X7_toldRule = true := by decide +kernel
theorem okd_X8_amiss : jchkI cX8_amiss mi_X8_amiss = true := by decide +kernel
theorem okm_X8_amiss : jchkM me_X8_amiss = true := by decide +kernel
theorem okd_X8_clear : jchkI cX8_clear mi_X8_clear = true := by decide +kernel
theorem okm_X8_clear : jchkM me_X8_clear = true := by decide +kernel
theorem okd_X8_fill : jchkI cX8_fill mi_X8_fill = true := by decide +kernel
theorem okm_X8_fill : jchkM me_X8_fill = true := by decide +kernel
theorem okd_X8_isSteady : jchkI cX8_isSteady mi_X8_isSteady = true := by decide +kernel
theorem okm_X8_isSteady : jchkM me_X8_isSteady = true := by decide +kernel
theorem okd_X8_leftOf : jchkI cX8_leftOf mi_X8_leftOf = true := by decide +kernel
theorem okm_X8_leftOf : jchkM me_X8_leftOf = true := by decide +kernel
theorem okd_X8_plus : jchkI cX8_plus mi_X8_plus = true := by decide +kernel
theorem okm_X8_plus : jchkM me_X8_plus = true := by decide +kernel
theorem okd_X8_shareOf : jchkI cX8_shareOf mi_X8_shareOf = true := by decide +kernel
theorem okm_X8_shareOf : jchkM me_X8_shareOf = true := by decide +kernel
theorem okd_X8_squares : jchkI cX8_squares mi_X8_squares = true := by decide +kernel
theorem okm_X8_squares : jchkM me_X8_squares = true := by decide +kernel
theorem okd_X8_stepsOf : jchkI cX8_stepsOf mi_X8_stepsOf = true := by decide +kernel
theorem okm_X8_stepsOf : jchkM me_X8_stepsOf = true := by decide +kernel
theorem okd_X8_times : jchkI cX8_times mi_X8_times = true := by decide +kernel
theorem okm_X8_times : jchkM me_X8_times = true := by decide +kernel
theorem okd_X8_whole : jchkI cX8_whole mi_X8_whole = true := by decide +kernel
theorem okm_X8_whole : jchkM me_X8_whole = true := by decide +kernel
theorem okd_X2_find : jchkI cX2_find mi_X2_find = true := by decide +kernel
theorem okm_X2_find : jchkM me_X2_find = true := by decide +kernel
theorem okd_X3_solveStep : jchkI cX3_solveStep mi_X3_solveStep = true := by decide +kernel
theorem okm_X3_solveStep : jchkM me_X3_solveStep = true := by decide +kernel
theorem okd_X4_pulledMisses : jchkI cX4_pulledMisses mi_X4_pulledMisses = true := by decide +kernel
theorem okm_X4_pulledMisses : jchkM me_X4_pulledMisses = true := by decide +kernel
theorem okd_X4_squaredPulls : jchkI cX4_squaredPulls mi_X4_squaredPulls = true := by decide +kernel
theorem okm_X4_squaredPulls : jchkM me_X4_squaredPulls = true := by decide +kernel
theorem okd_X4_squaresTop : jchkI cX4_squaresTop mi_X4_squaresTop = true := by decide +kernel
theorem okm_X4_squaresTop : jchkM me_X4_squaresTop = true := by decide +kernel
theorem okd_X7_clear : jchkI cX7_clear mi_X7_clear = true := by decide +kernel
theorem okm_X7_clear : jchkM me_X7_clear = true := by decide +kernel
theorem okd_X7_counted : jchkI cX7_counted mi_X7_counted = true := by decide +kernel
theorem okm_X7_counted : jchkM me_X7_counted = true := by decide +kernel
theorem okd_X7_even : jchkI cX7_even mi_X7_even = true := by decide +kernel
theorem okm_X7_even : jchkM me_X7_even = true := by decide +kernel
theorem okd_X7_given : jchkI cX7_given mi_X7_given = true := by decide +kernel
theorem okm_X7_given : jchkM me_X7_given = true := by decide +kernel
theorem okd_X7_joined : jchkI cX7_joined mi_X7_joined = true := by decide +kernel
theorem okm_X7_joined : jchkM me_X7_joined = true := by decide +kernel
theorem okd_X7_likeness : jchkI cX7_likeness mi_X7_likeness = true := by decide +kernel
theorem okm_X7_likeness : jchkM me_X7_likeness = true := by decide +kernel
theorem okd_X7_plainRule : jchkI cX7_plainRule mi_X7_plainRule = true := by decide +kernel
theorem okm_X7_plainRule : jchkM me_X7_plainRule = true := by decide +kernel
theorem okd_X7_steady : jchkI cX7_steady mi_X7_steady = true := by decide +kernel
theorem okm_X7_steady : jchkM me_X7_steady = true := by decide +kernel
theorem okd_X7_thin : jchkI cX7_thin mi_X7_thin = true := by decide +kernel
theorem okm_X7_thin : jchkM me_X7_thin = true := by decide +kernel
theorem okd_X7_weight : jchkI cX7_weight mi_X7_weight = true := by decide +kernel
theorem okm_X7_weight : jchkM me_X7_weight = true := by decide +kernel
theorem okd_X8_eliminate : jchkI cX8_eliminate mi_X8_eliminate = true := by decide +kernel
theorem okm_X8_eliminate : jchkM me_X8_eliminate = true := by decide +kernel
theorem okd_X8_left : jchkI cX8_left mi_X8_left = true := by decide +kernel
theorem okm_X8_left : jchkM me_X8_left = true := by decide +kernel
theorem okd_X8_next : jchkI cX8_next mi_X8_next = true := by decide +kernel
theorem okm_X8_next : jchkM me_X8_next = true := by decide +kernel
theorem okd_X8_right : jchkI cX8_right mi_X8_right = true := by decide +kernel
theorem okm_X8_right : jchkM me_X8_right = true := by decide +kernel
theorem okd_X8_share : jchkI cX8_share mi_X8_share = true := by decide +kernel
theorem okm_X8_share : jchkM me_X8_share = true := by decide +kernel
theorem okd_X8_solid : jchkI cX8_solid mi_X8_solid = true := by decide +kernel
theorem okm_X8_solid : jchkM me_X8_solid = true := by decide +kernel
theorem okd_X8_steady : jchkI cX8_steady mi_X8_steady = true := by decide +kernel
theorem okm_X8_steady : jchkM me_X8_steady = true := by decide +kernel
theorem okd_X8_steps : jchkI cX8_steps mi_X8_steps = true := by decide +kernel
theorem okm_X8_steps : jchkM me_X8_steps = true := by decide +kernel
theorem okd_X8_weights : jchkI cX8_weights mi_X8_weights = true := by decide +kernel
theorem okm_X8_weights : jchkM me_X8_weights = true := by decide +kernel
theorem okd_X3_stepsThere : jchkI cX3_stepsThere mi_X3_stepsThere = true := by decide +kernel
theorem okm_X3_stepsThere : jchkM me_X3_stepsThere = true := by decide +kernel
theorem okd_X4_askForGaps : jchkI cX4_askForGaps mi_X4_askForGaps = true := by decide +kernel
theorem okm_X4_askForGaps : jchkM me_X4_askForGaps = true := by decide +kernel
theorem okd_X4_worstPlace : jchkI cX4_worstPlace mi_X4_worstPlace = true := by decide +kernel
theorem okm_X4_worstPlace : jchkM me_X4_worstPlace = true := by decide +kernel
theorem okd_X7_like : jchkI cX7_like mi_X7_like = true := by decide +kernel
theorem okm_X7_like : jchkM me_X7_like = true := by decide +kernel
theorem okd_X7_next : jchkI cX7_next mi_X7_next = true := by decide +kernel
theorem okm_X7_next : jchkM me_X7_next = true := by decide +kernel
theorem okd_X7_same : jchkI cX7_same mi_X7_same = true := by decide +kernel
theorem okm_X7_same : jchkM me_X7_same = true := by decide +kernel
theorem okd_X7_squares : jchkI cX7_squares mi_X7_squares = true := by decide +kernel
theorem okm_X7_squares : jchkM me_X7_squares = true := by decide +kernel
theorem okd_X7_whole : jchkI cX7_whole mi_X7_whole = true := by decide +kernel
theorem okm_X7_whole : jchkM me_X7_whole = true := by decide +kernel
theorem okd_X8_likes : jchkI cX8_likes mi_X8_likes = true := by decide +kernel
theorem okm_X8_likes : jchkM me_X8_likes = true := by decide +kernel
theorem okd_X8_weight : jchkI cX8_weight mi_X8_weight = true := by decide +kernel
theorem okm_X8_weight : jchkM me_X8_weight = true := by decide +kernel
theorem okd_X3_holds : jchkI cX3_holds mi_X3_holds = true := by decide +kernel
theorem okm_X3_holds : jchkM me_X3_holds = true := by decide +kernel
theorem okd_X7_amiss : jchkI cX7_amiss mi_X7_amiss = true := by decide +kernel
theorem okm_X7_amiss : jchkM me_X7_amiss = true := by decide +kernel
theorem okd_X7_fill : jchkI cX7_fill mi_X7_fill = true := by decide +kernel
theorem okm_X7_fill : jchkM me_X7_fill = true := by decide +kernel
theorem okd_X7_left : jchkI cX7_left mi_X7_left = true := by decide +kernel
theorem okm_X7_left : jchkM me_X7_left = true := by decide +kernel
theorem okd_X7_share : jchkI cX7_share mi_X7_share = true := by decide +kernel
theorem okm_X7_share : jchkM me_X7_share = true := by decide +kernel
theorem okd_X7_steps : jchkI cX7_steps mi_X7_steps = true := by decide +kernel
theorem okm_X7_steps : jchkM me_X7_steps = true := by decide +kernel
theorem okd_X8_like : jchkI cX8_like mi_X8_like = true := by decide +kernel
theorem okm_X8_like : jchkM me_X8_like = true := by decide +kernel
theorem okd_X8_same : jchkI cX8_same mi_X8_same = true := by decide +kernel
theorem okm_X8_same : jchkM me_X8_same = true := by decide +kernel
theorem okd_X7_solid : jchkI cX7_solid mi_X7_solid = true := by decide +kernel
theorem okm_X7_solid : jchkM me_X7_solid = true := by decide +kernel
theorem okf_0 : jchkF RX0 0 = true := by decide +kernel
theorem okc_0 : jchkC RX0 0 = true := by decide +kernel
theorem okk_0 : jchkK RX0 0 = true := by decide +kernel
theorem okx_0 : jchkX RX0 0 = true := by decide +kernel
theorem okf_1 : jchkF RX1 1 = true := by decide +kernel
theorem okc_1 : jchkC RX1 1 = true := by decide +kernel
theorem okk_1 : jchkK RX1 1 = true := by decide +kernel
theorem okx_1 : jchkX RX1 1 = true := by decide +kernel
theorem okf_2 : jchkF RX2 2 = true := by decide +kernel
theorem okc_2 : jchkC RX2 2 = true := by decide +kernel
theorem okk_2 : jchkK RX2 2 = true := by decide +kernel
theorem okx_2 : jchkX RX2 2 = true := by decide +kernel
theorem okf_3 : jchkF RX3 3 = true := by decide +kernel
theorem okc_3 : jchkC RX3 3 = true := by decide +kernel
theorem okk_3 : jchkK RX3 3 = true := by decide +kernel
theorem okx_3 : jchkX RX3 3 = true := by decide +kernel
theorem okf_4 : jchkF RX4 4 = true := by decide +kernel
theorem okc_4 : jchkC RX4 4 = true := by decide +kernel
theorem okk_4 : jchkK RX4 4 = true := by decide +kernel
theorem okx_4 : jchkX RX4 4 = true := by decide +kernel
theorem okf_5 : jchkF RX5 5 = true := by decide +kernel
theorem okc_5 : jchkC RX5 5 = true := by decide +kernel
theorem okk_5 : jchkK RX5 5 = true := by decide +kernel
theorem okx_5 : jchkX RX5 5 = true := by decide +kernel
theorem okf_6 : jchkF RX6 6 = true := by decide +kernel
theorem okc_6 : jchkC RX6 6 = true := by decide +kernel
theorem okk_6 : jchkK RX6 6 = true := by decide +kernel
theorem okx_6 : jchkX RX6 6 = true := by decide +kernel
theorem okf_7 : jchkF RX7 7 = true := by decide +kernel
theorem okc_7 : jchkC RX7 7 = true := by decide +kernel
theorem okk_7 : jchkK RX7 7 = true := by decide +kernel
theorem okx_7 : jchkX RX7 7 = true := by decide +kernel
theorem okf_8 : jchkF RX8 8 = true := by decide +kernel
theorem okc_8 : jchkC RX8 8 = true := by decide +kernel
theorem okk_8 : jchkK RX8 8 = true := by decide +kernel
theorem okx_8 : jchkX RX8 8 = true := by decide +kernel
theorem okf_11 : jchkF RJ6 11 = true := by decide +kernel
theorem okc_11 : jchkC RJ6 11 = true := by decide +kernel
theorem okk_11 : jchkK RJ6 11 = true := by decide +kernel
theorem okx_11 : jchkX RJ6 11 = true := by decide +kernel
theorem ok_J6_bitCount_0f7a4 : jOkM jT0 jGW jNW vwCl 0 me_J6_bitCount_0f7a4 := jOkM_of rfl okd_J6_bitCount_0f7a4 okm_J6_bitCount_0f7a4 okf_11 okc_11 okk_11 okx_11
theorem ok_X0_wipeCells : jOkM jT0 jGW jNW vwCl 1 me_X0_wipeCells := jOkM_of rfl okd_X0_wipeCells okm_X0_wipeCells okf_0 okc_0 okk_0 okx_0
theorem ok_X1_isLike : jOkM jT0 jGW jNW vwCl 2 me_X1_isLike := jOkM_of rfl okd_X1_isLike okm_X1_isLike okf_1 okc_1 okk_1 okx_1
theorem ok_X1_part : jOkM jT0 jGW jNW vwCl 3 me_X1_part := jOkM_of rfl okd_X1_part okm_X1_part okf_1 okc_1 okk_1 okx_1
theorem ok_X3_restTop : jOkM jT0 jGW jNW vwCl 4 me_X3_restTop := jOkM_of rfl okd_X3_restTop okm_X3_restTop okf_3 okc_3 okk_3 okx_3
theorem ok_X3_take : jOkM jT0 jGW jNW vwCl 5 me_X3_take := jOkM_of rfl okd_X3_take okm_X3_take okf_3 okc_3 okk_3 okx_3
theorem ok_X4_findGaps : jOkM jT0 jGW jNW vwCl 6 me_X4_findGaps := jOkM_of rfl okd_X4_findGaps okm_X4_findGaps okf_4 okc_4 okk_4 okx_4
theorem ok_X4_gapCount : jOkM jT0 jGW jNW vwCl 7 me_X4_gapCount := jOkM_of rfl okd_X4_gapCount okm_X4_gapCount okf_4 okc_4 okk_4 okx_4
theorem ok_X4_isGapless : jOkM jT0 jGW jNW vwCl 8 me_X4_isGapless := jOkM_of rfl okd_X4_isGapless okm_X4_isGapless okf_4 okc_4 okk_4 okx_4
theorem ok_X4_productsAt : jOkM jT0 jGW jNW vwCl 9 me_X4_productsAt := jOkM_of rfl okd_X4_productsAt okm_X4_productsAt okf_4 okc_4 okk_4 okx_4
theorem ok_X4_take : jOkM jT0 jGW jNW vwCl 10 me_X4_take := jOkM_of rfl okd_X4_take okm_X4_take okf_4 okc_4 okk_4 okx_4
theorem ok_X5_take : jOkM jT0 jGW jNW vwCl 11 me_X5_take := jOkM_of rfl okd_X5_take okm_X5_take okf_5 okc_5 okk_5 okx_5
theorem ok_X6_append : jOkM jT0 jGW jNW vwCl 12 me_X6_append := jOkM_of rfl okd_X6_append okm_X6_append okf_6 okc_6 okk_6 okx_6
theorem ok_X6_pair : jOkM jT0 jGW jNW vwCl 13 me_X6_pair := jOkM_of rfl okd_X6_pair okm_X6_pair okf_6 okc_6 okk_6 okx_6
theorem ok_X7_at : jOkM jT0 jGW jNW vwCl 14 me_X7_at := jOkM_of rfl okd_X7_at okm_X7_at okf_7 okc_7 okk_7 okx_7
theorem ok_X7_end : jOkM jT0 jGW jNW vwCl 15 me_X7_end := jOkM_of rfl okd_X7_end okm_X7_end okf_7 okc_7 okk_7 okx_7
theorem ok_X7_isPart : jOkM jT0 jGW jNW vwCl 16 me_X7_isPart := jOkM_of rfl okd_X7_isPart okm_X7_isPart okf_7 okc_7 okk_7 okx_7
theorem ok_X7_isWithin : jOkM jT0 jGW jNW vwCl 17 me_X7_isWithin := jOkM_of rfl okd_X7_isWithin okm_X7_isWithin okf_7 okc_7 okk_7 okx_7
theorem ok_X7_likenessesCount : jOkM jT0 jGW jNW vwCl 18 me_X7_likenessesCount := jOkM_of rfl okd_X7_likenessesCount okm_X7_likenessesCount okf_7 okc_7 okk_7 okx_7
theorem ok_X7_power : jOkM jT0 jGW jNW vwCl 19 me_X7_power := jOkM_of rfl okd_X7_power okm_X7_power okf_7 okc_7 okk_7 okx_7
theorem ok_X7_ruleCount : jOkM jT0 jGW jNW vwCl 20 me_X7_ruleCount := jOkM_of rfl okd_X7_ruleCount okm_X7_ruleCount okf_7 okc_7 okk_7 okx_7
theorem ok_X8_at : jOkM jT0 jGW jNW vwCl 21 me_X8_at := jOkM_of rfl okd_X8_at okm_X8_at okf_8 okc_8 okk_8 okx_8
theorem ok_X8_common : jOkM jT0 jGW jNW vwCl 22 me_X8_common := jOkM_of rfl okd_X8_common okm_X8_common okf_8 okc_8 okk_8 okx_8
theorem ok_X8_determinant : jOkM jT0 jGW jNW vwCl 23 me_X8_determinant := jOkM_of rfl okd_X8_determinant okm_X8_determinant okf_8 okc_8 okk_8 okx_8
theorem ok_X8_end : jOkM jT0 jGW jNW vwCl 24 me_X8_end := jOkM_of rfl okd_X8_end okm_X8_end okf_8 okc_8 okk_8 okx_8
theorem ok_X8_four : jOkM jT0 jGW jNW vwCl 25 me_X8_four := jOkM_of rfl okd_X8_four okm_X8_four okf_8 okc_8 okk_8 okx_8
theorem ok_X8_gaps : jOkM jT0 jGW jNW vwCl 26 me_X8_gaps := jOkM_of rfl okd_X8_gaps okm_X8_gaps okf_8 okc_8 okk_8 okx_8
theorem ok_X8_has : jOkM jT0 jGW jNW vwCl 27 me_X8_has := jOkM_of rfl okd_X8_has okm_X8_has okf_8 okc_8 okk_8 okx_8
theorem ok_X8_hasRule : jOkM jT0 jGW jNW vwCl 28 me_X8_hasRule := jOkM_of rfl okd_X8_hasRule okm_X8_hasRule okf_8 okc_8 okk_8 okx_8
theorem ok_X8_isWhole : jOkM jT0 jGW jNW vwCl 29 me_X8_isWhole := jOkM_of rfl okd_X8_isWhole okm_X8_isWhole okf_8 okc_8 okk_8 okx_8
theorem ok_X8_part : jOkM jT0 jGW jNW vwCl 30 me_X8_part := jOkM_of rfl okd_X8_part okm_X8_part okf_8 okc_8 okk_8 okx_8
theorem ok_X8_put : jOkM jT0 jGW jNW vwCl 31 me_X8_put := jOkM_of rfl okd_X8_put okm_X8_put okf_8 okc_8 okk_8 okx_8
theorem ok_X8_puts : jOkM jT0 jGW jNW vwCl 32 me_X8_puts := jOkM_of rfl okd_X8_puts okm_X8_puts okf_8 okc_8 okk_8 okx_8
theorem ok_X8_taken : jOkM jT0 jGW jNW vwCl 33 me_X8_taken := jOkM_of rfl okd_X8_taken okm_X8_taken okf_8 okc_8 okk_8 okx_8
theorem ok_X8_thrown : jOkM jT0 jGW jNW vwCl 34 me_X8_thrown := jOkM_of rfl okd_X8_thrown okm_X8_thrown okf_8 okc_8 okk_8 okx_8
theorem ok_X8_throwsIf : jOkM jT0 jGW jNW vwCl 35 me_X8_throwsIf := jOkM_of rfl okd_X8_throwsIf okm_X8_throwsIf okf_8 okc_8 okk_8 okx_8
theorem ok_X8_toeplitz : jOkM jT0 jGW jNW vwCl 36 me_X8_toeplitz := jOkM_of rfl okd_X8_toeplitz okm_X8_toeplitz okf_8 okc_8 okk_8 okx_8
theorem ok_X8_told : jOkM jT0 jGW jNW vwCl 37 me_X8_told := jOkM_of rfl okd_X8_told okm_X8_told okf_8 okc_8 okk_8 okx_8
theorem ok_X0_determinant : jOkM jT0 jGW jNW vwCl 38 me_X0_determinant := jOkM_of rfl okd_X0_determinant okm_X0_determinant okf_0 okc_0 okk_0 okx_0
theorem ok_X1_commonDivisor : jOkM jT0 jGW jNW vwCl 39 me_X1_commonDivisor := jOkM_of rfl okd_X1_commonDivisor okm_X1_commonDivisor okf_1 okc_1 okk_1 okx_1
theorem ok_X2_missPart : jOkM jT0 jGW jNW vwCl 40 me_X2_missPart := jOkM_of rfl okd_X2_missPart okm_X2_missPart okf_2 okc_2 okk_2 okx_2
theorem ok_X3_isNowhereBelowZero : jOkM jT0 jGW jNW vwCl 41 me_X3_isNowhereBelowZero := jOkM_of rfl okd_X3_isNowhereBelowZero okm_X3_isNowhereBelowZero okf_3 okc_3 okk_3 okx_3
theorem ok_X4_endsWhole : jOkM jT0 jGW jNW vwCl 42 me_X4_endsWhole := jOkM_of rfl okd_X4_endsWhole okm_X4_endsWhole okf_4 okc_4 okk_4 okx_4
theorem ok_X4_guessOn : jOkM jT0 jGW jNW vwCl 43 me_X4_guessOn := jOkM_of rfl okd_X4_guessOn okm_X4_guessOn okf_4 okc_4 okk_4 okx_4
theorem ok_X4_wholeCount : jOkM jT0 jGW jNW vwCl 44 me_X4_wholeCount := jOkM_of rfl okd_X4_wholeCount okm_X4_wholeCount okf_4 okc_4 okk_4 okx_4
theorem ok_X4_write : jOkM jT0 jGW jNW vwCl 45 me_X4_write := jOkM_of rfl okd_X4_write okm_X4_write okf_4 okc_4 okk_4 okx_4
theorem ok_X5_polyHasNoInnerRoot : jOkM jT0 jGW jNW vwCl 46 me_X5_polyHasNoInnerRoot := jOkM_of rfl okd_X5_polyHasNoInnerRoot okm_X5_polyHasNoInnerRoot okf_5 okc_5 okk_5 okx_5
theorem ok_X5_pull : jOkM jT0 jGW jNW vwCl 47 me_X5_pull := jOkM_of rfl okd_X5_pull okm_X5_pull okf_5 okc_5 okk_5 okx_5
theorem ok_X5_weigh : jOkM jT0 jGW jNW vwCl 48 me_X5_weigh := jOkM_of rfl okd_X5_weigh okm_X5_weigh okf_5 okc_5 okk_5 okx_5
theorem ok_X6_isEachPlace : jOkM jT0 jGW jNW vwCl 49 me_X6_isEachPlace := jOkM_of rfl okd_X6_isEachPlace okm_X6_isEachPlace okf_6 okc_6 okk_6 okx_6
theorem ok_X6_isEachWithin : jOkM jT0 jGW jNW vwCl 50 me_X6_isEachWithin := jOkM_of rfl okd_X6_isEachWithin okm_X6_isEachWithin okf_6 okc_6 okk_6 okx_6
theorem ok_X7_areLikenesses : jOkM jT0 jGW jNW vwCl 51 me_X7_areLikenesses := jOkM_of rfl okd_X7_areLikenesses okm_X7_areLikenesses okf_7 okc_7 okk_7 okx_7
theorem ok_X7_count : jOkM jT0 jGW jNW vwCl 52 me_X7_count := jOkM_of rfl okd_X7_count okm_X7_count okf_7 okc_7 okk_7 okx_7
theorem ok_X7_feed : jOkM jT0 jGW jNW vwCl 53 me_X7_feed := jOkM_of rfl okd_X7_feed okm_X7_feed okf_7 okc_7 okk_7 okx_7
theorem ok_X7_filled : jOkM jT0 jGW jNW vwCl 54 me_X7_filled := jOkM_of rfl okd_X7_filled okm_X7_filled okf_7 okc_7 okk_7 okx_7
theorem ok_X7_isSlot : jOkM jT0 jGW jNW vwCl 55 me_X7_isSlot := jOkM_of rfl okd_X7_isSlot okm_X7_isSlot okf_7 okc_7 okk_7 okx_7
theorem ok_X7_lower : jOkM jT0 jGW jNW vwCl 56 me_X7_lower := jOkM_of rfl okd_X7_lower okm_X7_lower okf_7 okc_7 okk_7 okx_7
theorem ok_X8_block : jOkM jT0 jGW jNW vwCl 57 me_X8_block := jOkM_of rfl okd_X8_block okm_X8_block okf_8 okc_8 okk_8 okx_8
theorem ok_X8_count : jOkM jT0 jGW jNW vwCl 58 me_X8_count := jOkM_of rfl okd_X8_count okm_X8_count okf_8 okc_8 okk_8 okx_8
theorem ok_X8_counted : jOkM jT0 jGW jNW vwCl 59 me_X8_counted := jOkM_of rfl okd_X8_counted okm_X8_counted okf_8 okc_8 okk_8 okx_8
theorem ok_X8_cramer : jOkM jT0 jGW jNW vwCl 60 me_X8_cramer := jOkM_of rfl okd_X8_cramer okm_X8_cramer okf_8 okc_8 okk_8 okx_8
theorem ok_X8_even : jOkM jT0 jGW jNW vwCl 61 me_X8_even := jOkM_of rfl okd_X8_even okm_X8_even okf_8 okc_8 okk_8 okx_8
theorem ok_X8_feed : jOkM jT0 jGW jNW vwCl 62 me_X8_feed := jOkM_of rfl okd_X8_feed okm_X8_feed okf_8 okc_8 okk_8 okx_8
theorem ok_X8_filled : jOkM jT0 jGW jNW vwCl 63 me_X8_filled := jOkM_of rfl okd_X8_filled okm_X8_filled okf_8 okc_8 okk_8 okx_8
theorem ok_X8_given : jOkM jT0 jGW jNW vwCl 64 me_X8_given := jOkM_of rfl okd_X8_given okm_X8_given okf_8 okc_8 okk_8 okx_8
theorem ok_X8_isBare : jOkM jT0 jGW jNW vwCl 65 me_X8_isBare := jOkM_of rfl okd_X8_isBare okm_X8_isBare okf_8 okc_8 okk_8 okx_8
theorem ok_X8_isFree : jOkM jT0 jGW jNW vwCl 66 me_X8_isFree := jOkM_of rfl okd_X8_isFree okm_X8_isFree okf_8 okc_8 okk_8 okx_8
theorem ok_X8_joined : jOkM jT0 jGW jNW vwCl 67 me_X8_joined := jOkM_of rfl okd_X8_joined okm_X8_joined okf_8 okc_8 okk_8 okx_8
theorem ok_X8_likeness : jOkM jT0 jGW jNW vwCl 68 me_X8_likeness := jOkM_of rfl okd_X8_likeness okm_X8_likeness okf_8 okc_8 okk_8 okx_8
theorem ok_X8_lower : jOkM jT0 jGW jNW vwCl 69 me_X8_lower := jOkM_of rfl okd_X8_lower okm_X8_lower okf_8 okc_8 okk_8 okx_8
theorem ok_X8_missOf : jOkM jT0 jGW jNW vwCl 70 me_X8_missOf := jOkM_of rfl okd_X8_missOf okm_X8_missOf okf_8 okc_8 okk_8 okx_8
theorem ok_X8_row : jOkM jT0 jGW jNW vwCl 71 me_X8_row := jOkM_of rfl okd_X8_row okm_X8_row okf_8 okc_8 okk_8 okx_8
theorem ok_X8_rule : jOkM jT0 jGW jNW vwCl 72 me_X8_rule := jOkM_of rfl okd_X8_rule okm_X8_rule okf_8 okc_8 okk_8 okx_8
theorem ok_X8_set : jOkM jT0 jGW jNW vwCl 73 me_X8_set := jOkM_of rfl okd_X8_set okm_X8_set okf_8 okc_8 okk_8 okx_8
theorem ok_X8_thin : jOkM jT0 jGW jNW vwCl 74 me_X8_thin := jOkM_of rfl okd_X8_thin okm_X8_thin okf_8 okc_8 okk_8 okx_8
theorem ok_X0_solve : jOkM jT0 jGW jNW vwCl 75 me_X0_solve := jOkM_of rfl okd_X0_solve okm_X0_solve okf_0 okc_0 okk_0 okx_0
theorem ok_X1_set : jOkM jT0 jGW jNW vwCl 76 me_X1_set := jOkM_of rfl okd_X1_set okm_X1_set okf_1 okc_1 okk_1 okx_1
theorem ok_X4_jointPulls : jOkM jT0 jGW jNW vwCl 77 me_X4_jointPulls := jOkM_of rfl okd_X4_jointPulls okm_X4_jointPulls okf_4 okc_4 okk_4 okx_4
theorem ok_X4_missAt : jOkM jT0 jGW jNW vwCl 78 me_X4_missAt := jOkM_of rfl okd_X4_missAt okm_X4_missAt okf_4 okc_4 okk_4 okx_4
theorem ok_X5_diesAway : jOkM jT0 jGW jNW vwCl 79 me_X5_diesAway := jOkM_of rfl okd_X5_diesAway okm_X5_diesAway okf_5 okc_5 okk_5 okx_5
theorem ok_X5_showsMisses : jOkM jT0 jGW jNW vwCl 80 me_X5_showsMisses := jOkM_of rfl okd_X5_showsMisses okm_X5_showsMisses okf_5 okc_5 okk_5 okx_5
theorem ok_X7_put : jOkM jT0 jGW jNW vwCl 81 me_X7_put := jOkM_of rfl okd_X7_put okm_X7_put okf_7 okc_7 okk_7 okx_7
theorem ok_X7_row : jOkM jT0 jGW jNW vwCl 82 me_X7_row := jOkM_of rfl okd_X7_row okm_X7_row okf_7 okc_7 okk_7 okx_7
theorem ok_X7_rule : jOkM jT0 jGW jNW vwCl 83 me_X7_rule := jOkM_of rfl okd_X7_rule okm_X7_rule okf_7 okc_7 okk_7 okx_7
theorem ok_X7_takeDrawn : jOkM jT0 jGW jNW vwCl 84 me_X7_takeDrawn := jOkM_of rfl okd_X7_takeDrawn okm_X7_takeDrawn okf_7 okc_7 okk_7 okx_7
theorem ok_X7_toldLikenesses : jOkM jT0 jGW jNW vwCl 85 me_X7_toldLikenesses := jOkM_of rfl okd_X7_toldLikenesses okm_X7_toldLikenesses okf_7 okc_7 okk_7 okx_7
theorem ok_X7_toldRule : jOkM jT0 jGW jNW vwCl 86 me_X7_toldRule := jOkM_of rfl okd_X7_toldRule okm_X7_toldRule okf_7 okc_7 okk_7 okx_7
theorem ok_X8_amiss : jOkM jT0 jGW jNW vwCl 87 me_X8_amiss := jOkM_of rfl okd_X8_amiss okm_X8_amiss okf_8 okc_8 okk_8 okx_8
theorem ok_X8_clear : jOkM jT0 jGW jNW vwCl 88 me_X8_clear := jOkM_of rfl okd_X8_clear okm_X8_clear okf_8 okc_8 okk_8 okx_8
theorem ok_X8_fill : jOkM jT0 jGW jNW vwCl 89 me_X8_fill := jOkM_of rfl okd_X8_fill okm_X8_fill okf_8 okc_8 okk_8 okx_8
theorem ok_X8_isSteady : jOkM jT0 jGW jNW vwCl 90 me_X8_isSteady := jOkM_of rfl okd_X8_isSteady okm_X8_isSteady okf_8 okc_8 okk_8 okx_8
theorem ok_X8_leftOf : jOkM jT0 jGW jNW vwCl 91 me_X8_leftOf := jOkM_of rfl okd_X8_leftOf okm_X8_leftOf okf_8 okc_8 okk_8 okx_8
theorem ok_X8_plus : jOkM jT0 jGW jNW vwCl 92 me_X8_plus := jOkM_of rfl okd_X8_plus okm_X8_plus okf_8 okc_8 okk_8 okx_8
theorem ok_X8_shareOf : jOkM jT0 jGW jNW vwCl 93 me_X8_shareOf := jOkM_of rfl okd_X8_shareOf okm_X8_shareOf okf_8 okc_8 okk_8 okx_8
theorem ok_X8_squares : jOkM jT0 jGW jNW vwCl 94 me_X8_squares := jOkM_of rfl okd_X8_squares okm_X8_squares okf_8 okc_8 okk_8 okx_8
theorem ok_X8_stepsOf : jOkM jT0 jGW jNW vwCl 95 me_X8_stepsOf := jOkM_of rfl okd_X8_stepsOf okm_X8_stepsOf okf_8 okc_8 okk_8 okx_8
theorem ok_X8_times : jOkM jT0 jGW jNW vwCl 96 me_X8_times := jOkM_of rfl okd_X8_times okm_X8_times okf_8 okc_8 okk_8 okx_8
theorem ok_X8_whole : jOkM jT0 jGW jNW vwCl 97 me_X8_whole := jOkM_of rfl okd_X8_whole okm_X8_whole okf_8 okc_8 okk_8 okx_8
theorem ok_X2_find : jOkM jT0 jGW jNW vwCl 98 me_X2_find := jOkM_of rfl okd_X2_find okm_X2_find okf_2 okc_2 okk_2 okx_2
theorem ok_X3_solveStep : jOkM jT0 jGW jNW vwCl 99 me_X3_solveStep := jOkM_of rfl okd_X3_solveStep okm_X3_solveStep okf_3 okc_3 okk_3 okx_3
theorem ok_X4_pulledMisses : jOkM jT0 jGW jNW vwCl 100 me_X4_pulledMisses := jOkM_of rfl okd_X4_pulledMisses okm_X4_pulledMisses okf_4 okc_4 okk_4 okx_4
theorem ok_X4_squaredPulls : jOkM jT0 jGW jNW vwCl 101 me_X4_squaredPulls := jOkM_of rfl okd_X4_squaredPulls okm_X4_squaredPulls okf_4 okc_4 okk_4 okx_4
theorem ok_X4_squaresTop : jOkM jT0 jGW jNW vwCl 102 me_X4_squaresTop := jOkM_of rfl okd_X4_squaresTop okm_X4_squaresTop okf_4 okc_4 okk_4 okx_4
theorem ok_X7_clear : jOkM jT0 jGW jNW vwCl 103 me_X7_clear := jOkM_of rfl okd_X7_clear okm_X7_clear okf_7 okc_7 okk_7 okx_7
theorem ok_X7_counted : jOkM jT0 jGW jNW vwCl 104 me_X7_counted := jOkM_of rfl okd_X7_counted okm_X7_counted okf_7 okc_7 okk_7 okx_7
theorem ok_X7_even : jOkM jT0 jGW jNW vwCl 105 me_X7_even := jOkM_of rfl okd_X7_even okm_X7_even okf_7 okc_7 okk_7 okx_7
theorem ok_X7_given : jOkM jT0 jGW jNW vwCl 106 me_X7_given := jOkM_of rfl okd_X7_given okm_X7_given okf_7 okc_7 okk_7 okx_7
theorem ok_X7_joined : jOkM jT0 jGW jNW vwCl 107 me_X7_joined := jOkM_of rfl okd_X7_joined okm_X7_joined okf_7 okc_7 okk_7 okx_7
theorem ok_X7_likeness : jOkM jT0 jGW jNW vwCl 108 me_X7_likeness := jOkM_of rfl okd_X7_likeness okm_X7_likeness okf_7 okc_7 okk_7 okx_7
theorem ok_X7_plainRule : jOkM jT0 jGW jNW vwCl 109 me_X7_plainRule := jOkM_of rfl okd_X7_plainRule okm_X7_plainRule okf_7 okc_7 okk_7 okx_7
theorem ok_X7_steady : jOkM jT0 jGW jNW vwCl 110 me_X7_steady := jOkM_of rfl okd_X7_steady okm_X7_steady okf_7 okc_7 okk_7 okx_7
theorem ok_X7_thin : jOkM jT0 jGW jNW vwCl 111 me_X7_thin := jOkM_of rfl okd_X7_thin okm_X7_thin okf_7 okc_7 okk_7 okx_7
theorem ok_X7_weight : jOkM jT0 jGW jNW vwCl 112 me_X7_weight := jOkM_of rfl okd_X7_weight okm_X7_weight okf_7 okc_7 okk_7 okx_7
theorem ok_X8_eliminate : jOkM jT0 jGW jNW vwCl 113 me_X8_eliminate := jOkM_of rfl okd_X8_eliminate okm_X8_eliminate okf_8 okc_8 okk_8 okx_8
theorem ok_X8_left : jOkM jT0 jGW jNW vwCl 114 me_X8_left := jOkM_of rfl okd_X8_left okm_X8_left okf_8 okc_8 okk_8 okx_8
theorem ok_X8_next : jOkM jT0 jGW jNW vwCl 115 me_X8_next := jOkM_of rfl okd_X8_next okm_X8_next okf_8 okc_8 okk_8 okx_8
theorem ok_X8_right : jOkM jT0 jGW jNW vwCl 116 me_X8_right := jOkM_of rfl okd_X8_right okm_X8_right okf_8 okc_8 okk_8 okx_8
theorem ok_X8_share : jOkM jT0 jGW jNW vwCl 117 me_X8_share := jOkM_of rfl okd_X8_share okm_X8_share okf_8 okc_8 okk_8 okx_8
theorem ok_X8_solid : jOkM jT0 jGW jNW vwCl 118 me_X8_solid := jOkM_of rfl okd_X8_solid okm_X8_solid okf_8 okc_8 okk_8 okx_8
theorem ok_X8_steady : jOkM jT0 jGW jNW vwCl 119 me_X8_steady := jOkM_of rfl okd_X8_steady okm_X8_steady okf_8 okc_8 okk_8 okx_8
theorem ok_X8_steps : jOkM jT0 jGW jNW vwCl 120 me_X8_steps := jOkM_of rfl okd_X8_steps okm_X8_steps okf_8 okc_8 okk_8 okx_8
theorem ok_X8_weights : jOkM jT0 jGW jNW vwCl 121 me_X8_weights := jOkM_of rfl okd_X8_weights okm_X8_weights okf_8 okc_8 okk_8 okx_8
theorem ok_X3_stepsThere : jOkM jT0 jGW jNW vwCl 122 me_X3_stepsThere := jOkM_of rfl okd_X3_stepsThere okm_X3_stepsThere okf_3 okc_3 okk_3 okx_3
theorem ok_X4_askForGaps : jOkM jT0 jGW jNW vwCl 123 me_X4_askForGaps := jOkM_of rfl okd_X4_askForGaps okm_X4_askForGaps okf_4 okc_4 okk_4 okx_4
theorem ok_X4_worstPlace : jOkM jT0 jGW jNW vwCl 124 me_X4_worstPlace := jOkM_of rfl okd_X4_worstPlace okm_X4_worstPlace okf_4 okc_4 okk_4 okx_4
theorem ok_X7_like : jOkM jT0 jGW jNW vwCl 125 me_X7_like := jOkM_of rfl okd_X7_like okm_X7_like okf_7 okc_7 okk_7 okx_7
theorem ok_X7_next : jOkM jT0 jGW jNW vwCl 126 me_X7_next := jOkM_of rfl okd_X7_next okm_X7_next okf_7 okc_7 okk_7 okx_7
theorem ok_X7_same : jOkM jT0 jGW jNW vwCl 127 me_X7_same := jOkM_of rfl okd_X7_same okm_X7_same okf_7 okc_7 okk_7 okx_7
theorem ok_X7_squares : jOkM jT0 jGW jNW vwCl 128 me_X7_squares := jOkM_of rfl okd_X7_squares okm_X7_squares okf_7 okc_7 okk_7 okx_7
theorem ok_X7_whole : jOkM jT0 jGW jNW vwCl 129 me_X7_whole := jOkM_of rfl okd_X7_whole okm_X7_whole okf_7 okc_7 okk_7 okx_7
theorem ok_X8_likes : jOkM jT0 jGW jNW vwCl 130 me_X8_likes := jOkM_of rfl okd_X8_likes okm_X8_likes okf_8 okc_8 okk_8 okx_8
theorem ok_X8_weight : jOkM jT0 jGW jNW vwCl 131 me_X8_weight := jOkM_of rfl okd_X8_weight okm_X8_weight okf_8 okc_8 okk_8 okx_8
theorem ok_X3_holds : jOkM jT0 jGW jNW vwCl 132 me_X3_holds := jOkM_of rfl okd_X3_holds okm_X3_holds okf_3 okc_3 okk_3 okx_3
theorem ok_X7_amiss : jOkM jT0 jGW jNW vwCl 133 me_X7_amiss := jOkM_of rfl okd_X7_amiss okm_X7_amiss okf_7 okc_7 okk_7 okx_7
theorem ok_X7_fill : jOkM jT0 jGW jNW vwCl 134 me_X7_fill := jOkM_of rfl okd_X7_fill okm_X7_fill okf_7 okc_7 okk_7 okx_7
theorem ok_X7_left : jOkM jT0 jGW jNW vwCl 135 me_X7_left := jOkM_of rfl okd_X7_left okm_X7_left okf_7 okc_7 okk_7 okx_7
theorem ok_X7_share : jOkM jT0 jGW jNW vwCl 136 me_X7_share := jOkM_of rfl okd_X7_share okm_X7_share okf_7 okc_7 okk_7 okx_7
theorem ok_X7_steps : jOkM jT0 jGW jNW vwCl 137 me_X7_steps := jOkM_of rfl okd_X7_steps okm_X7_steps okf_7 okc_7 okk_7 okx_7
theorem ok_X8_like : jOkM jT0 jGW jNW vwCl 138 me_X8_like := jOkM_of rfl okd_X8_like okm_X8_like okf_8 okc_8 okk_8 okx_8
theorem ok_X8_same : jOkM jT0 jGW jNW vwCl 139 me_X8_same := jOkM_of rfl okd_X8_same okm_X8_same okf_8 okc_8 okk_8 okx_8
theorem ok_X7_solid : jOkM jT0 jGW jNW vwCl 140 me_X7_solid := jOkM_of rfl okd_X7_solid okm_X7_solid okf_7 okc_7 okk_7 okx_7
theorem jOk_all : ∀ y E, jT0.2.2.1 y = some E → jOkM jT0 jGW jNW vwCl y E := by
  intro y E h
  obtain ⟨ch, h1, h2⟩ := jal2_mem h
  revert y E ch
  have key : ∀ ch ∈ jMEs, ∀ e ∈ ch.2, jOkM jT0 jGW jNW vwCl e.1 e.2 := by
    exact List.forall_mem_cons.mpr ⟨List.forall_mem_cons.mpr ⟨ok_J6_bitCount_0f7a4, List.forall_mem_cons.mpr ⟨ok_X0_wipeCells, List.forall_mem_cons.mpr ⟨ok_X1_isLike, List.forall_mem_cons.mpr ⟨ok_X1_part, List.forall_mem_cons.mpr ⟨ok_X3_restTop, List.forall_mem_cons.mpr ⟨ok_X3_take, List.forall_mem_cons.mpr ⟨ok_X4_findGaps, List.forall_mem_cons.mpr ⟨ok_X4_gapCount, List.forall_mem_cons.mpr ⟨ok_X4_isGapless, List.forall_mem_cons.mpr ⟨ok_X4_productsAt, List.forall_mem_cons.mpr ⟨ok_X4_take, List.forall_mem_cons.mpr ⟨ok_X5_take, fun _ h => absurd h List.not_mem_nil⟩⟩⟩⟩⟩⟩⟩⟩⟩⟩⟩⟩, List.forall_mem_cons.mpr ⟨List.forall_mem_cons.mpr ⟨ok_X6_append, List.forall_mem_cons.mpr ⟨ok_X6_pair, List.forall_mem_cons.mpr ⟨ok_X7_at, List.forall_mem_cons.mpr ⟨ok_X7_end, List.forall_mem_cons.mpr ⟨ok_X7_isPart, List.forall_mem_cons.mpr ⟨ok_X7_isWithin, List.forall_mem_cons.mpr ⟨ok_X7_likenessesCount, List.forall_mem_cons.mpr ⟨ok_X7_power, List.forall_mem_cons.mpr ⟨ok_X7_ruleCount, List.forall_mem_cons.mpr ⟨ok_X8_at, List.forall_mem_cons.mpr ⟨ok_X8_common, List.forall_mem_cons.mpr ⟨ok_X8_determinant, fun _ h => absurd h List.not_mem_nil⟩⟩⟩⟩⟩⟩⟩⟩⟩⟩⟩⟩, List.forall_mem_cons.mpr ⟨List.forall_mem_cons.mpr ⟨ok_X8_end, List.forall_mem_cons.mpr ⟨ok_X8_four, List.forall_mem_cons.mpr ⟨ok_X8_gaps, List.forall_mem_cons.mpr ⟨ok_X8_has, List.forall_mem_cons.mpr ⟨ok_X8_hasRule, List.forall_mem_cons.mpr ⟨ok_X8_isWhole, List.forall_mem_cons.mpr ⟨ok_X8_part, List.forall_mem_cons.mpr ⟨ok_X8_put, List.forall_mem_cons.mpr ⟨ok_X8_puts, List.forall_mem_cons.mpr ⟨ok_X8_taken, List.forall_mem_cons.mpr ⟨ok_X8_thrown, List.forall_mem_cons.mpr ⟨ok_X8_throwsIf, fun _ h => absurd h List.not_mem_nil⟩⟩⟩⟩⟩⟩⟩⟩⟩⟩⟩⟩, List.forall_mem_cons.mpr ⟨List.forall_mem_cons.mpr ⟨ok_X8_toeplitz, List.forall_mem_cons.mpr ⟨ok_X8_told, List.forall_mem_cons.mpr ⟨ok_X0_determinant, List.forall_mem_cons.mpr ⟨ok_X1_commonDivisor, List.forall_mem_cons.mpr ⟨ok_X2_missPart, List.forall_mem_cons.mpr ⟨ok_X3_isNowhereBelowZero, List.forall_mem_cons.mpr ⟨ok_X4_endsWhole, List.forall_mem_cons.mpr ⟨ok_X4_guessOn, List.forall_mem_cons.mpr ⟨ok_X4_wholeCount, List.forall_mem_cons.mpr ⟨ok_X4_write, List.forall_mem_cons.mpr ⟨ok_X5_polyHasNoInnerRoot, List.forall_mem_cons.mpr ⟨ok_X5_pull, fun _ h => absurd h List.not_mem_nil⟩⟩⟩⟩⟩⟩⟩⟩⟩⟩⟩⟩, List.forall_mem_cons.mpr ⟨List.forall_mem_cons.mpr ⟨ok_X5_weigh, List.forall_mem_cons.mpr ⟨ok_X6_isEachPlace, List.forall_mem_cons.mpr ⟨ok_X6_isEachWithin, List.forall_mem_cons.mpr ⟨ok_X7_areLikenesses, List.forall_mem_cons.mpr ⟨ok_X7_count, List.forall_mem_cons.mpr ⟨ok_X7_feed, List.forall_mem_cons.mpr ⟨ok_X7_filled, List.forall_mem_cons.mpr ⟨ok_X7_isSlot, List.forall_mem_cons.mpr ⟨ok_X7_lower, List.forall_mem_cons.mpr ⟨ok_X8_block, List.forall_mem_cons.mpr ⟨ok_X8_count, List.forall_mem_cons.mpr ⟨ok_X8_counted, fun _ h => absurd h List.not_mem_nil⟩⟩⟩⟩⟩⟩⟩⟩⟩⟩⟩⟩, List.forall_mem_cons.mpr ⟨List.forall_mem_cons.mpr ⟨ok_X8_cramer, List.forall_mem_cons.mpr ⟨ok_X8_even, List.forall_mem_cons.mpr ⟨ok_X8_feed, List.forall_mem_cons.mpr ⟨ok_X8_filled, List.forall_mem_cons.mpr ⟨ok_X8_given, List.forall_mem_cons.mpr ⟨ok_X8_isBare, List.forall_mem_cons.mpr ⟨ok_X8_isFree, List.forall_mem_cons.mpr ⟨ok_X8_joined, List.forall_mem_cons.mpr ⟨ok_X8_likeness, List.forall_mem_cons.mpr ⟨ok_X8_lower, List.forall_mem_cons.mpr ⟨ok_X8_missOf, List.forall_mem_cons.mpr ⟨ok_X8_row, fun _ h => absurd h List.not_mem_nil⟩⟩⟩⟩⟩⟩⟩⟩⟩⟩⟩⟩, List.forall_mem_cons.mpr ⟨List.forall_mem_cons.mpr ⟨ok_X8_rule, List.forall_mem_cons.mpr ⟨ok_X8_set, List.forall_mem_cons.mpr ⟨ok_X8_thin, List.forall_mem_cons.mpr ⟨ok_X0_solve, List.forall_mem_cons.mpr ⟨ok_X1_set, List.forall_mem_cons.mpr ⟨ok_X4_jointPulls, List.forall_mem_cons.mpr ⟨ok_X4_missAt, List.forall_mem_cons.mpr ⟨ok_X5_diesAway, List.forall_mem_cons.mpr ⟨ok_X5_showsMisses, List.forall_mem_cons.mpr ⟨ok_X7_put, List.forall_mem_cons.mpr ⟨ok_X7_row, List.forall_mem_cons.mpr ⟨ok_X7_rule, fun _ h => absurd h List.not_mem_nil⟩⟩⟩⟩⟩⟩⟩⟩⟩⟩⟩⟩, List.forall_mem_cons.mpr ⟨List.forall_mem_cons.mpr ⟨ok_X7_takeDrawn, List.forall_mem_cons.mpr ⟨ok_X7_toldLikenesses, List.forall_mem_cons.mpr ⟨ok_X7_toldRule, List.forall_mem_cons.mpr ⟨ok_X8_amiss, List.forall_mem_cons.mpr ⟨ok_X8_clear, List.forall_mem_cons.mpr ⟨ok_X8_fill, List.forall_mem_cons.mpr ⟨ok_X8_isSteady, List.forall_mem_cons.mpr ⟨ok_X8_leftOf, List.forall_mem_cons.mpr ⟨ok_X8_plus, List.forall_mem_cons.mpr ⟨ok_X8_shareOf, List.forall_mem_cons.mpr ⟨ok_X8_squares, List.forall_mem_cons.mpr ⟨ok_X8_stepsOf, fun _ h => absurd h List.not_mem_nil⟩⟩⟩⟩⟩⟩⟩⟩⟩⟩⟩⟩, List.forall_mem_cons.mpr ⟨List.forall_mem_cons.mpr ⟨ok_X8_times, List.forall_mem_cons.mpr ⟨ok_X8_whole, List.forall_mem_cons.mpr ⟨ok_X2_find, List.forall_mem_cons.mpr ⟨ok_X3_solveStep, List.forall_mem_cons.mpr ⟨ok_X4_pulledMisses, List.forall_mem_cons.mpr ⟨ok_X4_squaredPulls, List.forall_mem_cons.mpr ⟨ok_X4_squaresTop, List.forall_mem_cons.mpr ⟨ok_X7_clear, List.forall_mem_cons.mpr ⟨ok_X7_counted, List.forall_mem_cons.mpr ⟨ok_X7_even, List.forall_mem_cons.mpr ⟨ok_X7_given, List.forall_mem_cons.mpr ⟨ok_X7_joined, fun _ h => absurd h List.not_mem_nil⟩⟩⟩⟩⟩⟩⟩⟩⟩⟩⟩⟩, List.forall_mem_cons.mpr ⟨List.forall_mem_cons.mpr ⟨ok_X7_likeness, List.forall_mem_cons.mpr ⟨ok_X7_plainRule, List.forall_mem_cons.mpr ⟨ok_X7_steady, List.forall_mem_cons.mpr ⟨ok_X7_thin, List.forall_mem_cons.mpr ⟨ok_X7_weight, List.forall_mem_cons.mpr ⟨ok_X8_eliminate, List.forall_mem_cons.mpr ⟨ok_X8_left, List.forall_mem_cons.mpr ⟨ok_X8_next, List.forall_mem_cons.mpr ⟨ok_X8_right, List.forall_mem_cons.mpr ⟨ok_X8_share, List.forall_mem_cons.mpr ⟨ok_X8_solid, List.forall_mem_cons.mpr ⟨ok_X8_steady, fun _ h => absurd h List.not_mem_nil⟩⟩⟩⟩⟩⟩⟩⟩⟩⟩⟩⟩, List.forall_mem_cons.mpr ⟨List.forall_mem_cons.mpr ⟨ok_X8_steps, List.forall_mem_cons.mpr ⟨ok_X8_weights, List.forall_mem_cons.mpr ⟨ok_X3_stepsThere, List.forall_mem_cons.mpr ⟨ok_X4_askForGaps, List.forall_mem_cons.mpr ⟨ok_X4_worstPlace, List.forall_mem_cons.mpr ⟨ok_X7_like, List.forall_mem_cons.mpr ⟨ok_X7_next, List.forall_mem_cons.mpr ⟨ok_X7_same, List.forall_mem_cons.mpr ⟨ok_X7_squares, List.forall_mem_cons.mpr ⟨ok_X7_whole, List.forall_mem_cons.mpr ⟨ok_X8_likes, List.forall_mem_cons.mpr ⟨ok_X8_weight, fun _ h => absurd h List.not_mem_nil⟩⟩⟩⟩⟩⟩⟩⟩⟩⟩⟩⟩, List.forall_mem_cons.mpr ⟨List.forall_mem_cons.mpr ⟨ok_X3_holds, List.forall_mem_cons.mpr ⟨ok_X7_amiss, List.forall_mem_cons.mpr ⟨ok_X7_fill, List.forall_mem_cons.mpr ⟨ok_X7_left, List.forall_mem_cons.mpr ⟨ok_X7_share, List.forall_mem_cons.mpr ⟨ok_X7_steps, List.forall_mem_cons.mpr ⟨ok_X8_like, List.forall_mem_cons.mpr ⟨ok_X8_same, List.forall_mem_cons.mpr ⟨ok_X7_solid, fun _ h => absurd h List.not_mem_nil⟩⟩⟩⟩⟩⟩⟩⟩⟩, fun _ h => absurd h List.not_mem_nil⟩⟩⟩⟩⟩⟩⟩⟩⟩⟩⟩⟩
  exact fun y E _ ch h1 h2 => key ch h1 (y, E) h2
