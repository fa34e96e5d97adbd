/-! THE PURE LAYER: what a method comes to, by a predicate; one rule a kind of step. -/
abbrev jK : Type := Option (Option Value) → jM → Prop
def jLV (y pc : Nat) : Option (List Nat) := jT0.2.2.2.2.2.2.1 y pc
/-- at an end: a value is given back, or an exception is made -/
def jFin (y : Nat) (o : jC) (K : jK) : Prop := (∃ (E : jE) (r : Instr) (v : Option Value), jMT y = some E ∧ jMI y o.1 = some r ∧ jback E r o.2.2.1 = some v ∧ K (some v) o.2.2.2) ∨ (∃ k : Nat, jMI y o.1 = some (.new k) ∧ o.2.2.1 = [] ∧ K none o.2.2.2)
/-- method y, from c on, comes to an end with K -/
def jEv (y : Nat) (c : jC) (K : jK) : Prop := ∃ (n : Nat) (o : jC), jrun jT0 n y c = some o ∧ jFin y o K
theorem jFin.mono {y : Nat} {o : jC} {K K' : jK} (h : jFin y o K) (hk : ∀ v M, K v M → K' v M) : jFin y o K' := by
  rcases h with ⟨E, r, v, h1, h2, h3, h4⟩ | ⟨k, h1, h2⟩
  · exact Or.inl ⟨E, r, v, h1, h2, h3, hk _ _ h4⟩
  · exact Or.inr ⟨k, h1, h2.1, hk _ _ h2.2⟩
theorem jEv.mono {y : Nat} {c : jC} {K K' : jK} (h : jEv y c K) (hk : ∀ v M, K v M → K' v M) : jEv y c K' := by
  obtain ⟨n, o, h1, h2⟩ := h
  exact ⟨n, o, h1, h2.mono hk⟩
set_option maxHeartbeats 1000000 in
theorem jrun_succ {T : jT} : ∀ (n y : Nat) (c o : jC), jrun T n y c = some o → jrun T (n + 1) y c = some o := by
  intro n
  induction n with
  | zero => intro y c o h; simp [jrun] at h
  | succ n ih =>
    intro y c o h
    unfold jrun at h
    show jrun T (n + 1 + 1) y c = some o
    unfold jrun
    split at h
    · next E ins hE hins =>
      try rw [hE, hins]
      try dsimp only
      by_cases ht : jterm ins = true
      · rw [if_pos ht] at h ⊢; exact h
      · rw [if_neg ht] at h ⊢
        split at h
        · next z hz =>
          try rw [hz]
          try dsimp only
          split at h
          · next F hF =>
            try rw [hF]
            try dsimp only
            split at h
            · next ar har =>
              try rw [har]
              try dsimp only
              split at h
              · next d hd =>
                rw [ih _ _ _ hd]
                try dsimp only
                split at h
                · next r hr =>
                  try rw [hr]
                  try dsimp only
                  split at h
                  · next v hv =>
                    try rw [hv]
                    try dsimp only
                    exact ih _ _ _ h
                  · cases h
                · cases h
              · cases h
            · cases h
          · cases h
        · next hz =>
          try rw [hz]
          try dsimp only
          split at h
          · next d hd =>
            try rw [hd]
            try dsimp only
            exact ih _ _ _ h
          · cases h
    · cases h
theorem jrun_add {T : jT} {n y : Nat} {c o : jC} (h : jrun T n y c = some o) : ∀ k, jrun T (n + k) y c = some o
  | 0 => h
  | k + 1 => jrun_succ _ _ _ _ (jrun_add h k)
theorem jone_term {T : jT} {E : jE} {ins : Instr} {c d : jC} (h : jone T E ins c = some d) : jterm ins = false ∧ jcall T E ins = none := by
  cases ins with
  | invokestatic i =>
    refine ⟨rfl, ?_⟩
    unfold jone at h
    dsimp only at h
    split at h
    · next k hk =>
      unfold jcall
      dsimp only
      rw [hk]
    · cases h
  | _ => first | exact ⟨rfl, rfl⟩ | cases h
/-- k steps, none a call -/
def jsteps (y : Nat) : Nat → jC → Option jC
  | 0, c => some c
  | n + 1, c => match jMT y, jMI y c.1 with
    | some E, some ins => (match jone jT0 E ins (jdr jT0 y c) with
      | some d => jsteps y n d
      | none => none)
    | _, _ => none
theorem e_one {y : Nat} {E : jE} {ins : Instr} {c d : jC} {K : jK} (hE : jMT y = some E) (hi : jMI y c.1 = some ins) (h1 : jone jT0 E ins (jdr jT0 y c) = some d) (k : jEv y d K) : jEv y c K := by
  obtain ⟨n, o, h2, h3⟩ := k
  refine ⟨n + 1, o, ?_, h3⟩
  obtain ⟨t1, t2⟩ := jone_term h1
  unfold jrun
  rw [show jT0.2.2.1 y = some E from hE, show jT0.2.1 y c.1 = some ins from hi]
  dsimp only
  rw [if_neg (by rw [t1]; exact Bool.false_ne_true), t2]
  dsimp only
  rw [h1]
  exact h2
theorem e_seg {y : Nat} {K : jK} : ∀ {k : Nat} {c d : jC}, jsteps y k c = some d → jEv y d K → jEv y c K
  | 0, c, d, h, h2 => by cases h; exact h2
  | k + 1, c, d, h, h2 => by
    unfold jsteps at h
    split at h
    · next E ins hE hi =>
      split at h
      · next d' hd =>
        exact e_one hE hi hd (e_seg h h2)
      · cases h
    · cases h
/-- at a place where locals go -/
theorem e_cut {y pc : Nat} {L L' : List (Nat × Value)} {S : List Value} {M : jM} {K : jK} {ks : List Nat} {ins : Instr} {E : jE} (hE : jMT y = some E) (hi : jMI y pc = some ins) (hc : jcall jT0 E ins = none) (ht : jterm ins = false) (hl : jLV y pc = some ks) (hL : jkp (some ks) L = L') (k : jEv y (pc, L', S, M) K) : jEv y (pc, L, S, M) K := by
  obtain ⟨n, o, h2, h3⟩ := k
  refine ⟨n, o, ?_, h3⟩
  cases n with
  | zero => simp [jrun] at h2
  | succ n =>
    unfold jrun at h2 ⊢
    have e1 : jT0.2.2.1 y = some E := hE
    have e2 : jT0.2.1 y pc = some ins := hi
    dsimp only at h2 ⊢
    rw [e1, e2] at h2 ⊢
    dsimp only at h2 ⊢
    rw [if_neg (by rw [ht]; exact Bool.false_ne_true), hc] at h2 ⊢
    dsimp only at h2 ⊢
    have e3 : jdr jT0 y (pc, L, S, M) = jdr jT0 y (pc, L', S, M) := by
      have hl' : jT0.2.2.2.2.2.2.1 y pc = some ks := hl
      show (pc, jkp (jT0.2.2.2.2.2.2.1 y pc) L, S, M) = (pc, jkp (jT0.2.2.2.2.2.2.1 y pc) L', S, M)
      rw [hl', ← hL]
      show (pc, L.filter (fun q => ks.contains q.1), S, M) = (pc, (L.filter (fun q => ks.contains q.1)).filter (fun q => ks.contains q.1), S, M)
      rw [List.filter_filter]
      simp
    rw [e3]
    exact h2
/-- a value is given back -/
theorem e_ret {y : Nat} {E : jE} {r : Instr} {c : jC} {v : Option Value} {K : jK} (hE : jMT y = some E) (hi : jMI y c.1 = some r) (ht : jterm r = true) (hb : jback E r c.2.2.1 = some v) (hk : K (some v) c.2.2.2) : jEv y c K := by
  refine ⟨1, c, ?_, Or.inl ⟨E, r, v, hE, hi, hb, hk⟩⟩
  unfold jrun
  rw [show jT0.2.2.1 y = some E from hE, show jT0.2.1 y c.1 = some r from hi]
  dsimp only
  rw [if_pos ht]
/-- an exception is made -/
theorem e_new {y : Nat} {E : jE} {k : Nat} {c : jC} {K : jK} (hE : jMT y = some E) (hi : jMI y c.1 = some (.new k)) (hs : c.2.2.1 = []) (hk : K none c.2.2.2) : jEv y c K := by
  refine ⟨1, c, ?_, Or.inr ⟨k, hi, hs, hk⟩⟩
  unfold jrun
  rw [show jT0.2.2.1 y = some E from hE, show jT0.2.1 y c.1 = some (.new k) from hi]
  rfl
/-- a call -/
theorem e_call {y pc q : Nat} {E F : jE} {ins : Instr} {z : Nat × Bool × Bool} {L L0 : List (Nat × Value)} {S as rest : List Value} {M : jM} {K : jK} (hE : jMT y = some E) (hi : jMI y pc = some ins) (ht : jterm ins = false) (hz : jcall jT0 E ins = some z) (hF : jMT z.1 = some F) (ha : jargs jT0 E F z.2.2 S = some (as, rest)) (hL : lv_args 0 as = L0) (hq : pc + 3 = q)
    (k : jEv z.1 (0, L0, [], M) (fun o M1 => ∃ v, o = some v ∧ jEv y (q, L, v.toList ++ rest, M1) K)) : jEv y (pc, L, S, M) K := by
  obtain ⟨n, o, h1, h2⟩ := k
  rcases h2 with ⟨F', r, v, f1, f2, f3, v', hv, n2, o2, h3, h4⟩ | ⟨k, f1, f2, v, hv, -⟩
  · cases hv
    cases hF.symm.trans f1
    refine ⟨n + n2 + 1, o2, ?_, h4⟩
    unfold jrun
    rw [show jT0.2.2.1 y = some E from hE, show jT0.2.1 y (pc, L, S, M).1 = some ins from hi]
    dsimp only
    rw [if_neg (by rw [ht]; exact Bool.false_ne_true), hz]
    dsimp only
    rw [show jT0.2.2.1 z.1 = some F from hF]
    dsimp only
    rw [ha]
    dsimp only
    rw [hL, jrun_add h1 n2]
    dsimp only
    rw [show jT0.2.1 z.1 o.1 = some r from f2]
    dsimp only
    rw [f3]
    dsimp only
    rw [hq]
    have := jrun_add h3 n
    rw [Nat.add_comm] at this
    exact this
  · cases hv
theorem jargs_S {E F : jE} {S as rest : List Value} (h1 : F.2.2.2.2.2.2.1 = true) (h2 : (S.take F.2.2.2.2.2.2.2).reverse = as) (h3 : S.drop F.2.2.2.2.2.2.2 = rest) (h4 : as.length = F.2.2.2.2.2.2.2) (h5 : F.2.2.2.2.1 < E.2.2.2.2.1) (h6 : (rest.map (fun v => v.category)).sum ≤ 8) (h7 : (lg_sl as).length ≤ F.2.2.1) : jargs jT0 E F true S = some (as, rest) := by
  unfold jargs
  dsimp only
  simp only [if_true, Nat.add_zero]
  rw [h2, h3, if_pos ⟨h1, h4, h5, h6, h7⟩]
theorem jargs_V {E F : jE} {S as rest : List Value} {b : Nat} {fs : List (Nat × Nat)} (hs : jSH[b]? = some (Sum.inl (F.2.2.2.2.2.1, fs))) (h1 : F.2.2.2.2.2.2.1 = false) (h2 : (S.take (F.2.2.2.2.2.2.2 + 1)).reverse = .ref b :: as) (h3 : S.drop (F.2.2.2.2.2.2.2 + 1) = rest) (h4 : as.length = F.2.2.2.2.2.2.2) (h5 : F.2.2.2.2.1 < E.2.2.2.2.1) (h6 : (rest.map (fun v => v.category)).sum ≤ 8) (h7 : (lg_sl (.ref b :: as)).length ≤ F.2.2.1) : jargs jT0 E F false S = some (.ref b :: as, rest) := by
  unfold jargs
  dsimp only
  simp only [Bool.false_eq_true, if_false]
  rw [h2, h3, if_pos ⟨h1, by rw [List.length_cons, h4], h5, h6, h7⟩]
  dsimp only
  rw [show jT0.1[b]? = some (Sum.inl (F.2.2.2.2.2.1, fs)) from hs]
  dsimp only
  rw [if_pos rfl]
section EvSteps
variable {y pc q t : Nat} {E : jE} {L : List (Nat × Value)} {S : List Value} {M : jM} {K : jK} {off : Int}
theorem jdr_none {c : jC} (h : jLV y c.1 = none) : jdr jT0 y c = c := by
  have h' : jT0.2.2.2.2.2.2.1 y c.1 = none := h
  show (c.1, jkp (jT0.2.2.2.2.2.2.1 y c.1) c.2.1, c.2.2) = c
  rw [h']
  rfl
theorem e_go {S' : List Value} {b : Bool} {ins : Instr} (hE : jMT y = some E) (hi : jMI y pc = some ins) (hl : jLV y pc = none) (h : jone jT0 E ins (pc, L, S, M) = jgo (pc, L, S, M) S' b off) (ht : jtg pc off = some t) (hq : pc + 3 = q) (kt : b = true → jEv y (t, L, S', M) K) (kf : b = false → jEv y (q, L, S', M) K) : jEv y (pc, L, S, M) K := by
  refine e_one (d := (if b then t else pc + 3, L, S', M)) hE hi ?_ ?_
  · rw [jdr_none hl, h]
    unfold jgo
    rw [show jtg (pc, L, S, M).1 off = some t from ht]
  · cases b with
    | true => exact kt rfl
    | false => rw [hq]; exact kf rfl
theorem e_if_eq {a : Int32} (hE : jMT y = some E) (hi : jMI y pc = some (.ifCond .eq off)) (hl : jLV y pc = none) (ht : jtg pc off = some t) (hq : pc + 3 = q) (kt : a = 0 → jEv y (t, L, S, M) K) (kf : ¬ a = 0 → jEv y (q, L, S, M) K) : jEv y (pc, L, .int a :: S, M) K :=
  e_go (b := decide (a = 0)) hE hi hl rfl ht hq (fun h => kt (of_decide_eq_true h)) (fun h => kf (of_decide_eq_false h))
theorem e_if_ne {a : Int32} (hE : jMT y = some E) (hi : jMI y pc = some (.ifCond .ne off)) (hl : jLV y pc = none) (ht : jtg pc off = some t) (hq : pc + 3 = q) (kt : ¬ a = 0 → jEv y (t, L, S, M) K) (kf : a = 0 → jEv y (q, L, S, M) K) : jEv y (pc, L, .int a :: S, M) K :=
  e_go (b := !decide (a = 0)) hE hi hl rfl ht hq (fun h => kt (by simpa using h)) (fun h => kf (by simpa using h))
theorem e_if_lt {a : Int32} (hE : jMT y = some E) (hi : jMI y pc = some (.ifCond .lt off)) (hl : jLV y pc = none) (ht : jtg pc off = some t) (hq : pc + 3 = q) (kt : a < 0 → jEv y (t, L, S, M) K) (kf : ¬ a < 0 → jEv y (q, L, S, M) K) : jEv y (pc, L, .int a :: S, M) K :=
  e_go (b := decide (a < 0)) hE hi hl rfl ht hq (fun h => kt (of_decide_eq_true h)) (fun h => kf (of_decide_eq_false h))
theorem e_if_ge {a : Int32} (hE : jMT y = some E) (hi : jMI y pc = some (.ifCond .ge off)) (hl : jLV y pc = none) (ht : jtg pc off = some t) (hq : pc + 3 = q) (kt : 0 ≤ a → jEv y (t, L, S, M) K) (kf : ¬ 0 ≤ a → jEv y (q, L, S, M) K) : jEv y (pc, L, .int a :: S, M) K :=
  e_go (b := decide (0 ≤ a)) hE hi hl rfl ht hq (fun h => kt (of_decide_eq_true h)) (fun h => kf (of_decide_eq_false h))
theorem e_if_gt {a : Int32} (hE : jMT y = some E) (hi : jMI y pc = some (.ifCond .gt off)) (hl : jLV y pc = none) (ht : jtg pc off = some t) (hq : pc + 3 = q) (kt : 0 < a → jEv y (t, L, S, M) K) (kf : ¬ 0 < a → jEv y (q, L, S, M) K) : jEv y (pc, L, .int a :: S, M) K :=
  e_go (b := decide (0 < a)) hE hi hl rfl ht hq (fun h => kt (of_decide_eq_true h)) (fun h => kf (of_decide_eq_false h))
theorem e_if_le {a : Int32} (hE : jMT y = some E) (hi : jMI y pc = some (.ifCond .le off)) (hl : jLV y pc = none) (ht : jtg pc off = some t) (hq : pc + 3 = q) (kt : a ≤ 0 → jEv y (t, L, S, M) K) (kf : ¬ a ≤ 0 → jEv y (q, L, S, M) K) : jEv y (pc, L, .int a :: S, M) K :=
  e_go (b := decide (a ≤ 0)) hE hi hl rfl ht hq (fun h => kt (of_decide_eq_true h)) (fun h => kf (of_decide_eq_false h))
theorem e_ic_eq {a b : Int32} (hE : jMT y = some E) (hi : jMI y pc = some (.if_icmp .eq off)) (hl : jLV y pc = none) (ht : jtg pc off = some t) (hq : pc + 3 = q) (kt : a = b → jEv y (t, L, S, M) K) (kf : ¬ a = b → jEv y (q, L, S, M) K) : jEv y (pc, L, .int b :: .int a :: S, M) K :=
  e_go (b := decide (a = b)) hE hi hl rfl ht hq (fun h => kt (of_decide_eq_true h)) (fun h => kf (of_decide_eq_false h))
theorem e_ic_ne {a b : Int32} (hE : jMT y = some E) (hi : jMI y pc = some (.if_icmp .ne off)) (hl : jLV y pc = none) (ht : jtg pc off = some t) (hq : pc + 3 = q) (kt : ¬ a = b → jEv y (t, L, S, M) K) (kf : a = b → jEv y (q, L, S, M) K) : jEv y (pc, L, .int b :: .int a :: S, M) K :=
  e_go (b := !decide (a = b)) hE hi hl rfl ht hq (fun h => kt (by simpa using h)) (fun h => kf (by simpa using h))
theorem e_ic_lt {a b : Int32} (hE : jMT y = some E) (hi : jMI y pc = some (.if_icmp .lt off)) (hl : jLV y pc = none) (ht : jtg pc off = some t) (hq : pc + 3 = q) (kt : a < b → jEv y (t, L, S, M) K) (kf : ¬ a < b → jEv y (q, L, S, M) K) : jEv y (pc, L, .int b :: .int a :: S, M) K :=
  e_go (b := decide (a < b)) hE hi hl rfl ht hq (fun h => kt (of_decide_eq_true h)) (fun h => kf (of_decide_eq_false h))
theorem e_ic_ge {a b : Int32} (hE : jMT y = some E) (hi : jMI y pc = some (.if_icmp .ge off)) (hl : jLV y pc = none) (ht : jtg pc off = some t) (hq : pc + 3 = q) (kt : b ≤ a → jEv y (t, L, S, M) K) (kf : ¬ b ≤ a → jEv y (q, L, S, M) K) : jEv y (pc, L, .int b :: .int a :: S, M) K :=
  e_go (b := decide (b ≤ a)) hE hi hl rfl ht hq (fun h => kt (of_decide_eq_true h)) (fun h => kf (of_decide_eq_false h))
theorem e_ic_gt {a b : Int32} (hE : jMT y = some E) (hi : jMI y pc = some (.if_icmp .gt off)) (hl : jLV y pc = none) (ht : jtg pc off = some t) (hq : pc + 3 = q) (kt : b < a → jEv y (t, L, S, M) K) (kf : ¬ b < a → jEv y (q, L, S, M) K) : jEv y (pc, L, .int b :: .int a :: S, M) K :=
  e_go (b := decide (b < a)) hE hi hl rfl ht hq (fun h => kt (of_decide_eq_true h)) (fun h => kf (of_decide_eq_false h))
theorem e_ic_le {a b : Int32} (hE : jMT y = some E) (hi : jMI y pc = some (.if_icmp .le off)) (hl : jLV y pc = none) (ht : jtg pc off = some t) (hq : pc + 3 = q) (kt : a ≤ b → jEv y (t, L, S, M) K) (kf : ¬ a ≤ b → jEv y (q, L, S, M) K) : jEv y (pc, L, .int b :: .int a :: S, M) K :=
  e_go (b := decide (a ≤ b)) hE hi hl rfl ht hq (fun h => kt (of_decide_eq_true h)) (fun h => kf (of_decide_eq_false h))
/-! places of arrays -/
theorem jix_of {a n ty : Nat} {rs : List Nat} {i : Int32} (hs : jSH[a]? = some (Sum.inr (ty, n, rs))) (hin : ¬ (i < 0 ∨ n ≤ i.toNatClampNeg)) : jix jSH a i = some (ty, i.toNatClampNeg, rs) := by
  unfold jix
  rw [hs]
  dsimp only
  rw [if_neg hin]
theorem e_iald {a n : Nat} {rs : List Nat} {i : Int32} (hE : jMT y = some E) (hi : jMI y pc = some .iaload) (hl : jLV y pc = none) (hq : pc + 1 = q) (hs : jSH[a]? = some (Sum.inr (0, n, rs))) (hin : ¬ (i < 0 ∨ n ≤ i.toNatClampNeg)) (k : jEv y (q, L, .int (M.1 a i.toNatClampNeg) :: S, M) K) : jEv y (pc, L, .int i :: .ref a :: S, M) K := by
  refine e_one hE hi ?_ k
  rw [jdr_none hl]
  show (match jix jSH a i with | some (t, k, _) => if t = 0 then some (pc + 1, L, Value.int (M.1 a k) :: S, M) else none | none => none) = _
  rw [jix_of hs hin, hq]
  rfl
theorem e_bald {a n : Nat} {rs : List Nat} {i : Int32} (hE : jMT y = some E) (hi : jMI y pc = some .baload) (hl : jLV y pc = none) (hq : pc + 1 = q) (hs : jSH[a]? = some (Sum.inr (1, n, rs))) (hin : ¬ (i < 0 ∨ n ≤ i.toNatClampNeg)) (k : jEv y (q, L, .int (M.1 a i.toNatClampNeg) :: S, M) K) : jEv y (pc, L, .int i :: .ref a :: S, M) K := by
  refine e_one hE hi ?_ k
  rw [jdr_none hl]
  show (match jix jSH a i with | some (t, k, _) => if t = 1 ∨ t = 2 then some (pc + 1, L, Value.int (M.1 a k) :: S, M) else none | none => none) = _
  rw [jix_of hs hin, hq]
  rfl
theorem e_zald {a n : Nat} {rs : List Nat} {i : Int32} (hE : jMT y = some E) (hi : jMI y pc = some .baload) (hl : jLV y pc = none) (hq : pc + 1 = q) (hs : jSH[a]? = some (Sum.inr (2, n, rs))) (hin : ¬ (i < 0 ∨ n ≤ i.toNatClampNeg)) (k : jEv y (q, L, .int (M.1 a i.toNatClampNeg) :: S, M) K) : jEv y (pc, L, .int i :: .ref a :: S, M) K := by
  refine e_one hE hi ?_ k
  rw [jdr_none hl]
  show (match jix jSH a i with | some (t, k, _) => if t = 1 ∨ t = 2 then some (pc + 1, L, Value.int (M.1 a k) :: S, M) else none | none => none) = _
  rw [jix_of hs hin, hq]
  rfl
theorem e_lald {a n : Nat} {rs : List Nat} {i : Int32} (hE : jMT y = some E) (hi : jMI y pc = some .laload) (hl : jLV y pc = none) (hq : pc + 1 = q) (hs : jSH[a]? = some (Sum.inr (3, n, rs))) (hin : ¬ (i < 0 ∨ n ≤ i.toNatClampNeg)) (k : jEv y (q, L, .long (M.2 a i.toNatClampNeg) :: S, M) K) : jEv y (pc, L, .int i :: .ref a :: S, M) K := by
  refine e_one hE hi ?_ k
  rw [jdr_none hl]
  show (match jix jSH a i with | some (t, k, _) => if t = 3 then some (pc + 1, L, Value.long (M.2 a k) :: S, M) else none | none => none) = _
  rw [jix_of hs hin, hq]
  rfl
theorem e_aald {a n r ty : Nat} {rs : List Nat} {i : Int32} (hE : jMT y = some E) (hi : jMI y pc = some .aaload) (hl : jLV y pc = none) (hq : pc + 1 = q) (hs : jSH[a]? = some (Sum.inr (ty, n, rs))) (hty : 4 ≤ ty ∧ ty < 8) (hin : ¬ (i < 0 ∨ n ≤ i.toNatClampNeg)) (hr : rs[i.toNatClampNeg]? = some r) (k : jEv y (q, L, .ref r :: S, M) K) : jEv y (pc, L, .int i :: .ref a :: S, M) K := by
  refine e_one hE hi ?_ k
  rw [jdr_none hl]
  show (match jix jSH a i with | some (t, k, rs) => if 4 ≤ t ∧ t < 8 then (match rs[k]? with | some r => some (pc + 1, L, Value.ref r :: S, M) | none => none) else none | none => none) = _
  rw [jix_of hs hin]
  dsimp only
  rw [if_pos hty, hr, hq]
theorem e_iast {a n : Nat} {rs : List Nat} {i x : Int32} (hE : jMT y = some E) (hi : jMI y pc = some .iastore) (hl : jLV y pc = none) (hq : pc + 1 = q) (hs : jSH[a]? = some (Sum.inr (0, n, rs))) (hin : ¬ (i < 0 ∨ n ≤ i.toNatClampNeg)) (k : jEv y (q, L, S, jsi M a i.toNatClampNeg x) K) : jEv y (pc, L, .int x :: .int i :: .ref a :: S, M) K := by
  refine e_one hE hi ?_ k
  rw [jdr_none hl]
  show (match jix jSH a i with | some (t, k, _) => if t = 0 then some (pc + 1, L, S, jsi M a k x) else none | none => none) = _
  rw [jix_of hs hin, hq]
  rfl
theorem e_bast {a n : Nat} {rs : List Nat} {i x : Int32} (hE : jMT y = some E) (hi : jMI y pc = some .bastore) (hl : jLV y pc = none) (hq : pc + 1 = q) (hs : jSH[a]? = some (Sum.inr (1, n, rs))) (hin : ¬ (i < 0 ∨ n ≤ i.toNatClampNeg)) (k : jEv y (q, L, S, jsi M a i.toNatClampNeg x.toInt8.toInt32) K) : jEv y (pc, L, .int x :: .int i :: .ref a :: S, M) K := by
  refine e_one hE hi ?_ k
  rw [jdr_none hl]
  show (match jix jSH a i with | some (t, k, _) => if t = 1 then some (pc + 1, L, S, jsi M a k x.toInt8.toInt32) else if t = 2 then some (pc + 1, L, S, jsi M a k (vp_nar .boolean x)) else none | none => none) = _
  rw [jix_of hs hin, hq]
  rfl
theorem e_zast {a n : Nat} {rs : List Nat} {i x : Int32} (hE : jMT y = some E) (hi : jMI y pc = some .bastore) (hl : jLV y pc = none) (hq : pc + 1 = q) (hs : jSH[a]? = some (Sum.inr (2, n, rs))) (hin : ¬ (i < 0 ∨ n ≤ i.toNatClampNeg)) (k : jEv y (q, L, S, jsi M a i.toNatClampNeg (vp_nar .boolean x)) K) : jEv y (pc, L, .int x :: .int i :: .ref a :: S, M) K := by
  refine e_one hE hi ?_ k
  rw [jdr_none hl]
  show (match jix jSH a i with | some (t, k, _) => if t = 1 then some (pc + 1, L, S, jsi M a k x.toInt8.toInt32) else if t = 2 then some (pc + 1, L, S, jsi M a k (vp_nar .boolean x)) else none | none => none) = _
  rw [jix_of hs hin, hq]
  rfl
theorem e_last {a n : Nat} {rs : List Nat} {i : Int32} {x : Int64} (hE : jMT y = some E) (hi : jMI y pc = some .lastore) (hl : jLV y pc = none) (hq : pc + 1 = q) (hs : jSH[a]? = some (Sum.inr (3, n, rs))) (hin : ¬ (i < 0 ∨ n ≤ i.toNatClampNeg)) (k : jEv y (q, L, S, jsl M a i.toNatClampNeg x) K) : jEv y (pc, L, .long x :: .int i :: .ref a :: S, M) K := by
  refine e_one hE hi ?_ k
  rw [jdr_none hl]
  show (match jix jSH a i with | some (t, k, _) => if t = 3 then some (pc + 1, L, S, jsl M a k x) else none | none => none) = _
  rw [jix_of hs hin, hq]
  rfl
/-! divisions -/
theorem e_idiv {a b : Int32} (hE : jMT y = some E) (hi : jMI y pc = some .idiv) (hl : jLV y pc = none) (hq : pc + 1 = q) (h0 : ¬ b = 0) (k : jEv y (q, L, .int (a / b) :: S, M) K) : jEv y (pc, L, .int b :: .int a :: S, M) K := by
  refine e_one hE hi ?_ k
  rw [jdr_none hl]
  show (if b = 0 then none else some (pc + 1, L, Value.int (a / b) :: S, M)) = _
  rw [if_neg h0, hq]
theorem e_irem {a b : Int32} (hE : jMT y = some E) (hi : jMI y pc = some .irem) (hl : jLV y pc = none) (hq : pc + 1 = q) (h0 : ¬ b = 0) (k : jEv y (q, L, .int (a - a / b * b) :: S, M) K) : jEv y (pc, L, .int b :: .int a :: S, M) K := by
  refine e_one hE hi ?_ k
  rw [jdr_none hl]
  show (if b = 0 then none else some (pc + 1, L, Value.int (a - a / b * b) :: S, M)) = _
  rw [if_neg h0, hq]
theorem e_ldiv {a b : Int64} (hE : jMT y = some E) (hi : jMI y pc = some .ldiv) (hl : jLV y pc = none) (hq : pc + 1 = q) (h0 : ¬ b = 0) (k : jEv y (q, L, .long (a / b) :: S, M) K) : jEv y (pc, L, .long b :: .long a :: S, M) K := by
  refine e_one hE hi ?_ k
  rw [jdr_none hl]
  show (if b = 0 then none else some (pc + 1, L, Value.long (a / b) :: S, M)) = _
  rw [if_neg h0, hq]
theorem e_lrem {a b : Int64} (hE : jMT y = some E) (hi : jMI y pc = some .lrem) (hl : jLV y pc = none) (hq : pc + 1 = q) (h0 : ¬ b = 0) (k : jEv y (q, L, .long (a - a / b * b) :: S, M) K) : jEv y (pc, L, .long b :: .long a :: S, M) K := by
  refine e_one hE hi ?_ k
  rw [jdr_none hl]
  show (if b = 0 then none else some (pc + 1, L, Value.long (a - a / b * b) :: S, M)) = _
  rw [if_neg h0, hq]
/-! fields of an object that isn't known by its number -/
theorem e_get {a i ci k : Nat} {fs : List (Nat × Nat)} {fd : Nat × Nat} {ne : Bool} {v : Value} (hE : jMT y = some E) (hi : jMI y pc = some (.getfield i)) (hl : jLV y pc = none) (hq : pc + 3 = q) (hf : jFT E.2.2.2.2.2.1 i = some (ci, k, ne)) (hs : jSH[a]? = some (Sum.inl (ci, fs))) (hk : fs[k]? = some fd) (hv : jfv M a k fd = v) (kk : jEv y (q, L, v :: S, M) K) : jEv y (pc, L, .ref a :: S, M) K := by
  refine e_one hE hi ?_ kk
  rw [jdr_none hl]
  show (match jFT E.2.2.2.2.2.1 i with
    | some f => (match jget jSH M a f.1 f.2.1 with | some v => some (pc + 3, L, v :: S, M) | none => none)
    | none => none) = _
  rw [hf]
  dsimp only
  unfold jget
  rw [hs]
  dsimp only
  rw [if_pos rfl, hk]
  dsimp only
  rw [hv, hq]
theorem e_put {a i ci k : Nat} {fs : List (Nat × Nat)} {fd : Nat × Nat} {ne : Bool} {v : Value} {M' : jM} (hE : jMT y = some E) (hi : jMI y pc = some (.putfield i)) (hl : jLV y pc = none) (hq : pc + 3 = q) (hf : jFT E.2.2.2.2.2.1 i = some (ci, k, ne)) (hs : jSH[a]? = some (Sum.inl (ci, fs))) (hk : fs[k]? = some fd)
    (hv : (match v with
        | .int x => if fd.1 = 0 then some (jsi M a k x) else if fd.1 = 3 then (if x = 0 ∨ x = 1 then some (jsi M a k x) else none) else none
        | .long x => if fd.1 = 1 then some (jsl M a k x) else none
        | _ => none) = some M') (kk : jEv y (q, L, S, M') K) : jEv y (pc, L, v :: .ref a :: S, M) K := by
  refine e_one hE hi ?_ kk
  rw [jdr_none hl]
  show (match jFT E.2.2.2.2.2.1 i with
    | some f => (match jput jSH M a f.1 f.2.1 v with | some M => some (pc + 3, L, S, M) | none => none)
    | none => none) = _
  rw [hf]
  dsimp only
  have e1 : jput jSH M a ci k v = some M' := by
    unfold jput
    rw [hs]
    dsimp only
    rw [if_pos rfl, hk]
    exact hv
  rw [e1, hq]
/-! two longs held against one another -/
theorem e_lc {co : Jvm.ClassFile.Cond} {a b : Int64} {P : Prop} {pc1 : Nat} (hE : jMT y = some E) (hi : jMI y pc = some .lcmp) (hl : jLV y pc = none) (hp : pc + 1 = pc1) (hi2 : jMI y pc1 = some (.ifCond co off)) (hl2 : jLV y pc1 = none) {bb : Bool} (hb : jone jT0 E (.ifCond co off) (pc1, L, .int (lg_cmp a b) :: S, M) = jgo (pc1, L, .int (lg_cmp a b) :: S, M) S bb off) (hP : bb = true ↔ P) (ht : jtg pc1 off = some t) (hq : pc1 + 3 = q) (kt : P → jEv y (t, L, S, M) K) (kf : ¬ P → jEv y (q, L, S, M) K) : jEv y (pc, L, .long b :: .long a :: S, M) K := by
  refine e_one (d := (pc1, L, .int (lg_cmp a b) :: S, M)) hE hi ?_ ?_
  · rw [jdr_none hl, ← hp]
    rfl
  · exact e_go hE hi2 hl2 hb ht hq (fun h => kt (hP.mp h)) (fun h => kf (fun p => by rw [hP.mpr p] at h; cases h))
end EvSteps
