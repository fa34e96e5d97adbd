/-! objects that aren't known by their number: rules, likenesses, fractions, sums, rows of longs -/
theorem jEv_M {y pc : Nat} {L : List (Nat × Value)} {S : List Value} {M1 X : jM} {K : jK} (e : M1 = X) (k : jEv y (pc, L, S, M1) K) : jEv y (pc, L, S, X) K := e ▸ k
theorem jb_i {E : jE} {v : Int32} (h : E.2.2.2.1 = some .int) : jback E .ireturn [.int v] = some (some (.int v)) := by
  show (if E.2.2.2.1 = some .int ∨ (E.2.2.2.1 = some .boolean ∧ (v = 0 ∨ v = 1)) then some (some (Value.int v)) else none) = _
  rw [if_pos (Or.inl h)]
theorem jb_z {E : jE} {v : Int32} (h : E.2.2.2.1 = some .boolean) (hv : v = 0 ∨ v = 1) : jback E .ireturn [.int v] = some (some (.int v)) := by
  show (if E.2.2.2.1 = some .int ∨ (E.2.2.2.1 = some .boolean ∧ (v = 0 ∨ v = 1)) then some (some (Value.int v)) else none) = _
  rw [if_pos (Or.inr ⟨h, hv⟩)]
theorem jb_l {E : jE} {v : Int64} (h : E.2.2.2.1 = some .long) : jback E .lreturn [.long v] = some (some (.long v)) := by
  show (if E.2.2.2.1 = some .long then some (some (Value.long v)) else none) = _
  rw [if_pos h]
theorem lc_eq (a b : Int64) : decide (lg_cmp a b = 0) = true ↔ a = b := decide_eq_true_iff.trans (lg_cmp_eq a b)
theorem lc_ne (a b : Int64) : (!decide (lg_cmp a b = 0)) = true ↔ ¬ a = b := by
  rw [Bool.not_eq_true', decide_eq_false_iff_not, lg_cmp_eq]
theorem lc_lt (a b : Int64) : decide (lg_cmp a b < 0) = true ↔ a < b := decide_eq_true_iff.trans (lg_cmp_lt a b)
theorem lc_ge (a b : Int64) : decide (0 ≤ lg_cmp a b) = true ↔ b ≤ a := decide_eq_true_iff.trans (lg_cmp_ge a b)
theorem lc_gt (a b : Int64) : decide (0 < lg_cmp a b) = true ↔ b < a := decide_eq_true_iff.trans (lg_cmp_gt a b)
theorem lc_le (a b : Int64) : decide (lg_cmp a b ≤ 0) = true ↔ a ≤ b := decide_eq_true_iff.trans (lg_cmp_le a b)
def jRu (a : Nat) : Prop := ∃ j : Nat, j < 6 ∧ a = 4 + 4 * j
def jLi (a : Nat) : Prop := ∃ j : Nat, j < 6 ∧ a = 29 + 2 * j
def jFr (a : Nat) : Prop := a = 60 ∨ a = 61 ∨ a = 63 ∨ a = 64 ∨ a = 65 ∨ a = 66
def jSu (a : Nat) : Prop := a = 53 ∨ a = 55
def jRw (a : Nat) : Prop := ∃ j : Nat, j < 4 ∧ a = 46 + j
theorem jn6 {P : Nat → Prop} (h0 : P 0) (h1 : P 1) (h2 : P 2) (h3 : P 3) (h4 : P 4) (h5 : P 5) {j : Nat} (hj : j < 6) : P j := by
  match j, hj with
  | 0, _ => exact h0
  | 1, _ => exact h1
  | 2, _ => exact h2
  | 3, _ => exact h3
  | 4, _ => exact h4
  | 5, _ => exact h5
theorem jn4 {P : Nat → Prop} (h0 : P 0) (h1 : P 1) (h2 : P 2) (h3 : P 3) {j : Nat} (hj : j < 4) : P j := by
  match j, hj with
  | 0, _ => exact h0
  | 1, _ => exact h1
  | 2, _ => exact h2
  | 3, _ => exact h3
theorem jn3 {P : Nat → Prop} (h0 : P 0) (h1 : P 1) (h2 : P 2) {j : Nat} (hj : j < 3) : P j := by
  match j, hj with
  | 0, _ => exact h0
  | 1, _ => exact h1
  | 2, _ => exact h2
theorem jRu_o {a : Nat} (h : jRu a) : jSH[a]? = some (Sum.inl (5, [(3, 0), (0, 0), (0, 0), (0, 0), (0, 0), (2, a + 1), (2, a + 2), (2, a + 3)])) := by
  obtain ⟨j, hj, rfl⟩ := h
  exact jn6 (P := fun j => jSH[4 + 4 * j]? = some (Sum.inl (5, [(3, 0), (0, 0), (0, 0), (0, 0), (0, 0), (2, 4 + 4 * j + 1), (2, 4 + 4 * j + 2), (2, 4 + 4 * j + 3)]))) rfl rfl rfl rfl rfl rfl hj
theorem jRu_1 {a : Nat} (h : jRu a) : jSH[a + 1]? = some (Sum.inr (0, 4, [])) := by
  obtain ⟨j, hj, rfl⟩ := h
  exact jn6 (P := fun j => jSH[4 + 4 * j + 1]? = some (Sum.inr (0, 4, []))) rfl rfl rfl rfl rfl rfl hj
theorem jRu_2 {a : Nat} (h : jRu a) : jSH[a + 2]? = some (Sum.inr (0, 4, [])) := by
  obtain ⟨j, hj, rfl⟩ := h
  exact jn6 (P := fun j => jSH[4 + 4 * j + 2]? = some (Sum.inr (0, 4, []))) rfl rfl rfl rfl rfl rfl hj
theorem jRu_3 {a : Nat} (h : jRu a) : jSH[a + 3]? = some (Sum.inr (3, 4, [])) := by
  obtain ⟨j, hj, rfl⟩ := h
  exact jn6 (P := fun j => jSH[4 + 4 * j + 3]? = some (Sum.inr (3, 4, []))) rfl rfl rfl rfl rfl rfl hj
theorem jin_lt {i : Int32} {n : Nat} (h : ¬ (i < 0 ∨ n ≤ i.toNatClampNeg)) : i.toNatClampNeg < n := Nat.not_le.mp (fun q => h (Or.inr q))
theorem jRu_i {i : Int32} (h : ¬ (i < 0 ∨ 6 ≤ i.toNatClampNeg)) : jRu (4 + 4 * i.toNatClampNeg) := ⟨_, jin_lt h, rfl⟩
theorem jRu_l {i : Int32} (h : ¬ (i < 0 ∨ 6 ≤ i.toNatClampNeg)) : ([4, 8, 12, 16, 20, 24] : List Nat)[i.toNatClampNeg]? = some (4 + 4 * i.toNatClampNeg) :=
  jn6 (P := fun j => ([4, 8, 12, 16, 20, 24] : List Nat)[j]? = some (4 + 4 * j)) rfl rfl rfl rfl rfl rfl (jin_lt h)
theorem jLi_o {a : Nat} (h : jLi a) : jSH[a]? = some (Sum.inl (3, [(2, a + 1), (0, 0)])) := by
  obtain ⟨j, hj, rfl⟩ := h
  exact jn6 (P := fun j => jSH[29 + 2 * j]? = some (Sum.inl (3, [(2, 29 + 2 * j + 1), (0, 0)]))) rfl rfl rfl rfl rfl rfl hj
theorem jLi_1 {a : Nat} (h : jLi a) : jSH[a + 1]? = some (Sum.inr (0, 5, [])) := by
  obtain ⟨j, hj, rfl⟩ := h
  exact jn6 (P := fun j => jSH[29 + 2 * j + 1]? = some (Sum.inr (0, 5, []))) rfl rfl rfl rfl rfl rfl hj
theorem jLi_i {i : Int32} (h : ¬ (i < 0 ∨ 6 ≤ i.toNatClampNeg)) : jLi (29 + 2 * i.toNatClampNeg) := ⟨_, jin_lt h, rfl⟩
theorem jLi_l {i : Int32} (h : ¬ (i < 0 ∨ 6 ≤ i.toNatClampNeg)) : ([29, 31, 33, 35, 37, 39] : List Nat)[i.toNatClampNeg]? = some (29 + 2 * i.toNatClampNeg) :=
  jn6 (P := fun j => ([29, 31, 33, 35, 37, 39] : List Nat)[j]? = some (29 + 2 * j)) rfl rfl rfl rfl rfl rfl (jin_lt h)
theorem jFr_o {a : Nat} (h : jFr a) : jSH[a]? = some (Sum.inl (1, [(1, 0), (1, 0)])) := by
  rcases h with rfl | rfl | rfl | rfl | rfl | rfl <;> rfl
theorem jFr_i {i : Int32} (h : ¬ (i < 0 ∨ 3 ≤ i.toNatClampNeg)) : jFr (63 + i.toNatClampNeg) :=
  jn3 (P := fun j => jFr (63 + j)) (Or.inr (Or.inr (Or.inl rfl))) (Or.inr (Or.inr (Or.inr (Or.inl rfl)))) (Or.inr (Or.inr (Or.inr (Or.inr (Or.inl rfl))))) (jin_lt h)
theorem jFr_l {i : Int32} (h : ¬ (i < 0 ∨ 3 ≤ i.toNatClampNeg)) : ([63, 64, 65] : List Nat)[i.toNatClampNeg]? = some (63 + i.toNatClampNeg) :=
  jn3 (P := fun j => ([63, 64, 65] : List Nat)[j]? = some (63 + j)) rfl rfl rfl (jin_lt h)
theorem jSu_o {a : Nat} (h : jSu a) : jSH[a]? = some (Sum.inl (2, [(2, a + 1), (1, 0)])) := by
  rcases h with rfl | rfl <;> rfl
theorem jSu_1 {a : Nat} (h : jSu a) : jSH[a + 1]? = some (Sum.inr (3, 9, [])) := by
  rcases h with rfl | rfl <;> rfl
theorem jRw_o {a : Nat} (h : jRw a) : jSH[a]? = some (Sum.inr (3, 4, [])) := by
  obtain ⟨j, hj, rfl⟩ := h
  exact jn4 (P := fun j => jSH[46 + j]? = some (Sum.inr (3, 4, []))) rfl rfl rfl rfl hj
theorem jRw_i {i : Int32} (h : ¬ (i < 0 ∨ 4 ≤ i.toNatClampNeg)) : jRw (46 + i.toNatClampNeg) := ⟨_, jin_lt h, rfl⟩
theorem jRw_l {i : Int32} (h : ¬ (i < 0 ∨ 4 ≤ i.toNatClampNeg)) : ([46, 47, 48, 49] : List Nat)[i.toNatClampNeg]? = some (46 + i.toNatClampNeg) :=
  jn4 (P := fun j => ([46, 47, 48, 49] : List Nat)[j]? = some (46 + j)) rfl rfl rfl rfl (jin_lt h)
theorem e_tsw5 {y pc td t0 t1 t2 t3 t4 : Nat} {E : jE} {L : List (Nat × Value)} {S : List Value} {M : jM} {K : jK} {x : Int32} {d o0 o1 o2 o3 o4 : Int} (hE : jMT y = some E) (hi : jMI y pc = some (.tableswitch d 0 4 #[o0, o1, o2, o3, o4])) (hl : jLV y pc = none) (hd : jtg pc d = some td) (h0 : jtg pc o0 = some t0) (h1 : jtg pc o1 = some t1) (h2 : jtg pc o2 = some t2) (h3 : jtg pc o3 = some t3) (h4 : jtg pc o4 = some t4)
    (k0 : x = 0 → jEv y (t0, L, S, M) K) (k1 : x = 1 → jEv y (t1, L, S, M) K) (k2 : x = 2 → jEv y (t2, L, S, M) K) (k3 : x = 3 → jEv y (t3, L, S, M) K) (k4 : x = 4 → jEv y (t4, L, S, M) K) (kd : (¬ x = 0 ∧ ¬ x = 1 ∧ ¬ x = 2 ∧ ¬ x = 3 ∧ ¬ x = 4) → jEv y (td, L, S, M) K) : jEv y (pc, L, .int x :: S, M) K := by
  have go : ∀ {t : Nat} {off : Int}, jtg pc off = some t → jEv y (t, L, S, M) K → jone jT0 E (.tableswitch d 0 4 #[o0, o1, o2, o3, o4]) (pc, L, .int x :: S, M) = jgo (pc, L, .int x :: S, M) S true off → jEv y (pc, L, .int x :: S, M) K := by
    intro t off ht k h
    exact e_go (q := pc + 3) hE hi hl h ht rfl (fun _ => k) (fun q => by cases q)
  by_cases e0 : x = 0
  · subst e0; exact go h0 (k0 rfl) rfl
  · by_cases e1 : x = 1
    · subst e1; exact go h1 (k1 rfl) rfl
    · by_cases e2 : x = 2
      · subst e2; exact go h2 (k2 rfl) rfl
      · by_cases e3 : x = 3
        · subst e3; exact go h3 (k3 rfl) rfl
        · by_cases e4 : x = 4
          · subst e4; exact go h4 (k4 rfl) rfl
          · refine go hd (kd ⟨e0, e1, e2, e3, e4⟩) ?_
            have hx : x.toInt < 0 ∨ 4 < x.toInt := by
              rw [← Int32.toInt_inj] at e0 e1 e2 e3 e4
              simp only [show (0 : Int32).toInt = 0 from rfl, show (1 : Int32).toInt = 1 from rfl, show (2 : Int32).toInt = 2 from rfl, show (3 : Int32).toInt = 3 from rfl, show (4 : Int32).toInt = 4 from rfl] at e0 e1 e2 e3 e4
              omega
            show (if x.toInt < 0 ∨ 4 < x.toInt then jgo (pc, L, .int x :: S, M) S true d else _) = _
            rw [if_pos hx]
