/-! the model's determinant: every way to choose columns -/
def dcol (n w k : Nat) : Nat := w / n ^ k % n
def dgi (c : Nat → Nat) (k : Nat) (s : Int) : Nat → Int
  | 0 => s
  | l + 1 => if c l = c k then 0 else if c k < c l then -(dgi c k s l) else dgi c k s l
def dgo (c : Nat → Nat) : Nat → Int
  | 0 => 1
  | k + 1 => dgi c k (dgo c k) k
def dpr (sq : Nat → Nat → Int64) (c : Nat → Nat) (s : Int64) : Nat → Int64
  | 0 => s
  | k + 1 => dpr sq c s k * sq k (c k)
def dtm (sq : Nat → Nat → Int64) (n w : Nat) : Int64 := dpr sq (dcol n w) (Int64.ofInt (dgo (dcol n w) n)) n
def dM (sq : Nat → Nat → Int64) (n : Nat) : Int64 := sL (dtm sq n) (n ^ n)
def dFr (M0 M : jM) : Prop := M.2 = M0.2 ∧ ∀ a k, a ≠ 89 → M.1 a k = M0.1 a k
theorem dFr.kp {M0 M : jM} (h : dFr M0 M) : iKp M0 M := ⟨fun a k _ _ _ z _ _ => h.2 a k z, fun a k _ => by rw [h.1]⟩
theorem dpr_0 {sq : Nat → Nat → Int64} {c : Nat → Nat} {s : Int64} {k : Nat} (h : dpr sq c s k = 0) : ∀ d, dpr sq c s (k + d) = 0
  | 0 => h
  | d + 1 => by
    show dpr sq c s (k + d) * sq (k + d) (c (k + d)) = 0
    rw [dpr_0 h d, Int64.zero_mul]
theorem dcol_lt {n w k : Nat} (h : 1 ≤ n) : dcol n w k < n := Nat.mod_lt _ h
theorem m_det151 {K : jK} {M : jM} {n w N : Nat} {s x3 : Int64} (hn : n ≤ 5) (hc : ∀ i, i < n → M.1 89 i = nI (dcol n w i)) (nx : jEv nX8_determinant (24, [(0, .ref 67), (1, .int (nI n)), (2, .int (nI N)), (3, .long (x3 + dpr (fun i j => M.2 88 (5 * i + j)) (dcol n w) s n)), (5, .int (nI (w + 1)))], [], M) K) : ∀ (d k : Nat), k + d = n → jEv nX8_determinant (151, [(0, .ref 67), (1, .int (nI n)), (2, .int (nI N)), (3, .long x3), (5, .int (nI w)), (7, .long (dpr (fun i j => M.2 88 (5 * i + j)) (dcol n w) s k)), (9, .int (nI k))], [], M) K := by
  intro d
  induction d with
  | zero =>
    intro k hk
    have : k = n := by omega
    subst this
    refine v_X8_determinant_151 ⟨fun _ => ?_, fun z => absurd (Int32.le_refl _) z⟩
    rw [nI_1]; exact nx
  | succ d ih =>
    intro k hk
    refine v_X8_determinant_151 ⟨fun z => absurd z (nI_ge (by omega) (by omega)), fun _ => ⟨fun z => ?_, fun z => ⟨nI_in (by omega) (by omega), ?_⟩⟩⟩
    · have := dpr_0 z (n - k)
      rw [show k + (n - k) = n by omega] at this
      rw [this] at nx
      rw [z, nI_1]; exact nx
    · have hl := dcol_lt (w := w) (k := k) (show 1 ≤ n by omega)
      have e5 : 5 * nI k + M.1 89 (nI k).toNatClampNeg = nI (5 * k + dcol n w k) := by rw [nI_clamp (by omega), hc k (by omega), show (5 : Int32) = nI 5 from rfl, pk_mul, nI_add]
      rw [e5]
      refine ⟨nI_in (by omega) (by omega), ?_⟩
      rw [nI_clamp (by omega), nI_1]
      exact ih (k + 1) (by omega)
theorem m_det81 {K : jK} {M : jM} {n w N k : Nat} {x3 : Int64} {s : Int} (hn : n ≤ 5) (hk : k < n) (hc : ∀ i, i < n → M.1 89 i = nI (dcol n w i)) (nx : jEv nX8_determinant (72, [(0, .ref 67), (1, .int (nI n)), (2, .int (nI N)), (3, .long x3), (5, .int (nI w)), (7, .long (Int64.ofInt (dgi (dcol n w) k s k))), (9, .int (nI (k + 1)))], [], M) K) : ∀ (d l : Nat), l + d = k → jEv nX8_determinant (81, [(0, .ref 67), (1, .int (nI n)), (2, .int (nI N)), (3, .long x3), (5, .int (nI w)), (7, .long (Int64.ofInt (dgi (dcol n w) k s l))), (9, .int (nI k)), (10, .int (nI l))], [], M) K := by
  intro d
  induction d with
  | zero =>
    intro l hl
    have : l = k := by omega
    subst this
    refine v_X8_determinant_81 ⟨fun _ => ?_, fun z => absurd (Int32.le_refl _) z⟩
    rw [nI_1]; exact nx
  | succ d ih =>
    intro l hl
    have inl := nI_in (c := l) (N := 5) (by omega) (by omega)
    have ink := nI_in (c := k) (N := 5) (by omega) (by omega)
    have c1 := dcol_lt (w := w) (k := k) (show 1 ≤ n by omega)
    have c2 := dcol_lt (w := w) (k := l) (show 1 ≤ n by omega)
    have go := ih (l + 1) (by omega)
    have gd : dgi (dcol n w) k s (l + 1) = if dcol n w l = dcol n w k then 0 else if dcol n w k < dcol n w l then -(dgi (dcol n w) k s l) else dgi (dcol n w) k s l := rfl
    rw [gd] at go
    refine v_X8_determinant_81 ⟨fun z => absurd z (nI_ge (by omega) (by omega)), fun _ => ⟨inl, ink, fun z => ?_, fun z => ⟨inl, ink, fun y => ?_, fun y => ?_⟩⟩⟩ <;> rw [nI_clamp (by omega), nI_clamp (by omega), hc l (by omega), hc k hk] at z
    · rw [if_pos ((nI_eq (by omega) (by omega)).mp z)] at go
      rw [nI_1]; exact go
    · rw [nI_clamp (by omega), nI_clamp (by omega), hc l (by omega), hc k hk] at y
      have y' := (nI_leI (by omega) (by omega)).mp y
      rw [if_neg (fun e => z (by rw [e])), if_neg (by omega)] at go
      rw [nI_1]; exact go
    · rw [nI_clamp (by omega), nI_clamp (by omega), hc l (by omega), hc k hk] at y
      have y' : ¬ dcol n w l ≤ dcol n w k := fun e => y ((nI_leI (by omega) (by omega)).mpr e)
      rw [if_neg (fun e => z (by rw [e])), if_pos (by omega), Int64.ofInt_neg] at go
      rw [nI_1]; exact go
theorem m_det72 {K : jK} {M : jM} {n w N : Nat} {x3 : Int64} (hn : n ≤ 5) (hc : ∀ i, i < n → M.1 89 i = nI (dcol n w i)) (nx : jEv nX8_determinant (151, [(0, .ref 67), (1, .int (nI n)), (2, .int (nI N)), (3, .long x3), (5, .int (nI w)), (7, .long (Int64.ofInt (dgo (dcol n w) n))), (9, .int 0)], [], M) K) : ∀ (d k : Nat), k + d = n → jEv nX8_determinant (72, [(0, .ref 67), (1, .int (nI n)), (2, .int (nI N)), (3, .long x3), (5, .int (nI w)), (7, .long (Int64.ofInt (dgo (dcol n w) k))), (9, .int (nI k))], [], M) K := by
  intro d
  induction d with
  | zero =>
    intro k hk
    have : k = n := by omega
    subst this
    exact v_X8_determinant_72 ⟨fun _ => nx, fun z => absurd (Int32.le_refl _) z⟩
  | succ d ih =>
    intro k hk
    refine v_X8_determinant_72 ⟨fun z => absurd z (nI_ge (by omega) (by omega)), fun _ => ?_⟩
    exact m_det81 hn (by omega) hc (ih (k + 1) (by omega)) k 0 (by omega)
theorem m_det40 {K : jK} {M0 : jM} {n w N : Nat} {x3 : Int64} (hn : n ≤ 5) (hw : w < 2 ^ 31) (nx : ∀ M, dFr M0 M → (∀ i, i < n → M.1 89 i = nI (dcol n w i)) → jEv nX8_determinant (72, [(0, .ref 67), (1, .int (nI n)), (2, .int (nI N)), (3, .long x3), (5, .int (nI w)), (7, .long 1), (9, .int 0)], [], M) K) : ∀ (d k : Nat), k + d = n → ∀ M, dFr M0 M → (∀ i, i < k → M.1 89 i = nI (dcol n w i)) → jEv nX8_determinant (40, [(0, .ref 67), (1, .int (nI n)), (2, .int (nI N)), (3, .long x3), (5, .int (nI w)), (6, .int (nI (w / n ^ k))), (7, .long 1), (9, .int (nI k))], [], M) K := by
  intro d
  induction d with
  | zero =>
    intro k hk M hM hc
    have : k = n := by omega
    subst this
    exact v_X8_determinant_40 ⟨fun _ => nx M hM hc, fun z => absurd (Int32.le_refl _) z⟩
  | succ d ih =>
    intro k hk M hM hc
    have hl : w / n ^ k < 2 ^ 31 := Nat.lt_of_le_of_lt (Nat.div_le_self _ _) hw
    have n0 : ¬ nI n = 0 := nI_ne0 (by omega) (by omega)
    refine v_X8_determinant_40 ⟨fun z => absurd z (nI_ge (by omega) (by omega)), fun _ => ⟨n0, nI_in (by omega) (by omega), fun M1 e1 => ⟨n0, ?_⟩⟩⟩
    rw [pk_rem hl (by omega) (by omega), nI_clamp (by omega)] at e1
    rw [pk_div hl (by omega) (by omega), Nat.div_div_eq_div_mul, ← Nat.pow_succ, nI_1]
    refine ih (k + 1) (by omega) M1 ⟨by rw [e1]; exact hM.1, fun a i ha => ?_⟩ (fun i hi => ?_)
    · rw [e1, jsi_at, if_neg (fun z => ha z.1)]; exact hM.2 a i ha
    · rw [e1, jsi_at]
      by_cases z : i = k
      · rw [if_pos ⟨rfl, z⟩, z]; rfl
      · rw [if_neg (fun y => z y.2)]; exact hc i (by omega)
theorem nn5 {n : Nat} (hn : n ≤ 5) : n ^ n ≤ 3125 ∧ ∀ k, k ≤ n → n ^ k ≤ 3125 := by
  have key : ∀ m : Nat, m < 6 → m ^ m ≤ 3125 ∧ ∀ k, k < m + 1 → m ^ k ≤ 3125 := by decide
  exact ⟨(key n (by omega)).1, fun k hk => (key n (by omega)).2 k (by omega)⟩
theorem m_det {M0 : jM} {n : Nat} (hn : n ≤ 5) : jEv nX8_determinant (0, [(0, .ref 67), (1, .int (nI n))], [], M0) (fun o M' => o = some (some (.long (dM (fun i j => M0.2 88 (5 * i + j)) n))) ∧ dFr M0 M') := by
  obtain ⟨hN, hk5⟩ := nn5 hn
  have lp : ∀ (d w : Nat), w + d = n ^ n → ∀ M, dFr M0 M → jEv nX8_determinant (24, [(0, .ref 67), (1, .int (nI n)), (2, .int (nI (n ^ n))), (3, .long (sL (dtm (fun i j => M0.2 88 (5 * i + j)) n) w)), (5, .int (nI w))], [], M) (fun o M' => o = some (some (.long (dM (fun i j => M0.2 88 (5 * i + j)) n))) ∧ dFr M0 M') := by
    intro d
    induction d with
    | zero =>
      intro w hw M hM
      have : w = n ^ n := by omega
      subst this
      exact v_X8_determinant_24 ⟨fun _ => ⟨rfl, hM⟩, fun z => absurd (Int32.le_refl _) z⟩
    | succ d ih =>
      intro w hw M hM
      refine v_X8_determinant_24 ⟨fun z => absurd z (nI_ge (by omega) (by omega)), fun _ => ?_⟩
      have := m_det40 (K := fun o M' => o = some (some (.long (dM (fun i j => M0.2 88 (5 * i + j)) n))) ∧ dFr M0 M') (M0 := M0) (n := n) (w := w) (N := n ^ n) (x3 := sL (dtm (fun i j => M0.2 88 (5 * i + j)) n) w) hn (by omega) (fun M1 h1 hc => ?_) n 0 (by omega) M hM (fun i hi => absurd hi (by omega))
      · rw [Nat.pow_zero, Nat.div_one] at this
        exact this
      · refine m_det72 hn hc ?_ n 0 (by omega)
        have nx := ih (w + 1) (by omega) M1 h1
        refine m_det151 (s := Int64.ofInt (dgo (dcol n w) n)) hn hc ?_ n 0 (by omega)
        rw [h1.1]
        exact nx
  have lp4 : ∀ (d k : Nat), k + d = n → jEv nX8_determinant (4, [(0, .ref 67), (1, .int (nI n)), (2, .int (nI (n ^ k))), (3, .int (nI k))], [], M0) (fun o M' => o = some (some (.long (dM (fun i j => M0.2 88 (5 * i + j)) n))) ∧ dFr M0 M') := by
    intro d
    induction d with
    | zero =>
      intro k hk
      have : k = n := by omega
      subst this
      exact v_X8_determinant_4 ⟨fun _ => lp (k ^ k) 0 (by omega) M0 ⟨rfl, fun _ _ _ => rfl⟩, fun z => absurd (Int32.le_refl _) z⟩
    | succ d ih =>
      intro k hk
      refine v_X8_determinant_4 ⟨fun z => absurd z (nI_ge (by omega) (by omega)), fun _ => ?_⟩
      rw [pk_mul, ← Nat.pow_succ, nI_1]
      exact ih (k + 1) (by omega)
  exact v_X8_determinant_0 (lp4 n 0 (by omega))
/-! sizes -/
theorem dgi_b (c : Nat → Nat) (k : Nat) {s : Int} (hs : s.natAbs ≤ 1) : ∀ l, (dgi c k s l).natAbs ≤ 1
  | 0 => hs
  | l + 1 => by
    have h := dgi_b c k hs l
    show (if c l = c k then 0 else if c k < c l then -(dgi c k s l) else dgi c k s l).natAbs ≤ 1
    split
    · decide
    · split <;> omega
theorem dgo_b (c : Nat → Nat) : ∀ k, (dgo c k).natAbs ≤ 1
  | 0 => Nat.le_refl 1
  | k + 1 => dgi_b c k (dgo_b c k) k
theorem dpr_b {sq : Nat → Nat → Int64} {c : Nat → Nat} {s : Int64} {C N : Nat} (hs : aL s 1) (hC : ∀ k, k ≤ N → C ^ k < 9223372036854775808) (h : ∀ i, i < N → aL (sq i (c i)) C) : ∀ k, k ≤ N → aL (dpr sq c s k) (C ^ k)
  | 0, _ => hs
  | k + 1, hk => by
    have h1 := dpr_b hs hC h k (by omega)
    have := (aL_mul h1 (h k (by omega)) (by rw [← Nat.pow_succ]; exact hC (k + 1) hk)).2
    rw [← Nat.pow_succ] at this
    exact this
theorem dM_b {sq : Nat → Nat → Int64} {n C : Nat} (hn : n ≤ 5) (h1 : 1 ≤ C) (hC : 3125 * C ^ n < 9223372036854775808) (h : ∀ i j, i < n → j < n → aL (sq i j) C) : aL (dM sq n) (3125 * C ^ n) := by
  obtain ⟨hN, -⟩ := nn5 hn
  refine (sL_aL (C := C ^ n) (N := 3125) hC hN (fun w hw => ?_)).mono (Nat.mul_le_mul_right _ hN)
  refine dpr_b (N := n) ?_ (fun k hk => ?_) (fun i hi => h i _ hi (dcol_lt (by omega))) n (Nat.le_refl n)
  · have := dgo_b (dcol n w) n
    unfold aL
    rw [Int64.toInt_ofInt, fb_bmodL (by omega) (by omega)]
    exact this
  · have := Nat.pow_le_pow_right h1 hk
    omega
