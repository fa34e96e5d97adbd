/-! the class's determinant: minors over sets of columns -/
def pcn (k : Nat) : Nat := k % 2 + k / 2 % 2 + k / 4 % 2 + k / 8 % 2
theorem s_bits (M : jM) {k : Nat} (hk : k < 16) : jTo nJ6_bitCount_0f7a4 (0, [(0, .int (nI k))], [], M) (some (some (.int (nI (pcn k))))) M := by
  refine v_J6_bitCount_0f7a4_0 ⟨congrArg (fun z => some (some (Value.int z))) ?_, rfl⟩
  revert hk
  revert k
  decide +kernel
theorem bt_and : ∀ S, S < 16 → ∀ c, c < 4 → (nI S &&& (1 <<< (nI c &&& 31)) = 0 ↔ S / 2 ^ c % 2 = 0) := by decide +kernel
theorem bt_xor : ∀ S, S < 16 → ∀ c, c < 4 → S / 2 ^ c % 2 = 1 → (nI S ^^^ (1 <<< (nI c &&& 31)) = nI (S - 2 ^ c) ∧ 2 ^ c ≤ S) := by decide +kernel
theorem bt_shr : ∀ S, S < 16 → ∀ c, c < 4 → nI S >>> ((nI c + 1) &&& 31) = nI (S / 2 ^ (c + 1)) := by decide +kernel
theorem bt_shl : ∀ n, n < 5 → 1 <<< (nI n &&& 31) = nI (2 ^ n) := by decide +kernel
theorem bt_pc : ∀ S, S < 16 → 1 ≤ S → 1 ≤ pcn S ∧ pcn S ≤ 4 := by decide +kernel
theorem bt_pow : ∀ n, n < 5 → 1 ≤ 2 ^ n ∧ 2 ^ n ≤ 16 := by decide
def dTm (cell : Nat → Nat → Int64) (mn : Nat → Int64) (S c : Nat) : Int64 := if S / 2 ^ c % 2 = 0 then 0 else if pcn (S / 2 ^ (c + 1)) % 2 = 0 then cell (pcn S - 1) c * mn (S - 2 ^ c) else -(cell (pcn S - 1) c * mn (S - 2 ^ c))
def dmn (cell : Nat → Nat → Int64) (n : Nat) : Nat → Nat → Int64
  | 0 => fun _ => 1
  | S + 1 => fun x => if x = S + 1 then sL (dTm cell (dmn cell n S) (S + 1)) n else dmn cell n S x
def dmV (cell : Nat → Nat → Int64) (n x : Nat) : Int64 := dmn cell n x x
def dC (cell : Nat → Nat → Int64) (n : Nat) : Int64 := dmV cell n (2 ^ n - 1)
theorem dmn_le (cell : Nat → Nat → Int64) (n : Nat) : ∀ S x, x ≤ S → dmn cell n S x = dmV cell n x
  | 0, x, h => by
    have : x = 0 := by omega
    subst this; rfl
  | S + 1, x, h => by
    by_cases e : x = S + 1
    · subst e; rfl
    · show (if x = S + 1 then _ else dmn cell n S x) = _
      rw [if_neg e]
      exact dmn_le cell n S x (by omega)
theorem dmV_s (cell : Nat → Nat → Int64) (n S : Nat) : dmV cell n (S + 1) = sL (dTm cell (dmV cell n) (S + 1)) n := by
  show (if S + 1 = S + 1 then sL (dTm cell (dmn cell n S) (S + 1)) n else _) = _
  rw [if_pos rfl]
  refine sL_congr (fun c hc => ?_)
  unfold dTm
  have hp : 1 ≤ 2 ^ c := Nat.one_le_two_pow
  rw [dmn_le cell n S (S + 1 - 2 ^ c) (by omega)]
def dcl (M : jM) (x2 : Int32) (i c : Nat) : Int64 := if nI c = x2 then M.2 50 i else if i < 4 then M.2 (46 + i) c else 0
theorem c_det35 {K : jK} {M : jM} {n S : Nat} {x2 x3 : Int32} (hn : n ≤ 4) (h1 : 1 ≤ S) (hS : S < 16) (hm : ∀ x, x < S → M.2 52 x = dmV (dcl M x2) n x) (nx : jEv nX0_determinant (14, [(0, .ref 44), (1, .int (nI n)), (2, .int x2), (3, .int x3), (4, .int (nI (S + 1)))], [], jsl M 52 S (dmV (dcl M x2) n S)) K) : ∀ (d c : Nat), c + d = n → jEv nX0_determinant (35, [(0, .ref 44), (1, .int (nI n)), (2, .int x2), (3, .int x3), (4, .int (nI S)), (5, .int (nI (pcn S) - 1)), (6, .long (sL (dTm (dcl M x2) (dmV (dcl M x2) n) S) c)), (8, .int (nI c))], [], M) K := by
  have inS := nI_in (c := S) (N := 16) (by omega) (by omega)
  obtain ⟨p1, p4⟩ := bt_pc S hS h1
  have ep : nI (pcn S) - 1 = nI (pcn S - 1) := by
    have := nI_pred (pcn S - 1)
    rw [show pcn S - 1 + 1 = pcn S by omega] at this
    exact this
  intro d
  induction d with
  | zero =>
    intro c hc
    have : c = n := by omega
    subst this
    refine v_X0_determinant_35 ⟨fun _ => ⟨inS, fun M1 e1 => ?_⟩, fun z => absurd (Int32.le_refl _) z⟩
    have es : sL (dTm (dcl M x2) (dmV (dcl M x2) c) S) c = dmV (dcl M x2) c S := by
      have := dmV_s (dcl M x2) c (S - 1)
      rw [show S - 1 + 1 = S by omega] at this
      exact this.symm
    rw [es, nI_clamp (by omega)] at e1
    rw [e1, nI_1]; exact nx
  | succ d ih =>
    intro c hc
    have go := ih (c + 1) (by omega)
    have c4 : c < 4 := by omega
    have gd : sL (dTm (dcl M x2) (dmV (dcl M x2) n) S) (c + 1) = sL (dTm (dcl M x2) (dmV (dcl M x2) n) S) c + dTm (dcl M x2) (dmV (dcl M x2) n) S c := rfl
    rw [gd] at go
    unfold dTm at go
    refine v_X0_determinant_35 ⟨fun z => absurd z (nI_ge (by omega) (by omega)), fun _ => ⟨fun z => ?_, fun z => ?_⟩⟩
    · rw [if_pos ((bt_and S hS c c4).mp z), Int64.add_zero] at go
      rw [nI_1]; exact go
    · have b1 : ¬ S / 2 ^ c % 2 = 0 := fun y => z ((bt_and S hS c c4).mpr y)
      have b2 : S / 2 ^ c % 2 = 1 := by omega
      obtain ⟨x1, x2'⟩ := bt_xor S hS c c4 b2
      have hp : 1 ≤ 2 ^ c := Nat.one_le_two_pow
      have in16 := nI_in (c := S - 2 ^ c) (N := 16) (by omega) (by omega)
      have in4 := nI_in (c := pcn S - 1) (N := 4) (by omega) (by omega)
      have hd : S / 2 ^ (c + 1) < 16 := Nat.lt_of_le_of_lt (Nat.div_le_self _ _) hS
      rw [if_neg b1, ep] at go
      rw [x1, bt_shr S hS c c4, ep, (s_bits M hd).iff, (s_bits M hd).iff, nI_clamp (show S - 2 ^ c < 2 ^ 31 by omega), nI_clamp (show pcn S - 1 < 2 ^ 31 by omega), hm (S - 2 ^ c) (by omega)]
      have hpc : pcn (S / 2 ^ (c + 1)) < 2 ^ 31 := by unfold pcn; omega
      have par : ∀ {P Q : Prop}, (pcn (S / 2 ^ (c + 1)) % 2 = 0 → P) → (¬ pcn (S / 2 ^ (c + 1)) % 2 = 0 → Q) → ((nI (pcn (S / 2 ^ (c + 1))) - nI (pcn (S / 2 ^ (c + 1))) / 2 * 2 = 0 → P) ∧ (¬ nI (pcn (S / 2 ^ (c + 1))) - nI (pcn (S / 2 ^ (c + 1))) / 2 * 2 = 0 → Q)) := by
        intro P Q hP hQ
        have e := pk_rem (a := pcn (S / 2 ^ (c + 1))) (d := 2) hpc (by omega) (by omega)
        refine ⟨fun y => hP ?_, fun y => hQ (fun y2 => y ?_)⟩
        · have y' : nI (pcn (S / 2 ^ (c + 1)) % 2) = nI 0 := e.symm.trans y
          exact (nI_eq (by omega) (by omega)).mp y'
        · exact e.trans (by rw [y2]; rfl)
      have e16 : ¬ (nI (S - 2 ^ c) < 0 ∨ 16 ≤ S - 2 ^ c) := by rw [nI_clamp (by omega)] at in16; exact in16
      have e4 : ¬ (nI (pcn S - 1) < 0 ∨ 4 ≤ pcn S - 1) := by rw [nI_clamp (by omega)] at in4; exact in4
      refine ⟨fun y => ⟨e4, e16, _, rfl, par (fun y2 => ?_) (fun y2 => ?_)⟩, fun y => ⟨e4, nI_in (by omega) (by omega), e16, _, rfl, par (fun y2 => ?_) (fun y2 => ?_)⟩⟩
      · rw [if_pos y2, show dcl M x2 (pcn S - 1) c = M.2 50 (pcn S - 1) from if_pos y] at go
        rw [nI_1]; exact go
      · rw [if_neg y2, show dcl M x2 (pcn S - 1) c = M.2 50 (pcn S - 1) from if_pos y] at go
        rw [nI_1]; exact go
      · rw [if_pos y2, show dcl M x2 (pcn S - 1) c = M.2 (46 + (pcn S - 1)) c from (if_neg y).trans (if_pos (by omega))] at go
        rw [nI_clamp (show c < 2 ^ 31 by omega), nI_1]; exact go
      · rw [if_neg y2, show dcl M x2 (pcn S - 1) c = M.2 (46 + (pcn S - 1)) c from (if_neg y).trans (if_pos (by omega))] at go
        rw [nI_clamp (show c < 2 ^ 31 by omega), nI_1]; exact go
def eFr (M0 M : jM) : Prop := M.1 = M0.1 ∧ ∀ a k, a ≠ 52 → M.2 a k = M0.2 a k
theorem eFr.cl {M0 M : jM} (h : eFr M0 M) (x2 : Int32) : dcl M x2 = dcl M0 x2 := by
  funext i c
  unfold dcl
  rw [h.2 50 i (by decide)]
  by_cases z : i < 4
  · rw [if_pos z, if_pos z, h.2 (46 + i) c (by omega)]
  · rw [if_neg z, if_neg z]
theorem c_det {M0 : jM} {n : Nat} (hn : n ≤ 4) (x2 : Int32) : jEv nX0_determinant (0, [(0, .ref 44), (1, .int (nI n)), (2, .int x2)], [], M0) (fun o M' => o = some (some (.long (dC (dcl M0 x2) n))) ∧ eFr M0 M') := by
  obtain ⟨hp1, hp16⟩ := bt_pow n (by omega)
  have e3 : nI (2 ^ n) - 1 = nI (2 ^ n - 1) := by
    have := nI_pred (2 ^ n - 1)
    rw [show 2 ^ n - 1 + 1 = 2 ^ n by omega] at this
    exact this
  have lp : ∀ (d S : Nat), 1 ≤ S → S + d = 2 ^ n → ∀ M, eFr M0 M → (∀ x, x < S → M.2 52 x = dmV (dcl M0 x2) n x) → jEv nX0_determinant (14, [(0, .ref 44), (1, .int (nI n)), (2, .int x2), (3, .int (nI (2 ^ n))), (4, .int (nI S))], [], M) (fun o M' => o = some (some (.long (dC (dcl M0 x2) n))) ∧ eFr M0 M') := by
    intro d
    induction d with
    | zero =>
      intro S h1 hS M hM hm
      have : S = 2 ^ n := by omega
      subst this
      refine v_X0_determinant_14 ⟨fun _ => ?_, fun z => absurd (Int32.le_refl _) z⟩
      rw [e3]
      refine ⟨nI_in (by omega) (by omega), ?_, hM⟩
      rw [nI_clamp (by omega), hm _ (by omega)]
      rfl
    | succ d ih =>
      intro S h1 hS M hM hm
      refine v_X0_determinant_14 ⟨fun z => absurd z (nI_ge (by omega) (by omega)), fun _ => ?_⟩
      rw [(s_bits M (show S < 16 by omega)).iff]
      refine ⟨_, rfl, ?_⟩
      rw [← hM.cl] at hm ih ⊢
      refine c_det35 hn h1 (by omega) hm (ih (S + 1) (by omega) (by omega) _ ⟨hM.1, fun a k ha => ?_⟩ (fun x hx => ?_)) n 0 (by omega)
      · rw [jsl_at, if_neg (fun z => ha z.1)]; exact hM.2 a k ha
      · rw [jsl_at]
        by_cases z : x = S
        · rw [if_pos ⟨rfl, z⟩, z]
        · rw [if_neg (fun y => z y.2)]; exact hm x (by omega)
  refine v_X0_determinant_0 (fun M1 e1 => ?_)
  rw [bt_shl n (by omega)]
  refine lp (2 ^ n - 1) 1 (by omega) (by omega) M1 ⟨by rw [e1]; rfl, fun a k ha => by rw [e1, jsl_at, if_neg (fun z => ha z.1)]⟩ (fun x hx => ?_)
  have : x = 0 := by omega
  subst this
  rw [e1, jsl_at, if_pos ⟨rfl, rfl⟩]; rfl
/-- the solver's own rows: bottom, tops, minors -/
def fFr (M0 M : jM) : Prop := M.1 = M0.1 ∧ ∀ a k, a ≠ 44 → a ≠ 51 → a ≠ 52 → M.2 a k = M0.2 a k
theorem fFr.cl {M0 M : jM} (h : fFr M0 M) (x2 : Int32) : dcl M x2 = dcl M0 x2 := by
  funext i c
  unfold dcl
  rw [h.2 50 i (by decide) (by decide) (by decide)]
  by_cases z : i < 4
  · rw [if_pos z, if_pos z, h.2 (46 + i) c (by omega) (by omega) (by omega)]
  · rw [if_neg z, if_neg z]
theorem fFr.kp {M0 M : jM} (h : fFr M0 M) : iKp M0 M := ⟨fun a k _ _ _ _ _ _ => by rw [h.1], fun a k z => h.2 a k (by omega) (by omega) (by omega)⟩
theorem fFr.trans {M1 M2 M3 : jM} (h : fFr M1 M2) (g : fFr M2 M3) : fFr M1 M3 := ⟨g.1.trans h.1, fun a k z1 z2 z3 => (g.2 a k z1 z2 z3).trans (h.2 a k z1 z2 z3)⟩
theorem eFr.f {M0 M : jM} (h : eFr M0 M) : fFr M0 M := ⟨h.1, fun a k _ _ z => h.2 a k z⟩
theorem c_solve {M0 : jM} {n : Nat} (hn : n ≤ 4) : jEv nX0_solve (0, [(0, .ref 44), (1, .int (nI n))], [], M0) (fun o M' => fFr M0 M' ∧ ((dC (dcl M0 (-1)) n = 0 ∧ o = some (some (.int 0)) ∧ M'.2 44 4 = 1) ∨ (¬ dC (dcl M0 (-1)) n = 0 ∧ o = some (some (.int 1)) ∧ M'.2 44 4 = dC (dcl M0 (-1)) n ∧ ∀ i, i < n → M'.2 51 i = dC (dcl M0 (nI i)) n))) := by
  refine v_X0_solve_0 (jEv.mono (c_det hn (-1)) (fun o M2 z => ⟨_, z.1, fun M4 e4 => ?_⟩))
  have f4 : fFr M0 M4 := z.2.f.trans ⟨by rw [e4]; rfl, fun a k z1 _ _ => by rw [e4, jsl_at, if_neg (fun y => z1 y.1)]⟩
  have d4 : M4.2 44 4 = dC (dcl M0 (-1)) n := by rw [e4, jsl_at, if_pos ⟨rfl, rfl⟩]
  rw [d4]
  refine ⟨fun y M5 e5 => ⟨f4.trans ⟨by rw [e5]; rfl, fun a k z1 _ _ => by rw [e5, jsl_at, if_neg (fun y => z1 y.1)]⟩, Or.inl ⟨y, rfl, by rw [e5, jsl_at, if_pos ⟨rfl, rfl⟩]⟩⟩, fun y => ?_⟩
  have lp : ∀ (d k : Nat), k + d = n → ∀ M, fFr M0 M → M.2 44 4 = dC (dcl M0 (-1)) n → (∀ i, i < k → M.2 51 i = dC (dcl M0 (nI i)) n) → jEv nX0_solve (28, [(0, .ref 44), (1, .int (nI n)), (2, .int (nI k))], [], M) (fun o M' => fFr M0 M' ∧ ((dC (dcl M0 (-1)) n = 0 ∧ o = some (some (.int 0)) ∧ M'.2 44 4 = 1) ∨ (¬ dC (dcl M0 (-1)) n = 0 ∧ o = some (some (.int 1)) ∧ M'.2 44 4 = dC (dcl M0 (-1)) n ∧ ∀ i, i < n → M'.2 51 i = dC (dcl M0 (nI i)) n))) := by
    intro d
    induction d with
    | zero =>
      intro k hk M hM hb ht
      have : k = n := by omega
      subst this
      exact v_X0_solve_28 ⟨fun _ => ⟨hM, Or.inr ⟨y, rfl, hb, ht⟩⟩, fun z => absurd (Int32.le_refl _) z⟩
    | succ d ih =>
      intro k hk M hM hb ht
      refine v_X0_solve_28 ⟨fun z => absurd z (nI_ge (by omega) (by omega)), fun _ => jEv.mono (c_det hn (nI k)) (fun o M5 z5 => ⟨_, z5.1, nI_in (by omega) (by omega), fun M6 e6 => ?_⟩)⟩
      rw [nI_clamp (by omega), hM.cl] at e6
      have h5 := z5.2
      rw [nI_1]
      refine ih (k + 1) (by omega) M6 (hM.trans (h5.f.trans ⟨by rw [e6]; rfl, fun a i _ z2 _ => by rw [e6, jsl_at, if_neg (fun y => z2 y.1)]⟩)) ?_ (fun i hi => ?_)
      · rw [e6, jsl_at, if_neg (by omega), h5.2 44 4 (by decide)]; exact hb
      · rw [e6, jsl_at]
        by_cases z : i = k
        · rw [if_pos ⟨rfl, z⟩, z]
        · rw [if_neg (fun y => z y.2), h5.2 51 i (by decide)]; exact ht i (by omega)
  exact lp n 0 (by omega) M4 f4 d4 (fun i hi => absurd hi (by omega))
