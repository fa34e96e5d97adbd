/-! elimination of a column, of all -/
theorem eL_row (c : Nat) (m : Mw) : ∀ k, k ≤ 4 → ∀ k', k' < 4 → (k ≤ k' ∨ k' = c) → mG (eL c m k) k' = mG m k' := by
  intro k
  induction k with
  | zero => intro _ k' _ _; rfl
  | succ k ih =>
    intro hk k' hk' h
    show mG (if k = c ∨ rN (mG (eL c m k) k) c = 0 then eL c m k else mS (eL c m k) k (rD (rC (mG (eL c m k) k) (mG (eL c m k) c) c))) k' = _
    by_cases z : k = c ∨ rN (mG (eL c m k) k) c = 0
    · rw [if_pos z]; exact ih (by omega) k' hk' (by omega)
    · rw [if_neg z, mG_S _ _ (by omega) hk', if_neg (by omega)]
      exact ih (by omega) k' hk' (by omega)
theorem eL_ok (c : Nat) (m : Mw) {n : Nat} (hn : n ≤ 4) (h : ∀ k, k < n → rOk (mG m k) = true) : ∀ k, k ≤ n → eK c m k = true → ∀ k', k' < n → rOk (mG (eL c m k) k') = true := by
  intro k
  induction k with
  | zero => intro _ _ k' hk'; exact h k' hk'
  | succ k ih =>
    intro hk he k' hk'
    have he' : (eK c m k && rOk (mG (eL c m (k + 1)) k)) = true := he
    rw [Bool.and_eq_true] at he'
    by_cases y : k' = k
    · subst y; exact he'.2
    · have h2 := ih (by omega) he'.1 k' hk'
      show rOk (mG (if k = c ∨ rN (mG (eL c m k) k) c = 0 then eL c m k else mS (eL c m k) k (rD (rC (mG (eL c m k) k) (mG (eL c m k) c) c))) k') = true
      by_cases z : k = c ∨ rN (mG (eL c m k) k) c = 0
      · rw [if_pos z]; exact h2
      · rw [if_neg z, mG_S _ _ (by omega) (by omega), if_neg y]; exact h2
theorem eqr.o {n : Nat} {T : Nat → Int} {L : Int} {r : Rw} {k k' : Nat} {M0 M : jM} (h : eqr n T L r k' M0) (o : oRow k M0 M) (hn : n ≤ 4) (hk : k' ≠ k) : eqr n T L r k' M := by
  intro i hi
  rw [(o.2.1 (5 * k' + i) (by omega)).1, (o.2.1 (5 * k' + i) (by omega)).2]
  exact h i hi
theorem eqr.D {n : Nat} {T : Nat → Int} {L : Int} {r : Rw} {k : Nat} {M : jM} (h : eqr n T L r k M) (h0 : r.1 ≠ 0) : eqr n T L (rD r) k M := by
  intro i hi
  rw [vN_D h0]
  exact h i hi
/-- the model's frame at an elimination -/
def qFe (M0 M : jM) : Prop := pFr M0 M ∧ ∀ a y, (77 ≤ a ∧ a ≤ 80) → M.2 a y = M0.2 a y
theorem qFe.rfl' (M : jM) : qFe M M := ⟨pFr.rfl' M, fun _ _ _ => rfl⟩
theorem qFe.trans {M1 M2 M3 : jM} (h : qFe M1 M2) (g : qFe M2 M3) : qFe M1 M3 := ⟨h.1.trans g.1, fun a y z => (g.2 a y z).trans (h.2 a y z)⟩
theorem oRow.q {k : Nat} {M0 M : jM} (h : oRow k M0 M) : qFe M0 M := ⟨h.1, h.2.2⟩
theorem cell0 {n : Nat} {T : Nat → Int} {L : Int} {r : Rw} (t : tOk n T L) (h : rOk r = true) {i : Nat} (hi : i < n) : cU (vN n T L r i) = 0 ↔ rN r i = 0 := by
  rw [cU_0 (vN_sm t h i) (by decide)]
  unfold vN
  rw [if_pos hi]
  exact dv_0 (rOk_b h).1
theorem m_el137 {K : jK} {M0 : jM} {n c : Nat} {T : Nat → Int} {L : Int} {m : Mw} (t : tOk n T L) (hc : c < n) (hok : ∀ k, k < n → rOk (mG m k) = true) (h0 : rN (mG m c) c ≠ 0) (nx : ∀ M, qFe M0 M → eqM n T L (eL c m n) M → K (some none) M) : ∀ (d k : Nat), k + d = n → eK c m n = true → ∀ M, qFe M0 M → eqM n T L (eL c m k) M → jEv nX8_eliminate (137, [(0, .ref 67), (1, .int (nI c)), (2, .int (nI n)), (4, .int (nI k))], [], M) K := by
  have hn4 := t.1.2
  have eKm : ∀ {d k : Nat}, k + d = n → eK c m n = true → eK c m k = true := by
    intro d
    induction d with
    | zero => intro k hk h; rw [Nat.add_zero] at hk; rw [hk]; exact h
    | succ d ih =>
      intro k hk h
      have h' : (eK c m k && rOk (mG (eL c m (k + 1)) k)) = true := ih (k := k + 1) (by omega) h
      rw [Bool.and_eq_true] at h'
      exact h'.1
  intro d
  induction d with
  | zero =>
    intro k hk he M f s
    have : k = n := by omega
    subst this
    exact v_X8_eliminate_137 ⟨fun _ => nx M f s, fun z => absurd (Int32.le_refl _) z⟩
  | succ d ih =>
    intro k hk he M f s
    have ok := eL_ok c m hn4 hok k (by omega) (eKm hk he)
    have rowc := eL_row c m k (by omega) c (by omega) (Or.inr rfl)
    refine v_X8_eliminate_137 ⟨fun z => absurd z (nI_ge (by omega) (by omega)), fun _ => ⟨fun z => ?_, fun z => ?_⟩⟩
    · have z' : k = c := (nI_eq (by omega) (by omega)).mp z
      rw [nI_1]
      refine ih (k + 1) (by omega) he M f ?_
      rw [show eL c m (k + 1) = eL c m k from if_pos (Or.inl z')]
      exact s
    · have z' : ¬ k = c := fun y => z (by rw [y])
      rw [nI5, nI5]
      have ik := nI_in (c := 5 * k + c) (N := 20) (by omega) (by omega)
      have ic := nI_in (c := 5 * c + c) (N := 20) (by omega) (by omega)
      refine ⟨ik, ?_⟩
      rw [nI_clamp (show 5 * k + c < 2 ^ 31 by omega), nI_clamp (show 5 * c + c < 2 ^ 31 by omega)]
      have ik' : ¬ (nI (5 * k + c) < 0 ∨ 20 ≤ 5 * k + c) := by rw [nI_clamp (by omega)] at ik; exact ik
      have ic' : ¬ (nI (5 * c + c) < 0 ∨ 20 ≤ 5 * c + c) := by rw [nI_clamp (by omega)] at ic; exact ic
      have sk := s k (by omega) c (Or.inl hc)
      have sc := s c hc c (Or.inl hc)
      rw [rowc] at sc
      rw [sk.1, sk.2]
      refine ⟨fun y => ?_, fun y => ⟨ik', ik', ?_⟩⟩
      · rw [cell0 t (ok k (by omega)) hc] at y
        rw [nI_1]
        refine ih (k + 1) (by omega) he M f ?_
        rw [show eL c m (k + 1) = eL c m k from if_pos (Or.inr y)]
        exact s
      · rw [cell0 t (ok k (by omega)) hc] at y
        have smk := vN_sm t (ok k (by omega)) c
        have smc := vN_sm t (hok c hc) c
        have uc : ¬ cU (vN n T L (mG m c) c) = 0 := fun w => h0 ((cell0 t (hok c hc) hc).mp w)
        have la : aL (cL (vN n T L (mG m c) c)) 5760000 := by unfold aL; rw [cL_i smc (by decide)]; exact smc.2
        have lb' : aL (cU (vN n T L (mG m c) c)) 325632000000 := by unfold aL; rw [cU_i smc (by decide)]; exact smc.1
        rw [(m_setC smk (by decide) (by decide)).iff]
        refine ⟨rfl, ic', ic', ?_⟩
        -- the ratio, out of the cells' own small numbers
        have kb := rOk_b (ok k (by omega))
        have cb := rOk_b (hok c hc)
        have smk' : sm (vN n T L (mG (eL c m k) k) c) 2000 300 := by
          unfold vN; rw [if_pos hc]; exact (sm_div kb.1).mono (kb.2.2.1 c) kb.2.1
        have smc' : sm (vN n T L (mG m c) c) 2000 300 := by
          unfold vN; rw [if_pos hc]; exact (sm_div cb.1).mono (cb.2.2.1 c) cb.2.1
        have la' : aL (cL (vN n T L (mG m c) c)) 300 := by unfold aL; rw [cL_i smc' (by decide)]; exact smc'.2
        have lu' : aL (cU (vN n T L (mG m c) c)) 2000 := by unfold aL; rw [cU_i smc' (by decide)]; exact smc'.1
        rw [jF_o _ _ (by decide), jF_o _ _ (by decide), sc.1, sc.2, (m_timesG smk' la' lu' uc (by decide) (by decide) (by decide) (by decide) (by decide) (by decide) (jF_u _ _) (jF_l _ _)).iff]
        have er : vN n T L (mG (eL c m k) k) c * rQ (cL (vN n T L (mG m c) c)) (cU (vN n T L (mG m c) c)) = -(rho (mG (eL c m k) k) (mG m c) c) := by
          have e1 : rQ (cL (vN n T L (mG m c) c)) (cU (vN n T L (mG m c) c)) = Rat.divInt (mG m c).1 (rN (mG m c) c) := by
            unfold rQ
            rw [cL_i smc' (by decide), cU_i smc' (by decide), ← Rat.inv_divInt, Rat.num_divInt_den]
            unfold vN
            rw [if_pos hc, Rat.inv_divInt]
          rw [e1]
          unfold vN rho
          rw [if_pos hc, Rat.divInt_mul_divInt, Rat.neg_divInt, Int.neg_neg]
        rw [er]
        refine ⟨rfl, ?_⟩
        rw [jF_u, jF_l, cU_neg, cL_neg, Int64.neg_neg]
        have f2 : oRow k M (jF (jF M (vN n T L (mG (eL c m k) k) c)) (-(rho (mG (eL c m k) k) (mG m c) c))) := oRow.jF (oRow.jF ⟨pFr.rfl' M, fun _ _ => ⟨rfl, rfl⟩, fun _ _ _ => rfl⟩ _) _
        have rowk : eqr n T L (mG (eL c m k) k) k M := s k (by omega)
        have rwc : eqr n T L (mG m c) c M := by rw [← rowc]; exact s c hc
        refine m_el234 (M0 := M) t hc (show k < n by omega) z' (ok k (by omega)) (hok c hc) h0 rwc rowk (fun M5 o5 r5 => ?_) 5 0 (by omega) _ f2 (fun i _ hi => absurd hi (by omega)) (fun i hi _ => ?_)
        · refine ih (k + 1) (by omega) he M5 (f.trans o5.q) ?_
          have en : eL c m (k + 1) = mS (eL c m k) k (rD (rC (mG (eL c m k) k) (mG (eL c m k) c) c)) := if_neg (fun w => w.elim z' y)
          rw [en, rowc]
          intro k' hk'
          rw [mG_S _ _ (by omega) (by omega)]
          by_cases w : k' = k
          · rw [if_pos w, w]
            exact r5.D (Int.mul_ne_zero kb.1 h0)
          · rw [if_neg w]
            exact (s k' hk').o o5 hn4 w
        · rw [jF_o _ _ (by decide), jF_o _ _ (by decide), jF_o _ _ (by decide), jF_o _ _ (by decide)]
          exact rowk i hi
theorem ePv_b (m : Mw) (c : Nat) : ∀ d x, x ≤ ePv m c d x ∧ ePv m c d x ≤ x + d
  | 0, x => ⟨Nat.le_refl x, Nat.le_refl x⟩
  | d + 1, x => by
    have := ePv_b m c d (x + 1)
    unfold ePv
    split <;> omega
theorem m_el2 {K : jK} {M : jM} {n c own : Nat} {T : Nat → Int} {L : Int} {m : Mw} (t : tOk n T L) (hc : c < n) (hok : ∀ k, k < n → rOk (mG m k) = true) (s : eqM n T L m M) (h0 : rN (mG m own) c ≠ 0) (nx : jEv nX8_eliminate (26, [(0, .ref 67), (1, .int (nI c)), (2, .int (nI n)), (3, .int (nI own)), (4, .int 0)], [], M) K) : ∀ (d x : Nat), c ≤ x → x + d = n - 1 → ePv m c d x = own → jEv nX8_eliminate (2, [(0, .ref 67), (1, .int (nI c)), (2, .int (nI n)), (3, .int (nI x))], [], M) K := by
  have hn4 := t.1.2
  intro d
  induction d with
  | zero =>
    intro x hcx hx e
    have ex : x = own := e
    refine v_X8_eliminate_2 ?_
    rw [nI5]
    refine ⟨nI_in (by omega) (by omega), ?_⟩
    rw [nI_clamp (by omega), (s x (by omega) c (Or.inl hc)).1]
    refine ⟨fun z => ?_, fun z => ?_⟩
    · rw [cell0 t (hok x (by omega)) hc, ex] at z
      exact absurd z h0
    · rw [ex]; exact nx
  | succ d ih =>
    intro x hcx hx e
    refine v_X8_eliminate_2 ?_
    rw [nI5]
    refine ⟨nI_in (by omega) (by omega), ?_⟩
    rw [nI_clamp (by omega), (s x (by omega) c (Or.inl hc)).1]
    refine ⟨fun z => ?_, fun z => ?_⟩
    · rw [cell0 t (hok x (by omega)) hc] at z
      rw [nI_1]
      refine ih (x + 1) (by omega) (by omega) ?_
      rw [← e]; exact (if_pos z).symm
    · rw [cell0 t (hok x (by omega)) hc] at z
      have : x = own := by rw [← e]; exact (if_neg z).symm
      rw [this]; exact nx
theorem m_el26 {K : jK} {M0 : jM} {n c own : Nat} (hc : c < 4) (ho : own < 4) (nx : ∀ M, qFe M0 M → (∀ y, M.2 81 y = M0.2 81 (if 5 * c ≤ y ∧ y < 5 * c + 5 then 5 * own + (y - 5 * c) else if 5 * own ≤ y ∧ y < 5 * own + 5 then 5 * c + (y - 5 * own) else y)) → (∀ y, M.2 82 y = M0.2 82 (if 5 * c ≤ y ∧ y < 5 * c + 5 then 5 * own + (y - 5 * c) else if 5 * own ≤ y ∧ y < 5 * own + 5 then 5 * c + (y - 5 * own) else y)) → jEv nX8_eliminate (137, [(0, .ref 67), (1, .int (nI c)), (2, .int (nI n)), (4, .int 0)], [], M) K) : ∀ (d i : Nat), i + d = 5 → ∀ M, qFe M0 M → (∀ y, M.2 81 y = M0.2 81 (if 5 * c ≤ y ∧ y < 5 * c + i then 5 * own + (y - 5 * c) else if 5 * own ≤ y ∧ y < 5 * own + i then 5 * c + (y - 5 * own) else y)) → (∀ y, M.2 82 y = M0.2 82 (if 5 * c ≤ y ∧ y < 5 * c + i then 5 * own + (y - 5 * c) else if 5 * own ≤ y ∧ y < 5 * own + i then 5 * c + (y - 5 * own) else y)) → jEv nX8_eliminate (26, [(0, .ref 67), (1, .int (nI c)), (2, .int (nI n)), (3, .int (nI own)), (4, .int (nI i))], [], M) K := by
  intro d
  induction d with
  | zero =>
    intro i hi M f s1 s2
    have : i = 5 := by omega
    subst this
    exact v_X8_eliminate_26 ⟨fun _ => nx M f s1 s2, fun z => absurd (by decide) z⟩
  | succ d ih =>
    intro i hi M f s1 s2
    have ic := nI_in (c := 5 * c + i) (N := 20) (by omega) (by omega)
    have io := nI_in (c := 5 * own + i) (N := 20) (by omega) (by omega)
    refine v_X8_eliminate_26 ⟨fun z => absurd z (nI_ge (b := 5) (by omega) (by omega)), fun _ => ?_⟩
    rw [nI5, nI5]
    refine ⟨ic, ic, io, ic, fun M1 e1 => ⟨io, ic, fun M2 e2 => ⟨io, fun M3 e3 => ⟨io, fun M4 e4 => ?_⟩⟩⟩⟩
    rw [nI_clamp (by omega), nI_clamp (by omega)] at e1 e2 e3 e4
    have a1 : ∀ y, M4.2 81 y = if y = 5 * own + i then M.2 81 (5 * c + i) else if y = 5 * c + i then M.2 81 (5 * own + i) else M.2 81 y := by
      intro y
      rw [e4, jsl_at, if_neg (fun w => absurd w.1 (by decide)), e3, jsl_at]
      by_cases w : y = 5 * own + i
      · rw [if_pos ⟨rfl, w⟩, if_pos w]
      · rw [if_neg (fun u => w u.2), if_neg w, e2, jsl_at, if_neg (fun u => absurd u.1 (by decide)), e1, jsl_at]
        by_cases u : y = 5 * c + i
        · rw [if_pos ⟨rfl, u⟩, if_pos u]
        · rw [if_neg (fun q => u q.2), if_neg u]
    have a2 : ∀ y, M4.2 82 y = if y = 5 * own + i then M.2 82 (5 * c + i) else if y = 5 * c + i then M.2 82 (5 * own + i) else M.2 82 y := by
      intro y
      rw [e4, jsl_at]
      by_cases w : y = 5 * own + i
      · rw [if_pos ⟨rfl, w⟩, if_pos w]
      · rw [if_neg (fun u => w u.2), if_neg w, e3, jsl_at, if_neg (fun u => absurd u.1 (by decide)), e2, jsl_at]
        by_cases u : y = 5 * c + i
        · rw [if_pos ⟨rfl, u⟩, if_pos u, e1, jsl_at, if_neg (fun q => absurd q.1 (by decide))]
        · rw [if_neg (fun q => u q.2), if_neg u, e1, jsl_at, if_neg (fun q => absurd q.1 (by decide))]
    have sw : ∀ (N0 N N4 : Nat → Int64), (∀ y, N y = N0 (if 5 * c ≤ y ∧ y < 5 * c + i then 5 * own + (y - 5 * c) else if 5 * own ≤ y ∧ y < 5 * own + i then 5 * c + (y - 5 * own) else y)) → (∀ y, N4 y = if y = 5 * own + i then N (5 * c + i) else if y = 5 * c + i then N (5 * own + i) else N y) → ∀ y, N4 y = N0 (if 5 * c ≤ y ∧ y < 5 * c + (i + 1) then 5 * own + (y - 5 * c) else if 5 * own ≤ y ∧ y < 5 * own + (i + 1) then 5 * c + (y - 5 * own) else y) := by
      intro N0 N N4 hN h4 y
      have hc5 : N (5 * c + i) = N0 (5 * c + i) := by rw [hN, if_neg (by omega), if_neg (by omega)]
      have ho5 : N (5 * own + i) = N0 (5 * own + i) := by rw [hN, if_neg (by omega), if_neg (by omega)]
      rw [h4 y, hc5, ho5]
      by_cases w : y = 5 * own + i
      · rw [if_pos w]
        by_cases u : c = own
        · rw [if_pos (by omega)]; congr 1; omega
        · rw [if_neg (by omega), if_pos (by omega)]; congr 1; omega
      · rw [if_neg w]
        by_cases u : y = 5 * c + i
        · rw [if_pos u, if_pos (by omega)]; congr 1; omega
        · rw [if_neg u, hN y]
          by_cases v1 : 5 * c ≤ y ∧ y < 5 * c + i
          · rw [if_pos v1, if_pos (by omega)]
          · rw [if_neg v1, if_neg (show ¬ (5 * c ≤ y ∧ y < 5 * c + (i + 1)) by omega)]
            by_cases v2 : 5 * own ≤ y ∧ y < 5 * own + i
            · rw [if_pos v2, if_pos (by omega)]
            · rw [if_neg v2, if_neg (by omega)]
    rw [nI_1]
    refine ih (i + 1) (by omega) M4 ⟨?_, fun a y ha => ?_⟩ (sw _ _ _ s1 a1) (sw _ _ _ s2 a2)
    · rw [e4, e3, e2, e1]; exact (((f.1.sl (by omega)).sl (by omega)).sl (by omega)).sl (by omega)
    · rw [e4, jsl_at, if_neg (by omega), e3, jsl_at, if_neg (by omega), e2, jsl_at, if_neg (by omega), e1, jsl_at, if_neg (by omega)]; exact f.2 a y ha
theorem eSw_G (m : Mw) {c own k : Nat} (hc : c < 4) (ho : own < 4) (hk : k < 4) : mG (eSw m c own) k = if k = own then mG m c else if k = c then mG m own else mG m k := by
  unfold eSw
  rw [mG_S _ _ ho hk, mG_S _ _ hc hk]
theorem m_elim {M0 : jM} {n c : Nat} {T : Nat → Int} {L : Int} {m : Mw} (t : tOk n T L) (hc : c < n) (hok : ∀ k, k < n → rOk (mG m k) = true) (he : eSk n c m = true) (s : eqM n T L m M0) : (∀ k, k < n → rOk (mG (eS n c m) k) = true) ∧ jEv nX8_eliminate (0, [(0, .ref 67), (1, .int (nI c)), (2, .int (nI n))], [], M0) (fun o M' => o = some none ∧ qFe M0 M' ∧ eqM n T L (eS n c m) M') := by
  have hn4 := t.1.2
  have hb := ePv_b m c (n - 1 - c) c
  have he' : (!decide (rN (mG m (ePv m c (n - 1 - c) c)) c = 0) && eK c (eSw m c (ePv m c (n - 1 - c) c)) n) = true := he
  rw [Bool.and_eq_true, Bool.not_eq_true', decide_eq_false_iff_not] at he'
  obtain ⟨h0, hK⟩ := he'
  obtain ⟨own, hown⟩ : ∃ own, ePv m c (n - 1 - c) c = own := ⟨_, rfl⟩
  have eS' : eS n c m = eL c (eSw m c own) n := by unfold eS; rw [hown]
  rw [hown] at h0 hK hb
  have ok2 : ∀ k, k < n → rOk (mG (eSw m c own) k) = true := by
    intro k hk
    rw [eSw_G m (by omega) (by omega) (by omega)]
    split
    · exact hok c hc
    · split
      · exact hok own (by omega)
      · exact hok k hk
  have piv : rN (mG (eSw m c own) c) c ≠ 0 := by
    rw [eSw_G m (by omega) (by omega) (by omega)]
    by_cases z : c = own
    · rw [if_pos z, z]; rw [z] at h0; exact h0
    · rw [if_neg z, if_pos rfl]; exact h0
  rw [eS']
  refine ⟨eL_ok c _ hn4 ok2 n (Nat.le_refl n) hK, ?_⟩
  refine v_X8_eliminate_0 (m_el2 t hc hok s h0 ?_ (n - 1 - c) c (Nat.le_refl c) (by omega) hown)
  refine m_el26 (M0 := M0) (by omega) (by omega) (fun M f s1 s2 => ?_) 5 0 (by omega) M0 (qFe.rfl' M0) (fun y => by rw [if_neg (by omega), if_neg (by omega)]) (fun y => by rw [if_neg (by omega), if_neg (by omega)])
  refine m_el137 (M0 := M0) t hc ok2 piv (fun M' f' s' => ⟨rfl, f', s'⟩) n 0 (by omega) hK M f ?_
  intro k hk i hi
  rw [s1, s2]
  show M0.2 81 _ = cU (vN n T L (mG (eSw m c own) k) i) ∧ M0.2 82 _ = cL (vN n T L (mG (eSw m c own) k) i)
  rw [eSw_G m (by omega) (by omega) (by omega)]
  by_cases z1 : k = c
  · rw [if_pos (by omega), show 5 * own + (5 * k + i - 5 * c) = 5 * own + i by omega]
    by_cases z2 : k = own
    · rw [if_pos z2, ← z1, ← z2]; exact s k hk i hi
    · rw [if_neg z2, if_pos z1]; exact s own (by omega) i hi
  · rw [if_neg (by omega)]
    by_cases z2 : k = own
    · rw [if_pos (by omega), if_pos z2, show 5 * c + (5 * k + i - 5 * own) = 5 * c + i by omega]; exact s c hc i hi
    · rw [if_neg (by omega), if_neg z2, if_neg z1]; exact s k hk i hi
