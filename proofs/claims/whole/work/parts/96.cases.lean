/-! THE LAW'S CASES -/
section LawCases
variable {α : Nat → Nat} {cA : Nat → ClassId} {D : va_G} {A : Nat → Prop} {p : Program} {l : Launch} {e : Env} {R : Room} {s : State} {m : MethodId} {args : Array Value} {below : List Frame} {meth : Method} {c : Code} {cells slots : Nat} {Q : State → Prop}
variable {M : jM} {Ln : Nat} {xs : Nat → Int32} {i : Int32}
set_option maxHeartbeats 4000000 in
set_option maxRecDepth 100000 in
theorem lc_feed (C : lwC eLw lwI α cA D A p l R s m args c) (X : lwX α A s Ln xs) (hce : cells + 1 ≤ R.cells ∧ slots + 6 ≤ R.slots) (hR : 8 ≤ R.frames ∧ 264 ≤ R.locals) (hin : ∀ k : Int, 1 ≤ k → k ≤ 5 → vp_in (i + Int32.ofInt k) Ln) (hM : iInv M)
    (kk : ∀ M' : jM, iInv M' → jG jSH α cA vwCl D A s.heap 8 p l e R s m args below meth c (cells + 1) (slots + 6) Q (1520, [(0, .ref 98), (1, .ref 0), (2, .ref 67), (3, .ref 97), (4, .int i)], [], M')) : jG jSH α cA vwCl D A s.heap 8 p l e R s m args below meth c cells slots Q (172, [(0, .ref 98), (1, .ref 0), (2, .ref 67), (3, .ref 97), (4, .int i)], [], M) := by
  have hc0 : cells ≤ R.cells ∧ slots ≤ R.slots := ⟨by omega, by omega⟩
  refine lw1 (E := eLw) C hc0 (ins := .aload_n 1) rfl rfl ?_
  refine lwS C X hc0 (k := 1) rfl rfl rfl rfl rfl rfl rfl (hin 1 (by decide) (by decide)) ?_
  refine lwS C X hc0 (k := 2) rfl rfl rfl rfl rfl rfl rfl (hin 2 (by decide) (by decide)) ?_
  refine lwS C X hc0 (k := 3) rfl rfl rfl rfl rfl rfl rfl (hin 3 (by decide) (by decide)) ?_
  refine lwS C X hc0 (k := 4) rfl rfl rfl rfl rfl rfl rfl (hin 4 (by decide) (by decide)) ?_
  refine lwS C X hc0 (k := 5) rfl rfl rfl rfl rfl rfl rfl (hin 5 (by decide) (by decide)) ?_
  refine lwV (E := eLw) C hc0 (idx := 48) (y := nX7_feed) (F := me_X7_feed) rfl rfl rfl (as' := [.int (xs (i + Int32.ofInt 1).toNatClampNeg), .int (xs (i + Int32.ofInt 2).toNatClampNeg), .int (xs (i + Int32.ofInt 3).toNatClampNeg), .int (xs (i + Int32.ofInt 4).toNatClampNeg), .int (xs (i + Int32.ofInt 5).toNatClampNeg)]) (rest := []) rfl rfl rfl (Nat.le_of_ble_eq_true rfl) (by decide) (by decide) (jGW_of (by decide +kernel)) (op_feed hM _ _ _ _ _) ?_
  rintro o M1 ⟨r, rfl, hev2⟩
  refine ⟨_, rfl, ?_⟩
  refine lw1 (E := eLw) C hc0 (ins := .aload_n 2) rfl rfl ?_
  refine lwS C X hc0 (k := 1) rfl rfl rfl rfl rfl rfl rfl (hin 1 (by decide) (by decide)) ?_
  refine lwS C X hc0 (k := 2) rfl rfl rfl rfl rfl rfl rfl (hin 2 (by decide) (by decide)) ?_
  refine lwS C X hc0 (k := 3) rfl rfl rfl rfl rfl rfl rfl (hin 3 (by decide) (by decide)) ?_
  refine lwS C X hc0 (k := 4) rfl rfl rfl rfl rfl rfl rfl (hin 4 (by decide) (by decide)) ?_
  refine lwS C X hc0 (k := 5) rfl rfl rfl rfl rfl rfl rfl (hin 5 (by decide) (by decide)) ?_
  refine lwV (E := eLw) C hc0 (idx := 52) (y := nX8_feed) (F := me_X8_feed) rfl rfl rfl (as' := [.int (xs (i + Int32.ofInt 1).toNatClampNeg), .int (xs (i + Int32.ofInt 2).toNatClampNeg), .int (xs (i + Int32.ofInt 3).toNatClampNeg), .int (xs (i + Int32.ofInt 4).toNatClampNeg), .int (xs (i + Int32.ofInt 5).toNatClampNeg)]) (rest := [.int r]) rfl rfl rfl (Nat.le_of_ble_eq_true rfl) (Nat.le_of_ble_eq_true rfl) (by decide) (jGW_of (by decide +kernel)) hev2 ?_
  rintro o M2 ⟨rfl, hI⟩
  refine ⟨_, rfl, ?_⟩
  refine lwEq C hc0 (off := 1280) (t := 1520) rfl rfl ?_
  exact lwwiden (E := eLw) (Nat.le_add_right _ _) (Nat.le_add_right _ _) (kk M2 hI)
set_option maxHeartbeats 4000000 in
set_option maxRecDepth 100000 in
theorem lc_end (C : lwC eLw lwI α cA D A p l R s m args c) (X : lwX α A s Ln xs) (hce : cells + 1 ≤ R.cells ∧ slots + 6 ≤ R.slots) (hR : 8 ≤ R.frames ∧ 264 ≤ R.locals) (hin : ∀ k : Int, 1 ≤ k → k ≤ 5 → vp_in (i + Int32.ofInt k) Ln) (hM : iInv M)
    (kk : ∀ M' : jM, iInv M' → jG jSH α cA vwCl D A s.heap 8 p l e R s m args below meth c (cells + 1) (slots + 6) Q (1520, [(0, .ref 98), (1, .ref 0), (2, .ref 67), (3, .ref 97), (4, .int i)], [], M')) : jG jSH α cA vwCl D A s.heap 8 p l e R s m args below meth c cells slots Q (245, [(0, .ref 98), (1, .ref 0), (2, .ref 67), (3, .ref 97), (4, .int i)], [], M) := by
  have hc0 : cells ≤ R.cells ∧ slots ≤ R.slots := ⟨by omega, by omega⟩
  refine lw1 (E := eLw) C hc0 (ins := .aload_n 1) rfl rfl ?_
  refine lwS C X hc0 (k := 1) rfl rfl rfl rfl rfl rfl rfl (hin 1 (by decide) (by decide)) ?_
  refine lwV (E := eLw) C hc0 (idx := 53) (y := nX7_end) (F := me_X7_end) rfl rfl rfl (as' := [.int (xs (i + Int32.ofInt 1).toNatClampNeg)]) (rest := []) rfl rfl rfl (Nat.le_of_ble_eq_true rfl) (by decide) (by decide) (jGW_of (by decide +kernel)) (op_end hM _) ?_
  rintro o M1 ⟨r, rfl, hev2⟩
  refine ⟨_, rfl, ?_⟩
  refine lw1 (E := eLw) C hc0 (ins := .aload_n 2) rfl rfl ?_
  refine lwS C X hc0 (k := 1) rfl rfl rfl rfl rfl rfl rfl (hin 1 (by decide) (by decide)) ?_
  refine lwV (E := eLw) C hc0 (idx := 57) (y := nX8_end) (F := me_X8_end) rfl rfl rfl (as' := [.int (xs (i + Int32.ofInt 1).toNatClampNeg)]) (rest := [.int r]) rfl rfl rfl (Nat.le_of_ble_eq_true rfl) (Nat.le_of_ble_eq_true rfl) (by decide) (jGW_of (by decide +kernel)) hev2 ?_
  rintro o M2 ⟨rfl, hI⟩
  refine ⟨_, rfl, ?_⟩
  refine lwEq C hc0 (off := 1255) (t := 1520) rfl rfl ?_
  exact lwwiden (E := eLw) (Nat.le_add_right _ _) (Nat.le_add_right _ _) (kk M2 hI)
set_option maxHeartbeats 4000000 in
set_option maxRecDepth 100000 in
theorem lc_rule (C : lwC eLw lwI α cA D A p l R s m args c) (X : lwX α A s Ln xs) (hce : cells + 1 ≤ R.cells ∧ slots + 6 ≤ R.slots) (hR : 8 ≤ R.frames ∧ 264 ≤ R.locals) (hin : ∀ k : Int, 1 ≤ k → k ≤ 5 → vp_in (i + Int32.ofInt k) Ln) (hM : iInv M)
    (kk : ∀ M' : jM, iInv M' → jG jSH α cA vwCl D A s.heap 8 p l e R s m args below meth c (cells + 1) (slots + 6) Q (1520, [(0, .ref 98), (1, .ref 0), (2, .ref 67), (3, .ref 97), (4, .int i)], [], M')) : jG jSH α cA vwCl D A s.heap 8 p l e R s m args below meth c cells slots Q (270, [(0, .ref 98), (1, .ref 0), (2, .ref 67), (3, .ref 97), (4, .int i)], [], M) := by
  have hc0 : cells ≤ R.cells ∧ slots ≤ R.slots := ⟨by omega, by omega⟩
  refine lw1 (E := eLw) C hc0 (ins := .aload_n 1) rfl rfl ?_
  refine lwS C X hc0 (k := 1) rfl rfl rfl rfl rfl rfl rfl (hin 1 (by decide) (by decide)) ?_
  refine lwS C X hc0 (k := 2) rfl rfl rfl rfl rfl rfl rfl (hin 2 (by decide) (by decide)) ?_
  refine lwS C X hc0 (k := 3) rfl rfl rfl rfl rfl rfl rfl (hin 3 (by decide) (by decide)) ?_
  refine lwS C X hc0 (k := 4) rfl rfl rfl rfl rfl rfl rfl (hin 4 (by decide) (by decide)) ?_
  refine lwS C X hc0 (k := 5) rfl rfl rfl rfl rfl rfl rfl (hin 5 (by decide) (by decide)) ?_
  refine lwV (E := eLw) C hc0 (idx := 58) (y := nX7_rule) (F := me_X7_rule) rfl rfl rfl (as' := [.int (xs (i + Int32.ofInt 1).toNatClampNeg), .int (xs (i + Int32.ofInt 2).toNatClampNeg), .int (xs (i + Int32.ofInt 3).toNatClampNeg), .int (xs (i + Int32.ofInt 4).toNatClampNeg), .int (xs (i + Int32.ofInt 5).toNatClampNeg)]) (rest := []) rfl rfl rfl (Nat.le_of_ble_eq_true rfl) (by decide) (by decide) (jGW_of (by decide +kernel)) (op_rule hM _ _ _ _ _) ?_
  rintro o M1 ⟨r, rfl, hev2⟩
  refine ⟨_, rfl, ?_⟩
  refine lw1 (E := eLw) C hc0 (ins := .aload_n 2) rfl rfl ?_
  refine lwS C X hc0 (k := 1) rfl rfl rfl rfl rfl rfl rfl (hin 1 (by decide) (by decide)) ?_
  refine lwS C X hc0 (k := 2) rfl rfl rfl rfl rfl rfl rfl (hin 2 (by decide) (by decide)) ?_
  refine lwS C X hc0 (k := 3) rfl rfl rfl rfl rfl rfl rfl (hin 3 (by decide) (by decide)) ?_
  refine lwS C X hc0 (k := 4) rfl rfl rfl rfl rfl rfl rfl (hin 4 (by decide) (by decide)) ?_
  refine lwS C X hc0 (k := 5) rfl rfl rfl rfl rfl rfl rfl (hin 5 (by decide) (by decide)) ?_
  refine lwV (E := eLw) C hc0 (idx := 62) (y := nX8_rule) (F := me_X8_rule) rfl rfl rfl (as' := [.int (xs (i + Int32.ofInt 1).toNatClampNeg), .int (xs (i + Int32.ofInt 2).toNatClampNeg), .int (xs (i + Int32.ofInt 3).toNatClampNeg), .int (xs (i + Int32.ofInt 4).toNatClampNeg), .int (xs (i + Int32.ofInt 5).toNatClampNeg)]) (rest := [.int r]) rfl rfl rfl (Nat.le_of_ble_eq_true rfl) (Nat.le_of_ble_eq_true rfl) (by decide) (jGW_of (by decide +kernel)) hev2 ?_
  rintro o M2 ⟨rfl, hI⟩
  refine ⟨_, rfl, ?_⟩
  refine lwEq C hc0 (off := 1182) (t := 1520) rfl rfl ?_
  exact lwwiden (E := eLw) (Nat.le_add_right _ _) (Nat.le_add_right _ _) (kk M2 hI)
set_option maxHeartbeats 4000000 in
set_option maxRecDepth 100000 in
theorem lc_steady (C : lwC eLw lwI α cA D A p l R s m args c) (X : lwX α A s Ln xs) (hce : cells + 1 ≤ R.cells ∧ slots + 6 ≤ R.slots) (hR : 8 ≤ R.frames ∧ 264 ≤ R.locals) (hin : ∀ k : Int, 1 ≤ k → k ≤ 5 → vp_in (i + Int32.ofInt k) Ln) (hM : iInv M)
    (kk : ∀ M' : jM, iInv M' → jG jSH α cA vwCl D A s.heap 8 p l e R s m args below meth c (cells + 1) (slots + 6) Q (1520, [(0, .ref 98), (1, .ref 0), (2, .ref 67), (3, .ref 97), (4, .int i)], [], M')) : jG jSH α cA vwCl D A s.heap 8 p l e R s m args below meth c cells slots Q (343, [(0, .ref 98), (1, .ref 0), (2, .ref 67), (3, .ref 97), (4, .int i)], [], M) := by
  have hc0 : cells ≤ R.cells ∧ slots ≤ R.slots := ⟨by omega, by omega⟩
  refine lw1 (E := eLw) C hc0 (ins := .aload_n 1) rfl rfl ?_
  refine lwS C X hc0 (k := 1) rfl rfl rfl rfl rfl rfl rfl (hin 1 (by decide) (by decide)) ?_
  refine lwV (E := eLw) C hc0 (idx := 63) (y := nX7_steady) (F := me_X7_steady) rfl rfl rfl (as' := [.int (xs (i + Int32.ofInt 1).toNatClampNeg)]) (rest := []) rfl rfl rfl (Nat.le_of_ble_eq_true rfl) (by decide) (by decide) (jGW_of (by decide +kernel)) (op_steady hM _) ?_
  rintro o M1 ⟨r, rfl, hev2⟩
  refine ⟨_, rfl, ?_⟩
  refine lw1 (E := eLw) C hc0 (ins := .aload_n 2) rfl rfl ?_
  refine lwS C X hc0 (k := 1) rfl rfl rfl rfl rfl rfl rfl (hin 1 (by decide) (by decide)) ?_
  refine lwV (E := eLw) C hc0 (idx := 67) (y := nX8_steady) (F := me_X8_steady) rfl rfl rfl (as' := [.int (xs (i + Int32.ofInt 1).toNatClampNeg)]) (rest := [.int r]) rfl rfl rfl (Nat.le_of_ble_eq_true rfl) (Nat.le_of_ble_eq_true rfl) (by decide) (jGW_of (by decide +kernel)) hev2 ?_
  rintro o M2 ⟨rfl, hI⟩
  refine ⟨_, rfl, ?_⟩
  refine lwEq C hc0 (off := 1157) (t := 1520) rfl rfl ?_
  exact lwwiden (E := eLw) (Nat.le_add_right _ _) (Nat.le_add_right _ _) (kk M2 hI)
set_option maxHeartbeats 4000000 in
set_option maxRecDepth 100000 in
theorem lc_clear (C : lwC eLw lwI α cA D A p l R s m args c) (X : lwX α A s Ln xs) (hce : cells + 1 ≤ R.cells ∧ slots + 6 ≤ R.slots) (hR : 8 ≤ R.frames ∧ 264 ≤ R.locals) (hin : ∀ k : Int, 1 ≤ k → k ≤ 5 → vp_in (i + Int32.ofInt k) Ln) (hM : iInv M)
    (kk : ∀ M' : jM, iInv M' → jG jSH α cA vwCl D A s.heap 8 p l e R s m args below meth c (cells + 1) (slots + 6) Q (1520, [(0, .ref 98), (1, .ref 0), (2, .ref 67), (3, .ref 97), (4, .int i)], [], M')) : jG jSH α cA vwCl D A s.heap 8 p l e R s m args below meth c cells slots Q (368, [(0, .ref 98), (1, .ref 0), (2, .ref 67), (3, .ref 97), (4, .int i)], [], M) := by
  have hc0 : cells ≤ R.cells ∧ slots ≤ R.slots := ⟨by omega, by omega⟩
  refine lw1 (E := eLw) C hc0 (ins := .aload_n 1) rfl rfl ?_
  refine lwS C X hc0 (k := 1) rfl rfl rfl rfl rfl rfl rfl (hin 1 (by decide) (by decide)) ?_
  refine lwV (E := eLw) C hc0 (idx := 68) (y := nX7_clear) (F := me_X7_clear) rfl rfl rfl (as' := [.int (xs (i + Int32.ofInt 1).toNatClampNeg)]) (rest := []) rfl rfl rfl (Nat.le_of_ble_eq_true rfl) (by decide) (by decide) (jGW_of (by decide +kernel)) (op_clear hM _) ?_
  rintro o M1 ⟨r, rfl, hev2⟩
  refine ⟨_, rfl, ?_⟩
  refine lw1 (E := eLw) C hc0 (ins := .aload_n 2) rfl rfl ?_
  refine lwS C X hc0 (k := 1) rfl rfl rfl rfl rfl rfl rfl (hin 1 (by decide) (by decide)) ?_
  refine lwV (E := eLw) C hc0 (idx := 71) (y := nX8_clear) (F := me_X8_clear) rfl rfl rfl (as' := [.int (xs (i + Int32.ofInt 1).toNatClampNeg)]) (rest := [.int r]) rfl rfl rfl (Nat.le_of_ble_eq_true rfl) (Nat.le_of_ble_eq_true rfl) (by decide) (jGW_of (by decide +kernel)) hev2 ?_
  rintro o M2 ⟨rfl, hI⟩
  refine ⟨_, rfl, ?_⟩
  refine lwEq C hc0 (off := 1132) (t := 1520) rfl rfl ?_
  exact lwwiden (E := eLw) (Nat.le_add_right _ _) (Nat.le_add_right _ _) (kk M2 hI)
set_option maxHeartbeats 4000000 in
set_option maxRecDepth 100000 in
theorem lc_weight (C : lwC eLw lwI α cA D A p l R s m args c) (X : lwX α A s Ln xs) (hce : cells + 1 ≤ R.cells ∧ slots + 6 ≤ R.slots) (hR : 8 ≤ R.frames ∧ 264 ≤ R.locals) (hin : ∀ k : Int, 1 ≤ k → k ≤ 5 → vp_in (i + Int32.ofInt k) Ln) (hM : iInv M)
    (kk : ∀ M' : jM, iInv M' → jG jSH α cA vwCl D A s.heap 8 p l e R s m args below meth c (cells + 1) (slots + 6) Q (1520, [(0, .ref 98), (1, .ref 0), (2, .ref 67), (3, .ref 97), (4, .int i)], [], M')) : jG jSH α cA vwCl D A s.heap 8 p l e R s m args below meth c cells slots Q (393, [(0, .ref 98), (1, .ref 0), (2, .ref 67), (3, .ref 97), (4, .int i)], [], M) := by
  have hc0 : cells ≤ R.cells ∧ slots ≤ R.slots := ⟨by omega, by omega⟩
  refine lw1 (E := eLw) C hc0 (ins := .aload_n 1) rfl rfl ?_
  refine lwS C X hc0 (k := 1) rfl rfl rfl rfl rfl rfl rfl (hin 1 (by decide) (by decide)) ?_
  refine lwS C X hc0 (k := 2) rfl rfl rfl rfl rfl rfl rfl (hin 2 (by decide) (by decide)) ?_
  refine lwS C X hc0 (k := 3) rfl rfl rfl rfl rfl rfl rfl (hin 3 (by decide) (by decide)) ?_
  refine lwZ C hc0 rfl rfl rfl rfl ?_
  refine lwS C X hc0 (k := 4) rfl rfl rfl rfl rfl rfl rfl (hin 4 (by decide) (by decide)) ?_
  refine lw1 (E := eLw) C hc0 (ins := .aload_n 3) rfl rfl ?_
  refine lwSX C hce hR (idx := 72) (y := yL_weight) (bytes := cL_weight) (maxL := 7) (n := 6) (hh := [(0, 13, 16, 13)]) (as := [.ref 0, .int (xs (i + Int32.ofInt 1).toNatClampNeg), .int (xs (i + Int32.ofInt 2).toNatClampNeg), .int (if (xs (i + Int32.ofInt 3).toNatClampNeg) = 0 then 0 else 1), .int (xs (i + Int32.ofInt 4).toNatClampNeg), .ref 97]) (rest := []) rfl (by decide) (h_weight (op_weight hM _ _ _ _) (fun o M1 h => h.elim (fun h => Or.inl h.1) (fun ⟨v, h, _⟩ => Or.inr ⟨v, h⟩)) C.2.1 l C.2.2.2.2.2.2.2) rfl (by decide) rfl (jGW_of (by decide +kernel)) (jGW_of (by decide +kernel)) (jGW_of (by decide +kernel)) (jGW_of (by decide +kernel)) (by decide +kernel) ?_
  intro r M1 hr
  rcases hr with ⟨rfl, hK⟩ | ⟨rfl, v, M0, hK, rfl⟩
  · rcases hK with ⟨_, hev2⟩ | ⟨v, h, _⟩
    rotate_left
    · cases h
    refine lw1 (E := eLw) C hce (ins := .istore 5) rfl rfl ?_
    refine lw1 (E := eLw) C hce (ins := .aload_n 2) rfl rfl ?_
    refine lwS C X hce (k := 1) rfl rfl rfl rfl rfl rfl rfl (hin 1 (by decide) (by decide)) ?_
    refine lwS C X hce (k := 2) rfl rfl rfl rfl rfl rfl rfl (hin 2 (by decide) (by decide)) ?_
    refine lwS C X hce (k := 3) rfl rfl rfl rfl rfl rfl rfl (hin 3 (by decide) (by decide)) ?_
    refine lwZ C hce rfl rfl rfl rfl ?_
    refine lwS C X hce (k := 4) rfl rfl rfl rfl rfl rfl rfl (hin 4 (by decide) (by decide)) ?_
    refine lwV (E := eLw) C hce (idx := 77) (y := nX8_weight) (F := me_X8_weight) rfl rfl rfl (as' := [.int (xs (i + Int32.ofInt 1).toNatClampNeg), .int (xs (i + Int32.ofInt 2).toNatClampNeg), .int (if (xs (i + Int32.ofInt 3).toNatClampNeg) = 0 then 0 else 1), .int (xs (i + Int32.ofInt 4).toNatClampNeg)]) (rest := []) rfl rfl rfl (Nat.le_of_ble_eq_true rfl) (by decide) (by decide) (jGW_of (by decide +kernel)) hev2 ?_
    rintro o M2 ⟨b, rfl, h67, hI⟩
    refine ⟨_, rfl, ?_⟩
    exact lwTl C hce (off := 1023) rfl rfl rfl rfl rfl rfl rfl rfl rfl rfl rfl rfl rfl rfl rfl h67 (Or.inl rfl) (kk M2 hI)
  · rcases hK with ⟨h, _⟩ | ⟨v2, h, hev2⟩
    · cases h
    cases h
    refine lw1 (E := eLw) C hce (ins := .istore 5) rfl rfl ?_
    refine lw1 (E := eLw) C hce (ins := .aload_n 2) rfl rfl ?_
    refine lwS C X hce (k := 1) rfl rfl rfl rfl rfl rfl rfl (hin 1 (by decide) (by decide)) ?_
    refine lwS C X hce (k := 2) rfl rfl rfl rfl rfl rfl rfl (hin 2 (by decide) (by decide)) ?_
    refine lwS C X hce (k := 3) rfl rfl rfl rfl rfl rfl rfl (hin 3 (by decide) (by decide)) ?_
    refine lwZ C hce rfl rfl rfl rfl ?_
    refine lwS C X hce (k := 4) rfl rfl rfl rfl rfl rfl rfl (hin 4 (by decide) (by decide)) ?_
    refine lwV (E := eLw) C hce (idx := 77) (y := nX8_weight) (F := me_X8_weight) rfl rfl rfl (as' := [.int (xs (i + Int32.ofInt 1).toNatClampNeg), .int (xs (i + Int32.ofInt 2).toNatClampNeg), .int (if (xs (i + Int32.ofInt 3).toNatClampNeg) = 0 then 0 else 1), .int (xs (i + Int32.ofInt 4).toNatClampNeg)]) (rest := []) rfl rfl rfl (Nat.le_of_ble_eq_true rfl) (by decide) (by decide) (jGW_of (by decide +kernel)) hev2 ?_
    rintro o M2 ⟨rfl, h67, h97, hI⟩
    refine ⟨_, rfl, ?_⟩
    exact lwTl C hce (off := 1023) rfl rfl rfl rfl rfl rfl rfl rfl rfl rfl rfl rfl rfl rfl rfl h67 (Or.inr ⟨rfl, h97⟩) (kk M2 hI)
set_option maxHeartbeats 4000000 in
set_option maxRecDepth 100000 in
theorem lc_like (C : lwC eLw lwI α cA D A p l R s m args c) (X : lwX α A s Ln xs) (hce : cells + 1 ≤ R.cells ∧ slots + 6 ≤ R.slots) (hR : 8 ≤ R.frames ∧ 264 ≤ R.locals) (hin : ∀ k : Int, 1 ≤ k → k ≤ 5 → vp_in (i + Int32.ofInt k) Ln) (hM : iInv M)
    (kk : ∀ M' : jM, iInv M' → jG jSH α cA vwCl D A s.heap 8 p l e R s m args below meth c (cells + 1) (slots + 6) Q (1520, [(0, .ref 98), (1, .ref 0), (2, .ref 67), (3, .ref 97), (4, .int i)], [], M')) : jG jSH α cA vwCl D A s.heap 8 p l e R s m args below meth c cells slots Q (500, [(0, .ref 98), (1, .ref 0), (2, .ref 67), (3, .ref 97), (4, .int i)], [], M) := by
  have hc0 : cells ≤ R.cells ∧ slots ≤ R.slots := ⟨by omega, by omega⟩
  refine lw1 (E := eLw) C hc0 (ins := .aload_n 1) rfl rfl ?_
  refine lwS C X hc0 (k := 1) rfl rfl rfl rfl rfl rfl rfl (hin 1 (by decide) (by decide)) ?_
  refine lwS C X hc0 (k := 2) rfl rfl rfl rfl rfl rfl rfl (hin 2 (by decide) (by decide)) ?_
  refine lwS C X hc0 (k := 3) rfl rfl rfl rfl rfl rfl rfl (hin 3 (by decide) (by decide)) ?_
  refine lw1 (E := eLw) C hc0 (ins := .aload_n 3) rfl rfl ?_
  refine lwSX C hce hR (idx := 82) (y := yL_like) (bytes := cL_like) (maxL := 6) (n := 5) (hh := [(0, 11, 14, 13)]) (as := [.ref 0, .int (xs (i + Int32.ofInt 1).toNatClampNeg), .int (xs (i + Int32.ofInt 2).toNatClampNeg), .int (xs (i + Int32.ofInt 3).toNatClampNeg), .ref 97]) (rest := []) rfl (by decide) (h_like (op_like hM _ _ _) (fun o M1 h => h.elim (fun h => Or.inl h.1) (fun ⟨v, h, _⟩ => Or.inr ⟨v, h⟩)) C.2.1 l C.2.2.2.2.2.2.2) rfl (by decide) rfl (jGW_of (by decide +kernel)) (jGW_of (by decide +kernel)) (jGW_of (by decide +kernel)) (jGW_of (by decide +kernel)) (by decide +kernel) ?_
  intro r M1 hr
  rcases hr with ⟨rfl, hK⟩ | ⟨rfl, v, M0, hK, rfl⟩
  · rcases hK with ⟨_, hev2⟩ | ⟨v, h, _⟩
    rotate_left
    · cases h
    refine lw1 (E := eLw) C hce (ins := .istore 5) rfl rfl ?_
    refine lw1 (E := eLw) C hce (ins := .aload_n 2) rfl rfl ?_
    refine lwS C X hce (k := 1) rfl rfl rfl rfl rfl rfl rfl (hin 1 (by decide) (by decide)) ?_
    refine lwS C X hce (k := 2) rfl rfl rfl rfl rfl rfl rfl (hin 2 (by decide) (by decide)) ?_
    refine lwS C X hce (k := 3) rfl rfl rfl rfl rfl rfl rfl (hin 3 (by decide) (by decide)) ?_
    refine lwV (E := eLw) C hce (idx := 85) (y := nX8_like) (F := me_X8_like) rfl rfl rfl (as' := [.int (xs (i + Int32.ofInt 1).toNatClampNeg), .int (xs (i + Int32.ofInt 2).toNatClampNeg), .int (xs (i + Int32.ofInt 3).toNatClampNeg)]) (rest := []) rfl rfl rfl (Nat.le_of_ble_eq_true rfl) (by decide) (by decide) (jGW_of (by decide +kernel)) hev2 ?_
    rintro o M2 ⟨b, rfl, h67, hI⟩
    refine ⟨_, rfl, ?_⟩
    exact lwTl C hce (off := 944) rfl rfl rfl rfl rfl rfl rfl rfl rfl rfl rfl rfl rfl rfl rfl h67 (Or.inl rfl) (kk M2 hI)
  · rcases hK with ⟨h, _⟩ | ⟨v2, h, hev2⟩
    · cases h
    cases h
    refine lw1 (E := eLw) C hce (ins := .istore 5) rfl rfl ?_
    refine lw1 (E := eLw) C hce (ins := .aload_n 2) rfl rfl ?_
    refine lwS C X hce (k := 1) rfl rfl rfl rfl rfl rfl rfl (hin 1 (by decide) (by decide)) ?_
    refine lwS C X hce (k := 2) rfl rfl rfl rfl rfl rfl rfl (hin 2 (by decide) (by decide)) ?_
    refine lwS C X hce (k := 3) rfl rfl rfl rfl rfl rfl rfl (hin 3 (by decide) (by decide)) ?_
    refine lwV (E := eLw) C hce (idx := 85) (y := nX8_like) (F := me_X8_like) rfl rfl rfl (as' := [.int (xs (i + Int32.ofInt 1).toNatClampNeg), .int (xs (i + Int32.ofInt 2).toNatClampNeg), .int (xs (i + Int32.ofInt 3).toNatClampNeg)]) (rest := []) rfl rfl rfl (Nat.le_of_ble_eq_true rfl) (by decide) (by decide) (jGW_of (by decide +kernel)) hev2 ?_
    rintro o M2 ⟨rfl, h67, h97, hI⟩
    refine ⟨_, rfl, ?_⟩
    exact lwTl C hce (off := 944) rfl rfl rfl rfl rfl rfl rfl rfl rfl rfl rfl rfl rfl rfl rfl h67 (Or.inr ⟨rfl, h97⟩) (kk M2 hI)
set_option maxHeartbeats 4000000 in
set_option maxRecDepth 100000 in
theorem lc_same (C : lwC eLw lwI α cA D A p l R s m args c) (X : lwX α A s Ln xs) (hce : cells + 1 ≤ R.cells ∧ slots + 6 ≤ R.slots) (hR : 8 ≤ R.frames ∧ 264 ≤ R.locals) (hin : ∀ k : Int, 1 ≤ k → k ≤ 5 → vp_in (i + Int32.ofInt k) Ln) (hM : iInv M)
    (kk : ∀ M' : jM, iInv M' → jG jSH α cA vwCl D A s.heap 8 p l e R s m args below meth c (cells + 1) (slots + 6) Q (1520, [(0, .ref 98), (1, .ref 0), (2, .ref 67), (3, .ref 97), (4, .int i)], [], M')) : jG jSH α cA vwCl D A s.heap 8 p l e R s m args below meth c cells slots Q (579, [(0, .ref 98), (1, .ref 0), (2, .ref 67), (3, .ref 97), (4, .int i)], [], M) := by
  have hc0 : cells ≤ R.cells ∧ slots ≤ R.slots := ⟨by omega, by omega⟩
  refine lw1 (E := eLw) C hc0 (ins := .aload_n 1) rfl rfl ?_
  refine lwS C X hc0 (k := 1) rfl rfl rfl rfl rfl rfl rfl (hin 1 (by decide) (by decide)) ?_
  refine lwS C X hc0 (k := 2) rfl rfl rfl rfl rfl rfl rfl (hin 2 (by decide) (by decide)) ?_
  refine lwV (E := eLw) C hc0 (idx := 86) (y := nX7_same) (F := me_X7_same) rfl rfl rfl (as' := [.int (xs (i + Int32.ofInt 1).toNatClampNeg), .int (xs (i + Int32.ofInt 2).toNatClampNeg)]) (rest := []) rfl rfl rfl (Nat.le_of_ble_eq_true rfl) (by decide) (by decide) (jGW_of (by decide +kernel)) (op_same hM _ _) ?_
  rintro o M1 ⟨r, rfl, hev2⟩
  refine ⟨_, rfl, ?_⟩
  refine lw1 (E := eLw) C hc0 (ins := .aload_n 2) rfl rfl ?_
  refine lwS C X hc0 (k := 1) rfl rfl rfl rfl rfl rfl rfl (hin 1 (by decide) (by decide)) ?_
  refine lwS C X hc0 (k := 2) rfl rfl rfl rfl rfl rfl rfl (hin 2 (by decide) (by decide)) ?_
  refine lwV (E := eLw) C hc0 (idx := 89) (y := nX8_same) (F := me_X8_same) rfl rfl rfl (as' := [.int (xs (i + Int32.ofInt 1).toNatClampNeg), .int (xs (i + Int32.ofInt 2).toNatClampNeg)]) (rest := [.int r]) rfl rfl rfl (Nat.le_of_ble_eq_true rfl) (Nat.le_of_ble_eq_true rfl) (by decide) (jGW_of (by decide +kernel)) hev2 ?_
  rintro o M2 ⟨rfl, hI⟩
  refine ⟨_, rfl, ?_⟩
  refine lwEq C hc0 (off := 909) (t := 1520) rfl rfl ?_
  exact lwwiden (E := eLw) (Nat.le_add_right _ _) (Nat.le_add_right _ _) (kk M2 hI)
set_option maxHeartbeats 4000000 in
set_option maxRecDepth 100000 in
theorem lc_given (C : lwC eLw lwI α cA D A p l R s m args c) (X : lwX α A s Ln xs) (hce : cells + 1 ≤ R.cells ∧ slots + 6 ≤ R.slots) (hR : 8 ≤ R.frames ∧ 264 ≤ R.locals) (hin : ∀ k : Int, 1 ≤ k → k ≤ 5 → vp_in (i + Int32.ofInt k) Ln) (hM : iInv M)
    (kk : ∀ M' : jM, iInv M' → jG jSH α cA vwCl D A s.heap 8 p l e R s m args below meth c (cells + 1) (slots + 6) Q (1520, [(0, .ref 98), (1, .ref 0), (2, .ref 67), (3, .ref 97), (4, .int i)], [], M')) : jG jSH α cA vwCl D A s.heap 8 p l e R s m args below meth c cells slots Q (616, [(0, .ref 98), (1, .ref 0), (2, .ref 67), (3, .ref 97), (4, .int i)], [], M) := by
  have hc0 : cells ≤ R.cells ∧ slots ≤ R.slots := ⟨by omega, by omega⟩
  refine lw1 (E := eLw) C hc0 (ins := .aload_n 1) rfl rfl ?_
  refine lwS C X hc0 (k := 1) rfl rfl rfl rfl rfl rfl rfl (hin 1 (by decide) (by decide)) ?_
  refine lwV (E := eLw) C hc0 (idx := 90) (y := nX7_given) (F := me_X7_given) rfl rfl rfl (as' := [.int (xs (i + Int32.ofInt 1).toNatClampNeg)]) (rest := []) rfl rfl rfl (Nat.le_of_ble_eq_true rfl) (by decide) (by decide) (jGW_of (by decide +kernel)) (op_given hM _) ?_
  rintro o M1 ⟨r, rfl, hev2⟩
  refine ⟨_, rfl, ?_⟩
  refine lw1 (E := eLw) C hc0 (ins := .aload_n 2) rfl rfl ?_
  refine lwS C X hc0 (k := 1) rfl rfl rfl rfl rfl rfl rfl (hin 1 (by decide) (by decide)) ?_
  refine lwV (E := eLw) C hc0 (idx := 93) (y := nX8_given) (F := me_X8_given) rfl rfl rfl (as' := [.int (xs (i + Int32.ofInt 1).toNatClampNeg)]) (rest := [.int r]) rfl rfl rfl (Nat.le_of_ble_eq_true rfl) (Nat.le_of_ble_eq_true rfl) (by decide) (jGW_of (by decide +kernel)) hev2 ?_
  rintro o M2 ⟨rfl, hI⟩
  refine ⟨_, rfl, ?_⟩
  refine lwEq C hc0 (off := 884) (t := 1520) rfl rfl ?_
  exact lwwiden (E := eLw) (Nat.le_add_right _ _) (Nat.le_add_right _ _) (kk M2 hI)
set_option maxHeartbeats 4000000 in
set_option maxRecDepth 100000 in
theorem lc_counted (C : lwC eLw lwI α cA D A p l R s m args c) (X : lwX α A s Ln xs) (hce : cells + 1 ≤ R.cells ∧ slots + 6 ≤ R.slots) (hR : 8 ≤ R.frames ∧ 264 ≤ R.locals) (hin : ∀ k : Int, 1 ≤ k → k ≤ 5 → vp_in (i + Int32.ofInt k) Ln) (hM : iInv M)
    (kk : ∀ M' : jM, iInv M' → jG jSH α cA vwCl D A s.heap 8 p l e R s m args below meth c (cells + 1) (slots + 6) Q (1520, [(0, .ref 98), (1, .ref 0), (2, .ref 67), (3, .ref 97), (4, .int i)], [], M')) : jG jSH α cA vwCl D A s.heap 8 p l e R s m args below meth c cells slots Q (641, [(0, .ref 98), (1, .ref 0), (2, .ref 67), (3, .ref 97), (4, .int i)], [], M) := by
  have hc0 : cells ≤ R.cells ∧ slots ≤ R.slots := ⟨by omega, by omega⟩
  refine lw1 (E := eLw) C hc0 (ins := .aload_n 1) rfl rfl ?_
  refine lwS C X hc0 (k := 1) rfl rfl rfl rfl rfl rfl rfl (hin 1 (by decide) (by decide)) ?_
  refine lwS C X hc0 (k := 2) rfl rfl rfl rfl rfl rfl rfl (hin 2 (by decide) (by decide)) ?_
  refine lwV (E := eLw) C hc0 (idx := 94) (y := nX7_counted) (F := me_X7_counted) rfl rfl rfl (as' := [.int (xs (i + Int32.ofInt 1).toNatClampNeg), .int (xs (i + Int32.ofInt 2).toNatClampNeg)]) (rest := []) rfl rfl rfl (Nat.le_of_ble_eq_true rfl) (by decide) (by decide) (jGW_of (by decide +kernel)) (op_counted hM _ _) ?_
  rintro o M1 ⟨r, rfl, hev2⟩
  refine ⟨_, rfl, ?_⟩
  refine lw1 (E := eLw) C hc0 (ins := .aload_n 2) rfl rfl ?_
  refine lwS C X hc0 (k := 1) rfl rfl rfl rfl rfl rfl rfl (hin 1 (by decide) (by decide)) ?_
  refine lwS C X hc0 (k := 2) rfl rfl rfl rfl rfl rfl rfl (hin 2 (by decide) (by decide)) ?_
  refine lwV (E := eLw) C hc0 (idx := 98) (y := nX8_counted) (F := me_X8_counted) rfl rfl rfl (as' := [.int (xs (i + Int32.ofInt 1).toNatClampNeg), .int (xs (i + Int32.ofInt 2).toNatClampNeg)]) (rest := [.int r]) rfl rfl rfl (Nat.le_of_ble_eq_true rfl) (Nat.le_of_ble_eq_true rfl) (by decide) (jGW_of (by decide +kernel)) hev2 ?_
  rintro o M2 ⟨rfl, hI⟩
  refine ⟨_, rfl, ?_⟩
  refine lwEq C hc0 (off := 847) (t := 1520) rfl rfl ?_
  exact lwwiden (E := eLw) (Nat.le_add_right _ _) (Nat.le_add_right _ _) (kk M2 hI)
set_option maxHeartbeats 4000000 in
set_option maxRecDepth 100000 in
theorem lc_joined (C : lwC eLw lwI α cA D A p l R s m args c) (X : lwX α A s Ln xs) (hce : cells + 1 ≤ R.cells ∧ slots + 6 ≤ R.slots) (hR : 8 ≤ R.frames ∧ 264 ≤ R.locals) (hin : ∀ k : Int, 1 ≤ k → k ≤ 5 → vp_in (i + Int32.ofInt k) Ln) (hM : iInv M)
    (kk : ∀ M' : jM, iInv M' → jG jSH α cA vwCl D A s.heap 8 p l e R s m args below meth c (cells + 1) (slots + 6) Q (1520, [(0, .ref 98), (1, .ref 0), (2, .ref 67), (3, .ref 97), (4, .int i)], [], M')) : jG jSH α cA vwCl D A s.heap 8 p l e R s m args below meth c cells slots Q (678, [(0, .ref 98), (1, .ref 0), (2, .ref 67), (3, .ref 97), (4, .int i)], [], M) := by
  have hc0 : cells ≤ R.cells ∧ slots ≤ R.slots := ⟨by omega, by omega⟩
  refine lw1 (E := eLw) C hc0 (ins := .aload_n 1) rfl rfl ?_
  refine lwS C X hc0 (k := 1) rfl rfl rfl rfl rfl rfl rfl (hin 1 (by decide) (by decide)) ?_
  refine lwS C X hc0 (k := 2) rfl rfl rfl rfl rfl rfl rfl (hin 2 (by decide) (by decide)) ?_
  refine lwS C X hc0 (k := 3) rfl rfl rfl rfl rfl rfl rfl (hin 3 (by decide) (by decide)) ?_
  refine lwV (E := eLw) C hc0 (idx := 99) (y := nX7_joined) (F := me_X7_joined) rfl rfl rfl (as' := [.int (xs (i + Int32.ofInt 1).toNatClampNeg), .int (xs (i + Int32.ofInt 2).toNatClampNeg), .int (xs (i + Int32.ofInt 3).toNatClampNeg)]) (rest := []) rfl rfl rfl (Nat.le_of_ble_eq_true rfl) (by decide) (by decide) (jGW_of (by decide +kernel)) (op_joined hM _ _ _) ?_
  rintro o M1 ⟨r, rfl, hev2⟩
  refine ⟨_, rfl, ?_⟩
  refine lw1 (E := eLw) C hc0 (ins := .aload_n 2) rfl rfl ?_
  refine lwS C X hc0 (k := 1) rfl rfl rfl rfl rfl rfl rfl (hin 1 (by decide) (by decide)) ?_
  refine lwS C X hc0 (k := 2) rfl rfl rfl rfl rfl rfl rfl (hin 2 (by decide) (by decide)) ?_
  refine lwS C X hc0 (k := 3) rfl rfl rfl rfl rfl rfl rfl (hin 3 (by decide) (by decide)) ?_
  refine lwV (E := eLw) C hc0 (idx := 103) (y := nX8_joined) (F := me_X8_joined) rfl rfl rfl (as' := [.int (xs (i + Int32.ofInt 1).toNatClampNeg), .int (xs (i + Int32.ofInt 2).toNatClampNeg), .int (xs (i + Int32.ofInt 3).toNatClampNeg)]) (rest := [.int r]) rfl rfl rfl (Nat.le_of_ble_eq_true rfl) (Nat.le_of_ble_eq_true rfl) (by decide) (jGW_of (by decide +kernel)) hev2 ?_
  rintro o M2 ⟨rfl, hI⟩
  refine ⟨_, rfl, ?_⟩
  refine lwEq C hc0 (off := 798) (t := 1520) rfl rfl ?_
  exact lwwiden (E := eLw) (Nat.le_add_right _ _) (Nat.le_add_right _ _) (kk M2 hI)
set_option maxHeartbeats 4000000 in
set_option maxRecDepth 100000 in
theorem lc_thin (C : lwC eLw lwI α cA D A p l R s m args c) (X : lwX α A s Ln xs) (hce : cells + 1 ≤ R.cells ∧ slots + 6 ≤ R.slots) (hR : 8 ≤ R.frames ∧ 264 ≤ R.locals) (hin : ∀ k : Int, 1 ≤ k → k ≤ 5 → vp_in (i + Int32.ofInt k) Ln) (hM : iInv M)
    (kk : ∀ M' : jM, iInv M' → jG jSH α cA vwCl D A s.heap 8 p l e R s m args below meth c (cells + 1) (slots + 6) Q (1520, [(0, .ref 98), (1, .ref 0), (2, .ref 67), (3, .ref 97), (4, .int i)], [], M')) : jG jSH α cA vwCl D A s.heap 8 p l e R s m args below meth c cells slots Q (727, [(0, .ref 98), (1, .ref 0), (2, .ref 67), (3, .ref 97), (4, .int i)], [], M) := by
  have hc0 : cells ≤ R.cells ∧ slots ≤ R.slots := ⟨by omega, by omega⟩
  refine lw1 (E := eLw) C hc0 (ins := .aload_n 1) rfl rfl ?_
  refine lwS C X hc0 (k := 1) rfl rfl rfl rfl rfl rfl rfl (hin 1 (by decide) (by decide)) ?_
  refine lwS C X hc0 (k := 2) rfl rfl rfl rfl rfl rfl rfl (hin 2 (by decide) (by decide)) ?_
  refine lwV (E := eLw) C hc0 (idx := 104) (y := nX7_thin) (F := me_X7_thin) rfl rfl rfl (as' := [.int (xs (i + Int32.ofInt 1).toNatClampNeg), .int (xs (i + Int32.ofInt 2).toNatClampNeg)]) (rest := []) rfl rfl rfl (Nat.le_of_ble_eq_true rfl) (by decide) (by decide) (jGW_of (by decide +kernel)) (op_thin hM _ _) ?_
  rintro o M1 ⟨r, rfl, hev2⟩
  refine ⟨_, rfl, ?_⟩
  refine lw1 (E := eLw) C hc0 (ins := .aload_n 2) rfl rfl ?_
  refine lwS C X hc0 (k := 1) rfl rfl rfl rfl rfl rfl rfl (hin 1 (by decide) (by decide)) ?_
  refine lwS C X hc0 (k := 2) rfl rfl rfl rfl rfl rfl rfl (hin 2 (by decide) (by decide)) ?_
  refine lwV (E := eLw) C hc0 (idx := 107) (y := nX8_thin) (F := me_X8_thin) rfl rfl rfl (as' := [.int (xs (i + Int32.ofInt 1).toNatClampNeg), .int (xs (i + Int32.ofInt 2).toNatClampNeg)]) (rest := [.int r]) rfl rfl rfl (Nat.le_of_ble_eq_true rfl) (Nat.le_of_ble_eq_true rfl) (by decide) (jGW_of (by decide +kernel)) hev2 ?_
  rintro o M2 ⟨rfl, hI⟩
  refine ⟨_, rfl, ?_⟩
  refine lwEq C hc0 (off := 761) (t := 1520) rfl rfl ?_
  exact lwwiden (E := eLw) (Nat.le_add_right _ _) (Nat.le_add_right _ _) (kk M2 hI)
set_option maxHeartbeats 4000000 in
set_option maxRecDepth 100000 in
theorem lc_likeness (C : lwC eLw lwI α cA D A p l R s m args c) (X : lwX α A s Ln xs) (hce : cells + 1 ≤ R.cells ∧ slots + 6 ≤ R.slots) (hR : 8 ≤ R.frames ∧ 264 ≤ R.locals) (hin : ∀ k : Int, 1 ≤ k → k ≤ 5 → vp_in (i + Int32.ofInt k) Ln) (hM : iInv M)
    (kk : ∀ M' : jM, iInv M' → jG jSH α cA vwCl D A s.heap 8 p l e R s m args below meth c (cells + 1) (slots + 6) Q (1520, [(0, .ref 98), (1, .ref 0), (2, .ref 67), (3, .ref 97), (4, .int i)], [], M')) : jG jSH α cA vwCl D A s.heap 8 p l e R s m args below meth c cells slots Q (764, [(0, .ref 98), (1, .ref 0), (2, .ref 67), (3, .ref 97), (4, .int i)], [], M) := by
  have hc0 : cells ≤ R.cells ∧ slots ≤ R.slots := ⟨by omega, by omega⟩
  refine lw1 (E := eLw) C hc0 (ins := .aload_n 1) rfl rfl ?_
  refine lwS C X hc0 (k := 1) rfl rfl rfl rfl rfl rfl rfl (hin 1 (by decide) (by decide)) ?_
  refine lwS C X hc0 (k := 2) rfl rfl rfl rfl rfl rfl rfl (hin 2 (by decide) (by decide)) ?_
  refine lw1 (E := eLw) C hc0 (ins := .aload_n 3) rfl rfl ?_
  refine lwSX C hce hR (idx := 108) (y := yL_likeness) (bytes := cL_likeness) (maxL := 5) (n := 4) (hh := [(0, 10, 13, 13)]) (as := [.ref 0, .int (xs (i + Int32.ofInt 1).toNatClampNeg), .int (xs (i + Int32.ofInt 2).toNatClampNeg), .ref 97]) (rest := []) rfl (by decide) (h_likeness (op_likeness hM _ _) (fun o M1 h => h.elim (fun h => Or.inl h.1) (fun ⟨v, h, _⟩ => Or.inr ⟨v, h⟩)) C.2.1 l C.2.2.2.2.2.2.2) rfl (by decide) rfl (jGW_of (by decide +kernel)) (jGW_of (by decide +kernel)) (jGW_of (by decide +kernel)) (jGW_of (by decide +kernel)) (by decide +kernel) ?_
  intro r M1 hr
  rcases hr with ⟨rfl, hK⟩ | ⟨rfl, v, M0, hK, rfl⟩
  · rcases hK with ⟨_, hev2⟩ | ⟨v, h, _⟩
    rotate_left
    · cases h
    refine lw1 (E := eLw) C hce (ins := .istore 5) rfl rfl ?_
    refine lw1 (E := eLw) C hce (ins := .aload_n 2) rfl rfl ?_
    refine lwS C X hce (k := 1) rfl rfl rfl rfl rfl rfl rfl (hin 1 (by decide) (by decide)) ?_
    refine lwS C X hce (k := 2) rfl rfl rfl rfl rfl rfl rfl (hin 2 (by decide) (by decide)) ?_
    refine lwV (E := eLw) C hce (idx := 111) (y := nX8_likeness) (F := me_X8_likeness) rfl rfl rfl (as' := [.int (xs (i + Int32.ofInt 1).toNatClampNeg), .int (xs (i + Int32.ofInt 2).toNatClampNeg)]) (rest := []) rfl rfl rfl (Nat.le_of_ble_eq_true rfl) (by decide) (by decide) (jGW_of (by decide +kernel)) hev2 ?_
    rintro o M2 ⟨b, rfl, h67, hI⟩
    refine ⟨_, rfl, ?_⟩
    exact lwTi C hce (off := 691) rfl rfl rfl rfl rfl rfl rfl rfl rfl rfl rfl rfl rfl rfl rfl rfl h67 (Or.inl rfl) (kk M2 hI)
  · rcases hK with ⟨h, _⟩ | ⟨v2, h, hev2⟩
    · cases h
    cases h
    refine lw1 (E := eLw) C hce (ins := .istore 5) rfl rfl ?_
    refine lw1 (E := eLw) C hce (ins := .aload_n 2) rfl rfl ?_
    refine lwS C X hce (k := 1) rfl rfl rfl rfl rfl rfl rfl (hin 1 (by decide) (by decide)) ?_
    refine lwS C X hce (k := 2) rfl rfl rfl rfl rfl rfl rfl (hin 2 (by decide) (by decide)) ?_
    refine lwV (E := eLw) C hce (idx := 111) (y := nX8_likeness) (F := me_X8_likeness) rfl rfl rfl (as' := [.int (xs (i + Int32.ofInt 1).toNatClampNeg), .int (xs (i + Int32.ofInt 2).toNatClampNeg)]) (rest := []) rfl rfl rfl (Nat.le_of_ble_eq_true rfl) (by decide) (by decide) (jGW_of (by decide +kernel)) hev2 ?_
    rintro o M2 ⟨rfl, h67, h97, hI⟩
    refine ⟨_, rfl, ?_⟩
    exact lwTi C hce (off := 691) rfl rfl rfl rfl rfl rfl rfl rfl rfl rfl rfl rfl rfl rfl rfl rfl h67 (Or.inr ⟨rfl, h97⟩) (kk M2 hI)
set_option maxHeartbeats 4000000 in
set_option maxRecDepth 100000 in
theorem lc_steps (C : lwC eLw lwI α cA D A p l R s m args c) (X : lwX α A s Ln xs) (hce : cells + 1 ≤ R.cells ∧ slots + 6 ≤ R.slots) (hR : 8 ≤ R.frames ∧ 264 ≤ R.locals) (hin : ∀ k : Int, 1 ≤ k → k ≤ 5 → vp_in (i + Int32.ofInt k) Ln) (hM : iInv M)
    (kk : ∀ M' : jM, iInv M' → jG jSH α cA vwCl D A s.heap 8 p l e R s m args below meth c (cells + 1) (slots + 6) Q (1520, [(0, .ref 98), (1, .ref 0), (2, .ref 67), (3, .ref 97), (4, .int i)], [], M')) : jG jSH α cA vwCl D A s.heap 8 p l e R s m args below meth c cells slots Q (832, [(0, .ref 98), (1, .ref 0), (2, .ref 67), (3, .ref 97), (4, .int i)], [], M) := by
  have hc0 : cells ≤ R.cells ∧ slots ≤ R.slots := ⟨by omega, by omega⟩
  refine lw1 (E := eLw) C hc0 (ins := .aload_n 1) rfl rfl ?_
  refine lwS C X hc0 (k := 1) rfl rfl rfl rfl rfl rfl rfl (hin 1 (by decide) (by decide)) ?_
  refine lwV (E := eLw) C hc0 (idx := 112) (y := nX7_steps) (F := me_X7_steps) rfl rfl rfl (as' := [.int (xs (i + Int32.ofInt 1).toNatClampNeg)]) (rest := []) rfl rfl rfl (Nat.le_of_ble_eq_true rfl) (by decide) (by decide) (jGW_of (by decide +kernel)) (op_steps hM _) ?_
  rintro o M1 ⟨r, rfl, hev2⟩
  refine ⟨_, rfl, ?_⟩
  refine lw1 (E := eLw) C hc0 (ins := .aload_n 2) rfl rfl ?_
  refine lwS C X hc0 (k := 1) rfl rfl rfl rfl rfl rfl rfl (hin 1 (by decide) (by decide)) ?_
  refine lwV (E := eLw) C hc0 (idx := 115) (y := nX8_steps) (F := me_X8_steps) rfl rfl rfl (as' := [.int (xs (i + Int32.ofInt 1).toNatClampNeg)]) (rest := [.int r]) rfl rfl rfl (Nat.le_of_ble_eq_true rfl) (Nat.le_of_ble_eq_true rfl) (by decide) (jGW_of (by decide +kernel)) hev2 ?_
  rintro o M2 ⟨rfl, hI⟩
  refine ⟨_, rfl, ?_⟩
  refine lwEq C hc0 (off := 668) (t := 1520) rfl rfl ?_
  exact lwwiden (E := eLw) (Nat.le_add_right _ _) (Nat.le_add_right _ _) (kk M2 hI)
set_option maxHeartbeats 4000000 in
set_option maxRecDepth 100000 in
theorem lc_share (C : lwC eLw lwI α cA D A p l R s m args c) (X : lwX α A s Ln xs) (hce : cells + 1 ≤ R.cells ∧ slots + 6 ≤ R.slots) (hR : 8 ≤ R.frames ∧ 264 ≤ R.locals) (hin : ∀ k : Int, 1 ≤ k → k ≤ 5 → vp_in (i + Int32.ofInt k) Ln) (hM : iInv M)
    (kk : ∀ M' : jM, iInv M' → jG jSH α cA vwCl D A s.heap 8 p l e R s m args below meth c (cells + 1) (slots + 6) Q (1520, [(0, .ref 98), (1, .ref 0), (2, .ref 67), (3, .ref 97), (4, .int i)], [], M')) : jG jSH α cA vwCl D A s.heap 8 p l e R s m args below meth c cells slots Q (857, [(0, .ref 98), (1, .ref 0), (2, .ref 67), (3, .ref 97), (4, .int i)], [], M) := by
  have hc0 : cells ≤ R.cells ∧ slots ≤ R.slots := ⟨by omega, by omega⟩
  refine lw1 (E := eLw) C hc0 (ins := .aload_n 1) rfl rfl ?_
  refine lwS C X hc0 (k := 1) rfl rfl rfl rfl rfl rfl rfl (hin 1 (by decide) (by decide)) ?_
  refine lwS C X hc0 (k := 2) rfl rfl rfl rfl rfl rfl rfl (hin 2 (by decide) (by decide)) ?_
  refine lwS C X hc0 (k := 3) rfl rfl rfl rfl rfl rfl rfl (hin 3 (by decide) (by decide)) ?_
  refine lwS C X hc0 (k := 4) rfl rfl rfl rfl rfl rfl rfl (hin 4 (by decide) (by decide)) ?_
  refine lw1 (E := eLw) C hc0 (ins := .aload_n 3) rfl rfl ?_
  refine lwSX C hce hR (idx := 116) (y := yL_share) (bytes := cL_share) (maxL := 7) (n := 6) (hh := [(0, 13, 16, 13)]) (as := [.ref 0, .int (xs (i + Int32.ofInt 1).toNatClampNeg), .int (xs (i + Int32.ofInt 2).toNatClampNeg), .int (xs (i + Int32.ofInt 3).toNatClampNeg), .int (xs (i + Int32.ofInt 4).toNatClampNeg), .ref 97]) (rest := []) rfl (by decide) (h_share (op_share hM _ _ _ _) (fun o M1 h => h.elim (fun h => Or.inl h.1) (fun ⟨v, h, _⟩ => Or.inr ⟨v, h⟩)) C.2.1 l C.2.2.2.2.2.2.2) rfl (by decide) rfl (jGW_of (by decide +kernel)) (jGW_of (by decide +kernel)) (jGW_of (by decide +kernel)) (jGW_of (by decide +kernel)) (by decide +kernel) ?_
  intro r M1 hr
  rcases hr with ⟨rfl, hK⟩ | ⟨rfl, v, M0, hK, rfl⟩
  · rcases hK with ⟨_, hev2⟩ | ⟨v, h, _⟩
    rotate_left
    · cases h
    refine lw1 (E := eLw) C hce (ins := .istore 5) rfl rfl ?_
    refine lw1 (E := eLw) C hce (ins := .aload_n 2) rfl rfl ?_
    refine lwS C X hce (k := 1) rfl rfl rfl rfl rfl rfl rfl (hin 1 (by decide) (by decide)) ?_
    refine lwS C X hce (k := 2) rfl rfl rfl rfl rfl rfl rfl (hin 2 (by decide) (by decide)) ?_
    refine lwS C X hce (k := 3) rfl rfl rfl rfl rfl rfl rfl (hin 3 (by decide) (by decide)) ?_
    refine lwS C X hce (k := 4) rfl rfl rfl rfl rfl rfl rfl (hin 4 (by decide) (by decide)) ?_
    refine lwV (E := eLw) C hce (idx := 119) (y := nX8_share) (F := me_X8_share) rfl rfl rfl (as' := [.int (xs (i + Int32.ofInt 1).toNatClampNeg), .int (xs (i + Int32.ofInt 2).toNatClampNeg), .int (xs (i + Int32.ofInt 3).toNatClampNeg), .int (xs (i + Int32.ofInt 4).toNatClampNeg)]) (rest := []) rfl rfl rfl (Nat.le_of_ble_eq_true rfl) (by decide) (by decide) (jGW_of (by decide +kernel)) hev2 ?_
    rintro o M2 ⟨b, rfl, h67, hI⟩
    refine ⟨_, rfl, ?_⟩
    exact lwTl C hce (off := 575) rfl rfl rfl rfl rfl rfl rfl rfl rfl rfl rfl rfl rfl rfl rfl h67 (Or.inl rfl) (kk M2 hI)
  · rcases hK with ⟨h, _⟩ | ⟨v2, h, hev2⟩
    · cases h
    cases h
    refine lw1 (E := eLw) C hce (ins := .istore 5) rfl rfl ?_
    refine lw1 (E := eLw) C hce (ins := .aload_n 2) rfl rfl ?_
    refine lwS C X hce (k := 1) rfl rfl rfl rfl rfl rfl rfl (hin 1 (by decide) (by decide)) ?_
    refine lwS C X hce (k := 2) rfl rfl rfl rfl rfl rfl rfl (hin 2 (by decide) (by decide)) ?_
    refine lwS C X hce (k := 3) rfl rfl rfl rfl rfl rfl rfl (hin 3 (by decide) (by decide)) ?_
    refine lwS C X hce (k := 4) rfl rfl rfl rfl rfl rfl rfl (hin 4 (by decide) (by decide)) ?_
    refine lwV (E := eLw) C hce (idx := 119) (y := nX8_share) (F := me_X8_share) rfl rfl rfl (as' := [.int (xs (i + Int32.ofInt 1).toNatClampNeg), .int (xs (i + Int32.ofInt 2).toNatClampNeg), .int (xs (i + Int32.ofInt 3).toNatClampNeg), .int (xs (i + Int32.ofInt 4).toNatClampNeg)]) (rest := []) rfl rfl rfl (Nat.le_of_ble_eq_true rfl) (by decide) (by decide) (jGW_of (by decide +kernel)) hev2 ?_
    rintro o M2 ⟨rfl, h67, h97, hI⟩
    refine ⟨_, rfl, ?_⟩
    exact lwTl C hce (off := 575) rfl rfl rfl rfl rfl rfl rfl rfl rfl rfl rfl rfl rfl rfl rfl h67 (Or.inr ⟨rfl, h97⟩) (kk M2 hI)
set_option maxHeartbeats 4000000 in
set_option maxRecDepth 100000 in
theorem lc_left (C : lwC eLw lwI α cA D A p l R s m args c) (X : lwX α A s Ln xs) (hce : cells + 1 ≤ R.cells ∧ slots + 6 ≤ R.slots) (hR : 8 ≤ R.frames ∧ 264 ≤ R.locals) (hin : ∀ k : Int, 1 ≤ k → k ≤ 5 → vp_in (i + Int32.ofInt k) Ln) (hM : iInv M)
    (kk : ∀ M' : jM, iInv M' → jG jSH α cA vwCl D A s.heap 8 p l e R s m args below meth c (cells + 1) (slots + 6) Q (1520, [(0, .ref 98), (1, .ref 0), (2, .ref 67), (3, .ref 97), (4, .int i)], [], M')) : jG jSH α cA vwCl D A s.heap 8 p l e R s m args below meth c cells slots Q (948, [(0, .ref 98), (1, .ref 0), (2, .ref 67), (3, .ref 97), (4, .int i)], [], M) := by
  have hc0 : cells ≤ R.cells ∧ slots ≤ R.slots := ⟨by omega, by omega⟩
  refine lw1 (E := eLw) C hc0 (ins := .aload_n 1) rfl rfl ?_
  refine lwS C X hc0 (k := 1) rfl rfl rfl rfl rfl rfl rfl (hin 1 (by decide) (by decide)) ?_
  refine lwS C X hc0 (k := 2) rfl rfl rfl rfl rfl rfl rfl (hin 2 (by decide) (by decide)) ?_
  refine lwS C X hc0 (k := 3) rfl rfl rfl rfl rfl rfl rfl (hin 3 (by decide) (by decide)) ?_
  refine lw1 (E := eLw) C hc0 (ins := .aload_n 3) rfl rfl ?_
  refine lwSX C hce hR (idx := 120) (y := yL_left) (bytes := cL_left) (maxL := 6) (n := 5) (hh := [(0, 11, 14, 13)]) (as := [.ref 0, .int (xs (i + Int32.ofInt 1).toNatClampNeg), .int (xs (i + Int32.ofInt 2).toNatClampNeg), .int (xs (i + Int32.ofInt 3).toNatClampNeg), .ref 97]) (rest := []) rfl (by decide) (h_left (op_left hM _ _ _) (fun o M1 h => h.elim (fun h => Or.inl h.1) (fun ⟨v, h, _⟩ => Or.inr ⟨v, h⟩)) C.2.1 l C.2.2.2.2.2.2.2) rfl (by decide) rfl (jGW_of (by decide +kernel)) (jGW_of (by decide +kernel)) (jGW_of (by decide +kernel)) (jGW_of (by decide +kernel)) (by decide +kernel) ?_
  intro r M1 hr
  rcases hr with ⟨rfl, hK⟩ | ⟨rfl, v, M0, hK, rfl⟩
  · rcases hK with ⟨_, hev2⟩ | ⟨v, h, _⟩
    rotate_left
    · cases h
    refine lw1 (E := eLw) C hce (ins := .istore 5) rfl rfl ?_
    refine lw1 (E := eLw) C hce (ins := .aload_n 2) rfl rfl ?_
    refine lwS C X hce (k := 1) rfl rfl rfl rfl rfl rfl rfl (hin 1 (by decide) (by decide)) ?_
    refine lwS C X hce (k := 2) rfl rfl rfl rfl rfl rfl rfl (hin 2 (by decide) (by decide)) ?_
    refine lwS C X hce (k := 3) rfl rfl rfl rfl rfl rfl rfl (hin 3 (by decide) (by decide)) ?_
    refine lwV (E := eLw) C hce (idx := 122) (y := nX8_left) (F := me_X8_left) rfl rfl rfl (as' := [.int (xs (i + Int32.ofInt 1).toNatClampNeg), .int (xs (i + Int32.ofInt 2).toNatClampNeg), .int (xs (i + Int32.ofInt 3).toNatClampNeg)]) (rest := []) rfl rfl rfl (Nat.le_of_ble_eq_true rfl) (by decide) (by decide) (jGW_of (by decide +kernel)) hev2 ?_
    rintro o M2 ⟨b, rfl, h67, hI⟩
    refine ⟨_, rfl, ?_⟩
    exact lwTl C hce (off := 496) rfl rfl rfl rfl rfl rfl rfl rfl rfl rfl rfl rfl rfl rfl rfl h67 (Or.inl rfl) (kk M2 hI)
  · rcases hK with ⟨h, _⟩ | ⟨v2, h, hev2⟩
    · cases h
    cases h
    refine lw1 (E := eLw) C hce (ins := .istore 5) rfl rfl ?_
    refine lw1 (E := eLw) C hce (ins := .aload_n 2) rfl rfl ?_
    refine lwS C X hce (k := 1) rfl rfl rfl rfl rfl rfl rfl (hin 1 (by decide) (by decide)) ?_
    refine lwS C X hce (k := 2) rfl rfl rfl rfl rfl rfl rfl (hin 2 (by decide) (by decide)) ?_
    refine lwS C X hce (k := 3) rfl rfl rfl rfl rfl rfl rfl (hin 3 (by decide) (by decide)) ?_
    refine lwV (E := eLw) C hce (idx := 122) (y := nX8_left) (F := me_X8_left) rfl rfl rfl (as' := [.int (xs (i + Int32.ofInt 1).toNatClampNeg), .int (xs (i + Int32.ofInt 2).toNatClampNeg), .int (xs (i + Int32.ofInt 3).toNatClampNeg)]) (rest := []) rfl rfl rfl (Nat.le_of_ble_eq_true rfl) (by decide) (by decide) (jGW_of (by decide +kernel)) hev2 ?_
    rintro o M2 ⟨rfl, h67, h97, hI⟩
    refine ⟨_, rfl, ?_⟩
    exact lwTl C hce (off := 496) rfl rfl rfl rfl rfl rfl rfl rfl rfl rfl rfl rfl rfl rfl rfl h67 (Or.inr ⟨rfl, h97⟩) (kk M2 hI)
set_option maxHeartbeats 4000000 in
set_option maxRecDepth 100000 in
theorem lc_solid (C : lwC eLw lwI α cA D A p l R s m args c) (X : lwX α A s Ln xs) (hce : cells + 1 ≤ R.cells ∧ slots + 6 ≤ R.slots) (hR : 8 ≤ R.frames ∧ 264 ≤ R.locals) (hin : ∀ k : Int, 1 ≤ k → k ≤ 5 → vp_in (i + Int32.ofInt k) Ln) (hM : iInv M)
    (kk : ∀ M' : jM, iInv M' → jG jSH α cA vwCl D A s.heap 8 p l e R s m args below meth c (cells + 1) (slots + 6) Q (1520, [(0, .ref 98), (1, .ref 0), (2, .ref 67), (3, .ref 97), (4, .int i)], [], M')) : jG jSH α cA vwCl D A s.heap 8 p l e R s m args below meth c cells slots Q (1027, [(0, .ref 98), (1, .ref 0), (2, .ref 67), (3, .ref 97), (4, .int i)], [], M) := by
  have hc0 : cells ≤ R.cells ∧ slots ≤ R.slots := ⟨by omega, by omega⟩
  refine lw1 (E := eLw) C hc0 (ins := .aload_n 1) rfl rfl ?_
  refine lwS C X hc0 (k := 1) rfl rfl rfl rfl rfl rfl rfl (hin 1 (by decide) (by decide)) ?_
  refine lwV (E := eLw) C hc0 (idx := 123) (y := nX7_solid) (F := me_X7_solid) rfl rfl rfl (as' := [.int (xs (i + Int32.ofInt 1).toNatClampNeg)]) (rest := []) rfl rfl rfl (Nat.le_of_ble_eq_true rfl) (by decide) (by decide) (jGW_of (by decide +kernel)) (op_solid hM _) ?_
  rintro o M1 ⟨r, rfl, hev2⟩
  refine ⟨_, rfl, ?_⟩
  refine lw1 (E := eLw) C hc0 (ins := .aload_n 2) rfl rfl ?_
  refine lwS C X hc0 (k := 1) rfl rfl rfl rfl rfl rfl rfl (hin 1 (by decide) (by decide)) ?_
  refine lwV (E := eLw) C hc0 (idx := 126) (y := nX8_solid) (F := me_X8_solid) rfl rfl rfl (as' := [.int (xs (i + Int32.ofInt 1).toNatClampNeg)]) (rest := [.int r]) rfl rfl rfl (Nat.le_of_ble_eq_true rfl) (Nat.le_of_ble_eq_true rfl) (by decide) (jGW_of (by decide +kernel)) hev2 ?_
  rintro o M2 ⟨rfl, hI⟩
  refine ⟨_, rfl, ?_⟩
  refine lwEq C hc0 (off := 473) (t := 1520) rfl rfl ?_
  exact lwwiden (E := eLw) (Nat.le_add_right _ _) (Nat.le_add_right _ _) (kk M2 hI)
set_option maxHeartbeats 4000000 in
set_option maxRecDepth 100000 in
theorem lc_even (C : lwC eLw lwI α cA D A p l R s m args c) (X : lwX α A s Ln xs) (hce : cells + 1 ≤ R.cells ∧ slots + 6 ≤ R.slots) (hR : 8 ≤ R.frames ∧ 264 ≤ R.locals) (hin : ∀ k : Int, 1 ≤ k → k ≤ 5 → vp_in (i + Int32.ofInt k) Ln) (hM : iInv M)
    (kk : ∀ M' : jM, iInv M' → jG jSH α cA vwCl D A s.heap 8 p l e R s m args below meth c (cells + 1) (slots + 6) Q (1520, [(0, .ref 98), (1, .ref 0), (2, .ref 67), (3, .ref 97), (4, .int i)], [], M')) : jG jSH α cA vwCl D A s.heap 8 p l e R s m args below meth c cells slots Q (1052, [(0, .ref 98), (1, .ref 0), (2, .ref 67), (3, .ref 97), (4, .int i)], [], M) := by
  have hc0 : cells ≤ R.cells ∧ slots ≤ R.slots := ⟨by omega, by omega⟩
  refine lw1 (E := eLw) C hc0 (ins := .aload_n 1) rfl rfl ?_
  refine lwS C X hc0 (k := 1) rfl rfl rfl rfl rfl rfl rfl (hin 1 (by decide) (by decide)) ?_
  refine lwV (E := eLw) C hc0 (idx := 127) (y := nX7_even) (F := me_X7_even) rfl rfl rfl (as' := [.int (xs (i + Int32.ofInt 1).toNatClampNeg)]) (rest := []) rfl rfl rfl (Nat.le_of_ble_eq_true rfl) (by decide) (by decide) (jGW_of (by decide +kernel)) (op_even hM _) ?_
  rintro o M1 ⟨r, rfl, hev2⟩
  refine ⟨_, rfl, ?_⟩
  refine lw1 (E := eLw) C hc0 (ins := .aload_n 2) rfl rfl ?_
  refine lwS C X hc0 (k := 1) rfl rfl rfl rfl rfl rfl rfl (hin 1 (by decide) (by decide)) ?_
  refine lwV (E := eLw) C hc0 (idx := 130) (y := nX8_even) (F := me_X8_even) rfl rfl rfl (as' := [.int (xs (i + Int32.ofInt 1).toNatClampNeg)]) (rest := [.int r]) rfl rfl rfl (Nat.le_of_ble_eq_true rfl) (Nat.le_of_ble_eq_true rfl) (by decide) (jGW_of (by decide +kernel)) hev2 ?_
  rintro o M2 ⟨rfl, hI⟩
  refine ⟨_, rfl, ?_⟩
  refine lwEq C hc0 (off := 448) (t := 1520) rfl rfl ?_
  exact lwwiden (E := eLw) (Nat.le_add_right _ _) (Nat.le_add_right _ _) (kk M2 hI)
set_option maxHeartbeats 4000000 in
set_option maxRecDepth 100000 in
theorem lc_row (C : lwC eLw lwI α cA D A p l R s m args c) (X : lwX α A s Ln xs) (hce : cells + 1 ≤ R.cells ∧ slots + 6 ≤ R.slots) (hR : 8 ≤ R.frames ∧ 264 ≤ R.locals) (hin : ∀ k : Int, 1 ≤ k → k ≤ 5 → vp_in (i + Int32.ofInt k) Ln) (hM : iInv M)
    (kk : ∀ M' : jM, iInv M' → jG jSH α cA vwCl D A s.heap 8 p l e R s m args below meth c (cells + 1) (slots + 6) Q (1520, [(0, .ref 98), (1, .ref 0), (2, .ref 67), (3, .ref 97), (4, .int i)], [], M')) : jG jSH α cA vwCl D A s.heap 8 p l e R s m args below meth c cells slots Q (1077, [(0, .ref 98), (1, .ref 0), (2, .ref 67), (3, .ref 97), (4, .int i)], [], M) := by
  have hc0 : cells ≤ R.cells ∧ slots ≤ R.slots := ⟨by omega, by omega⟩
  refine lw1 (E := eLw) C hc0 (ins := .aload_n 1) rfl rfl ?_
  refine lwV (E := eLw) C hc0 (idx := 131) (y := nX7_row) (F := me_X7_row) rfl rfl rfl (as' := []) (rest := []) rfl rfl rfl (Nat.le_of_ble_eq_true rfl) (by decide) (by decide) (jGW_of (by decide +kernel)) (op_row hM) ?_
  rintro o M1 ⟨r, rfl, hev2⟩
  refine ⟨_, rfl, ?_⟩
  refine lw1 (E := eLw) C hc0 (ins := .aload_n 2) rfl rfl ?_
  refine lwV (E := eLw) C hc0 (idx := 134) (y := nX8_row) (F := me_X8_row) rfl rfl rfl (as' := []) (rest := [.int r]) rfl rfl rfl (Nat.le_of_ble_eq_true rfl) (Nat.le_of_ble_eq_true rfl) (by decide) (jGW_of (by decide +kernel)) hev2 ?_
  rintro o M2 ⟨rfl, hI⟩
  refine ⟨_, rfl, ?_⟩
  refine lwEq C hc0 (off := 435) (t := 1520) rfl rfl ?_
  exact lwwiden (E := eLw) (Nat.le_add_right _ _) (Nat.le_add_right _ _) (kk M2 hI)
set_option maxHeartbeats 4000000 in
set_option maxRecDepth 100000 in
theorem lc_at (C : lwC eLw lwI α cA D A p l R s m args c) (X : lwX α A s Ln xs) (hce : cells + 1 ≤ R.cells ∧ slots + 6 ≤ R.slots) (hR : 8 ≤ R.frames ∧ 264 ≤ R.locals) (hin : ∀ k : Int, 1 ≤ k → k ≤ 5 → vp_in (i + Int32.ofInt k) Ln) (hM : iInv M)
    (kk : ∀ M' : jM, iInv M' → jG jSH α cA vwCl D A s.heap 8 p l e R s m args below meth c (cells + 1) (slots + 6) Q (1520, [(0, .ref 98), (1, .ref 0), (2, .ref 67), (3, .ref 97), (4, .int i)], [], M')) : jG jSH α cA vwCl D A s.heap 8 p l e R s m args below meth c cells slots Q (1090, [(0, .ref 98), (1, .ref 0), (2, .ref 67), (3, .ref 97), (4, .int i)], [], M) := by
  have hc0 : cells ≤ R.cells ∧ slots ≤ R.slots := ⟨by omega, by omega⟩
  refine lw1 (E := eLw) C hc0 (ins := .aload_n 1) rfl rfl ?_
  refine lwS C X hc0 (k := 1) rfl rfl rfl rfl rfl rfl rfl (hin 1 (by decide) (by decide)) ?_
  refine lwV (E := eLw) C hc0 (idx := 135) (y := nX7_at) (F := me_X7_at) rfl rfl rfl (as' := [.int (xs (i + Int32.ofInt 1).toNatClampNeg)]) (rest := []) rfl rfl rfl (Nat.le_of_ble_eq_true rfl) (by decide) (by decide) (jGW_of (by decide +kernel)) (op_at hM _) ?_
  rintro o M1 ⟨r, rfl, hev2⟩
  refine ⟨_, rfl, ?_⟩
  refine lw1 (E := eLw) C hc0 (ins := .aload_n 2) rfl rfl ?_
  refine lwS C X hc0 (k := 1) rfl rfl rfl rfl rfl rfl rfl (hin 1 (by decide) (by decide)) ?_
  refine lwV (E := eLw) C hc0 (idx := 138) (y := nX8_at) (F := me_X8_at) rfl rfl rfl (as' := [.int (xs (i + Int32.ofInt 1).toNatClampNeg)]) (rest := [.int r]) rfl rfl rfl (Nat.le_of_ble_eq_true rfl) (Nat.le_of_ble_eq_true rfl) (by decide) (jGW_of (by decide +kernel)) hev2 ?_
  rintro o M2 ⟨rfl, hI⟩
  refine ⟨_, rfl, ?_⟩
  refine lwEq C hc0 (off := 410) (t := 1520) rfl rfl ?_
  exact lwwiden (E := eLw) (Nat.le_add_right _ _) (Nat.le_add_right _ _) (kk M2 hI)
set_option maxHeartbeats 4000000 in
set_option maxRecDepth 100000 in
theorem lc_put (C : lwC eLw lwI α cA D A p l R s m args c) (X : lwX α A s Ln xs) (hce : cells + 1 ≤ R.cells ∧ slots + 6 ≤ R.slots) (hR : 8 ≤ R.frames ∧ 264 ≤ R.locals) (hin : ∀ k : Int, 1 ≤ k → k ≤ 5 → vp_in (i + Int32.ofInt k) Ln) (hM : iInv M)
    (kk : ∀ M' : jM, iInv M' → jG jSH α cA vwCl D A s.heap 8 p l e R s m args below meth c (cells + 1) (slots + 6) Q (1520, [(0, .ref 98), (1, .ref 0), (2, .ref 67), (3, .ref 97), (4, .int i)], [], M')) : jG jSH α cA vwCl D A s.heap 8 p l e R s m args below meth c cells slots Q (1115, [(0, .ref 98), (1, .ref 0), (2, .ref 67), (3, .ref 97), (4, .int i)], [], M) := by
  have hc0 : cells ≤ R.cells ∧ slots ≤ R.slots := ⟨by omega, by omega⟩
  refine lw1 (E := eLw) C hc0 (ins := .aload_n 1) rfl rfl ?_
  refine lwS C X hc0 (k := 1) rfl rfl rfl rfl rfl rfl rfl (hin 1 (by decide) (by decide)) ?_
  refine lwS C X hc0 (k := 2) rfl rfl rfl rfl rfl rfl rfl (hin 2 (by decide) (by decide)) ?_
  refine lwV (E := eLw) C hc0 (idx := 139) (y := nX7_put) (F := me_X7_put) rfl rfl rfl (as' := [.int (xs (i + Int32.ofInt 1).toNatClampNeg), .int (xs (i + Int32.ofInt 2).toNatClampNeg)]) (rest := []) rfl rfl rfl (Nat.le_of_ble_eq_true rfl) (by decide) (by decide) (jGW_of (by decide +kernel)) (op_put hM _ _) ?_
  rintro o M1 ⟨r, rfl, hev2⟩
  refine ⟨_, rfl, ?_⟩
  refine lw1 (E := eLw) C hc0 (ins := .aload_n 2) rfl rfl ?_
  refine lwS C X hc0 (k := 1) rfl rfl rfl rfl rfl rfl rfl (hin 1 (by decide) (by decide)) ?_
  refine lwS C X hc0 (k := 2) rfl rfl rfl rfl rfl rfl rfl (hin 2 (by decide) (by decide)) ?_
  refine lwV (E := eLw) C hc0 (idx := 142) (y := nX8_put) (F := me_X8_put) rfl rfl rfl (as' := [.int (xs (i + Int32.ofInt 1).toNatClampNeg), .int (xs (i + Int32.ofInt 2).toNatClampNeg)]) (rest := [.int r]) rfl rfl rfl (Nat.le_of_ble_eq_true rfl) (Nat.le_of_ble_eq_true rfl) (by decide) (jGW_of (by decide +kernel)) hev2 ?_
  rintro o M2 ⟨rfl, hI⟩
  refine ⟨_, rfl, ?_⟩
  refine lwEq C hc0 (off := 373) (t := 1520) rfl rfl ?_
  exact lwwiden (E := eLw) (Nat.le_add_right _ _) (Nat.le_add_right _ _) (kk M2 hI)
set_option maxHeartbeats 4000000 in
set_option maxRecDepth 100000 in
theorem lc_next (C : lwC eLw lwI α cA D A p l R s m args c) (X : lwX α A s Ln xs) (hce : cells + 1 ≤ R.cells ∧ slots + 6 ≤ R.slots) (hR : 8 ≤ R.frames ∧ 264 ≤ R.locals) (hin : ∀ k : Int, 1 ≤ k → k ≤ 5 → vp_in (i + Int32.ofInt k) Ln) (hM : iInv M)
    (kk : ∀ M' : jM, iInv M' → jG jSH α cA vwCl D A s.heap 8 p l e R s m args below meth c (cells + 1) (slots + 6) Q (1520, [(0, .ref 98), (1, .ref 0), (2, .ref 67), (3, .ref 97), (4, .int i)], [], M')) : jG jSH α cA vwCl D A s.heap 8 p l e R s m args below meth c cells slots Q (1152, [(0, .ref 98), (1, .ref 0), (2, .ref 67), (3, .ref 97), (4, .int i)], [], M) := by
  have hc0 : cells ≤ R.cells ∧ slots ≤ R.slots := ⟨by omega, by omega⟩
  refine lw1 (E := eLw) C hc0 (ins := .aload_n 1) rfl rfl ?_
  refine lwS C X hc0 (k := 1) rfl rfl rfl rfl rfl rfl rfl (hin 1 (by decide) (by decide)) ?_
  refine lwS C X hc0 (k := 2) rfl rfl rfl rfl rfl rfl rfl (hin 2 (by decide) (by decide)) ?_
  refine lwS C X hc0 (k := 3) rfl rfl rfl rfl rfl rfl rfl (hin 3 (by decide) (by decide)) ?_
  refine lw1 (E := eLw) C hc0 (ins := .aload_n 3) rfl rfl ?_
  refine lwSX C hce hR (idx := 143) (y := yL_next) (bytes := cL_next) (maxL := 6) (n := 5) (hh := [(0, 11, 14, 13)]) (as := [.ref 0, .int (xs (i + Int32.ofInt 1).toNatClampNeg), .int (xs (i + Int32.ofInt 2).toNatClampNeg), .int (xs (i + Int32.ofInt 3).toNatClampNeg), .ref 97]) (rest := []) rfl (by decide) (h_next (op_next hM _ _ _) (fun o M1 h => h.elim (fun h => Or.inl h.1) (fun ⟨v, h, _⟩ => Or.inr ⟨v, h⟩)) C.2.1 l C.2.2.2.2.2.2.2) rfl (by decide) rfl (jGW_of (by decide +kernel)) (jGW_of (by decide +kernel)) (jGW_of (by decide +kernel)) (jGW_of (by decide +kernel)) (by decide +kernel) ?_
  intro r M1 hr
  rcases hr with ⟨rfl, hK⟩ | ⟨rfl, v, M0, hK, rfl⟩
  · rcases hK with ⟨_, hev2⟩ | ⟨v, h, _⟩
    rotate_left
    · cases h
    refine lw1 (E := eLw) C hce (ins := .istore 5) rfl rfl ?_
    refine lw1 (E := eLw) C hce (ins := .aload_n 2) rfl rfl ?_
    refine lwS C X hce (k := 1) rfl rfl rfl rfl rfl rfl rfl (hin 1 (by decide) (by decide)) ?_
    refine lwS C X hce (k := 2) rfl rfl rfl rfl rfl rfl rfl (hin 2 (by decide) (by decide)) ?_
    refine lwS C X hce (k := 3) rfl rfl rfl rfl rfl rfl rfl (hin 3 (by decide) (by decide)) ?_
    refine lwV (E := eLw) C hce (idx := 145) (y := nX8_next) (F := me_X8_next) rfl rfl rfl (as' := [.int (xs (i + Int32.ofInt 1).toNatClampNeg), .int (xs (i + Int32.ofInt 2).toNatClampNeg), .int (xs (i + Int32.ofInt 3).toNatClampNeg)]) (rest := []) rfl rfl rfl (Nat.le_of_ble_eq_true rfl) (by decide) (by decide) (jGW_of (by decide +kernel)) hev2 ?_
    rintro o M2 ⟨b, rfl, h67, hI⟩
    refine ⟨_, rfl, ?_⟩
    exact lwTl C hce (off := 292) rfl rfl rfl rfl rfl rfl rfl rfl rfl rfl rfl rfl rfl rfl rfl h67 (Or.inl rfl) (kk M2 hI)
  · rcases hK with ⟨h, _⟩ | ⟨v2, h, hev2⟩
    · cases h
    cases h
    refine lw1 (E := eLw) C hce (ins := .istore 5) rfl rfl ?_
    refine lw1 (E := eLw) C hce (ins := .aload_n 2) rfl rfl ?_
    refine lwS C X hce (k := 1) rfl rfl rfl rfl rfl rfl rfl (hin 1 (by decide) (by decide)) ?_
    refine lwS C X hce (k := 2) rfl rfl rfl rfl rfl rfl rfl (hin 2 (by decide) (by decide)) ?_
    refine lwS C X hce (k := 3) rfl rfl rfl rfl rfl rfl rfl (hin 3 (by decide) (by decide)) ?_
    refine lwV (E := eLw) C hce (idx := 145) (y := nX8_next) (F := me_X8_next) rfl rfl rfl (as' := [.int (xs (i + Int32.ofInt 1).toNatClampNeg), .int (xs (i + Int32.ofInt 2).toNatClampNeg), .int (xs (i + Int32.ofInt 3).toNatClampNeg)]) (rest := []) rfl rfl rfl (Nat.le_of_ble_eq_true rfl) (by decide) (by decide) (jGW_of (by decide +kernel)) hev2 ?_
    rintro o M2 ⟨rfl, h67, h97, hI⟩
    refine ⟨_, rfl, ?_⟩
    exact lwTl C hce (off := 292) rfl rfl rfl rfl rfl rfl rfl rfl rfl rfl rfl rfl rfl rfl rfl h67 (Or.inr ⟨rfl, h97⟩) (kk M2 hI)
set_option maxHeartbeats 4000000 in
set_option maxRecDepth 100000 in
theorem lc_whole (C : lwC eLw lwI α cA D A p l R s m args c) (X : lwX α A s Ln xs) (hce : cells + 1 ≤ R.cells ∧ slots + 6 ≤ R.slots) (hR : 8 ≤ R.frames ∧ 264 ≤ R.locals) (hin : ∀ k : Int, 1 ≤ k → k ≤ 5 → vp_in (i + Int32.ofInt k) Ln) (hM : iInv M)
    (kk : ∀ M' : jM, iInv M' → jG jSH α cA vwCl D A s.heap 8 p l e R s m args below meth c (cells + 1) (slots + 6) Q (1520, [(0, .ref 98), (1, .ref 0), (2, .ref 67), (3, .ref 97), (4, .int i)], [], M')) : jG jSH α cA vwCl D A s.heap 8 p l e R s m args below meth c cells slots Q (1231, [(0, .ref 98), (1, .ref 0), (2, .ref 67), (3, .ref 97), (4, .int i)], [], M) := by
  have hc0 : cells ≤ R.cells ∧ slots ≤ R.slots := ⟨by omega, by omega⟩
  refine lw1 (E := eLw) C hc0 (ins := .aload_n 1) rfl rfl ?_
  refine lwS C X hc0 (k := 1) rfl rfl rfl rfl rfl rfl rfl (hin 1 (by decide) (by decide)) ?_
  refine lwV (E := eLw) C hc0 (idx := 146) (y := nX7_whole) (F := me_X7_whole) rfl rfl rfl (as' := [.int (xs (i + Int32.ofInt 1).toNatClampNeg)]) (rest := []) rfl rfl rfl (Nat.le_of_ble_eq_true rfl) (by decide) (by decide) (jGW_of (by decide +kernel)) (op_whole hM _) ?_
  rintro o M1 ⟨r, rfl, hev2⟩
  refine ⟨_, rfl, ?_⟩
  refine lw1 (E := eLw) C hc0 (ins := .aload_n 2) rfl rfl ?_
  refine lwS C X hc0 (k := 1) rfl rfl rfl rfl rfl rfl rfl (hin 1 (by decide) (by decide)) ?_
  refine lwV (E := eLw) C hc0 (idx := 149) (y := nX8_whole) (F := me_X8_whole) rfl rfl rfl (as' := [.int (xs (i + Int32.ofInt 1).toNatClampNeg)]) (rest := [.int r]) rfl rfl rfl (Nat.le_of_ble_eq_true rfl) (Nat.le_of_ble_eq_true rfl) (by decide) (jGW_of (by decide +kernel)) hev2 ?_
  rintro o M2 ⟨rfl, hI⟩
  refine ⟨_, rfl, ?_⟩
  refine lwEq C hc0 (off := 269) (t := 1520) rfl rfl ?_
  exact lwwiden (E := eLw) (Nat.le_add_right _ _) (Nat.le_add_right _ _) (kk M2 hI)
set_option maxHeartbeats 4000000 in
set_option maxRecDepth 100000 in
theorem lc_squares (C : lwC eLw lwI α cA D A p l R s m args c) (X : lwX α A s Ln xs) (hce : cells + 1 ≤ R.cells ∧ slots + 6 ≤ R.slots) (hR : 8 ≤ R.frames ∧ 264 ≤ R.locals) (hin : ∀ k : Int, 1 ≤ k → k ≤ 5 → vp_in (i + Int32.ofInt k) Ln) (hM : iInv M)
    (kk : ∀ M' : jM, iInv M' → jG jSH α cA vwCl D A s.heap 8 p l e R s m args below meth c (cells + 1) (slots + 6) Q (1520, [(0, .ref 98), (1, .ref 0), (2, .ref 67), (3, .ref 97), (4, .int i)], [], M')) : jG jSH α cA vwCl D A s.heap 8 p l e R s m args below meth c cells slots Q (1256, [(0, .ref 98), (1, .ref 0), (2, .ref 67), (3, .ref 97), (4, .int i)], [], M) := by
  have hc0 : cells ≤ R.cells ∧ slots ≤ R.slots := ⟨by omega, by omega⟩
  refine lw1 (E := eLw) C hc0 (ins := .aload_n 1) rfl rfl ?_
  refine lwS C X hc0 (k := 1) rfl rfl rfl rfl rfl rfl rfl (hin 1 (by decide) (by decide)) ?_
  refine lwS C X hc0 (k := 2) rfl rfl rfl rfl rfl rfl rfl (hin 2 (by decide) (by decide)) ?_
  refine lw1 (E := eLw) C hc0 (ins := .aload_n 3) rfl rfl ?_
  refine lwSX C hce hR (idx := 150) (y := yL_squares) (bytes := cL_squares) (maxL := 5) (n := 4) (hh := [(0, 9, 12, 13)]) (as := [.ref 0, .int (xs (i + Int32.ofInt 1).toNatClampNeg), .int (xs (i + Int32.ofInt 2).toNatClampNeg), .ref 97]) (rest := []) rfl (by decide) (h_squares (op_squares hM _ _) (fun o M1 h => h.elim (fun h => Or.inl h.1) (fun ⟨v, h, _⟩ => Or.inr ⟨v, h⟩)) C.2.1 l C.2.2.2.2.2.2.2) rfl (by decide) rfl (jGW_of (by decide +kernel)) (jGW_of (by decide +kernel)) (jGW_of (by decide +kernel)) (jGW_of (by decide +kernel)) (by decide +kernel) ?_
  intro r M1 hr
  rcases hr with ⟨rfl, hK⟩ | ⟨rfl, v, M0, hK, rfl⟩
  · rcases hK with ⟨_, hev2⟩ | ⟨v, h, _⟩
    rotate_left
    · cases h
    refine lw1 (E := eLw) C hce (ins := .istore 5) rfl rfl ?_
    refine lw1 (E := eLw) C hce (ins := .aload_n 2) rfl rfl ?_
    refine lwS C X hce (k := 1) rfl rfl rfl rfl rfl rfl rfl (hin 1 (by decide) (by decide)) ?_
    refine lwS C X hce (k := 2) rfl rfl rfl rfl rfl rfl rfl (hin 2 (by decide) (by decide)) ?_
    refine lwV (E := eLw) C hce (idx := 152) (y := nX8_squares) (F := me_X8_squares) rfl rfl rfl (as' := [.int (xs (i + Int32.ofInt 1).toNatClampNeg), .int (xs (i + Int32.ofInt 2).toNatClampNeg)]) (rest := []) rfl rfl rfl (Nat.le_of_ble_eq_true rfl) (by decide) (by decide) (jGW_of (by decide +kernel)) hev2 ?_
    rintro o M2 ⟨b, rfl, h67, hI⟩
    refine ⟨_, rfl, ?_⟩
    exact lwTl C hce (off := 200) rfl rfl rfl rfl rfl rfl rfl rfl rfl rfl rfl rfl rfl rfl rfl h67 (Or.inl rfl) (kk M2 hI)
  · rcases hK with ⟨h, _⟩ | ⟨v2, h, hev2⟩
    · cases h
    cases h
    refine lw1 (E := eLw) C hce (ins := .istore 5) rfl rfl ?_
    refine lw1 (E := eLw) C hce (ins := .aload_n 2) rfl rfl ?_
    refine lwS C X hce (k := 1) rfl rfl rfl rfl rfl rfl rfl (hin 1 (by decide) (by decide)) ?_
    refine lwS C X hce (k := 2) rfl rfl rfl rfl rfl rfl rfl (hin 2 (by decide) (by decide)) ?_
    refine lwV (E := eLw) C hce (idx := 152) (y := nX8_squares) (F := me_X8_squares) rfl rfl rfl (as' := [.int (xs (i + Int32.ofInt 1).toNatClampNeg), .int (xs (i + Int32.ofInt 2).toNatClampNeg)]) (rest := []) rfl rfl rfl (Nat.le_of_ble_eq_true rfl) (by decide) (by decide) (jGW_of (by decide +kernel)) hev2 ?_
    rintro o M2 ⟨rfl, h67, h97, hI⟩
    refine ⟨_, rfl, ?_⟩
    exact lwTl C hce (off := 200) rfl rfl rfl rfl rfl rfl rfl rfl rfl rfl rfl rfl rfl rfl rfl h67 (Or.inr ⟨rfl, h97⟩) (kk M2 hI)
set_option maxHeartbeats 4000000 in
set_option maxRecDepth 100000 in
theorem lc_fill (C : lwC eLw lwI α cA D A p l R s m args c) (X : lwX α A s Ln xs) (hce : cells + 1 ≤ R.cells ∧ slots + 6 ≤ R.slots) (hR : 8 ≤ R.frames ∧ 264 ≤ R.locals) (hin : ∀ k : Int, 1 ≤ k → k ≤ 5 → vp_in (i + Int32.ofInt k) Ln) (hM : iInv M)
    (kk : ∀ M' : jM, iInv M' → jG jSH α cA vwCl D A s.heap 8 p l e R s m args below meth c (cells + 1) (slots + 6) Q (1520, [(0, .ref 98), (1, .ref 0), (2, .ref 67), (3, .ref 97), (4, .int i)], [], M')) : jG jSH α cA vwCl D A s.heap 8 p l e R s m args below meth c cells slots Q (1323, [(0, .ref 98), (1, .ref 0), (2, .ref 67), (3, .ref 97), (4, .int i)], [], M) := by
  have hc0 : cells ≤ R.cells ∧ slots ≤ R.slots := ⟨by omega, by omega⟩
  refine lw1 (E := eLw) C hc0 (ins := .aload_n 1) rfl rfl ?_
  refine lwS C X hc0 (k := 1) rfl rfl rfl rfl rfl rfl rfl (hin 1 (by decide) (by decide)) ?_
  refine lwV (E := eLw) C hc0 (idx := 153) (y := nX7_fill) (F := me_X7_fill) rfl rfl rfl (as' := [.int (xs (i + Int32.ofInt 1).toNatClampNeg)]) (rest := []) rfl rfl rfl (Nat.le_of_ble_eq_true rfl) (by decide) (by decide) (jGW_of (by decide +kernel)) (op_fill hM _) ?_
  rintro o M1 ⟨r, rfl, hev2⟩
  refine ⟨_, rfl, ?_⟩
  refine lw1 (E := eLw) C hc0 (ins := .aload_n 2) rfl rfl ?_
  refine lwS C X hc0 (k := 1) rfl rfl rfl rfl rfl rfl rfl (hin 1 (by decide) (by decide)) ?_
  refine lwV (E := eLw) C hc0 (idx := 156) (y := nX8_fill) (F := me_X8_fill) rfl rfl rfl (as' := [.int (xs (i + Int32.ofInt 1).toNatClampNeg)]) (rest := [.int r]) rfl rfl rfl (Nat.le_of_ble_eq_true rfl) (Nat.le_of_ble_eq_true rfl) (by decide) (jGW_of (by decide +kernel)) hev2 ?_
  rintro o M2 ⟨rfl, hI⟩
  refine ⟨_, rfl, ?_⟩
  refine lwEq C hc0 (off := 177) (t := 1520) rfl rfl ?_
  exact lwwiden (E := eLw) (Nat.le_add_right _ _) (Nat.le_add_right _ _) (kk M2 hI)
set_option maxHeartbeats 4000000 in
set_option maxRecDepth 100000 in
theorem lc_filled (C : lwC eLw lwI α cA D A p l R s m args c) (X : lwX α A s Ln xs) (hce : cells + 1 ≤ R.cells ∧ slots + 6 ≤ R.slots) (hR : 8 ≤ R.frames ∧ 264 ≤ R.locals) (hin : ∀ k : Int, 1 ≤ k → k ≤ 5 → vp_in (i + Int32.ofInt k) Ln) (hM : iInv M)
    (kk : ∀ M' : jM, iInv M' → jG jSH α cA vwCl D A s.heap 8 p l e R s m args below meth c (cells + 1) (slots + 6) Q (1520, [(0, .ref 98), (1, .ref 0), (2, .ref 67), (3, .ref 97), (4, .int i)], [], M')) : jG jSH α cA vwCl D A s.heap 8 p l e R s m args below meth c cells slots Q (1348, [(0, .ref 98), (1, .ref 0), (2, .ref 67), (3, .ref 97), (4, .int i)], [], M) := by
  have hc0 : cells ≤ R.cells ∧ slots ≤ R.slots := ⟨by omega, by omega⟩
  refine lw1 (E := eLw) C hc0 (ins := .aload_n 1) rfl rfl ?_
  refine lwS C X hc0 (k := 1) rfl rfl rfl rfl rfl rfl rfl (hin 1 (by decide) (by decide)) ?_
  refine lwS C X hc0 (k := 2) rfl rfl rfl rfl rfl rfl rfl (hin 2 (by decide) (by decide)) ?_
  refine lw1 (E := eLw) C hc0 (ins := .aload_n 3) rfl rfl ?_
  refine lwSX C hce hR (idx := 157) (y := yL_filled) (bytes := cL_filled) (maxL := 5) (n := 4) (hh := [(0, 9, 12, 13)]) (as := [.ref 0, .int (xs (i + Int32.ofInt 1).toNatClampNeg), .int (xs (i + Int32.ofInt 2).toNatClampNeg), .ref 97]) (rest := []) rfl (by decide) (h_filled (op_filled hM _ _) (fun o M1 h => h.elim (fun h => Or.inl h.1) (fun ⟨v, h, _⟩ => Or.inr ⟨v, h⟩)) C.2.1 l C.2.2.2.2.2.2.2) rfl (by decide) rfl (jGW_of (by decide +kernel)) (jGW_of (by decide +kernel)) (jGW_of (by decide +kernel)) (jGW_of (by decide +kernel)) (by decide +kernel) ?_
  intro r M1 hr
  rcases hr with ⟨rfl, hK⟩ | ⟨rfl, v, M0, hK, rfl⟩
  · rcases hK with ⟨_, hev2⟩ | ⟨v, h, _⟩
    rotate_left
    · cases h
    refine lw1 (E := eLw) C hce (ins := .istore 5) rfl rfl ?_
    refine lw1 (E := eLw) C hce (ins := .aload_n 2) rfl rfl ?_
    refine lwS C X hce (k := 1) rfl rfl rfl rfl rfl rfl rfl (hin 1 (by decide) (by decide)) ?_
    refine lwS C X hce (k := 2) rfl rfl rfl rfl rfl rfl rfl (hin 2 (by decide) (by decide)) ?_
    refine lwV (E := eLw) C hce (idx := 159) (y := nX8_filled) (F := me_X8_filled) rfl rfl rfl (as' := [.int (xs (i + Int32.ofInt 1).toNatClampNeg), .int (xs (i + Int32.ofInt 2).toNatClampNeg)]) (rest := []) rfl rfl rfl (Nat.le_of_ble_eq_true rfl) (by decide) (by decide) (jGW_of (by decide +kernel)) hev2 ?_
    rintro o M2 ⟨b, rfl, h67, hI⟩
    refine ⟨_, rfl, ?_⟩
    exact lwTl C hce (off := 108) rfl rfl rfl rfl rfl rfl rfl rfl rfl rfl rfl rfl rfl rfl rfl h67 (Or.inl rfl) (kk M2 hI)
  · rcases hK with ⟨h, _⟩ | ⟨v2, h, hev2⟩
    · cases h
    cases h
    refine lw1 (E := eLw) C hce (ins := .istore 5) rfl rfl ?_
    refine lw1 (E := eLw) C hce (ins := .aload_n 2) rfl rfl ?_
    refine lwS C X hce (k := 1) rfl rfl rfl rfl rfl rfl rfl (hin 1 (by decide) (by decide)) ?_
    refine lwS C X hce (k := 2) rfl rfl rfl rfl rfl rfl rfl (hin 2 (by decide) (by decide)) ?_
    refine lwV (E := eLw) C hce (idx := 159) (y := nX8_filled) (F := me_X8_filled) rfl rfl rfl (as' := [.int (xs (i + Int32.ofInt 1).toNatClampNeg), .int (xs (i + Int32.ofInt 2).toNatClampNeg)]) (rest := []) rfl rfl rfl (Nat.le_of_ble_eq_true rfl) (by decide) (by decide) (jGW_of (by decide +kernel)) hev2 ?_
    rintro o M2 ⟨rfl, h67, h97, hI⟩
    refine ⟨_, rfl, ?_⟩
    exact lwTl C hce (off := 108) rfl rfl rfl rfl rfl rfl rfl rfl rfl rfl rfl rfl rfl rfl rfl h67 (Or.inr ⟨rfl, h97⟩) (kk M2 hI)
set_option maxHeartbeats 4000000 in
set_option maxRecDepth 100000 in
theorem lc_amiss (C : lwC eLw lwI α cA D A p l R s m args c) (X : lwX α A s Ln xs) (hce : cells + 1 ≤ R.cells ∧ slots + 6 ≤ R.slots) (hR : 8 ≤ R.frames ∧ 264 ≤ R.locals) (hin : ∀ k : Int, 1 ≤ k → k ≤ 5 → vp_in (i + Int32.ofInt k) Ln) (hM : iInv M)
    (kk : ∀ M' : jM, iInv M' → jG jSH α cA vwCl D A s.heap 8 p l e R s m args below meth c (cells + 1) (slots + 6) Q (1520, [(0, .ref 98), (1, .ref 0), (2, .ref 67), (3, .ref 97), (4, .int i)], [], M')) : jG jSH α cA vwCl D A s.heap 8 p l e R s m args below meth c cells slots Q (1415, [(0, .ref 98), (1, .ref 0), (2, .ref 67), (3, .ref 97), (4, .int i)], [], M) := by
  have hc0 : cells ≤ R.cells ∧ slots ≤ R.slots := ⟨by omega, by omega⟩
  refine lw1 (E := eLw) C hc0 (ins := .aload_n 1) rfl rfl ?_
  refine lwS C X hc0 (k := 1) rfl rfl rfl rfl rfl rfl rfl (hin 1 (by decide) (by decide)) ?_
  refine lwV (E := eLw) C hc0 (idx := 160) (y := nX7_amiss) (F := me_X7_amiss) rfl rfl rfl (as' := [.int (xs (i + Int32.ofInt 1).toNatClampNeg)]) (rest := []) rfl rfl rfl (Nat.le_of_ble_eq_true rfl) (by decide) (by decide) (jGW_of (by decide +kernel)) (op_amiss hM _) ?_
  rintro o M1 ⟨r, rfl, hev2⟩
  refine ⟨_, rfl, ?_⟩
  refine lw1 (E := eLw) C hc0 (ins := .aload_n 2) rfl rfl ?_
  refine lwS C X hc0 (k := 1) rfl rfl rfl rfl rfl rfl rfl (hin 1 (by decide) (by decide)) ?_
  refine lwV (E := eLw) C hc0 (idx := 163) (y := nX8_amiss) (F := me_X8_amiss) rfl rfl rfl (as' := [.int (xs (i + Int32.ofInt 1).toNatClampNeg)]) (rest := [.int r]) rfl rfl rfl (Nat.le_of_ble_eq_true rfl) (Nat.le_of_ble_eq_true rfl) (by decide) (jGW_of (by decide +kernel)) hev2 ?_
  rintro o M2 ⟨rfl, hI⟩
  refine ⟨_, rfl, ?_⟩
  refine lwEq C hc0 (off := 85) (t := 1520) rfl rfl ?_
  exact lwwiden (E := eLw) (Nat.le_add_right _ _) (Nat.le_add_right _ _) (kk M2 hI)
set_option maxHeartbeats 4000000 in
set_option maxRecDepth 100000 in
theorem lc_lower (C : lwC eLw lwI α cA D A p l R s m args c) (X : lwX α A s Ln xs) (hce : cells + 1 ≤ R.cells ∧ slots + 6 ≤ R.slots) (hR : 8 ≤ R.frames ∧ 264 ≤ R.locals) (hin : ∀ k : Int, 1 ≤ k → k ≤ 5 → vp_in (i + Int32.ofInt k) Ln) (hM : iInv M)
    (kk : ∀ M' : jM, iInv M' → jG jSH α cA vwCl D A s.heap 8 p l e R s m args below meth c (cells + 1) (slots + 6) Q (1520, [(0, .ref 98), (1, .ref 0), (2, .ref 67), (3, .ref 97), (4, .int i)], [], M')) : jG jSH α cA vwCl D A s.heap 8 p l e R s m args below meth c cells slots Q (1440, [(0, .ref 98), (1, .ref 0), (2, .ref 67), (3, .ref 97), (4, .int i)], [], M) := by
  have hc0 : cells ≤ R.cells ∧ slots ≤ R.slots := ⟨by omega, by omega⟩
  refine lw1 (E := eLw) C hc0 (ins := .aload_n 1) rfl rfl ?_
  refine lwS C X hc0 (k := 1) rfl rfl rfl rfl rfl rfl rfl (hin 1 (by decide) (by decide)) ?_
  refine lw1 (E := eLw) C hc0 (ins := .aload_n 3) rfl rfl ?_
  refine lwSX C hce hR (idx := 164) (y := yL_lower) (bytes := cL_lower) (maxL := 4) (n := 3) (hh := [(0, 8, 11, 13)]) (as := [.ref 0, .int (xs (i + Int32.ofInt 1).toNatClampNeg), .ref 97]) (rest := []) rfl (by decide) (h_lower (op_lower hM _) (fun o M1 h => h.elim (fun h => Or.inl h.1) (fun ⟨v, h, _⟩ => Or.inr ⟨v, h⟩)) C.2.1 l C.2.2.2.2.2.2.2) rfl (by decide) rfl (jGW_of (by decide +kernel)) (jGW_of (by decide +kernel)) (jGW_of (by decide +kernel)) (jGW_of (by decide +kernel)) (by decide +kernel) ?_
  intro r M1 hr
  rcases hr with ⟨rfl, hK⟩ | ⟨rfl, v, M0, hK, rfl⟩
  · rcases hK with ⟨_, hev2⟩ | ⟨v, h, _⟩
    rotate_left
    · cases h
    refine lw1 (E := eLw) C hce (ins := .istore 5) rfl rfl ?_
    refine lw1 (E := eLw) C hce (ins := .aload_n 2) rfl rfl ?_
    refine lwS C X hce (k := 1) rfl rfl rfl rfl rfl rfl rfl (hin 1 (by decide) (by decide)) ?_
    refine lwV (E := eLw) C hce (idx := 167) (y := nX8_lower) (F := me_X8_lower) rfl rfl rfl (as' := [.int (xs (i + Int32.ofInt 1).toNatClampNeg)]) (rest := []) rfl rfl rfl (Nat.le_of_ble_eq_true rfl) (by decide) (by decide) (jGW_of (by decide +kernel)) hev2 ?_
    rintro o M2 ⟨b, rfl, h67, hI⟩
    refine ⟨_, rfl, ?_⟩
    exact lwTl C hce (off := 28) rfl rfl rfl rfl rfl rfl rfl rfl rfl rfl rfl rfl rfl rfl rfl h67 (Or.inl rfl) (kk M2 hI)
  · rcases hK with ⟨h, _⟩ | ⟨v2, h, hev2⟩
    · cases h
    cases h
    refine lw1 (E := eLw) C hce (ins := .istore 5) rfl rfl ?_
    refine lw1 (E := eLw) C hce (ins := .aload_n 2) rfl rfl ?_
    refine lwS C X hce (k := 1) rfl rfl rfl rfl rfl rfl rfl (hin 1 (by decide) (by decide)) ?_
    refine lwV (E := eLw) C hce (idx := 167) (y := nX8_lower) (F := me_X8_lower) rfl rfl rfl (as' := [.int (xs (i + Int32.ofInt 1).toNatClampNeg)]) (rest := []) rfl rfl rfl (Nat.le_of_ble_eq_true rfl) (by decide) (by decide) (jGW_of (by decide +kernel)) hev2 ?_
    rintro o M2 ⟨rfl, h67, h97, hI⟩
    refine ⟨_, rfl, ?_⟩
    exact lwTl C hce (off := 28) rfl rfl rfl rfl rfl rfl rfl rfl rfl rfl rfl rfl rfl rfl rfl h67 (Or.inr ⟨rfl, h97⟩) (kk M2 hI)
set_option maxHeartbeats 4000000 in
set_option maxRecDepth 100000 in
theorem lc_count (C : lwC eLw lwI α cA D A p l R s m args c) (X : lwX α A s Ln xs) (hce : cells + 1 ≤ R.cells ∧ slots + 6 ≤ R.slots) (hR : 8 ≤ R.frames ∧ 264 ≤ R.locals) (hin : ∀ k : Int, 1 ≤ k → k ≤ 5 → vp_in (i + Int32.ofInt k) Ln) (hM : iInv M)
    (kk : ∀ M' : jM, iInv M' → jG jSH α cA vwCl D A s.heap 8 p l e R s m args below meth c (cells + 1) (slots + 6) Q (1520, [(0, .ref 98), (1, .ref 0), (2, .ref 67), (3, .ref 97), (4, .int i)], [], M')) : jG jSH α cA vwCl D A s.heap 8 p l e R s m args below meth c cells slots Q (1495, [(0, .ref 98), (1, .ref 0), (2, .ref 67), (3, .ref 97), (4, .int i)], [], M) := by
  have hc0 : cells ≤ R.cells ∧ slots ≤ R.slots := ⟨by omega, by omega⟩
  refine lw1 (E := eLw) C hc0 (ins := .aload_n 1) rfl rfl ?_
  refine lwS C X hc0 (k := 1) rfl rfl rfl rfl rfl rfl rfl (hin 1 (by decide) (by decide)) ?_
  refine lwV (E := eLw) C hc0 (idx := 168) (y := nX7_count) (F := me_X7_count) rfl rfl rfl (as' := [.int (xs (i + Int32.ofInt 1).toNatClampNeg)]) (rest := []) rfl rfl rfl (Nat.le_of_ble_eq_true rfl) (by decide) (by decide) (jGW_of (by decide +kernel)) (op_count hM _) ?_
  rintro o M1 ⟨r, rfl, hev2⟩
  refine ⟨_, rfl, ?_⟩
  refine lw1 (E := eLw) C hc0 (ins := .aload_n 2) rfl rfl ?_
  refine lwS C X hc0 (k := 1) rfl rfl rfl rfl rfl rfl rfl (hin 1 (by decide) (by decide)) ?_
  refine lwV (E := eLw) C hc0 (idx := 171) (y := nX8_count) (F := me_X8_count) rfl rfl rfl (as' := [.int (xs (i + Int32.ofInt 1).toNatClampNeg)]) (rest := [.int r]) rfl rfl rfl (Nat.le_of_ble_eq_true rfl) (Nat.le_of_ble_eq_true rfl) (by decide) (jGW_of (by decide +kernel)) hev2 ?_
  rintro o M2 ⟨rfl, hI⟩
  refine ⟨_, rfl, ?_⟩
  refine lwEq C hc0 (off := 5) (t := 1520) rfl rfl ?_
  exact lwwiden (E := eLw) (Nat.le_add_right _ _) (Nat.le_add_right _ _) (kk M2 hI)
end LawCases
