/-! THE LAW'S LOOP -/
theorem and31 (x : Int32) : ∃ k : Nat, k < 32 ∧ x &&& 31 = Int32.ofNat k := by
  refine ⟨(x &&& 31).toBitVec.toNat, ?_, ?_⟩
  · rw [Int32.toBitVec_and, BitVec.toNat_and]
    have h : (31 : Int32).toBitVec.toNat = 31 := by decide
    rw [h]
    exact Nat.lt_succ_of_le Nat.and_le_right
  · apply Int32.toBitVec_inj.mp
    show _ = BitVec.ofNat 32 _
    rw [BitVec.ofNat_toNat, BitVec.setWidth_eq]
def tsw : Instr := .tableswitch 1480 0 28 #[132, 205, 230, 303, 328, 353, 460, 539, 576, 601, 638, 687, 724, 792, 817, 908, 987, 1012, 1037, 1050, 1075, 1112, 1191, 1216, 1283, 1308, 1375, 1400, 1455]
theorem tsw_at : lwI 40 = some tsw := rfl
theorem tsw_0 {L : List (Nat × Value)} {M : jM} : jone jT0 eLw tsw (40, L, [.int (Int32.ofNat 0)], M) = some (172, L, [], M) := rfl
theorem tsw_1 {L : List (Nat × Value)} {M : jM} : jone jT0 eLw tsw (40, L, [.int (Int32.ofNat 1)], M) = some (245, L, [], M) := rfl
theorem tsw_2 {L : List (Nat × Value)} {M : jM} : jone jT0 eLw tsw (40, L, [.int (Int32.ofNat 2)], M) = some (270, L, [], M) := rfl
theorem tsw_3 {L : List (Nat × Value)} {M : jM} : jone jT0 eLw tsw (40, L, [.int (Int32.ofNat 3)], M) = some (343, L, [], M) := rfl
theorem tsw_4 {L : List (Nat × Value)} {M : jM} : jone jT0 eLw tsw (40, L, [.int (Int32.ofNat 4)], M) = some (368, L, [], M) := rfl
theorem tsw_5 {L : List (Nat × Value)} {M : jM} : jone jT0 eLw tsw (40, L, [.int (Int32.ofNat 5)], M) = some (393, L, [], M) := rfl
theorem tsw_6 {L : List (Nat × Value)} {M : jM} : jone jT0 eLw tsw (40, L, [.int (Int32.ofNat 6)], M) = some (500, L, [], M) := rfl
theorem tsw_7 {L : List (Nat × Value)} {M : jM} : jone jT0 eLw tsw (40, L, [.int (Int32.ofNat 7)], M) = some (579, L, [], M) := rfl
theorem tsw_8 {L : List (Nat × Value)} {M : jM} : jone jT0 eLw tsw (40, L, [.int (Int32.ofNat 8)], M) = some (616, L, [], M) := rfl
theorem tsw_9 {L : List (Nat × Value)} {M : jM} : jone jT0 eLw tsw (40, L, [.int (Int32.ofNat 9)], M) = some (641, L, [], M) := rfl
theorem tsw_10 {L : List (Nat × Value)} {M : jM} : jone jT0 eLw tsw (40, L, [.int (Int32.ofNat 10)], M) = some (678, L, [], M) := rfl
theorem tsw_11 {L : List (Nat × Value)} {M : jM} : jone jT0 eLw tsw (40, L, [.int (Int32.ofNat 11)], M) = some (727, L, [], M) := rfl
theorem tsw_12 {L : List (Nat × Value)} {M : jM} : jone jT0 eLw tsw (40, L, [.int (Int32.ofNat 12)], M) = some (764, L, [], M) := rfl
theorem tsw_13 {L : List (Nat × Value)} {M : jM} : jone jT0 eLw tsw (40, L, [.int (Int32.ofNat 13)], M) = some (832, L, [], M) := rfl
theorem tsw_14 {L : List (Nat × Value)} {M : jM} : jone jT0 eLw tsw (40, L, [.int (Int32.ofNat 14)], M) = some (857, L, [], M) := rfl
theorem tsw_15 {L : List (Nat × Value)} {M : jM} : jone jT0 eLw tsw (40, L, [.int (Int32.ofNat 15)], M) = some (948, L, [], M) := rfl
theorem tsw_16 {L : List (Nat × Value)} {M : jM} : jone jT0 eLw tsw (40, L, [.int (Int32.ofNat 16)], M) = some (1027, L, [], M) := rfl
theorem tsw_17 {L : List (Nat × Value)} {M : jM} : jone jT0 eLw tsw (40, L, [.int (Int32.ofNat 17)], M) = some (1052, L, [], M) := rfl
theorem tsw_18 {L : List (Nat × Value)} {M : jM} : jone jT0 eLw tsw (40, L, [.int (Int32.ofNat 18)], M) = some (1077, L, [], M) := rfl
theorem tsw_19 {L : List (Nat × Value)} {M : jM} : jone jT0 eLw tsw (40, L, [.int (Int32.ofNat 19)], M) = some (1090, L, [], M) := rfl
theorem tsw_20 {L : List (Nat × Value)} {M : jM} : jone jT0 eLw tsw (40, L, [.int (Int32.ofNat 20)], M) = some (1115, L, [], M) := rfl
theorem tsw_21 {L : List (Nat × Value)} {M : jM} : jone jT0 eLw tsw (40, L, [.int (Int32.ofNat 21)], M) = some (1152, L, [], M) := rfl
theorem tsw_22 {L : List (Nat × Value)} {M : jM} : jone jT0 eLw tsw (40, L, [.int (Int32.ofNat 22)], M) = some (1231, L, [], M) := rfl
theorem tsw_23 {L : List (Nat × Value)} {M : jM} : jone jT0 eLw tsw (40, L, [.int (Int32.ofNat 23)], M) = some (1256, L, [], M) := rfl
theorem tsw_24 {L : List (Nat × Value)} {M : jM} : jone jT0 eLw tsw (40, L, [.int (Int32.ofNat 24)], M) = some (1323, L, [], M) := rfl
theorem tsw_25 {L : List (Nat × Value)} {M : jM} : jone jT0 eLw tsw (40, L, [.int (Int32.ofNat 25)], M) = some (1348, L, [], M) := rfl
theorem tsw_26 {L : List (Nat × Value)} {M : jM} : jone jT0 eLw tsw (40, L, [.int (Int32.ofNat 26)], M) = some (1415, L, [], M) := rfl
theorem tsw_27 {L : List (Nat × Value)} {M : jM} : jone jT0 eLw tsw (40, L, [.int (Int32.ofNat 27)], M) = some (1440, L, [], M) := rfl
theorem tsw_28 {L : List (Nat × Value)} {M : jM} : jone jT0 eLw tsw (40, L, [.int (Int32.ofNat 28)], M) = some (1495, L, [], M) := rfl
theorem tsw_29 {L : List (Nat × Value)} {M : jM} : jone jT0 eLw tsw (40, L, [.int (Int32.ofNat 29)], M) = some (1520, L, [], M) := rfl
theorem tsw_30 {L : List (Nat × Value)} {M : jM} : jone jT0 eLw tsw (40, L, [.int (Int32.ofNat 30)], M) = some (1520, L, [], M) := rfl
theorem tsw_31 {L : List (Nat × Value)} {M : jM} : jone jT0 eLw tsw (40, L, [.int (Int32.ofNat 31)], M) = some (1520, L, [], M) := rfl
theorem law_gt {Ln j : Nat} (h : Ln < j + 6) (hj : j + 6 < 2 ^ 31) : Int32.ofNat Ln - (6 : Int32) < nI j := by
  have h1 : (Int32.ofNat Ln).toInt = (Ln : Int) := nI_toInt (n := Ln) (by omega)
  have h2 : (nI j).toInt = (j : Int) := nI_toInt (by omega)
  rw [Int32.lt_iff_toInt_lt, Int32.toInt_sub, h1, h2, show (6 : Int32).toInt = 6 by decide, Int.bmod_eq_of_le (by omega) (by omega)]
  omega
theorem law_le {Ln j : Nat} (h : j + 6 ≤ Ln) (hL : Ln < 2 ^ 31) : ¬ Int32.ofNat Ln - (6 : Int32) < nI j := by
  have h1 : (Int32.ofNat Ln).toInt = (Ln : Int) := nI_toInt (n := Ln) (by omega)
  have h2 : (nI j).toInt = (j : Int) := nI_toInt (by omega)
  rw [Int32.lt_iff_toInt_lt, Int32.toInt_sub, h1, h2, show (6 : Int32).toInt = 6 by decide, Int.bmod_eq_of_le (by omega) (by omega)]
  omega
theorem law_out {α : Nat → Nat} {cA : Nat → ClassId} {D : va_G} {A : Nat → Prop} {p : Program} {l : Launch} {e : Env} {s : State} {m : MethodId} {below : List Frame} {meth : Method} {c : Code} {b cells slots : Nat} {L : List (Nat × Value)} {M : jM} (C : lwC eLw lwI α cA D A p l room_1 s m #[Value.ref b] c) (hr : meth.sig.returnType = ret) (hlocks : meth.locks = false) (hAs : ∀ q, A q → s.heap.size ≤ q) (hc0 : cells ≤ room_1.cells ∧ slots ≤ room_1.slots) :
    jG jSH α cA vwCl D A s.heap 8 p l e room_1 s m #[Value.ref b] below meth c cells slots (lw_Z below #[Value.ref b] s) (1526, L, [], M) := by
  refine lw1 (E := eLw) C hc0 (ins := .iconst 1) rfl rfl ?_
  intro H locs ls hrel
  refine va_forget (fun q hq => hAs _ (hrel.2.1.2.2 q hq)) ?_
  refine W.widen (k := 630268) (n := 7205301) hc0.1 hc0.2 ?_
  exact lw_ret C.1.1 C.1.2.1 hr hlocks (show decode code 1527 = .ok (.ireturn, 1) by decide +kernel)
section LawLoop
variable {α : Nat → Nat} {cA : Nat → ClassId} {D : va_G} {A : Nat → Prop} {p : Program} {l : Launch} {e : Env} {s : State} {m : MethodId} {below : List Frame} {meth : Method} {c : Code} {Ln : Nat} {xs : Nat → Int32}
set_option maxHeartbeats 4000000 in
set_option maxRecDepth 100000 in
theorem law_body {b j c0 s0 : Nat} {M : jM} {Q : State → Prop} (C : lwC eLw lwI α cA D A p l room_1 s m #[Value.ref b] c) (X : lwX α A s Ln xs) (hLn : Ln ≤ 3072) (hj : 6 * j + 6 ≤ Ln) (hce : c0 + 1 ≤ room_1.cells ∧ s0 + 6 ≤ room_1.slots) (hM : iInv M)
    (kk : ∀ M' : jM, iInv M' → jG jSH α cA vwCl D A s.heap 8 p l e room_1 s m #[Value.ref b] below meth c (c0 + 1) (s0 + 6) Q (1520, [(0, .ref 98), (1, .ref 0), (2, .ref 67), (3, .ref 97), (4, .int (nI (6 * j)))], [], M')) :
    jG jSH α cA vwCl D A s.heap 8 p l e room_1 s m #[Value.ref b] below meth c c0 s0 Q (33, [(0, .ref 98), (1, .ref 0), (2, .ref 67), (3, .ref 97), (4, .int (nI (6 * j)))], [], M) := by
  have hc0 : c0 ≤ room_1.cells ∧ s0 ≤ room_1.slots := ⟨by omega, by omega⟩
  have hR : 8 ≤ room_1.frames ∧ 264 ≤ room_1.locals := ⟨by decide, by decide⟩
  have hin : ∀ k : Int, 1 ≤ k → k ≤ 5 → vp_in (nI (6 * j) + Int32.ofInt k) Ln := by
    intro k h1 h2
    have e : Int32.ofInt k = nI k.toNat := by
      obtain ⟨n, rfl⟩ : ∃ n : Nat, k = (n : Int) := ⟨k.toNat, by omega⟩
      rw [Int.toNat_natCast]
      exact Int32.ofInt_eq_ofNat
    rw [e, nI_add]
    exact vp_in_nI (by omega) (by omega)
  refine lw1 (E := eLw) C hc0 (ins := .aload_n 0) rfl rfl ?_
  refine lw1 (E := eLw) C hc0 (ins := .iload 4) rfl rfl ?_
  refine lwIa C X rfl (vp_in_nI (by omega) (by omega)) ?_
  refine lw1 (E := eLw) C hc0 (ins := .bipush 31) rfl (g := (39, [(0, .ref 98), (1, .ref 0), (2, .ref 67), (3, .ref 97), (4, .int (nI (6 * j)))], [.int 31, .int (xs (nI (6 * j)).toNatClampNeg)], M)) rfl ?_
  refine lw1 (E := eLw) C hc0 (ins := .iand) rfl (g := (40, [(0, .ref 98), (1, .ref 0), (2, .ref 67), (3, .ref 97), (4, .int (nI (6 * j)))], [.int (xs (nI (6 * j)).toNatClampNeg &&& 31)], M)) rfl ?_
  obtain ⟨k, hk, hw⟩ := and31 (xs (nI (6 * j)).toNatClampNeg)
  rw [hw]
  match k, hk with
  | 0, _ => exact lw1 (E := eLw) C hc0 tsw_at tsw_0 (lc_feed C X hce hR hin hM kk)
  | 1, _ => exact lw1 (E := eLw) C hc0 tsw_at tsw_1 (lc_end C X hce hR hin hM kk)
  | 2, _ => exact lw1 (E := eLw) C hc0 tsw_at tsw_2 (lc_rule C X hce hR hin hM kk)
  | 3, _ => exact lw1 (E := eLw) C hc0 tsw_at tsw_3 (lc_steady C X hce hR hin hM kk)
  | 4, _ => exact lw1 (E := eLw) C hc0 tsw_at tsw_4 (lc_clear C X hce hR hin hM kk)
  | 5, _ => exact lw1 (E := eLw) C hc0 tsw_at tsw_5 (lc_weight C X hce hR hin hM kk)
  | 6, _ => exact lw1 (E := eLw) C hc0 tsw_at tsw_6 (lc_like C X hce hR hin hM kk)
  | 7, _ => exact lw1 (E := eLw) C hc0 tsw_at tsw_7 (lc_same C X hce hR hin hM kk)
  | 8, _ => exact lw1 (E := eLw) C hc0 tsw_at tsw_8 (lc_given C X hce hR hin hM kk)
  | 9, _ => exact lw1 (E := eLw) C hc0 tsw_at tsw_9 (lc_counted C X hce hR hin hM kk)
  | 10, _ => exact lw1 (E := eLw) C hc0 tsw_at tsw_10 (lc_joined C X hce hR hin hM kk)
  | 11, _ => exact lw1 (E := eLw) C hc0 tsw_at tsw_11 (lc_thin C X hce hR hin hM kk)
  | 12, _ => exact lw1 (E := eLw) C hc0 tsw_at tsw_12 (lc_likeness C X hce hR hin hM kk)
  | 13, _ => exact lw1 (E := eLw) C hc0 tsw_at tsw_13 (lc_steps C X hce hR hin hM kk)
  | 14, _ => exact lw1 (E := eLw) C hc0 tsw_at tsw_14 (lc_share C X hce hR hin hM kk)
  | 15, _ => exact lw1 (E := eLw) C hc0 tsw_at tsw_15 (lc_left C X hce hR hin hM kk)
  | 16, _ => exact lw1 (E := eLw) C hc0 tsw_at tsw_16 (lc_solid C X hce hR hin hM kk)
  | 17, _ => exact lw1 (E := eLw) C hc0 tsw_at tsw_17 (lc_even C X hce hR hin hM kk)
  | 18, _ => exact lw1 (E := eLw) C hc0 tsw_at tsw_18 (lc_row C X hce hR hin hM kk)
  | 19, _ => exact lw1 (E := eLw) C hc0 tsw_at tsw_19 (lc_at C X hce hR hin hM kk)
  | 20, _ => exact lw1 (E := eLw) C hc0 tsw_at tsw_20 (lc_put C X hce hR hin hM kk)
  | 21, _ => exact lw1 (E := eLw) C hc0 tsw_at tsw_21 (lc_next C X hce hR hin hM kk)
  | 22, _ => exact lw1 (E := eLw) C hc0 tsw_at tsw_22 (lc_whole C X hce hR hin hM kk)
  | 23, _ => exact lw1 (E := eLw) C hc0 tsw_at tsw_23 (lc_squares C X hce hR hin hM kk)
  | 24, _ => exact lw1 (E := eLw) C hc0 tsw_at tsw_24 (lc_fill C X hce hR hin hM kk)
  | 25, _ => exact lw1 (E := eLw) C hc0 tsw_at tsw_25 (lc_filled C X hce hR hin hM kk)
  | 26, _ => exact lw1 (E := eLw) C hc0 tsw_at tsw_26 (lc_amiss C X hce hR hin hM kk)
  | 27, _ => exact lw1 (E := eLw) C hc0 tsw_at tsw_27 (lc_lower C X hce hR hin hM kk)
  | 28, _ => exact lw1 (E := eLw) C hc0 tsw_at tsw_28 (lc_count C X hce hR hin hM kk)
  | 29, _ => exact lw1 (E := eLw) C hc0 tsw_at tsw_29 (lwwiden (E := eLw) (Nat.le_add_right _ _) (Nat.le_add_right _ _) (kk M hM))
  | 30, _ => exact lw1 (E := eLw) C hc0 tsw_at tsw_30 (lwwiden (E := eLw) (Nat.le_add_right _ _) (Nat.le_add_right _ _) (kk M hM))
  | 31, _ => exact lw1 (E := eLw) C hc0 tsw_at tsw_31 (lwwiden (E := eLw) (Nat.le_add_right _ _) (Nat.le_add_right _ _) (kk M hM))
  | k + 32, h => exact absurd h (by omega)
set_option maxHeartbeats 4000000 in
set_option maxRecDepth 100000 in
theorem law_loop {b c0 s0 : Nat} (C : lwC eLw lwI α cA D A p l room_1 s m #[Value.ref b] c) (X : lwX α A s Ln xs) (hLn : Ln ≤ 3072) (hr : meth.sig.returnType = ret) (hlocks : meth.locks = false) (hAs : ∀ q, A q → s.heap.size ≤ q) (h0 : c0 + 512 ≤ room_1.cells ∧ s0 + 3072 ≤ room_1.slots) :
    ∀ (n j : Nat), j ≤ 512 → Ln + 6 ≤ 6 * j + 6 * n → ∀ M : jM, iInv M → jG jSH α cA vwCl D A s.heap 8 p l e room_1 s m #[Value.ref b] below meth c (c0 + j) (s0 + 6 * j) (lw_Z below #[Value.ref b] s) (23, [(0, .ref 98), (1, .ref 0), (2, .ref 67), (3, .ref 97), (4, .int (nI (6 * j)))], [], M) := by
  intro n
  induction n with
  | zero =>
    intro j hj hn M hM
    have hc0 : c0 + j ≤ room_1.cells ∧ s0 + 6 * j ≤ room_1.slots := ⟨by omega, by omega⟩
    have hlt : Int32.ofNat Ln - (6 : Int32) < nI (6 * j) := law_gt (by omega) (by omega)
    refine lw1 (E := eLw) C hc0 (ins := .iload 4) rfl rfl ?_
    refine lw1 (E := eLw) C hc0 (ins := .aload_n 0) rfl rfl ?_
    refine lwLen C X rfl ?_
    refine lw1 (E := eLw) C hc0 (ins := .bipush 6) rfl (g := (29, [(0, .ref 98), (1, .ref 0), (2, .ref 67), (3, .ref 97), (4, .int (nI (6 * j)))], [.int 6, .int (Int32.ofNat Ln), .int (nI (6 * j))], M)) rfl ?_
    refine lw1 (E := eLw) C hc0 (ins := .isub) rfl (g := (30, [(0, .ref 98), (1, .ref 0), (2, .ref 67), (3, .ref 97), (4, .int (nI (6 * j)))], [.int (Int32.ofNat Ln - 6), .int (nI (6 * j))], M)) rfl ?_
    refine lw1 (E := eLw) C hc0 (ins := .if_icmp .gt 1496) rfl (g := (1526, [(0, .ref 98), (1, .ref 0), (2, .ref 67), (3, .ref 97), (4, .int (nI (6 * j)))], [], M)) (by show jgo (30, _, _, M) _ (decide (_ < _)) 1496 = _; rw [decide_eq_true hlt]; rfl) ?_
    exact law_out C hr hlocks hAs hc0
  | succ n ih =>
    intro j hj hn M hM
    have hc0 : c0 + j ≤ room_1.cells ∧ s0 + 6 * j ≤ room_1.slots := ⟨by omega, by omega⟩
    refine lw1 (E := eLw) C hc0 (ins := .iload 4) rfl rfl ?_
    refine lw1 (E := eLw) C hc0 (ins := .aload_n 0) rfl rfl ?_
    refine lwLen C X rfl ?_
    refine lw1 (E := eLw) C hc0 (ins := .bipush 6) rfl (g := (29, [(0, .ref 98), (1, .ref 0), (2, .ref 67), (3, .ref 97), (4, .int (nI (6 * j)))], [.int 6, .int (Int32.ofNat Ln), .int (nI (6 * j))], M)) rfl ?_
    refine lw1 (E := eLw) C hc0 (ins := .isub) rfl (g := (30, [(0, .ref 98), (1, .ref 0), (2, .ref 67), (3, .ref 97), (4, .int (nI (6 * j)))], [.int (Int32.ofNat Ln - 6), .int (nI (6 * j))], M)) rfl ?_
    by_cases hle : 6 * j + 6 ≤ Ln
    · have hlt : ¬ Int32.ofNat Ln - (6 : Int32) < nI (6 * j) := law_le hle (by omega)
      refine lw1 (E := eLw) C hc0 (ins := .if_icmp .gt 1496) rfl (g := (33, [(0, .ref 98), (1, .ref 0), (2, .ref 67), (3, .ref 97), (4, .int (nI (6 * j)))], [], M)) (by show jgo (30, _, _, M) _ (decide (_ < _)) 1496 = _; rw [decide_eq_false hlt]; rfl) ?_
      refine law_body C X hLn hle ⟨by omega, by omega⟩ hM ?_
      intro M' hM'
      have hc1 : c0 + j + 1 ≤ room_1.cells ∧ s0 + 6 * j + 6 ≤ room_1.slots := ⟨by omega, by omega⟩
      have e6 : nI (6 * j) + Int32.ofInt 6 = nI (6 * (j + 1)) := nI_add (6 * j) 6
      refine lw1 (E := eLw) C hc1 (ins := .iinc 4 6) rfl (g := (1523, [(0, .ref 98), (1, .ref 0), (2, .ref 67), (3, .ref 97), (4, .int (nI (6 * (j + 1))))], [], M')) (by rw [← e6]; rfl) ?_
      refine lw1 (E := eLw) C hc1 (ins := .goto (-1500)) rfl (g := (23, [(0, .ref 98), (1, .ref 0), (2, .ref 67), (3, .ref 97), (4, .int (nI (6 * (j + 1))))], [], M')) rfl ?_
      exact ih (j + 1) (by omega) (by omega) M' hM'
    · have hlt : Int32.ofNat Ln - (6 : Int32) < nI (6 * j) := law_gt (by omega) (by omega)
      refine lw1 (E := eLw) C hc0 (ins := .if_icmp .gt 1496) rfl (g := (1526, [(0, .ref 98), (1, .ref 0), (2, .ref 67), (3, .ref 97), (4, .int (nI (6 * j)))], [], M)) (by show jgo (30, _, _, M) _ (decide (_ < _)) 1496 = _; rw [decide_eq_true hlt]; rfl) ?_
      exact law_out C hr hlocks hAs hc0
end LawLoop
