/-! determinants of both sides written out (printed by wip/whole/gen72.py) -/
def lS (f : Nat → Int64) : List Nat → Int64
  | [] => 0
  | a :: l => f a + lS f l
theorem lS_app (f : Nat → Int64) : ∀ (l : List Nat) (a : Nat), lS f (l ++ [a]) = lS f l + f a
  | [], a => by
    show f a + 0 = 0 + f a
    rw [Int64.add_zero, Int64.zero_add]
  | b :: l, a => by
    show f b + lS f (l ++ [a]) = f b + lS f l + f a
    rw [lS_app f l a, Int64.add_assoc]
theorem sL_filter {f : Nat → Int64} {P : Nat → Bool} (h : ∀ i, P i = false → f i = 0) : ∀ n, sL f n = lS f ((List.range n).filter P)
  | 0 => rfl
  | n + 1 => by
    show sL f n + f n = _
    rw [List.range_succ, List.filter_append, sL_filter h n]
    cases e : P n with
    | true => rw [show [n].filter P = [n] by simp [e], lS_app]
    | false => rw [show [n].filter P = [] by simp [e], List.append_nil, h n e, Int64.add_zero]
def dPb (n w : Nat) : Bool := !decide (dgo (dcol n w) n = 0)
theorem dtm_0 {sq : Nat → Nat → Int64} {n w : Nat} (h : dPb n w = false) : dtm sq n w = 0 := by
  have e : dgo (dcol n w) n = 0 := by
    unfold dPb at h
    simpa using h
  unfold dtm
  rw [e]
  have := dpr_0 (sq := sq) (c := dcol n w) (s := Int64.ofInt 0) (k := 0) rfl n
  rw [Nat.zero_add] at this
  exact this
theorem dpr_congr {sq sq' : Nat → Nat → Int64} {c : Nat → Nat} {s : Int64} {n : Nat} (h : ∀ i, i < n → sq i (c i) = sq' i (c i)) : ∀ k, k ≤ n → dpr sq c s k = dpr sq' c s k
  | 0, _ => rfl
  | k + 1, hk => by
    show dpr sq c s k * sq k (c k) = dpr sq' c s k * sq' k (c k)
    rw [dpr_congr h k (by omega), h k (by omega)]
theorem dM_congr {sq sq' : Nat → Nat → Int64} {n : Nat} (h : ∀ i j, i < n → j < n → sq i j = sq' i j) : dM sq n = dM sq' n :=
  sL_congr (fun w _ => dpr_congr (fun i hi => h i _ hi (dcol_lt (by omega))) n (Nat.le_refl n))
theorem oI1 : Int64.ofInt 1 = 1 := rfl
theorem oIm : Int64.ofInt (-1) = -1 := rfl
theorem dL0 : (List.range 1).filter (dPb 0) = [0] := by decide +kernel
theorem dM0 (sq : Nat → Nat → Int64) : dM sq 0 = (Int64.ofInt 1 + 0) := by
  show sL (dtm sq 0) 1 = _
  rw [sL_filter (fun i h => dtm_0 h), dL0]
  rfl
theorem dL1 : (List.range 1).filter (dPb 1) = [0] := by decide +kernel
theorem dM1 (sq : Nat → Nat → Int64) : dM sq 1 = (Int64.ofInt 1 * sq 0 0 + 0) := by
  show sL (dtm sq 1) 1 = _
  rw [sL_filter (fun i h => dtm_0 h), dL1]
  rfl
theorem dL2 : (List.range 4).filter (dPb 2) = [1, 2] := by decide +kernel
theorem dM2 (sq : Nat → Nat → Int64) : dM sq 2 = (Int64.ofInt (-1) * sq 0 1 * sq 1 0 + (Int64.ofInt 1 * sq 0 0 * sq 1 1 + 0)) := by
  show sL (dtm sq 2) 4 = _
  rw [sL_filter (fun i h => dtm_0 h), dL2]
  rfl
theorem dL3 : (List.range 27).filter (dPb 3) = [5, 7, 11, 15, 19, 21] := by decide +kernel
theorem dM3 (sq : Nat → Nat → Int64) : dM sq 3 = (Int64.ofInt (-1) * sq 0 2 * sq 1 1 * sq 2 0 + (Int64.ofInt 1 * sq 0 1 * sq 1 2 * sq 2 0 + (Int64.ofInt 1 * sq 0 2 * sq 1 0 * sq 2 1 + (Int64.ofInt (-1) * sq 0 0 * sq 1 2 * sq 2 1 + (Int64.ofInt (-1) * sq 0 1 * sq 1 0 * sq 2 2 + (Int64.ofInt 1 * sq 0 0 * sq 1 1 * sq 2 2 + 0)))))) := by
  show sL (dtm sq 3) 27 = _
  rw [sL_filter (fun i h => dtm_0 h), dL3]
  rfl
theorem dL4 : (List.range 256).filter (dPb 4) = [27, 30, 39, 45, 54, 57, 75, 78, 99, 108, 114, 120, 135, 141, 147, 156, 177, 180, 198, 201, 210, 216, 225, 228] := by decide +kernel
theorem dM4 (sq : Nat → Nat → Int64) : dM sq 4 = (Int64.ofInt 1 * sq 0 3 * sq 1 2 * sq 2 1 * sq 3 0 + (Int64.ofInt (-1) * sq 0 2 * sq 1 3 * sq 2 1 * sq 3 0 + (Int64.ofInt (-1) * sq 0 3 * sq 1 1 * sq 2 2 * sq 3 0 + (Int64.ofInt 1 * sq 0 1 * sq 1 3 * sq 2 2 * sq 3 0 + (Int64.ofInt 1 * sq 0 2 * sq 1 1 * sq 2 3 * sq 3 0 + (Int64.ofInt (-1) * sq 0 1 * sq 1 2 * sq 2 3 * sq 3 0 + (Int64.ofInt (-1) * sq 0 3 * sq 1 2 * sq 2 0 * sq 3 1 + (Int64.ofInt 1 * sq 0 2 * sq 1 3 * sq 2 0 * sq 3 1 + (Int64.ofInt 1 * sq 0 3 * sq 1 0 * sq 2 2 * sq 3 1 + (Int64.ofInt (-1) * sq 0 0 * sq 1 3 * sq 2 2 * sq 3 1 + (Int64.ofInt (-1) * sq 0 2 * sq 1 0 * sq 2 3 * sq 3 1 + (Int64.ofInt 1 * sq 0 0 * sq 1 2 * sq 2 3 * sq 3 1 + (Int64.ofInt 1 * sq 0 3 * sq 1 1 * sq 2 0 * sq 3 2 + (Int64.ofInt (-1) * sq 0 1 * sq 1 3 * sq 2 0 * sq 3 2 + (Int64.ofInt (-1) * sq 0 3 * sq 1 0 * sq 2 1 * sq 3 2 + (Int64.ofInt 1 * sq 0 0 * sq 1 3 * sq 2 1 * sq 3 2 + (Int64.ofInt 1 * sq 0 1 * sq 1 0 * sq 2 3 * sq 3 2 + (Int64.ofInt (-1) * sq 0 0 * sq 1 1 * sq 2 3 * sq 3 2 + (Int64.ofInt (-1) * sq 0 2 * sq 1 1 * sq 2 0 * sq 3 3 + (Int64.ofInt 1 * sq 0 1 * sq 1 2 * sq 2 0 * sq 3 3 + (Int64.ofInt 1 * sq 0 2 * sq 1 0 * sq 2 1 * sq 3 3 + (Int64.ofInt (-1) * sq 0 0 * sq 1 2 * sq 2 1 * sq 3 3 + (Int64.ofInt (-1) * sq 0 1 * sq 1 0 * sq 2 2 * sq 3 3 + (Int64.ofInt 1 * sq 0 0 * sq 1 1 * sq 2 2 * sq 3 3 + 0)))))))))))))))))))))))) := by
  show sL (dtm sq 4) 256 = _
  rw [sL_filter (fun i h => dtm_0 h), dL4]
  rfl
theorem dL5 : (List.range 3125).filter (dPb 5) = [194, 198, 214, 222, 238, 242, 294, 298, 334, 346, 358, 366, 414, 422, 434, 446, 482, 486, 538, 542, 558, 566, 582, 586, 694, 698, 714, 722, 738, 742, 894, 898, 954, 970, 978, 990, 1014, 1022, 1054, 1070, 1102, 1110, 1138, 1142, 1178, 1190, 1202, 1210, 1294, 1298, 1334, 1346, 1358, 1366, 1394, 1398, 1454, 1470, 1478, 1490, 1634, 1646, 1654, 1670, 1726, 1730, 1758, 1766, 1778, 1790, 1826, 1830, 1914, 1922, 1934, 1946, 1982, 1986, 2014, 2022, 2054, 2070, 2102, 2110, 2134, 2146, 2154, 2170, 2226, 2230, 2382, 2386, 2402, 2410, 2426, 2430, 2538, 2542, 2558, 2566, 2582, 2586, 2638, 2642, 2678, 2690, 2702, 2710, 2758, 2766, 2778, 2790, 2826, 2830, 2882, 2886, 2902, 2910, 2926, 2930] := by decide +kernel
set_option maxRecDepth 100000 in
theorem dM5 (sq : Nat → Nat → Int64) : dM sq 5 = (Int64.ofInt 1 * sq 0 4 * sq 1 3 * sq 2 2 * sq 3 1 * sq 4 0 + (Int64.ofInt (-1) * sq 0 3 * sq 1 4 * sq 2 2 * sq 3 1 * sq 4 0 + (Int64.ofInt (-1) * sq 0 4 * sq 1 2 * sq 2 3 * sq 3 1 * sq 4 0 + (Int64.ofInt 1 * sq 0 2 * sq 1 4 * sq 2 3 * sq 3 1 * sq 4 0 + (Int64.ofInt 1 * sq 0 3 * sq 1 2 * sq 2 4 * sq 3 1 * sq 4 0 + (Int64.ofInt (-1) * sq 0 2 * sq 1 3 * sq 2 4 * sq 3 1 * sq 4 0 + (Int64.ofInt (-1) * sq 0 4 * sq 1 3 * sq 2 1 * sq 3 2 * sq 4 0 + (Int64.ofInt 1 * sq 0 3 * sq 1 4 * sq 2 1 * sq 3 2 * sq 4 0 + (Int64.ofInt 1 * sq 0 4 * sq 1 1 * sq 2 3 * sq 3 2 * sq 4 0 + (Int64.ofInt (-1) * sq 0 1 * sq 1 4 * sq 2 3 * sq 3 2 * sq 4 0 + (Int64.ofInt (-1) * sq 0 3 * sq 1 1 * sq 2 4 * sq 3 2 * sq 4 0 + (Int64.ofInt 1 * sq 0 1 * sq 1 3 * sq 2 4 * sq 3 2 * sq 4 0 + (Int64.ofInt 1 * sq 0 4 * sq 1 2 * sq 2 1 * sq 3 3 * sq 4 0 + (Int64.ofInt (-1) * sq 0 2 * sq 1 4 * sq 2 1 * sq 3 3 * sq 4 0 + (Int64.ofInt (-1) * sq 0 4 * sq 1 1 * sq 2 2 * sq 3 3 * sq 4 0 + (Int64.ofInt 1 * sq 0 1 * sq 1 4 * sq 2 2 * sq 3 3 * sq 4 0 + (Int64.ofInt 1 * sq 0 2 * sq 1 1 * sq 2 4 * sq 3 3 * sq 4 0 + (Int64.ofInt (-1) * sq 0 1 * sq 1 2 * sq 2 4 * sq 3 3 * sq 4 0 + (Int64.ofInt (-1) * sq 0 3 * sq 1 2 * sq 2 1 * sq 3 4 * sq 4 0 + (Int64.ofInt 1 * sq 0 2 * sq 1 3 * sq 2 1 * sq 3 4 * sq 4 0 + (Int64.ofInt 1 * sq 0 3 * sq 1 1 * sq 2 2 * sq 3 4 * sq 4 0 + (Int64.ofInt (-1) * sq 0 1 * sq 1 3 * sq 2 2 * sq 3 4 * sq 4 0 + (Int64.ofInt (-1) * sq 0 2 * sq 1 1 * sq 2 3 * sq 3 4 * sq 4 0 + (Int64.ofInt 1 * sq 0 1 * sq 1 2 * sq 2 3 * sq 3 4 * sq 4 0 + (Int64.ofInt (-1) * sq 0 4 * sq 1 3 * sq 2 2 * sq 3 0 * sq 4 1 + (Int64.ofInt 1 * sq 0 3 * sq 1 4 * sq 2 2 * sq 3 0 * sq 4 1 + (Int64.ofInt 1 * sq 0 4 * sq 1 2 * sq 2 3 * sq 3 0 * sq 4 1 + (Int64.ofInt (-1) * sq 0 2 * sq 1 4 * sq 2 3 * sq 3 0 * sq 4 1 + (Int64.ofInt (-1) * sq 0 3 * sq 1 2 * sq 2 4 * sq 3 0 * sq 4 1 + (Int64.ofInt 1 * sq 0 2 * sq 1 3 * sq 2 4 * sq 3 0 * sq 4 1 + (Int64.ofInt 1 * sq 0 4 * sq 1 3 * sq 2 0 * sq 3 2 * sq 4 1 + (Int64.ofInt (-1) * sq 0 3 * sq 1 4 * sq 2 0 * sq 3 2 * sq 4 1 + (Int64.ofInt (-1) * sq 0 4 * sq 1 0 * sq 2 3 * sq 3 2 * sq 4 1 + (Int64.ofInt 1 * sq 0 0 * sq 1 4 * sq 2 3 * sq 3 2 * sq 4 1 + (Int64.ofInt 1 * sq 0 3 * sq 1 0 * sq 2 4 * sq 3 2 * sq 4 1 + (Int64.ofInt (-1) * sq 0 0 * sq 1 3 * sq 2 4 * sq 3 2 * sq 4 1 + (Int64.ofInt (-1) * sq 0 4 * sq 1 2 * sq 2 0 * sq 3 3 * sq 4 1 + (Int64.ofInt 1 * sq 0 2 * sq 1 4 * sq 2 0 * sq 3 3 * sq 4 1 + (Int64.ofInt 1 * sq 0 4 * sq 1 0 * sq 2 2 * sq 3 3 * sq 4 1 + (Int64.ofInt (-1) * sq 0 0 * sq 1 4 * sq 2 2 * sq 3 3 * sq 4 1 + (Int64.ofInt (-1) * sq 0 2 * sq 1 0 * sq 2 4 * sq 3 3 * sq 4 1 + (Int64.ofInt 1 * sq 0 0 * sq 1 2 * sq 2 4 * sq 3 3 * sq 4 1 + (Int64.ofInt 1 * sq 0 3 * sq 1 2 * sq 2 0 * sq 3 4 * sq 4 1 + (Int64.ofInt (-1) * sq 0 2 * sq 1 3 * sq 2 0 * sq 3 4 * sq 4 1 + (Int64.ofInt (-1) * sq 0 3 * sq 1 0 * sq 2 2 * sq 3 4 * sq 4 1 + (Int64.ofInt 1 * sq 0 0 * sq 1 3 * sq 2 2 * sq 3 4 * sq 4 1 + (Int64.ofInt 1 * sq 0 2 * sq 1 0 * sq 2 3 * sq 3 4 * sq 4 1 + (Int64.ofInt (-1) * sq 0 0 * sq 1 2 * sq 2 3 * sq 3 4 * sq 4 1 + (Int64.ofInt 1 * sq 0 4 * sq 1 3 * sq 2 1 * sq 3 0 * sq 4 2 + (Int64.ofInt (-1) * sq 0 3 * sq 1 4 * sq 2 1 * sq 3 0 * sq 4 2 + (Int64.ofInt (-1) * sq 0 4 * sq 1 1 * sq 2 3 * sq 3 0 * sq 4 2 + (Int64.ofInt 1 * sq 0 1 * sq 1 4 * sq 2 3 * sq 3 0 * sq 4 2 + (Int64.ofInt 1 * sq 0 3 * sq 1 1 * sq 2 4 * sq 3 0 * sq 4 2 + (Int64.ofInt (-1) * sq 0 1 * sq 1 3 * sq 2 4 * sq 3 0 * sq 4 2 + (Int64.ofInt (-1) * sq 0 4 * sq 1 3 * sq 2 0 * sq 3 1 * sq 4 2 + (Int64.ofInt 1 * sq 0 3 * sq 1 4 * sq 2 0 * sq 3 1 * sq 4 2 + (Int64.ofInt 1 * sq 0 4 * sq 1 0 * sq 2 3 * sq 3 1 * sq 4 2 + (Int64.ofInt (-1) * sq 0 0 * sq 1 4 * sq 2 3 * sq 3 1 * sq 4 2 + (Int64.ofInt (-1) * sq 0 3 * sq 1 0 * sq 2 4 * sq 3 1 * sq 4 2 + (Int64.ofInt 1 * sq 0 0 * sq 1 3 * sq 2 4 * sq 3 1 * sq 4 2 + (Int64.ofInt 1 * sq 0 4 * sq 1 1 * sq 2 0 * sq 3 3 * sq 4 2 + (Int64.ofInt (-1) * sq 0 1 * sq 1 4 * sq 2 0 * sq 3 3 * sq 4 2 + (Int64.ofInt (-1) * sq 0 4 * sq 1 0 * sq 2 1 * sq 3 3 * sq 4 2 + (Int64.ofInt 1 * sq 0 0 * sq 1 4 * sq 2 1 * sq 3 3 * sq 4 2 + (Int64.ofInt 1 * sq 0 1 * sq 1 0 * sq 2 4 * sq 3 3 * sq 4 2 + (Int64.ofInt (-1) * sq 0 0 * sq 1 1 * sq 2 4 * sq 3 3 * sq 4 2 + (Int64.ofInt (-1) * sq 0 3 * sq 1 1 * sq 2 0 * sq 3 4 * sq 4 2 + (Int64.ofInt 1 * sq 0 1 * sq 1 3 * sq 2 0 * sq 3 4 * sq 4 2 + (Int64.ofInt 1 * sq 0 3 * sq 1 0 * sq 2 1 * sq 3 4 * sq 4 2 + (Int64.ofInt (-1) * sq 0 0 * sq 1 3 * sq 2 1 * sq 3 4 * sq 4 2 + (Int64.ofInt (-1) * sq 0 1 * sq 1 0 * sq 2 3 * sq 3 4 * sq 4 2 + (Int64.ofInt 1 * sq 0 0 * sq 1 1 * sq 2 3 * sq 3 4 * sq 4 2 + (Int64.ofInt (-1) * sq 0 4 * sq 1 2 * sq 2 1 * sq 3 0 * sq 4 3 + (Int64.ofInt 1 * sq 0 2 * sq 1 4 * sq 2 1 * sq 3 0 * sq 4 3 + (Int64.ofInt 1 * sq 0 4 * sq 1 1 * sq 2 2 * sq 3 0 * sq 4 3 + (Int64.ofInt (-1) * sq 0 1 * sq 1 4 * sq 2 2 * sq 3 0 * sq 4 3 + (Int64.ofInt (-1) * sq 0 2 * sq 1 1 * sq 2 4 * sq 3 0 * sq 4 3 + (Int64.ofInt 1 * sq 0 1 * sq 1 2 * sq 2 4 * sq 3 0 * sq 4 3 + (Int64.ofInt 1 * sq 0 4 * sq 1 2 * sq 2 0 * sq 3 1 * sq 4 3 + (Int64.ofInt (-1) * sq 0 2 * sq 1 4 * sq 2 0 * sq 3 1 * sq 4 3 + (Int64.ofInt (-1) * sq 0 4 * sq 1 0 * sq 2 2 * sq 3 1 * sq 4 3 + (Int64.ofInt 1 * sq 0 0 * sq 1 4 * sq 2 2 * sq 3 1 * sq 4 3 + (Int64.ofInt 1 * sq 0 2 * sq 1 0 * sq 2 4 * sq 3 1 * sq 4 3 + (Int64.ofInt (-1) * sq 0 0 * sq 1 2 * sq 2 4 * sq 3 1 * sq 4 3 + (Int64.ofInt (-1) * sq 0 4 * sq 1 1 * sq 2 0 * sq 3 2 * sq 4 3 + (Int64.ofInt 1 * sq 0 1 * sq 1 4 * sq 2 0 * sq 3 2 * sq 4 3 + (Int64.ofInt 1 * sq 0 4 * sq 1 0 * sq 2 1 * sq 3 2 * sq 4 3 + (Int64.ofInt (-1) * sq 0 0 * sq 1 4 * sq 2 1 * sq 3 2 * sq 4 3 + (Int64.ofInt (-1) * sq 0 1 * sq 1 0 * sq 2 4 * sq 3 2 * sq 4 3 + (Int64.ofInt 1 * sq 0 0 * sq 1 1 * sq 2 4 * sq 3 2 * sq 4 3 + (Int64.ofInt 1 * sq 0 2 * sq 1 1 * sq 2 0 * sq 3 4 * sq 4 3 + (Int64.ofInt (-1) * sq 0 1 * sq 1 2 * sq 2 0 * sq 3 4 * sq 4 3 + (Int64.ofInt (-1) * sq 0 2 * sq 1 0 * sq 2 1 * sq 3 4 * sq 4 3 + (Int64.ofInt 1 * sq 0 0 * sq 1 2 * sq 2 1 * sq 3 4 * sq 4 3 + (Int64.ofInt 1 * sq 0 1 * sq 1 0 * sq 2 2 * sq 3 4 * sq 4 3 + (Int64.ofInt (-1) * sq 0 0 * sq 1 1 * sq 2 2 * sq 3 4 * sq 4 3 + (Int64.ofInt 1 * sq 0 3 * sq 1 2 * sq 2 1 * sq 3 0 * sq 4 4 + (Int64.ofInt (-1) * sq 0 2 * sq 1 3 * sq 2 1 * sq 3 0 * sq 4 4 + (Int64.ofInt (-1) * sq 0 3 * sq 1 1 * sq 2 2 * sq 3 0 * sq 4 4 + (Int64.ofInt 1 * sq 0 1 * sq 1 3 * sq 2 2 * sq 3 0 * sq 4 4 + (Int64.ofInt 1 * sq 0 2 * sq 1 1 * sq 2 3 * sq 3 0 * sq 4 4 + (Int64.ofInt (-1) * sq 0 1 * sq 1 2 * sq 2 3 * sq 3 0 * sq 4 4 + (Int64.ofInt (-1) * sq 0 3 * sq 1 2 * sq 2 0 * sq 3 1 * sq 4 4 + (Int64.ofInt 1 * sq 0 2 * sq 1 3 * sq 2 0 * sq 3 1 * sq 4 4 + (Int64.ofInt 1 * sq 0 3 * sq 1 0 * sq 2 2 * sq 3 1 * sq 4 4 + (Int64.ofInt (-1) * sq 0 0 * sq 1 3 * sq 2 2 * sq 3 1 * sq 4 4 + (Int64.ofInt (-1) * sq 0 2 * sq 1 0 * sq 2 3 * sq 3 1 * sq 4 4 + (Int64.ofInt 1 * sq 0 0 * sq 1 2 * sq 2 3 * sq 3 1 * sq 4 4 + (Int64.ofInt 1 * sq 0 3 * sq 1 1 * sq 2 0 * sq 3 2 * sq 4 4 + (Int64.ofInt (-1) * sq 0 1 * sq 1 3 * sq 2 0 * sq 3 2 * sq 4 4 + (Int64.ofInt (-1) * sq 0 3 * sq 1 0 * sq 2 1 * sq 3 2 * sq 4 4 + (Int64.ofInt 1 * sq 0 0 * sq 1 3 * sq 2 1 * sq 3 2 * sq 4 4 + (Int64.ofInt 1 * sq 0 1 * sq 1 0 * sq 2 3 * sq 3 2 * sq 4 4 + (Int64.ofInt (-1) * sq 0 0 * sq 1 1 * sq 2 3 * sq 3 2 * sq 4 4 + (Int64.ofInt (-1) * sq 0 2 * sq 1 1 * sq 2 0 * sq 3 3 * sq 4 4 + (Int64.ofInt 1 * sq 0 1 * sq 1 2 * sq 2 0 * sq 3 3 * sq 4 4 + (Int64.ofInt 1 * sq 0 2 * sq 1 0 * sq 2 1 * sq 3 3 * sq 4 4 + (Int64.ofInt (-1) * sq 0 0 * sq 1 2 * sq 2 1 * sq 3 3 * sq 4 4 + (Int64.ofInt (-1) * sq 0 1 * sq 1 0 * sq 2 2 * sq 3 3 * sq 4 4 + (Int64.ofInt 1 * sq 0 0 * sq 1 1 * sq 2 2 * sq 3 3 * sq 4 4 + 0)))))))))))))))))))))))))))))))))))))))))))))))))))))))))))))))))))))))))))))))))))))))))))))))))))))))))))))))))))))))) := by
  show sL (dtm sq 5) 3125 = _
  rw [sL_filter (fun i h => dtm_0 h), dL5]
  rfl
theorem dC0 (cell : Nat → Nat → Int64) : dC cell 0 = 1 := by
  show dmV cell 0 0 = _
  simp only [show dmV cell 0 0 = 1 from rfl, Int64.zero_add, Int64.add_zero]
theorem dV1_1 (cell : Nat → Nat → Int64) : dmV cell 1 1 = 0 + cell 0 0 * dmV cell 1 0 := by
  rw [dmV_s]
  rfl
theorem dC1 (cell : Nat → Nat → Int64) : dC cell 1 = (cell 0 0 * 1) := by
  show dmV cell 1 1 = _
  simp only [dV1_1, show dmV cell 1 0 = 1 from rfl, Int64.zero_add, Int64.add_zero]
theorem dV2_1 (cell : Nat → Nat → Int64) : dmV cell 2 1 = 0 + cell 0 0 * dmV cell 2 0 + 0 := by
  rw [dmV_s]
  rfl
theorem dV2_2 (cell : Nat → Nat → Int64) : dmV cell 2 2 = 0 + 0 + cell 0 1 * dmV cell 2 0 := by
  rw [dmV_s]
  rfl
theorem dV2_3 (cell : Nat → Nat → Int64) : dmV cell 2 3 = 0 + -(cell 1 0 * dmV cell 2 2) + cell 1 1 * dmV cell 2 1 := by
  rw [dmV_s]
  rfl
theorem dC2 (cell : Nat → Nat → Int64) : dC cell 2 = ((-(cell 1 0 * (cell 0 1 * 1))) + cell 1 1 * (cell 0 0 * 1)) := by
  show dmV cell 2 3 = _
  simp only [dV2_3, dV2_2, dV2_1, show dmV cell 2 0 = 1 from rfl, Int64.zero_add, Int64.add_zero]
theorem dV3_1 (cell : Nat → Nat → Int64) : dmV cell 3 1 = 0 + cell 0 0 * dmV cell 3 0 + 0 + 0 := by
  rw [dmV_s]
  rfl
theorem dV3_2 (cell : Nat → Nat → Int64) : dmV cell 3 2 = 0 + 0 + cell 0 1 * dmV cell 3 0 + 0 := by
  rw [dmV_s]
  rfl
theorem dV3_3 (cell : Nat → Nat → Int64) : dmV cell 3 3 = 0 + -(cell 1 0 * dmV cell 3 2) + cell 1 1 * dmV cell 3 1 + 0 := by
  rw [dmV_s]
  rfl
theorem dV3_4 (cell : Nat → Nat → Int64) : dmV cell 3 4 = 0 + 0 + 0 + cell 0 2 * dmV cell 3 0 := by
  rw [dmV_s]
  rfl
theorem dV3_5 (cell : Nat → Nat → Int64) : dmV cell 3 5 = 0 + -(cell 1 0 * dmV cell 3 4) + 0 + cell 1 2 * dmV cell 3 1 := by
  rw [dmV_s]
  rfl
theorem dV3_6 (cell : Nat → Nat → Int64) : dmV cell 3 6 = 0 + 0 + -(cell 1 1 * dmV cell 3 4) + cell 1 2 * dmV cell 3 2 := by
  rw [dmV_s]
  rfl
theorem dV3_7 (cell : Nat → Nat → Int64) : dmV cell 3 7 = 0 + cell 2 0 * dmV cell 3 6 + -(cell 2 1 * dmV cell 3 5) + cell 2 2 * dmV cell 3 3 := by
  rw [dmV_s]
  rfl
theorem dC3 (cell : Nat → Nat → Int64) : dC cell 3 = (cell 2 0 * ((-(cell 1 1 * (cell 0 2 * 1))) + cell 1 2 * (cell 0 1 * 1)) + (-(cell 2 1 * ((-(cell 1 0 * (cell 0 2 * 1))) + cell 1 2 * (cell 0 0 * 1)))) + cell 2 2 * ((-(cell 1 0 * (cell 0 1 * 1))) + cell 1 1 * (cell 0 0 * 1))) := by
  show dmV cell 3 7 = _
  simp only [dV3_7, dV3_6, dV3_5, dV3_4, dV3_3, dV3_2, dV3_1, show dmV cell 3 0 = 1 from rfl, Int64.zero_add, Int64.add_zero]
theorem dV4_1 (cell : Nat → Nat → Int64) : dmV cell 4 1 = 0 + cell 0 0 * dmV cell 4 0 + 0 + 0 + 0 := by
  rw [dmV_s]
  rfl
theorem dV4_2 (cell : Nat → Nat → Int64) : dmV cell 4 2 = 0 + 0 + cell 0 1 * dmV cell 4 0 + 0 + 0 := by
  rw [dmV_s]
  rfl
theorem dV4_3 (cell : Nat → Nat → Int64) : dmV cell 4 3 = 0 + -(cell 1 0 * dmV cell 4 2) + cell 1 1 * dmV cell 4 1 + 0 + 0 := by
  rw [dmV_s]
  rfl
theorem dV4_4 (cell : Nat → Nat → Int64) : dmV cell 4 4 = 0 + 0 + 0 + cell 0 2 * dmV cell 4 0 + 0 := by
  rw [dmV_s]
  rfl
theorem dV4_5 (cell : Nat → Nat → Int64) : dmV cell 4 5 = 0 + -(cell 1 0 * dmV cell 4 4) + 0 + cell 1 2 * dmV cell 4 1 + 0 := by
  rw [dmV_s]
  rfl
theorem dV4_6 (cell : Nat → Nat → Int64) : dmV cell 4 6 = 0 + 0 + -(cell 1 1 * dmV cell 4 4) + cell 1 2 * dmV cell 4 2 + 0 := by
  rw [dmV_s]
  rfl
theorem dV4_7 (cell : Nat → Nat → Int64) : dmV cell 4 7 = 0 + cell 2 0 * dmV cell 4 6 + -(cell 2 1 * dmV cell 4 5) + cell 2 2 * dmV cell 4 3 + 0 := by
  rw [dmV_s]
  rfl
theorem dV4_8 (cell : Nat → Nat → Int64) : dmV cell 4 8 = 0 + 0 + 0 + 0 + cell 0 3 * dmV cell 4 0 := by
  rw [dmV_s]
  rfl
theorem dV4_9 (cell : Nat → Nat → Int64) : dmV cell 4 9 = 0 + -(cell 1 0 * dmV cell 4 8) + 0 + 0 + cell 1 3 * dmV cell 4 1 := by
  rw [dmV_s]
  rfl
theorem dV4_10 (cell : Nat → Nat → Int64) : dmV cell 4 10 = 0 + 0 + -(cell 1 1 * dmV cell 4 8) + 0 + cell 1 3 * dmV cell 4 2 := by
  rw [dmV_s]
  rfl
theorem dV4_11 (cell : Nat → Nat → Int64) : dmV cell 4 11 = 0 + cell 2 0 * dmV cell 4 10 + -(cell 2 1 * dmV cell 4 9) + 0 + cell 2 3 * dmV cell 4 3 := by
  rw [dmV_s]
  rfl
theorem dV4_12 (cell : Nat → Nat → Int64) : dmV cell 4 12 = 0 + 0 + 0 + -(cell 1 2 * dmV cell 4 8) + cell 1 3 * dmV cell 4 4 := by
  rw [dmV_s]
  rfl
theorem dV4_13 (cell : Nat → Nat → Int64) : dmV cell 4 13 = 0 + cell 2 0 * dmV cell 4 12 + 0 + -(cell 2 2 * dmV cell 4 9) + cell 2 3 * dmV cell 4 5 := by
  rw [dmV_s]
  rfl
theorem dV4_14 (cell : Nat → Nat → Int64) : dmV cell 4 14 = 0 + 0 + cell 2 1 * dmV cell 4 12 + -(cell 2 2 * dmV cell 4 10) + cell 2 3 * dmV cell 4 6 := by
  rw [dmV_s]
  rfl
theorem dV4_15 (cell : Nat → Nat → Int64) : dmV cell 4 15 = 0 + -(cell 3 0 * dmV cell 4 14) + cell 3 1 * dmV cell 4 13 + -(cell 3 2 * dmV cell 4 11) + cell 3 3 * dmV cell 4 7 := by
  rw [dmV_s]
  rfl
theorem dC4 (cell : Nat → Nat → Int64) : dC cell 4 = ((-(cell 3 0 * (cell 2 1 * ((-(cell 1 2 * (cell 0 3 * 1))) + cell 1 3 * (cell 0 2 * 1)) + (-(cell 2 2 * ((-(cell 1 1 * (cell 0 3 * 1))) + cell 1 3 * (cell 0 1 * 1)))) + cell 2 3 * ((-(cell 1 1 * (cell 0 2 * 1))) + cell 1 2 * (cell 0 1 * 1))))) + cell 3 1 * (cell 2 0 * ((-(cell 1 2 * (cell 0 3 * 1))) + cell 1 3 * (cell 0 2 * 1)) + (-(cell 2 2 * ((-(cell 1 0 * (cell 0 3 * 1))) + cell 1 3 * (cell 0 0 * 1)))) + cell 2 3 * ((-(cell 1 0 * (cell 0 2 * 1))) + cell 1 2 * (cell 0 0 * 1))) + (-(cell 3 2 * (cell 2 0 * ((-(cell 1 1 * (cell 0 3 * 1))) + cell 1 3 * (cell 0 1 * 1)) + (-(cell 2 1 * ((-(cell 1 0 * (cell 0 3 * 1))) + cell 1 3 * (cell 0 0 * 1)))) + cell 2 3 * ((-(cell 1 0 * (cell 0 1 * 1))) + cell 1 1 * (cell 0 0 * 1))))) + cell 3 3 * (cell 2 0 * ((-(cell 1 1 * (cell 0 2 * 1))) + cell 1 2 * (cell 0 1 * 1)) + (-(cell 2 1 * ((-(cell 1 0 * (cell 0 2 * 1))) + cell 1 2 * (cell 0 0 * 1)))) + cell 2 2 * ((-(cell 1 0 * (cell 0 1 * 1))) + cell 1 1 * (cell 0 0 * 1)))) := by
  show dmV cell 4 15 = _
  simp only [dV4_15, dV4_14, dV4_13, dV4_12, dV4_11, dV4_10, dV4_9, dV4_8, dV4_7, dV4_6, dV4_5, dV4_4, dV4_3, dV4_2, dV4_1, show dmV cell 4 0 = 1 from rfl, Int64.zero_add, Int64.add_zero]
theorem dC_congr {cell cell' : Nat → Nat → Int64} {n : Nat} (hn : n ≤ 4) (h : ∀ i j, i < n → j < n → cell i j = cell' i j) : dC cell n = dC cell' n := by
  rcases (show n = 0 ∨ n = 1 ∨ n = 2 ∨ n = 3 ∨ n = 4 by omega) with rfl | rfl | rfl | rfl | rfl
  · rw [dC0, dC0]
  · rw [dC1, dC1]
    simp only [h 0 0 (by omega) (by omega)]
  · rw [dC2, dC2]
    simp only [h 0 0 (by omega) (by omega), h 0 1 (by omega) (by omega), h 1 0 (by omega) (by omega), h 1 1 (by omega) (by omega)]
  · rw [dC3, dC3]
    simp only [h 0 0 (by omega) (by omega), h 0 1 (by omega) (by omega), h 0 2 (by omega) (by omega), h 1 0 (by omega) (by omega), h 1 1 (by omega) (by omega), h 1 2 (by omega) (by omega), h 2 0 (by omega) (by omega), h 2 1 (by omega) (by omega), h 2 2 (by omega) (by omega)]
  · rw [dC4, dC4]
    simp only [h 0 0 (by omega) (by omega), h 0 1 (by omega) (by omega), h 0 2 (by omega) (by omega), h 0 3 (by omega) (by omega), h 1 0 (by omega) (by omega), h 1 1 (by omega) (by omega), h 1 2 (by omega) (by omega), h 1 3 (by omega) (by omega), h 2 0 (by omega) (by omega), h 2 1 (by omega) (by omega), h 2 2 (by omega) (by omega), h 2 3 (by omega) (by omega), h 3 0 (by omega) (by omega), h 3 1 (by omega) (by omega), h 3 2 (by omega) (by omega), h 3 3 (by omega) (by omega)]
theorem dCM0 (cell : Nat → Nat → Int64) : dC cell 0 = dM cell 0 := by
  rw [dC0, dM0]
  simp only [oI1, oIm]
  grind
theorem dCM1 (cell : Nat → Nat → Int64) : dC cell 1 = dM cell 1 := by
  rw [dC1, dM1]
  simp only [oI1, oIm]
  grind
theorem dCM2 (cell : Nat → Nat → Int64) : dC cell 2 = dM cell 2 := by
  rw [dC2, dM2]
  simp only [oI1, oIm]
  grind
theorem dCM3 (cell : Nat → Nat → Int64) : dC cell 3 = dM cell 3 := by
  rw [dC3, dM3]
  simp only [oI1, oIm]
  grind
theorem dCM4 (cell : Nat → Nat → Int64) : dC cell 4 = dM cell 4 := by
  rw [dC4, dM4]
  simp only [oI1, oIm]
  grind
theorem dCM (cell : Nat → Nat → Int64) {n : Nat} (hn : n ≤ 4) : dC cell n = dM cell n := by
  rcases (show n = 0 ∨ n = 1 ∨ n = 2 ∨ n = 3 ∨ n = 4 by omega) with rfl | rfl | rfl | rfl | rfl
  · exact dCM0 cell
  · exact dCM1 cell
  · exact dCM2 cell
  · exact dCM3 cell
  · exact dCM4 cell
def nd (i j : Nat) : Nat := (i - j) + (j - i)
def rs (b : Int64) (tp r : Nat → Int64) : Nat → Int64
  | 0 => r 0 * b
  | j + 1 => rs b tp r j - tp j * r (j + 1)
def tz (r : Nat → Int64) (i j : Nat) : Int64 := r (nd i j)
def tzj (r : Nat → Int64) (k i j : Nat) : Int64 := if j = k then r (i + 1) else r (nd i j)
theorem tz_v (r : Nat → Int64) (i j m : Nat) (h : nd i j = m) : tz r i j = r m := by unfold tz; rw [h]
theorem tzj_v (r : Nat → Int64) (k i j m : Nat) (h : (if j = k then i + 1 else nd i j) = m) : tzj r k i j = r m := by
  unfold tzj
  rw [← h]
  split <;> rfl
theorem rest0 (r : Nat → Int64) : rs (dC (tz r) 0) (fun j => dC (tzj r j) 0) r 0 = dM (tz r) 1 := by
  show r 0 * dC (tz r) 0 = _
  rw [dC0 (tz r), dM1]
  simp only [tz_v r 0 0 0 rfl, oI1, oIm]
  grind
theorem rest1 (r : Nat → Int64) : rs (dC (tz r) 1) (fun j => dC (tzj r j) 1) r 1 = dM (tz r) 2 := by
  show r 0 * dC (tz r) 1 - dC (tzj r 0) 1 * r 1 = _
  rw [dC1 (tz r), dC1 (tzj r 0), dM2]
  simp only [tz_v r 0 0 0 rfl, tz_v r 0 1 1 rfl, tz_v r 1 0 1 rfl, tz_v r 1 1 0 rfl, tzj_v r 0 0 0 1 rfl, oI1, oIm]
  grind
theorem rest2 (r : Nat → Int64) : rs (dC (tz r) 2) (fun j => dC (tzj r j) 2) r 2 = dM (tz r) 3 := by
  show r 0 * dC (tz r) 2 - dC (tzj r 0) 2 * r 1 - dC (tzj r 1) 2 * r 2 = _
  rw [dC2 (tz r), dC2 (tzj r 0), dC2 (tzj r 1), dM3]
  simp only [tz_v r 0 0 0 rfl, tz_v r 0 1 1 rfl, tz_v r 0 2 2 rfl, tz_v r 1 0 1 rfl, tz_v r 1 1 0 rfl, tz_v r 1 2 1 rfl, tz_v r 2 0 2 rfl, tz_v r 2 1 1 rfl, tz_v r 2 2 0 rfl, tzj_v r 0 0 0 1 rfl, tzj_v r 0 0 1 1 rfl, tzj_v r 0 1 0 2 rfl, tzj_v r 0 1 1 0 rfl, tzj_v r 1 0 0 0 rfl, tzj_v r 1 0 1 1 rfl, tzj_v r 1 1 0 1 rfl, tzj_v r 1 1 1 2 rfl, oI1, oIm]
  grind
theorem rest3 (r : Nat → Int64) : rs (dC (tz r) 3) (fun j => dC (tzj r j) 3) r 3 = dM (tz r) 4 := by
  show r 0 * dC (tz r) 3 - dC (tzj r 0) 3 * r 1 - dC (tzj r 1) 3 * r 2 - dC (tzj r 2) 3 * r 3 = _
  rw [dC3 (tz r), dC3 (tzj r 0), dC3 (tzj r 1), dC3 (tzj r 2), dM4]
  simp only [tz_v r 0 0 0 rfl, tz_v r 0 1 1 rfl, tz_v r 0 2 2 rfl, tz_v r 0 3 3 rfl, tz_v r 1 0 1 rfl, tz_v r 1 1 0 rfl, tz_v r 1 2 1 rfl, tz_v r 1 3 2 rfl, tz_v r 2 0 2 rfl, tz_v r 2 1 1 rfl, tz_v r 2 2 0 rfl, tz_v r 2 3 1 rfl, tz_v r 3 0 3 rfl, tz_v r 3 1 2 rfl, tz_v r 3 2 1 rfl, tz_v r 3 3 0 rfl, tzj_v r 0 0 0 1 rfl, tzj_v r 0 0 1 1 rfl, tzj_v r 0 0 2 2 rfl, tzj_v r 0 1 0 2 rfl, tzj_v r 0 1 1 0 rfl, tzj_v r 0 1 2 1 rfl, tzj_v r 0 2 0 3 rfl, tzj_v r 0 2 1 1 rfl, tzj_v r 0 2 2 0 rfl, tzj_v r 1 0 0 0 rfl, tzj_v r 1 0 1 1 rfl, tzj_v r 1 0 2 2 rfl, tzj_v r 1 1 0 1 rfl, tzj_v r 1 1 1 2 rfl, tzj_v r 1 1 2 1 rfl, tzj_v r 1 2 0 2 rfl, tzj_v r 1 2 1 3 rfl, tzj_v r 1 2 2 0 rfl, tzj_v r 2 0 0 0 rfl, tzj_v r 2 0 1 1 rfl, tzj_v r 2 0 2 1 rfl, tzj_v r 2 1 0 1 rfl, tzj_v r 2 1 1 0 rfl, tzj_v r 2 1 2 2 rfl, tzj_v r 2 2 0 2 rfl, tzj_v r 2 2 1 1 rfl, tzj_v r 2 2 2 3 rfl, oI1, oIm]
  grind
theorem rest4 (r : Nat → Int64) : rs (dC (tz r) 4) (fun j => dC (tzj r j) 4) r 4 = dM (tz r) 5 := by
  show r 0 * dC (tz r) 4 - dC (tzj r 0) 4 * r 1 - dC (tzj r 1) 4 * r 2 - dC (tzj r 2) 4 * r 3 - dC (tzj r 3) 4 * r 4 = _
  rw [dC4 (tz r), dC4 (tzj r 0), dC4 (tzj r 1), dC4 (tzj r 2), dC4 (tzj r 3), dM5]
  simp only [tz_v r 0 0 0 rfl, tz_v r 0 1 1 rfl, tz_v r 0 2 2 rfl, tz_v r 0 3 3 rfl, tz_v r 0 4 4 rfl, tz_v r 1 0 1 rfl, tz_v r 1 1 0 rfl, tz_v r 1 2 1 rfl, tz_v r 1 3 2 rfl, tz_v r 1 4 3 rfl, tz_v r 2 0 2 rfl, tz_v r 2 1 1 rfl, tz_v r 2 2 0 rfl, tz_v r 2 3 1 rfl, tz_v r 2 4 2 rfl, tz_v r 3 0 3 rfl, tz_v r 3 1 2 rfl, tz_v r 3 2 1 rfl, tz_v r 3 3 0 rfl, tz_v r 3 4 1 rfl, tz_v r 4 0 4 rfl, tz_v r 4 1 3 rfl, tz_v r 4 2 2 rfl, tz_v r 4 3 1 rfl, tz_v r 4 4 0 rfl, tzj_v r 0 0 0 1 rfl, tzj_v r 0 0 1 1 rfl, tzj_v r 0 0 2 2 rfl, tzj_v r 0 0 3 3 rfl, tzj_v r 0 1 0 2 rfl, tzj_v r 0 1 1 0 rfl, tzj_v r 0 1 2 1 rfl, tzj_v r 0 1 3 2 rfl, tzj_v r 0 2 0 3 rfl, tzj_v r 0 2 1 1 rfl, tzj_v r 0 2 2 0 rfl, tzj_v r 0 2 3 1 rfl, tzj_v r 0 3 0 4 rfl, tzj_v r 0 3 1 2 rfl, tzj_v r 0 3 2 1 rfl, tzj_v r 0 3 3 0 rfl, tzj_v r 1 0 0 0 rfl, tzj_v r 1 0 1 1 rfl, tzj_v r 1 0 2 2 rfl, tzj_v r 1 0 3 3 rfl, tzj_v r 1 1 0 1 rfl, tzj_v r 1 1 1 2 rfl, tzj_v r 1 1 2 1 rfl, tzj_v r 1 1 3 2 rfl, tzj_v r 1 2 0 2 rfl, tzj_v r 1 2 1 3 rfl, tzj_v r 1 2 2 0 rfl, tzj_v r 1 2 3 1 rfl, tzj_v r 1 3 0 3 rfl, tzj_v r 1 3 1 4 rfl, tzj_v r 1 3 2 1 rfl, tzj_v r 1 3 3 0 rfl, tzj_v r 2 0 0 0 rfl, tzj_v r 2 0 1 1 rfl, tzj_v r 2 0 2 1 rfl, tzj_v r 2 0 3 3 rfl, tzj_v r 2 1 0 1 rfl, tzj_v r 2 1 1 0 rfl, tzj_v r 2 1 2 2 rfl, tzj_v r 2 1 3 2 rfl, tzj_v r 2 2 0 2 rfl, tzj_v r 2 2 1 1 rfl, tzj_v r 2 2 2 3 rfl, tzj_v r 2 2 3 1 rfl, tzj_v r 2 3 0 3 rfl, tzj_v r 2 3 1 2 rfl, tzj_v r 2 3 2 4 rfl, tzj_v r 2 3 3 0 rfl, tzj_v r 3 0 0 0 rfl, tzj_v r 3 0 1 1 rfl, tzj_v r 3 0 2 2 rfl, tzj_v r 3 0 3 1 rfl, tzj_v r 3 1 0 1 rfl, tzj_v r 3 1 1 0 rfl, tzj_v r 3 1 2 1 rfl, tzj_v r 3 1 3 2 rfl, tzj_v r 3 2 0 2 rfl, tzj_v r 3 2 1 1 rfl, tzj_v r 3 2 2 0 rfl, tzj_v r 3 2 3 3 rfl, tzj_v r 3 3 0 3 rfl, tzj_v r 3 3 1 2 rfl, tzj_v r 3 3 2 1 rfl, tzj_v r 3 3 3 4 rfl, oI1, oIm]
  grind
theorem rest_ok (r : Nat → Int64) {k : Nat} (hk : k ≤ 4) : rs (dC (tz r) k) (fun j => dC (tzj r j) k) r k = dM (tz r) (k + 1) := by
  rcases (show k = 0 ∨ k = 1 ∨ k = 2 ∨ k = 3 ∨ k = 4 by omega) with rfl | rfl | rfl | rfl | rfl
  · exact rest0 r
  · exact rest1 r
  · exact rest2 r
  · exact rest3 r
  · exact rest4 r
