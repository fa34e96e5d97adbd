/-! weights: one row of whole numbers behind both sides -/
def sI (f : Nat → Int) : Nat → Int
  | 0 => 0
  | n + 1 => sI f n + f n
def sN (f : Nat → Nat) : Nat → Nat
  | 0 => 0
  | n + 1 => sN f n + f n
theorem sI_congr {f g : Nat → Int} : ∀ {n : Nat}, (∀ i, i < n → f i = g i) → sI f n = sI g n
  | 0, _ => rfl
  | n + 1, h => by
    show sI f n + f n = sI g n + g n
    rw [sI_congr (n := n) (fun i hi => h i (by omega)), h n (by omega)]
theorem sI_abs {f : Nat → Int} {g : Nat → Nat} : ∀ {n : Nat}, (∀ i, i < n → (f i).natAbs ≤ g i) → (sI f n).natAbs ≤ sN g n
  | 0, _ => Nat.le_refl 0
  | n + 1, h => by
    have h1 := sI_abs (f := f) (g := g) (n := n) (fun i hi => h i (by omega))
    have h2 := h n (by omega)
    show (sI f n + f n).natAbs ≤ sN g n + g n
    omega
theorem w64 (x : Int32) : x.toInt64 = Int64.ofInt x.toInt := by
  refine Int64.toInt_inj.mp ?_
  have := fb_rng x
  rw [Int32.toInt_toInt64, Int64.toInt_ofInt]
  exact (fb_bmodL (by omega) (by omega)).symm
theorem pw_of {q : Nat} (hq : q ≤ 4) (k : Nat) : pwL (nI q).toInt64 k = Int64.ofInt ((q : Int) ^ k) := by
  induction k with
  | zero => rfl
  | succ k ih =>
    show pwL (nI q).toInt64 k * (nI q).toInt64 = _
    rw [ih, w64, nI_toInt (by omega), ← Int64.ofInt_mul, Int.pow_succ]
def wP (q : Int) (l e f : Nat → Int) (k i : Nat) : Int := l k * q ^ (k - 1) + sI (fun i => e (i + 1) * q ^ i * f (k - (i + 1))) i
def wF (q : Int) (l e : Nat → Int) : Nat → Nat → Int
  | 0 => fun _ => 1
  | k + 1 => fun x => if x = k + 1 then wP q l e (wF q l e k) (k + 1) (min 3 (k + 1)) else wF q l e k x
def wI (q : Int) (l e : Nat → Int) (k : Nat) : Int := wF q l e k k
theorem wF_le (q : Int) (l e : Nat → Int) : ∀ (n k : Nat), k ≤ n → wF q l e n k = wI q l e k
  | 0, k, h => by
    have : k = 0 := by omega
    subst this; rfl
  | n + 1, k, h => by
    by_cases e1 : k = n + 1
    · subst e1; rfl
    · show (if k = n + 1 then _ else wF q l e n k) = _
      rw [if_neg e1]
      exact wF_le q l e n k (by omega)
theorem wI_rec {q : Int} {l e : Nat → Int} (h0 : l 0 = 1) : ∀ k : Nat, wI q l e k = wP q l e (wI q l e) k (min 3 k)
  | 0 => by
    show (1 : Int) = l 0 * q ^ 0 + 0
    rw [h0, Int.pow_zero, Int.mul_one, Int.add_zero]
  | k + 1 => by
    show (if k + 1 = k + 1 then wP q l e (wF q l e k) (k + 1) (min 3 (k + 1)) else _) = _
    rw [if_pos rfl]
    unfold wP
    congr 1
    exact sI_congr (fun i hi => by rw [wF_le q l e k (k + 1 - (i + 1)) (by omega)])
theorem wP_s (q : Int) (l e f : Nat → Int) (k i : Nat) : wP q l e f k (i + 1) = wP q l e f k i + e (i + 1) * q ^ i * f (k - (i + 1)) := by
  show _ + (_ + _) = _ + _ + _
  rw [Int.add_assoc]
/-! sizes -/
def bW (k : Nat) : Nat := ([1, 16, 192, 2304, 26624, 311296, 3637248, 42467328, 495976448] : List Nat).getD k 0
def bP (k i : Nat) : Nat := (if k ≤ 3 then 8 * 4 ^ (k - 1) else 0) + sN (fun i => 8 * 4 ^ i * bW (k - (i + 1))) i
theorem bP_le : ∀ k, k < 9 → ∀ i, i < 4 → i ≤ k → 1 ≤ k → bP k i ≤ bW k := by decide
theorem bW_le : ∀ k, k < 9 → bW k ≤ 500000000 := by decide
def wOk (q : Nat) (l e : Nat → Int) : Prop := 1 ≤ q ∧ q ≤ 4 ∧ l 0 = 1 ∧ (∀ k, (l k).natAbs ≤ 8 ∧ (3 < k → l k = 0)) ∧ ∀ i, 1 ≤ i → i < 4 → (e i).natAbs ≤ 8
theorem pw_abs {q : Nat} (hq : q ≤ 4) (k : Nat) : ((q : Int) ^ k).natAbs ≤ 4 ^ k := by
  rw [Int.natAbs_pow, Int.natAbs_natCast]
  exact Nat.pow_le_pow_left hq k
theorem wP_abs {q : Nat} {l e f : Nat → Int} (w : wOk q l e) {k i : Nat} (hi : i < 4) (hik : i ≤ k) (hf : ∀ x, x < k → (f x).natAbs ≤ bW x) : (wP q l e f k i).natAbs ≤ bP k i := by
  obtain ⟨h1, h2, h3, h4, h5⟩ := w
  have a : (l k * (q : Int) ^ (k - 1)).natAbs ≤ (if k ≤ 3 then 8 * 4 ^ (k - 1) else 0) := by
    split
    · rw [Int.natAbs_mul]; exact Nat.mul_le_mul (h4 k).1 (pw_abs h2 _)
    · next z => rw [(h4 k).2 (by omega), Int.zero_mul]; exact Nat.le_refl 0
  have b : (sI (fun i => e (i + 1) * (q : Int) ^ i * f (k - (i + 1))) i).natAbs ≤ sN (fun i => 8 * 4 ^ i * bW (k - (i + 1))) i := by
    refine sI_abs (fun x hx => ?_)
    rw [Int.natAbs_mul, Int.natAbs_mul]
    exact Nat.mul_le_mul (Nat.mul_le_mul (h5 (x + 1) (by omega) (by omega)) (pw_abs h2 _)) (hf _ (by omega))
  unfold wP bP
  omega
theorem wI_abs {q : Nat} {l e : Nat → Int} (w : wOk q l e) : ∀ (n k : Nat), k ≤ n → k < 9 → (wI q l e k).natAbs ≤ bW k := by
  intro n
  induction n with
  | zero =>
    intro k h1 _
    have : k = 0 := by omega
    subst this; exact Nat.le_refl 1
  | succ n ih =>
    intro k h1 h2
    rcases Nat.eq_zero_or_pos k with z | z
    · subst z; exact Nat.le_refl 1
    · rw [wI_rec w.2.2.1 k]
      exact Nat.le_trans (wP_abs w (by omega) (by omega) (fun x hx => ih x (by omega) (by omega))) (bP_le k h2 _ (by omega) (by omega) z)
theorem wPI_abs {q : Nat} {l e : Nat → Int} (w : wOk q l e) {k i : Nat} (hk : k < 9) (hi : i < 4) (hik : i ≤ k) : (wP q l e (wI q l e) k i).natAbs ≤ 500000000 := by
  rcases Nat.eq_zero_or_pos k with z | z
  · subst z
    have : i = 0 := by omega
    subst this
    have := wP_abs w (k := 0) (i := 0) (f := wI q l e) (by omega) (by omega) (fun x hx => absurd hx (by omega))
    exact Nat.le_trans this (by decide)
  · exact Nat.le_trans (wP_abs w hi hik (fun x hx => wI_abs w x x (Nat.le_refl x) (by omega))) (Nat.le_trans (bP_le k hk i hi hik z) (bW_le k hk))
/-! as rationals -/
def wA (q : Nat) (l e : Nat → Int) (k i : Nat) : Rat := Rat.divInt (wP q l e (wI q l e) k i) ((q : Int) ^ k)
def wR (q : Nat) (l e : Nat → Int) (k : Nat) : Rat := Rat.divInt (wI q l e k) ((q : Int) ^ k)
theorem q_ne {q : Nat} (h : 1 ≤ q) (k : Nat) : ((q : Int) ^ k) ≠ 0 := by
  have := Int.pow_pos (n := (q : Int)) (m := k) (by omega)
  omega
theorem wR_A {q : Nat} {l e : Nat → Int} (h0 : l 0 = 1) (k : Nat) : wR q l e k = wA q l e k (min 3 k) := by
  unfold wR wA
  rw [← wI_rec h0 k]
theorem pw_abs8 {q k : Nat} (hq : q ≤ 4) (hk : k < 9) : ((q : Int) ^ k).natAbs ≤ 65536 :=
  Nat.le_trans (pw_abs hq k) (Nat.le_trans (Nat.pow_le_pow_right (by decide) (show k ≤ 8 by omega)) (by decide))
theorem wA_sm {q : Nat} {l e : Nat → Int} (w : wOk q l e) {k i : Nat} (hk : k < 9) (hi : i < 4) (hik : i ≤ k) : sm (wA q l e k i) 500000000 65536 :=
  (sm_div (q_ne w.1 k)).mono (wPI_abs w hk hi hik) (pw_abs8 w.2.1 hk)
theorem wR_sm {q : Nat} {l e : Nat → Int} (w : wOk q l e) {k : Nat} (hk : k < 9) : sm (wR q l e k) 500000000 65536 := by
  rw [wR_A w.2.2.1]
  exact wA_sm w hk (by omega) (by omega)
theorem dv_add {a b d : Int} (hd : d ≠ 0) : Rat.divInt a d + Rat.divInt b d = Rat.divInt (a + b) d := by
  rw [Rat.divInt_add_divInt _ _ hd hd, ← Int.add_mul, Rat.divInt_mul_right hd]
theorem wA_s {q : Nat} {l e : Nat → Int} (hq : 1 ≤ q) {k i : Nat} (h : i + 1 ≤ k) : Rat.divInt (e (i + 1)) q * wR q l e (k - (i + 1)) + wA q l e k i = wA q l e k (i + 1) := by
  unfold wR wA
  rw [Rat.divInt_mul_divInt, wP_s]
  have e1 : (q : Int) ^ k = (q : Int) * (q : Int) ^ (k - (i + 1)) * (q : Int) ^ i := by
    rw [Int.mul_comm (q : Int), ← Int.pow_succ, ← Int.pow_add]
    congr 1
    omega
  have e2 : Rat.divInt (e (i + 1) * wI q l e (k - (i + 1))) ((q : Int) * (q : Int) ^ (k - (i + 1))) = Rat.divInt (e (i + 1) * (q : Int) ^ i * wI q l e (k - (i + 1))) ((q : Int) ^ k) := by
    rw [e1, show e (i + 1) * (q : Int) ^ i * wI q l e (k - (i + 1)) = e (i + 1) * wI q l e (k - (i + 1)) * (q : Int) ^ i by rw [Int.mul_assoc, Int.mul_comm ((q : Int) ^ i), ← Int.mul_assoc], Rat.divInt_mul_right (q_ne hq i)]
  rw [e2, dv_add (q_ne hq k), Int.add_comm]
theorem sm_mul {r s : Rat} {C D C' D' : Nat} (hr : sm r C D) (hs : sm s C' D') : sm (r * s) (C * C') (D * D') := by
  have e : r * s = Rat.divInt (r.num * s.num) ((r.den : Int) * (s.den : Int)) := by
    rw [← Rat.divInt_mul_divInt, Rat.num_divInt_den, Rat.num_divInt_den]
  have h1 := r.den_pos
  have h2 := s.den_pos
  rw [e]
  refine (sm_div (Int.mul_ne_zero (by omega) (by omega))).mono ?_ ?_
  · rw [Int.natAbs_mul]; exact Nat.mul_le_mul hr.1 hs.1
  · rw [Int.natAbs_mul, Int.natAbs_natCast, Int.natAbs_natCast]; exact Nat.mul_le_mul hr.2 hs.2
theorem sm_add {r s : Rat} {C D C' D' : Nat} (hr : sm r C D) (hs : sm s C' D') : sm (r + s) (C * D' + C' * D) (D * D') := by
  have h1 := r.den_pos
  have h2 := s.den_pos
  have e : r + s = Rat.divInt (r.num * s.den + s.num * r.den) ((r.den : Int) * (s.den : Int)) := by
    rw [← Rat.divInt_add_divInt _ _ (by omega) (by omega), Rat.num_divInt_den, Rat.num_divInt_den]
  rw [e]
  refine (sm_div (Int.mul_ne_zero (by omega) (by omega))).mono ?_ ?_
  · have a : (r.num * (s.den : Int)).natAbs ≤ C * D' := by rw [Int.natAbs_mul, Int.natAbs_natCast]; exact Nat.mul_le_mul hr.1 hs.2
    have b : (s.num * (r.den : Int)).natAbs ≤ C' * D := by rw [Int.natAbs_mul, Int.natAbs_natCast]; exact Nat.mul_le_mul hs.1 hr.2
    omega
  · rw [Int.natAbs_mul, Int.natAbs_natCast, Int.natAbs_natCast]; exact Nat.mul_le_mul hr.2 hs.2
/-! the class's row of weights -/
theorem c_weigh_in {K : jK} {M : jM} {j q : Nat} (hj : j < 6) (hq : q ≤ 4) (eq : M.1 (4 + 4 * j) 1 = nI q) {b c : Nat} (hb : jSH[b]? = some (Sum.inr (0, 4, []))) (hc : jSH[c]? = some (Sum.inr (0, 4, []))) {sg : Int} {l e : Nat → Int} (h0 : l 0 = 1) (hsg : sg * sg = 1) (he : ∀ i, 1 ≤ i → i < 4 → (M.1 c i).toInt = sg * e i) {k : Nat} (k8 : k ≤ 8) (ht : ∀ i, i < k → M.2 57 i = Int64.ofInt (wI q l e i))
    (nx : ∀ M1, M1 = jsl M 57 k (Int64.ofInt (wI q l e k)) → jEv nX5_weigh (53, [(0, .ref (4 + 4 * j)), (2, .ref 57), (3, .ref b), (4, .ref c), (5, .long (Int64.ofInt sg)), (7, .int (nI (k + 1)))], [], M1) K) : ∀ (d i : Nat), i + d = min 3 k → jEv nX5_weigh (93, [(0, .ref (4 + 4 * j)), (2, .ref 57), (3, .ref b), (4, .ref c), (5, .long (Int64.ofInt sg)), (7, .int (nI k)), (8, .long (Int64.ofInt (sg * wP q l e (wI q l e) k i))), (10, .int (nI (i + 1)))], [], M) K := by
  have ink := nI_in (c := k) (N := 9) (by omega) (by omega)
  intro d
  induction d with
  | zero =>
    intro i hi
    have e1 : Int64.ofInt sg * Int64.ofInt (sg * wP q l e (wI q l e) k i) = Int64.ofInt (wI q l e k) := by
      rw [← Int64.ofInt_mul, ← Int.mul_assoc, hsg, Int.one_mul, wI_rec h0 k, show i = min 3 k by omega]
    have fin : ∀ M1, M1 = jsl M 57 (nI k).toNatClampNeg (Int64.ofInt sg * Int64.ofInt (sg * wP q l e (wI q l e) k i)) → jEv nX5_weigh (53, [(0, .ref (4 + 4 * j)), (2, .ref 57), (3, .ref b), (4, .ref c), (5, .long (Int64.ofInt sg)), (7, .int (nI k + 1))], [], M1) K := by
      intro M1 f1
      rw [e1, nI_clamp (by omega)] at f1
      rw [nI_1]
      exact nx M1 f1
    refine v_X5_weigh_93 (jRu_n hj) hb hc ⟨fun _ => ⟨ink, fin⟩, fun w => ⟨fun _ => ⟨ink, fin⟩, fun w2 => ?_⟩⟩
    have a1 : ¬ 3 < i + 1 := fun z => w ((nI_ltI (a := 3) (b := i + 1) (by omega) (by omega)).mpr z)
    have a2 : ¬ k < i + 1 := fun z => w2 ((nI_ltI (by omega) (by omega)).mpr z)
    omega
  | succ d ih =>
    intro i hi
    have nx2 := ih (i + 1) (by omega)
    refine v_X5_weigh_93 (jRu_n hj) hb hc ⟨fun w => absurd ((nI_ltI (a := 3) (b := i + 1) (by omega) (by omega)).mp w) (by omega), fun _ => ⟨fun w => absurd ((nI_ltI (by omega) (by omega)).mp w) (by omega), fun _ => ⟨nI_in (by omega) (by omega), ?_⟩⟩⟩
    rw [eq, nI_pred, (s_power M _ (n := i) (by omega)).iff]
    refine ⟨_, rfl, ?_⟩
    rw [nI_sub (by omega), nI_clamp (by omega), nI_clamp (by omega), nI_1, ht (k - (i + 1)) (by omega), w64, he (i + 1) (by omega) (by omega), pw_of hq, ← Int64.ofInt_mul, ← Int64.ofInt_mul, ← Int64.ofInt_add]
    refine ⟨?_, ?_⟩
    · have := nI_in (c := k - (i + 1)) (N := 9) (by omega) (by omega)
      rw [nI_clamp (by omega)] at this
      exact this
    · rw [wP_s] at nx2
      rw [show sg * wP q l e (wI q l e) k i + sg * e (i + 1) * (q : Int) ^ i * wI q l e (k - (i + 1)) = sg * (wP q l e (wI q l e) k i + e (i + 1) * (q : Int) ^ i * wI q l e (k - (i + 1))) by rw [Int.mul_add, Int.mul_assoc sg, Int.mul_assoc sg]]
      exact nx2
theorem c_weigh_out {M0 : jM} {j q : Nat} (hj : j < 6) (hq : q ≤ 4) (eq : M0.1 (4 + 4 * j) 1 = nI q) {b c : Nat} (hb : jSH[b]? = some (Sum.inr (0, 4, []))) (hc : jSH[c]? = some (Sum.inr (0, 4, []))) {sg : Int} {l e : Nat → Int} (h0 : l 0 = 1) (h3 : ∀ k, 3 < k → l k = 0) (hsg : sg * sg = 1) (hl : ∀ i, 1 ≤ i → i < 4 → (M0.1 b i).toInt = sg * l i) (he : ∀ i, 1 ≤ i → i < 4 → (M0.1 c i).toInt = sg * e i) : ∀ (d k : Nat), 1 ≤ k → k + d = 9 → ∀ M, M.1 = M0.1 → (∀ a i, a ≠ 57 → M.2 a i = M0.2 a i) → (∀ i, i < k → M.2 57 i = Int64.ofInt (wI q l e i)) →
    jEv nX5_weigh (53, [(0, .ref (4 + 4 * j)), (2, .ref 57), (3, .ref b), (4, .ref c), (5, .long (Int64.ofInt sg)), (7, .int (nI k))], [], M) (fun o M' => o = some none ∧ M'.1 = M0.1 ∧ (∀ a i, a ≠ 57 → M'.2 a i = M0.2 a i) ∧ ∀ i, i < 9 → M'.2 57 i = Int64.ofInt (wI q l e i)) := by
  intro d
  induction d with
  | zero =>
    intro k k1 hk M f1 f2 f3
    have : k = 9 := by omega
    subst this
    exact v_X5_weigh_53 (jRu_n hj) hb hc ⟨fun _ => ⟨rfl, f1, f2, f3⟩, fun z => absurd (by decide) z⟩
  | succ d ih =>
    intro k k1 hk M f1 f2 f3
    have inner := c_weigh_in (K := fun o M' => o = some none ∧ M'.1 = M0.1 ∧ (∀ a i, a ≠ 57 → M'.2 a i = M0.2 a i) ∧ ∀ i, i < 9 → M'.2 57 i = Int64.ofInt (wI q l e i)) (M := M) hj hq (by rw [f1]; exact eq) hb hc h0 hsg (fun i i1 i2 => by rw [f1]; exact he i i1 i2) (k := k) (by omega) f3 (fun M1 g1 => ih (k + 1) (by omega) (by omega) M1 (by rw [g1]; exact f1) (fun a i ha => by rw [g1, jsl_at, if_neg (fun z => ha z.1)]; exact f2 a i ha) (fun i hi => by
      rw [g1, jsl_at]
      by_cases z : i = k
      · rw [if_pos ⟨rfl, z⟩, z]
      · rw [if_neg (fun y => z y.2)]; exact f3 i (by omega))) (min 3 k) 0 (by omega)
    refine v_X5_weigh_53 (jRu_n hj) hb hc ⟨fun w => absurd ((nI_ltI (a := 8) (b := k) (by omega) (by omega)).mp w) (by omega), fun _ => ⟨fun w => ?_, fun w => ⟨?_, ?_⟩⟩⟩
    · have k3 := (nI_ltI (a := 3) (b := k) (by omega) (by omega)).mp w
      have : sg * wP q l e (wI q l e) k 0 = 0 := by
        show sg * (l k * (q : Int) ^ (k - 1) + 0) = 0
        rw [h3 k k3, Int.zero_mul, Int.add_zero, Int.mul_zero]
      rw [this] at inner
      exact inner
    · have k3 : k ≤ 3 := Nat.not_lt.mp (fun z => w ((nI_ltI (a := 3) (b := k) (by omega) (by omega)).mpr z))
      exact nI_in (by omega) (by omega)
    · have k3 : k ≤ 3 := Nat.not_lt.mp (fun z => w ((nI_ltI (a := 3) (b := k) (by omega) (by omega)).mpr z))
      have e1 : nI k - 1 = nI (k - 1) := by
        have := nI_pred (k - 1)
        rw [show k - 1 + 1 = k by omega] at this
        exact this
      rw [f1, eq, e1, (s_power M _ (n := k - 1) (by omega)).iff]
      refine ⟨_, rfl, ?_⟩
      rw [nI_clamp (by omega), w64, hl k k1 (by omega), pw_of hq, ← Int64.ofInt_mul]
      have : sg * wP q l e (wI q l e) k 0 = sg * l k * (q : Int) ^ (k - 1) := by
        show sg * (l k * (q : Int) ^ (k - 1) + 0) = _
        rw [Int.add_zero, Int.mul_assoc]
      rw [this] at inner
      exact inner
def wl (o : Int32) (A B : Nat → Int32) (k : Nat) : Int := if k = 0 then 1 else if k ≤ 3 then (if o = 0 then (B k).toInt else -(A k).toInt) else 0
def we (o : Int32) (A B : Nat → Int32) (i : Nat) : Int := if o = 0 then (A i).toInt else -(B i).toInt
theorem w_ok {M : jM} {j q p m s : Nat} {A B : Nat → Int32} (v : vR M j q p m s A B) (o : Int32) : wOk q (wl o A B) (we o A B) := by
  refine ⟨v.1.1, v.1.2.1, rfl, fun k => ⟨?_, fun h => ?_⟩, fun i i1 i2 => ?_⟩
  · unfold wl
    split
    · decide
    · split
      · have := v.A8 k (by omega) (by omega)
        split <;> omega
      · decide
  · unfold wl
    rw [if_neg (by omega), if_neg (by omega)]
  · unfold we
    have := v.A8 i (by omega) (by omega)
    split <;> omega
theorem c_weigh {M0 : jM} {j q p m s : Nat} {A B : Nat → Int32} (hj : j < 6) (v : vR M0 j q p m s A B) (o : Int32) : jEv nX5_weigh (0, [(0, .ref (4 + 4 * j)), (1, .int o), (2, .ref 57)], [], M0) (fun x M' => x = some none ∧ M'.1 = M0.1 ∧ (∀ a i, a ≠ 57 → M'.2 a i = M0.2 a i) ∧ ∀ i, i < 9 → M'.2 57 i = Int64.ofInt (wI q (wl o A B) (we o A B) i)) := by
  have b1 := jRu_1 (jRu_n hj)
  have b2 := jRu_2 (jRu_n hj)
  have w := w_ok v o
  have st : ∀ M1, M1 = jsl M0 57 0 1 → M1.1 = M0.1 ∧ (∀ a i, a ≠ 57 → M1.2 a i = M0.2 a i) ∧ ∀ i, i < 1 → M1.2 57 i = Int64.ofInt (wI q (wl o A B) (we o A B) i) := by
    intro M1 e1
    refine ⟨by rw [e1]; rfl, fun a i ha => by rw [e1, jsl_at, if_neg (fun z => ha z.1)], fun i hi => ?_⟩
    have : i = 0 := by omega
    subst this
    rw [e1, jsl_at, if_pos ⟨rfl, rfl⟩]; rfl
  refine v_X5_weigh_0 (jRu_n hj) ⟨fun h => ⟨fun _ => ⟨fun _ M1 e1 => ?_, fun z => absurd h z⟩, fun z => absurd h z⟩, fun h => ⟨fun z => absurd z h, fun _ => ⟨fun z => absurd z h, fun _ M1 e1 => ?_⟩⟩⟩
  · obtain ⟨g1, g2, g3⟩ := st M1 e1
    refine c_weigh_out (sg := 1) hj w.2.1 v.2.1.2.1 b2 b1 w.2.2.1 (fun k hk => (w.2.2.2.1 k).2 hk) rfl (fun i i1 i2 => ?_) (fun i i1 i2 => ?_) 8 1 (by omega) (by omega) M1 g1 g2 g3
    · rw [(v.2.2.2.2 i i1 i2).1]; unfold wl; rw [if_neg (by omega), if_pos (by omega), if_pos h, Int.one_mul]
    · rw [(v.2.2.2.1 i i1 i2).1]; unfold we; rw [if_pos h, Int.one_mul]
  · obtain ⟨g1, g2, g3⟩ := st M1 e1
    refine c_weigh_out (sg := -1) hj w.2.1 v.2.1.2.1 b1 b2 w.2.2.1 (fun k hk => (w.2.2.2.1 k).2 hk) rfl (fun i i1 i2 => ?_) (fun i i1 i2 => ?_) 8 1 (by omega) (by omega) M1 g1 g2 g3
    · rw [(v.2.2.2.1 i i1 i2).1]; unfold wl; rw [if_neg (by omega), if_pos (by omega), if_neg h]; omega
    · rw [(v.2.2.2.2 i i1 i2).1]; unfold we; rw [if_neg h]; omega
