/-! WHAT THE LAW'S BEGINNING MAKES -/
/-- the cells by number, in the order of their making -/
def kpm (i : Nat) : Nat := if i < 4 then i else if i < 28 then 5 + 6 * ((i - 4) / 4) + (i - 4) % 4 else if i = 28 then 4 else if i < 41 then 9 + 6 * ((i - 29) / 2) + (i - 29) % 2 else i
def m0I (a k : Nat) : Int32 := if (([4, 8, 12, 16, 20, 24] : List Nat).contains a && (Nat.beq k 1 || Nat.beq k 4)) = true then 1 else 0
def m0L (a k : Nat) : Int64 := if ((([60, 61, 63, 64, 65, 66, 53, 55] : List Nat).contains a && Nat.beq k 1) || (Nat.beq a 44 && Nat.beq k 4)) = true then 1 else 0
def m0 : jM := (m0I, m0L)
def m0n (a : Nat) : Bool := !(([4, 8, 12, 16, 20, 24] : List Nat).contains a) && (!(([60, 61, 63, 64, 65, 66, 53, 55] : List Nat).contains a) && !(Nat.beq a 44))
def kmt (i : Nat) : jS → kC → Bool
  | .inl o, .inl o' => decide (o.1 = o'.1) && decide (o'.2 = o.2.mapIdx (fun k f => if f.1 = 1 then Value.long (m0L i k) else if f.1 = 2 then .ref (kpm f.2) else .int (m0I i k))) && o.2.all (fun f => decide (f.2 < 98))
  | .inr r, .inr r' => decide (r.1 = r'.1) && decide (r.2.1 = r'.2.1) && m0n i && decide (4 ≤ r.1 → r'.2.2 = r.2.2.map (fun a => some (kpm a))) && r.2.2.all (fun a => decide (a < 98))
  | _, _ => false
def kchk (o : kF) : Bool := Nat.beq o.1 20 && decide (o.2.1 = [(0, .ref 1000), (1, .ref 0), (2, .ref 67), (3, .ref 97)]) && decide (o.2.2.1 = []) && Nat.beq o.2.2.2.2.1 98 && Nat.beq o.2.2.2.2.2 1007 && Nat.beq o.2.2.2.1.length 98 && (List.range 98).all (fun i => match jSH[i]?, o.2.2.2.1[kpm i]? with | some x, some y => kmt i x y | _, _ => false)
set_option maxRecDepth 100000 in
theorem kfin : (match krun 600 kLw (0, [(0, .ref 1000)], [], [], 0, 0) with | some o => kchk o | none => false) = true := by decide +kernel
