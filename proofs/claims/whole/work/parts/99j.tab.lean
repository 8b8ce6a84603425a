/-! what the tables' cuts and joins do to the labels of a state -/
def gEcut (c x k k' : Nat) : Bool := (List.range c).all fun y => (List.range c).all fun z => ((Nat.beq (k' / 8 ^ (4 - y) % 8) 0) == (!Nat.beq y x && Nat.beq (k / 8 ^ (4 - y) % 8) 0)) && ((Nat.beq (k' / 8 ^ (4 - y) % 8) (k' / 8 ^ (4 - z) % 8)) == (Nat.beq y z || (!Nat.beq y x && !Nat.beq z x && Nat.beq (k / 8 ^ (4 - y) % 8) (k / 8 ^ (4 - z) % 8))))
def gEin (k x y : Nat) : Bool := Nat.beq (k / 8 ^ (4 - y) % 8) (k / 8 ^ (4 - (x - 1)) % 8) || Nat.beq (k / 8 ^ (4 - y) % 8) (k / 8 ^ (4 - x) % 8)
def gEjn (c x k k' : Nat) : Bool := (List.range c).all fun y => (List.range c).all fun z => ((Nat.beq (k' / 8 ^ (4 - y) % 8) 0) == (Nat.beq (k / 8 ^ (4 - y) % 8) 0 || (gEin k x y && (Nat.beq (k / 8 ^ (4 - (x - 1)) % 8) 0 || Nat.beq (k / 8 ^ (4 - x) % 8) 0)))) && ((Nat.beq (k' / 8 ^ (4 - y) % 8) (k' / 8 ^ (4 - z) % 8)) == (Nat.beq (k / 8 ^ (4 - y) % 8) (k / 8 ^ (4 - z) % 8) || (gEin k x y && gEin k x z)))
theorem gETc : ∀ c : Fin 6, (List.range (gSz c.val)).all (fun s => (List.range c.val).all (fun x => gEcut c.val x (gCd c.val s) (gCd c.val (gMv c.val x s)))) = true := by decide +kernel
theorem gETj : ∀ c : Fin 6, (List.range (gSz c.val)).all (fun s => (List.range c.val).all (fun x => Nat.beq x 0 || gEjn c.val x (gCd c.val s) (gCd c.val (gMv c.val (4 + x) s)))) = true := by decide +kernel
/-- a label's place of first occurrence -/
def gFi (L : Nat → Nat) (v : Nat) : Nat → Nat
  | 0 => 0
  | n + 1 => if L 0 = v then 0 else 1 + gFi (fun x => L (x + 1)) v n
/-- is a label new at its place -/
def gFrs (L : Nat → Nat) (x : Nat) : Bool := decide (L x ≠ 0) && decide (L x ≠ 9) && decide (gFi L (L x) x = x)
/-- the digit that a cell is named by -/
def gNd (L : Nat → Nat) (x : Nat) : Nat := if L x = 0 then 0 else if L x = 9 then 9 else gct (gFrs L) (gFi L (L x) x + 1)
def gLk (k x : Nat) : Nat := k / 8 ^ (4 - x) % 8
def gDg (c : Nat) (st : Nat → Bool) (k x : Nat) : Nat := if st x then 9 else gLk k x - gct (fun z => st z && decide (gLk k z < gLk k x)) c
def gLst (st : Nat → Bool) (k x : Nat) : Nat := if st x then 9 else gLk k x
def gGd (c : Nat) (st : Nat → Bool) (k : Nat) : Bool := (List.range c).all fun x => !st x || (!Nat.beq (gLk k x) 0 && (List.range c).all fun y => Nat.beq x y || !Nat.beq (gLk k x) (gLk k y))
def gNn (c : Nat) (st : Nat → Bool) (k : Nat) : Nat → Nat
  | 0 => 0
  | n + 1 => 10 * gNn c st k n + gDg c st k n
theorem gETd : ∀ c : Fin 6, ∀ m : Fin 32, (gT c.val).all (fun k => !gGd c.val m.val.testBit k || (List.range c.val).all (fun x => Nat.beq (gNd (gLst m.val.testBit k) x) (gDg c.val m.val.testBit k x))) = true := by decide +kernel
def gAsc : List Nat → Bool
  | [] => true
  | a :: l => (match l with | [] => true | b :: _ => Nat.blt a b) && gAsc l
theorem gETm : ∀ c : Fin 6, ∀ m : Fin 32, gAsc (((gT c.val).filter (gGd c.val m.val.testBit)).map (fun k => gNn c.val m.val.testBit k c.val)) = true := by decide +kernel
