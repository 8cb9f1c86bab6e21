/-! a tick of the reference, by rows: taking, working, answering -/
theorem iteN_t {α : Type} {a b : Nat} {x y : α} (h : a = b) : (if a = b then x else y) = x := if_pos h
theorem iteN_f {α : Type} {a b : Nat} {x y : α} (h : a ≠ b) : (if a = b then x else y) = y := if_neg h
def hasS (set k : Int32) : Bool := decide (((set >>> (k &&& 31)) &&& (nI 1)) = nI 1)
/-- the index of the request at a place of a line -/
def lineN (r : Nat → Int32) (n : Nat) (k q : Int32) : Nat := srch (fun i => inLS r k i && decide (nI (ahN r n i) = q)) n
theorem inLineS_eq (r : Nat → Int32) (n : Nat) (k q : Int32) : inLineS r n k q = cond (Nat.ble n (lineN r n k q)) (-1 : Int32) (nI (lineN r n k q)) := rfl
/-- the first class that may be taken, by its place in the order -/
def nxtN (r : Nat → Int32) (n C : Nat) : Nat := srch (fun j => !hasS (r 4) (r (10 + j)) && !Nat.ble n (lineN r n (r (10 + j)) (nI 0))) C
def takS (r : Nat → Int32) (n C : Nat) : Nat → Int32 := cond (Nat.ble C (nxtN r n C)) r (upd r 8 (rq r (lineN r n (r (10 + nxtN r n C)) (nI 0)) 0))
/-- a row without the request i -/
def remS (r : Nat → Int32) (i n : Nat) : Nat → Int32 := fun q => if 118 + 6 * i ≤ q ∧ q < 118 + 6 * (n - 1) then r (q + 6) else upd r 9 (nI (n - 1)) q
def stS (r : Nat → Int32) (i a : Nat) : Int32 := if r (28 + a) ≤ rq r i 3 then r (28 + a) else rq r i 3
def crS (r : Nat → Int32) (i a : Nat) : Int32 := r (20 + a) + rq r i 3 - stS r i a
/-- a row behind an answer, ahead of the removal -/
def an0S (r : Nat → Int32) (i a k m : Nat) : Nat → Int32 := fun q =>
  if q = 28 + a then r (28 + a) - stS r i a else if q = 20 + a then (if crS r i a ≤ nI 999 then crS r i a else nI 999) else if q = 52 + a then r (52 + a) + nI 1
  else if q = 60 + a then r (60 + a) + rq r i 3 else if q = 68 + k then r (68 + k) + nI 1 else if q = 73 + k then r (73 + k) + r 0 - rq r i 5
  else if q = 358 + 6 * (m % 60) then rq r i 0 else if q = 358 + 6 * (m % 60) + 1 then nI a else if q = 358 + 6 * (m % 60) + 2 then nI k else if q = 358 + 6 * (m % 60) + 3 then rq r i 5
  else if q = 358 + 6 * (m % 60) + 4 then r 0 else if q = 358 + 6 * (m % 60) + 5 then stS r i a else if q = 7 then r 7 + nI 1 else if q = 8 then (-1 : Int32) else r q
def ansS (r : Nat → Int32) (i a k m n : Nat) : Nat → Int32 := remS (an0S r i a k m) i n
/-- a row behind a tick's work -/
def wrkS (r : Nat → Int32) (i a k m n : Nat) : Nat → Int32 := if rq r i 4 - nI 1 = nI 0 then ansS (upd r (118 + 6 * i + 4) (rq r i 4 - nI 1)) i a k m n else upd r (118 + 6 * i + 4) (rq r i 4 - nI 1)
