/-! the reference takes its draft -/
def blF (C j : Nat) (f : Nat → Int32) : Nat → Int32 := fun q => if 78 ≤ q ∧ q < 78 + 5 * j ∧ (q - 78) % 5 < C then nI ((q - 78) % 5) else f q
def odF (C : Nat) (f : Nat → Int32) : Nat → Int32 := fun q => if 10 ≤ q ∧ q < 10 + C then nI (q - 10) else f q
