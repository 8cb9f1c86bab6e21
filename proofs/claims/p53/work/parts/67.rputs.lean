/-! the reference's steps in general: kept, changed, put under undo -/
def UnR (Y Z : Sm) (u : Nat) : Prop := gI Z.1 48 0 17 = nI (if u + 1 ≤ 8 then u + 1 else 8) ∧ ∀ j q, j < (if u + 1 ≤ 8 then u + 1 else 8) → q < 718 → gI Z.1 57 0 (718 * j + q) = if j + 1 = (if u + 1 ≤ 8 then u + 1 else 8) then gI Y.1 52 0 q else gI Y.1 57 0 (718 * (if u + 1 ≤ 8 then j else j + 1) + q)
