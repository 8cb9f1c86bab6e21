/-! the reference's small functions -/
theorem i64_0 : Int64.ofNat 0 = (nI 0).toInt64 := by decide
theorem i64_1 : Int64.ofNat 1 = (nI 1).toInt64 := by decide
/-- 0 ≤ x < n -/
theorem in_0 {x : Int32} {n : Nat} (hn : 0 < n) (hn2 : n < 2 ^ 31) : decide ((nI 0).toInt64 ≤ x.toInt64 ∧ x.toInt64 ≤ (nI (n - 1)).toInt64) = inb x n := by
  rw [Bool.eq_iff_iff, inb_iff]
  simp only [decide_eq_true_eq, i64_le, Int32.le_iff_toInt_le]
  rw [nI_toInt (by omega), nI_toInt (by omega)]
  omega
theorem in_1 {x : Int32} {n : Nat} (hn2 : n < 2 ^ 31) : decide ((nI 1).toInt64 ≤ x.toInt64 ∧ x.toInt64 ≤ (nI n).toInt64) = (inb x (n + 1) && !decide (x = nI 0)) := by
  rw [Bool.eq_iff_iff, Bool.and_eq_true, inb_iff]
  simp only [decide_eq_true_eq, i64_le, Int32.le_iff_toInt_le, Bool.not_eq_true', decide_eq_false_iff_not, ← Int32.toInt_inj]
  rw [nI_toInt (by omega), nI_toInt (by omega), nI_toInt (by omega)]
  omega
/-! the lines of requests, by a row -/
def rq (r : Nat → Int32) (j w : Nat) : Int32 := r (118 + 6 * j + w)
def waitS (r : Nat → Int32) (j : Nat) : Bool := !decide (rq r j 0 = r 8)
def inLS (r : Nat → Int32) (k : Int32) (j : Nat) : Bool := decide (rq r j 2 = k) && waitS r j
def clmS (r : Nat → Int32) (j : Nat) : Int32 := if r (15 + ix (rq r j 2)) = nI 1 then -(rq r j 3) else (if r (15 + ix (rq r j 2)) = nI 2 then r (20 + ix (rq r j 1)) else (if r (15 + ix (rq r j 2)) = nI 3 then r (28 + ix (rq r j 1)) else nI 0))
def ahS (r : Nat → Int32) (i o : Nat) : Bool := if clmS r i = clmS r o then decide (rq r i 0 < rq r o 0) else decide (clmS r o < clmS r i)
def ahN (r : Nat → Int32) (n i : Nat) : Nat := cntN (fun o => inLS r (rq r i 2) o && ahS r o i) n
def inLineS (r : Nat → Int32) (n : Nat) (k q : Int32) : Int32 := sres (fun i => inLS r k i && decide (nI (ahN r n i) = q)) n
/-- the requests of a row are good -/
def RqI (r : Nat → Int32) (C A n : Nat) : Prop := ∀ j, j < n → (∃ a, a < A ∧ rq r j 1 = nI a) ∧ (∃ k, k < C ∧ rq r j 2 = nI k)
