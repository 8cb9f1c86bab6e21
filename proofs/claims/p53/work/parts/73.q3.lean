/-! queries: answers, numbers -/
theorem br_lt {ρ : Type} {a : Int32} {n : Nat} (hn : n < 2 ^ 31) {x y : ρ} : (if a < nI 0 then x else (if a < nI n then y else x)) = cond (inb a n) y x := by
  by_cases h1 : a < nI 0
  · rw [if_pos h1]
    have : inb a n = false := by
      rw [Bool.eq_false_iff]
      intro q
      have := (inb_iff.mp q).1
      have := Int32.lt_iff_toInt_lt.mp h1
      rw [nI_toInt (by omega)] at this
      omega
    rw [this, cnd_f]
  · rw [if_neg h1]
    have h1' : 0 ≤ a.toInt := by
      have := Int32.le_iff_toInt_le.mp (Int32.not_lt.mp h1)
      rw [nI_toInt (by omega)] at this
      omega
    by_cases h2 : a < nI n
    · rw [if_pos h2]
      have h2' := Int32.lt_iff_toInt_lt.mp h2
      rw [nI_toInt hn] at h2'
      rw [inb_iff.mpr ⟨h1', h2'⟩, cnd_t]
    · rw [if_neg h2]
      have : inb a n = false := by
        rw [Bool.eq_false_iff]
        intro q
        exact h2 (Int32.lt_iff_toInt_lt.mpr (by rw [nI_toInt hn]; exact (inb_iff.mp q).2))
      rw [this, cnd_f]
theorem sub60 {x y : Nat} (hy : y ≤ 59) (hx : x ≤ 59) : nI x - nI 1 - nI y + nI 60 = nI (x + 59 - y) := by
  have e : nI x - nI 1 - nI y + nI 60 = nI x + nI 60 - nI 1 - nI y := by
    simp only [Int32.sub_eq_add_neg]
    ac_rfl
  rw [e, nI_add, pk_sub (by omega), pk_sub (by omega)]
  congr 1
def cntV (P : Pm) (r : Nat → Int32) (u j : Nat) : Int32 :=
  if j = 0 then nI P.1 else if j = 1 then nI P.2.1 else if j = 2 then r 0 else if j = 3 then r 1 else if j = 4 then P.2.2.1 0 else if j = 5 then P.2.2.1 1 else if j = 6 then P.2.2.1 2 else if j = 7 then P.2.2.1 3 else if j = 8 then P.2.2.1 4 else if j = 9 then (if r 8 = (-1 : Int32) then r 9 else r 9 - nI 1) else if j = 10 then r 7 else if j = 11 then r 6 else if j = 12 then r 2 else if j = 13 then r 4 else if j = 14 then r 5 else nI u
theorem cnt_case {j : Nat} (h : j < 16) : j = 0 ∨ j = 1 ∨ j = 2 ∨ j = 3 ∨ j = 4 ∨ j = 5 ∨ j = 6 ∨ j = 7 ∨ j = 8 ∨ j = 9 ∨ j = 10 ∨ j = 11 ∨ j = 12 ∨ j = 13 ∨ j = 14 ∨ j = 15 := by omega
theorem ite_y {c : Prop} [Decidable c] {a b : Int32} {Y : Sm} : (if c then some (a, Y) else some (b, Y)) = some (if c then a else b, Y) := ite_s
