/-! tally and settings: each once -/
theorem mk_s : ∀ m, m < 64 → ∀ j, j < 5 → decide ((nI m &&& (nI 1 <<< (nI j &&& 31))) = nI 0) = !(hasS (nI ((m % 32) * 2 + m / 32)) (nI (j + 1))) := by decide +kernel
theorem mk_s2 : ∀ m, m < 64 → ∀ j, j < 5 → ((nI m &&& (nI 1 <<< (nI j &&& 31))) = nI 0) → m + 2 ^ j < 64 ∧ (nI m ||| (nI 1 <<< (nI j &&& 31))) = nI (m + 2 ^ j) ∧ (nI ((m % 32) * 2 + m / 32) ||| (nI 1 <<< (nI (j + 1) &&& 31))) = nI (((m + 2 ^ j) % 32) * 2 + (m + 2 ^ j) / 32) := by decide +kernel
theorem mk_t : ∀ m, m < 64 → decide ((nI m &&& nI 32) = nI 0) = !(hasS (nI ((m % 32) * 2 + m / 32)) (nI 0)) := by decide +kernel
theorem mk_t2 : ∀ m, m < 64 → ((nI m &&& nI 32) = nI 0) → m + 32 < 64 ∧ (nI m ||| nI 32) = nI (m + 32) ∧ (nI ((m % 32) * 2 + m / 32) ||| (nI 1 <<< (nI 0 &&& 31))) = nI (((m + 32) % 32) * 2 + (m + 32) / 32) := by decide +kernel
/-- the tally's word -/
def tl3 (L : Nat) (B : Nat → Nat) (s : Nat) : Nat := if wb L B s 8 = true then 0 else if wb L B s 9 = true then 1 else if wb L B s 10 = true then 2 else 3
theorem tl3_z {L s : Nat} {B : Nat → Nat} (h : ∀ j, j < 17 → wb L B s j = false) : tl3 L B s = 3 := by
  unfold tl3
  rw [h 8 (by omega), h 9 (by omega), h 10 (by omega), if_neg (by decide), if_neg (by decide), if_neg (by decide)]
theorem tl3_j {L s j : Nat} {B : Nat → Nat} (hj : j < 17) (h : wb L B s j = true) : tl3 L B s = if 8 ≤ j ∧ j ≤ 10 then j - 8 else 3 := by
  have hf : ∀ i, i < 17 → i ≠ j → ¬ wb L B s i = true := fun i hi hne q => hne (wb_in hi hj q h)
  unfold tl3
  by_cases c1 : j = 8
  · subst c1; rw [if_pos h, if_pos (by omega)]
  · rw [if_neg (hf 8 (by omega) (by omega))]
    by_cases c2 : j = 9
    · subst c2; rw [if_pos h, if_pos (by omega)]
    · rw [if_neg (hf 9 (by omega) (by omega))]
      by_cases c3 : j = 10
      · subst c3; rw [if_pos h, if_pos (by omega)]
      · rw [if_neg (hf 10 (by omega) (by omega)), if_neg (by omega)]
