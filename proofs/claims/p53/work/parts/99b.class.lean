/-! the statement of a class -/
def st3 (L : Nat) (B : Nat → Nat) (s : Nat) : Nat := if wb L B s 1 = true then 1 else if wb L B s 2 = true then 2 else if wb L B s 3 = true then 3 else 0
theorem c_64 {X : Sm} {L s : Nat} {B : Nat → Nat} (h : TkC X L B s) : fn_64 X = if st3 L B s = 0 then some (nI 0, X) else bd (fn_95 X) fun _ Y => some (nI (st3 L B s), Y) := by
  have z : ∀ a b c, wb L B s 1 = a → wb L B s 2 = b → wb L B s 3 = c → st3 L B s = cond a 1 (cond b 2 (cond c 3 0)) := fun a b c h1 h2 h3 => by
    unfold st3
    rw [h1, h2, h3]
    cases a <;> cases b <;> cases c <;> rfl
  unfold fn_64
  rw [c_is h (by omega), bd_t, bI_0, z _ _ _ rfl rfl rfl]
  cases h1 : wb L B s 1 with
  | true =>
    rw [cnd_t, cnd_t, if_neg (by omega)]
    unfold fn_64_J49
    rw [if_neg (by decide)]
  | false =>
    rw [cnd_f, cnd_f, c_is h (by omega), bd_t, bI_0]
    cases h2 : wb L B s 2 with
    | true =>
      rw [cnd_t, cnd_t, if_neg (by omega)]
      unfold fn_64_J49
      rw [if_neg (by decide)]
    | false =>
      rw [cnd_f, cnd_f, c_is h (by omega), bd_t, bI_0]
      cases h3 : wb L B s 3 with
      | true =>
        rw [cnd_t, cnd_t, if_neg (by omega)]
        unfold fn_64_J49
        rw [if_neg (by decide)]
      | false =>
        rw [cnd_f, cnd_f, if_pos rfl]
        unfold fn_64_J49
        rw [if_pos rfl]
theorem st3_le (L : Nat) (B : Nat → Nat) (s : Nat) : st3 L B s ≤ 3 := by
  unfold st3
  by_cases a : wb L B s 1 = true
  · rw [if_pos a]; omega
  · rw [if_neg a]
    by_cases b : wb L B s 2 = true
    · rw [if_pos b]; omega
    · rw [if_neg b]
      by_cases c : wb L B s 3 = true
      · rw [if_pos c]; omega
      · rw [if_neg c]; omega
theorem st3_j {L s j : Nat} {B : Nat → Nat} (hj : j < 17) (h : wb L B s j = true) : st3 L B s = if 1 ≤ j ∧ j ≤ 3 then j else 0 := by
  have hf : ∀ i, i < 17 → i ≠ j → ¬ wb L B s i = true := fun i hi hne q => hne (wb_in hi hj q h)
  unfold st3
  by_cases c1 : j = 1
  · subst c1; rw [if_pos h, if_pos (by omega)]
  · rw [if_neg (hf 1 (by omega) (by omega))]
    by_cases c2 : j = 2
    · subst c2; rw [if_pos h, if_pos (by omega)]
    · rw [if_neg (hf 2 (by omega) (by omega))]
      by_cases c3 : j = 3
      · subst c3; rw [if_pos h, if_pos (by omega)]
      · rw [if_neg (hf 3 (by omega) (by omega)), if_neg (by omega)]
theorem wb_k {L s j : Nat} {B : Nat → Nat} (h : kdS L B s ≠ 1) : wb L B s j = false := by
  unfold wb
  rw [beq_ne h]
  rfl
theorem SDm {d k : Nat} (h : k ∈ [5, 6, 7, 8, 9, 10, 11, 12, 14, 15, 16, 17, 18, 19]) : SD d k d := Or.inr ⟨rfl, h⟩
theorem sI_self {W : Sm} {k j : Nat} {v : Int32} (h : gI W.1 k 0 j = v) : sI W k 0 j v = W := by
  rw [sI_sF, upd_self h, sF_self]
theorem SmW.s33 {W Z : Sm} {x : Nat} {v : Int32} (h : SmW W Z) : SmW (sI W 48 0 x v) (sI Z 48 0 x v) := by
  refine ⟨fun k hk => ⟨?_, (h.1 k hk).2⟩, fun y hy => ?_⟩
  · have : k ≠ 48 := fun q => by rw [q] at hk; exact absurd hk (by decide)
    rw [gI_sIk this, gI_sIk this]
    exact (h.1 k hk).1
  · rw [gI_sIv, gI_sIv]
    by_cases c : y = x
    · rw [c, upd_at, upd_at]
    · rw [upd_ne c, upd_ne c]; exact h.2 y hy
