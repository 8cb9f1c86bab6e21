/-! queries: what both sides' guards do -/
theorem told_at {Y : Sm} {v : Int32} : gI (sI Y 48 0 0 v).1 48 0 0 = v := by rw [gI_sIv, upd_at]
theorem c_154 {Y : Sm} {A : Nat} (h : gI Y.1 5 (Y.2 0) 3 = nI A) (hA : A < 2 ^ 31) (a : Int32) : fn_154 a Y = some (cond (inb a A) (.inl ()) (.inr 0), Y) := by
  unfold fn_154
  rw [h]
  by_cases h1 : a < nI 0
  · rw [if_pos h1]
    have : inb a A = false := by
      rw [Bool.eq_false_iff]
      intro q
      have := (inb_iff.mp q).1
      have := Int32.lt_iff_toInt_lt.mp h1
      rw [nI_toInt (by omega)] at this
      omega
    rw [this, cnd_f]
  · rw [if_neg h1]
    have h1' : 0 ≤ a.toInt := by
      have := Int32.le_iff_toInt_le.mp (Int32.not_lt.mp h1)
      rw [nI_toInt (by omega)] at this
      omega
    by_cases h2 : a < nI A
    · rw [if_pos h2]
      have h2' := Int32.lt_iff_toInt_lt.mp h2
      rw [nI_toInt hA] at h2'
      rw [inb_iff.mpr ⟨h1', h2'⟩, cnd_t]
    · rw [if_neg h2]
      have : inb a A = false := by
        rw [Bool.eq_false_iff]
        intro q
        exact h2 (Int32.lt_iff_toInt_lt.mpr (by rw [nI_toInt hA]; exact (inb_iff.mp q).2))
      rw [this, cnd_f]
theorem c_155 {Y : Sm} {A : Nat} (h : gI Y.1 5 (Y.2 0) 0 = nI A) (hA : A < 2 ^ 31) (a : Int32) : fn_155 a Y = some (cond (inb a A) (.inl ()) (.inr 0), Y) := by
  unfold fn_155
  rw [h]
  by_cases h1 : a < nI 0
  · rw [if_pos h1]
    have : inb a A = false := by
      rw [Bool.eq_false_iff]
      intro q
      have := (inb_iff.mp q).1
      have := Int32.lt_iff_toInt_lt.mp h1
      rw [nI_toInt (by omega)] at this
      omega
    rw [this, cnd_f]
  · rw [if_neg h1]
    have h1' : 0 ≤ a.toInt := by
      have := Int32.le_iff_toInt_le.mp (Int32.not_lt.mp h1)
      rw [nI_toInt (by omega)] at this
      omega
    by_cases h2 : a < nI A
    · rw [if_pos h2]
      have h2' := Int32.lt_iff_toInt_lt.mp h2
      rw [nI_toInt hA] at h2'
      rw [inb_iff.mpr ⟨h1', h2'⟩, cnd_t]
    · rw [if_neg h2]
      have : inb a A = false := by
        rw [Bool.eq_false_iff]
        intro q
        exact h2 (Int32.lt_iff_toInt_lt.mpr (by rw [nI_toInt hA]; exact (inb_iff.mp q).2))
      rw [this, cnd_f]
/-- 0 ≤ a ≤ n, as two branches -/
theorem br_le {ρ : Type} {a : Int32} {n : Nat} (hn : n < 2 ^ 31 - 1) {x y : ρ} : (if a < nI 0 then x else (if a ≤ nI n then y else x)) = cond (inb a (n + 1)) y x := by
  by_cases h1 : a < nI 0
  · rw [if_pos h1]
    have : inb a (n + 1) = false := by
      rw [Bool.eq_false_iff]
      intro q
      have := (inb_iff.mp q).1
      have := Int32.lt_iff_toInt_lt.mp h1
      rw [nI_toInt (by omega)] at this
      omega
    rw [this, cnd_f]
  · rw [if_neg h1]
    have h1' : 0 ≤ a.toInt := by
      have := Int32.le_iff_toInt_le.mp (Int32.not_lt.mp h1)
      rw [nI_toInt (by omega)] at this
      omega
    by_cases h2 : a ≤ nI n
    · rw [if_pos h2]
      have h2' := Int32.le_iff_toInt_le.mp h2
      rw [nI_toInt (by omega)] at h2'
      rw [inb_iff.mpr ⟨h1', by omega⟩, cnd_t]
    · rw [if_neg h2]
      have : inb a (n + 1) = false := by
        rw [Bool.eq_false_iff]
        intro q
        have := (inb_iff.mp q).2
        exact h2 (Int32.le_iff_toInt_le.mpr (by rw [nI_toInt (by omega)]; omega))
      rw [this, cnd_f]
theorem br_1 {ρ : Type} {a : Int32} {n : Nat} (hn : n < 2 ^ 31 - 1) {x y : ρ} : (if a < nI 1 then x else (if a ≤ nI n then y else x)) = cond (inb a (n + 1) && !decide (a = nI 0)) y x := by
  by_cases h0 : a = nI 0
  · rw [h0, if_pos (nI_lt (by omega) (by omega))]
    simp
  · have e : (a < nI 1) ↔ (a < nI 0) := by
      have hne : a.toInt ≠ 0 := fun q => h0 (Int32.toInt_inj.mp (by rw [q, nI_toInt (by omega)]; rfl))
      rw [Int32.lt_iff_toInt_lt, Int32.lt_iff_toInt_lt, nI_toInt (by omega), nI_toInt (by omega)]
      omega
    rw [decide_eq_false h0, Bool.not_false, Bool.and_true, ← br_le hn]
    by_cases h1 : a < nI 0
    · rw [if_pos h1, if_pos (e.mpr h1)]
    · rw [if_neg h1, if_neg (fun q => h1 (e.mp q))]
theorem c_156 (a : Int32) (Y : Sm) : fn_156 a Y = some (cond (inb a 3) (.inl ()) (.inr 1), Y) := by
  unfold fn_156
  rw [br_le (by omega)]
  cases inb a 3 <;> rfl
theorem c_157 {n : Nat} (hn : n < 2 ^ 31 - 1) (a : Int32) (Y : Sm) : fn_157 a (nI n) Y = some (cond (inb a (n + 1) && !decide (a = nI 0)) (.inl ()) (.inr 1), Y) := by
  unfold fn_157
  rw [br_1 hn]
  cases (inb a (n + 1) && !decide (a = nI 0)) <;> rfl
theorem g_if {ρ : Type} {b : Bool} {W : Sm} {A K : Sm → Option ρ} : bd (some (bI b, W)) (fun v Z => if v = nI 0 then A Z else K Z) = cond b (K W) (A W) := by
  rw [bd_t, bI_0]
/-! the short queries -/
