/-! a statement, and its end -/
theorem ErB.ne {X W : Sm} (h : ErB X W) : gI X.1 3 0 3 ≠ nI 0 ∧ gI W.1 48 0 31 ≠ nI 0 := by
  obtain ⟨e, p, h1, h5, a, _, b, _⟩ := h
  rw [a, b]
  have : nI e ≠ nI 0 := fun q => by have := (nI_eq (by omega) (by omega)).mp q; omega
  exact ⟨this, this⟩
