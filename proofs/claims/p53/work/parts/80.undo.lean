/-! undoing, saving, coming back -/
theorem S2_0ne {n k i : Nat} (h0 : n ≠ 0) (h : CRk n k i) : ¬ (S2 0 k i ∨ k = 37 ∨ k = 66) := by
  unfold CRk S2 at h
  unfold S2
  simp only [List.mem_cons, List.mem_nil_iff, or_false] at *
  omega
theorem S2_0k {k i : Nat} (h : k ∈ [0, 1, 2, 5, 6, 7, 8, 9, 10, 11, 20, 48, 49, 50, 51, 52, 56, 57, 60, 65, 68]) : ¬ (S2 0 k i ∨ k = 37 ∨ k = 66) := by
  unfold S2
  simp only [List.mem_cons, List.mem_nil_iff, or_false] at *
  omega
