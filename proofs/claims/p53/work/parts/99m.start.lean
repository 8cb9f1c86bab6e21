/-! the state of a bus that was just made -/
/-- the class's setup 1 holds the first kind and the first asker, all else of it is fresh -/
def StX (X : Sm) : Prop := (X.2 0 = 1 ∧ X.2 1 = 2) ∧ (gI X.1 5 1 0 = nI 1 ∧ gI X.1 5 1 3 = nI 1 ∧ gI X.1 5 1 7 = nI 0) ∧ (gJ X.1 6 1 0 = nL 97 ∧ gI X.1 7 1 0 = nI 0 ∧ gJ X.1 8 1 0 = nL 97 ∧ gI X.1 9 1 0 = nI 0 ∧ gI X.1 10 1 0 = nI 1) ∧ (∀ j, j < 5 → gI X.1 11 1 j = nI (stD j)) ∧ (gI X.1 12 1 1 = nI 0 ∧ gI X.1 12 1 2 = (-1 : Int32)) ∧ gI X.1 3 0 2 = nI 0 ∧ (gI X.1 0 0 3 = nI 0 ∧ gI X.1 0 0 4 = nI 0 ∧ gI X.1 0 0 5 = (-1 : Int32) ∧ gI X.1 0 0 11 = nI 0 ∧ gI X.1 1 0 1 = nI 0) ∧ gI X.1 37 0 1 = nI 0 ∧ gI X.1 37 0 2 = nI 0
theorem c_begin {X : Sm} (h : StX X) : ∃ T, fn_71 0 1 X = some ((), T) ∧ Fr (S2 0) (sG X 3 1) T := by
  obtain ⟨-, ⟨a1, a2, a3⟩, ⟨b1, b2, b3, b4, b5⟩, c1, ⟨d1, d2⟩, -⟩ := h
  have hR : Rw X 1 (1, 1, fun j => gI X.1 11 1 j, fun _ => nI 1) (fun q => if q = 8 then (-1 : Int32) else nI 0) 0 := by
    refine ⟨⟨⟨⟨a1, a2⟩, fun _ _ => rfl, fun a ha => ?_⟩, rfl, a3, rfl, rfl, rfl, rfl, rfl, rfl, rfl, rfl⟩, ⟨d1, d2⟩, fun k hk => ?_, fun a ha => ?_, fun a p ha hp => ?_, fun j hj => absurd hj (Nat.not_lt_zero _)⟩
    · obtain rfl : a = 0 := by have : a < 1 := ha; omega
      exact b5
    · obtain rfl : k = 0 := by have : k < 1 := hk; omega
      exact ⟨rfl, b2, rfl, rfl⟩
    · obtain rfl : a = 0 := by have : a < 1 := ha; omega
      exact ⟨b4, rfl, rfl, rfl, rfl, rfl⟩
    · obtain rfl : a = 0 := by have : a < 1 := ha; omega
      obtain rfl : p = 0 := by have : p < 1 := hp; omega
      rfl
  obtain ⟨Z, e, f, -⟩ := c_71 (by decide : 0 < 1 ∧ 1 ≤ 5 ∧ 0 < 1 ∧ 1 ≤ 8) (by omega) (by omega) hR
  exact ⟨Z, e, f⟩
