/-! queries: votes -/
/-! the order that would be voted -/
theorem OutOK.uniq {P : Pm} {r f f' : Nat → Int32} {lo t : Int32} (h : OutOK P r lo t f) (h' : OutOK P r lo t f') {p : Nat} (hp : p < P.1) : f p = f' p := by
  cases ha : anyS P r lo with
  | true =>
    obtain ⟨row, hr⟩ := Rkd_ex (bet_sto P r lo t) P.1 (Nat.le_refl _)
    obtain ⟨c1, c2⟩ := hr p hp
    have x1 := h.1 ha (row p) c1
    have x2 := h'.1 ha (row p) c1
    unfold rkS at x1 x2
    rw [c2] at x1 x2
    rw [x1, x2]
  | false => rw [h.2 ha p hp, h'.2 ha p hp]
