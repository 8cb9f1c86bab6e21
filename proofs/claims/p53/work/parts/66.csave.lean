/-! saving, coming back, undoing: the class -/
theorem CRk_ne {n k i : Nat} (h : CRk n k i) : k ≠ 0 ∧ k ≠ 37 := by
  unfold CRk S2 at h
  simp only [List.mem_cons, List.mem_nil_iff, or_false] at h
  omega
theorem CR.s0 {Y : Sm} {n q m K j : Nat} {v : Int32} {P : Pm} {r : Nat → Int32} (hA : P.2.1 ≤ 8) (h : CR Y n P r q m) (hK : K = 0 ∨ K = 37) : CR (sI Y K 0 j v) n P r q m :=
  h.frk hA rfl (fun k i hk => by
    have := CRk_ne hk
    rw [gI_sIk (by omega)]) rfl
theorem c_save {Y : Sm} {q m : Nat} {P : Pm} {r : Nat → Int32} (h3 : 0 < P.1 ∧ P.1 ≤ 5 ∧ 0 < P.2.1 ∧ P.2.1 ≤ 8) (hq : q ≤ 40) (hb : r 3 = nI 0 ∨ r 3 = nI 1) (h : CR Y 0 P r q m) : ∃ A, fn_152 Y = some (r 0, sI A 0 0 11 (nI 1)) ∧ Fr (S2 2) (sG Y 5 (Y.2 3)) A ∧ CR (sI A 0 0 11 (nI 1)) 0 P r q m ∧ CR (sI A 0 0 11 (nI 1)) 2 P r q m := by
  obtain ⟨A, eA, fA, cA⟩ := c_72 (i0 := 2) (i1 := 0) (by omega) h3 hq hb h
  have c0 : CR A 0 P r q m := h.frC h3.2.2.2 (by omega) fA
  refine ⟨A, ?_, fA, c0.s0 h3.2.2.2 (Or.inl rfl), cA.s0 h3.2.2.2 (Or.inl rfl)⟩
  unfold fn_152
  rw [eA, bd_t, wr_t, gI_sIk (by omega), c0.a 0 (by omega)]
theorem c_back0 {Y : Sm} (h : gI Y.1 0 0 11 = nI 0) : fn_153 Y = some (.inr 2, Y) := by
  unfold fn_153
  rw [h, if_pos rfl]
theorem c_back1 {Y : Sm} {q m : Nat} {P : Pm} {r : Nat → Int32} (h3 : 0 < P.1 ∧ P.1 ≤ 5 ∧ 0 < P.2.1 ∧ P.2.1 ≤ 8) (hq : q ≤ 40) (hb : r 3 = nI 0 ∨ r 3 = nI 1) (h11 : gI Y.1 0 0 11 = nI 1) (h : CR Y 2 P r q m) : ∃ A, fn_153 Y = some (.inl (r 0), sI A 37 0 2 (nI 0)) ∧ Fr (S2 0) (sG Y 3 (Y.2 5)) A ∧ CR (sI A 37 0 2 (nI 0)) 0 P r q m ∧ CR (sI A 37 0 2 (nI 0)) 2 P r q m := by
  obtain ⟨A, eA, fA, cA⟩ := c_72 (i0 := 0) (i1 := 2) (by omega) h3 hq hb h
  have c2 : CR A 2 P r q m := h.frC h3.2.2.2 (by omega) fA
  refine ⟨A, ?_, fA, cA.s0 h3.2.2.2 (Or.inr rfl), c2.s0 h3.2.2.2 (Or.inr rfl)⟩
  unfold fn_153
  rw [h11, if_neg (by decide), eA, bd_t, wr_t, gI_sIk (by omega), cA.a 0 (by omega)]
theorem c_undo0 {Y : Sm} (h : gI Y.1 37 0 2 = nI 0) : fn_142 Y = some (.inr 2, Y) := by
  unfold fn_142
  rw [h, if_pos rfl]
theorem c_undo1 {Y : Sm} {pos u q m : Nat} {P : Pm} {r : Nat → Int32} (h3 : 0 < P.1 ∧ P.1 ≤ 5 ∧ 0 < P.2.1 ∧ P.2.1 ≤ 8) (hp : pos < 8) (h1 : gI Y.1 37 0 1 = nI pos) (h2 : gI Y.1 37 0 2 = nI u) (hu : 1 ≤ u ∧ u ≤ 8) (hq : q ≤ 40) (hb : r 3 = nI 0 ∨ r 3 = nI 1) (h : CR Y (pos + 3) P r q m) : ∃ Z, fn_142 Y = some (.inl (nI (u - 1)), Z) ∧ Fr (fun k i => S2 0 k i ∨ (k = 37 ∧ i = 0)) (sG Y (0 + 3) (Y.2 (pos + 3 + 3))) Z ∧ CR Z 0 P r q m ∧ gI Z.1 37 0 1 = nI ((pos + 7) % 8) ∧ gI Z.1 37 0 2 = nI (u - 1) := by
  obtain ⟨Z, eZ, fZ, cZ, z1, z2⟩ := c_15 h3 hp h1 h2 hu hq hb h
  refine ⟨Z, ?_, fZ, cZ, z1, z2⟩
  unfold fn_142
  rw [h2, iteI_eq_f (by omega) (by omega) (by omega), eZ, bd_t, z2]

