/-! the history: a state taken back -/
theorem c_15 {Y : Sm} {pos u q m : Nat} {P : Pm} {r : Nat → Int32} (h3 : 0 < P.1 ∧ P.1 ≤ 5 ∧ 0 < P.2.1 ∧ P.2.1 ≤ 8) (hp : pos < 8) (h1 : gI Y.1 37 0 1 = nI pos) (h2 : gI Y.1 37 0 2 = nI u) (hu : 1 ≤ u ∧ u ≤ 8) (hq : q ≤ 40) (hb : r 3 = nI 0 ∨ r 3 = nI 1) (h : CR Y (pos + 3) P r q m) : ∃ Z, fn_15 0 Y = some ((), Z) ∧ Fr (fun k i => S2 0 k i ∨ (k = 37 ∧ i = 0)) (sG Y (0 + 3) (Y.2 (pos + 3 + 3))) Z ∧ CR Z 0 P r q m ∧ gI Z.1 37 0 1 = nI ((pos + 7) % 8) ∧ gI Z.1 37 0 2 = nI (u - 1) := by
  obtain ⟨A, eA, fA, cA⟩ := c_72 (i0 := 0) (i1 := pos + 3) (by omega) h3 hq hb h
  have e37 : gI A.1 37 0 = gI Y.1 37 0 := (fA.gI (fun z => by
    unfold S2 at z
    simp only [List.mem_cons, List.mem_nil_iff, or_false] at z
    omega)).trans (by rw [gI_sG])
  have n37 : ∀ k i, CRk 0 k i → k ≠ 37 := fun k i hk z => by
    subst z
    unfold CRk S2 at hk
    simp only [List.mem_cons, List.mem_nil_iff, or_false] at hk
    omega
  have a1 : gI A.1 37 0 1 = nI pos := by rw [e37]; exact h1
  have a2 : gI A.1 37 0 2 = nI u := by rw [e37]; exact h2
  have key : ∀ t0, ∃ Z, sI (sI A 37 0 1 (nI t0)) 37 0 2 (nI (u - 1)) = Z ∧ Fr (fun k i => S2 0 k i ∨ (k = 37 ∧ i = 0)) (sG Y (0 + 3) (Y.2 (pos + 3 + 3))) Z ∧ CR Z 0 P r q m ∧ gI Z.1 37 0 1 = nI t0 ∧ gI Z.1 37 0 2 = nI (u - 1) := fun t0 => by
    refine ⟨_, rfl, (fA.up (fun k i z => Or.inl z)).tr ((Fr.sI (Or.inr ⟨rfl, rfl⟩)).tr (Fr.sI (Or.inr ⟨rfl, rfl⟩))), ?_, ?_, ?_⟩
    · exact cA.frk h3.2.2.2 rfl (fun k i hk => by rw [gI_sIk (n37 k i hk), gI_sIk (n37 k i hk)]) rfl
    · rw [gI_sIv, upd_ne (by omega), gI_sIv, upd_at]
    · rw [gI_sIv, upd_at]
  unfold fn_15
  rw [h2, iteI_le_f (by omega) (by omega), h1, ck_in (by omega) (by omega), ix_nI (by omega), eA, bd_t, a1]
  rcases Nat.lt_or_ge 0 pos with w | w
  · obtain ⟨Z, eZ, hZ⟩ := key (pos - 1)
    rw [iteI_le_f w (by omega), pk_sub (by omega), wr_t, gI_sIv, upd_ne (by omega), a2, pk_sub (by omega), wr_t, eZ, show (pos + 7) % 8 = pos - 1 by omega]
    exact ⟨Z, rfl, hZ⟩
  · obtain ⟨Z, eZ, hZ⟩ := key 7
    rw [iteI_le_t w (by omega), wr_t, gI_sIv, upd_ne (by omega), a2, pk_sub (by omega), wr_t, eZ, show (pos + 7) % 8 = 7 by omega]
    exact ⟨Z, rfl, hZ⟩

