/-! the reference's steps in general: kept, changed, put under undo -/
def UnR (Y Z : Sm) (u : Nat) : Prop := gI Z.1 48 0 17 = nI (if u + 1 ≤ 8 then u + 1 else 8) ∧ ∀ j q, j < (if u + 1 ≤ 8 then u + 1 else 8) → q < 718 → gI Z.1 57 0 (718 * j + q) = if j + 1 = (if u + 1 ≤ 8 then u + 1 else 8) then gI Y.1 52 0 q else gI Y.1 57 0 (718 * (if u + 1 ≤ 8 then j else j + 1) + q)
/-- starts, then a change W of the row alone, then done -/
theorem r_step {Y W : Sm} {v : Int32} {u : Nat} {r' : Nat → Int32} (hu : u ≤ 8) (h17 : gI Y.1 48 0 17 = nI u) (hW : W = sF (sF Y 54 0 (cpy (gI Y.1 52 0) (gI Y.1 54 0))) 52 0 r') : ∃ Z, fn_172 v W = some (v, Z) ∧ gI Z.1 52 0 = r' ∧ Fr RS Y Z ∧ (∀ x, x ≠ 17 → gI Z.1 48 0 x = gI Y.1 48 0 x) ∧ UnR Y Z u := by
  have w48 : gI W.1 48 0 = gI Y.1 48 0 := by rw [hW, gI_sFk (by omega), gI_sFk (by omega)]
  have w57 : gI W.1 57 0 = gI Y.1 57 0 := by rw [hW, gI_sFk (by omega), gI_sFk (by omega)]
  have w54 : gI W.1 54 0 = cpy (gI Y.1 52 0) (gI Y.1 54 0) := by rw [hW, gI_sFk (by omega), gI_sFs]
  have w52 : gI W.1 52 0 = r' := by rw [hW, gI_sFs]
  have fW : Fr RS Y W := by
    rw [hW]
    exact (Fr.sF ⟨Or.inr (Or.inr (Or.inl rfl)), rfl⟩).tr (Fr.sF ⟨Or.inr (Or.inl rfl), rfl⟩)
  obtain ⟨Z, eZ, fZ, z1, z2, z3⟩ := r_done (Y := W) (v := v) hu (by rw [w48]; exact h17)
  refine ⟨Z, eZ, (fZ.gI (fun z => by omega)).trans w52, fW.tr (fZ.up (fun k i z => ⟨by omega, z.2⟩)), fun x hx => by rw [z1 x hx, w48], z2, fun j q hj hq => ?_⟩
  rw [z3 j q hj hq, w54, w57, cpy_lt hq]
theorem r_puts {Y : Sm} {v : Int32} {u x : Nat} (hx : x < 718) (hu : u ≤ 8) (h17 : gI Y.1 48 0 17 = nI u) : ∃ Z, fn_223 (nI x) v Y = some (gI Y.1 52 0 x, Z) ∧ gI Z.1 52 0 = upd (gI Y.1 52 0) x v ∧ Fr RS Y Z ∧ (∀ x, x ≠ 17 → gI Z.1 48 0 x = gI Y.1 48 0 x) ∧ UnR Y Z u := by
  obtain ⟨Z, eZ, hZ⟩ := r_step (v := gI Y.1 52 0 x) (r' := upd (gI Y.1 52 0) x v) hu h17 rfl
  refine ⟨Z, ?_, hZ⟩
  unfold fn_223
  rw [r_starts, bd_t, ck_in hx (by omega), wr_t, ix_nI (by omega), sI_sF, gI_sFk (by omega), eZ, bd_t]
