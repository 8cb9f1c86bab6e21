/-! the reference's undo, whole; what 'is' answers -/
theorem r_is1 (Y : Sm) : fn_164 (nI 1) Y = some (nI 1, sI Y 48 0 0 (nI 0)) := by
  unfold fn_164
  rw [if_neg (by decide), wr_t, ck_t (by decide)]
theorem r_is0 (Y : Sm) : fn_164 (nI 0) Y = some (nI 0, sI Y 48 0 0 (nI 1)) := by
  unfold fn_164
  rw [if_pos rfl, wr_t, ck_t (by decide)]
theorem r_undo0 {Y : Sm} (h : gI Y.1 48 0 17 = nI 0) : fn_173 Y = some (nI 0, sI Y 48 0 0 (nI 1)) := by
  unfold fn_173 fn_173_J13
  rw [h, iteI_le_t (Nat.le_refl _) (by omega), r_is0, bd_t, if_pos rfl]
theorem r_undo1 {Y : Sm} {u : Nat} (hu : 1 ≤ u ∧ u ≤ 8) (h : gI Y.1 48 0 17 = nI u) : fn_173 Y = some (nI (u - 1), sF (sI (sI Y 48 0 0 (nI 0)) 48 0 17 (nI (u - 1))) 52 0 (cpy (fun q => gI Y.1 57 0 (718 * (u - 1) + q)) (gI Y.1 52 0))) := by
  unfold fn_173 fn_173_J13
  have e17 : gI (sI Y 48 0 0 (nI 0)).1 48 0 17 = nI u := by rw [gI_sIv, upd_ne (by omega)]; exact h
  rw [h, iteI_le_f (by omega) (by omega), r_is1, bd_t, if_neg (by decide), e17, pk_sub (by omega), wr_t, r_undo (u := u - 1) (by omega) (by rw [gI_sIv, upd_at]), gI_sIk (by omega), gI_sIk (by omega), gI_sIk (by omega), gI_sIk (by omega)]
