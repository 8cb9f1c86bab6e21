/-! saving and coming back, both sides -/
theorem r_save (Y : Sm) : fn_174 Y = some (gI Y.1 52 0 0, sI (sF (sI Y 48 0 0 (nI 0)) 56 0 (cpy (gI Y.1 52 0) (gI Y.1 56 0))) 48 0 18 (nI 1)) := by
  unfold fn_174
  rw [wr_t, r_cp52_56, bd_t, wr_t, gI_sIk (by omega), gI_sIk (by omega), gI_sIk (by omega), gI_sFk (by omega), gI_sIk (by omega)]
theorem r_back0 {Y : Sm} (h : gI Y.1 48 0 18 = nI 0) : fn_175 Y = some (nI 0, sI Y 48 0 0 (nI 1)) := by
  unfold fn_175
  rw [h, r_is0, bd_t, if_pos rfl]
theorem r_back1 {Y : Sm} (h : gI Y.1 48 0 18 = nI 1) : fn_175 Y = some (gI Y.1 56 0 0, sI (sF (sI Y 48 0 0 (nI 0)) 52 0 (cpy (gI Y.1 56 0) (gI Y.1 52 0))) 48 0 17 (nI 0)) := by
  unfold fn_175
  rw [h, r_is1, bd_t, if_neg (by decide), r_cp56_52, bd_t, wr_t, gI_sIk (by omega), gI_sIk (by omega), gI_sIk (by omega), gI_sFs, cpy_lt (by omega)]
