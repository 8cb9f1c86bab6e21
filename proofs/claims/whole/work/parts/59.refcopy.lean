/-! the reference's copies and its undo -/
def cpy (r f : Nat → Int32) : Nat → Int32 := fun q => if q < 718 then r q else f q
theorem cpy_lt {r f : Nat → Int32} {q : Nat} (h : q < 718) : cpy r f q = r q := if_pos h
theorem r_cp52_54 (Y : Sm) : fn_170_52_54 Y = some ((), sF Y 54 0 (cpy (gI Y.1 52 0) (gI Y.1 54 0))) := by
  unfold fn_170_52_54
  refine lp_run (fun j => (nI j, sF Y 54 0 (fun q => if q < j then gI Y.1 52 0 q else gI Y.1 54 0 q))) 718 (FU_lt (by omega)) (fun j hj => ?_) ?_ ?_
  · simp only [fn_170_52_54_L2, gI_o (show 52 ≠ 54 by omega)]
    simp (disch := omega) only [ck_in, ix_nI, pk_mul, nI_add, pk_sub, iteI_le_t, iteI_le_f, iteI_lt_t, iteI_lt_f, iteI_eq_t, iteI_eq_f, bd_t, wr_t, ite_m1_f, ite_m1_t, ↓reduceIte]
    rw [sI_s]
    congr 4
    funext q
    by_cases c : q = j
    · subst c
      rw [upd_at, if_pos (by omega)]
    · rw [upd_ne c]
      by_cases d : q < j
      · rw [if_pos d, if_pos (by omega)]
      · rw [if_neg d, if_neg (by omega)]
  · simp only [fn_170_52_54_L2]
    simp (disch := omega) only [ck_in, ix_nI, pk_mul, nI_add, pk_sub, iteI_le_t, iteI_le_f, iteI_lt_t, iteI_lt_f, iteI_eq_t, iteI_eq_f, bd_t, wr_t, ite_m1_f, ite_m1_t, ↓reduceIte]
    rfl
  · show _ = (nI 0, sF Y 54 0 (fun q => if q < 0 then gI Y.1 52 0 q else gI Y.1 54 0 q))
    have : (fun q => if q < 0 then gI Y.1 52 0 q else gI Y.1 54 0 q) = gI Y.1 54 0 := by
      funext q
      rw [if_neg (by omega)]
    rw [this, sF_self]
theorem r_cp52_56 (Y : Sm) : fn_170_52_56 Y = some ((), sF Y 56 0 (cpy (gI Y.1 52 0) (gI Y.1 56 0))) := by
  unfold fn_170_52_56
  refine lp_run (fun j => (nI j, sF Y 56 0 (fun q => if q < j then gI Y.1 52 0 q else gI Y.1 56 0 q))) 718 (FU_lt (by omega)) (fun j hj => ?_) ?_ ?_
  · simp only [fn_170_52_56_L2, gI_o (show 52 ≠ 56 by omega)]
    simp (disch := omega) only [ck_in, ix_nI, pk_mul, nI_add, pk_sub, iteI_le_t, iteI_le_f, iteI_lt_t, iteI_lt_f, iteI_eq_t, iteI_eq_f, bd_t, wr_t, ite_m1_f, ite_m1_t, ↓reduceIte]
    rw [sI_s]
    congr 4
    funext q
    by_cases c : q = j
    · subst c
      rw [upd_at, if_pos (by omega)]
    · rw [upd_ne c]
      by_cases d : q < j
      · rw [if_pos d, if_pos (by omega)]
      · rw [if_neg d, if_neg (by omega)]
  · simp only [fn_170_52_56_L2]
    simp (disch := omega) only [ck_in, ix_nI, pk_mul, nI_add, pk_sub, iteI_le_t, iteI_le_f, iteI_lt_t, iteI_lt_f, iteI_eq_t, iteI_eq_f, bd_t, wr_t, ite_m1_f, ite_m1_t, ↓reduceIte]
    rfl
  · show _ = (nI 0, sF Y 56 0 (fun q => if q < 0 then gI Y.1 52 0 q else gI Y.1 56 0 q))
    have : (fun q => if q < 0 then gI Y.1 52 0 q else gI Y.1 56 0 q) = gI Y.1 56 0 := by
      funext q
      rw [if_neg (by omega)]
    rw [this, sF_self]
theorem r_cp56_52 (Y : Sm) : fn_170_56_52 Y = some ((), sF Y 52 0 (cpy (gI Y.1 56 0) (gI Y.1 52 0))) := by
  unfold fn_170_56_52
  refine lp_run (fun j => (nI j, sF Y 52 0 (fun q => if q < j then gI Y.1 56 0 q else gI Y.1 52 0 q))) 718 (FU_lt (by omega)) (fun j hj => ?_) ?_ ?_
  · simp only [fn_170_56_52_L2, gI_o (show 56 ≠ 52 by omega)]
    simp (disch := omega) only [ck_in, ix_nI, pk_mul, nI_add, pk_sub, iteI_le_t, iteI_le_f, iteI_lt_t, iteI_lt_f, iteI_eq_t, iteI_eq_f, bd_t, wr_t, ite_m1_f, ite_m1_t, ↓reduceIte]
    rw [sI_s]
    congr 4
    funext q
    by_cases c : q = j
    · subst c
      rw [upd_at, if_pos (by omega)]
    · rw [upd_ne c]
      by_cases d : q < j
      · rw [if_pos d, if_pos (by omega)]
      · rw [if_neg d, if_neg (by omega)]
  · simp only [fn_170_56_52_L2]
    simp (disch := omega) only [ck_in, ix_nI, pk_mul, nI_add, pk_sub, iteI_le_t, iteI_le_f, iteI_lt_t, iteI_lt_f, iteI_eq_t, iteI_eq_f, bd_t, wr_t, ite_m1_f, ite_m1_t, ↓reduceIte]
    rfl
  · show _ = (nI 0, sF Y 52 0 (fun q => if q < 0 then gI Y.1 56 0 q else gI Y.1 52 0 q))
    have : (fun q => if q < 0 then gI Y.1 56 0 q else gI Y.1 52 0 q) = gI Y.1 52 0 := by
      funext q
      rw [if_neg (by omega)]
    rw [this, sF_self]
theorem r_cp52_55 (Y : Sm) : fn_170_52_55 Y = some ((), sF Y 55 0 (cpy (gI Y.1 52 0) (gI Y.1 55 0))) := by
  unfold fn_170_52_55
  refine lp_run (fun j => (nI j, sF Y 55 0 (fun q => if q < j then gI Y.1 52 0 q else gI Y.1 55 0 q))) 718 (FU_lt (by omega)) (fun j hj => ?_) ?_ ?_
  · simp only [fn_170_52_55_L2, gI_o (show 52 ≠ 55 by omega)]
    simp (disch := omega) only [ck_in, ix_nI, pk_mul, nI_add, pk_sub, iteI_le_t, iteI_le_f, iteI_lt_t, iteI_lt_f, iteI_eq_t, iteI_eq_f, bd_t, wr_t, ite_m1_f, ite_m1_t, ↓reduceIte]
    rw [sI_s]
    congr 4
    funext q
    by_cases c : q = j
    · subst c
      rw [upd_at, if_pos (by omega)]
    · rw [upd_ne c]
      by_cases d : q < j
      · rw [if_pos d, if_pos (by omega)]
      · rw [if_neg d, if_neg (by omega)]
  · simp only [fn_170_52_55_L2]
    simp (disch := omega) only [ck_in, ix_nI, pk_mul, nI_add, pk_sub, iteI_le_t, iteI_le_f, iteI_lt_t, iteI_lt_f, iteI_eq_t, iteI_eq_f, bd_t, wr_t, ite_m1_f, ite_m1_t, ↓reduceIte]
    rfl
  · show _ = (nI 0, sF Y 55 0 (fun q => if q < 0 then gI Y.1 52 0 q else gI Y.1 55 0 q))
    have : (fun q => if q < 0 then gI Y.1 52 0 q else gI Y.1 55 0 q) = gI Y.1 55 0 := by
      funext q
      rw [if_neg (by omega)]
    rw [this, sF_self]
theorem r_cp55_52 (Y : Sm) : fn_170_55_52 Y = some ((), sF Y 52 0 (cpy (gI Y.1 55 0) (gI Y.1 52 0))) := by
  unfold fn_170_55_52
  refine lp_run (fun j => (nI j, sF Y 52 0 (fun q => if q < j then gI Y.1 55 0 q else gI Y.1 52 0 q))) 718 (FU_lt (by omega)) (fun j hj => ?_) ?_ ?_
  · simp only [fn_170_55_52_L2, gI_o (show 55 ≠ 52 by omega)]
    simp (disch := omega) only [ck_in, ix_nI, pk_mul, nI_add, pk_sub, iteI_le_t, iteI_le_f, iteI_lt_t, iteI_lt_f, iteI_eq_t, iteI_eq_f, bd_t, wr_t, ite_m1_f, ite_m1_t, ↓reduceIte]
    rw [sI_s]
    congr 4
    funext q
    by_cases c : q = j
    · subst c
      rw [upd_at, if_pos (by omega)]
    · rw [upd_ne c]
      by_cases d : q < j
      · rw [if_pos d, if_pos (by omega)]
      · rw [if_neg d, if_neg (by omega)]
  · simp only [fn_170_55_52_L2]
    simp (disch := omega) only [ck_in, ix_nI, pk_mul, nI_add, pk_sub, iteI_le_t, iteI_le_f, iteI_lt_t, iteI_lt_f, iteI_eq_t, iteI_eq_f, bd_t, wr_t, ite_m1_f, ite_m1_t, ↓reduceIte]
    rfl
  · show _ = (nI 0, sF Y 52 0 (fun q => if q < 0 then gI Y.1 55 0 q else gI Y.1 52 0 q))
    have : (fun q => if q < 0 then gI Y.1 55 0 q else gI Y.1 52 0 q) = gI Y.1 52 0 := by
      funext q
      rw [if_neg (by omega)]
    rw [this, sF_self]
theorem r_starts (Y : Sm) : fn_171 Y = some ((), sF Y 54 0 (cpy (gI Y.1 52 0) (gI Y.1 54 0))) := by
  unfold fn_171
  rw [r_cp52_54, bd_t]
theorem r_L52 {Y : Sm} {v : Int32} {u : Nat} (hu : u < 8) (h : gI Y.1 48 0 17 = nI u) : fn_172_J50 v Y = some (v, sI (sF Y 57 0 (fun q => if 718 * u ≤ q ∧ q < 718 * u + 718 then gI Y.1 54 0 (q - 718 * u) else gI Y.1 57 0 q)) 48 0 17 (nI (u + 1))) := by
  unfold fn_172_J50
  refine lp_run (fun j => (nI j, sF Y 57 0 (fun q => if 718 * u ≤ q ∧ q < 718 * u + j then gI Y.1 54 0 (q - 718 * u) else gI Y.1 57 0 q))) 718 (FU_lt (by omega)) (fun j hj => ?_) ?_ ?_
  · simp only [fn_172_L52, gI_o (show 48 ≠ 57 by omega), gI_o (show 54 ≠ 57 by omega), h]
    simp (disch := omega) only [ck_in, ix_nI, pk_mul, nI_add, pk_sub, iteI_le_t, iteI_le_f, iteI_lt_t, iteI_lt_f, iteI_eq_t, iteI_eq_f, bd_t, wr_t, ite_m1_f, ite_m1_t, ↓reduceIte]
    rw [sI_s]
    congr 4
    funext q
    by_cases c : q = 718 * u + j
    · subst c
      rw [upd_at, if_pos (by omega)]
      congr 1
      omega
    · rw [upd_ne c]
      by_cases d : 718 * u ≤ q ∧ q < 718 * u + j
      · rw [if_pos d, if_pos (by omega)]
      · rw [if_neg d, if_neg (by omega)]
  · simp only [fn_172_L52, gI_o (show 48 ≠ 57 by omega), h]
    simp (disch := omega) only [ck_in, ix_nI, pk_mul, nI_add, pk_sub, iteI_le_t, iteI_le_f, iteI_lt_t, iteI_lt_f, iteI_eq_t, iteI_eq_f, bd_t, wr_t, ite_m1_f, ite_m1_t, ↓reduceIte]
  · show _ = (nI 0, sF Y 57 0 (fun q => if 718 * u ≤ q ∧ q < 718 * u + 0 then gI Y.1 54 0 (q - 718 * u) else gI Y.1 57 0 q))
    have : (fun q => if 718 * u ≤ q ∧ q < 718 * u + 0 then gI Y.1 54 0 (q - 718 * u) else gI Y.1 57 0 q) = gI Y.1 57 0 := by
      funext q
      rw [if_neg (by omega)]
    rw [this, sF_self]
theorem r_L11 (Y : Sm) (v : Int32) : lp (fun s => fn_172_L11 v s.1 s.2) FU (nI 0, Y) = some (.inl (sF Y 57 0 (fun q => if q < 5026 then gI Y.1 57 0 (q + 718) else gI Y.1 57 0 q))) := by
  refine lp_run (fun j => (nI j, sF Y 57 0 (fun q => if q < j then gI Y.1 57 0 (q + 718) else gI Y.1 57 0 q))) 5026 (FU_lt (by omega)) (fun j hj => ?_) ?_ ?_
  · simp only [fn_172_L11, gI_sFs]
    have e : (if j + 718 < j then gI Y.1 57 0 (j + 718 + 718) else gI Y.1 57 0 (j + 718)) = gI Y.1 57 0 (j + 718) := if_neg (by omega)
    simp (disch := omega) only [ck_in, ix_nI, pk_mul, nI_add, pk_sub, iteI_le_t, iteI_le_f, iteI_lt_t, iteI_lt_f, iteI_eq_t, iteI_eq_f, bd_t, wr_t, ite_m1_f, ite_m1_t, ↓reduceIte, e]
    rw [sI_s]
    congr 4
    funext q
    by_cases c : q = j
    · subst c
      rw [upd_at, if_pos (by omega)]
    · rw [upd_ne c]
      by_cases d : q < j
      · rw [if_pos d, if_pos (by omega)]
      · rw [if_neg d, if_neg (by omega)]
  · simp only [fn_172_L11]
    simp (disch := omega) only [ck_in, ix_nI, pk_mul, nI_add, pk_sub, iteI_le_t, iteI_le_f, iteI_lt_t, iteI_lt_f, iteI_eq_t, iteI_eq_f, bd_t, wr_t, ite_m1_f, ite_m1_t, ↓reduceIte]
  · show _ = (nI 0, sF Y 57 0 (fun q => if q < 0 then gI Y.1 57 0 (q + 718) else gI Y.1 57 0 q))
    have : (fun q => if q < 0 then gI Y.1 57 0 (q + 718) else gI Y.1 57 0 q) = gI Y.1 57 0 := by
      funext q
      rw [if_neg (by omega)]
    rw [this, sF_self]
/-- what was kept becomes the last undo row -/
theorem r_done {Y : Sm} {v : Int32} {u : Nat} (hu : u ≤ 8) (h : gI Y.1 48 0 17 = nI u) : ∃ Z, fn_172 v Y = some (v, Z) ∧ Fr (fun k i => (k = 57 ∨ k = 48) ∧ i = 0) Y Z ∧ (∀ x, x ≠ 17 → gI Z.1 48 0 x = gI Y.1 48 0 x) ∧ gI Z.1 48 0 17 = nI (if u + 1 ≤ 8 then u + 1 else 8) ∧ ∀ j q, j < (if u + 1 ≤ 8 then u + 1 else 8) → q < 718 → gI Z.1 57 0 (718 * j + q) = if j + 1 = (if u + 1 ≤ 8 then u + 1 else 8) then gI Y.1 54 0 q else gI Y.1 57 0 (718 * (if u + 1 ≤ 8 then j else j + 1) + q) := by
  have m57 : (fun k i => (k = 57 ∨ k = 48) ∧ i = 0) 57 0 := ⟨Or.inl rfl, rfl⟩
  have m48 : (fun k i => (k = 57 ∨ k = 48) ∧ i = 0) 48 0 := ⟨Or.inr rfl, rfl⟩
  unfold fn_172
  rw [h]
  by_cases c : u = 8
  · subst c
    rw [iteI_eq_t rfl, r_L11]
    simp only [exd_l]
    unfold fn_172_J40
    rw [wr_t]
    have e17 : gI (sF Y 57 0 (fun q => if q < 5026 then gI Y.1 57 0 (q + 718) else gI Y.1 57 0 q)).1 48 0 17 = nI 8 := by rw [gI_sFk (by omega)]; exact h
    rw [e17, pk_sub (by omega)]
    refine ⟨_, r_L52 (u := 7) (by omega) (by rw [gI_sIv, upd_at]), (Fr.sF m57).tr ((Fr.sI m48).tr ((Fr.sF m57).tr (Fr.sI m48))), fun x hx => ?_, ?_, fun j q hj hq => ?_⟩
    · rw [gI_sIv, upd_ne hx, gI_sFk (by omega), gI_sIv, upd_ne hx, gI_sFk (by omega)]
    · rw [gI_sIv, upd_at]; rfl
    · rw [gI_sIk (by omega), gI_sFs]
      rw [if_neg (show ¬ 8 + 1 ≤ 8 by omega)] at hj ⊢
      rw [if_neg (show ¬ 8 + 1 ≤ 8 by omega)]
      by_cases d : j + 1 = 8
      · rw [if_pos (by omega), if_pos d, gI_sIk (by omega), gI_sFk (by omega), show 718 * j + q - 718 * 7 = q by omega]
      · rw [if_neg (by omega), if_neg d, gI_sIk (by omega), gI_sFs, if_pos (by omega), show 718 * j + q + 718 = 718 * (j + 1) + q by omega]
  · rw [iteI_eq_f c (by omega) (by omega)]
    refine ⟨_, r_L52 (by omega) h, (Fr.sF m57).tr (Fr.sI m48), fun x hx => ?_, ?_, fun j q hj hq => ?_⟩
    · rw [gI_sIv, upd_ne hx, gI_sFk (by omega)]
    · rw [gI_sIv, upd_at, if_pos (by omega)]
    · rw [gI_sIk (by omega), gI_sFs]
      rw [if_pos (show u + 1 ≤ 8 by omega)] at hj ⊢
      rw [if_pos (show u + 1 ≤ 8 by omega)]
      by_cases d : j + 1 = u + 1
      · rw [if_pos (by omega), if_pos d, show 718 * j + q - 718 * u = q by
          rw [show j = u by omega]
          omega]
      · rw [if_neg (by omega), if_neg d]
/-- undo: the last row comes back -/
theorem r_undo {Y : Sm} {u : Nat} (hu : u < 8) (h : gI Y.1 48 0 17 = nI u) : lp (fun s => fn_173_L33 s.1 s.2) FU (nI 0, Y) = some (nI u, sF Y 52 0 (cpy (fun q => gI Y.1 57 0 (718 * u + q)) (gI Y.1 52 0))) := by
  refine lp_run (fun j => (nI j, sF Y 52 0 (fun q => if q < j then gI Y.1 57 0 (718 * u + q) else gI Y.1 52 0 q))) 718 (FU_lt (by omega)) (fun j hj => ?_) ?_ ?_
  · simp only [fn_173_L33, gI_o (show 48 ≠ 52 by omega), gI_o (show 57 ≠ 52 by omega), h]
    simp (disch := omega) only [ck_in, ix_nI, pk_mul, nI_add, pk_sub, iteI_le_t, iteI_le_f, iteI_lt_t, iteI_lt_f, iteI_eq_t, iteI_eq_f, bd_t, wr_t, ite_m1_f, ite_m1_t, ↓reduceIte]
    rw [sI_s]
    congr 4
    funext q
    by_cases c : q = j
    · subst c
      rw [upd_at, if_pos (by omega)]
    · rw [upd_ne c]
      by_cases d : q < j
      · rw [if_pos d, if_pos (by omega)]
      · rw [if_neg d, if_neg (by omega)]
  · simp only [fn_173_L33, gI_o (show 48 ≠ 52 by omega), h]
    simp (disch := omega) only [ck_in, ix_nI, pk_mul, nI_add, pk_sub, iteI_le_t, iteI_le_f, iteI_lt_t, iteI_lt_f, iteI_eq_t, iteI_eq_f, bd_t, wr_t, ite_m1_f, ite_m1_t, ↓reduceIte]
    rfl
  · show _ = (nI 0, sF Y 52 0 (fun q => if q < 0 then gI Y.1 57 0 (718 * u + q) else gI Y.1 52 0 q))
    have : (fun q => if q < 0 then gI Y.1 57 0 (718 * u + q) else gI Y.1 52 0 q) = gI Y.1 52 0 := by
      funext q
      rw [if_neg (by omega)]
    rw [this, sF_self]
