/-! tally and settings are read; the loop of statements -/
section RS
variable {X : Sm} {L s d C A tl mk : Nat} {B : Nat → Nat} {f c v st : Nat → Nat}
theorem r_tly {s1 j : Nat} (h : TkC X L B s) (hD : DI X d C A f c v tl st 0) (w0 : wb L B s 7 = true) (e1 : nxt L B s = s1) (hj : j = 9 ∨ j = 10) (w1 : wb L B s1 j = true) : ∃ Z, fn_62 X = some (nI 1, Z) ∧ Fr (SD d) X Z ∧ TkC Z L B (nxt L B s1) ∧ DI Z d C A f c v (j - 8) st 32 := by
  generalize hX1 : sI X 3 0 2 (nI 32) = X1
  have F0 : Fr (SD d) X X1 := by rw [← hX1]; exact Fr.sI (Or.inl (by decide))
  have g0 : ∀ k i, k ≠ 3 → gI X1.1 k i = gI X.1 k i := fun k i hk => by rw [← hX1, gI_sIk hk]
  have t0 : TkC X1 L B s := h.cg (g0 1 0 (by omega)) (g0 2 0 (by omega)) (g0 4 0 (by omega))
  obtain ⟨Z1, g1, F1, t1⟩ := c_next t0
  rw [e1] at t1
  generalize hZ2 : sI Z1 5 d 7 (nI (j - 8)) = Z2
  have gk : ∀ k i, k ≠ 5 → gI Z2.1 k i = gI Z1.1 k i := fun k i hk => by rw [← hZ2, gI_sIk hk]
  have F2 : Fr (SD d) Z1 Z2 := by rw [← hZ2]; exact Fr.sI (SDm (by decide))
  have t2 : TkC Z2 L B s1 := t1.cg (gk 1 0 (by omega)) (gk 2 0 (by omega)) (gk 4 0 (by omega))
  obtain ⟨Z3, g3, F3, t3⟩ := c_next t2
  have z12 : Z1.2 2 = d := by rw [F1.1, ← hX1]; exact hD.1
  have gj : gJ Z2.1 = gJ Z1.1 := by rw [← hZ2]; rfl
  have gj0 : gJ X1.1 = gJ X.1 := by rw [← hX1]; rfl
  refine ⟨Z3, ?_, F0.tr (F1.d4.tr (F2.tr F3.d4)), t3, ?_⟩
  · have e67 : fn_67 X = some (nI 1, Z3) := by
      unfold fn_67
      rw [hD.2.1.2, if_pos (by decide), wr_t, show (nI 0 ||| nI 32) = nI 32 by decide, hX1, g1, bd_t, c_is t1 (by omega), wb_no (by omega) (by omega) w1 (by omega), bd_t, bI_0, cnd_f, c_is t1 (by omega)]
      rcases hj with rfl | rfl
      · rw [w1, bd_t, bI_0, cnd_t, wr_t, z12, hZ2, g3, bd_t]
      · rw [wb_no (by omega) (by omega) w1 (by omega), bd_t, bI_0, cnd_f, c_is t1 (by omega), w1, bd_t, bI_0, cnd_t, wr_t, z12, hZ2, g3, bd_t]
    unfold fn_62
    rw [c_is h (by omega), wb_no (by omega) (by omega) w0 (by omega), bd_t, bI_0, cnd_f]
    rw [c_is h (by omega), wb_no (by omega) (by omega) w0 (by omega), bd_t, bI_0, cnd_f]
    rw [c_is h (by omega), wb_no (by omega) (by omega) w0 (by omega), bd_t, bI_0, cnd_f]
    rw [c_is h (by omega), w0, bd_t, bI_0, cnd_t, e67, bd_t]
    rfl
  · refine DI.k4 ?_ F3
    obtain ⟨a1, a2, a3, a4, a5, a6, a7⟩ := hD
    have G : ∀ k i, k ≠ 3 → k ≠ 4 → k ≠ 5 → gI Z2.1 k i = gI X.1 k i := fun k i h3 h4 h5 => by rw [gk k i h5, (K4 F1 h4).1, g0 k i h3]
    have GJ : ∀ k i, k ≠ 4 → gJ Z2.1 k i = gJ X.1 k i := fun k i h4 => by rw [gj, (K4 F1 h4).2, gj0]
    refine ⟨by rw [F2.1]; exact z12, ⟨?_, ?_⟩, ?_, fun k hk => by rw [GJ 6 d (by omega), G 7 d (by omega) (by omega) (by omega)]; exact a4 k hk, fun a ha => by rw [GJ 8 d (by omega), G 9 d (by omega) (by omega) (by omega), G 10 d (by omega) (by omega) (by omega)]; exact a5 a ha, fun q hq => by rw [G 11 d (by omega) (by omega) (by omega)]; exact a6 q hq, by rw [G 12 d (by omega) (by omega) (by omega)]; exact a7⟩
    · rw [gk 3 0 (by omega), (K4 F1 (by omega)).1, ← hX1, gI_sIv, upd_ne (by omega)]; exact a2.1
    · rw [gk 3 0 (by omega), (K4 F1 (by omega)).1, ← hX1, gI_sIv, upd_at]
    · rw [← hZ2, gI_sIv, upd_ne (by omega), upd_ne (by omega), upd_at, (K4 F1 (by omega)).1, g0 5 d (by omega)]
      exact ⟨a3.1, a3.2.1, rfl⟩
/-- a setting -/
theorem r_set {s1 a lo hi mk' : Nat} (h : TkC X L B s) (hD : DI X d C A f c v tl st mk) (ha : a < 5) (hlo : lo ≤ nuV L B s1 ∧ nuV L B s1 ≤ hi ∧ hi ≤ 999) (hm : (nI mk &&& (nI 1 <<< (nI a &&& 31))) = nI 0 ∧ (nI mk ||| (nI 1 <<< (nI a &&& 31))) = nI mk') (e1 : nxt L B s = s1) (n1 : nub L B s1 = true) : ∃ Z, fn_68 (nI a) (nI lo) (nI hi) X = some (nI 1, Z) ∧ Fr (SD d) X Z ∧ TkC Z L B (nxt L B s1) ∧ DI Z d C A f c v tl (upn st a (nuV L B s1)) mk' := by
  generalize hX1 : sI X 3 0 2 (nI mk') = X1
  have F0 : Fr (SD d) X X1 := by rw [← hX1]; exact Fr.sI (Or.inl (by decide))
  have g0 : ∀ k i, k ≠ 3 → gI X1.1 k i = gI X.1 k i := fun k i hk => by rw [← hX1, gI_sIk hk]
  have t0 : TkC X1 L B s := h.cg (g0 1 0 (by omega)) (g0 2 0 (by omega)) (g0 4 0 (by omega))
  obtain ⟨Z1, g1, F1, t1⟩ := c_next t0
  rw [e1] at t1
  obtain ⟨Z2, g2, F2, t2⟩ := c_69s t1 n1 hlo.1 hlo.2.1 hlo.2.2
  generalize hx : nuV L B s1 = x at *
  generalize hZ3 : sI Z2 11 d a (nI x) = Z3
  have gk : ∀ k i, k ≠ 11 → gI Z3.1 k i = gI Z2.1 k i := fun k i hk => by rw [← hZ3, gI_sIk hk]
  have F3 : Fr (SD d) Z2 Z3 := by rw [← hZ3]; exact Fr.sI (SDm (by decide))
  have gj0 : gJ X1.1 = gJ X.1 := by rw [← hX1]; rfl
  have gj : gJ Z3.1 = gJ Z2.1 := by rw [← hZ3]; rfl
  have z22 : Z2.2 2 = d := by rw [F2.1, F1.1, ← hX1]; exact hD.1
  have e33 : gI Z2.1 3 0 3 = nI 0 := by rw [(K4 F2 (by omega)).1, (K4 F1 (by omega)).1, ← hX1, gI_sIv, upd_ne (by omega)]; exact hD.2.1.1
  have e33' : gI Z3.1 3 0 3 = nI 0 := by rw [gk 3 0 (by omega)]; exact e33
  have G : ∀ k i, k ≠ 3 → k ≠ 4 → k ≠ 11 → gI Z3.1 k i = gI X.1 k i := fun k i h3 h4 h5 => by rw [gk k i h5, (K4 F2 h4).1, (K4 F1 h4).1, g0 k i h3]
  have GJ : ∀ k i, k ≠ 4 → gJ Z3.1 k i = gJ X.1 k i := fun k i h4 => by rw [gj, (K4 F2 h4).2, (K4 F1 h4).2, gj0]
  obtain ⟨a1, a2, a3, a4, a5, a6, a7⟩ := hD
  refine ⟨Z3, ?_, F0.tr (F1.d4.tr (F2.d4.tr F3)), t2.cg (gk 1 0 (by omega)) (gk 2 0 (by omega)) (gk 4 0 (by omega)), by rw [F3.1]; exact z22, ⟨e33', ?_⟩, ?_, fun k hk => by rw [GJ 6 d (by omega), G 7 d (by omega) (by omega) (by omega)]; exact a4 k hk, fun a ha => by rw [GJ 8 d (by omega), G 9 d (by omega) (by omega) (by omega), G 10 d (by omega) (by omega) (by omega)]; exact a5 a ha, fun q hq => ?_, by rw [G 12 d (by omega) (by omega) (by omega)]; exact a7⟩
  · unfold fn_68
    rw [a2.2, hm.1, if_pos rfl, wr_t, hm.2, hX1, g1, bd_t, g2, bd_t, e33, if_pos rfl, iteI_lt_f (Nat.zero_le _) (by omega), iteI_le_f ha (by omega), ck_in ha (by omega), ix_nI (by omega), z22, wr_t, hZ3, e33', if_pos rfl]
  · rw [gk 3 0 (by omega), (K4 F2 (by omega)).1, (K4 F1 (by omega)).1, ← hX1, gI_sIv, upd_at]
  · rw [G 5 d (by omega) (by omega) (by omega)]; exact a3
  · rw [← hZ3, gI_sIv]
    by_cases cc : q = a
    · rw [cc, upd_at, upn_at]
    · rw [upd_ne cc, upn_ne cc, (K4 F2 (by omega)).1, (K4 F1 (by omega)).1, g0 11 d (by omega)]
      exact a6 q hq
theorem ck1 {Z : Sm} : (ck (bz (nI 1)) <| some (nI 1, Z)) = some (nI 1, Z) := rfl
theorem f62_11 {Z : Sm} (h : TkC X L B s) (w : wb L B s 11 = true) (e : fn_68 (nI 0) (nI 1) (nI 20) X = some (nI 1, Z)) : fn_62 X = some (nI 1, Z) := by
  unfold fn_62
  rw [c_is h (by omega), wb_no (by omega) (by omega) w (by omega), bd_t, bI_0, cnd_f]
  rw [c_is h (by omega), wb_no (by omega) (by omega) w (by omega), bd_t, bI_0, cnd_f]
  rw [c_is h (by omega), wb_no (by omega) (by omega) w (by omega), bd_t, bI_0, cnd_f]
  rw [c_is h (by omega), wb_no (by omega) (by omega) w (by omega), bd_t, bI_0, cnd_f]
  rw [c_is h (by omega), w, bd_t, bI_0, cnd_t, e, bd_t, ck1]
theorem f62_12 {Z : Sm} (h : TkC X L B s) (w : wb L B s 12 = true) (e : fn_68 (nI 1) (nI 1) (nI 50) X = some (nI 1, Z)) : fn_62 X = some (nI 1, Z) := by
  unfold fn_62
  rw [c_is h (by omega), wb_no (by omega) (by omega) w (by omega), bd_t, bI_0, cnd_f]
  rw [c_is h (by omega), wb_no (by omega) (by omega) w (by omega), bd_t, bI_0, cnd_f]
  rw [c_is h (by omega), wb_no (by omega) (by omega) w (by omega), bd_t, bI_0, cnd_f]
  rw [c_is h (by omega), wb_no (by omega) (by omega) w (by omega), bd_t, bI_0, cnd_f]
  rw [c_is h (by omega), wb_no (by omega) (by omega) w (by omega), bd_t, bI_0, cnd_f]
  rw [c_is h (by omega), w, bd_t, bI_0, cnd_t, e, bd_t, ck1]
theorem f62_13 {Z : Sm} (h : TkC X L B s) (w : wb L B s 13 = true) (e : fn_68 (nI 2) (nI 0) (nI 99) X = some (nI 1, Z)) : fn_62 X = some (nI 1, Z) := by
  unfold fn_62
  rw [c_is h (by omega), wb_no (by omega) (by omega) w (by omega), bd_t, bI_0, cnd_f]
  rw [c_is h (by omega), wb_no (by omega) (by omega) w (by omega), bd_t, bI_0, cnd_f]
  rw [c_is h (by omega), wb_no (by omega) (by omega) w (by omega), bd_t, bI_0, cnd_f]
  rw [c_is h (by omega), wb_no (by omega) (by omega) w (by omega), bd_t, bI_0, cnd_f]
  rw [c_is h (by omega), wb_no (by omega) (by omega) w (by omega), bd_t, bI_0, cnd_f]
  rw [c_is h (by omega), wb_no (by omega) (by omega) w (by omega), bd_t, bI_0, cnd_f]
  rw [c_is h (by omega), w, bd_t, bI_0, cnd_t, e, bd_t, ck1]
theorem f62_14 {Z : Sm} (h : TkC X L B s) (w : wb L B s 14 = true) (e : fn_68 (nI 3) (nI 0) (nI 99) X = some (nI 1, Z)) : fn_62 X = some (nI 1, Z) := by
  unfold fn_62
  rw [c_is h (by omega), wb_no (by omega) (by omega) w (by omega), bd_t, bI_0, cnd_f]
  rw [c_is h (by omega), wb_no (by omega) (by omega) w (by omega), bd_t, bI_0, cnd_f]
  rw [c_is h (by omega), wb_no (by omega) (by omega) w (by omega), bd_t, bI_0, cnd_f]
  rw [c_is h (by omega), wb_no (by omega) (by omega) w (by omega), bd_t, bI_0, cnd_f]
  rw [c_is h (by omega), wb_no (by omega) (by omega) w (by omega), bd_t, bI_0, cnd_f]
  rw [c_is h (by omega), wb_no (by omega) (by omega) w (by omega), bd_t, bI_0, cnd_f]
  rw [c_is h (by omega), wb_no (by omega) (by omega) w (by omega), bd_t, bI_0, cnd_f]
  rw [c_is h (by omega), w, bd_t, bI_0, cnd_t, e, bd_t, ck1]
theorem f62_15 {Z : Sm} (h : TkC X L B s) (w : wb L B s 15 = true) (e : fn_68 (nI 4) (nI 1) (nI 9) X = some (nI 1, Z)) : fn_62 X = some (nI 1, Z) := by
  unfold fn_62
  rw [c_is h (by omega), wb_no (by omega) (by omega) w (by omega), bd_t, bI_0, cnd_f]
  rw [c_is h (by omega), wb_no (by omega) (by omega) w (by omega), bd_t, bI_0, cnd_f]
  rw [c_is h (by omega), wb_no (by omega) (by omega) w (by omega), bd_t, bI_0, cnd_f]
  rw [c_is h (by omega), wb_no (by omega) (by omega) w (by omega), bd_t, bI_0, cnd_f]
  rw [c_is h (by omega), wb_no (by omega) (by omega) w (by omega), bd_t, bI_0, cnd_f]
  rw [c_is h (by omega), wb_no (by omega) (by omega) w (by omega), bd_t, bI_0, cnd_f]
  rw [c_is h (by omega), wb_no (by omega) (by omega) w (by omega), bd_t, bI_0, cnd_f]
  rw [c_is h (by omega), wb_no (by omega) (by omega) w (by omega), bd_t, bI_0, cnd_f]
  rw [c_is h (by omega), w, bd_t, bI_0, cnd_t, e, bd_t, ck1]
/-- one turn of the loop of statements -/
theorem L36_s {i j : Nat} {Z1 Z2 : Sm} (hi : i < 500) (h : TkC X L B s) (hw : wb L B s j = true) (e3 : gI X.1 3 0 3 = nI 0) (e62 : fn_62 X = some (nI 1, Z1)) (e61 : fn_61 Z1 = some (nI 1, Z2)) : fn_59_L36 (nI i) X = some (.inl (nI (i + 1), Z2)) := by
  have hk : kdS L B s = 1 := Nat.eq_of_beq_eq_true (Bool.and_eq_true_iff.mp hw).1
  unfold fn_59_L36
  rw [iteI_le_f hi (by omega), e3, if_pos rfl, h.2.2.1, hk, if_neg (by decide), e62, bd_t, if_neg (by decide), e61, bd_t, nI_add]
end RS
