/-! the reference's run -/
def RS (k i : Nat) : Prop := (k = 48 ∨ k = 52 ∨ k = 54 ∨ k = 57 ∨ k = 58) ∧ i = 0
theorem r_run {Y : Sm} {P : Pm} {t n m s tu ro k u : Nat} (hM : MP Y P) (hlo : gI Y.1 48 0 19 = (-1 : Int32)) (hS : SetI P tu ro) (hk : 1 ≤ k ∧ k ≤ 500) (ht : t + k < 2 ^ 31) (hu : u ≤ 8) (h17 : gI Y.1 48 0 17 = nI u) (h : GR P (gI Y.1 52 0) t n m s) : ∃ Z r' n' m', fn_211 (nI k) Y = some (nI m' - nI m, Z) ∧ TkN P tu ro t s k n m (gI Y.1 52 0) n' m' r' ∧ GR P r' (t + k) n' m' s ∧ gI Z.1 52 0 = r' ∧ Fr RS Y Z ∧ gI Z.1 48 0 0 = nI 0 ∧ (∀ x, x ≠ 0 → x ≠ 17 → gI Z.1 48 0 x = gI Y.1 48 0 x) ∧ gI Z.1 48 0 17 = nI (if u + 1 ≤ 8 then u + 1 else 8) ∧ ∀ j q, j < (if u + 1 ≤ 8 then u + 1 else 8) → q < 718 → gI Z.1 57 0 (718 * j + q) = if j + 1 = (if u + 1 ≤ 8 then u + 1 else 8) then gI Y.1 52 0 q else gI Y.1 57 0 (718 * (if u + 1 ≤ 8 then j else j + 1) + q) := by
  have hin : (inb (nI k) 501 && !decide (nI k = nI 0)) = true := by
    rw [inb_nI (by omega) (by omega), decide_eq_false (fun z => by
      have := (nI_eq (by omega) (by omega)).mp z
      omega)]
    rfl
  generalize hY1 : sI Y 48 0 0 (nI 0) = Y1
  have m48 : gI Y1.1 48 0 = upd (gI Y.1 48 0) 0 (nI 0) := by rw [← hY1, gI_sIv]
  have o1 : ∀ k, k ≠ 48 → gI Y1.1 k = gI Y.1 k := fun k hk => by rw [← hY1, gI_sIk hk]
  have f1 : Fr RS Y Y1 := by rw [← hY1]; exact Fr.sI ⟨Or.inl rfl, rfl⟩
  generalize hY2 : sF Y1 54 0 (cpy (gI Y1.1 52 0) (gI Y1.1 54 0)) = Y2
  have o2 : ∀ k, k ≠ 54 → gI Y2.1 k = gI Y1.1 k := fun k hk => by rw [← hY2, gI_sFk hk]
  have f2 : Fr RS Y1 Y2 := by rw [← hY2]; exact Fr.sF ⟨Or.inr (Or.inr (Or.inl rfl)), rfl⟩
  have e54 : gI Y2.1 54 0 = cpy (gI Y.1 52 0) (gI Y1.1 54 0) := by rw [← hY2, gI_sFs, o1 52 (by omega)]
  have e52 : gI Y2.1 52 0 = gI Y.1 52 0 := by rw [o2 52 (by omega), o1 52 (by omega)]
  have e48 : gI Y2.1 48 0 = upd (gI Y.1 48 0) 0 (nI 0) := by rw [o2 48 (by omega), m48]
  have hM2 : MP Y2 P := by
    obtain ⟨g1, g2, g3, g4, g5⟩ := hM
    unfold MP
    rw [e48, o2 49 (by omega), o1 49 (by omega), upd_ne (by omega), upd_ne (by omega)]
    exact ⟨g1, g2, g3, fun j hj => by rw [upd_ne (by omega)]; exact g4 j hj, g5⟩
  obtain ⟨f, r', n', m', e, hT, hG⟩ := r_goes (a2 := (-1 : Int32)) (l3 := nI m) (k := k) hM2 (by rw [e48, upd_ne (by omega)]; exact hlo) hS (by omega) ht (by rw [e52]; exact h)
  rw [e52] at hT
  generalize hY3 : sF (sF Y2 58 0 f) 52 0 r' = Y3 at e
  have o3 : ∀ k, k ≠ 58 → k ≠ 52 → gI Y3.1 k = gI Y2.1 k := fun k h1 h2 => by rw [← hY3, gI_sFk h2, gI_sFk h1]
  have x52 : gI Y3.1 52 0 = r' := by rw [← hY3, gI_sFs]
  have f3 : Fr RS Y2 Y3 := by rw [← hY3]; exact (Fr.sF ⟨Or.inr (Or.inr (Or.inr (Or.inr rfl))), rfl⟩).tr (Fr.sF ⟨Or.inr (Or.inl rfl), rfl⟩)
  obtain ⟨Z, eZ, fZ, z1, z2, z3⟩ := r_done (Y := Y3) (v := nI m' - nI m) hu (by rw [o3 48 (by omega) (by omega), e48, upd_ne (by omega)]; exact h17)
  have z52 : gI Z.1 52 0 = r' := (fZ.gI (fun z => by omega)).trans x52
  refine ⟨Z, r', n', m', ?_, hT, hG, z52, ((f1.tr f2).tr f3).tr (fZ.up (fun k i z => ⟨by omega, z.2⟩)), ?_, fun x hx hx2 => ?_, z2, fun j q hj hq => ?_⟩
  · unfold fn_211
    rw [r_areTicks, bd_t, hin]
    have e164 : fn_164 (bI true) Y = some (bI true, Y1) := by
      unfold fn_164
      rw [if_neg (by decide), wr_t, ck_t (bI_bz _), hY1]
    rw [e164, bd_t, if_neg (by decide), r_starts, bd_t, hY2]
    have e7 : gI Y2.1 52 0 7 = nI m := by rw [e52]; exact h.1.2.2.1
    have e207 : fn_207 (nI k) (-1 : Int32) Y2 = some (nI m' - nI m, Y3) := by
      unfold fn_207
      have e206 : ∀ W : Sm, fn_206 (-1 : Int32) W = some (gI W.1 52 0 7, W) := fun W => by
        unfold fn_206
        rw [if_pos rfl]
      rw [e206, bd_t, e7, e]
      simp only [exd_l]
      unfold fn_207_J25
      rw [e206, bd_t, x52, hG.1.2.2.1]
    rw [e207, bd_t, eZ, bd_t]
  · rw [z1 0 (by omega), o3 48 (by omega) (by omega), e48, upd_at]
  · rw [z1 x hx2, o3 48 (by omega) (by omega), e48, upd_ne hx]
  · rw [z3 j q hj hq, o3 54 (by omega) (by omega), o3 57 (by omega) (by omega), o2 57 (by omega), o1 57 (by omega), e54, cpy_lt hq]
