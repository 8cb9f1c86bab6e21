/-! where reading begins -/
def stD (j : Nat) : Nat := ([3, 6, 10, 0, 3] : List Nat).getD j 0
theorem stD_b : ∀ j, j < 5 → stL j ≤ stD j ∧ stD j ≤ stH j := by decide
theorem p_ic {Y : Sm} {L d : Nat} {B : Nat → Nat} (h : Tx Y L B) : ∃ X, fn_59 d Y = (exd (lp (fun s => fn_59_L36 s.1 s.2) FU (nI 0, X)) fun s9 => fn_59_J78 s9) ∧ Fr (SD d) (sG Y 2 d) X ∧ TkC X L B (rn L B isBl 0) ∧ (gI X.1 3 0 2 = nI 0 ∧ gI X.1 3 0 3 = nI 0 ∧ gI X.1 3 0 4 = (-1 : Int32)) ∧ (gI X.1 5 d 0 = nI 0 ∧ gI X.1 5 d 3 = nI 0 ∧ gI X.1 5 d 7 = nI 0) ∧ (gI X.1 12 d 1 = nI 0 ∧ gI X.1 12 d 2 = (-1 : Int32)) ∧ ∀ j, j < 5 → gI X.1 11 d j = nI (stD j) := by
  have hL := h.1
  have e2 : (sG Y 2 d).2 2 = d := by rw [g_sG, ug_at]
  unfold fn_59
  rw [wr_t, e2]
  unfold fn_52 fn_34 fn_53
  rw [wr_t, wr_t, wr_t, wr_t, wr_t, bd_t, wr_t, wr_t, wr_t, wr_t, wr_t, bd_t, bd_t, wr_t, wr_t, wr_t]
  unfold fn_94
  rw [wr_t]
  generalize hX0 : sI (sI (sI (sI (sI (sI (sI (sI (sI (sI (sI (sI (sI (sI (sG Y 2 d) 5 d 0 (nI 0)) 5 d 3 (nI 0)) 5 d 7 (nI 0)) 12 d 1 (nI 0)) 12 d 2 (-1 : Int32)) 11 d 0 (nI 3)) 11 d 1 (nI 6)) 11 d 2 (nI 10)) 11 d 3 (nI 0)) 11 d 4 (nI 3)) 3 0 2 (nI 0)) 3 0 3 (nI 0)) 3 0 4 (-1 : Int32)) 4 0 3 (nI 0) = X0
  have m : ∀ k, k ∈ [5, 6, 7, 8, 9, 10, 11, 12, 14, 15, 16, 17, 18, 19] → SD d k d := fun k hk => SDm hk
  have m3 : SD d 3 0 := Or.inl (by decide)
  have m4 : SD d 4 0 := Or.inl (by decide)
  have f0 : Fr (SD d) (sG Y 2 d) X0 := by
    rw [← hX0]
    exact (((((((((((((Fr.sI (m 5 (by decide))).tr (Fr.sI (m 5 (by decide)))).tr (Fr.sI (m 5 (by decide)))).tr (Fr.sI (m 12 (by decide)))).tr (Fr.sI (m 12 (by decide)))).tr (Fr.sI (m 11 (by decide)))).tr (Fr.sI (m 11 (by decide)))).tr (Fr.sI (m 11 (by decide)))).tr (Fr.sI (m 11 (by decide)))).tr (Fr.sI (m 11 (by decide)))).tr (Fr.sI m3)).tr (Fr.sI m3)).tr (Fr.sI m3)).tr (Fr.sI m4)
  have n12 : ∀ k, k = 1 ∨ k = 2 → gI X0.1 k 0 = gI Y.1 k 0 := fun k hk => by
    rw [f0.gI (fun q => by
      unfold SD at q
      simp only [List.mem_cons, List.mem_nil_iff, or_false] at q
      omega), gI_sG]
  have hT : Tx X0 L B := h.cg (by rw [n12 1 (by omega)]) (n12 2 (by omega))
  have x3 : gI X0.1 3 0 2 = nI 0 ∧ gI X0.1 3 0 3 = nI 0 ∧ gI X0.1 3 0 4 = (-1 : Int32) := by
    rw [← hX0]
    simp (disch := omega) only [gI_sIk, gI_sIv, upd_ne, upd_at]
    exact ⟨trivial, trivial, trivial⟩
  have x5 : gI X0.1 5 d 0 = nI 0 ∧ gI X0.1 5 d 3 = nI 0 ∧ gI X0.1 5 d 7 = nI 0 := by
    rw [← hX0]
    simp (disch := omega) only [gI_sIk, gI_sIv, upd_ne, upd_at]
    exact ⟨trivial, trivial, trivial⟩
  have x12 : gI X0.1 12 d 1 = nI 0 ∧ gI X0.1 12 d 2 = (-1 : Int32) := by
    rw [← hX0]
    simp (disch := omega) only [gI_sIk, gI_sIv, upd_ne, upd_at]
    exact ⟨trivial, trivial⟩
  have x11 : ∀ j, j < 5 → gI X0.1 11 d j = nI (stD j) := fun j hj => by
    have hj' : j = 0 ∨ j = 1 ∨ j = 2 ∨ j = 3 ∨ j = 4 := by omega
    rw [← hX0]
    simp (disch := omega) only [gI_sIk, gI_sIv]
    rcases hj' with rfl | rfl | rfl | rfl | rfl <;> rfl
  have x4 : gI X0.1 4 0 3 = nI 0 := by rw [← hX0, gI_sIv, upd_at]
  obtain ⟨X, eX, fX, z1, z2, z3⟩ := c_95 hT (Nat.zero_le L) x4
  have g : ∀ k i, k ≠ 4 → gI X.1 k i = gI X0.1 k i := fun k i hk => fX.gI (fun q => by
    unfold KS at q
    simp only [List.mem_cons, List.mem_nil_iff, or_false] at q
    exact hk q)
  rw [eX, bd_t, bd_t]
  refine ⟨X, rfl, f0.tr fX.d4, ⟨hT.cg (by rw [g 1 0 (by omega)]) (g 2 0 (by omega)), rn_le (Nat.zero_le L), z1, z2, z3⟩, ?_, ?_, ?_, fun j hj => ?_⟩
  · rw [g 3 0 (by omega)]; exact x3
  · rw [g 5 d (by omega)]; exact x5
  · rw [g 12 d (by omega)]; exact x12
  · rw [g 11 d (by omega)]; exact x11 j hj
/-- what the reference's reading may change -/
def FrI (W Z : Sm) : Prop := Z.2 = W.2 ∧ (∀ k i, ¬ k ∈ [48, 53, 61, 62, 63, 64] → gI Z.1 k i = gI W.1 k i ∧ gJ Z.1 k i = gJ W.1 k i) ∧ ∀ x, x ≠ 0 → ¬ (23 ≤ x ∧ x ≤ 35) → gI Z.1 48 0 x = gI W.1 48 0 x
theorem FrI.tr {W X Z : Sm} (h : FrI W X) (h2 : FrI X Z) : FrI W Z := ⟨h2.1.trans h.1, fun k i hk => ⟨(h2.2.1 k i hk).1.trans (h.2.1 k i hk).1, (h2.2.1 k i hk).2.trans (h.2.1 k i hk).2⟩, fun x h0 hx => (h2.2.2 x h0 hx).trans (h.2.2 x h0 hx)⟩
theorem FrW.i {W Z : Sm} (h : FrW W Z) : FrI W Z := ⟨h.1, h.2.1, fun x _ hx => h.2.2 x (by omega)⟩
theorem FrI.s48 {W : Sm} {x : Nat} {v : Int32} (hx : x = 0 ∨ (23 ≤ x ∧ x ≤ 35)) : FrI W (sI W 48 0 x v) := ⟨rfl, fun k i hk => ⟨by rw [gI_sIk (fun q => hk (by rw [q]; decide))], rfl⟩, fun y h0 hy => by rw [gI_sIv, upd_ne (fun q => by rw [q] at h0 hy; omega)]⟩
theorem FrI.sk {W : Sm} {k i x : Nat} {v : Int32} (hk : k ∈ [53, 61, 62, 63, 64]) : FrI W (sI W k i x v) := (FrW.sk hk).i
theorem FrI.sf {W : Sm} {f : Nat → Int32} : FrI W (sF W 53 0 f) := ⟨rfl, fun k i hk => ⟨by rw [gI_sFk (fun q => hk (by rw [q]; decide))], rfl⟩, fun y h0 hy => by rw [gI_sFk (by omega)]⟩
