/-! the class's comparisons and its sort -/
theorem c_32 {Z : Sm} {P : Pm} {r : Nat → Int32} {lo : Int32} (hN : PN P r) (h : PoF Z P r lo) {k o : Nat} (hk : k < P.1) (ho : o < k) : fn_32 (nI k) (nI o) Z = some (bI (cond (Nat.ble P.1 (lexS P r lo k o)) (decide (k < o)) (decide (fstS P r lo o (lexS P r lo k o) < fstS P r lo k (lexS P r lo k o)))), Z) := by
  have h3 := hN.1
  have ho' : o < P.1 := by omega
  have e43 := h.1.2.2.2.1
  have e9 := h.1.1
  have ef : ∀ k p, sumN (fun a => hdS P r lo a && decide (bal r a p = nI k)) P.2.2.2 P.2.1 = fstS P r lo k p := fun _ _ => rfl
  unfold fn_32
  have e : lp (fun s => fn_32_L2 (nI k) (nI o) s.1 s.2) FU (nI 0, Z) = some ((fun j => cond (Nat.ble P.1 j) (Sum.inr (nI 0, Z)) (Sum.inl (nI j, Z))) (lexS P r lo k o)) := by
    refine lp_srch (fun p => !decide (fstS P r lo k p = fstS P r lo o p)) P.1 (fun j => cond (Nat.ble P.1 j) (Sum.inr (nI 0, Z)) (Sum.inl (nI j, Z))) (by omega) (fun j hj hp => ?_) (fun j hj hp => ?_) ?_
    · simp only [fn_32_L2, e9]
      simp (disch := omega) only [ck_in, ix_nI, pk_mul, nI_add, pk_sub, iteI_le_t, iteI_le_f, iteI_lt_t, iteI_lt_f, iteI_eq_t, iteI_eq_f, bd_t, wr_t, ite_m1_f, ite_m1_t, ↓reduceIte]
      rw [e43 k j hk hj, e43 o j ho' hj, ef, ef, if_pos (by
        have hp : (!decide (fstS P r lo k j = fstS P r lo o j)) = false := hp
        rw [Bool.not_eq_false'] at hp
        exact of_decide_eq_true hp)]
    · simp only [fn_32_L2, e9]
      simp (disch := omega) only [ck_in, ix_nI, pk_mul, nI_add, pk_sub, iteI_le_t, iteI_le_f, iteI_lt_t, iteI_lt_f, iteI_eq_t, iteI_eq_f, bd_t, wr_t, ite_m1_f, ite_m1_t, ↓reduceIte]
      rw [e43 k j hk hj, e43 o j ho' hj, ef, ef, if_neg (by
        have hp : (!decide (fstS P r lo k j = fstS P r lo o j)) = true := hp
        rw [Bool.not_eq_true'] at hp
        exact of_decide_eq_false hp), ble_f hj, cnd_f]
    · simp only [fn_32_L2, e9]
      simp (disch := omega) only [ck_in, ix_nI, pk_mul, nI_add, pk_sub, iteI_le_t, iteI_le_f, iteI_lt_t, iteI_lt_f, iteI_eq_t, iteI_eq_f, bd_t, wr_t, ite_m1_f, ite_m1_t, ↓reduceIte, nbl, cnd_t]
  rw [e]
  rcases Nat.lt_or_ge (lexS P r lo k o) P.1 with c | c
  · simp only [ble_f c, cnd_f, exd_l]
    unfold fn_32_J29
    simp (disch := omega) only [ck_in, ix_nI, pk_mul, nI_add, pk_sub, iteI_le_t, iteI_le_f, iteI_lt_t, iteI_lt_f, iteI_eq_t, iteI_eq_f, bd_t, wr_t, ite_m1_f, ite_m1_t, ↓reduceIte]
    rw [e43 k _ hk c, e43 o _ ho' c, ef, ef]
    by_cases d : fstS P r lo k (lexS P r lo k o) ≤ fstS P r lo o (lexS P r lo k o)
    · rw [if_pos d, decide_eq_false (Int32.not_lt.mpr d)]; rfl
    · rw [if_neg d, decide_eq_true (Int32.not_le.mp d)]; rfl
  · simp only [ble_t c, cnd_t, exd_r]
    rw [decide_eq_false (by omega)]
    rfl
theorem c_pts {Z : Sm} {P : Pm} {r : Nat → Int32} {lo : Int32} (hN : PN P r) (h : PoF Z P r lo) {k o : Nat} (hk : k < P.1) (ho : o < k) : fn_31_J53 (nI k) (nI o) Z = some (bI (if ptsS P r lo k = ptsS P r lo o then decide (k < o) else decide (ptsS P r lo o < ptsS P r lo k)), Z) := by
  have h3 := hN.1
  unfold fn_31_J53
  simp (disch := omega) only [ck_in, ix_nI, pk_mul, nI_add, pk_sub, iteI_le_t, iteI_le_f, iteI_lt_t, iteI_lt_f, iteI_eq_t, iteI_eq_f, bd_t, wr_t, ite_m1_f, ite_m1_t, ↓reduceIte]
  rw [h.pts hN hk, h.pts hN (by omega : o < P.1)]
  by_cases c : ptsS P r lo k = ptsS P r lo o
  · rw [if_pos (by rw [c]; exact Int32.le_refl _), if_pos c, decide_eq_false (by omega)]; rfl
  · rw [if_neg c]
    by_cases d : ptsS P r lo k ≤ ptsS P r lo o
    · rw [if_pos d, decide_eq_false (Int32.not_lt.mpr d)]; rfl
    · rw [if_neg d, decide_eq_true (Int32.not_le.mp d)]; rfl
theorem c_31 {Z : Sm} {P : Pm} {r : Nat → Int32} {lo t : Int32} (hN : PN P r) (h : PoF Z P r lo) {k o : Nat} (hk : k < P.1) (ho : o < k) : fn_31 (nI k) (nI o) t Z = some (bI (betS P r lo t k o), Z) := by
  have h3 := hN.1
  unfold fn_31 betS
  by_cases c1 : t = nI 1
  · rw [if_pos c1, if_pos c1, c_32 hN h hk ho, bd_t, ck_t (bI_bz _)]
  · rw [if_neg c1, if_neg c1]
    have w1 : winsS P r lo k ≤ P.1 := cntN_le _ _
    have w2 : winsS P r lo o ≤ P.1 := cntN_le _ _
    by_cases c2 : t = nI 2
    · rw [if_pos c2]
      simp (disch := omega) only [ck_in, ix_nI]
      rw [h.2 k hk, h.2 o (by omega)]
      by_cases c3 : winsS P r lo k = winsS P r lo o
      · rw [iteI_eq_t c3, if_neg (fun z => z.2 c3)]
        exact c_pts hN h hk ho
      · have hcc : t = nI 2 ∧ ¬ winsS P r lo k = winsS P r lo o := ⟨c2, c3⟩
        rw [iteI_eq_f c3 (by omega) (by omega), if_pos hcc]
        rcases Nat.lt_or_ge (winsS P r lo o) (winsS P r lo k) with d | d
        · rw [iteI_le_f d (by omega), decide_eq_true d]; rfl
        · rw [iteI_le_t d (by omega), decide_eq_false (by omega)]; rfl
    · rw [if_neg c2, if_neg (fun z => c2 z.1)]
      exact c_pts hN h hk ho
theorem PoF.fr {Z W : Sm} {P : Pm} {r : Nat → Int32} {lo : Int32} (h : PoF Z P r lo) {l : List Nat} (hF : Fr (KS l) Z W) (h1 : ¬ 39 ∈ l) (h2 : ¬ 40 ∈ l) (h3 : ¬ 41 ∈ l) (h4 : ¬ 43 ∈ l) (h5 : ¬ 45 ∈ l) : PoF W P r lo := by
  unfold PoF PoI at h ⊢
  have e43 : ∀ k, gI W.1 43 k = gI Z.1 43 k := fun k => hF.gI h4
  have e45 : ∀ k, gI W.1 45 k = gI Z.1 45 k := fun k => hF.gI h5
  rw [hF.gI (k := 39) (i := 0) h1, hF.gI (k := 40) (i := 0) h2, hF.gI (k := 41) (i := 0) h3]
  simp only [e43, e45]
  exact h
def SrR (Z : Sm) (K i : Nat) (P : Pm) (r : Nat → Int32) (lo t : Int32) (m : Nat) : Prop := ∃ row, Rkd (betS P r lo t) m row ∧ ∀ p, p < m → gI Z.1 K i p = nI (row p)

