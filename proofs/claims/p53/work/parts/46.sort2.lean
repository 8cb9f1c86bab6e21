/-! the class's sort, into its three targets (printed from one text) -/
def K1 (a b k i : Nat) : Prop := k = a ∧ i = b
theorem c_in22 {Z : Sm} {P : Pm} {r : Nat → Int32} {lo t : Int32} {n : Nat} (hn : n = n) (hN : PN P r) (h : PoF Z P r lo) {m : Nat} (hm : m < P.1) (hS : SrR Z 22 n P r lo t m) : ∃ W, lp (fun s => fn_30_39_22_L21_d1 t n (nI m) s.1 s.2) FU (nI m, Z) = some (.inl (nI (m + 1), W)) ∧ Fr (KS [22]) Z W ∧ Fr (K1 22 n) Z W ∧ SrR W 22 n P r lo t (m + 1) := by
  have h3 := hN.1
  obtain ⟨row, hr, hrow⟩ := hS
  have hst := bet_sto P r lo t
  have hq : rkN (betS P r lo t) m m ≤ m := cntN_le _ _
  have key := Ok_lp (F := fun s => fn_30_39_22_L21_d1 t n (nI m) s.1 s.2) (Q := fun x => ∃ W, x = .inl (nI (m + 1), W) ∧ Fr (KS [22]) Z W ∧ Fr (K1 22 n) Z W ∧ (∀ p, p < rkN (betS P r lo t) m m → gI W.1 22 n p = gI Z.1 22 n p) ∧ gI W.1 22 n (rkN (betS P r lo t) m m) = nI m ∧ ∀ p, rkN (betS P r lo t) m m ≤ p → p < m → gI W.1 22 n (p + 1) = gI Z.1 22 n p) (fun u s => s.1 = nI (m - u) ∧ Fr (KS [22]) Z s.2 ∧ Fr (K1 22 n) Z s.2 ∧ (∀ p, p ≤ m - u → gI s.2.1 22 n p = gI Z.1 22 n p) ∧ ∀ p, m - u ≤ p → p < m → gI s.2.1 22 n (p + 1) = gI Z.1 22 n p) (m - rkN (betS P r lo t) m m) (N := FU) (FU_lt (by omega)) (s := (nI m, Z)) ?_ ?_ ?_
  · obtain ⟨x, e, W, e2, hF, hO, h1, h2, h3⟩ := key
    refine ⟨W, by rw [e, e2], hF, hO, fun p => if p < rkN (betS P r lo t) m m then row p else (if p = rkN (betS P r lo t) m m then m else row (p - 1)), Rkd_step hst hm hr (fun p hp => if_pos hp) (by show (if rkN (betS P r lo t) m m < rkN (betS P r lo t) m m then _ else _) = m; rw [if_neg (Nat.lt_irrefl _), if_pos rfl]) (fun p hp hp2 => by
      show (if p + 1 < rkN (betS P r lo t) m m then _ else _) = row p
      rw [if_neg (by omega), if_neg (by omega)]
      rfl), fun p hp => ?_⟩
    show _ = nI (if p < rkN (betS P r lo t) m m then row p else (if p = rkN (betS P r lo t) m m then m else row (p - 1)))
    by_cases c : p < rkN (betS P r lo t) m m
    · rw [if_pos c, h1 p c, hrow p (by omega)]
    · rw [if_neg c]
      by_cases d : p = rkN (betS P r lo t) m m
      · rw [if_pos d, d, h2]
      · rw [if_neg d]
        obtain ⟨p, rfl⟩ : ∃ p', p = p' + 1 := ⟨p - 1, by omega⟩
        rw [h3 p (by omega) (by omega), hrow p (by omega)]
        rfl
  · rintro u ⟨l, W⟩ hu ⟨e, hF, hO, h1, h2⟩
    have e : l = nI (m - u) := e
    subst e
    have hF : Fr (KS [22]) Z W := hF
    have h1 : ∀ p, p ≤ m - u → gI W.1 22 n p = gI Z.1 22 n p := h1
    have h2 : ∀ p, m - u ≤ p → p < m → gI W.1 22 n (p + 1) = gI Z.1 22 n p := h2
    have hP := h.fr hF (by decide) (by decide) (by decide) (by decide) (by decide)
    have e1 : gI W.1 22 n (m - u - 1) = nI (row (m - u - 1)) := (h1 _ (by omega)).trans (hrow _ (by omega))
    have hlt := (hr (m - u - 1) (by omega)).1
    have hb := Rkd_ge hst hm hr (p := m - u - 1) (by omega) (by omega)
    refine ⟨.inl (nI (m - (u + 1)), sI W 22 n (m - u) (nI (row (m - u - 1)))), ?_, rfl, hF.tr (Fr.sI (by unfold KS; decide)), hO.tr (Fr.sI ⟨rfl, rfl⟩), fun p hp => ?_, fun p hp hp2 => ?_⟩
    · simp only [fn_30_39_22_L21_d1]
      simp (disch := omega) only [ck_in, ix_nI, pk_mul, nI_add, pk_sub, iteI_le_t, iteI_le_f, iteI_lt_t, iteI_lt_f, iteI_eq_t, iteI_eq_f, bd_t, wr_t, ite_m1_f, ite_m1_t, ↓reduceIte, e1]
      rw [c_31 hN hP hm hlt, hb, bd_t, if_neg (by decide), e1]
      rw [show (nI (m - u) + (-1 : Int32)) = nI (m - (u + 1)) by rw [show (-1 : Int32) = - nI 1 from rfl, ← Int32.sub_eq_add_neg, pk_sub (by omega), show m - u - 1 = m - (u + 1) by omega]]
    · show gI (sI W 22 n (m - u) _).1 22 n p = _
      rw [gI_sIv, upd_ne (by omega)]; exact h1 p (by omega)
    · show gI (sI W 22 n (m - u) _).1 22 n (p + 1) = _
      rw [gI_sIv]
      by_cases c : p = m - (u + 1)
      · rw [show p + 1 = m - u by omega, upd_at, show p = m - u - 1 by omega, hrow _ (by omega)]
      · rw [upd_ne (by omega)]; exact h2 p (by omega) hp2
  · rintro ⟨l, W⟩ ⟨e, hF, hO, h1, h2⟩
    have e : l = nI (m - (m - rkN (betS P r lo t) m m)) := e
    rw [show m - (m - rkN (betS P r lo t) m m) = rkN (betS P r lo t) m m by omega] at e
    subst e
    have hF : Fr (KS [22]) Z W := hF
    have h1 : ∀ p, p ≤ m - (m - rkN (betS P r lo t) m m) → gI W.1 22 n p = gI Z.1 22 n p := h1
    have h2 : ∀ p, m - (m - rkN (betS P r lo t) m m) ≤ p → p < m → gI W.1 22 n (p + 1) = gI Z.1 22 n p := h2
    rw [show m - (m - rkN (betS P r lo t) m m) = rkN (betS P r lo t) m m by omega] at h1 h2
    have hP := h.fr hF (by decide) (by decide) (by decide) (by decide) (by decide)
    refine ⟨.inr (.inl (nI (m + 1), sI W 22 n (rkN (betS P r lo t) m m) (nI m))), ?_, _, rfl, hF.tr (Fr.sI (by unfold KS; decide)), hO.tr (Fr.sI ⟨rfl, rfl⟩), fun p hp => ?_, ?_, fun p hp hp2 => ?_⟩
    · simp only [fn_30_39_22_L21_d1]
      rcases Nat.eq_zero_or_pos (rkN (betS P r lo t) m m) with c | c
      · rw [c]
        simp (disch := omega) only [ck_in, ix_nI, pk_mul, nI_add, pk_sub, iteI_le_t, iteI_le_f, iteI_lt_t, iteI_lt_f, iteI_eq_t, iteI_eq_f, bd_t, wr_t, ite_m1_f, ite_m1_t, ↓reduceIte]
      · have e1 : gI W.1 22 n (rkN (betS P r lo t) m m - 1) = nI (row (rkN (betS P r lo t) m m - 1)) := (h1 _ (by omega)).trans (hrow _ (by omega))
        have hlt := (hr (rkN (betS P r lo t) m m - 1) (by omega)).1
        have hb := Rkd_lt hst hm hr (p := rkN (betS P r lo t) m m - 1) (by omega) (by omega)
        simp (disch := omega) only [ck_in, ix_nI, pk_mul, nI_add, pk_sub, iteI_le_t, iteI_le_f, iteI_lt_t, iteI_lt_f, iteI_eq_t, iteI_eq_f, bd_t, wr_t, ite_m1_f, ite_m1_t, ↓reduceIte, e1]
        rw [c_31 hN hP hm hlt, hb, bd_t, if_pos (by decide)]
    · rw [gI_sIv, upd_ne (by omega)]; exact h1 p (by omega)
    · rw [gI_sIv, upd_at]
    · rw [gI_sIv, upd_ne (by omega)]; exact h2 p hp hp2
  · exact ⟨rfl, Fr.rf, Fr.rf, fun p hp => rfl, fun p hp hp2 => by omega⟩
theorem c_30_22 {Y : Sm} {P : Pm} {r : Nat → Int32} {lo t : Int32} {n : Nat} (hn : n = n) (hN : PN P r) (h : PoF Y P r lo) : ∃ W, fn_30_39_22 t n Y = some ((), W) ∧ Fr (KS [22]) Y W ∧ Fr (K1 22 n) Y W ∧ (anyS P r lo = true → ∀ k, k < P.1 → gI W.1 22 n (rkS P r lo t k) = nI k) ∧ (anyS P r lo = false → W = Y) := by
  have h3 := hN.1
  unfold fn_30_39_22
  cases ha : anyS P r lo with
  | false =>
    rw [if_pos ((h.any hN).mpr ha)]
    exact ⟨Y, rfl, Fr.rf, Fr.rf, fun q => (by cases q), fun _ => rfl⟩
  | true =>
    rw [if_neg (fun z => by rw [(h.any hN).mp z] at ha; cases ha)]
    have key := Ok_lp (F := fun s => fn_30_39_22_L10 t n s.1 s.2) (Q := fun x => ∃ W, x = ((), W) ∧ Fr (KS [22]) Y W ∧ Fr (K1 22 n) Y W ∧ SrR W 22 n P r lo t P.1) (fun u s => s.1 = nI u ∧ Fr (KS [22]) Y s.2 ∧ Fr (K1 22 n) Y s.2 ∧ SrR s.2 22 n P r lo t u) P.1 (N := FU) (FU_lt (by omega)) (s := (nI 0, Y)) ?_ ?_ ?_
    · obtain ⟨x, e, W, e2, hF, hO, row, hr, h1⟩ := key
      refine ⟨W, by rw [e, e2], hF, hO, fun _ k hk => ?_, fun q => (by cases q)⟩
      have hl : rkS P r lo t k < P.1 := rkS_lt P r lo t hk
      obtain ⟨a1, a2⟩ := hr _ hl
      rw [h1 _ hl]
      congr 1
      exact rkN_inj (bet_sto P r lo t) a1 hk a2
    · rintro u ⟨l, W⟩ hu ⟨e, hF, hO, hS⟩
      have e : l = nI u := e
      subst e
      have hF : Fr (KS [22]) Y W := hF
      have hP := h.fr hF (by decide) (by decide) (by decide) (by decide) (by decide)
      obtain ⟨V, eV, hV, hVO, hVS⟩ := c_in22 (n := n) rfl hN hP hu hS
      refine ⟨.inl (nI (u + 1), V), ?_, rfl, hF.tr hV, hO.tr hVO, hVS⟩
      simp only [fn_30_39_22_L10, hP.1.1]
      simp (disch := omega) only [ck_in, ix_nI, pk_mul, nI_add, pk_sub, iteI_le_t, iteI_le_f, iteI_lt_t, iteI_lt_f, iteI_eq_t, iteI_eq_f, bd_t, wr_t, ite_m1_f, ite_m1_t, ↓reduceIte]
      exact eV
    · rintro ⟨l, W⟩ ⟨e, hF, hO, hS⟩
      have e : l = nI P.1 := e
      subst e
      have hF : Fr (KS [22]) Y W := hF
      have hP := h.fr hF (by decide) (by decide) (by decide) (by decide) (by decide)
      refine ⟨.inr ((), W), ?_, W, rfl, hF, hO, hS⟩
      simp only [fn_30_39_22_L10, hP.1.1]
      simp (disch := omega) only [ck_in, ix_nI, pk_mul, nI_add, pk_sub, iteI_le_t, iteI_le_f, iteI_lt_t, iteI_lt_f, iteI_eq_t, iteI_eq_f, bd_t, wr_t, ite_m1_f, ite_m1_t, ↓reduceIte]
    · exact ⟨rfl, Fr.rf, Fr.rf, fun _ => 0, fun p hp => by omega, fun p hp => by omega⟩
theorem c_in46 {Z : Sm} {P : Pm} {r : Nat → Int32} {lo t : Int32} {n : Nat} (hn : n = n) (hN : PN P r) (h : PoF Z P r lo) {m : Nat} (hm : m < P.1) (hS : SrR Z 46 0 P r lo t m) : ∃ W, lp (fun s => fn_30_39_46_L21_d1 t (nI m) s.1 s.2) FU (nI m, Z) = some (.inl (nI (m + 1), W)) ∧ Fr (KS [46]) Z W ∧ Fr (K1 46 0) Z W ∧ SrR W 46 0 P r lo t (m + 1) := by
  have h3 := hN.1
  obtain ⟨row, hr, hrow⟩ := hS
  have hst := bet_sto P r lo t
  have hq : rkN (betS P r lo t) m m ≤ m := cntN_le _ _
  have key := Ok_lp (F := fun s => fn_30_39_46_L21_d1 t (nI m) s.1 s.2) (Q := fun x => ∃ W, x = .inl (nI (m + 1), W) ∧ Fr (KS [46]) Z W ∧ Fr (K1 46 0) Z W ∧ (∀ p, p < rkN (betS P r lo t) m m → gI W.1 46 0 p = gI Z.1 46 0 p) ∧ gI W.1 46 0 (rkN (betS P r lo t) m m) = nI m ∧ ∀ p, rkN (betS P r lo t) m m ≤ p → p < m → gI W.1 46 0 (p + 1) = gI Z.1 46 0 p) (fun u s => s.1 = nI (m - u) ∧ Fr (KS [46]) Z s.2 ∧ Fr (K1 46 0) Z s.2 ∧ (∀ p, p ≤ m - u → gI s.2.1 46 0 p = gI Z.1 46 0 p) ∧ ∀ p, m - u ≤ p → p < m → gI s.2.1 46 0 (p + 1) = gI Z.1 46 0 p) (m - rkN (betS P r lo t) m m) (N := FU) (FU_lt (by omega)) (s := (nI m, Z)) ?_ ?_ ?_
  · obtain ⟨x, e, W, e2, hF, hO, h1, h2, h3⟩ := key
    refine ⟨W, by rw [e, e2], hF, hO, fun p => if p < rkN (betS P r lo t) m m then row p else (if p = rkN (betS P r lo t) m m then m else row (p - 1)), Rkd_step hst hm hr (fun p hp => if_pos hp) (by show (if rkN (betS P r lo t) m m < rkN (betS P r lo t) m m then _ else _) = m; rw [if_neg (Nat.lt_irrefl _), if_pos rfl]) (fun p hp hp2 => by
      show (if p + 1 < rkN (betS P r lo t) m m then _ else _) = row p
      rw [if_neg (by omega), if_neg (by omega)]
      rfl), fun p hp => ?_⟩
    show _ = nI (if p < rkN (betS P r lo t) m m then row p else (if p = rkN (betS P r lo t) m m then m else row (p - 1)))
    by_cases c : p < rkN (betS P r lo t) m m
    · rw [if_pos c, h1 p c, hrow p (by omega)]
    · rw [if_neg c]
      by_cases d : p = rkN (betS P r lo t) m m
      · rw [if_pos d, d, h2]
      · rw [if_neg d]
        obtain ⟨p, rfl⟩ : ∃ p', p = p' + 1 := ⟨p - 1, by omega⟩
        rw [h3 p (by omega) (by omega), hrow p (by omega)]
        rfl
  · rintro u ⟨l, W⟩ hu ⟨e, hF, hO, h1, h2⟩
    have e : l = nI (m - u) := e
    subst e
    have hF : Fr (KS [46]) Z W := hF
    have h1 : ∀ p, p ≤ m - u → gI W.1 46 0 p = gI Z.1 46 0 p := h1
    have h2 : ∀ p, m - u ≤ p → p < m → gI W.1 46 0 (p + 1) = gI Z.1 46 0 p := h2
    have hP := h.fr hF (by decide) (by decide) (by decide) (by decide) (by decide)
    have e1 : gI W.1 46 0 (m - u - 1) = nI (row (m - u - 1)) := (h1 _ (by omega)).trans (hrow _ (by omega))
    have hlt := (hr (m - u - 1) (by omega)).1
    have hb := Rkd_ge hst hm hr (p := m - u - 1) (by omega) (by omega)
    refine ⟨.inl (nI (m - (u + 1)), sI W 46 0 (m - u) (nI (row (m - u - 1)))), ?_, rfl, hF.tr (Fr.sI (by unfold KS; decide)), hO.tr (Fr.sI ⟨rfl, rfl⟩), fun p hp => ?_, fun p hp hp2 => ?_⟩
    · simp only [fn_30_39_46_L21_d1]
      simp (disch := omega) only [ck_in, ix_nI, pk_mul, nI_add, pk_sub, iteI_le_t, iteI_le_f, iteI_lt_t, iteI_lt_f, iteI_eq_t, iteI_eq_f, bd_t, wr_t, ite_m1_f, ite_m1_t, ↓reduceIte, e1]
      rw [c_31 hN hP hm hlt, hb, bd_t, if_neg (by decide), e1]
      rw [show (nI (m - u) + (-1 : Int32)) = nI (m - (u + 1)) by rw [show (-1 : Int32) = - nI 1 from rfl, ← Int32.sub_eq_add_neg, pk_sub (by omega), show m - u - 1 = m - (u + 1) by omega]]
    · show gI (sI W 46 0 (m - u) _).1 46 0 p = _
      rw [gI_sIv, upd_ne (by omega)]; exact h1 p (by omega)
    · show gI (sI W 46 0 (m - u) _).1 46 0 (p + 1) = _
      rw [gI_sIv]
      by_cases c : p = m - (u + 1)
      · rw [show p + 1 = m - u by omega, upd_at, show p = m - u - 1 by omega, hrow _ (by omega)]
      · rw [upd_ne (by omega)]; exact h2 p (by omega) hp2
  · rintro ⟨l, W⟩ ⟨e, hF, hO, h1, h2⟩
    have e : l = nI (m - (m - rkN (betS P r lo t) m m)) := e
    rw [show m - (m - rkN (betS P r lo t) m m) = rkN (betS P r lo t) m m by omega] at e
    subst e
    have hF : Fr (KS [46]) Z W := hF
    have h1 : ∀ p, p ≤ m - (m - rkN (betS P r lo t) m m) → gI W.1 46 0 p = gI Z.1 46 0 p := h1
    have h2 : ∀ p, m - (m - rkN (betS P r lo t) m m) ≤ p → p < m → gI W.1 46 0 (p + 1) = gI Z.1 46 0 p := h2
    rw [show m - (m - rkN (betS P r lo t) m m) = rkN (betS P r lo t) m m by omega] at h1 h2
    have hP := h.fr hF (by decide) (by decide) (by decide) (by decide) (by decide)
    refine ⟨.inr (.inl (nI (m + 1), sI W 46 0 (rkN (betS P r lo t) m m) (nI m))), ?_, _, rfl, hF.tr (Fr.sI (by unfold KS; decide)), hO.tr (Fr.sI ⟨rfl, rfl⟩), fun p hp => ?_, ?_, fun p hp hp2 => ?_⟩
    · simp only [fn_30_39_46_L21_d1]
      rcases Nat.eq_zero_or_pos (rkN (betS P r lo t) m m) with c | c
      · rw [c]
        simp (disch := omega) only [ck_in, ix_nI, pk_mul, nI_add, pk_sub, iteI_le_t, iteI_le_f, iteI_lt_t, iteI_lt_f, iteI_eq_t, iteI_eq_f, bd_t, wr_t, ite_m1_f, ite_m1_t, ↓reduceIte]
      · have e1 : gI W.1 46 0 (rkN (betS P r lo t) m m - 1) = nI (row (rkN (betS P r lo t) m m - 1)) := (h1 _ (by omega)).trans (hrow _ (by omega))
        have hlt := (hr (rkN (betS P r lo t) m m - 1) (by omega)).1
        have hb := Rkd_lt hst hm hr (p := rkN (betS P r lo t) m m - 1) (by omega) (by omega)
        simp (disch := omega) only [ck_in, ix_nI, pk_mul, nI_add, pk_sub, iteI_le_t, iteI_le_f, iteI_lt_t, iteI_lt_f, iteI_eq_t, iteI_eq_f, bd_t, wr_t, ite_m1_f, ite_m1_t, ↓reduceIte, e1]
        rw [c_31 hN hP hm hlt, hb, bd_t, if_pos (by decide)]
    · rw [gI_sIv, upd_ne (by omega)]; exact h1 p (by omega)
    · rw [gI_sIv, upd_at]
    · rw [gI_sIv, upd_ne (by omega)]; exact h2 p hp hp2
  · exact ⟨rfl, Fr.rf, Fr.rf, fun p hp => rfl, fun p hp hp2 => by omega⟩
theorem c_30_46 {Y : Sm} {P : Pm} {r : Nat → Int32} {lo t : Int32} {n : Nat} (hn : n = n) (hN : PN P r) (h : PoF Y P r lo) : ∃ W, fn_30_39_46 t Y = some ((), W) ∧ Fr (KS [46]) Y W ∧ Fr (K1 46 0) Y W ∧ (anyS P r lo = true → ∀ k, k < P.1 → gI W.1 46 0 (rkS P r lo t k) = nI k) ∧ (anyS P r lo = false → W = Y) := by
  have h3 := hN.1
  unfold fn_30_39_46
  cases ha : anyS P r lo with
  | false =>
    rw [if_pos ((h.any hN).mpr ha)]
    exact ⟨Y, rfl, Fr.rf, Fr.rf, fun q => (by cases q), fun _ => rfl⟩
  | true =>
    rw [if_neg (fun z => by rw [(h.any hN).mp z] at ha; cases ha)]
    have key := Ok_lp (F := fun s => fn_30_39_46_L10 t s.1 s.2) (Q := fun x => ∃ W, x = ((), W) ∧ Fr (KS [46]) Y W ∧ Fr (K1 46 0) Y W ∧ SrR W 46 0 P r lo t P.1) (fun u s => s.1 = nI u ∧ Fr (KS [46]) Y s.2 ∧ Fr (K1 46 0) Y s.2 ∧ SrR s.2 46 0 P r lo t u) P.1 (N := FU) (FU_lt (by omega)) (s := (nI 0, Y)) ?_ ?_ ?_
    · obtain ⟨x, e, W, e2, hF, hO, row, hr, h1⟩ := key
      refine ⟨W, by rw [e, e2], hF, hO, fun _ k hk => ?_, fun q => (by cases q)⟩
      have hl : rkS P r lo t k < P.1 := rkS_lt P r lo t hk
      obtain ⟨a1, a2⟩ := hr _ hl
      rw [h1 _ hl]
      congr 1
      exact rkN_inj (bet_sto P r lo t) a1 hk a2
    · rintro u ⟨l, W⟩ hu ⟨e, hF, hO, hS⟩
      have e : l = nI u := e
      subst e
      have hF : Fr (KS [46]) Y W := hF
      have hP := h.fr hF (by decide) (by decide) (by decide) (by decide) (by decide)
      obtain ⟨V, eV, hV, hVO, hVS⟩ := c_in46 (n := n) rfl hN hP hu hS
      refine ⟨.inl (nI (u + 1), V), ?_, rfl, hF.tr hV, hO.tr hVO, hVS⟩
      simp only [fn_30_39_46_L10, hP.1.1]
      simp (disch := omega) only [ck_in, ix_nI, pk_mul, nI_add, pk_sub, iteI_le_t, iteI_le_f, iteI_lt_t, iteI_lt_f, iteI_eq_t, iteI_eq_f, bd_t, wr_t, ite_m1_f, ite_m1_t, ↓reduceIte]
      exact eV
    · rintro ⟨l, W⟩ ⟨e, hF, hO, hS⟩
      have e : l = nI P.1 := e
      subst e
      have hF : Fr (KS [46]) Y W := hF
      have hP := h.fr hF (by decide) (by decide) (by decide) (by decide) (by decide)
      refine ⟨.inr ((), W), ?_, W, rfl, hF, hO, hS⟩
      simp only [fn_30_39_46_L10, hP.1.1]
      simp (disch := omega) only [ck_in, ix_nI, pk_mul, nI_add, pk_sub, iteI_le_t, iteI_le_f, iteI_lt_t, iteI_lt_f, iteI_eq_t, iteI_eq_f, bd_t, wr_t, ite_m1_f, ite_m1_t, ↓reduceIte]
    · exact ⟨rfl, Fr.rf, Fr.rf, fun _ => 0, fun p hp => by omega, fun p hp => by omega⟩
