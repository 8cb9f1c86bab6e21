/-! the class's poll: wins, comparisons -/
def PoF (Z : Sm) (P : Pm) (r : Nat → Int32) (lo : Int32) : Prop := PoI Z P r lo P.2.1 ∧ ∀ k, k < P.1 → gI Z.1 41 0 k = nI (winsS P r lo k)
/-- what a poll's comparisons need -/
def PN (P : Pm) (r : Nat → Int32) : Prop := (0 < P.1 ∧ P.1 ≤ 5 ∧ 0 < P.2.1 ∧ P.2.1 ≤ 8) ∧ BalI r P.1 P.2.1 ∧ WI P
theorem c_28 {Z : Sm} {P : Pm} {r : Nat → Int32} {lo : Int32} (hN : PN P r) (h : PoI Z P r lo P.2.1) {k o : Nat} (hk : k < P.1) (ho : o < P.1) : fn_28 (nI k) (nI o) Z = some (bI (beatS P r lo k o), Z) := by
  obtain ⟨h3, hB, hW⟩ := hN
  unfold fn_28
  simp (disch := omega) only [ck_in, ix_nI, pk_mul, nI_add, pk_sub, iteI_le_t, iteI_le_f, iteI_lt_t, iteI_lt_f, iteI_eq_t, iteI_eq_f, bd_t, wr_t, ite_m1_f, ite_m1_t, ↓reduceIte]
  rw [h.2.2.2.2 k o hk ho, h.2.2.2.2 o k ho hk]
  have hc := cmp_beat (lo := lo) ⟨h3.2.1, h3.2.2.2⟩ hB hW hk ho
  cases hb : beatS P r lo k o with
  | false => rw [if_pos (hc.mpr hb)]; rfl
  | true => rw [if_neg (fun z => by rw [hc.mp z] at hb; cases hb)]; rfl
theorem cnt_f {p : Nat → Bool} {j : Nat} (h : p j = false) : cntN p (j + 1) = cntN p j := by
  show cond (p j) _ _ = _
  rw [h]; rfl
theorem cnt_t {p : Nat → Bool} {j : Nat} (h : p j = true) : cntN p (j + 1) = cntN p j + 1 := by
  show cond (p j) _ _ = _
  rw [h]; rfl
theorem PoI.f41 {Z W : Sm} {P : Pm} {r : Nat → Int32} {lo : Int32} {j : Nat} (h : PoI Z P r lo j) (hF : Fr (KS [41]) Z W) : PoI W P r lo j := by
  unfold PoI at h ⊢
  have e43 : ∀ k, gI W.1 43 k = gI Z.1 43 k := fun k => hF.gI (by unfold KS; decide)
  have e45 : ∀ k, gI W.1 45 k = gI Z.1 45 k := fun k => hF.gI (by unfold KS; decide)
  rw [hF.gI (k := 39) (i := 0) (by unfold KS; decide), hF.gI (k := 40) (i := 0) (by unfold KS; decide)]
  simp only [e43, e45]
  exact h
theorem c_25w {Z : Sm} {P : Pm} {r : Nat → Int32} {lo : Int32} (hN : PN P r) (h : PoI Z P r lo P.2.1) {k : Nat} (hk : k < P.1) (h0 : gI Z.1 41 0 k = nI 0) : ∃ W, lp (fun s => fn_25_L75_d1 (nI k) s.1 s.2) FU (nI 0, Z) = some (.inl (nI (k + 1), W)) ∧ Fr (KS [41]) Z W ∧ (∀ q, gI W.1 41 0 q = if q = k then nI (winsS P r lo k) else gI Z.1 41 0 q) := by
  have h3 := hN.1
  have key := Ok_lp (F := fun s => fn_25_L75_d1 (nI k) s.1 s.2) (Q := fun x => ∃ W, x = .inl (nI (k + 1), W) ∧ Fr (KS [41]) Z W ∧ (∀ q, gI W.1 41 0 q = if q = k then nI (winsS P r lo k) else gI Z.1 41 0 q)) (fun t s => s.1 = nI t ∧ Fr (KS [41]) Z s.2 ∧ (∀ q, gI s.2.1 41 0 q = if q = k then nI (cntN (beatS P r lo k) t) else gI Z.1 41 0 q)) P.1 (N := FU) (FU_lt (by omega)) (s := (nI 0, Z)) ?_ ?_ ?_
  · obtain ⟨x, e, W, e2, h1⟩ := key
    exact ⟨W, by rw [e, e2], h1⟩
  · rintro t ⟨l, W⟩ ht ⟨e, hF, h1⟩
    have e : l = nI t := e
    subst e
    have hF : Fr (KS [41]) Z W := hF
    have hP := h.f41 hF
    cases hb : beatS P r lo k t with
    | false =>
      refine ⟨.inl (nI (t + 1), W), ?_, rfl, hF, fun q => ?_⟩
      · simp only [fn_25_L75_d1, hP.1]
        rw [c_28 hN hP hk ht, hb]
        simp (disch := omega) only [ck_in, ix_nI, pk_mul, nI_add, pk_sub, iteI_le_t, iteI_le_f, iteI_lt_t, iteI_lt_f, iteI_eq_t, iteI_eq_f, bd_t, wr_t, ite_m1_f, ite_m1_t, ↓reduceIte, bI, cond_false]
      · rw [cnt_f hb]; exact h1 q
    | true =>
      have hc : cntN (beatS P r lo k) t ≤ t := cntN_le _ _
      refine ⟨.inl (nI (t + 1), sI W 41 0 k (nI (cntN (beatS P r lo k) t + 1))), ?_, rfl, hF.tr (Fr.sI (by unfold KS; decide)), fun q => ?_⟩
      · simp only [fn_25_L75_d1, hP.1]
        rw [c_28 hN hP hk ht, hb]
        have e1 : gI W.1 41 0 k = nI (cntN (beatS P r lo k) t) := (h1 k).trans (if_pos rfl)
        simp (disch := omega) only [ck_in, ix_nI, pk_mul, nI_add, pk_sub, iteI_le_t, iteI_le_f, iteI_lt_t, iteI_lt_f, iteI_eq_t, iteI_eq_f, bd_t, wr_t, ite_m1_f, ite_m1_t, ↓reduceIte, bI, cond_true, e1]
      · show gI (sI W 41 0 k _).1 41 0 q = _
        rw [gI_sIv, cnt_t hb]
        by_cases c : q = k
        · subst c; rw [upd_at, if_pos rfl]
        · rw [upd_ne c, if_neg c, h1 q, if_neg c]
  · rintro ⟨l, W⟩ ⟨e, hF, h1⟩
    have e : l = nI P.1 := e
    subst e
    have hF : Fr (KS [41]) Z W := hF
    have hP := h.f41 hF
    refine ⟨.inr (.inl (nI (k + 1), W)), ?_, W, rfl, hF, h1⟩
    simp only [fn_25_L75_d1, hP.1]
    simp (disch := omega) only [ck_in, ix_nI, pk_mul, nI_add, pk_sub, iteI_le_t, iteI_le_f, iteI_lt_t, iteI_lt_f, iteI_eq_t, iteI_eq_f, bd_t, wr_t, ite_m1_f, ite_m1_t, ↓reduceIte]
  · refine ⟨rfl, Fr.rf, fun q => ?_⟩
    by_cases c : q = k
    · rw [if_pos c, c]; exact h0
    · rw [if_neg c]
theorem c_25wl {Z : Sm} {P : Pm} {r : Nat → Int32} {lo : Int32} (hN : PN P r) (h : PoI Z P r lo P.2.1) (h0 : ∀ k, k < P.1 → gI Z.1 41 0 k = nI 0) : ∃ W, fn_25_J62 Z = some ((), W) ∧ Fr (KS [41]) Z W ∧ PoF W P r lo := by
  have h3 := hN.1
  have key := Ok_lp (F := fun s => fn_25_L64 s.1 s.2) (Q := fun x => ∃ W, x = ((), W) ∧ Fr (KS [41]) Z W ∧ ∀ q, q < P.1 → gI W.1 41 0 q = nI (winsS P r lo q)) (fun t s => s.1 = nI t ∧ Fr (KS [41]) Z s.2 ∧ (∀ q, q < P.1 → gI s.2.1 41 0 q = if q < t then nI (winsS P r lo q) else nI 0)) P.1 (N := FU) (FU_lt (by omega)) (s := (nI 0, Z)) ?_ ?_ ?_
  · obtain ⟨x, e, W, e2, hF, h1⟩ := key
    exact ⟨W, by unfold fn_25_J62; rw [e, e2], hF, h.f41 hF, h1⟩
  · rintro t ⟨l, W⟩ ht ⟨e, hF, h1⟩
    have e : l = nI t := e
    subst e
    have hF : Fr (KS [41]) Z W := hF
    have hP := h.f41 hF
    obtain ⟨V, eV, hV, hV1⟩ := c_25w hN hP ht ((h1 t ht).trans (if_neg (by omega)))
    refine ⟨.inl (nI (t + 1), V), ?_, rfl, hF.tr hV, fun q hq => ?_⟩
    · simp only [fn_25_L64, hP.1]
      simp (disch := omega) only [ck_in, ix_nI, pk_mul, nI_add, pk_sub, iteI_le_t, iteI_le_f, iteI_lt_t, iteI_lt_f, iteI_eq_t, iteI_eq_f, bd_t, wr_t, ite_m1_f, ite_m1_t, ↓reduceIte]
      exact eV
    · show gI V.1 41 0 q = _
      rw [hV1 q]
      by_cases c : q = t
      · rw [if_pos c, if_pos (by omega), c]
      · rw [if_neg c, h1 q hq]
        by_cases d : q < t
        · rw [if_pos d, if_pos (by omega)]
        · rw [if_neg d, if_neg (by omega)]
  · rintro ⟨l, W⟩ ⟨e, hF, h1⟩
    have e : l = nI P.1 := e
    subst e
    have hF : Fr (KS [41]) Z W := hF
    have hP := h.f41 hF
    refine ⟨.inr ((), W), ?_, W, rfl, hF, fun q hq => (h1 q hq).trans (if_pos hq)⟩
    simp only [fn_25_L64, hP.1]
    simp (disch := omega) only [ck_in, ix_nI, pk_mul, nI_add, pk_sub, iteI_le_t, iteI_le_f, iteI_lt_t, iteI_lt_f, iteI_eq_t, iteI_eq_f, bd_t, wr_t, ite_m1_f, ite_m1_t, ↓reduceIte]
  · exact ⟨rfl, Fr.rf, fun q hq => (h0 q hq).trans (by rw [if_neg (by omega)])⟩
theorem c_25 {Y : Sm} {n : Nat} {P : Pm} {r : Nat → Int32} {lo : Int32} (hV : PV Y n P r) (hN : PN P r) : ∃ Z, fn_25 n lo Y = some ((), Z) ∧ Fr (KS [39, 40, 41, 43, 45]) Y Z ∧ PoF Z P r lo := by
  have h3 := hN.1
  obtain ⟨A, eA, hA, a1, a2, a3, a4⟩ := c_26 Y (nI P.1)
  have hVA : PV A n P r := hV.fr hA (by decide) (by decide) (by decide) (by decide) (by decide)
  have h0 : PoI A P r lo 0 := ⟨a1, a2, fun k hk => (a3 k (by omega)).1, fun k p hk hp => (a4 k p (by omega) (by omega)).1, fun k o hk ho => (a4 k o (by omega) (by omega)).2⟩
  obtain ⟨B, eB, hB, b1⟩ := c_25lp (lo := lo) hVA hN.2.1 h0
  obtain ⟨W, eW, hW, w1⟩ := c_25wl hN b1 (fun k hk => by rw [hB.gI (k := 41) (i := 0) (by unfold KS; decide)]; exact (a3 k (by omega)).2)
  refine ⟨W, ?_, (hA.tr (hB.up (KS.sub (by decide)))).tr (hW.up (KS.sub (by decide))), w1⟩
  unfold fn_25
  rw [hV.1.1, eA, bd_t, eB]
  exact eW
/-- the points, compared -/
theorem PoF.pts {Z : Sm} {P : Pm} {r : Nat → Int32} {lo : Int32} (hN : PN P r) (h : PoF Z P r lo) {k : Nat} (hk : k < P.1) : gI Z.1 40 0 k = ptsS P r lo k := by
  rw [h.1.2.2.1 k hk]
  unfold ptsS
  refine sumN_cg (fun _ _ => rfl) (fun a ha _ => ?_)
  have := plc_lt hN.2.1 ha hk
  show _ * _ = _ * _
  rw [pk_sub (by omega), show P.1 - 1 - plc P r a k = P.1 - 1 - plc P r a k from rfl]
theorem sum_any {P : Pm} {p : Nat → Bool} (hW : WI P) : ∀ j, j ≤ P.2.1 → ∃ x, x ≤ 99 * j ∧ sumN p P.2.2.2 j = nI x ∧ (x = 0 ↔ ∀ a, a < j → p a = false) := by
  intro j
  induction j with
  | zero => intro _; exact ⟨0, by omega, rfl, fun _ a ha => by omega, fun _ => rfl⟩
  | succ j ih =>
    intro hj
    obtain ⟨x, hx, e, h⟩ := ih (by omega)
    obtain ⟨w, hw, ew⟩ := hW j (by omega)
    cases hp : p j with
    | false =>
      refine ⟨x, by omega, by rw [sumN_f hp]; exact e, h.trans ⟨fun q a ha => ?_, fun q a ha => q a (by omega)⟩⟩
      by_cases c : a = j
      · rw [c]; exact hp
      · exact q a (by omega)
    | true =>
      refine ⟨x + w, by omega, by rw [sumN_t hp, e, ew, nI_add], fun q => by omega, fun q => ?_⟩
      have := q j (by omega)
      rw [hp] at this
      cases this
theorem PoF.any {Z : Sm} {P : Pm} {r : Nat → Int32} {lo : Int32} (hN : PN P r) (h : PoF Z P r lo) : gI Z.1 39 0 1 = nI 0 ↔ anyS P r lo = false := by
  have h3 := hN.1
  obtain ⟨x, hx, e, hz⟩ := sum_any (p := hdS P r lo) hN.2.2 P.2.1 (Nat.le_refl _)
  rw [h.1.2.1, e, nI_eq (by omega) (by omega), hz]
  unfold anyS
  constructor
  · intro q
    rw [srch_none q, ble_t (Nat.le_refl _)]
    rfl
  · intro q a ha
    rcases Nat.lt_or_ge (srch (hdS P r lo) P.2.1) P.2.1 with c | c
    · rw [ble_f c] at q
      cases q
    · exact srch_no (n := P.2.1) (by omega)

