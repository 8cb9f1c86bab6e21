/-! the class's poll: all the ballots, and the wins -/
def prT (P : Pm) (r : Nat → Int32) (lo : Int32) (k o : Nat) : Nat → Bool := fun a => hdS P r lo a && decide (plc P r a k < plc P r a o)
def PoI (Z : Sm) (P : Pm) (r : Nat → Int32) (lo : Int32) (j : Nat) : Prop := gI Z.1 39 0 0 = nI P.1 ∧ gI Z.1 39 0 1 = sumN (hdS P r lo) P.2.2.2 j ∧ (∀ k, k < P.1 → gI Z.1 40 0 k = sumN (hdS P r lo) (fun a => P.2.2.2 a * nI (P.1 - 1 - plc P r a k)) j) ∧ (∀ k p, k < P.1 → p < P.1 → gI Z.1 43 k p = sumN (fun a => hdS P r lo a && decide (bal r a p = nI k)) P.2.2.2 j) ∧ (∀ k o, k < P.1 → o < P.1 → gI Z.1 45 k o = sumN (prT P r lo k o) P.2.2.2 j)
theorem sumN_f {p : Nat → Bool} {g : Nat → Int32} {j : Nat} (h : p j = false) : sumN p g (j + 1) = sumN p g j := by
  show cond (p j) _ _ = _
  rw [h]; rfl
theorem sumN_t {p : Nat → Bool} {g : Nat → Int32} {j : Nat} (h : p j = true) : sumN p g (j + 1) = sumN p g j + g j := by
  show cond (p j) _ _ = _
  rw [h]; rfl
theorem PoI.skip {Z : Sm} {P : Pm} {r : Nat → Int32} {lo : Int32} {j : Nat} (h : PoI Z P r lo j) (hd : hdS P r lo j = false) : PoI Z P r lo (j + 1) := by
  obtain ⟨h1, h2, h3, h4, h5⟩ := h
  refine ⟨h1, ?_, fun k hk => ?_, fun k p hk hp => ?_, fun k o hk ho => ?_⟩
  · rw [sumN_f hd]; exact h2
  · rw [sumN_f hd]; exact h3 k hk
  · rw [sumN_f (by show (hdS P r lo j && _) = false; rw [hd]; rfl)]; exact h4 k p hk hp
  · rw [sumN_f (by show (hdS P r lo j && _) = false; rw [hd]; rfl)]; exact h5 k o hk ho
theorem PoI.add {Y Z : Sm} {P : Pm} {r : Nat → Int32} {lo : Int32} {n j : Nat} (h : PoI Y P r lo j) (hV : PV Y n P r) (hB : BalI r P.1 P.2.1) (hj : j < P.2.1) (hd : hdS P r lo j = true) (hZ : ∀ b, BlI Y (8 * n + j) P.1 b → AddI (sI Y 39 0 1 (gI Y.1 39 0 1 + P.2.2.2 j)) Z P.1 b (P.2.2.2 j) P.1) : PoI Z P r lo (j + 1) := by
  obtain ⟨h1, h2, h3, h4, h5⟩ := h
  obtain ⟨b, hb, hb1, hb2⟩ := BlI_of hV hB hj
  obtain ⟨a1, a2, a3, a4⟩ := hZ b hb
  have e9 : gI Z.1 39 0 = _ := a1.gI (by unfold KS; decide)
  refine ⟨?_, ?_, fun k hk => ?_, fun k p hk hp => ?_, fun k o hk ho => ?_⟩
  · rw [e9, gI_sIv, upd_ne (by omega)]; exact h1
  · rw [e9, gI_sIv, upd_at, sumN_t hd, h2]
  · obtain ⟨c1, c2⟩ := hb2 k hk
    have := a2 _ c1
    rw [c2, if_pos c1, gI_sIk (by omega), h3 k hk] at this
    rw [this, sumN_t hd]
  · obtain ⟨c1, c2⟩ := hb2 k hk
    have := a3 _ p c1 hp
    rw [c2, gI_sIk (by omega), h4 k p hk hp] at this
    rw [this]
    have hiff : (bal r j p = nI k) ↔ plc P r j k = p := by
      rw [(hb1 p hp).1]
      constructor
      · intro q
        have q := (nI_eq (by have := (hb p hp).1; have := hV.2.1; omega) (by have := hV.2.1; omega)).mp q
        rw [← q]; exact (hb1 p hp).2
      · intro q
        rw [← q, c2]
    by_cases c : plc P r j k = p
    · rw [if_pos ⟨c, c1⟩, sumN_t (by show (hdS P r lo j && decide (bal r j p = nI k)) = true; rw [hd, decide_eq_true (hiff.mpr c)]; rfl)]
    · rw [if_neg (fun z => c z.1), sumN_f (by show (hdS P r lo j && decide (bal r j p = nI k)) = false; rw [hd, decide_eq_false (fun z => c (hiff.mp z))]; rfl)]
  · obtain ⟨c1, c2⟩ := hb2 k hk
    obtain ⟨d1, d2⟩ := hb2 o ho
    have := a4 _ _ c1 d1
    rw [c2, d2, gI_sIk (by omega), h5 k o hk ho] at this
    rw [this]
    by_cases c : plc P r j k < plc P r j o
    · rw [if_pos ⟨c, c1⟩, sumN_t (by show (hdS P r lo j && decide _) = true; rw [hd, decide_eq_true c]; rfl)]
    · rw [if_neg (fun z => c z.1), sumN_f (by show (hdS P r lo j && decide _) = false; rw [hd, decide_eq_false c]; rfl)]
theorem c_73 {Y : Sm} {n a : Nat} {P : Pm} {r : Nat → Int32} (hV : PV Y n P r) (ha : a < P.2.1) : fn_73 n (nI a) Y = some (bI (decide (r (36 + a) < P.2.2.1 4)), Y) := by
  have h3 := hV.2.1
  unfold fn_73
  rw [hV.2.2.1]
  simp (disch := omega) only [ck_in, ix_nI, pk_mul, nI_add, pk_sub, iteI_le_t, iteI_le_f, iteI_lt_t, iteI_lt_f, iteI_eq_t, iteI_eq_f, bd_t, wr_t, ite_m1_f, ite_m1_t, ↓reduceIte, (hV.2.2.2.1 a ha).2]
  by_cases c : P.2.2.1 4 ≤ r (36 + a)
  · rw [if_pos c, decide_eq_false (Int32.not_lt.mpr c)]; rfl
  · rw [if_neg c, decide_eq_true (Int32.not_le.mp c)]; rfl
theorem c_25lp {Y : Sm} {n : Nat} {P : Pm} {r : Nat → Int32} {lo : Int32} (hV : PV Y n P r) (hB : BalI r P.1 P.2.1) (h0 : PoI Y P r lo 0) : ∃ Z, lp (fun s => fn_25_L13 n lo s.1 s.2) FU (nI 0, Y) = some (.inl Z) ∧ Fr (KS [39, 40, 43, 45]) Y Z ∧ PoI Z P r lo P.2.1 := by
  have h3 := hV.2.1
  have key := Ok_lp (F := fun s => fn_25_L13 n lo s.1 s.2) (Q := fun x => ∃ Z, x = .inl Z ∧ Fr (KS [39, 40, 43, 45]) Y Z ∧ PoI Z P r lo P.2.1) (fun t s => s.1 = nI t ∧ Fr (KS [39, 40, 43, 45]) Y s.2 ∧ PoI s.2 P r lo t) P.2.1 (N := FU) (FU_lt (by omega)) (s := (nI 0, Y)) ?_ ?_ ?_
  · obtain ⟨x, e, Z, e2, h1⟩ := key
    exact ⟨Z, by rw [e, e2], h1⟩
  · rintro t ⟨l, Z⟩ ht ⟨e, hF, hI⟩
    have e : l = nI t := e
    subst e
    have hF : Fr (KS [39, 40, 43, 45]) Y Z := hF
    have hI : PoI Z P r lo t := hI
    have hZ : PV Z n P r := hV.fr hF (by decide) (by decide) (by decide) (by decide) (by decide)
    by_cases c : nI t = lo
    · refine ⟨.inl (nI (t + 1), Z), ?_, rfl, hF, hI.skip ?_⟩
      · simp only [fn_25_L13, hZ.1.2]
        rw [iteI_le_f ht (by omega), if_pos c, nI_add]
      · unfold hdS
        rw [decide_eq_true c]
        rfl
    · by_cases d : r (36 + t) < P.2.2.1 4
      · have hd : hdS P r lo t = true := by
          unfold hdS
          rw [decide_eq_false c, decide_eq_true d]
          rfl
        have h9 : gI (sI Z 39 0 1 (gI Z.1 39 0 1 + P.2.2.2 t)).1 39 0 0 = nI P.1 := by rw [gI_sIv, upd_ne (by omega)]; exact hI.1
        obtain ⟨b, hb, _⟩ := BlI_of hZ hB ht
        obtain ⟨W, eW, hW⟩ := c_27lp (Y := sI Z 39 0 1 (gI Z.1 39 0 1 + P.2.2.2 t)) (w := P.2.2.2 t) ⟨h3.1, h3.2.1⟩ h9 (hb.fr (by rw [gI_sIk (by omega)]))
        refine ⟨.inl (nI (t + 1), W), ?_, rfl, (hF.tr (Fr.sI (by unfold KS; decide))).tr (hW.1.up (KS.sub (by decide))), hI.add hZ hB ht hd (fun b' hb' => ?_)⟩
        · simp only [fn_25_L13, hZ.1.2, fn_27]
          rw [c_73 hZ ht, decide_eq_true d]
          simp (disch := omega) only [ck_in, ix_nI, pk_mul, nI_add, pk_sub, iteI_le_t, iteI_le_f, iteI_lt_t, iteI_lt_f, iteI_eq_t, iteI_eq_f, bd_t, wr_t, ite_m1_f, ite_m1_t, ↓reduceIte, c, bI, (hZ.2.2.2.1 t ht).1, cond_true]
          rw [eW]
          simp (disch := omega) only [ck_in, ix_nI, pk_mul, nI_add, pk_sub, iteI_le_t, iteI_le_f, iteI_lt_t, iteI_lt_f, iteI_eq_t, iteI_eq_f, bd_t, wr_t, ite_m1_f, ite_m1_t, ↓reduceIte]
        · obtain ⟨W', eW', hW'⟩ := c_27lp (Y := sI Z 39 0 1 (gI Z.1 39 0 1 + P.2.2.2 t)) (w := P.2.2.2 t) ⟨h3.1, h3.2.1⟩ h9 (hb'.fr (by rw [gI_sIk (by omega)]))
          rw [eW] at eW'
          cases eW'
          exact hW'
      · refine ⟨.inl (nI (t + 1), Z), ?_, rfl, hF, hI.skip ?_⟩
        · simp only [fn_25_L13, hZ.1.2]
          rw [c_73 hZ ht, decide_eq_false d]
          simp (disch := omega) only [ck_in, ix_nI, pk_mul, nI_add, pk_sub, iteI_le_t, iteI_le_f, iteI_lt_t, iteI_lt_f, iteI_eq_t, iteI_eq_f, bd_t, wr_t, ite_m1_f, ite_m1_t, ↓reduceIte, c, bI, cond_false]
        · unfold hdS
          rw [decide_eq_false d, Bool.and_false]
  · rintro ⟨l, Z⟩ ⟨e, hF, hI⟩
    have e : l = nI P.2.1 := e
    subst e
    have hF : Fr (KS [39, 40, 43, 45]) Y Z := hF
    have hZ : PV Z n P r := hV.fr hF (by decide) (by decide) (by decide) (by decide) (by decide)
    refine ⟨.inr (.inl Z), ?_, Z, rfl, hF, hI⟩
    simp only [fn_25_L13, hZ.1.2]
    simp (disch := omega) only [ck_in, ix_nI, pk_mul, nI_add, pk_sub, iteI_le_t, iteI_le_f, iteI_lt_t, iteI_lt_f, iteI_eq_t, iteI_eq_f, bd_t, wr_t, ite_m1_f, ite_m1_t, ↓reduceIte]
  · exact ⟨rfl, Fr.rf, h0⟩

/-- the weights -/
def WI (P : Pm) : Prop := ∀ a, a < P.2.1 → ∃ w, (1 ≤ w ∧ w ≤ 99) ∧ P.2.2.2 a = nI w
theorem sub_lt0 {x y : Nat} (hx : x < 2 ^ 30) (hy : y < 2 ^ 30) : (nI 0 < nI x - nI y) ↔ y < x := by
  rw [Int32.lt_iff_toInt_lt, Int32.toInt_sub, nI_toInt (by omega), nI_toInt (by omega), nI_toInt (by omega)]
  have : ((x : Int) - (y : Int)).bmod (2 ^ 32) = (x : Int) - y := by
    unfold Int.bmod
    simp only
    split <;> omega
  rw [this]
  omega
theorem plc_inj {P : Pm} {r : Nat → Int32} (hC : P.1 ≤ 5) (hB : BalI r P.1 P.2.1) {a k o : Nat} (ha : a < P.2.1) (hk : k < P.1) (ho : o < P.1) (e : plc P r a k = plc P r a o) : k = o := by
  have h1 := srch_yes (p := fun p => decide (bal r a p = nI k)) (plc_lt hB ha hk)
  have h2 := srch_yes (p := fun p => decide (bal r a p = nI o)) (plc_lt hB ha ho)
  have h1 : bal r a (plc P r a k) = nI k := of_decide_eq_true h1
  have h2 : bal r a (plc P r a o) = nI o := of_decide_eq_true h2
  rw [e, h2] at h1
  exact ((nI_eq (by omega) (by omega)).mp h1).symm
theorem lead_sum {P : Pm} {r : Nat → Int32} {lo : Int32} (hC : P.1 ≤ 5) (hB : BalI r P.1 P.2.1) (hW : WI P) {k o : Nat} (hk : k < P.1) (ho : o < P.1) (hne : k ≠ o) : ∀ j, j ≤ P.2.1 → ∃ x y, x ≤ 99 * j ∧ y ≤ 99 * j ∧ sumN (prT P r lo k o) P.2.2.2 j = nI x ∧ sumN (prT P r lo o k) P.2.2.2 j = nI y ∧ sumN (hdS P r lo) (fun a => if plc P r a k < plc P r a o then P.2.2.2 a else -(P.2.2.2 a)) j = nI x - nI y := by
  intro j
  induction j with
  | zero => intro _; exact ⟨0, 0, by omega, by omega, rfl, rfl, (by show nI 0 = nI 0 - nI 0; decide)⟩
  | succ j ih =>
    intro hj
    obtain ⟨x, y, hx, hy, e1, e2, e3⟩ := ih (by omega)
    obtain ⟨w, hw, ew⟩ := hW j (by omega)
    cases hd : hdS P r lo j with
    | false =>
      refine ⟨x, y, by omega, by omega, ?_, ?_, ?_⟩
      · rw [sumN_f (by show (hdS P r lo j && _) = false; rw [hd]; rfl)]; exact e1
      · rw [sumN_f (by show (hdS P r lo j && _) = false; rw [hd]; rfl)]; exact e2
      · rw [sumN_f hd]; exact e3
    | true =>
      have hp := fun z => hne (plc_inj hC hB (by omega : j < P.2.1) hk ho z)
      by_cases c : plc P r j k < plc P r j o
      · refine ⟨x + w, y, by omega, by omega, ?_, ?_, ?_⟩
        · rw [sumN_t (by show (hdS P r lo j && decide _) = true; rw [hd, decide_eq_true c]; rfl), e1, ew, nI_add]
        · rw [sumN_f (by show (hdS P r lo j && decide _) = false; rw [hd, decide_eq_false (by omega)]; rfl)]; exact e2
        · rw [sumN_t hd, e3, if_pos c, ew, ← nI_add, Int32.sub_eq_add_neg, Int32.sub_eq_add_neg]
          ac_rfl
      · have hlt : plc P r j o < plc P r j k := by
          rcases Nat.lt_trichotomy (plc P r j k) (plc P r j o) with z | z | z
          · exact absurd z c
          · exact absurd z hp
          · exact z
        refine ⟨x, y + w, by omega, by omega, ?_, ?_, ?_⟩
        · rw [sumN_f (by show (hdS P r lo j && decide _) = false; rw [hd, decide_eq_false c]; rfl)]; exact e1
        · rw [sumN_t (by show (hdS P r lo j && decide _) = true; rw [hd, decide_eq_true hlt]; rfl), e2, ew, nI_add]
        · rw [sumN_t hd, e3, if_neg c, ew, ← nI_add, Int32.sub_eq_add_neg, Int32.sub_eq_add_neg, Int32.neg_add, Int32.sub_eq_add_neg]
          ac_rfl
/-- the class's comparison is the reference's -/
theorem cmp_beat {P : Pm} {r : Nat → Int32} {lo : Int32} (h3 : P.1 ≤ 5 ∧ P.2.1 ≤ 8) (hB : BalI r P.1 P.2.1) (hW : WI P) {k o : Nat} (hk : k < P.1) (ho : o < P.1) : (sumN (prT P r lo k o) P.2.2.2 P.2.1 ≤ sumN (prT P r lo o k) P.2.2.2 P.2.1) ↔ beatS P r lo k o = false := by
  unfold beatS
  by_cases c : k = o
  · subst c
    rw [decide_eq_true rfl]
    exact ⟨fun _ => rfl, fun _ => Int32.le_refl _⟩
  · obtain ⟨x, y, hx, hy, e1, e2, e3⟩ := lead_sum (lo := lo) h3.1 hB hW hk ho c P.2.1 (Nat.le_refl _)
    unfold leadS
    rw [e1, e2, e3, decide_eq_false c, Bool.not_false, Bool.true_and, decide_eq_false_iff_not, sub_lt0 (by omega) (by omega)]
    rcases Nat.lt_or_ge y x with z | z
    · exact ⟨fun q => absurd q (nI_ge z (by omega)), fun q => absurd z q⟩
    · exact ⟨fun _ => by omega, fun _ => nI_le z (by omega)⟩

