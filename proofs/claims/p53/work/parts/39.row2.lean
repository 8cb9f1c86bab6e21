/-! an answer, and the time, keep a row good -/
theorem rem_rq {r : Nat → Int32} {i n j w : Nat} (hi : i < n) (hj : j < n - 1) (hw : w < 6) : rq (remS r i n) j w = if j < i then rq r j w else rq r (j + 1) w := by
  unfold rq remS
  by_cases c : j < i
  · rw [if_neg (by omega), upd_ne (by omega), if_pos c]
  · rw [if_pos (by omega), if_neg c]
    congr 1
    omega
theorem an0_rq {r : Nat → Int32} {i a k m j w : Nat} (ha : a < 8) (hk : k < 5) (hj : j < 40) (hw : w < 6) : rq (an0S r i a k m) j w = rq r j w := by
  unfold rq an0S
  simp (disch := omega) only [iteN_f]
theorem an0_o {r : Nat → Int32} {i a k m q : Nat} (h : q < 118) (h1 : q ≠ 28 + a) (h2 : q ≠ 20 + a) (h3 : q ≠ 52 + a) (h4 : q ≠ 60 + a) (h5 : q ≠ 68 + k) (h6 : q ≠ 73 + k) (h7 : q ≠ 7) (h8 : q ≠ 8) : an0S r i a k m q = r q := by
  unfold an0S
  simp (disch := omega) only [iteN_f]
theorem ans_lo {r : Nat → Int32} {i a k m n q : Nat} (h : q < 118) (h9 : q ≠ 9) : ansS r i a k m n q = an0S r i a k m q := by
  unfold ansS remS
  rw [if_neg (by omega), upd_ne h9]
theorem GR_ans {P : Pm} {r : Nat → Int32} {t n m s i a k : Nat} {v : Int32} (hC : P.1 ≤ 5) (hA : P.2.1 ≤ 8) (h : GR P r t n m s) (hi : i < n) (ea : rq r i 1 = nI a) (ha : a < P.2.1) (ek : rq r i 2 = nI k) (hk : k < P.1) : GR P (ansS (upd r (118 + 6 * i + 4) v) i a k m n) t (n - 1) (m + 1) s := by
  obtain ⟨⟨a1, a2, a3, a4⟩, a5, a6, a7, a8, a9, b1, b2, b3, b4, b5⟩ := h
  have hR : ∀ q, q ≠ 118 + 6 * i + 4 → upd r (118 + 6 * i + 4) v q = r q := fun q hq => upd_ne hq
  generalize eR : upd r (118 + 6 * i + 4) v = R at hR ⊢
  have e : ∀ q, q < 118 → q ≠ 28 + a → q ≠ 20 + a → q ≠ 52 + a → q ≠ 60 + a → q ≠ 68 + k → q ≠ 73 + k → q ≠ 7 → q ≠ 8 → q ≠ 9 → ansS R i a k m n q = r q := fun q h h1 h2 h3 h4 h5 h6 h7 h8 h9 => by
    rw [ans_lo h h9, an0_o h h1 h2 h3 h4 h5 h6 h7 h8, hR q (by omega)]
  have er : ∀ j w, j < n - 1 → w < 6 → rq (ansS R i a k m n) j w = if j < i then rq r j w else rq r (j + 1) w := fun j w hj hw => by
    unfold ansS
    rw [rem_rq hi hj hw, an0_rq (by omega) (by omega) (by omega) hw, an0_rq (by omega) (by omega) (by omega) hw]
    by_cases c : j < i
    · rw [if_pos c, if_pos c]; exact hR _ (by omega)
    · rw [if_neg c, if_neg c]; exact hR _ (by omega)
  obtain ⟨_, _, ⟨l, hl1, hl2, el⟩, _, ⟨u, hu, eu⟩, _⟩ := b2 i hi
  have q3 : rq R i 3 = nI l := (hR _ (by omega)).trans el
  have q5 : rq R i 5 = nI u := (hR _ (by omega)).trans eu
  refine ⟨⟨by rw [e 0 (by omega) (by omega) (by omega) (by omega) (by omega) (by omega) (by omega) (by omega) (by omega) (by omega)]; exact a1, ?_, ?_, by rw [e 6 (by omega) (by omega) (by omega) (by omega) (by omega) (by omega) (by omega) (by omega) (by omega) (by omega)]; exact a4⟩, by omega, by rw [e 1 (by omega) (by omega) (by omega) (by omega) (by omega) (by omega) (by omega) (by omega) (by omega) (by omega)]; exact a6, by rw [e 2 (by omega) (by omega) (by omega) (by omega) (by omega) (by omega) (by omega) (by omega) (by omega) (by omega)]; exact a7, by rw [e 3 (by omega) (by omega) (by omega) (by omega) (by omega) (by omega) (by omega) (by omega) (by omega) (by omega)]; exact a8, ?_, b1.cg (fun a' p _ _ => e _ (by omega) (by omega) (by omega) (by omega) (by omega) (by omega) (by omega) (by omega) (by omega) (by omega)), ?_, Or.inl ?_, fun a' ha' => ?_, fun k' hk' => ?_⟩
  · unfold ansS remS
    rw [if_neg (by omega), upd_at]
  · rw [ans_lo (by omega) (by omega)]
    unfold an0S
    simp (disch := omega) only [upd_ne, upd_at, iteN_t, iteN_f, ↓reduceIte]
    rw [hR 7 (by omega), a3, nI_add]
  · have : (fun p => ansS R i a k m n (10 + p)) = fun p => if p < 5 then r (10 + p) else ansS R i a k m n (10 + p) := by
      funext p
      by_cases c : p < 5
      · rw [if_pos c, e (10 + p) (by omega) (by omega) (by omega) (by omega) (by omega) (by omega) (by omega) (by omega) (by omega) (by omega)]
      · rw [if_neg c]
    rw [this]
    refine ⟨fun k hk => ?_, fun p hp => ?_⟩
    · obtain ⟨p, hp, q⟩ := a9.1 k hk
      exact ⟨p, hp, (if_pos (by omega)).trans q⟩
    · obtain ⟨k, hk, q⟩ := a9.2 p hp
      exact ⟨k, hk, (if_pos (by omega)).trans q⟩
  · intro j hj
    have hex : ∃ j', j' < n ∧ j' = (if j < i then j else j + 1) := ⟨_, by split <;> omega, rfl⟩
    obtain ⟨j', hj', ej⟩ := hex
    have er' : ∀ w, w < 6 → rq (ansS R i a k m n) j w = rq r j' w := fun w hw => by
      rw [er j w hj hw, ej]
      by_cases c : j < i
      · rw [if_pos c, if_pos c]
      · rw [if_neg c, if_neg c]
    obtain ⟨h1, h2, h3, h4, h5, x, hx, e6, h7⟩ := b2 j' hj'
    rw [er' 1 (by omega), er' 2 (by omega), er' 3 (by omega), er' 4 (by omega), er' 5 (by omega), er' 0 (by omega)]
    refine ⟨h1, h2, h3, h4, h5, x, hx, e6, fun p hp => ?_⟩
    rw [er p 0 (by omega) (by omega)]
    by_cases c : p < i
    · rw [if_pos c]
      exact h7 p (by rw [ej]; split <;> omega)
    · rw [if_neg c]
      exact h7 (p + 1) (by rw [ej]; split <;> omega)
  · rw [ans_lo (by omega) (by omega)]
    unfold an0S
    simp (disch := omega) only [upd_ne, upd_at, iteN_t, iteN_f, ↓reduceIte]
  · obtain ⟨⟨x, hx, ex⟩, ⟨d, hd, ed⟩, c3⟩ := b4 a' ha'
    rw [e (36 + a') (by omega) (by omega) (by omega) (by omega) (by omega) (by omega) (by omega) (by omega) (by omega) (by omega)]
    by_cases q : a' = a
    · subst q
      have es : stS R i a' = nI (if d ≤ l then d else l) := by
        unfold stS
        rw [hR _ (by omega), ed, q3]
        rcases Nat.lt_or_ge l d with w | w
        · rw [iteI_le_f (by omega) (by omega), if_neg (by omega)]
        · rw [iteI_le_t (by omega) (by omega), if_pos (by omega)]
      have hs1 : (if d ≤ l then d else l) ≤ l := by split <;> omega
      have hs2 : (if d ≤ l then d else l) ≤ d := by split <;> omega
      generalize (if d ≤ l then d else l) = y at es hs1 hs2
      refine ⟨?_, ⟨d - y, by omega, ?_⟩, c3⟩
      · rw [ans_lo (by omega) (by omega)]
        have ec : crS R i a' = nI (x + l - y) := by
          unfold crS
          rw [es, hR _ (by omega), ex, q3, nI_add, pk_sub (by omega)]
        unfold an0S
        simp (disch := omega) only [upd_ne, upd_at, iteN_t, iteN_f, ↓reduceIte]
        rw [ec]
        rcases Nat.lt_or_ge 999 (x + l - y) with w | w
        · exact ⟨999, by omega, iteI_le_f (by omega) (by omega)⟩
        · exact ⟨x + l - y, w, iteI_le_t (by omega) (by omega)⟩
      · rw [ans_lo (by omega) (by omega)]
        unfold an0S
        simp (disch := omega) only [upd_ne, upd_at, iteN_t, iteN_f, ↓reduceIte]
        rw [es, hR _ (by omega), ed, pk_sub (by omega)]
    · rw [e (20 + a') (by omega) (by omega) (by omega) (by omega) (by omega) (by omega) (by omega) (by omega) (by omega) (by omega), e (28 + a') (by omega) (by omega) (by omega) (by omega) (by omega) (by omega) (by omega) (by omega) (by omega) (by omega)]
      exact ⟨⟨x, hx, ex⟩, ⟨d, hd, ed⟩, c3⟩
  · obtain ⟨w, hw, ew⟩ := b5 k' hk'
    have hm1 : (m + 1) * t = m * t + t := Nat.succ_mul m t
    by_cases q : k' = k
    · subst q
      refine ⟨w + t - u, by omega, ?_⟩
      rw [ans_lo (by omega) (by omega)]
      unfold an0S
      simp (disch := omega) only [upd_ne, upd_at, iteN_t, iteN_f, ↓reduceIte]
      rw [hR _ (by omega), hR 0 (by omega), ew, a1, q5, nI_add, pk_sub (by omega)]
    · rw [e (73 + k') (by omega) (by omega) (by omega) (by omega) (by omega) (by omega) (by omega) (by omega) (by omega) (by omega)]
      exact ⟨w, by omega, ew⟩
theorem GR_left {P : Pm} {r : Nat → Int32} {t n m s i l : Nat} (hC : P.1 ≤ 5) (hA : P.2.1 ≤ 8) (h : GR P r t n m s) (hi : i < n) (hl : 1 ≤ l ∧ l ≤ 20) : GR P (upd r (118 + 6 * i + 4) (nI l)) t n m s := by
  obtain ⟨⟨a1, a2, a3, a4⟩, a5, a6, a7, a8, a9, b1, b2, b3, b4, b5⟩ := h
  have e : ∀ q, q ≠ 118 + 6 * i + 4 → upd r (118 + 6 * i + 4) (nI l) q = r q := fun q hq => upd_ne hq
  have er : ∀ j w, w < 6 → w ≠ 4 → rq (upd r (118 + 6 * i + 4) (nI l)) j w = rq r j w := fun j w hw hw2 => e _ (by omega)
  refine ⟨⟨by rw [e 0 (by omega)]; exact a1, by rw [e 9 (by omega)]; exact a2, by rw [e 7 (by omega)]; exact a3, by rw [e 6 (by omega)]; exact a4⟩, a5, by rw [e 1 (by omega)]; exact a6, by rw [e 2 (by omega)]; exact a7, by rw [e 3 (by omega)]; exact a8, ?_, b1.cg (fun a' p _ _ => e _ (by omega)), fun j hj => ?_, ?_, fun a' ha' => ?_, fun k' hk' => ?_⟩
  · refine ⟨fun k hk => ?_, fun p hp => ?_⟩
    · obtain ⟨p, hp, q⟩ := a9.1 k hk
      exact ⟨p, hp, (e (10 + p) (by omega)).trans q⟩
    · obtain ⟨k, hk, q⟩ := a9.2 p hp
      exact ⟨k, hk, (e (10 + p) (by omega)).trans q⟩
  · obtain ⟨h1, h2, h3, h4, h5, x, hx, e6, h7⟩ := b2 j hj
    rw [er j 1 (by omega) (by omega), er j 2 (by omega) (by omega), er j 3 (by omega) (by omega), er j 5 (by omega) (by omega), er j 0 (by omega) (by omega)]
    refine ⟨h1, h2, h3, ?_, h5, x, hx, e6, fun p hp => ?_⟩
    · by_cases c : j = i
      · subst c
        exact ⟨l, hl.1, hl.2, upd_at _ _ _⟩
      · have : rq (upd r (118 + 6 * i + 4) (nI l)) j 4 = rq r j 4 := e _ (by omega)
        rw [this]; exact h4
    · rw [er p 0 (by omega) (by omega)]
      exact h7 p hp
  · rw [e 8 (by omega)]
    rcases b3 with b3 | ⟨j, hj, q⟩
    · exact Or.inl b3
    · exact Or.inr ⟨j, hj, (er j 0 (by omega) (by omega)).trans q⟩
  · rw [e (20 + a') (by omega), e (28 + a') (by omega), e (36 + a') (by omega)]
    exact b4 a' ha'
  · rw [e (73 + k') (by omega)]
    exact b5 k' hk'
theorem GR_time {P : Pm} {r : Nat → Int32} {t n m s : Nat} (h : GR P r t n m s) : GR P (upd r 0 (nI (t + 1))) (t + 1) n m s := by
  obtain ⟨⟨a1, a2, a3, a4⟩, a5, a6, a7, a8, a9, b1, b2, b3, b4, b5⟩ := h
  have e : ∀ q, q ≠ 0 → upd r 0 (nI (t + 1)) q = r q := fun q hq => upd_ne hq
  have er : ∀ j w, rq (upd r 0 (nI (t + 1))) j w = rq r j w := fun j w => e _ (by omega)
  refine ⟨⟨upd_at _ _ _, by rw [e 9 (by omega)]; exact a2, by rw [e 7 (by omega)]; exact a3, by rw [e 6 (by omega)]; exact a4⟩, a5, by rw [e 1 (by omega)]; exact a6, by rw [e 2 (by omega)]; exact a7, by rw [e 3 (by omega)]; exact a8, ?_, b1.cg (fun a' p _ _ => e _ (by omega)), fun j hj => ?_, ?_, fun a' ha' => ?_, fun k' hk' => ?_⟩
  · refine ⟨fun k hk => ?_, fun p hp => ?_⟩
    · obtain ⟨p, hp, q⟩ := a9.1 k hk
      exact ⟨p, hp, (e (10 + p) (by omega)).trans q⟩
    · obtain ⟨k, hk, q⟩ := a9.2 p hp
      exact ⟨k, hk, (e (10 + p) (by omega)).trans q⟩
  · obtain ⟨h1, h2, h3, h4, ⟨u, hu, eu⟩, x, hx, e6, h7⟩ := b2 j hj
    rw [er j 1, er j 2, er j 3, er j 4, er j 5, er j 0]
    refine ⟨h1, h2, h3, h4, ⟨u, by omega, eu⟩, x, hx, e6, fun p hp => ?_⟩
    rw [er p 0]
    exact h7 p hp
  · rw [e 8 (by omega)]
    rcases b3 with b3 | ⟨j, hj, q⟩
    · exact Or.inl b3
    · exact Or.inr ⟨j, hj, (er j 0).trans q⟩
  · rw [e (20 + a') (by omega), e (28 + a') (by omega), e (36 + a') (by omega)]
    exact b4 a' ha'
  · rw [e (73 + k') (by omega)]
    obtain ⟨w, hw, ew⟩ := b5 k' hk'
    refine ⟨w, ?_, ew⟩
    rw [Nat.mul_succ]
    omega

