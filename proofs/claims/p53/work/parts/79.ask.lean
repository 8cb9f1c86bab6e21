/-! asking, cancelling -/
def comS (r : Nat → Int32) (n a k l s : Nat) : Nat → Int32 := upd (upd (upd (upd (upd (upd (upd (upd r (118 + 6 * n + 0) (nI s)) (118 + 6 * n + 1) (nI a)) (118 + 6 * n + 2) (nI k)) (118 + 6 * n + 3) (nI l)) (118 + 6 * n + 4) (nI l)) (118 + 6 * n + 5) (r 0)) 9 (nI (n + 1))) 6 (nI (s + 1))
theorem comS_o {r : Nat → Int32} {n a k l s q : Nat} (h1 : ¬ (118 + 6 * n ≤ q ∧ q < 118 + 6 * n + 6)) (h2 : q ≠ 9) (h3 : q ≠ 6) : comS r n a k l s q = r q := by
  unfold comS
  rw [upd_ne h3, upd_ne h2, upd_ne (by omega), upd_ne (by omega), upd_ne (by omega), upd_ne (by omega), upd_ne (by omega), upd_ne (by omega)]
theorem comS_9 {r : Nat → Int32} {n a k l s : Nat} : comS r n a k l s 9 = nI (n + 1) := by
  unfold comS
  rw [upd_ne (by omega), upd_at]
theorem comS_6 {r : Nat → Int32} {n a k l s : Nat} : comS r n a k l s 6 = nI (s + 1) := by
  unfold comS
  rw [upd_at]
theorem comS_n {r : Nat → Int32} {n a k l s : Nat} : rq (comS r n a k l s) n 0 = nI s ∧ rq (comS r n a k l s) n 1 = nI a ∧ rq (comS r n a k l s) n 2 = nI k ∧ rq (comS r n a k l s) n 3 = nI l ∧ rq (comS r n a k l s) n 4 = nI l ∧ rq (comS r n a k l s) n 5 = r 0 := by
  unfold rq comS
  refine ⟨?_, ?_, ?_, ?_, ?_, ?_⟩ <;> simp (disch := omega) only [upd_ne, upd_at, iteN_t, iteN_f, ↓reduceIte]
theorem comS_j {r : Nat → Int32} {n a k l s j w : Nat} (hj : j < n) (hw : w < 6) : rq (comS r n a k l s) j w = rq r j w := comS_o (by omega) (by omega) (by omega)
theorem GR.com {P : Pm} {r : Nat → Int32} {t n m s a k l : Nat} (hd : P.1 ≤ 5 ∧ P.2.1 ≤ 8) (h : GR P r t n m s) (hn : n < 40) (hs : s < 9999) (ha : a < P.2.1) (hk : k < P.1) (hl : 1 ≤ l ∧ l ≤ 20) : GR P (comS r n a k l s) t (n + 1) m (s + 1) := by
  obtain ⟨⟨a1, a2, a3, a4⟩, a5, a6, a7, a8, a9, b1, b2, b3, b4, b5⟩ := h
  have e : ∀ q, ¬ (118 + 6 * n ≤ q ∧ q < 118 + 6 * n + 6) → q ≠ 9 → q ≠ 6 → comS r n a k l s q = r q := fun q => comS_o
  unfold GR
  rw [e 0 (by omega) (by omega) (by omega), e 7 (by omega) (by omega) (by omega), e 1 (by omega) (by omega) (by omega), e 2 (by omega) (by omega) (by omega), e 3 (by omega) (by omega) (by omega), e 8 (by omega) (by omega) (by omega)]
  refine ⟨⟨a1, comS_9, a3, comS_6⟩, by omega, a6, a7, a8, ?_, b1.cg (fun a p _ _ => e _ (by omega) (by omega) (by omega)), fun j hj => ?_, ?_, fun a' ha' => ?_, fun k' hk' => ?_⟩
  · refine ⟨fun k hk => ?_, fun p hp => ?_⟩
    · obtain ⟨p, hp, q⟩ := a9.1 k hk
      exact ⟨p, hp, (e (10 + p) (by omega) (by omega) (by omega)).trans q⟩
    · obtain ⟨k, hk, q⟩ := a9.2 p hp
      exact ⟨k, hk, (e (10 + p) (by omega) (by omega) (by omega)).trans q⟩
  · by_cases d : j = n
    · subst d
      obtain ⟨q0, q1, q2, q3, q4, q5⟩ := comS_n (r := r) (n := j) (a := a) (k := k) (l := l) (s := s)
      rw [q0, q1, q2, q3, q4, q5]
      refine ⟨⟨a, ha, rfl⟩, ⟨k, hk, rfl⟩, ⟨l, hl.1, hl.2, rfl⟩, ⟨l, hl.1, hl.2, rfl⟩, ⟨t, Nat.le_refl _, a1⟩, s, by omega, rfl, fun i hi => ?_⟩
      rw [comS_j hi (by omega)]
      obtain ⟨_, _, _, _, _, x, hx, ex, _⟩ := b2 i hi
      exact ⟨x, hx, ex⟩
    · obtain ⟨g1, g2, g3, g4, g5, x, hx, ex, g6⟩ := b2 j (by omega)
      rw [comS_j (by omega) (by omega), comS_j (by omega) (by omega), comS_j (by omega) (by omega), comS_j (by omega) (by omega), comS_j (by omega) (by omega), comS_j (by omega) (by omega)]
      refine ⟨g1, g2, g3, g4, g5, x, by omega, ex, fun i hi => ?_⟩
      rw [comS_j (by omega) (by omega)]
      exact g6 i hi
  · rcases b3 with b3 | ⟨i, hi, q⟩
    · exact Or.inl b3
    · exact Or.inr ⟨i, by omega, by rw [comS_j hi (by omega)]; exact q⟩
  · rw [e _ (by omega) (by omega) (by omega), e _ (by omega) (by omega) (by omega), e _ (by omega) (by omega) (by omega)]
    exact b4 a' ha'
  · rw [e _ (by omega) (by omega) (by omega)]
    exact b5 k' hk'
/-- a request comes -/
theorem c_81 {Y : Sm} {n q m a k l t s : Nat} {P : Pm} {r : Nat → Int32} (h3 : 0 < P.1 ∧ P.1 ≤ 5 ∧ 0 < P.2.1 ∧ P.2.1 ≤ 8) (hR : CR Y n P r q m) (hG : GR P r t q m s) (hq : q < 40) : ∃ Z, fn_81 n (nI a) (nI k) (nI l) Y = some (nI s, Z) ∧ Fr (SS n) Y Z ∧ CR Z n P (comS r q a k l s) (q + 1) m := by
  have e12 : gI Y.1 12 (n + 3) 1 = nI q := hR.q.1.1.trans hG.1.2.1
  have e7 : gI Y.1 21 n 7 = nI s := (hR.a 6 (by omega)).trans hG.1.2.2.2
  have e1 : gI Y.1 21 n 1 = r 0 := hR.a 0 (by omega)
  generalize hA : sI (sI (sI (sI (sI (sI Y 14 (n + 3) q (nI a)) 15 (n + 3) q (nI k)) 16 (n + 3) q (nI l)) 17 (n + 3) q (nI l)) 18 (n + 3) q (r 0)) 19 (n + 3) q (nI s) = A
  generalize hB : sI A 12 (n + 3) 1 (nI (q + 1)) = B
  have mq : ∀ K, K ∈ [12, 14, 15, 16, 17, 18, 19] → SS n K (n + 3) := fun K hK => Or.inr (Or.inr (Or.inl ⟨rfl, hK⟩))
  have fA : Fr (SS n) Y A := by
    rw [← hA]
    exact (Fr.sI (mq 14 (by decide))).tr ((Fr.sI (mq 15 (by decide))).tr ((Fr.sI (mq 16 (by decide))).tr ((Fr.sI (mq 17 (by decide))).tr ((Fr.sI (mq 18 (by decide))).tr (Fr.sI (mq 19 (by decide)))))))
  have fB : Fr (SS n) A B := by rw [← hB]; exact Fr.sI (mq 12 (by decide))
  have a12 : gI A.1 12 (n + 3) = gI Y.1 12 (n + 3) := by rw [← hA]; simp (disch := omega) only [gI_sIk]
  have e36 : fn_36 (n + 3) (nI s) (nI a) (nI k) (nI l) (r 0) Y = some ((), B) := by
    unfold fn_36
    rw [e12, iteI_le_f hq (by omega), ck_in (by omega) (by omega), ix_nI (by omega)]
    simp (disch := omega) only [wr_t, gI_sIk, e12, ck_in, ix_nI]
    rw [hA, nI_add, hB]
  have G : ∀ j i, ¬ j ∈ [12, 14, 15, 16, 17, 18, 19, 21] → gI (sI B 21 n 7 (nI (s + 1))).1 j i = gI Y.1 j i := fun j i hj => by
    simp only [List.mem_cons, List.mem_nil_iff, or_false, not_or] at hj
    rw [gI_sIk (by omega), ← hB, gI_sIk (by omega), ← hA]
    simp (disch := omega) only [gI_sIk]
  have e : ∀ x, ¬ (118 + 6 * q ≤ x ∧ x < 118 + 6 * q + 6) → x ≠ 9 → x ≠ 6 → comS r q a k l s x = r x := fun x => comS_o
  refine ⟨sI B 21 n 7 (nI (s + 1)), ?_, (fA.tr fB).tr (Fr.sI (Or.inr (Or.inl ⟨rfl, by decide⟩))), ?_, fun x hx => ?_, ⟨⟨?_, ?_⟩, fun j hj => ?_⟩, hR.k.cg (G _ _ (by decide)) (G _ _ (by decide)) (G _ _ (by decide)) (by rw [gJ_sI, ← hB, gJ_sI, ← hA]; rfl) (fun j _ => ⟨e _ (by omega) (by omega) (by omega), e _ (by omega) (by omega) (by omega), e _ (by omega) (by omega) (by omega), e _ (by omega) (by omega) (by omega)⟩), hR.u.cg (G _ _ (by decide)) (G _ _ (by decide)) (G _ _ (by decide)) (G _ _ (by decide)) (G _ _ (by decide)) (G _ _ (by decide)) (fun x _ _ => e _ (by omega) (by omega) (by omega)) h3.2.2.2, hR.b.cg (fun _ _ => G _ _ (by decide)) (fun a p _ _ => e _ (by omega) (by omega) (by omega)), hR.l.cg (G _ _ (by decide)) (G _ _ (by decide)) (fun x _ _ => e _ (by omega) (by omega) (by omega))⟩
  · unfold fn_81
    have b21 : gI B.1 21 n = gI Y.1 21 n := by
      rw [← hB, gI_sIk (by omega), ← hA]
      simp (disch := omega) only [gI_sIk]
    rw [e7, e1, e36, bd_t, b21, e7, nI_add, wr_t]
  · rw [g_sI, fB.1, fA.1]
    exact hR.p.cg (G _ _ (by decide)) (G _ _ (by decide)) (G _ _ (by decide))
  · have b21 : gI B.1 21 n = gI Y.1 21 n := by
      rw [← hB, gI_sIk (by omega), ← hA]
      simp (disch := omega) only [gI_sIk]
    rw [gI_sIv, b21]
    by_cases d : x = 6
    · rw [d, upd_at, comS_6]
    · rw [upd_ne (by omega), e x (by omega) (by omega) d]
      exact hR.a x hx
  · rw [gI_sIk (by omega), ← hB, gI_sIv, upd_at, comS_9]
  · rw [gI_sIk (by omega), ← hB, gI_sIv, upd_ne (by omega), a12, e 8 (by omega) (by omega) (by omega)]
    exact hR.q.1.2
  · have bk : ∀ K, K ≠ 12 → K ≠ 21 → gI (sI B 21 n 7 (nI (s + 1))).1 K (n + 3) = gI A.1 K (n + 3) := fun K h1 h2 => by rw [gI_sIk h2, ← hB, gI_sIk h1]
    rw [bk 19 (by omega) (by omega), bk 14 (by omega) (by omega), bk 15 (by omega) (by omega), bk 16 (by omega) (by omega), bk 17 (by omega) (by omega), bk 18 (by omega) (by omega), ← hA]
    by_cases d : j = q
    · subst d
      obtain ⟨q0, q1, q2, q3, q4, q5⟩ := comS_n (r := r) (n := j) (a := a) (k := k) (l := l) (s := s)
      rw [q0, q1, q2, q3, q4, q5]
      refine ⟨?_, ?_, ?_, ?_, ?_, ?_⟩ <;> simp (disch := omega) only [gI_sIk, gI_sIv, upd_at]
    · obtain ⟨g0, g1, g2, g3, g4, g5⟩ := hR.q.2 j (by omega)
      rw [comS_j (by omega) (by omega), comS_j (by omega) (by omega), comS_j (by omega) (by omega), comS_j (by omega) (by omega), comS_j (by omega) (by omega), comS_j (by omega) (by omega)]
      refine ⟨?_, ?_, ?_, ?_, ?_, ?_⟩
      · simp (disch := omega) only [gI_sIk, gI_sIv, upd_ne]; exact g0
      · simp (disch := omega) only [gI_sIk, gI_sIv, upd_ne]; exact g1
      · simp (disch := omega) only [gI_sIk, gI_sIv, upd_ne]; exact g2
      · simp (disch := omega) only [gI_sIk, gI_sIv, upd_ne]; exact g3
      · simp (disch := omega) only [gI_sIk, gI_sIv, upd_ne]; exact g4
      · simp (disch := omega) only [gI_sIk, gI_sIv, upd_ne]; exact g5
/-! cancelling -/
theorem remS_o {r : Nat → Int32} {i n q : Nat} (hi : i < n) (hn : n ≤ 40) (h : q < 118 ∨ 358 ≤ q) (h9 : q ≠ 9) : remS r i n q = r q := by
  unfold remS
  rw [if_neg (by omega), upd_ne h9]
theorem GR.rem {P : Pm} {r : Nat → Int32} {t n m s i : Nat} (hd : P.1 ≤ 5 ∧ P.2.1 ≤ 8) (h : GR P r t n m s) (hi : i < n) (hw : rq r i 0 ≠ r 8) : GR P (remS r i n) t (n - 1) m s := by
  obtain ⟨⟨a1, a2, a3, a4⟩, a5, a6, a7, a8, a9, b1, b2, b3, b4, b5⟩ := h
  have e : ∀ q, (q < 118 ∨ 358 ≤ q) → q ≠ 9 → remS r i n q = r q := fun q => remS_o hi a5.1
  have er : ∀ j w, j < n - 1 → w < 6 → rq (remS r i n) j w = if j < i then rq r j w else rq r (j + 1) w := fun j w hj hw => rem_rq hi hj hw
  unfold GR
  rw [e 0 (by omega) (by omega), e 7 (by omega) (by omega), e 6 (by omega) (by omega), e 1 (by omega) (by omega), e 2 (by omega) (by omega), e 3 (by omega) (by omega), e 8 (by omega) (by omega)]
  refine ⟨⟨a1, ?_, a3, a4⟩, by omega, a6, a7, a8, ?_, b1.cg (fun a p _ _ => e _ (by omega) (by omega)), fun j hj => ?_, ?_, fun a' ha' => ?_, fun k' hk' => ?_⟩
  · unfold remS
    rw [if_neg (by omega), upd_at]
  · refine ⟨fun k hk => ?_, fun p hp => ?_⟩
    · obtain ⟨p, hp, q⟩ := a9.1 k hk
      exact ⟨p, hp, (e (10 + p) (by omega) (by omega)).trans q⟩
    · obtain ⟨k, hk, q⟩ := a9.2 p hp
      exact ⟨k, hk, (e (10 + p) (by omega) (by omega)).trans q⟩
  · have hex : ∃ j', j' < n ∧ j' = (if j < i then j else j + 1) := ⟨_, by split <;> omega, rfl⟩
    obtain ⟨j', hj', ej⟩ := hex
    have er' : ∀ w, w < 6 → rq (remS r i n) j w = rq r j' w := fun w hw => by
      rw [er j w hj hw, ej]
      by_cases c : j < i
      · rw [if_pos c, if_pos c]
      · rw [if_neg c, if_neg c]
    obtain ⟨h1, h2, h3, h4, h5, x, hx, e6, h7⟩ := b2 j' hj'
    rw [er' 1 (by omega), er' 2 (by omega), er' 3 (by omega), er' 4 (by omega), er' 5 (by omega), er' 0 (by omega)]
    refine ⟨h1, h2, h3, h4, h5, x, hx, e6, fun p hp => ?_⟩
    rw [er p 0 (by omega) (by omega)]
    by_cases c : p < i
    · rw [if_pos c]
      exact h7 p (by rw [ej]; split <;> omega)
    · rw [if_neg c]
      exact h7 (p + 1) (by rw [ej]; split <;> omega)
  · rcases b3 with b3 | ⟨i', hi', q⟩
    · exact Or.inl b3
    · right
      have hne : i' ≠ i := fun z => hw (by rw [← z]; exact q)
      rcases Nat.lt_or_ge i' i with g | g
      · exact ⟨i', by omega, by rw [er i' 0 (by omega) (by omega), if_pos g]; exact q⟩
      · exact ⟨i' - 1, by omega, by rw [er (i' - 1) 0 (by omega) (by omega), if_neg (by omega), show i' - 1 + 1 = i' by omega]; exact q⟩
  · rw [e _ (by omega) (by omega), e _ (by omega) (by omega), e _ (by omega) (by omega)]
    exact b4 a' ha'
  · rw [e _ (by omega) (by omega)]
    exact b5 k' hk'
theorem c_37R {Y : Sm} {n q m i : Nat} {P : Pm} {r : Nat → Int32} (h3 : 0 < P.1 ∧ P.1 ≤ 5 ∧ 0 < P.2.1 ∧ P.2.1 ≤ 8) (hR : CR Y n P r q m) (h9 : r 9 = nI q) (hq : q ≤ 40) (hi : i < q) : ∃ Z, fn_37 (n + 3) (nI i) Y = some ((), Z) ∧ Fr (SS n) Y Z ∧ CR Z n P (remS r i q) (q - 1) m := by
  obtain ⟨Z, eZ, fZ, qZ⟩ := c_37 hR.q h9 hq hi
  have e : ∀ x, (x < 118 ∨ 358 ≤ x) → x ≠ 9 → remS r i q x = r x := fun x => remS_o hi hq
  have G : ∀ j i, ¬ j ∈ [12, 14, 15, 16, 17, 18, 19] → gI Z.1 j i = gI Y.1 j i := fun j i hj => fZ.gI (fun z => hj z.2)
  refine ⟨Z, eZ, fZ.up (fun k i z => Or.inr (Or.inr (Or.inl z))), ?_, hR.a.cg (G _ _ (by decide)) (fun x _ => e _ (by omega) (by omega)), qZ, hR.k.cg (G _ _ (by decide)) (G _ _ (by decide)) (G _ _ (by decide)) (fZ.gJ (fun z => absurd z.2 (by decide))) (fun j _ => ⟨e _ (by omega) (by omega), e _ (by omega) (by omega), e _ (by omega) (by omega), e _ (by omega) (by omega)⟩), hR.u.cg (G _ _ (by decide)) (G _ _ (by decide)) (G _ _ (by decide)) (G _ _ (by decide)) (G _ _ (by decide)) (G _ _ (by decide)) (fun x _ _ => e _ (by omega) (by omega)) h3.2.2.2, hR.b.cg (fun _ _ => G _ _ (by decide)) (fun a p _ _ => e _ (by omega) (by omega)), hR.l.cg (G _ _ (by decide)) (G _ _ (by decide)) (fun x _ _ => e _ (by omega) (by omega))⟩
  rw [fZ.1]
  exact hR.p.cg (G _ _ (by decide)) (G _ _ (by decide)) (G _ _ (by decide))
