/-! good rows, and what a tick keeps -/
theorem Rkd_ex {lt : Nat → Nat → Bool} {n : Nat} (hS : Sto lt n) : ∀ m, m ≤ n → ∃ row, Rkd lt m row := by
  intro m
  induction m with
  | zero => intro _; exact ⟨fun _ => 0, fun p hp => absurd hp (Nat.not_lt_zero _)⟩
  | succ m ih =>
    intro hm
    obtain ⟨row, h⟩ := ih (by omega)
    refine ⟨fun p => if p < rkN lt m m then row p else (if p = rkN lt m m then m else row (p - 1)), Rkd_step hS (by omega) h (fun p hp => if_pos hp) ?_ (fun p hp hp2 => ?_)⟩
    · show (if rkN lt m m < rkN lt m m then _ else _) = m
      rw [if_neg (Nat.lt_irrefl _), if_pos rfl]
    · show (if p + 1 < rkN lt m m then _ else _) = row p
      rw [if_neg (by omega), if_neg (by omega)]
      rfl
/-- what a vote's outcome must be -/
def OutOK (P : Pm) (r : Nat → Int32) (lo t : Int32) (f : Nat → Int32) : Prop := (anyS P r lo = true → ∀ k, k < P.1 → f (rkS P r lo t k) = nI k) ∧ (anyS P r lo = false → ∀ p, p < P.1 → f p = r (10 + p))
theorem outc_ok (P : Pm) (r : Nat → Int32) (lo t : Int32) (f : Nat → Int32) : OutOK P r lo t (outc P r lo t f) :=
  ⟨fun h k hk => outS_any h P.1 (Nat.le_refl _) k hk, fun h p hp => outS_none h P.1 p hp⟩
def OrdI (f : Nat → Int32) (C : Nat) : Prop := (∀ k, k < C → ∃ p, p < C ∧ f p = nI k) ∧ (∀ p, p < C → ∃ k, k < C ∧ f p = nI k)
theorem OutOK.ord {P : Pm} {r : Nat → Int32} {lo t : Int32} {f : Nat → Int32} (h : OutOK P r lo t f) (ho : OrdI (fun p => r (10 + p)) P.1) : OrdI f P.1 := by
  cases ha : anyS P r lo with
  | true =>
    have h1 := h.1 ha
    refine ⟨fun k hk => ⟨_, rkS_lt P r lo t hk, h1 k hk⟩, fun p hp => ?_⟩
    obtain ⟨row, hr⟩ := Rkd_ex (bet_sto P r lo t) P.1 (Nat.le_refl _)
    obtain ⟨a1, a2⟩ := hr p hp
    refine ⟨row p, a1, ?_⟩
    have := h1 (row p) a1
    unfold rkS at this
    rw [a2] at this
    exact this
  | false =>
    have h2 := h.2 ha
    refine ⟨fun k hk => ?_, fun p hp => ?_⟩
    · obtain ⟨p, hp, e⟩ := ho.1 k hk
      exact ⟨p, hp, (h2 p hp).trans e⟩
    · rw [h2 p hp]; exact ho.2 p hp
/-- the requests of a row: asker, class, length, left, since, serial -/
def RqG (r : Nat → Int32) (C A n s t : Nat) : Prop := ∀ j, j < n → (∃ a, a < A ∧ rq r j 1 = nI a) ∧ (∃ k, k < C ∧ rq r j 2 = nI k) ∧ (∃ l, 1 ≤ l ∧ l ≤ 20 ∧ rq r j 3 = nI l) ∧ (∃ l, 1 ≤ l ∧ l ≤ 20 ∧ rq r j 4 = nI l) ∧ (∃ u, u ≤ t ∧ rq r j 5 = nI u) ∧ (∃ x, x < s ∧ rq r j 0 = nI x ∧ ∀ i, i < j → ∃ y, y < x ∧ rq r i 0 = nI y)
def AccI (r : Nat → Int32) (A : Nat) : Prop := ∀ a, a < A → (∃ x, x ≤ 999 ∧ r (20 + a) = nI x) ∧ (∃ x, x ≤ 99 ∧ r (28 + a) = nI x) ∧ (∃ x, x ≤ 99 ∧ r (36 + a) = nI x)
def WtI (r : Nat → Int32) (C m t : Nat) : Prop := ∀ k, k < C → ∃ v, v ≤ m * t ∧ r (73 + k) = nI v
/-- a good row: the time t, n requests that wait, m answers, s asked -/
def GR (P : Pm) (r : Nat → Int32) (t n m s : Nat) : Prop :=
  (r 0 = nI t ∧ r 9 = nI n ∧ r 7 = nI m ∧ r 6 = nI s) ∧ (n ≤ 40 ∧ m + n ≤ s ∧ s ≤ 9999) ∧ (∃ x, x < 3 ∧ r 1 = nI x) ∧ (∃ a, a < P.2.1 ∧ r 2 = nI a) ∧ (r 3 = nI 0 ∨ r 3 = nI 1) ∧ OrdI (fun p => r (10 + p)) P.1 ∧ BalI r P.1 P.2.1 ∧ RqG r P.1 P.2.1 n s t ∧ (r 8 = (-1 : Int32) ∨ ∃ i, i < n ∧ rq r i 0 = r 8) ∧ AccI r P.2.1 ∧ WtI r P.1 m t
theorem RqG.i {r : Nat → Int32} {C A n s t : Nat} (h : RqG r C A n s t) : RqI r C A n := fun j hj => ⟨(h j hj).1, (h j hj).2.1⟩
theorem RqG.cg {r r' : Nat → Int32} {C A n s t : Nat} (h : RqG r C A n s t) (e : ∀ j w, j < n → w < 6 → rq r' j w = rq r j w) : RqG r' C A n s t := fun j hj => by
  obtain ⟨h1, h2, h3, h4, h5, x, hx, e6, h7⟩ := h j hj
  rw [e j 1 hj (by omega), e j 2 hj (by omega), e j 3 hj (by omega), e j 4 hj (by omega), e j 5 hj (by omega), e j 0 hj (by omega)]
  refine ⟨h1, h2, h3, h4, h5, x, hx, e6, fun i hi => ?_⟩
  rw [e i 0 (by omega) (by omega)]
  exact h7 i hi
theorem BalI.cg {r r' : Nat → Int32} {C A : Nat} (h : BalI r C A) (e : ∀ a p, a < A → p < C → bal r' a p = bal r a p) : BalI r' C A := fun a ha => by
  obtain ⟨h1, h2⟩ := h a ha
  refine ⟨fun k hk => ?_, fun p hp => ?_⟩
  · obtain ⟨p, hp, q⟩ := h1 k hk
    exact ⟨p, hp, (e a p ha hp).trans q⟩
  · rw [e a p ha hp]; exact h2 p hp
theorem GR_ord {P : Pm} {r f : Nat → Int32} {t n m s : Nat} {lo : Int32} (hC : P.1 ≤ 5) (h : GR P r t n m s) (hf : OutOK P r lo (r 1) f) : GR P (ordS P r f) t n m s := by
  obtain ⟨⟨a1, a2, a3, a4⟩, a5, a6, a7, a8, a9, b1, b2, b3, b4, b5⟩ := h
  have e : ∀ q, q ≠ 4 → q ≠ 5 → ¬ (10 ≤ q ∧ q < 10 + P.1) → ordS P r f q = r q := fun q h4 h5 h6 => by
    unfold ordS
    rw [if_neg h4, if_neg h5, if_neg h6]
  have eo : ∀ p, p < P.1 → ordS P r f (10 + p) = f p := fun p hp => by
    unfold ordS
    rw [if_neg (by omega), if_neg (by omega), if_pos (by omega)]
    congr 1
    omega
  have er : ∀ j w, j < n → w < 6 → rq (ordS P r f) j w = rq r j w := fun j w _ _ => e _ (by omega) (by omega) (by omega)
  refine ⟨⟨by rw [e 0 (by omega) (by omega) (by omega)]; exact a1, by rw [e 9 (by omega) (by omega) (by omega)]; exact a2, by rw [e 7 (by omega) (by omega) (by omega)]; exact a3, by rw [e 6 (by omega) (by omega) (by omega)]; exact a4⟩, a5, by rw [e 1 (by omega) (by omega) (by omega)]; exact a6, by rw [e 2 (by omega) (by omega) (by omega)]; exact a7, by rw [e 3 (by omega) (by omega) (by omega)]; exact a8, ?_, b1.cg (fun a p _ _ => e _ (by omega) (by omega) (by omega)), b2.cg er, ?_, fun a ha => ?_, fun k hk => ?_⟩
  · obtain ⟨o1, o2⟩ := hf.ord a9
    refine ⟨fun k hk => ?_, fun p hp => ?_⟩
    · obtain ⟨p, hp, q⟩ := o1 k hk
      exact ⟨p, hp, (eo p hp).trans q⟩
    · show ∃ k, k < P.1 ∧ ordS P r f (10 + p) = nI k
      rw [eo p hp]; exact o2 p hp
  · rw [e 8 (by omega) (by omega) (by omega)]
    rcases b3 with b3 | ⟨i, hi, q⟩
    · exact Or.inl b3
    · exact Or.inr ⟨i, hi, (er i 0 hi (by omega)).trans q⟩
  · rw [e (20 + a) (by omega) (by omega) (by omega), e (28 + a) (by omega) (by omega) (by omega), e (36 + a) (by omega) (by omega) (by omega)]
    exact b4 a ha
  · rw [e (73 + k) (by omega) (by omega) (by omega)]
    exact b5 k hk
theorem GR_pas {P : Pm} {r : Nat → Int32} {t n m s a : Nat} (hC : P.1 ≤ 5) (hA : 0 < P.2.1 ∧ P.2.1 ≤ 8) (h : GR P r t n m s) (h2 : r 2 = nI a) (ha : a < P.2.1) : GR P (pasS P r a) t n m s := by
  obtain ⟨⟨a1, a2, a3, a4⟩, a5, a6, a7, a8, a9, b1, b2, b3, b4, b5⟩ := h
  have e : ∀ q, q ≠ 2 → q ≠ 3 → q ≠ 36 + a → pasS P r a q = r q := fun q h4 h5 h6 => by
    unfold pasS
    rw [if_neg h4, if_neg h5, if_neg (fun z => h6 z.1)]
  have er : ∀ j w, j < n → w < 6 → rq (pasS P r a) j w = rq r j w := fun j w _ _ => e _ (by omega) (by omega) (by omega)
  refine ⟨⟨by rw [e 0 (by omega) (by omega) (by omega)]; exact a1, by rw [e 9 (by omega) (by omega) (by omega)]; exact a2, by rw [e 7 (by omega) (by omega) (by omega)]; exact a3, by rw [e 6 (by omega) (by omega) (by omega)]; exact a4⟩, a5, by rw [e 1 (by omega) (by omega) (by omega)]; exact a6, ⟨(a + 1) % P.2.1, Nat.mod_lt _ hA.1, rfl⟩, Or.inl rfl, ?_, b1.cg (fun a' p _ _ => e _ (by omega) (by omega) (by omega)), b2.cg er, ?_, fun a' ha' => ?_, fun k hk => ?_⟩
  · refine ⟨fun k hk => ?_, fun p hp => ?_⟩
    · obtain ⟨p, hp, q⟩ := a9.1 k hk
      exact ⟨p, hp, (e (10 + p) (by omega) (by omega) (by omega)).trans q⟩
    · show ∃ k, k < P.1 ∧ pasS P r a (10 + p) = nI k
      rw [e (10 + p) (by omega) (by omega) (by omega)]; exact a9.2 p hp
  · rw [e 8 (by omega) (by omega) (by omega)]
    rcases b3 with b3 | ⟨i, hi, q⟩
    · exact Or.inl b3
    · exact Or.inr ⟨i, hi, (er i 0 hi (by omega)).trans q⟩
  · obtain ⟨c1, c2, c3⟩ := b4 a' ha'
    rw [e (20 + a') (by omega) (by omega) (by omega), e (28 + a') (by omega) (by omega) (by omega)]
    refine ⟨c1, c2, ?_⟩
    by_cases q : a' = a
    · subst q
      obtain ⟨x, hx, ex⟩ := c3
      show ∃ x, x ≤ 99 ∧ (if 36 + a' = 2 then _ else _) = nI x
      rw [if_neg (by omega), if_neg (by omega)]
      by_cases z : r 3 = nI 0
      · rw [if_pos ⟨rfl, z⟩, ex, nI_add]
        rcases Nat.lt_or_ge x 99 with w | w
        · exact ⟨x + 1, by omega, by simp (disch := omega) only [iteI_le_t]⟩
        · exact ⟨99, by omega, by simp (disch := omega) only [iteI_le_f]⟩
      · rw [if_neg (fun w => z w.2)]
        exact ⟨x, hx, ex⟩
    · rw [e (36 + a') (by omega) (by omega) (by omega)]
      exact c3
  · rw [e (73 + k) (by omega) (by omega) (by omega)]
    exact b5 k hk
theorem GR_tak {P : Pm} {r : Nat → Int32} {t n m s : Nat} (h : GR P r t n m s) (h8 : r 8 = (-1 : Int32)) : GR P (takS r n P.1) t n m s := by
  unfold takS
  rcases Nat.lt_or_ge (nxtN r n P.1) P.1 with c | c
  · have hy := srch_yes (p := fun j => !hasS (r 4) (r (10 + j)) && !Nat.ble n (lineN r n (r (10 + j)) (nI 0))) c
    have hb : Nat.ble n (lineN r n (r (10 + nxtN r n P.1)) (nI 0)) = false := by
      have := (Bool.and_eq_true_iff.mp hy).2
      rwa [Bool.not_eq_true'] at this
    have hl : lineN r n (r (10 + nxtN r n P.1)) (nI 0) < n := by
      rcases Nat.lt_or_ge (lineN r n (r (10 + nxtN r n P.1)) (nI 0)) n with q | q
      · exact q
      · rw [ble_t q] at hb; cases hb
    rw [ble_f c, cnd_f]
    obtain ⟨⟨a1, a2, a3, a4⟩, a5, a6, a7, a8, a9, b1, b2, b3, b4, b5⟩ := h
    have e : ∀ q, q ≠ 8 → upd r 8 (rq r (lineN r n (r (10 + nxtN r n P.1)) (nI 0)) 0) q = r q := fun q hq => upd_ne hq
    have er : ∀ j w, j < n → w < 6 → rq (upd r 8 (rq r (lineN r n (r (10 + nxtN r n P.1)) (nI 0)) 0)) j w = rq r j w := fun j w _ _ => e _ (by omega)
    refine ⟨⟨by rw [e 0 (by omega)]; exact a1, by rw [e 9 (by omega)]; exact a2, by rw [e 7 (by omega)]; exact a3, by rw [e 6 (by omega)]; exact a4⟩, a5, by rw [e 1 (by omega)]; exact a6, by rw [e 2 (by omega)]; exact a7, by rw [e 3 (by omega)]; exact a8, ?_, b1.cg (fun a' p _ _ => e _ (by omega)), b2.cg er, Or.inr ⟨_, hl, by rw [er _ 0 hl (by omega), upd_at]⟩, fun a' ha' => ?_, fun k hk => ?_⟩
    · have : (fun p => upd r 8 (rq r (lineN r n (r (10 + nxtN r n P.1)) (nI 0)) 0) (10 + p)) = fun p => r (10 + p) := funext fun p => e _ (by omega)
      rw [this]; exact a9
    · rw [e (20 + a') (by omega), e (28 + a') (by omega), e (36 + a') (by omega)]
      exact b4 a' ha'
    · rw [e (73 + k) (by omega)]
      exact b5 k hk
  · rw [ble_t c, cnd_t]
    exact h

