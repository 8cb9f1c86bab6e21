/-! changes: rows -/
theorem GR.of {P : Pm} {r r' : Nat → Int32} {t n m s : Nat} (h : GR P r t n m s) (e0 : r' 0 = r 0) (e9 : r' 9 = r 9) (e7 : r' 7 = r 7) (e6 : r' 6 = r 6) (e8 : r' 8 = r 8) (h1 : ∃ x, x < 3 ∧ r' 1 = nI x) (e2 : r' 2 = r 2) (h3 : r' 3 = nI 0 ∨ r' 3 = nI 1) (eo : ∀ p, p < P.1 → r' (10 + p) = r (10 + p)) (hB : BalI r' P.1 P.2.1) (er : ∀ j w, j < n → w < 6 → rq r' j w = rq r j w) (hA : AccI r' P.2.1) (ew : ∀ k, k < P.1 → r' (73 + k) = r (73 + k)) : GR P r' t n m s := by
  obtain ⟨⟨a1, a2, a3, a4⟩, a5, a6, a7, a8, a9, b1, b2, b3, b4, b5⟩ := h
  unfold GR
  rw [e0, e9, e7, e6, e2]
  refine ⟨⟨a1, a2, a3, a4⟩, a5, h1, a7, h3, ?_, hB, b2.cg er, ?_, hA, fun k hk => ?_⟩
  · refine ⟨fun k hk => ?_, fun p hp => ?_⟩
    · obtain ⟨p, hp, q⟩ := a9.1 k hk
      exact ⟨p, hp, (eo p hp).trans q⟩
    · obtain ⟨k, hk, q⟩ := a9.2 p hp
      exact ⟨k, hk, (eo p hp).trans q⟩
  · rw [e8]
    rcases b3 with b3 | ⟨i, hi, q⟩
    · exact Or.inl b3
    · exact Or.inr ⟨i, hi, (er i 0 hi (by omega)).trans q⟩
  · rw [ew k hk]; exact b5 k hk
theorem GR.tly {P : Pm} {r : Nat → Int32} {t n m s x : Nat} (hd : P.1 ≤ 5 ∧ P.2.1 ≤ 8) (h : GR P r t n m s) (hx : x < 3) : GR P (upd r 1 (nI x)) t n m s := by
  have e : ∀ q, q ≠ 1 → upd r 1 (nI x) q = r q := fun q hq => upd_ne hq
  refine h.of (e _ (by omega)) (e _ (by omega)) (e _ (by omega)) (e _ (by omega)) (e _ (by omega)) ⟨x, hx, upd_at _ _ _⟩ (e _ (by omega)) (by rw [e 3 (by omega)]; exact h.2.2.2.2.1) (fun p _ => e _ (by omega)) (h.2.2.2.2.2.2.1.cg (fun a p _ _ => e _ (by omega))) (fun j w _ _ => e _ (by omega)) (fun a ha => ?_) (fun k _ => e _ (by omega))
  rw [e _ (by omega), e _ (by omega), e _ (by omega)]
  exact h.2.2.2.2.2.2.2.2.2.1 a ha
theorem GR.man {P : Pm} {r : Nat → Int32} {t n m s k : Nat} {v : Int32} (hd : P.1 ≤ 5 ∧ P.2.1 ≤ 8) (h : GR P r t n m s) (hk : k < 5) : GR P (upd r (15 + k) v) t n m s := by
  have e : ∀ q, q ≠ 15 + k → upd r (15 + k) v q = r q := fun q hq => upd_ne hq
  refine h.of (e _ (by omega)) (e _ (by omega)) (e _ (by omega)) (e _ (by omega)) (e _ (by omega)) (by rw [e 1 (by omega)]; exact h.2.2.1) (e _ (by omega)) (by rw [e 3 (by omega)]; exact h.2.2.2.2.1) (fun p _ => e _ (by omega)) (h.2.2.2.2.2.2.1.cg (fun a p _ _ => e _ (by omega))) (fun j w _ _ => e _ (by omega)) (fun a ha => ?_) (fun k _ => e _ (by omega))
  rw [e _ (by omega), e _ (by omega), e _ (by omega)]
  exact h.2.2.2.2.2.2.2.2.2.1 a ha
theorem u17 {W : Sm} {u : Nat} {v : Int32} (h : gI W.1 48 0 17 = nI u) : gI (sI W 48 0 0 v).1 48 0 17 = nI u := by rw [gI_sIv, upd_ne (by omega)]; exact h
/-- state 0 behind the push -/
theorem CcS.a {Y A : Sm} {P : Pm} {r : Nat → Int32} {c u pos : Nat} (h : CcS Y A P r c u pos) : A.2 3 = A.2 0 ∧ ∃ t q m s, CR A 0 P r q m ∧ GR P r t q m s ∧ t ≤ 500 * (c + 1) ∧ s ≤ 40 + (c + 1) ∧ AnI r P.2.1 m := h.2.2.2.1
/-! paying back -/
theorem sI_sI {Y : Sm} {k i a b : Nat} {v w : Int32} : sI (sI Y k i a v) k i b w = sF Y k i (upd (upd (gI Y.1 k i) a v) b w) := by
  rw [sI_sF Y k i a v, sI_s]
def minS (a b : Int32) : Int32 := if b ≤ a then b else a
theorem min_c (a b : Int32) : (if b < a then b else a) = minS a b := by
  unfold minS
  by_cases h : b < a
  · rw [if_pos h, if_pos (Int32.le_of_lt h)]
  · rw [if_neg h]
    by_cases h2 : b ≤ a
    · rw [if_pos h2]
      exact Int32.le_antisymm (Int32.not_lt.mp h) h2
    · rw [if_neg h2]
def paidS (r : Nat → Int32) (a : Nat) : Int32 := minS (r (20 + a)) (r (28 + a))
def payS (r : Nat → Int32) (a : Nat) : Nat → Int32 := upd (upd r (20 + a) (r (20 + a) - paidS r a)) (28 + a) (r (28 + a) - paidS r a)
theorem payS_o {r : Nat → Int32} {a q : Nat} (h1 : q ≠ 20 + a) (h2 : q ≠ 28 + a) : payS r a q = r q := by
  unfold payS
  rw [upd_ne h2, upd_ne h1]
theorem payS_c {r : Nat → Int32} {a : Nat} : payS r a (20 + a) = r (20 + a) - paidS r a := by
  unfold payS
  rw [upd_ne (by omega), upd_at]
theorem payS_d {r : Nat → Int32} {a : Nat} : payS r a (28 + a) = r (28 + a) - paidS r a := by
  unfold payS
  rw [upd_at]
theorem paid_n {r : Nat → Int32} {a x d : Nat} (h1 : r (20 + a) = nI x) (h2 : r (28 + a) = nI d) (hx : x ≤ 999) (hd : d ≤ 99) : paidS r a = nI (if d ≤ x then d else x) := by
  unfold paidS minS
  rw [h1, h2]
  rcases Nat.lt_or_ge x d with w | w
  · rw [iteI_le_f w (by omega), if_neg (by omega)]
  · rw [iteI_le_t w (by omega), if_pos (by omega)]
theorem GR.pay {P : Pm} {r : Nat → Int32} {t n m s a : Nat} (hd : P.1 ≤ 5 ∧ P.2.1 ≤ 8) (h : GR P r t n m s) (ha : a < P.2.1) : GR P (payS r a) t n m s := by
  have e : ∀ q, q ≠ 20 + a → q ≠ 28 + a → payS r a q = r q := fun q => payS_o
  have hA := h.2.2.2.2.2.2.2.2.2.1
  refine h.of (e _ (by omega) (by omega)) (e _ (by omega) (by omega)) (e _ (by omega) (by omega)) (e _ (by omega) (by omega)) (e _ (by omega) (by omega)) (by rw [e 1 (by omega) (by omega)]; exact h.2.2.1) (e _ (by omega) (by omega)) (by rw [e 3 (by omega) (by omega)]; exact h.2.2.2.2.1) (fun p _ => e _ (by omega) (by omega)) (h.2.2.2.2.2.2.1.cg (fun a p _ _ => e _ (by omega) (by omega))) (fun j w _ _ => e _ (by omega) (by omega)) (fun a' ha' => ?_) (fun k _ => e _ (by omega) (by omega))
  by_cases d : a' = a
  · subst d
    obtain ⟨⟨x, hx, ex⟩, ⟨y, hy, ey⟩, hz⟩ := hA a' ha'
    have ep := paid_n ex ey hx hy
    rw [payS_c, payS_d, e (36 + a') (by omega) (by omega), ep, ex, ey, pk_sub (by split <;> omega), pk_sub (by split <;> omega)]
    exact ⟨⟨_, by omega, rfl⟩, ⟨_, by omega, rfl⟩, hz⟩
  · rw [e _ (by omega) (by omega), e _ (by omega) (by omega), e _ (by omega) (by omega)]
    exact hA a' ha'
