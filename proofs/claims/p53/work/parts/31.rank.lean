/-! ranks under a strict order of the numbers below n -/
def rkN (lt : Nat → Nat → Bool) (m k : Nat) : Nat := cntN (fun o => lt o k) m
def Sto (lt : Nat → Nat → Bool) (n : Nat) : Prop := (∀ a, a < n → lt a a = false) ∧ (∀ a b c, a < n → b < n → c < n → lt a b = true → lt b c = true → lt a c = true) ∧ (∀ a b, a < n → b < n → a ≠ b → lt a b = true ∨ lt b a = true)
theorem cntN_mono {p q : Nat → Bool} {m : Nat} (h : ∀ j, j < m → p j = true → q j = true) : cntN p m ≤ cntN q m := by
  induction m with
  | zero => exact Nat.le_refl _
  | succ m ih =>
    have i := ih (fun j hj => h j (by omega))
    unfold cntN
    cases hp : p m with
    | true => rw [h m (by omega) hp]; exact Nat.succ_le_succ i
    | false =>
      cases q m with
      | true => exact Nat.le_succ_of_le i
      | false => exact i
theorem cntN_lt {p q : Nat → Bool} {m a : Nat} (ha : a < m) (h : ∀ j, j < m → p j = true → q j = true) (h1 : p a = false) (h2 : q a = true) : cntN p m < cntN q m := by
  induction m with
  | zero => exact absurd ha (Nat.not_lt_zero _)
  | succ m ih =>
    by_cases hm : a = m
    · subst hm
      have i := cntN_mono (p := p) (q := q) (m := a) (fun j hj => h j (by omega))
      unfold cntN
      rw [h1, h2]
      exact Nat.lt_succ_of_le i
    · have i := ih (by omega) (fun j hj => h j (by omega))
      unfold cntN
      cases hp : p m with
      | true => rw [h m (by omega) hp]; exact Nat.succ_lt_succ i
      | false =>
        cases q m with
        | true => exact Nat.lt_succ_of_lt i
        | false => exact i
theorem rkN_lt {lt : Nat → Nat → Bool} {n m a b : Nat} (hS : Sto lt n) (hm : m ≤ n) (ha : a < m) (hb : b < n) (h : lt a b = true) : rkN lt m a < rkN lt m b :=
  cntN_lt ha (fun j hj hp => hS.2.1 j a b (by omega) (by omega) hb hp h) (hS.1 a (by omega)) h
theorem rkN_le {lt : Nat → Nat → Bool} {n m a b : Nat} (hS : Sto lt n) (hm : m ≤ n) (ha : a < n) (hb : b < n) (h : lt a b = true) : rkN lt m a ≤ rkN lt m b :=
  cntN_mono (fun j hj hp => hS.2.1 j a b (by omega) ha hb hp h)
theorem rkN_inj {lt : Nat → Nat → Bool} {n a b : Nat} (hS : Sto lt n) (ha : a < n) (hb : b < n) (h : rkN lt n a = rkN lt n b) : a = b := by
  by_cases e : a = b
  · exact e
  · rcases hS.2.2 a b ha hb e with q | q
    · have := rkN_lt hS (Nat.le_refl n) ha hb q
      omega
    · have := rkN_lt hS (Nat.le_refl n) hb ha q
      omega
theorem rkN_bd {lt : Nat → Nat → Bool} {n a : Nat} (hS : Sto lt n) (ha : a < n) : rkN lt n a < n := by
  have h : cntN (fun o => lt o a) n < cntN (fun _ => true) n := cntN_lt ha (fun _ _ _ => rfl) (hS.1 a ha) rfl
  have h2 : ∀ m, cntN (fun _ => true) m = m := fun m => by
    induction m with
    | zero => rfl
    | succ m ih => show cntN (fun _ => true) m + 1 = m + 1; rw [ih]
  rw [h2] at h
  exact h
/-- the row's first m places hold the first m numbers by their ranks -/
def Rkd (lt : Nat → Nat → Bool) (m : Nat) (row : Nat → Nat) : Prop := ∀ p, p < m → row p < m ∧ rkN lt m (row p) = p
theorem rkN_s (lt : Nat → Nat → Bool) (m k : Nat) : rkN lt (m + 1) k = cond (lt m k) (rkN lt m k + 1) (rkN lt m k) := rfl
theorem Rkd_ge {lt : Nat → Nat → Bool} {n m : Nat} {row : Nat → Nat} (hS : Sto lt n) (hm : m < n) (h : Rkd lt m row) {p : Nat} (hp : p < m) (hq : rkN lt m m ≤ p) : lt m (row p) = true := by
  obtain ⟨h1, h2⟩ := h p hp
  rcases hS.2.2 m (row p) hm (by omega) (by omega) with q | q
  · exact q
  · have := rkN_lt hS (by omega : m ≤ n) h1 hm q
    omega
theorem Rkd_lt {lt : Nat → Nat → Bool} {n m : Nat} {row : Nat → Nat} (hS : Sto lt n) (hm : m < n) (h : Rkd lt m row) {p : Nat} (hp : p < m) (hq : p < rkN lt m m) : lt m (row p) = false := by
  obtain ⟨h1, h2⟩ := h p hp
  cases q : lt m (row p) with
  | false => rfl
  | true =>
    have := rkN_le hS (by omega : m ≤ n) hm (by omega) q
    omega
theorem Rkd_step {lt : Nat → Nat → Bool} {n m : Nat} {row row' : Nat → Nat} (hS : Sto lt n) (hm : m < n) (h : Rkd lt m row) (h1 : ∀ p, p < rkN lt m m → row' p = row p) (h2 : row' (rkN lt m m) = m) (h3 : ∀ p, rkN lt m m ≤ p → p < m → row' (p + 1) = row p) : Rkd lt (m + 1) row' := by
  intro p hp
  have hq : rkN lt m m ≤ m := cntN_le _ _
  rcases Nat.lt_trichotomy p (rkN lt m m) with c | c | c
  · obtain ⟨a1, a2⟩ := h p (by omega)
    rw [h1 p c, rkN_s, Rkd_lt hS hm h (by omega) c]
    exact ⟨by omega, a2⟩
  · rw [c, h2, rkN_s, hS.1 m hm]
    exact ⟨by omega, rfl⟩
  · obtain ⟨p, rfl⟩ : ∃ p', p = p' + 1 := ⟨p - 1, by omega⟩
    obtain ⟨a1, a2⟩ := h p (by omega)
    rw [h3 p (by omega) (by omega), rkN_s, Rkd_ge hS hm h (by omega) (by omega)]
    refine ⟨by omega, ?_⟩
    show rkN lt m (row p) + 1 = p + 1
    rw [a2]
theorem Rkd_uniq {lt : Nat → Nat → Bool} {n : Nat} {row out : Nat → Nat} (h : Rkd lt n row) (ho : ∀ k, k < n → out (rkN lt n k) = k) {p : Nat} (hp : p < n) : out p = row p := by
  obtain ⟨h1, h2⟩ := h p hp
  have := ho (row p) h1
  rw [h2] at this
  exact this

