/-! vetoes -/
def maxS (x : Int32) : Int32 := if nI 0 ≤ x then x else nI 0
theorem max_c (x : Int32) : (if nI 0 < x then x else nI 0) = maxS x := by
  unfold maxS
  by_cases h : nI 0 < x
  · rw [if_pos h, if_pos (Int32.le_of_lt h)]
  · rw [if_neg h]
    by_cases h2 : nI 0 ≤ x
    · rw [if_pos h2]
      exact Int32.le_antisymm h2 (Int32.not_lt.mp h)
    · rw [if_neg h2]
theorem max_sub {p x : Nat} (hp : p < 2 ^ 30) (hx : x < 2 ^ 30) : maxS (nI p - nI x) = nI (p - x) := by
  rw [← max_c]
  by_cases h : x < p
  · rw [if_pos ((sub_lt0 hp hx).mpr h), pk_sub (by omega)]
  · rw [if_neg (fun q => h ((sub_lt0 hp hx).mp q)), show p - x = 0 by omega]
def dbS (P : Pm) (r : Nat → Int32) (a : Nat) : Int32 := r (28 + a) + maxS (P.2.2.1 2 - r (20 + a))
def crV (P : Pm) (r : Nat → Int32) (a : Nat) : Int32 := maxS (r (20 + a) - P.2.2.1 2)
def canV (P : Pm) (r : Nat → Int32) (a k : Nat) : Bool := !hasS (r 4) (nI k) && decide (dbS P r a ≤ P.2.2.1 3)
def vetS (P : Pm) (r : Nat → Int32) (a k : Nat) : Nat → Int32 := upd (upd (upd (upd r (28 + a) (dbS P r a)) (20 + a) (crV P r a)) 4 (r 4 ||| (nI 1 <<< (nI k &&& 31)))) (44 + a) (r (44 + a) + nI 1)
theorem vetS_o {P : Pm} {r : Nat → Int32} {a k q : Nat} (h1 : q ≠ 28 + a) (h2 : q ≠ 20 + a) (h3 : q ≠ 4) (h4 : q ≠ 44 + a) : vetS P r a k q = r q := by
  unfold vetS
  rw [upd_ne h4, upd_ne h3, upd_ne h2, upd_ne h1]
theorem vetS_d {P : Pm} {r : Nat → Int32} {a k : Nat} (ha : a < 8) : vetS P r a k (28 + a) = dbS P r a := by
  unfold vetS
  rw [upd_ne (by omega), upd_ne (by omega), upd_ne (by omega), upd_at]
theorem vetS_c {P : Pm} {r : Nat → Int32} {a k : Nat} (ha : a < 8) : vetS P r a k (20 + a) = crV P r a := by
  unfold vetS
  rw [upd_ne (by omega), upd_ne (by omega), upd_at]
theorem vetS_4 {P : Pm} {r : Nat → Int32} {a k : Nat} : vetS P r a k 4 = r 4 ||| (nI 1 <<< (nI k &&& 31)) := by
  unfold vetS
  rw [upd_ne (by omega), upd_at]
theorem vetS_v {P : Pm} {r : Nat → Int32} {a k : Nat} : vetS P r a k (44 + a) = r (44 + a) + nI 1 := by
  unfold vetS
  rw [upd_at]
/-- prices and lines are small -/
def PrI (P : Pm) : Prop := (∃ x, x ≤ 99 ∧ P.2.2.1 2 = nI x) ∧ ∃ x, x ≤ 99 ∧ P.2.2.1 3 = nI x
theorem GR.vet {P : Pm} {r : Nat → Int32} {t n m s a k : Nat} (hd : P.1 ≤ 5 ∧ P.2.1 ≤ 8) (hp : PrI P) (h : GR P r t n m s) (ha : a < P.2.1) (hv : canV P r a k = true) : GR P (vetS P r a k) t n m s := by
  have e : ∀ q, q ≠ 28 + a → q ≠ 20 + a → q ≠ 4 → q ≠ 44 + a → vetS P r a k q = r q := fun q => vetS_o
  have hA := h.2.2.2.2.2.2.2.2.2.1
  refine h.of (e _ (by omega) (by omega) (by omega) (by omega)) (e _ (by omega) (by omega) (by omega) (by omega)) (e _ (by omega) (by omega) (by omega) (by omega)) (e _ (by omega) (by omega) (by omega) (by omega)) (e _ (by omega) (by omega) (by omega) (by omega)) (by rw [e 1 (by omega) (by omega) (by omega) (by omega)]; exact h.2.2.1) (e _ (by omega) (by omega) (by omega) (by omega)) (by rw [e 3 (by omega) (by omega) (by omega) (by omega)]; exact h.2.2.2.2.1) (fun p _ => e _ (by omega) (by omega) (by omega) (by omega)) (h.2.2.2.2.2.2.1.cg (fun a p _ _ => e _ (by omega) (by omega) (by omega) (by omega))) (fun j w _ _ => e _ (by omega) (by omega) (by omega) (by omega)) (fun a' ha' => ?_) (fun k _ => e _ (by omega) (by omega) (by omega) (by omega))
  by_cases d : a' = a
  · subst d
    obtain ⟨⟨x, hx, ex⟩, ⟨y, hy, ey⟩, hz⟩ := hA a' ha'
    obtain ⟨⟨p, hp1, ep⟩, l, hl, el⟩ := hp
    obtain ⟨_, v2⟩ := Bool.and_eq_true_iff.mp hv
    have v2 := of_decide_eq_true v2
    have edb : dbS P r a' = nI (y + (p - x)) := by
      unfold dbS
      rw [ep, ex, ey, max_sub (by omega) (by omega), nI_add]
    rw [edb, el] at v2
    have hle : y + (p - x) ≤ l := by
      rcases Nat.lt_or_ge l (y + (p - x)) with g | g
      · exact absurd v2 (nI_ge g (by omega))
      · exact g
    rw [vetS_c (by omega), vetS_d (by omega), e (36 + a') (by omega) (by omega) (by omega) (by omega), edb]
    refine ⟨⟨x - p, by omega, ?_⟩, ⟨_, by omega, rfl⟩, hz⟩
    unfold crV
    rw [ep, ex, max_sub (by omega) (by omega)]
  · rw [e _ (by omega) (by omega) (by omega) (by omega), e _ (by omega) (by omega) (by omega) (by omega), e _ (by omega) (by omega) (by omega) (by omega)]
    exact hA a' ha'
/-! run -/
theorem TkR.an {P : Pm} {t tu ro n m n' m' : Nat} {lo : Int32} {r r' : Nat → Int32} (hd : P.1 ≤ 5 ∧ P.2.1 ≤ 8) (h : TkR P lo t tu ro n m n' m' r r') (hA : AnI r P.2.1 m) : AnI r' P.2.1 m' := by
  obtain ⟨q1, q2, q3, hv, hp, ⟨q, hq, hw⟩, rfl⟩ := h
  have a1 : AnI q1 P.2.1 m := by
    rcases hv with ⟨_, f, _, rfl⟩ | ⟨_, rfl⟩
    · refine hA.cg (fun a ha => ?_)
      unfold ordS
      rw [if_neg (by omega), if_neg (by omega), if_neg (by omega)]
    · exact hA
  have a2 : AnI q2 P.2.1 m := by
    rcases hp with ⟨_, _, x, _, _, rfl⟩ | ⟨_, rfl⟩
    · refine a1.cg (fun a ha => ?_)
      unfold pasS
      rw [if_neg (by omega), if_neg (by omega), if_neg (fun z => by omega)]
    · exact a1
  have a3 : AnI q P.2.1 m := by
    rcases hq with ⟨_, rfl⟩ | ⟨_, rfl⟩
    · refine a2.cg (fun a ha => ?_)
      unfold takS
      cases Nat.ble P.1 (nxtN q2 n P.1) with
      | true => rfl
      | false => rw [cnd_f, upd_ne (by omega)]
    · exact a2
  have a4 : AnI q3 P.2.1 m' := by
    rcases hw with ⟨_, rfl, _, rfl⟩ | ⟨i, a, k, l, _, hi, _, ea, ha, ek, hk, _, _, ⟨_, rfl, _, rfl⟩ | ⟨_, rfl, _, rfl⟩⟩
    · exact a3
    · intro b hb
      obtain ⟨x, hx, ex⟩ := a3 b hb
      rw [ans_lo (by omega) (by omega)]
      by_cases d : b = a
      · subst d
        refine ⟨x + 1, by omega, ?_⟩
        unfold an0S
        simp (disch := omega) only [upd_ne, upd_at, iteN_t, iteN_f, ↓reduceIte]
        rw [ex, nI_add]
      · refine ⟨x, by omega, ?_⟩
        rw [an0_o (by omega) (by omega) (by omega) (by omega) (by omega) (by omega) (by omega) (by omega) (by omega), upd_ne (by omega)]
        exact ex
    · exact a3.cg (fun a _ => upd_ne (by omega))
  exact a4.cg (fun a _ => upd_ne (by omega))
theorem TkN.an {P : Pm} {tu ro t s k n m n' m' : Nat} {r r' : Nat → Int32} (hd : P.1 ≤ 5 ∧ P.2.1 ≤ 8) (h : TkN P tu ro t s k n m r n' m' r') (hA : AnI r P.2.1 m) : AnI r' P.2.1 m' := by
  obtain ⟨R, N, M, ⟨a1, a2, a3⟩, ⟨b1, b2, b3⟩, hc⟩ := h
  have key : ∀ j, j ≤ k → AnI (R j) P.2.1 (M j) := fun j => by
    induction j with
    | zero => intro _; rw [a1, a3]; exact hA
    | succ j ih => intro hj; exact (hc j (by omega)).2.an hd (ih (by omega))
  rw [← b1, ← b3]
  exact key k (Nat.le_refl _)
