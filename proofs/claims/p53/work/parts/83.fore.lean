/-! forecasts: the reference tries, the class's trial state -/
def ansO (r : Nat → Int32) (A : Int32) : Int32 := if A = (-1 : Int32) then r 7 else r (52 + ix A)
def AsK (A : Int32) (n : Nat) : Prop := A = (-1 : Int32) ∨ ∃ a, a < n ∧ A = nI a
/-! the class's trial -/
theorem c_75 {Y : Sm} {n q m : Nat} {P : Pm} {r : Nat → Int32} {A : Int32} (hR : CR Y n P r q m) (hA : AsK A P.2.1) (h8 : P.2.1 ≤ 8) : fn_75 n A Y = some (ansO r A, Y) := by
  unfold fn_75 ansO
  rcases hA with rfl | ⟨a, ha, rfl⟩
  · rw [if_pos rfl, if_pos rfl, hR.a 7 (by omega)]
  · rw [if_neg (nI_ne_m1 (by omega)), if_neg (nI_ne_m1 (by omega)), ck_in (by omega) (by omega), ix_nI (by omega), (hR.u a ha).2.2.2.2.1]
/-- the answers grow -/
theorem AnI.up {P : Pm} {t tu ro n m n' m' : Nat} {lo : Int32} {r r' : Nat → Int32} (hd : P.1 ≤ 5 ∧ P.2.1 ≤ 8) (h : TkR P lo t tu ro n m n' m' r r') : m ≤ m' ∧ ∀ b, b < P.2.1 → r' (52 + b) = r (52 + b) ∨ r' (52 + b) = r (52 + b) + nI 1 := by
  obtain ⟨q1, q2, q3, hv, hp, ⟨q, hq, hw⟩, rfl⟩ := h
  have a1 : ∀ b, b < 8 → q1 (52 + b) = r (52 + b) := fun b hb => by
    rcases hv with ⟨_, f, _, rfl⟩ | ⟨_, rfl⟩
    · unfold ordS
      rw [if_neg (by omega), if_neg (by omega), if_neg (by omega)]
    · rfl
  have a2 : ∀ b, b < 8 → q2 (52 + b) = r (52 + b) := fun b hb => by
    rw [← a1 b hb]
    rcases hp with ⟨_, _, x, _, _, rfl⟩ | ⟨_, rfl⟩
    · unfold pasS
      rw [if_neg (by omega), if_neg (by omega), if_neg (fun z => by omega)]
    · rfl
  have a3 : ∀ b, b < 8 → q (52 + b) = r (52 + b) := fun b hb => by
    rw [← a2 b hb]
    rcases hq with ⟨_, rfl⟩ | ⟨_, rfl⟩
    · unfold takS
      cases Nat.ble P.1 (nxtN q2 n P.1) with
      | true => rfl
      | false => rw [cnd_f, upd_ne (by omega)]
    · rfl
  rcases hw with ⟨_, rfl, _, rfl⟩ | ⟨i, a, k, l, _, hi, _, ea, ha, ek, hk, _, _, ⟨_, rfl, _, rfl⟩ | ⟨_, rfl, _, rfl⟩⟩
  · exact ⟨Nat.le_refl _, fun b hb => Or.inl (by rw [upd_ne (by omega)]; exact a3 b (by omega))⟩
  · refine ⟨Nat.le_succ _, fun b hb => ?_⟩
    rw [upd_ne (by omega), ans_lo (by omega) (by omega), ← a3 b (by omega)]
    by_cases d : b = a
    · right
      subst d
      unfold an0S
      simp (disch := omega) only [upd_ne, upd_at, iteN_t, iteN_f, ↓reduceIte]
    · left
      rw [an0_o (by omega) (by omega) (by omega) (by omega) (by omega) (by omega) (by omega) (by omega) (by omega), upd_ne (by omega)]
  · exact ⟨Nat.le_refl _, fun b hb => Or.inl (by rw [upd_ne (by omega), upd_ne (by omega)]; exact a3 b (by omega))⟩
/-- what a number of ticks brings: at least as much as there was -/
theorem TkN.up {P : Pm} {tu ro t s k n m n' m' x : Nat} {r r' : Nat → Int32} {A : Int32} (hd : P.1 ≤ 5 ∧ P.2.1 ≤ 8) (h : TkN P tu ro t s k n m r n' m' r') (hG : GR P r t n m s) (hG' : GR P r' (t + k) n' m' s) (hN : AnI r P.2.1 m) (hA : AsK A P.2.1) (hx : ansO r A = nI x) (hx2 : x ≤ m) : ∃ x', x ≤ x' ∧ x' ≤ m' ∧ ansO r' A = nI x' := by
  have hN' := h.an hd hN
  obtain ⟨R, N, M, ⟨a1, a2, a3⟩, ⟨b1, b2, b3⟩, hc⟩ := h
  have hm : ∀ j, j ≤ k → m ≤ M j := fun j => by
    induction j with
    | zero => intro _; rw [a3]; exact Nat.le_refl _
    | succ j ih => intro hj; exact Nat.le_trans (ih (by omega)) (AnI.up hd (hc j (by omega)).2).1
  rcases hA with rfl | ⟨a, ha, rfl⟩
  · unfold ansO at hx ⊢
    rw [if_pos rfl] at hx ⊢
    have hms := hG.2.1.2
    have em : m = x := (nI_eq (by omega) (by omega)).mp (hG.1.2.2.1.symm.trans hx)
    have := hm k (Nat.le_refl _)
    exact ⟨m', by omega, Nat.le_refl _, hG'.1.2.2.1⟩
  · unfold ansO at hx ⊢
    rw [if_neg (nI_ne_m1 (by omega)), ix_nI (by omega)] at hx ⊢
    have hb : ∀ j, j ≤ k → M j ≤ 9999 := fun j hj => by
      by_cases d : j = k
      · rw [d, b3]; have := hG'.2.1; omega
      · have := (hc j (by omega)).1.2.1; omega
    have key : ∀ j, j ≤ k → AnI (R j) P.2.1 (M j) ∧ ∃ z, x ≤ z ∧ z ≤ M j ∧ R j (52 + a) = nI z := fun j => by
      induction j with
      | zero => intro _; rw [a1, a3]; exact ⟨hN, x, Nat.le_refl _, hx2, hx⟩
      | succ j ih =>
        intro hj
        obtain ⟨hNj, z, hz, hzm, ez⟩ := ih (by omega)
        have hN1 := (hc j (by omega)).2.an hd hNj
        have h1 := hb j (by omega)
        have h2 := hb (j + 1) hj
        refine ⟨hN1, ?_⟩
        obtain ⟨m1, m2⟩ := AnI.up hd (hc j (by omega)).2
        rcases m2 a ha with e | e
        · exact ⟨z, hz, by omega, by rw [e, ez]⟩
        · obtain ⟨w, hw, ew⟩ := hN1 a ha
          rw [e, ez, nI_add] at ew
          have ew := (nI_eq (by omega) (by omega)).mp ew
          exact ⟨z + 1, by omega, by omega, by rw [e, ez, nI_add]⟩
    obtain ⟨_, z, hz, hzm, ez⟩ := key k (Nat.le_refl _)
    rw [b1, b3] at *
    exact ⟨z, hz, hzm, ez⟩
/-- the class passes the ticks, in its trial state -/
theorem c_val {Z : Sm} {c n m n' m' t s tu ro k : Nat} {P : Pm} {r1 r' : Nat → Int32} {A : Int32} (h3 : 0 < P.1 ∧ P.1 ≤ 5 ∧ 0 < P.2.1 ∧ P.2.1 ≤ 8) (hW : WI P) (hS : SetI P tu ro) (hs : s ≤ 1000) (ht : t + k ≤ 1000000) (hk : k < 1000000) (hA : AsK A P.2.1) (hR : CR Z c P r1 n m) (hT : TkN P tu ro t s k n m r1 n' m' r') : ∃ Z2, fn_85 c (nI k) Z = some ((), Z2) ∧ Fr (SS c) Z Z2 ∧ fn_75 c A Z2 = some (ansO r' A, Z2) ∧ CR Z2 c P r' n' m' := by
  obtain ⟨Z2, e, f, cr⟩ := c_85 h3 hW hS hs ht hk hR hT
  exact ⟨Z2, e, f, c_75 cr hA h3.2.2.2, cr⟩
/-- what ticks bring is the same on every road -/
theorem tk_det {Z : Sm} {c n m n' m' n2 m2 t s tu ro k : Nat} {P : Pm} {r1 r' r2 : Nat → Int32} {A : Int32} (h3 : 0 < P.1 ∧ P.1 ≤ 5 ∧ 0 < P.2.1 ∧ P.2.1 ≤ 8) (hW : WI P) (hS : SetI P tu ro) (hs : s ≤ 1000) (ht : t + k ≤ 1000000) (hk : k < 1000000) (hA : AsK A P.2.1) (hR : CR Z c P r1 n m) (hT : TkN P tu ro t s k n m r1 n' m' r') (hT2 : TkN P tu ro t s k n m r1 n2 m2 r2) : ansO r' A = ansO r2 A := by
  obtain ⟨Z1, e1, _, f1, _⟩ := c_val h3 hW hS hs ht hk hA hR hT
  obtain ⟨Z2, e2, _, f2, _⟩ := c_val h3 hW hS hs ht hk hA hR hT2
  rw [e1] at e2
  have eZ : Z1 = Z2 := congrArg Prod.snd (Option.some.inj e2)
  subst eZ
  rw [f1] at f2
  exact congrArg Prod.fst (Option.some.inj f2)
theorem tk_in {a : Int32} {N : Nat} (h : (inb a (N + 1) && !decide (a = nI 0)) = true) (hN : N < 1000) : ∃ k, (1 ≤ k ∧ k ≤ N) ∧ a = nI k := by
  obtain ⟨b1, b2⟩ := Bool.and_eq_true_iff.mp h
  obtain ⟨k, hk, rfl⟩ := inb_of b1 (by omega)
  refine ⟨k, ⟨?_, by omega⟩, rfl⟩
  rcases Nat.eq_zero_or_pos k with z | z
  · rw [z] at b2; cases b2
  · exact z
