/-! a tick of the reference, by rows -/
theorem MP.fr {Y Z : Sm} {P : Pm} (h : MP Y P) (h1 : gI Z.1 48 0 = gI Y.1 48 0) (h2 : gI Z.1 49 0 = gI Y.1 49 0) : MP Z P := by
  unfold MP at h ⊢
  rw [h1, h2]
  exact h
theorem MP.sF {Y : Sm} {P : Pm} {k : Nat} {f : Nat → Int32} (h : MP Y P) (h1 : 48 ≠ k) (h2 : 49 ≠ k) : MP (sF Y k 0 f) P :=
  h.fr (by rw [gI_sF, if_neg (fun q => h1 q.1)]) (by rw [gI_sF, if_neg (fun q => h2 q.1)])
theorem gI_o {Y : Sm} {k k' : Nat} {f : Nat → Int32} (h : k' ≠ k) : gI (sF Y k 0 f).1 k' 0 = gI Y.1 k' 0 := by rw [gI_sF, if_neg (fun q => h q.1)]
theorem sI_s {Y : Sm} {k i j : Nat} {f : Nat → Int32} {v : Int32} : sI (sF Y k i f) k i j v = sF Y k i (upd f j v) := by
  rw [sI_sF, gI_sFs, sF_sF]
/-- how the outcome is written -/
def rkS (P : Pm) (r : Nat → Int32) (lo t : Int32) (k : Nat) : Nat := rkN (betS P r lo t) P.1 k
def outS (P : Pm) (r : Nat → Int32) (lo t : Int32) (f : Nat → Int32) : Nat → Nat → Int32
  | 0 => f
  | j + 1 => upd (outS P r lo t f j) (cond (anyS P r lo) (rkS P r lo t j) j) (cond (anyS P r lo) (nI j) (r (10 + j)))
theorem rkS_lt (P : Pm) (r : Nat → Int32) (lo t : Int32) {k : Nat} (hk : k < P.1) : rkS P r lo t k < P.1 := rkN_bd (bet_sto P r lo t) hk
theorem rkS_eq (P : Pm) (r : Nat → Int32) (lo t : Int32) {k : Nat} (hk : k < P.1) : cntN (fun o => !decide (o = k) && betS P r lo t o k) P.1 = rkS P r lo t k :=
  cntN_cg (fun j hj => by
    by_cases c : j = k
    · subst c; simp [(bet_sto P r lo t).1 j hk]
    · simp [c])
theorem outS_any {P : Pm} {r : Nat → Int32} {lo t : Int32} {f : Nat → Int32} (h : anyS P r lo = true) : ∀ m, m ≤ P.1 → ∀ k, k < m → outS P r lo t f m (rkS P r lo t k) = nI k := by
  intro m
  induction m with
  | zero => intro _ k hk; exact absurd hk (Nat.not_lt_zero _)
  | succ m ih =>
    intro hm k hk
    show upd (outS P r lo t f m) (cond (anyS P r lo) (rkS P r lo t m) m) (cond (anyS P r lo) (nI m) (r (10 + m))) (rkS P r lo t k) = _
    rw [h]
    by_cases c : k = m
    · subst c; exact upd_at _ _ _
    · have hne : rkS P r lo t k ≠ rkS P r lo t m := fun e => c (rkN_inj (bet_sto P r lo t) (by omega) (by omega) e)
      rw [show cond true (rkS P r lo t m) m = rkS P r lo t m from rfl, upd_ne hne]
      exact ih (by omega) k (by omega)
theorem outS_none {P : Pm} {r : Nat → Int32} {lo t : Int32} {f : Nat → Int32} (h : anyS P r lo = false) : ∀ m k, k < m → outS P r lo t f m k = r (10 + k) := by
  intro m
  induction m with
  | zero => intro k hk; exact absurd hk (Nat.not_lt_zero _)
  | succ m ih =>
    intro k hk
    show upd (outS P r lo t f m) (cond (anyS P r lo) (rkS P r lo t m) m) (cond (anyS P r lo) (nI m) (r (10 + m))) k = _
    rw [h]
    by_cases c : k = m
    · subst c; exact upd_at _ _ _
    · rw [show cond false (rkS P r lo t m) m = m from rfl, upd_ne c]
      exact ih k (by omega)
/-- the outcome of a tally -/
def outc (P : Pm) (r : Nat → Int32) (lo t : Int32) (f : Nat → Int32) : Nat → Int32 := outS P r lo t f P.1
/-- a row behind a vote -/
def ordS (P : Pm) (r f : Nat → Int32) : Nat → Int32 := fun q => if q = 4 then nI 0 else (if q = 5 then r 5 + nI 1 else (if 10 ≤ q ∧ q < 10 + P.1 then f (q - 10) else r q))
/-- a row behind a turn -/
def pasS (P : Pm) (r : Nat → Int32) (a : Nat) : Nat → Int32 :=
  fun q => if q = 2 then nI ((a + 1) % P.2.1) else (if q = 3 then nI 0 else (if q = 36 + a ∧ r 3 = nI 0 then (if r (36 + a) + nI 1 ≤ nI 99 then r (36 + a) + nI 1 else nI 99) else r q))
