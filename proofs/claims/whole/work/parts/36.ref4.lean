/-! a tick of the reference, by rows -/
theorem MP.fr {Y Z : Sm} {P : Pm} (h : MP Y P) (h1 : gI Z.1 48 0 = gI Y.1 48 0) (h2 : gI Z.1 49 0 = gI Y.1 49 0) : MP Z P := by
  unfold MP at h ⊢
  rw [h1, h2]
  exact h
theorem MP.sF {Y : Sm} {P : Pm} {k : Nat} {f : Nat → Int32} (h : MP Y P) (h1 : 48 ≠ k) (h2 : 49 ≠ k) : MP (sF Y k 0 f) P :=
  h.fr (by rw [gI_sF, if_neg (fun q => h1 q.1)]) (by rw [gI_sF, if_neg (fun q => h2 q.1)])
theorem gI_o {Y : Sm} {k k' : Nat} {f : Nat → Int32} (h : k' ≠ k) : gI (sF Y k 0 f).1 k' 0 = gI Y.1 k' 0 := by rw [gI_sF, if_neg (fun q => h q.1)]
theorem sI_s {Y : Sm} {k i j : Nat} {f : Nat → Int32} {v : Int32} : sI (sF Y k i f) k i j v = sF Y k i (upd f j v) := by
  rw [sI_sF, gI_sFs, sF_sF]
/-- how the outcome is written -/
def rkS (P : Pm) (r : Nat → Int32) (lo t : Int32) (k : Nat) : Nat := rkN (betS P r lo t) P.1 k
def outS (P : Pm) (r : Nat → Int32) (lo t : Int32) (f : Nat → Int32) : Nat → Nat → Int32
  | 0 => f
  | j + 1 => upd (outS P r lo t f j) (cond (anyS P r lo) (rkS P r lo t j) j) (cond (anyS P r lo) (nI j) (r (10 + j)))
theorem rkS_lt (P : Pm) (r : Nat → Int32) (lo t : Int32) {k : Nat} (hk : k < P.1) : rkS P r lo t k < P.1 := rkN_bd (bet_sto P r lo t) hk
theorem rkS_eq (P : Pm) (r : Nat → Int32) (lo t : Int32) {k : Nat} (hk : k < P.1) : cntN (fun o => !decide (o = k) && betS P r lo t o k) P.1 = rkS P r lo t k :=
  cntN_cg (fun j hj => by
    by_cases c : j = k
    · subst c; simp [(bet_sto P r lo t).1 j hk]
    · simp [c])
theorem outS_any {P : Pm} {r : Nat → Int32} {lo t : Int32} {f : Nat → Int32} (h : anyS P r lo = true) : ∀ m, m ≤ P.1 → ∀ k, k < m → outS P r lo t f m (rkS P r lo t k) = nI k := by
  intro m
  induction m with
  | zero => intro _ k hk; exact absurd hk (Nat.not_lt_zero _)
  | succ m ih =>
    intro hm k hk
    show upd (outS P r lo t f m) (cond (anyS P r lo) (rkS P r lo t m) m) (cond (anyS P r lo) (nI m) (r (10 + m))) (rkS P r lo t k) = _
    rw [h]
    by_cases c : k = m
    · subst c; exact upd_at _ _ _
    · have hne : rkS P r lo t k ≠ rkS P r lo t m := fun e => c (rkN_inj (bet_sto P r lo t) (by omega) (by omega) e)
      rw [show cond true (rkS P r lo t m) m = rkS P r lo t m from rfl, upd_ne hne]
      exact ih (by omega) k (by omega)
theorem outS_none {P : Pm} {r : Nat → Int32} {lo t : Int32} {f : Nat → Int32} (h : anyS P r lo = false) : ∀ m k, k < m → outS P r lo t f m k = r (10 + k) := by
  intro m
  induction m with
  | zero => intro k hk; exact absurd hk (Nat.not_lt_zero _)
  | succ m ih =>
    intro k hk
    show upd (outS P r lo t f m) (cond (anyS P r lo) (rkS P r lo t m) m) (cond (anyS P r lo) (nI m) (r (10 + m))) k = _
    rw [h]
    by_cases c : k = m
    · subst c; exact upd_at _ _ _
    · rw [show cond false (rkS P r lo t m) m = m from rfl, upd_ne c]
      exact ih k (by omega)
theorem r_tallies {Y : Sm} {P : Pm} (h : MP Y P) (hB : BalI (gI Y.1 52 0) P.1 P.2.1) (t : Int32) : fn_199 t Y = some ((), sF Y 58 0 (outS P (gI Y.1 52 0) (gI Y.1 48 0 19) t (gI Y.1 58 0) P.1)) := by
  have h3 := h.2.2.1
  unfold fn_199
  rw [r_anyCount h]
  simp only [bd_t]
  refine lp_run (fun j => (nI j, sF Y 58 0 (outS P (gI Y.1 52 0) (gI Y.1 48 0 19) t (gI Y.1 58 0) j))) P.1 (FU_lt (by omega)) (fun j hj => ?_) ?_ (by show _ = (nI 0, sF Y 58 0 (gI Y.1 58 0)); rw [sF_self])
  · have hM : MP (sF Y 58 0 (outS P (gI Y.1 52 0) (gI Y.1 48 0 19) t (gI Y.1 58 0) j)) P := h.sF (by omega) (by omega)
    have g52 : gI (sF Y 58 0 (outS P (gI Y.1 52 0) (gI Y.1 48 0 19) t (gI Y.1 58 0) j)).1 52 0 = gI Y.1 52 0 := gI_o (by omega)
    have g48 : gI (sF Y 58 0 (outS P (gI Y.1 52 0) (gI Y.1 48 0 19) t (gI Y.1 58 0) j)).1 48 0 = gI Y.1 48 0 := gI_o (by omega)
    simp only [fn_199_L7, hM.1]
    simp (disch := omega) only [ck_in, ix_nI, pk_mul, nI_add, pk_sub, iteI_le_t, iteI_le_f, iteI_lt_t, iteI_lt_f, iteI_eq_t, iteI_eq_f, bd_t, wr_t, ite_m1_f, ite_m1_t, ↓reduceIte, bI_0]
    cases ha : anyS P (gI Y.1 52 0) (gI Y.1 48 0 19) with
    | false =>
      simp (disch := omega) only [ck_in, ix_nI, pk_mul, nI_add, pk_sub, iteI_le_t, iteI_le_f, iteI_lt_t, iteI_lt_f, iteI_eq_t, iteI_eq_f, bd_t, wr_t, ite_m1_f, ite_m1_t, ↓reduceIte, cnd_f, sI_s, g52]
      show _ = some (Sum.inl (nI (j + 1), sF Y 58 0 (upd _ _ _)))
      rw [ha]
      rfl
    | true =>
      simp only [cnd_t]
      refine lp_run (fun o => (nI (cntN (fun o => !decide (o = j) && betS P (gI Y.1 52 0) (gI Y.1 48 0 19) t o j) o), nI o, sF Y 58 0 (outS P (gI Y.1 52 0) (gI Y.1 48 0 19) t (gI Y.1 58 0) j))) P.1 (FU_lt (by omega)) (fun o ho => ?_) ?_ rfl
      · simp only [fn_199_L43_d1, hM.1]
        simp (disch := omega) only [ck_in, ix_nI, pk_mul, nI_add, pk_sub, iteI_le_t, iteI_le_f, iteI_lt_t, iteI_lt_f, iteI_eq_t, iteI_eq_f, bd_t, wr_t, ite_m1_f, ite_m1_t, ↓reduceIte]
        by_cases c : o = j
        · subst c
          rw [if_pos rfl]
          show _ = some (Sum.inl (nI (cond (!decide (o = o) && betS P (gI Y.1 52 0) (gI Y.1 48 0 19) t o o) _ _), nI (o + 1), _))
          simp
        · simp (disch := omega) only [ck_in, ix_nI, pk_mul, nI_add, pk_sub, iteI_le_t, iteI_le_f, iteI_lt_t, iteI_lt_f, iteI_eq_t, iteI_eq_f, bd_t, wr_t, ite_m1_f, ite_m1_t, ↓reduceIte, r_isBetter hM (by rw [g52]; exact hB) t ho hj, bI_0]
          rw [g52, g48]
          show _ = some (Sum.inl (nI (cond (!decide (o = j) && betS P (gI Y.1 52 0) (gI Y.1 48 0 19) t o j) _ _), nI (o + 1), _))
          cases betS P (gI Y.1 52 0) (gI Y.1 48 0 19) t o j <;> simp [c]
      · have hl := rkS_lt P (gI Y.1 52 0) (gI Y.1 48 0 19) t hj
        simp only [fn_199_L43_d1, hM.1, rkS_eq P (gI Y.1 52 0) (gI Y.1 48 0 19) t hj]
        simp (disch := omega) only [ck_in, ix_nI, pk_mul, nI_add, pk_sub, iteI_le_t, iteI_le_f, iteI_lt_t, iteI_lt_f, iteI_eq_t, iteI_eq_f, bd_t, wr_t, ite_m1_f, ite_m1_t, ↓reduceIte, sI_s]
        show _ = some (Sum.inr (Sum.inl (nI (j + 1), sF Y 58 0 (upd _ _ _))))
        rw [ha]
        rfl
  · have hM : MP (sF Y 58 0 (outS P (gI Y.1 52 0) (gI Y.1 48 0 19) t (gI Y.1 58 0) P.1)) P := h.sF (by omega) (by omega)
    simp only [fn_199_L7, hM.1]
    simp (disch := omega) only [ck_in, ix_nI, pk_mul, nI_add, pk_sub, iteI_le_t, iteI_le_f, iteI_lt_t, iteI_lt_f, iteI_eq_t, iteI_eq_f, bd_t, wr_t, ite_m1_f, ite_m1_t, ↓reduceIte]
/-- the outcome of a tally -/
def outc (P : Pm) (r : Nat → Int32) (lo t : Int32) (f : Nat → Int32) : Nat → Int32 := outS P r lo t f P.1
/-- a row behind a vote -/
def ordS (P : Pm) (r f : Nat → Int32) : Nat → Int32 := fun q => if q = 4 then nI 0 else (if q = 5 then r 5 + nI 1 else (if 10 ≤ q ∧ q < 10 + P.1 then f (q - 10) else r q))
theorem r_ordersAnew {Y : Sm} {P : Pm} (h : MP Y P) (hB : BalI (gI Y.1 52 0) P.1 P.2.1) : fn_200 Y = some ((), sF (sF Y 58 0 (outc P (gI Y.1 52 0) (gI Y.1 48 0 19) (gI Y.1 52 0 1) (gI Y.1 58 0))) 52 0 (ordS P (gI Y.1 52 0) (outc P (gI Y.1 52 0) (gI Y.1 48 0 19) (gI Y.1 52 0 1) (gI Y.1 58 0)))) := by
  have h3 := h.2.2.1
  unfold fn_200
  rw [r_tallies h hB]
  simp only [bd_t]
  show exd _ _ = _
  generalize hf : outS P (gI Y.1 52 0) (gI Y.1 48 0 19) (gI Y.1 52 0 1) (gI Y.1 58 0) P.1 = f
  have hf2 : outc P (gI Y.1 52 0) (gI Y.1 48 0 19) (gI Y.1 52 0 1) (gI Y.1 58 0) = f := hf
  rw [hf2]
  have g52 : gI (sF Y 58 0 f).1 52 0 = gI Y.1 52 0 := gI_o (by omega)
  have e : lp (fun s => fn_200_L12 s.1 s.2) FU (nI 0, sF Y 58 0 f) = some (Sum.inl (sF (sF Y 58 0 f) 52 0 (fun q => if 10 ≤ q ∧ q < 10 + P.1 then f (q - 10) else gI Y.1 52 0 q))) := by
    refine lp_run (fun j => (nI j, sF (sF Y 58 0 f) 52 0 (fun q => if 10 ≤ q ∧ q < 10 + j then f (q - 10) else gI Y.1 52 0 q))) P.1 (FU_lt (by omega)) (fun j hj => ?_) ?_ ?_
    · have hM : MP (sF (sF Y 58 0 f) 52 0 (fun q => if 10 ≤ q ∧ q < 10 + j then f (q - 10) else gI Y.1 52 0 q)) P := (h.sF (by omega) (by omega)).sF (by omega) (by omega)
      have g58 : gI (sF (sF Y 58 0 f) 52 0 (fun q => if 10 ≤ q ∧ q < 10 + j then f (q - 10) else gI Y.1 52 0 q)).1 58 0 = f := by rw [gI_o (by omega), gI_sFs]
      simp only [fn_200_L12, hM.1]
      simp (disch := omega) only [ck_in, ix_nI, pk_mul, nI_add, pk_sub, iteI_le_t, iteI_le_f, iteI_lt_t, iteI_lt_f, iteI_eq_t, iteI_eq_f, bd_t, wr_t, ite_m1_f, ite_m1_t, ↓reduceIte, sI_s, g58]
      congr 4
      funext q
      by_cases c : q = 10 + j
      · subst c
        rw [upd_at, if_pos (by omega)]
        congr 1
        omega
      · rw [upd_ne c]
        by_cases c2 : 10 ≤ q ∧ q < 10 + j
        · rw [if_pos c2, if_pos (by omega)]
        · rw [if_neg c2, if_neg (by omega)]
    · have hM : MP (sF (sF Y 58 0 f) 52 0 (fun q => if 10 ≤ q ∧ q < 10 + P.1 then f (q - 10) else gI Y.1 52 0 q)) P := (h.sF (by omega) (by omega)).sF (by omega) (by omega)
      simp only [fn_200_L12, hM.1]
      simp (disch := omega) only [ck_in, ix_nI, pk_mul, nI_add, pk_sub, iteI_le_t, iteI_le_f, iteI_lt_t, iteI_lt_f, iteI_eq_t, iteI_eq_f, bd_t, wr_t, ite_m1_f, ite_m1_t, ↓reduceIte]
    · show _ = (nI 0, sF (sF Y 58 0 f) 52 0 (fun q => if 10 ≤ q ∧ q < 10 + 0 then f (q - 10) else gI Y.1 52 0 q))
      have e2 : (fun q => if 10 ≤ q ∧ q < 10 + 0 then f (q - 10) else gI Y.1 52 0 q) = gI (sF Y 58 0 f).1 52 0 := by
        funext q
        rw [if_neg (by omega), g52]
      rw [e2, sF_self]
  rw [e]
  show fn_200_J41 _ = _
  unfold fn_200_J41
  simp only [wr_t, sI_s, gI_sFs]
  congr 3
  funext q
  unfold ordS
  by_cases c5 : q = 5
  · subst c5
    rw [upd_at, if_neg (by omega), if_pos rfl, upd_ne (by omega), if_neg (by omega)]
  · rw [upd_ne c5]
    by_cases c4 : q = 4
    · subst c4; rw [upd_at, if_pos rfl]
    · rw [upd_ne c4, if_neg c4, if_neg c5]
/-- a row behind a turn -/
def pasS (P : Pm) (r : Nat → Int32) (a : Nat) : Nat → Int32 :=
  fun q => if q = 2 then nI ((a + 1) % P.2.1) else (if q = 3 then nI 0 else (if q = 36 + a ∧ r 3 = nI 0 then (if r (36 + a) + nI 1 ≤ nI 99 then r (36 + a) + nI 1 else nI 99) else r q))
theorem r_passesOn {Y : Sm} {P : Pm} {r : Nat → Int32} {a : Nat} (h : MP Y P) (h2 : r 2 = nI a) (ha : a < P.2.1) : fn_201 (sF Y 52 0 r) = some ((), sF Y 52 0 (pasS P r a)) := by
  have h3 := h.2.2.1
  have e2 : gI Y.1 48 0 2 = nI P.2.1 := h.2.1
  have hnz : nz (nI P.2.1) = true := by
    unfold nz
    rw [decide_eq_true_eq]
    exact nI_ne0 (by omega) (by omega)
  have hg : ∀ f, gI (sF Y 52 0 f).1 48 0 = gI Y.1 48 0 := fun f => gI_o (by omega)
  unfold fn_201
  simp only [gI_sFs, h2]
  by_cases c : r 3 = nI 0
  · rw [if_pos c]
    simp (disch := omega) only [ck_in, ix_nI, pk_mul, nI_add, pk_sub, iteI_le_t, iteI_le_f, iteI_lt_t, iteI_lt_f, iteI_eq_t, iteI_eq_f, bd_t, wr_t, ite_m1_f, ite_m1_t, ↓reduceIte, r_lesser, sI_s, fn_201_J41, hg, e2, ck_t hnz]
    rw [pk_rem (by omega) (by omega) (by omega)]
    congr 3
    funext q
    unfold pasS
    by_cases q2 : q = 2
    · subst q2; rw [upd_at, if_pos rfl]
    · rw [upd_ne q2, if_neg q2]
      by_cases q3 : q = 3
      · subst q3; rw [upd_at, if_pos rfl]
      · rw [upd_ne q3, if_neg q3]
        by_cases q4 : q = 36 + a
        · subst q4
          have hc : 36 + a = 36 + a ∧ r 3 = nI 0 := ⟨rfl, c⟩
          rw [upd_at, if_pos hc]
        · rw [upd_ne q4, if_neg (fun z => q4 z.1)]
  · rw [if_neg c]
    simp (disch := omega) only [ck_in, ix_nI, pk_mul, nI_add, pk_sub, iteI_le_t, iteI_le_f, iteI_lt_t, iteI_lt_f, iteI_eq_t, iteI_eq_f, bd_t, wr_t, ite_m1_f, ite_m1_t, ↓reduceIte, sI_s, fn_201_J41, hg, e2, ck_t hnz]
    rw [pk_rem (by omega) (by omega) (by omega)]
    congr 3
    funext q
    unfold pasS
    by_cases q2 : q = 2
    · subst q2; rw [upd_at, if_pos rfl]
    · rw [upd_ne q2, if_neg q2]
      by_cases q3 : q = 3
      · subst q3; rw [upd_at, if_pos rfl]
      · rw [upd_ne q3, if_neg q3, if_neg (fun z => c z.2)]
