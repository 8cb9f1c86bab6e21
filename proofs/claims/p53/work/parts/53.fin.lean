/-! the class's tick: a request found, removed; an account booked; the log -/
theorem c_38 {Y : Sm} {n q : Nat} {x : Int32} {r : Nat → Int32} (h : CQ Y n r q) (h9 : r 9 = nI q) (hq : q ≤ 40) : fn_38 (n + 3) x Y = some (sres (fun j => decide (rq r j 0 = x)) q, Y) := by
  unfold fn_38
  refine lp_srch (fun j => decide (rq r j 0 = x)) q (fun j => (cond (Nat.ble q j) (-1 : Int32) (nI j), Y)) (by omega) (fun j hj hp => ?_) (fun j hj hp => ?_) ?_
  · simp only [fn_38_L2, h.1.1, h9]
    simp (disch := omega) only [ck_in, ix_nI, pk_mul, nI_add, pk_sub, iteI_le_t, iteI_le_f, iteI_lt_t, iteI_lt_f, iteI_eq_t, iteI_eq_f, bd_t, wr_t, ite_m1_f, ite_m1_t, ↓reduceIte]
    rw [(h.2 j hj).1, if_neg (of_decide_eq_false hp)]
  · simp only [fn_38_L2, h.1.1, h9]
    simp (disch := omega) only [ck_in, ix_nI, pk_mul, nI_add, pk_sub, iteI_le_t, iteI_le_f, iteI_lt_t, iteI_lt_f, iteI_eq_t, iteI_eq_f, bd_t, wr_t, ite_m1_f, ite_m1_t, ↓reduceIte]
    rw [(h.2 j hj).1, if_pos (of_decide_eq_true hp), ble_f hj]
    rfl
  · simp only [fn_38_L2, h.1.1, h9]
    rw [iteI_le_t (Nat.le_refl _) (by omega), ble_t (Nat.le_refl _)]
    rfl
theorem sC_sF (Y : Sm) (ks is sp kd id dp n : Nat) : sC Y ks is sp kd id dp n = sF Y kd id (va_cpy (gI Y.1 ks is) (gI Y.1 kd id) sp dp n) := rfl
theorem cpk {ρ : Type} {sp dp n : Nat} {x : Option ρ} (h1 : sp + n ≤ 40) (h2 : dp + n ≤ 40) : ck (cpok (nI sp) (nI dp) (nI n) 40 40) x = x := by
  refine ck_t ?_
  unfold cpok
  have h0 : ∀ j, j < 2 ^ 31 → decide (¬ nI j < 0) = true := fun j hj => decide_eq_true (nI_nlt (a := j) (b := 0) (Nat.zero_le _) hj)
  rw [h0 sp (by omega), h0 dp (by omega), h0 n (by omega), ix_nI (by omega), ix_nI (by omega), ix_nI (by omega), decide_eq_true h1, decide_eq_true h2]
  rfl
theorem cpR {f : Nat → Int32} {i q j : Nat} (hi : i < q) (hj : j < q - 1) : va_cpy f f (i + 1) i (q - i - 1) j = if j < i then f j else f (j + 1) := by
  by_cases c : j < i
  · rw [if_pos c]
    exact if_neg (fun z => by omega)
  · rw [if_neg c]
    refine (if_pos ⟨by omega, by omega⟩).trans ?_
    congr 1
    omega
theorem gI_sFk {Y : Sm} {k i k' : Nat} {f : Nat → Int32} (h : k' ≠ k) : gI (sF Y k i f).1 k' = gI Y.1 k' := by
  funext i'
  rw [gI_sF, if_neg (fun q => h q.1)]
def QS (n k i : Nat) : Prop := i = n + 3 ∧ k ∈ [12, 14, 15, 16, 17, 18, 19]
theorem c_37 {Y : Sm} {n q i : Nat} {r : Nat → Int32} (h : CQ Y n r q) (h9 : r 9 = nI q) (hq : q ≤ 40) (hi : i < q) : ∃ Z, fn_37 (n + 3) (nI i) Y = some ((), Z) ∧ Fr (QS n) Y Z ∧ CQ Z n (remS r i q) (q - 1) := by
  have e1 : gI Y.1 12 (n + 3) 1 = nI q := h.1.1.trans h9
  have m : ∀ k, k ∈ [12, 14, 15, 16, 17, 18, 19] → QS n k (n + 3) := fun k hk => ⟨rfl, hk⟩
  unfold fn_37
  rw [e1, if_neg (by rw [Int32.not_lt]; exact nI_le (Nat.zero_le _) (by omega))]
  simp only [sC_sF]
  simp (disch := omega) only [ck_in, ix_nI, pk_mul, nI_add, pk_sub, iteI_le_t, iteI_le_f, iteI_lt_t, iteI_lt_f, iteI_eq_t, iteI_eq_f, bd_t, wr_t, ite_m1_f, ite_m1_t, ↓reduceIte, cpk, gI_sFk, e1]
  refine ⟨_, rfl, (Fr.sF (m 14 (by decide))).tr ((Fr.sF (m 15 (by decide))).tr ((Fr.sF (m 16 (by decide))).tr ((Fr.sF (m 17 (by decide))).tr ((Fr.sF (m 18 (by decide))).tr ((Fr.sF (m 19 (by decide))).tr (Fr.sI (m 12 (by decide)))))))), ⟨?_, ?_⟩, fun j hj => ?_⟩
  · rw [gI_sIv, upd_at]
    unfold remS
    rw [if_neg (by omega), upd_at]
  · rw [gI_sIv, upd_ne (by omega)]
    simp (disch := omega) only [gI_sFk]
    unfold remS
    rw [if_neg (by omega), upd_ne (by omega)]
    exact h.1.2
  · simp (disch := omega) only [gI_sIk, gI_sFk, gI_sFs]
    rw [cpR hi hj, cpR hi hj, cpR hi hj, cpR hi hj, cpR hi hj, cpR hi hj, rem_rq hi hj (by omega), rem_rq hi hj (by omega), rem_rq hi hj (by omega), rem_rq hi hj (by omega), rem_rq hi hj (by omega), rem_rq hi hj (by omega)]
    by_cases c : j < i
    · simp only [if_pos c]
      exact h.2 j (by omega)
    · simp only [if_neg c]
      exact h.2 (j + 1) (by omega)
theorem c_7 {Y : Sm} {n a x d l : Nat} (ha : a < 8) (h30 : gI Y.1 30 n a = nI d) (h29 : gI Y.1 29 n a = nI x) (hd : d ≤ 99) (hx : x ≤ 999) (hl : l ≤ 20) : fn_7 n (nI a) (nI l) Y = some (nI (if d ≤ l then d else l), sI (sI (sI (sI Y 30 n a (nI (d - if d ≤ l then d else l))) 29 n a (nI (if x + l - (if d ≤ l then d else l) ≤ 999 then x + l - (if d ≤ l then d else l) else 999))) 32 n a (gI Y.1 32 n a + nI 1)) 33 n a (gI Y.1 33 n a + nI l)) := by
  have e : (if nI d < nI l then nI d else nI l) = nI (if d ≤ l then d else l) := by
    rcases Nat.lt_trichotomy d l with w | w | w
    · rw [iteI_lt_t w (by omega), if_pos (by omega)]
    · rw [iteI_lt_f (by omega) (by omega), if_pos (by omega), w]
    · rw [iteI_lt_f (by omega) (by omega), if_neg (by omega)]
  have y1 : (if d ≤ l then d else l) ≤ d := by split <;> omega
  have y2 : (if d ≤ l then d else l) ≤ l := by split <;> omega
  unfold fn_7
  rw [ck_in (by omega) (by omega), ix_nI (by omega), h30, e]
  generalize (if d ≤ l then d else l) = y at y1 y2 ⊢
  rw [wr_t, gI_sIk (by omega), h29, nI_add, pk_sub (by omega), pk_sub (by omega)]
  have e2 : (if nI (x + l - y) < nI 999 then nI (x + l - y) else nI 999) = nI (if x + l - y ≤ 999 then x + l - y else 999) := by
    rcases Nat.lt_trichotomy (x + l - y) 999 with w | w | w
    · rw [iteI_lt_t w (by omega), if_pos (by omega)]
    · rw [iteI_lt_f (by omega) (by omega), if_pos (by omega), w]
    · rw [iteI_lt_f (by omega) (by omega), if_neg (by omega)]
  rw [e2, wr_t, wr_t, wr_t]
  simp (disch := omega) only [gI_sIk]

