/-! a tick of the reference, by rows: taking, working, answering -/
theorem iteN_t {α : Type} {a b : Nat} {x y : α} (h : a = b) : (if a = b then x else y) = x := if_pos h
theorem iteN_f {α : Type} {a b : Nat} {x y : α} (h : a ≠ b) : (if a = b then x else y) = y := if_neg h
def hasS (set k : Int32) : Bool := decide (((set >>> (k &&& 31)) &&& (nI 1)) = nI 1)
theorem r_has (s k : Int32) (Y : Sm) : fn_167 s k Y = some (bI (hasS s k), Y) := by
  unfold fn_167 hasS
  rw [ite_s, bI_ite]
/-- the index of the request at a place of a line -/
def lineN (r : Nat → Int32) (n : Nat) (k q : Int32) : Nat := srch (fun i => inLS r k i && decide (nI (ahN r n i) = q)) n
theorem inLineS_eq (r : Nat → Int32) (n : Nat) (k q : Int32) : inLineS r n k q = cond (Nat.ble n (lineN r n k q)) (-1 : Int32) (nI (lineN r n k q)) := rfl
/-- the first class that may be taken, by its place in the order -/
def nxtN (r : Nat → Int32) (n C : Nat) : Nat := srch (fun j => !hasS (r 4) (r (10 + j)) && !Nat.ble n (lineN r n (r (10 + j)) (nI 0))) C
def takS (r : Nat → Int32) (n C : Nat) : Nat → Int32 := cond (Nat.ble C (nxtN r n C)) r (upd r 8 (rq r (lineN r n (r (10 + nxtN r n C)) (nI 0)) 0))
theorem r_takesNext {Y : Sm} {P : Pm} {r : Nat → Int32} {n : Nat} (h : MP Y P) (hM : r 9 = nI n) (hR : RqI r P.1 P.2.1 n) (hn : n ≤ 40) : fn_202 (sF Y 52 0 r) = some ((), sF Y 52 0 (takS r n P.1)) := by
  have h3 := h.2.2.1
  have hM' : MP (sF Y 52 0 r) P := h.sF (by omega) (by omega)
  have hM2 : gI (sF Y 52 0 r).1 52 0 9 = nI n := by rw [gI_sFs]; exact hM
  have hR2 : RqI (gI (sF Y 52 0 r).1 52 0) P.1 P.2.1 n := by rw [gI_sFs]; exact hR
  unfold fn_202
  have e : lp (fun s => fn_202_L2 s.1 s.2) FU (nI 0, sF Y 52 0 r) = some ((fun j => cond (Nat.ble P.1 j) (Sum.inr ((), sF Y 52 0 r)) (Sum.inl (inLineS r n (r (10 + j)) (nI 0), sF Y 52 0 r))) (nxtN r n P.1)) := by
    refine lp_srch (fun j => !hasS (r 4) (r (10 + j)) && !Nat.ble n (lineN r n (r (10 + j)) (nI 0))) P.1 (fun j => cond (Nat.ble P.1 j) (Sum.inr ((), sF Y 52 0 r)) (Sum.inl (inLineS r n (r (10 + j)) (nI 0), sF Y 52 0 r))) (by omega) (fun j hj hp => ?_) (fun j hj hp => ?_) ?_
    · simp only [fn_202_L2, hM'.1, gI_sFs]
      simp (disch := omega) only [ck_in, ix_nI, pk_mul, nI_add, pk_sub, iteI_le_t, iteI_le_f, iteI_lt_t, iteI_lt_f, iteI_eq_t, iteI_eq_f, bd_t, wr_t, ite_m1_f, ite_m1_t, ↓reduceIte, r_has, bI_0]
      rw [r_inLine hM2 hR2 (by omega) (by omega) hn, gI_sFs, inLineS_eq]
      cases hh : hasS (r 4) (r (10 + j)) with
      | true => simp (disch := omega) only [cnd_t, fn_202_J43_d1, ck_in, ix_nI, pk_mul, nI_add, pk_sub, iteI_le_t, iteI_le_f, iteI_lt_t, iteI_lt_f, iteI_eq_t, iteI_eq_f, bd_t, wr_t, ite_m1_f, ite_m1_t, ↓reduceIte]
      | false =>
        rw [hh] at hp
        cases hb : Nat.ble n (lineN r n (r (10 + j)) (nI 0)) with
        | true => simp (disch := omega) only [cnd_t, cnd_f, fn_202_J43_d1, ck_in, ix_nI, pk_mul, nI_add, pk_sub, iteI_le_t, iteI_le_f, iteI_lt_t, iteI_lt_f, iteI_eq_t, iteI_eq_f, bd_t, wr_t, ite_m1_f, ite_m1_t, ↓reduceIte]
        | false => rw [hb] at hp; cases hp
    · simp only [fn_202_L2, hM'.1, gI_sFs]
      simp (disch := omega) only [ck_in, ix_nI, pk_mul, nI_add, pk_sub, iteI_le_t, iteI_le_f, iteI_lt_t, iteI_lt_f, iteI_eq_t, iteI_eq_f, bd_t, wr_t, ite_m1_f, ite_m1_t, ↓reduceIte, r_has, bI_0]
      rw [r_inLine hM2 hR2 (by omega) (by omega) hn, gI_sFs, inLineS_eq, ble_f hj]
      have hl : lineN r n (r (10 + j)) (nI 0) ≤ n := srch_le _ _
      cases hh : hasS (r 4) (r (10 + j)) with
      | true => rw [hh] at hp; cases hp
      | false =>
        cases hb : Nat.ble n (lineN r n (r (10 + j)) (nI 0)) with
        | true => rw [hh, hb] at hp; cases hp
        | false => simp (disch := omega) only [cnd_f, fn_202_J43_d1, ck_in, ix_nI, pk_mul, nI_add, pk_sub, iteI_le_t, iteI_le_f, iteI_lt_t, iteI_lt_f, iteI_eq_t, iteI_eq_f, bd_t, wr_t, ite_m1_f, ite_m1_t, ↓reduceIte]
    · simp only [fn_202_L2, hM'.1, gI_sFs]
      simp (disch := omega) only [ck_in, ix_nI, pk_mul, nI_add, pk_sub, iteI_le_t, iteI_le_f, iteI_lt_t, iteI_lt_f, iteI_eq_t, iteI_eq_f, bd_t, wr_t, ite_m1_f, ite_m1_t, ↓reduceIte, nbl, cnd_t]
  rw [e]
  unfold takS
  rcases Nat.lt_or_ge (nxtN r n P.1) P.1 with c | c
  · have hy := srch_yes (p := fun j => !hasS (r 4) (r (10 + j)) && !Nat.ble n (lineN r n (r (10 + j)) (nI 0))) c
    have hb : Nat.ble n (lineN r n (r (10 + nxtN r n P.1)) (nI 0)) = false := by
      have := (Bool.and_eq_true_iff.mp hy).2
      rwa [Bool.not_eq_true'] at this
    have hl : lineN r n (r (10 + nxtN r n P.1)) (nI 0) < n := by
      rcases Nat.lt_or_ge (lineN r n (r (10 + nxtN r n P.1)) (nI 0)) n with q | q
      · exact q
      · rw [ble_t q] at hb; cases hb
    simp only [ble_f c, cnd_f, exd_l, inLineS_eq, hb]
    unfold fn_202_J52
    rw [r_of (by omega) (by omega)]
    simp only [bd_t, wr_t, gI_sFs, sI_s]
  · simp only [ble_t c, cnd_t, exd_r]
/-- a row without the request i -/
def remS (r : Nat → Int32) (i n : Nat) : Nat → Int32 := fun q => if 118 + 6 * i ≤ q ∧ q < 118 + 6 * (n - 1) then r (q + 6) else upd r 9 (nI (n - 1)) q
theorem r_takesOut {Y : Sm} {r : Nat → Int32} {i n : Nat} (hM : r 9 = nI n) (hi : i < n) (hn : n ≤ 40) : fn_182 (nI i) (sF Y 52 0 r) = some ((), sF Y 52 0 (remS r i n)) := by
  unfold fn_182
  simp (disch := omega) only [wr_t, sI_s, gI_sFs, hM, ck_in, ix_nI, pk_mul, nI_add, pk_sub, iteI_le_t, iteI_le_f, iteI_lt_t, iteI_lt_f, iteI_eq_t, iteI_eq_f, bd_t, wr_t, ite_m1_f, ite_m1_t, ↓reduceIte]
  refine lp_run (fun j => (nI (118 + 6 * i + j), sF Y 52 0 (fun q => if 118 + 6 * i ≤ q ∧ q < 118 + 6 * i + j then r (q + 6) else upd r 9 (nI (n - 1)) q))) (6 * (n - 1 - i)) (FU_lt (by omega)) (fun j hj => ?_) ?_ ?_
  · simp only [fn_182_L24, gI_sFs]
    have e9 : (if 118 + 6 * i ≤ 9 ∧ 9 < 118 + 6 * i + j then r (9 + 6) else upd r 9 (nI (n - 1)) 9) = nI (n - 1) := by rw [if_neg (by omega), upd_at]
    rw [e9]
    have e6 : (if 118 + 6 * i ≤ 118 + 6 * i + j + 6 ∧ 118 + 6 * i + j + 6 < 118 + 6 * i + j then r (118 + 6 * i + j + 6 + 6) else upd r 9 (nI (n - 1)) (118 + 6 * i + j + 6)) = r (118 + 6 * i + j + 6) := by rw [if_neg (by omega), upd_ne (by omega)]
    simp (disch := omega) only [ck_in, ix_nI, pk_mul, nI_add, pk_sub, iteI_le_t, iteI_le_f, iteI_lt_t, iteI_lt_f, iteI_eq_t, iteI_eq_f, bd_t, wr_t, ite_m1_f, ite_m1_t, ↓reduceIte, sI_s, e6]
    rw [show 118 + 6 * i + j + 1 = 118 + 6 * i + (j + 1) from rfl]
    congr 4
    funext q
    by_cases c : q = 118 + 6 * i + j
    · subst c
      rw [upd_at, if_pos (by omega)]
    · rw [upd_ne c]
      by_cases c2 : 118 + 6 * i ≤ q ∧ q < 118 + 6 * i + j
      · rw [if_pos c2, if_pos (by omega)]
      · rw [if_neg c2, if_neg (by omega)]
  · simp only [fn_182_L24, gI_sFs]
    have e9 : (if 118 + 6 * i ≤ 9 ∧ 9 < 118 + 6 * i + 6 * (n - 1 - i) then r (9 + 6) else upd r 9 (nI (n - 1)) 9) = nI (n - 1) := by rw [if_neg (by omega), upd_at]
    rw [e9]
    simp (disch := omega) only [ck_in, ix_nI, pk_mul, nI_add, pk_sub, iteI_le_t, iteI_le_f, iteI_lt_t, iteI_lt_f, iteI_eq_t, iteI_eq_f, bd_t, wr_t, ite_m1_f, ite_m1_t, ↓reduceIte]
    have eR : (fun q => if 118 + 6 * i ≤ q ∧ q < 118 + 6 * i + 6 * (n - 1 - i) then r (q + 6) else upd r 9 (nI (n - 1)) q) = remS r i n := by
      funext q
      unfold remS
      have : 118 + 6 * i + 6 * (n - 1 - i) = 118 + 6 * (n - 1) := by omega
      rw [this]
    rw [eR]
  · have e0 : (fun q => if 118 + 6 * i ≤ q ∧ q < 118 + 6 * i + 0 then r (q + 6) else upd r 9 (nI (n - 1)) q) = upd r 9 (nI (n - 1)) := by
      funext q
      rw [if_neg (by omega)]
    show _ = (nI (118 + 6 * i + 0), sF Y 52 0 (fun q => if 118 + 6 * i ≤ q ∧ q < 118 + 6 * i + 0 then r (q + 6) else upd r 9 (nI (n - 1)) q))
    rw [e0]
    rfl
def stS (r : Nat → Int32) (i a : Nat) : Int32 := if r (28 + a) ≤ rq r i 3 then r (28 + a) else rq r i 3
def crS (r : Nat → Int32) (i a : Nat) : Int32 := r (20 + a) + rq r i 3 - stS r i a
/-- a row behind an answer, ahead of the removal -/
def an0S (r : Nat → Int32) (i a k m : Nat) : Nat → Int32 := fun q =>
  if q = 28 + a then r (28 + a) - stS r i a else if q = 20 + a then (if crS r i a ≤ nI 999 then crS r i a else nI 999) else if q = 52 + a then r (52 + a) + nI 1
  else if q = 60 + a then r (60 + a) + rq r i 3 else if q = 68 + k then r (68 + k) + nI 1 else if q = 73 + k then r (73 + k) + r 0 - rq r i 5
  else if q = 358 + 6 * (m % 60) then rq r i 0 else if q = 358 + 6 * (m % 60) + 1 then nI a else if q = 358 + 6 * (m % 60) + 2 then nI k else if q = 358 + 6 * (m % 60) + 3 then rq r i 5
  else if q = 358 + 6 * (m % 60) + 4 then r 0 else if q = 358 + 6 * (m % 60) + 5 then stS r i a else if q = 7 then r 7 + nI 1 else if q = 8 then (-1 : Int32) else r q
def ansS (r : Nat → Int32) (i a k m n : Nat) : Nat → Int32 := remS (an0S r i a k m) i n
set_option maxHeartbeats 2000000 in
theorem r_answers {Y : Sm} {r : Nat → Int32} {i a k m n : Nat} (hM : r 9 = nI n) (hi : i < n) (hn : n ≤ 40) (ea : rq r i 1 = nI a) (ha : a < 8) (ek : rq r i 2 = nI k) (hk : k < 5) (em : r 7 = nI m) (hm : m < 100000) : fn_204 (nI i) (sF Y 52 0 r) = some ((), sF Y 52 0 (ansS r i a k m n)) := by
  have hm6 : m % 60 < 60 := Nat.mod_lt _ (by omega)
  unfold fn_204
  have q0 : rq r i 0 = r (118 + 6 * i + 0) := rfl
  have q3 : rq r i 3 = r (118 + 6 * i + 3) := rfl
  have q5 : rq r i 5 = r (118 + 6 * i + 5) := rfl
  simp (disch := omega) only [r_of, bd_t, gI_sFs, ea, ek]
  simp (disch := omega) only [r_of, wr_t, sI_s, gI_sFs, ck_in, ix_nI, pk_mul, nI_add, pk_sub, iteI_le_t, iteI_le_f, iteI_lt_t, iteI_lt_f, iteI_eq_t, iteI_eq_f, bd_t, wr_t, ite_m1_f, ite_m1_t, ↓reduceIte, r_lesser, ea, ek, rq, upd_ne, upd_at, iteN_t, iteN_f, ↓reduceIte, em, pk_rem]
  have e : upd (upd (upd (upd (upd (upd (upd (upd (upd (upd (upd (upd (upd (upd r (28 + a) (r (28 + a) - stS r i a)) (20 + a) (if crS r i a ≤ nI 999 then crS r i a else nI 999)) (52 + a) (r (52 + a) + nI 1)) (60 + a) (r (60 + a) + rq r i 3)) (68 + k) (r (68 + k) + nI 1)) (73 + k) (r (73 + k) + r 0 - rq r i 5)) (358 + 6 * (m % 60)) (rq r i 0)) (358 + 6 * (m % 60) + 1) (nI a)) (358 + 6 * (m % 60) + 2) (nI k)) (358 + 6 * (m % 60) + 3) (rq r i 5)) (358 + 6 * (m % 60) + 4) (r 0)) (358 + 6 * (m % 60) + 5) (stS r i a)) 7 (nI (m + 1))) 8 (-1 : Int32) = an0S r i a k m := by
    funext q
    unfold an0S
    by_cases c0 : q = 28 + a
    · subst c0
      simp (disch := omega) only [upd_ne, upd_at, iteN_t, iteN_f, ↓reduceIte]
    by_cases c1 : q = 20 + a
    · subst c1
      simp (disch := omega) only [upd_ne, upd_at, iteN_t, iteN_f, ↓reduceIte]
    by_cases c2 : q = 52 + a
    · subst c2
      simp (disch := omega) only [upd_ne, upd_at, iteN_t, iteN_f, ↓reduceIte]
    by_cases c3 : q = 60 + a
    · subst c3
      simp (disch := omega) only [upd_ne, upd_at, iteN_t, iteN_f, ↓reduceIte]
    by_cases c4 : q = 68 + k
    · subst c4
      simp (disch := omega) only [upd_ne, upd_at, iteN_t, iteN_f, ↓reduceIte]
    by_cases c5 : q = 73 + k
    · subst c5
      simp (disch := omega) only [upd_ne, upd_at, iteN_t, iteN_f, ↓reduceIte]
    by_cases c6 : q = 358 + 6 * (m % 60)
    · subst c6
      simp (disch := omega) only [upd_ne, upd_at, iteN_t, iteN_f, ↓reduceIte]
    by_cases c7 : q = 358 + 6 * (m % 60) + 1
    · subst c7
      simp (disch := omega) only [upd_ne, upd_at, iteN_t, iteN_f, ↓reduceIte]
    by_cases c8 : q = 358 + 6 * (m % 60) + 2
    · subst c8
      simp (disch := omega) only [upd_ne, upd_at, iteN_t, iteN_f, ↓reduceIte]
    by_cases c9 : q = 358 + 6 * (m % 60) + 3
    · subst c9
      simp (disch := omega) only [upd_ne, upd_at, iteN_t, iteN_f, ↓reduceIte]
    by_cases c10 : q = 358 + 6 * (m % 60) + 4
    · subst c10
      simp (disch := omega) only [upd_ne, upd_at, iteN_t, iteN_f, ↓reduceIte]
    by_cases c11 : q = 358 + 6 * (m % 60) + 5
    · subst c11
      simp (disch := omega) only [upd_ne, upd_at, iteN_t, iteN_f, ↓reduceIte]
    by_cases c12 : q = 7
    · subst c12
      simp (disch := omega) only [upd_ne, upd_at, iteN_t, iteN_f, ↓reduceIte, em, nI_add]
    by_cases c13 : q = 8
    · subst c13
      simp (disch := omega) only [upd_ne, upd_at, iteN_t, iteN_f, ↓reduceIte]
    simp (disch := omega) only [upd_ne, upd_at, iteN_t, iteN_f, ↓reduceIte]
  have key : ∀ R, R = an0S r i a k m → bd (fn_182 (nI i) (sF Y 52 0 R)) (fun _ Y51 => some ((), Y51)) = some ((), sF Y 52 0 (ansS r i a k m n)) := fun R hR => by
    have h9 : an0S r i a k m 9 = nI n := by
      unfold an0S
      simp (disch := omega) only [upd_ne, upd_at, iteN_t, iteN_f, ↓reduceIte]
      exact hM
    rw [hR, r_takesOut h9 hi hn]
    exact bd_t
  exact key _ e
/-- a row behind a tick's work -/
def wrkS (r : Nat → Int32) (i a k m n : Nat) : Nat → Int32 := if rq r i 4 - nI 1 = nI 0 then ansS (upd r (118 + 6 * i + 4) (rq r i 4 - nI 1)) i a k m n else upd r (118 + 6 * i + 4) (rq r i 4 - nI 1)
theorem r_worksOn {Y : Sm} {r : Nat → Int32} {i a k m n : Nat} (hM : r 9 = nI n) (hi : i < n) (hn : n ≤ 40) (hs : srch (fun j => decide (rq r j 0 = r 8)) n = i) (ea : rq r i 1 = nI a) (ha : a < 8) (ek : rq r i 2 = nI k) (hk : k < 5) (em : r 7 = nI m) (hm : m < 100000) : fn_203 (sF Y 52 0 r) = some ((), sF Y 52 0 (wrkS r i a k m n)) := by
  unfold fn_203
  have hM2 : gI (sF Y 52 0 r).1 52 0 9 = nI n := by rw [gI_sFs]; exact hM
  have es : sres (fun j => decide (rq (gI (sF Y 52 0 r).1 52 0) j 0 = gI (sF Y 52 0 r).1 52 0 8)) n = nI i := by
    rw [gI_sFs, sres_f (by rw [hs]; exact hi), hs]
  rw [r_indexOf hM2 hn, es]
  simp (disch := omega) only [r_of, bd_t, wr_t, gI_sFs, sI_s, ck_in, ix_nI, pk_mul, nI_add, pk_sub, iteI_le_t, iteI_le_f, iteI_lt_t, iteI_lt_f, iteI_eq_t, iteI_eq_f, bd_t, wr_t, ite_m1_f, ite_m1_t, ↓reduceIte]
  have e4 : rq (upd r (118 + 6 * i + 4) (rq r i 4 - nI 1)) i 4 = rq r i 4 - nI 1 := upd_at _ _ _
  have e1 : rq (upd r (118 + 6 * i + 4) (rq r i 4 - nI 1)) i 1 = nI a := by unfold rq at ea ⊢; rw [upd_ne (by omega)]; exact ea
  have e2 : rq (upd r (118 + 6 * i + 4) (rq r i 4 - nI 1)) i 2 = nI k := by unfold rq at ek ⊢; rw [upd_ne (by omega)]; exact ek
  rw [e4]
  unfold wrkS
  by_cases c : rq r i 4 - nI 1 = nI 0
  · rw [if_pos c, if_pos c, r_answers (by rw [upd_ne (by omega)]; exact hM) hi hn e1 ha e2 hk (by rw [upd_ne (by omega)]; exact em) hm]
    exact bd_t
  · rw [if_neg c, if_neg c]
