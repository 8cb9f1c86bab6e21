/-! the reference's small functions -/
theorem r_isIn (a b c : Int64) (Y : Sm) : fn_166 a b c Y = some (bI (decide (b ≤ a ∧ a ≤ c)), Y) := by
  unfold fn_166
  by_cases h1 : a < b
  · rw [if_pos ((lg_lt0 a b).mpr h1)]
    have : ¬ (b ≤ a ∧ a ≤ c) := fun q => Int64.not_le.mpr h1 q.1
    simp [this, bI]
  · rw [if_neg (fun q => h1 ((lg_lt0 a b).mp q))]
    by_cases h2 : c < a
    · rw [if_pos ((lg_gt0 a c).mpr h2)]
      have : ¬ (b ≤ a ∧ a ≤ c) := fun q => Int64.not_le.mpr h2 q.2
      simp [this, bI]
    · rw [if_neg (fun q => h2 ((lg_gt0 a c).mp q))]
      have : b ≤ a ∧ a ≤ c := ⟨Int64.not_lt.mp h1, Int64.not_lt.mp h2⟩
      simp [this, bI]
theorem i64_0 : Int64.ofNat 0 = (nI 0).toInt64 := by decide
theorem i64_1 : Int64.ofNat 1 = (nI 1).toInt64 := by decide
/-- 0 ≤ x < n -/
theorem in_0 {x : Int32} {n : Nat} (hn : 0 < n) (hn2 : n < 2 ^ 31) : decide ((nI 0).toInt64 ≤ x.toInt64 ∧ x.toInt64 ≤ (nI (n - 1)).toInt64) = inb x n := by
  rw [Bool.eq_iff_iff, inb_iff]
  simp only [decide_eq_true_eq, i64_le, Int32.le_iff_toInt_le]
  rw [nI_toInt (by omega), nI_toInt (by omega)]
  omega
theorem in_1 {x : Int32} {n : Nat} (hn2 : n < 2 ^ 31) : decide ((nI 1).toInt64 ≤ x.toInt64 ∧ x.toInt64 ≤ (nI n).toInt64) = (inb x (n + 1) && !decide (x = nI 0)) := by
  rw [Bool.eq_iff_iff, Bool.and_eq_true, inb_iff]
  simp only [decide_eq_true_eq, i64_le, Int32.le_iff_toInt_le, Bool.not_eq_true', decide_eq_false_iff_not, ← Int32.toInt_inj]
  rw [nI_toInt (by omega), nI_toInt (by omega), nI_toInt (by omega)]
  omega
theorem r_is (b : Bool) (Y : Sm) : fn_164 (bI b) Y = some (bI b, sI Y 48 0 0 (bI (!b))) := by
  unfold fn_164
  cases b <;> rfl
theorem r_may (b : Bool) (c : Int32) (Y : Sm) : fn_165 (bI b) c Y = some (bI b, sI Y 48 0 0 (cond b (nI 0) c)) := by
  unfold fn_165
  cases b <;> rfl
theorem r_lesser (a b : Int32) (Y : Sm) : fn_168 a b Y = some (if b ≤ a then b else a, Y) := by
  unfold fn_168
  exact ite_s
theorem r_greater (a b : Int32) (Y : Sm) : fn_169 a b Y = some (if a ≤ b then b else a, Y) := by
  unfold fn_169
  exact ite_s
theorem r_isClass {Y : Sm} {C : Nat} (hC : gI Y.1 48 0 1 = nI C) (h0 : 0 < C) (h5 : C ≤ 5) (x : Int32) : fn_209 x Y = some (bI (inb x C), Y) := by
  unfold fn_209
  rw [hC, i64_0, r_isIn, pk_sub h0, in_0 h0 (by omega)]
  simp only [bd_t, ck_bz]
theorem r_isAsker {Y : Sm} {A : Nat} (hA : gI Y.1 48 0 2 = nI A) (h0 : 0 < A) (h8 : A ≤ 8) (x : Int32) : fn_208 x Y = some (bI (inb x A), Y) := by
  unfold fn_208
  rw [hA, i64_0, r_isIn, pk_sub h0, in_0 h0 (by omega)]
  simp only [bd_t, ck_bz]
theorem r_areTicks (x : Int32) (Y : Sm) : fn_210 x Y = some (bI (inb x 501 && !decide (x = nI 0)), Y) := by
  unfold fn_210
  rw [i64_1, r_isIn, in_1 (by omega)]
  simp only [bd_t, ck_bz]
theorem r_isTally (x : Int32) (Y : Sm) : fn_222 x Y = some (bI (inb x 3), Y) := by
  unfold fn_222
  rw [i64_0, r_isIn, show (nI 2) = nI (3 - 1) from rfl, in_0 (by omega) (by omega)]
  simp only [bd_t, ck_bz]
/-! the lines of requests, by a row -/
def rq (r : Nat → Int32) (j w : Nat) : Int32 := r (118 + 6 * j + w)
theorem r_of {Y : Sm} {m w : Nat} (hm : m < 40) (hw : w < 6) : fn_178 (nI m) (nI w) Y = some (rq (gI Y.1 52 0) m w, Y) := by
  unfold fn_178 rq
  simp (disch := omega) only [ck_in, ix_nI, pk_mul, nI_add, pk_sub, iteI_le_t, iteI_le_f, iteI_lt_t, iteI_lt_f, iteI_eq_t, iteI_eq_f, bd_t, wr_t, ite_m1_f, ite_m1_t, ↓reduceIte]
theorem r_indexOf {Y : Sm} {n : Nat} (hn : gI Y.1 52 0 9 = nI n) (h40 : n ≤ 40) (s : Int32) : fn_179 s Y = some (sres (fun j => decide (rq (gI Y.1 52 0) j 0 = s)) n, Y) := by
  unfold fn_179
  refine lp_sres (fun j => decide (rq (gI Y.1 52 0) j 0 = s)) n (by omega) (fun j hj hp => ?_) (fun j hj hp => ?_) ?_
  · have hp := of_decide_eq_false hp
    simp only [fn_179_L2, hn]
    simp (disch := omega) only [ck_in, ix_nI, pk_mul, nI_add, pk_sub, iteI_le_t, iteI_le_f, iteI_lt_t, iteI_lt_f, iteI_eq_t, iteI_eq_f, bd_t, wr_t, ite_m1_f, ite_m1_t, ↓reduceIte, r_of, if_neg hp]
  · have hp := of_decide_eq_true hp
    simp only [fn_179_L2, hn]
    simp (disch := omega) only [ck_in, ix_nI, pk_mul, nI_add, pk_sub, iteI_le_t, iteI_le_f, iteI_lt_t, iteI_lt_f, iteI_eq_t, iteI_eq_f, bd_t, wr_t, ite_m1_f, ite_m1_t, ↓reduceIte, r_of, if_pos hp]
  · simp only [fn_179_L2, hn]
    simp (disch := omega) only [ck_in, ix_nI, pk_mul, nI_add, pk_sub, iteI_le_t, iteI_le_f, iteI_lt_t, iteI_lt_f, iteI_eq_t, iteI_eq_f, bd_t, wr_t, ite_m1_f, ite_m1_t, ↓reduceIte]
def waitS (r : Nat → Int32) (j : Nat) : Bool := !decide (rq r j 0 = r 8)
def inLS (r : Nat → Int32) (k : Int32) (j : Nat) : Bool := decide (rq r j 2 = k) && waitS r j
def clmS (r : Nat → Int32) (j : Nat) : Int32 := if r (15 + ix (rq r j 2)) = nI 1 then -(rq r j 3) else (if r (15 + ix (rq r j 2)) = nI 2 then r (20 + ix (rq r j 1)) else (if r (15 + ix (rq r j 2)) = nI 3 then r (28 + ix (rq r j 1)) else nI 0))
def ahS (r : Nat → Int32) (i o : Nat) : Bool := if clmS r i = clmS r o then decide (rq r i 0 < rq r o 0) else decide (clmS r o < clmS r i)
def ahN (r : Nat → Int32) (n i : Nat) : Nat := cntN (fun o => inLS r (rq r i 2) o && ahS r o i) n
def inLineS (r : Nat → Int32) (n : Nat) (k q : Int32) : Int32 := sres (fun i => inLS r k i && decide (nI (ahN r n i) = q)) n
/-- the requests of a row are good -/
def RqI (r : Nat → Int32) (C A n : Nat) : Prop := ∀ j, j < n → (∃ a, a < A ∧ rq r j 1 = nI a) ∧ (∃ k, k < C ∧ rq r j 2 = nI k)
theorem r_doesWait {Y : Sm} {j : Nat} (hj : j < 40) : fn_180 (nI j) Y = some (bI (waitS (gI Y.1 52 0) j), Y) := by
  unfold fn_180
  rw [r_of hj (by omega)]
  simp only [bd_t, waitS]
  by_cases h : rq (gI Y.1 52 0) j 0 = gI Y.1 52 0 8
  · simp [h, bI]
  · simp [h, bI]
theorem r_isInLine {Y : Sm} {j : Nat} (hj : j < 40) (k : Int32) : fn_186 (nI j) k Y = some (bI (inLS (gI Y.1 52 0) k j), Y) := by
  unfold fn_186
  rw [r_of hj (by omega)]
  simp only [bd_t, inLS, r_doesWait hj]
  by_cases h : rq (gI Y.1 52 0) j 2 = k
  · rw [if_pos h]
    cases hw : waitS (gI Y.1 52 0) j <;> simp [h, bI, nI_eq]
  · rw [if_neg h]; simp [h, bI]
theorem r_claimOf {Y : Sm} {C A n j : Nat} (hR : RqI (gI Y.1 52 0) C A n) (hC : C ≤ 5) (hA : A ≤ 8) (hn : n ≤ 40) (hj : j < n) : fn_184 (nI j) Y = some (clmS (gI Y.1 52 0) j, Y) := by
  obtain ⟨⟨a, ha, ea⟩, k, hk, ek⟩ := hR j hj
  unfold fn_184
  rw [r_of (by omega) (by omega)]
  simp only [bd_t, ek]
  simp (disch := omega) only [ck_in, ix_nI, pk_mul, nI_add, pk_sub, iteI_le_t, iteI_le_f, iteI_lt_t, iteI_lt_f, iteI_eq_t, iteI_eq_f, bd_t, wr_t, ite_m1_f, ite_m1_t, ↓reduceIte, r_of, ea]
  simp only [clmS, ek, ea]
  simp (disch := omega) only [ix_nI]
  by_cases h1 : gI Y.1 52 0 (15 + k) = nI 1
  · rw [if_pos h1, if_pos h1]
  · rw [if_neg h1, if_neg h1]
    by_cases h2 : gI Y.1 52 0 (15 + k) = nI 2
    · rw [if_pos h2, if_pos h2]
    · rw [if_neg h2, if_neg h2]
      by_cases h3 : gI Y.1 52 0 (15 + k) = nI 3
      · rw [if_pos h3, if_pos h3]
      · rw [if_neg h3, if_neg h3]
theorem r_isAhead {Y : Sm} {C A n i o : Nat} (hR : RqI (gI Y.1 52 0) C A n) (hC : C ≤ 5) (hA : A ≤ 8) (hn : n ≤ 40) (hi : i < n) (ho : o < n) : fn_185 (nI i) (nI o) Y = some (bI (ahS (gI Y.1 52 0) i o), Y) := by
  unfold fn_185
  simp only [r_claimOf hR hC hA hn hi, r_claimOf hR hC hA hn ho, bd_t]
  simp (disch := omega) only [ck_in, ix_nI, pk_mul, nI_add, pk_sub, iteI_le_t, iteI_le_f, iteI_lt_t, iteI_lt_f, iteI_eq_t, iteI_eq_f, bd_t, wr_t, ite_m1_f, ite_m1_t, ↓reduceIte, r_of]
  unfold ahS
  by_cases h : clmS (gI Y.1 52 0) i = clmS (gI Y.1 52 0) o
  · rw [if_pos h, if_pos h, ite_s, bI_iteN, dnle]
  · rw [if_neg h, if_neg h, ite_s, bI_iteN, dnle]
theorem r_aheadOf {Y : Sm} {C A n i : Nat} (hM : gI Y.1 52 0 9 = nI n) (hR : RqI (gI Y.1 52 0) C A n) (hC : C ≤ 5) (hA : A ≤ 8) (hn : n ≤ 40) (hi : i < n) : fn_187 (nI i) Y = some (nI (ahN (gI Y.1 52 0) n i), Y) := by
  unfold fn_187
  refine lp_cnt (fun o => inLS (gI Y.1 52 0) (rq (gI Y.1 52 0) i 2) o && ahS (gI Y.1 52 0) o i) n (by omega) (fun j c hj => ?_) (fun c => ?_)
  · simp only [fn_187_L4, hM]
    simp (disch := omega) only [ck_in, ix_nI, pk_mul, nI_add, pk_sub, iteI_le_t, iteI_le_f, iteI_lt_t, iteI_lt_f, iteI_eq_t, iteI_eq_f, bd_t, wr_t, ite_m1_f, ite_m1_t, ↓reduceIte, r_of, r_isInLine, bI_0]
    rw [r_isAhead hR hC hA hn hj hi]
    simp only [bd_t, bI_0]
    cases inLS (gI Y.1 52 0) (rq (gI Y.1 52 0) i 2) j with
    | false => rfl
    | true => cases ahS (gI Y.1 52 0) j i <;> rfl
  · simp only [fn_187_L4, hM]
    simp (disch := omega) only [ck_in, ix_nI, pk_mul, nI_add, pk_sub, iteI_le_t, iteI_le_f, iteI_lt_t, iteI_lt_f, iteI_eq_t, iteI_eq_f, bd_t, wr_t, ite_m1_f, ite_m1_t, ↓reduceIte]
theorem r_inLine {Y : Sm} {C A n : Nat} (hM : gI Y.1 52 0 9 = nI n) (hR : RqI (gI Y.1 52 0) C A n) (hC : C ≤ 5) (hA : A ≤ 8) (hn : n ≤ 40) (k q : Int32) : fn_188 k q Y = some (inLineS (gI Y.1 52 0) n k q, Y) := by
  unfold fn_188
  refine lp_sres _ n (by omega) (fun j hj hp => ?_) (fun j hj hp => ?_) ?_
  · simp only [fn_188_L2, hM]
    simp (disch := omega) only [ck_in, ix_nI, pk_mul, nI_add, pk_sub, iteI_le_t, iteI_le_f, iteI_lt_t, iteI_lt_f, iteI_eq_t, iteI_eq_f, bd_t, wr_t, ite_m1_f, ite_m1_t, ↓reduceIte, r_isInLine, bI_0]
    rw [r_aheadOf hM hR hC hA hn hj]
    simp only [bd_t]
    cases h : inLS (gI Y.1 52 0) k j with
    | false => rfl
    | true =>
      rw [h, Bool.true_and] at hp
      simp only [cnd_t]
      rw [if_neg (of_decide_eq_false hp)]
  · simp only [fn_188_L2, hM]
    obtain ⟨h1, h2⟩ := Bool.and_eq_true_iff.mp hp
    simp (disch := omega) only [ck_in, ix_nI, pk_mul, nI_add, pk_sub, iteI_le_t, iteI_le_f, iteI_lt_t, iteI_lt_f, iteI_eq_t, iteI_eq_f, bd_t, wr_t, ite_m1_f, ite_m1_t, ↓reduceIte, r_isInLine, bI_0, h1, cnd_t]
    rw [r_aheadOf hM hR hC hA hn hj]
    simp only [bd_t]
    rw [if_pos (of_decide_eq_true h2)]
  · simp only [fn_188_L2, hM]
    simp (disch := omega) only [ck_in, ix_nI, pk_mul, nI_add, pk_sub, iteI_le_t, iteI_le_f, iteI_lt_t, iteI_lt_f, iteI_eq_t, iteI_eq_f, bd_t, wr_t, ite_m1_f, ite_m1_t, ↓reduceIte]
