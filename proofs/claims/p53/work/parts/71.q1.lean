/-! queries: properties of askers, classes, requests, lines, answers -/
theorem c_42a {Y : Sm} {n q : Nat} {x : Int32} {r : Nat → Int32} (h : CQ Y n r q) (h9 : r 9 = nI q) (hq : q ≤ 40) : fn_42_12_c0 (n + 3) x Y = some (nI (cntN (fun j => decide (rq r j 1 = x) && waitS r j) q), Y) := by
  unfold fn_42_12_c0
  refine lp_cnt (fun j => decide (rq r j 1 = x) && waitS r j) q (by omega) (fun j d hj => ?_) (fun d => ?_)
  · simp only [fn_42_12_c0_L5, h.1.1, h9]
    simp (disch := omega) only [ck_in, ix_nI, pk_mul, nI_add, pk_sub, iteI_le_t, iteI_le_f, iteI_lt_t, iteI_lt_f, iteI_eq_t, iteI_eq_f, bd_t, wr_t, ite_m1_f, ite_m1_t, ↓reduceIte, (h.2 j hj).2.1]
    rw [c_40 h hj hq]
    by_cases e : rq r j 1 = x
    · rw [if_pos e, bd_t, bI_0, decide_eq_true e, Bool.true_and]
      cases waitS r j <;> rfl
    · rw [if_neg e, decide_eq_false e]
      rfl
  · simp only [fn_42_12_c0_L5, h.1.1, h9]
    simp (disch := omega) only [ck_in, ix_nI, pk_mul, nI_add, pk_sub, iteI_le_t, iteI_le_f, iteI_lt_t, iteI_lt_f, iteI_eq_t, iteI_eq_f, bd_t, wr_t, ite_m1_f, ite_m1_t, ↓reduceIte]
theorem c_42b {Y : Sm} {n q : Nat} {x : Int32} {r : Nat → Int32} (h : CQ Y n r q) (h9 : r 9 = nI q) (hq : q ≤ 40) : fn_42_12_c1 (n + 3) x Y = some (nI (cntN (inLS r x) q), Y) := by
  unfold fn_42_12_c1
  refine lp_cnt (inLS r x) q (by omega) (fun j d hj => ?_) (fun d => ?_)
  · simp only [fn_42_12_c1_L5, h.1.1, h9]
    simp (disch := omega) only [ck_in, ix_nI, pk_mul, nI_add, pk_sub, iteI_le_t, iteI_le_f, iteI_lt_t, iteI_lt_f, iteI_eq_t, iteI_eq_f, bd_t, wr_t, ite_m1_f, ite_m1_t, ↓reduceIte, (h.2 j hj).2.2.1]
    rw [c_40 h hj hq]
    unfold inLS
    by_cases e : rq r j 2 = x
    · rw [if_pos e, bd_t, bI_0, decide_eq_true e, Bool.true_and]
      cases waitS r j <;> rfl
    · rw [if_neg e, decide_eq_false e]
      rfl
  · simp only [fn_42_12_c1_L5, h.1.1, h9]
    simp (disch := omega) only [ck_in, ix_nI, pk_mul, nI_add, pk_sub, iteI_le_t, iteI_le_f, iteI_lt_t, iteI_lt_f, iteI_eq_t, iteI_eq_f, bd_t, wr_t, ite_m1_f, ite_m1_t, ↓reduceIte]
theorem askS_case {j : Nat} (h : j < 10) : j = 0 ∨ j = 1 ∨ j = 2 ∨ j = 3 ∨ j = 4 ∨ j = 5 ∨ j = 6 ∨ j = 7 ∨ j = 8 ∨ j = 9 := by omega
/-- a property of an asker -/
def askV (P : Pm) (r : Nat → Int32) (n x j : Nat) : Int32 :=
  if j = 0 then r (20 + x) else if j = 1 then r (28 + x) else if j = 2 then P.2.2.2 x else if j = 3 then r (36 + x) else if j = 4 then bI (decide (r (36 + x) < P.2.2.1 4)) else if j = 5 then bI (decide (r 2 = nI x) && decide (r 3 = nI 1)) else if j = 6 then nI (cntN (fun j => decide (rq r j 1 = nI x) && waitS r j) n) else if j = 7 then r (52 + x) else if j = 8 then r (60 + x) else r (44 + x)
theorem bI_t1 {b : Bool} {Z : Sm} : (if bI b = nI 0 then some (nI 0, Z) else some (nI 1, Z)) = some (bI b, Z) := by cases b <;> rfl
theorem bI_t2 {b : Bool} {Z : Sm} : (if bI b = nI 0 then some ((.inl (nI 0) : Int32 ⊕ Nat), Z) else some (.inl (nI 1), Z)) = some (.inl (bI b), Z) := by cases b <;> rfl
theorem c_ask {Y : Sm} {n m x j s t : Nat} {P : Pm} {r : Nat → Int32} (h3 : 0 < P.1 ∧ P.1 ≤ 5 ∧ 0 < P.2.1 ∧ P.2.1 ≤ 8) (e0 : Y.2 3 = Y.2 0) (hR : CR Y 0 P r n m) (hG : GR P r t n m s) (hx : x < P.2.1) (hj : j < 10) (hb : fn_154 (nI x) Y = some (.inl (), Y)) : fn_111 (nI x) (nI j) Y = some (.inl (askV P r n x j), Y) := by
  have e42 : fn_42_12_c0 3 (nI x) Y = _ := c_42a (n := 0) hR.q hG.1.2.1 hG.2.1.1
  obtain ⟨u1, u2, u3, u4, u5, u6⟩ := hR.u x hx
  have e10 : gI Y.1 10 (Y.2 0) x = P.2.2.2 x := by rw [← e0]; exact hR.p.2.2 x hx
  have e73 := c_73 (hR.pv h3) hx
  have a2 := hR.a 2 (by omega)
  have a3 := hR.a 3 (by omega)
  unfold fn_111
  rw [hb, bx_l]
  rcases askS_case hj with rfl | rfl | rfl | rfl | rfl | rfl | rfl | rfl | rfl | rfl
  · simp (disch := omega) only [ck_in, ix_nI, pk_mul, nI_add, pk_sub, iteI_le_t, iteI_le_f, iteI_lt_t, iteI_lt_f, iteI_eq_t, iteI_eq_f, bd_t, wr_t, ite_m1_f, ite_m1_t, ↓reduceIte, u1]; rfl
  · simp (disch := omega) only [ck_in, ix_nI, pk_mul, nI_add, pk_sub, iteI_le_t, iteI_le_f, iteI_lt_t, iteI_lt_f, iteI_eq_t, iteI_eq_f, bd_t, wr_t, ite_m1_f, ite_m1_t, ↓reduceIte, u2]; rfl
  · simp (disch := omega) only [ck_in, ix_nI, pk_mul, nI_add, pk_sub, iteI_le_t, iteI_le_f, iteI_lt_t, iteI_lt_f, iteI_eq_t, iteI_eq_f, bd_t, wr_t, ite_m1_f, ite_m1_t, ↓reduceIte, e10]; rfl
  · simp (disch := omega) only [ck_in, ix_nI, pk_mul, nI_add, pk_sub, iteI_le_t, iteI_le_f, iteI_lt_t, iteI_lt_f, iteI_eq_t, iteI_eq_f, bd_t, wr_t, ite_m1_f, ite_m1_t, ↓reduceIte, u3]; rfl
  · simp (disch := omega) only [ck_in, ix_nI, pk_mul, nI_add, pk_sub, iteI_le_t, iteI_le_f, iteI_lt_t, iteI_lt_f, iteI_eq_t, iteI_eq_f, bd_t, wr_t, ite_m1_f, ite_m1_t, ↓reduceIte, e73, bI_t2]; rfl
  · simp (disch := omega) only [ck_in, ix_nI, pk_mul, nI_add, pk_sub, iteI_le_t, iteI_le_f, iteI_lt_t, iteI_lt_f, iteI_eq_t, iteI_eq_f, bd_t, wr_t, ite_m1_f, ite_m1_t, ↓reduceIte, a2, a3]
    show _ = some (Sum.inl (bI (decide (r 2 = nI x) && decide (r 3 = nI 1))), Y)
    by_cases e : r 2 = nI x
    · rcases hG.2.2.2.2.1 with e3 | e3
      · rw [if_pos e, e3, if_pos rfl, decide_eq_true e]; rfl
      · rw [if_pos e, e3, if_neg (by decide), decide_eq_true e]; rfl
    · rw [if_neg e, decide_eq_false e]; rfl
  · simp (disch := omega) only [ck_in, ix_nI, pk_mul, nI_add, pk_sub, iteI_le_t, iteI_le_f, iteI_lt_t, iteI_lt_f, iteI_eq_t, iteI_eq_f, bd_t, wr_t, ite_m1_f, ite_m1_t, ↓reduceIte, e42]; rfl
  · simp (disch := omega) only [ck_in, ix_nI, pk_mul, nI_add, pk_sub, iteI_le_t, iteI_le_f, iteI_lt_t, iteI_lt_f, iteI_eq_t, iteI_eq_f, bd_t, wr_t, ite_m1_f, ite_m1_t, ↓reduceIte, u5]; rfl
  · simp (disch := omega) only [ck_in, ix_nI, pk_mul, nI_add, pk_sub, iteI_le_t, iteI_le_f, iteI_lt_t, iteI_lt_f, iteI_eq_t, iteI_eq_f, bd_t, wr_t, ite_m1_f, ite_m1_t, ↓reduceIte, u6]; rfl
  · simp (disch := omega) only [ck_in, ix_nI, pk_mul, nI_add, pk_sub, iteI_le_t, iteI_le_f, iteI_lt_t, iteI_lt_f, iteI_eq_t, iteI_eq_f, bd_t, wr_t, ite_m1_f, ite_m1_t, ↓reduceIte, u4]; rfl
theorem nI_10 {w : Int32} (h : inb w 10 = false) {j : Nat} (hj : j < 10) : ¬ w = nI j := fun e => by
  rw [e, inb_nI hj (by omega)] at h
  cases h
/-! a property of a class -/
theorem ord_at {r : Nat → Int32} {C k : Nat} (hO : OrdI (fun p => r (10 + p)) C) (hk : k < C) : srch (fun p => decide (r (10 + p) = nI k)) C < C := by
  obtain ⟨p, hp, e⟩ := hO.1 k hk
  exact srch_lt hp (decide_eq_true e)
theorem c_45 {Y : Sm} {n k C : Nat} {f : Nat → Int32} (hC : C ≤ 5) (h : ∀ p, p < C → gI Y.1 22 n p = f p) (hk : srch (fun p => decide (f p = nI k)) C < C) : fn_45_22 n (nI C) (nI k) Y = some (nI (srch (fun p => decide (f p = nI k)) C), Y) := by
  unfold fn_45_22
  refine lp_find (fun p => decide (f p = nI k)) C (fun j => (nI j, Y)) (by omega) hk (fun j hj hp => ?_) (fun j hj hp => ?_)
  · have hp := of_decide_eq_false hp
    simp (disch := omega) only [fn_45_22_L2, ck_in, ix_nI, pk_mul, nI_add, pk_sub, iteI_le_t, iteI_le_f, iteI_lt_t, iteI_lt_f, iteI_eq_t, iteI_eq_f, bd_t, wr_t, ite_m1_f, ite_m1_t, ↓reduceIte, h j hj, if_neg hp]
  · have hp := of_decide_eq_true hp
    simp (disch := omega) only [fn_45_22_L2, ck_in, ix_nI, pk_mul, nI_add, pk_sub, iteI_le_t, iteI_le_f, iteI_lt_t, iteI_lt_f, iteI_eq_t, iteI_eq_f, bd_t, wr_t, ite_m1_f, ite_m1_t, ↓reduceIte, h j hj, if_pos hp]
def kndV (P : Pm) (r : Nat → Int32) (n k j : Nat) : Int32 :=
  if j = 0 then r (15 + k) else if j = 1 then nI (cntN (inLS r (nI k)) n) else if j = 2 then r (68 + k) else if j = 3 then nI (srch (fun p => decide (r (10 + p) = nI k)) P.1) else if j = 4 then bI (hasS (r 4) (nI k)) else if inLineS r n (nI k) (nI 0) = (-1 : Int32) then (-1 : Int32) else rq r (ix (inLineS r n (nI k) (nI 0))) 0
theorem inLineS_c (r : Nat → Int32) (n : Nat) (k q : Int32) : inLineS r n k q = (-1 : Int32) ∨ ∃ j, j < n ∧ inLineS r n k q = nI j := by
  rw [inLineS_eq]
  rcases Nat.lt_or_ge (lineN r n k q) n with h | h
  · right
    rw [ble_f h, cnd_f]
    exact ⟨_, h, rfl⟩
  · left
    rw [ble_t h, cnd_t]
theorem c_knd {Y : Sm} {n m k j s t : Nat} {P : Pm} {r : Nat → Int32} (h3 : 0 < P.1 ∧ P.1 ≤ 5 ∧ 0 < P.2.1 ∧ P.2.1 ≤ 8) (e0 : Y.2 3 = Y.2 0) (hR : CR Y 0 P r n m) (hG : GR P r t n m s) (hk : k < P.1) (hj : j < 6) (hb : fn_155 (nI k) Y = some (.inl (), Y)) : fn_112 (nI k) (nI j) Y = some (.inl (kndV P r n k j), Y) := by
  have e42 : fn_42_12_c1 3 (nI k) Y = _ := c_42b (n := 0) hR.q hG.1.2.1 hG.2.1.1
  obtain ⟨u1, u2, u3, u4⟩ := hR.k k hk
  have e5 : gI Y.1 5 (Y.2 0) 0 = nI P.1 := by rw [← e0]; exact hR.p.1.1
  have e45 : fn_45_22 0 (nI P.1) (nI k) Y = _ := c_45 h3.2.1 (fun p hp => (hR.k p hp).1) (ord_at hG.2.2.2.2.2.1 hk)
  have e74 := c_74 hR.a (k := k) (by omega)
  have e76 := c_76 (n := 0) (k := k) (LN_of h3 hG) hG.1.2.1 hR.q hR.k hR.u
  have e39 : fn_39 3 (inLineS r n (nI k) (nI 0)) Y = _ := c_39 (n := 0) hR.q hG.1.2.1 hG.2.1.1 (inLineS_c r n (nI k) (nI 0))
  unfold fn_112
  rw [hb, bx_l]
  have hj' : j = 0 ∨ j = 1 ∨ j = 2 ∨ j = 3 ∨ j = 4 ∨ j = 5 := by omega
  rcases hj' with rfl | rfl | rfl | rfl | rfl | rfl
  · simp (disch := omega) only [ck_in, ix_nI, pk_mul, nI_add, pk_sub, iteI_le_t, iteI_le_f, iteI_lt_t, iteI_lt_f, iteI_eq_t, iteI_eq_f, bd_t, wr_t, ite_m1_f, ite_m1_t, ↓reduceIte, u2]; rfl
  · simp (disch := omega) only [ck_in, ix_nI, pk_mul, nI_add, pk_sub, iteI_le_t, iteI_le_f, iteI_lt_t, iteI_lt_f, iteI_eq_t, iteI_eq_f, bd_t, wr_t, ite_m1_f, ite_m1_t, ↓reduceIte, e42]; rfl
  · simp (disch := omega) only [ck_in, ix_nI, pk_mul, nI_add, pk_sub, iteI_le_t, iteI_le_f, iteI_lt_t, iteI_lt_f, iteI_eq_t, iteI_eq_f, bd_t, wr_t, ite_m1_f, ite_m1_t, ↓reduceIte, u3]; rfl
  · simp (disch := omega) only [ck_in, ix_nI, pk_mul, nI_add, pk_sub, iteI_le_t, iteI_le_f, iteI_lt_t, iteI_lt_f, iteI_eq_t, iteI_eq_f, bd_t, wr_t, ite_m1_f, ite_m1_t, ↓reduceIte, e5, e45]; rfl
  · simp (disch := omega) only [ck_in, ix_nI, pk_mul, nI_add, pk_sub, iteI_le_t, iteI_le_f, iteI_lt_t, iteI_lt_f, iteI_eq_t, iteI_eq_f, bd_t, wr_t, ite_m1_f, ite_m1_t, ↓reduceIte, e74, bI_t2]; rfl
  · simp (disch := omega) only [ck_in, ix_nI, pk_mul, nI_add, pk_sub, iteI_le_t, iteI_le_f, iteI_lt_t, iteI_lt_f, iteI_eq_t, iteI_eq_f, bd_t, wr_t, ite_m1_f, ite_m1_t, ↓reduceIte, e76, e39]; rfl
theorem nI_n {w : Int32} {n : Nat} (h : inb w n = false) (hn : n < 2 ^ 31) {j : Nat} (hj : j < n) : ¬ w = nI j := fun e => by
  rw [e, inb_nI hj hn] at h
  cases h
