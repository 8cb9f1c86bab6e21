/-! the class's lines: sets, ranks, the first of a line -/
theorem bv_k : ∀ k, k < 5 → (nI 1 <<< (nI k &&& 31)).toBitVec = BitVec.twoPow 32 k ∧ BitVec.twoPow 32 k ≠ 0#32 ∧ ((nI k &&& 31).toBitVec.smod 32).toNat = k := by decide +kernel
theorem set_bit (s : Int32) {k : Nat} (hk : k < 5) : (s &&& (nI 1 <<< (nI k &&& 31)) = nI 0) ↔ s.toBitVec.getLsbD k = false := by
  obtain ⟨h1, h2, _⟩ := bv_k k hk
  rw [← Int32.toBitVec_inj, Int32.toBitVec_and, h1, BitVec.and_twoPow]
  cases h : s.toBitVec.getLsbD k with
  | true =>
    rw [if_pos rfl]
    exact ⟨fun q => absurd q h2, fun q => by cases q⟩
  | false =>
    rw [if_neg (by decide)]
    exact ⟨fun _ => rfl, fun _ => rfl⟩
theorem has_bit (s : Int32) {k : Nat} (hk : k < 5) : hasS s (nI k) = s.toBitVec.getLsbD k := by
  obtain ⟨_, _, h3⟩ := bv_k k hk
  unfold hasS
  have e : ((s >>> (nI k &&& 31)) &&& nI 1 = nI 1) ↔ s.toBitVec.getLsbD k = true := by
    rw [← Int32.toBitVec_inj, Int32.toBitVec_and, Int32.toBitVec_shiftRight]
    show (s.toBitVec.sshiftRight ((nI k &&& 31).toBitVec.smod 32).toNat &&& 1#32 = 1#32) ↔ _
    rw [h3, BitVec.and_one_eq_setWidth_ofBool_getLsbD, BitVec.getLsbD_sshiftRight]
    have : (0 : Nat) < 32 ∧ k + 0 < 32 := by omega
    simp only [this.1, this.2, decide_true, Bool.and_true, Bool.true_and, if_true, Nat.add_zero]
    have hd : (!decide (32 ≤ 0)) = true := rfl
    have hk2 : k < 32 := by omega
    simp [hk2]
    generalize s.toBitVec[k] = b
    cases b <;> decide
  cases h : s.toBitVec.getLsbD k with
  | true => rw [decide_eq_true (e.mpr h)]
  | false => rw [decide_eq_false (fun z => by rw [e.mp z] at h; cases h)]
theorem c_74 {Y : Sm} {n k : Nat} {r : Nat → Int32} (h : CA Y n r) (hk : k < 5) : fn_74 n (nI k) Y = some (bI (hasS (r 4) (nI k)), Y) := by
  unfold fn_74
  rw [h 4 (by omega), has_bit _ hk]
  cases hb : (r 4).toBitVec.getLsbD k with
  | true => rw [if_neg (fun z => by rw [(set_bit _ hk).mp z] at hb; cases hb)]; rfl
  | false => rw [if_pos ((set_bit _ hk).mpr hb)]; rfl
theorem c_40 {Y : Sm} {n q j : Nat} {r : Nat → Int32} (h : CQ Y n r q) (hj : j < q) (hq : q ≤ 40) : fn_40 (n + 3) (nI j) Y = some (bI (waitS r j), Y) := by
  unfold fn_40 waitS
  simp (disch := omega) only [ck_in, ix_nI]
  rw [(h.2 j hj).1, h.1.2]
  by_cases c : rq r j 0 = r 8
  · rw [if_pos c, decide_eq_true c]; rfl
  · rw [if_neg c, decide_eq_false c]; rfl
theorem c_79 {Y : Sm} {n q j : Nat} {k : Int32} {r : Nat → Int32} (h : CQ Y n r q) (hj : j < q) (hq : q ≤ 40) : fn_79 n (nI j) k Y = some (bI (inLS r k j), Y) := by
  unfold fn_79 inLS
  simp (disch := omega) only [ck_in, ix_nI]
  rw [(h.2 j hj).2.2.1, c_40 h hj hq]
  by_cases c : rq r j 2 = k
  · rw [if_pos c, decide_eq_true c, bd_t, Bool.true_and]
    cases waitS r j <;> rfl
  · rw [if_neg c, decide_eq_false c, Bool.false_and]
    rfl
theorem c_39 {Y : Sm} {n q : Nat} {x : Int32} {r : Nat → Int32} (h : CQ Y n r q) (h9 : r 9 = nI q) (hq : q ≤ 40) (hx : x = (-1 : Int32) ∨ ∃ j, j < q ∧ x = nI j) : fn_39 (n + 3) x Y = some (if x = (-1 : Int32) then (-1 : Int32) else rq r (ix x) 0, Y) := by
  unfold fn_39
  rw [h.1.1, h9]
  rcases hx with rfl | ⟨j, hj, rfl⟩
  · rw [if_pos (by decide), if_pos rfl]
  · rw [if_neg (by rw [Int32.not_lt]; exact nI_le (Nat.zero_le _) (by omega)), if_neg (nI_ne_m1 (by omega))]
    simp (disch := omega) only [ck_in, ix_nI, pk_mul, nI_add, pk_sub, iteI_le_t, iteI_le_f, iteI_lt_t, iteI_lt_f, iteI_eq_t, iteI_eq_f, bd_t, wr_t, ite_m1_f, ite_m1_t, ↓reduceIte]
    rw [(h.2 j hj).1]
/-- small ints, compared when negated -/
theorem neg_le {x y : Int32} (hx : -(2 ^ 30) < x.toInt ∧ x.toInt < 2 ^ 30) (hy : -(2 ^ 30) < y.toInt ∧ y.toInt < 2 ^ 30) : (-x ≤ -y) ↔ y ≤ x := by
  have e : ∀ z : Int32, -(2 ^ 30) < z.toInt ∧ z.toInt < 2 ^ 30 → (-z).toInt = -z.toInt := fun z hz => by
    rw [Int32.toInt_neg]
    unfold Int.bmod
    simp only
    split <;> omega
  rw [Int32.le_iff_toInt_le, Int32.le_iff_toInt_le, e x hx, e y hy]
  omega

