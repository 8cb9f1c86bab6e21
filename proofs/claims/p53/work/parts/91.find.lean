/-! find -/
theorem srs_cg {p q : Nat → Bool} {n : Nat} (h : ∀ j, j < n → p j = q j) : sres p n = sres q n := by
  unfold sres
  rw [srch_cg h]
theorem srs_no {p : Nat → Bool} {n : Nat} (h : ∀ j, j < n → p j = false) : sres p n = (-1 : Int32) := by
  unfold sres
  rw [srch_none h, ble_t (Nat.le_refl n)]
  rfl
theorem c_56 {Y : Sm} {d n : Nat} (x : Int64) (h : gI Y.1 5 d 0 = nI n) (hn : n ≤ 5) : fn_56 d x Y = some (sres (fun k => decide (gJ Y.1 6 d k = x)) n, Y) := by
  unfold fn_56
  refine lp_sres _ n (by omega) (fun j hj hp => ?_) (fun j hj hp => ?_) ?_
  · simp only [fn_56_L2, h]
    rw [iteI_le_f hj (by omega), ck_in (by omega) (by omega), ix_nI (by omega), if_neg (fun q => of_decide_eq_false hp (lg_0.mp q)), nI_add]
  · simp only [fn_56_L2, h]
    rw [iteI_le_f hj (by omega), ck_in (by omega) (by omega), ix_nI (by omega), if_pos (lg_0.mpr (of_decide_eq_true hp))]
  · simp only [fn_56_L2, h]
    rw [iteI_le_t (Nat.le_refl _) (by omega)]
theorem c_57 {Y : Sm} {d n : Nat} (x : Int64) (h : gI Y.1 5 d 3 = nI n) (hn : n ≤ 8) : fn_57 d x Y = some (sres (fun k => decide (gJ Y.1 8 d k = x)) n, Y) := by
  unfold fn_57
  refine lp_sres _ n (by omega) (fun j hj hp => ?_) (fun j hj hp => ?_) ?_
  · simp only [fn_57_L2, h]
    rw [iteI_le_f hj (by omega), ck_in (by omega) (by omega), ix_nI (by omega), if_neg (fun q => of_decide_eq_false hp (lg_0.mp q)), nI_add]
  · simp only [fn_57_L2, h]
    rw [iteI_le_f hj (by omega), ck_in (by omega) (by omega), ix_nI (by omega), if_pos (lg_0.mpr (of_decide_eq_true hp))]
  · simp only [fn_57_L2, h]
    rw [iteI_le_t (Nat.le_refl _) (by omega)]
def Aln (L : Nat) (B : Nat → Nat) : Prop := 1 ≤ L ∧ L ≤ 6 ∧ ∀ i, i < L → ltA (B i) = true
theorem Aln.wd {L : Nat} {B : Nat → Nat} (h : Aln L B) : (∀ i, i < L → 97 ≤ B (0 + i) ∧ B (0 + i) ≤ 122) := fun i hi => by
  rw [Nat.zero_add]
  exact ltA_iff.mp (h.2.2 i hi)
theorem Aln.no {L : Nat} {B : Nat → Nat} (h : ¬ Aln L B) (h1 : 1 ≤ L) (h6 : L ≤ 6) : srch (fun i => !ltA (B i)) L < L := by
  rcases Nat.lt_or_ge (srch (fun i => !ltA (B i)) L) L with q | q
  · exact q
  · refine absurd ⟨h1, h6, fun i hi => ?_⟩ h
    have := srch_no (p := fun i => !ltA (B i)) (n := L) (j := i) (by omega)
    cases e : ltA (B i) with
    | true => rfl
    | false => rw [e] at this; cases this
def fdS (a : Int32) (P : Pm) (p q : Nat → Bool) : Int32 := if a = nI 0 then sres p P.1 else sres q P.2.1
theorem ltS {n : Nat} (hn : n < 256) : decide ((nI 97).toInt64 ≤ (sb n).toInt64 ∧ (sb n).toInt64 ≤ (nI 122).toInt64) = ltA n := by
  unfold ltA
  have := sb_int n hn
  simp only [i64_le, Int32.le_iff_toInt_le]
  rw [nI_toInt (by omega), nI_toInt (by omega)]
  by_cases c : n < 128
  · rw [if_pos c] at this
    rw [this]
    congr 1
    apply propext
    omega
  · rw [if_neg c] at this
    rw [this]
    congr 1
    apply propext
    omega
theorem sb_lo {n : Nat} (h : n < 128) : sb n = nI n := by
  rw [← Int32.toInt_inj, sb_int n (by omega), if_pos h, nI_toInt (by omega)]
