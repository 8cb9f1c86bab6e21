/-! the class's lines: ranks, the first, the number ahead -/
/-- what the lines need -/
def LN (P : Pm) (r : Nat → Int32) (q : Nat) : Prop := (0 < P.1 ∧ P.1 ≤ 5 ∧ 0 < P.2.1 ∧ P.2.1 ≤ 8) ∧ q ≤ 40 ∧ (∃ s t, RqG r P.1 P.2.1 q s t ∧ s ≤ 9999) ∧ AccI r P.2.1
theorem clm_bd {P : Pm} {r : Nat → Int32} {q j : Nat} (h : LN P r q) (hj : j < q) : -(2 ^ 30) < (clmS r j).toInt ∧ (clmS r j).toInt < 2 ^ 30 := by
  obtain ⟨h3, hq, ⟨s, t, hR, _⟩, hA⟩ := h
  obtain ⟨⟨a, ha, ea⟩, ⟨k, hk, ek⟩, ⟨l, hl, hl2, el⟩, _⟩ := hR j hj
  unfold clmS
  rw [ea, el, ix_nI (by omega)]
  obtain ⟨⟨x, hx, ex⟩, ⟨d, hd, ed⟩, _⟩ := hA a ha
  rw [ex, ed]
  have hneg : (-(nI l)).toInt = -(l : Int) := by
    rw [Int32.toInt_neg, nI_toInt (by omega)]
    unfold Int.bmod
    simp only
    split <;> omega
  split
  · rw [hneg]; omega
  · split
    · rw [nI_toInt (by omega)]; omega
    · split
      · rw [nI_toInt (by omega)]; omega
      · rw [nI_toInt (by omega)]; omega
theorem c_80 {Y : Sm} {n q j : Nat} {P : Pm} {r : Nat → Int32} (hL : LN P r q) (hQ : CQ Y n r q) (hK : CK Y n P.1 r) (hU : CU Y n P.2.1 r) (hj : j < q) : fn_80 n (nI j) Y = some (-(clmS r j), Y) := by
  obtain ⟨h3, hq, ⟨s, t, hR, _⟩, hA⟩ := hL
  obtain ⟨⟨a, ha, ea⟩, ⟨k, hk, ek⟩, _⟩ := hR j hj
  obtain ⟨_, q2, q3, q4, _⟩ := hQ.2 j hj
  unfold fn_80 clmS
  simp (disch := omega) only [ck_in, ix_nI, q2, q3, q4, ea, ek, (hK k hk).2.1, (hU a ha).1, (hU a ha).2.1]
  by_cases c1 : r (15 + k) = nI 1
  · rw [if_pos c1, if_pos c1, Int32.neg_neg]
  · rw [if_neg c1, if_neg c1]
    by_cases c2 : r (15 + k) = nI 2
    · rw [if_pos c2, if_pos c2]
    · rw [if_neg c2, if_neg c2]
      by_cases c3 : r (15 + k) = nI 3
      · rw [if_pos c3, if_pos c3]
      · rw [if_neg c3, if_neg c3]
        rfl
/-- the class's order of ranks is the reference's order of claims -/
theorem rank_le {P : Pm} {r : Nat → Int32} {q i j : Nat} (hL : LN P r q) (hi : i < q) (hj : j < q) : (-(clmS r i) ≤ -(clmS r j)) ↔ clmS r j ≤ clmS r i := neg_le (clm_bd hL hi) (clm_bd hL hj)
theorem ser_lt {P : Pm} {r : Nat → Int32} {q i j : Nat} (hL : LN P r q) (hij : i < j) (hj : j < q) : rq r i 0 < rq r j 0 := by
  obtain ⟨h3, hq, ⟨s, t, hR, hs⟩, hA⟩ := hL
  obtain ⟨_, _, _, _, _, x, hx, ex, hp⟩ := hR j hj
  obtain ⟨y, hy, ey⟩ := hp i hij
  rw [ex, ey]
  exact nI_lt hy (by omega)
theorem ahS_lt {P : Pm} {r : Nat → Int32} {q o i : Nat} (hL : LN P r q) (ho : o < i) (hi : i < q) : ahS r o i = decide (clmS r i ≤ clmS r o) := by
  unfold ahS
  by_cases c : clmS r o = clmS r i
  · rw [if_pos c, decide_eq_true (ser_lt hL ho hi), decide_eq_true (by rw [c]; exact Int32.le_refl _)]
  · rw [if_neg c]
    by_cases d : clmS r i < clmS r o
    · rw [decide_eq_true d, decide_eq_true (Int32.le_of_lt d)]
    · rw [decide_eq_false d, decide_eq_false (fun z => by
        rcases Int32.lt_or_eq_of_le z with w | w
        · exact d w
        · exact c w.symm)]
theorem ahS_gt {P : Pm} {r : Nat → Int32} {q o i : Nat} (hL : LN P r q) (ho : i < o) (hi : o < q) : ahS r o i = decide (clmS r i < clmS r o) := by
  unfold ahS
  by_cases c : clmS r o = clmS r i
  · rw [if_pos c, c, decide_eq_false Int32.lt_irrefl, decide_eq_false (fun z => by
      have := ser_lt hL ho hi
      exact Int32.lt_irrefl (Int32.lt_trans z this))]
  · rw [if_neg c]
theorem ahS_self {r : Nat → Int32} {i : Nat} : ahS r i i = false := by
  unfold ahS
  rw [if_pos rfl]
  exact decide_eq_false Int32.lt_irrefl
theorem c_78 {Y : Sm} {n q j k : Nat} {P : Pm} {r : Nat → Int32} (hL : LN P r q) (h9 : r 9 = nI q) (hQ : CQ Y n r q) (hK : CK Y n P.1 r) (hU : CU Y n P.2.1 r) (hj : j < q) : fn_78 n (nI j) (nI k) Y = some (nI (cntN (fun o => inLS r (nI k) o && ahS r o j) q), Y) := by
  have hq := hL.2.1
  unfold fn_78
  rw [c_80 hL hQ hK hU hj, bd_t]
  refine lp_acc (fun o => nI (cntN (fun o => inLS r (nI k) o && ahS r o j) o)) q (by omega) (fun o ho => ?_) ?_
  · have hc : cntN (fun o => inLS r (nI k) o && ahS r o j) o ≤ o := cntN_le _ _
    simp only [fn_78_L12, hQ.1.1, h9]
    rw [iteI_le_f ho (by omega), c_79 hQ ho hq, bd_t, c_80 hL hQ hK hU ho]
    cases hi : inLS r (nI k) o with
    | false =>
      rw [cnt_f (by show (inLS r (nI k) o && _) = false; rw [hi]; rfl), if_pos (by decide), nI_add]
    | true =>
      rw [if_neg (by decide), bd_t]
      by_cases c : ahS r o j = true
      · rw [cnt_t (by show (inLS r (nI k) o && ahS r o j) = true; rw [hi, c]; rfl)]
        by_cases d : -(clmS r o) < -(clmS r j)
        · rw [if_pos d, nI_add, nI_add]
        · rw [if_neg d, c_80 hL hQ hK hU ho, bd_t]
          have d2 := (rank_le hL hj ho).mp (Int32.not_lt.mp d)
          rcases Nat.lt_trichotomy o j with w | w | w
          · rw [ahS_lt hL w hj] at c
            have c := of_decide_eq_true c
            have e := Int32.le_antisymm c d2
            rw [if_pos (by rw [e]), iteI_le_f w (by omega), nI_add, nI_add]
          · rw [w, ahS_self] at c; cases c
          · rw [ahS_gt hL w ho] at c
            exact absurd (of_decide_eq_true c) (Int32.not_lt.mpr d2)
      · have c' : ahS r o j = false := by simpa using c
        rw [cnt_f (by show (inLS r (nI k) o && ahS r o j) = false; rw [hi, c']; rfl)]
        have d : ¬ (-(clmS r o) < -(clmS r j)) := fun z => by
          have z2 : ¬ (clmS r o ≤ clmS r j) := fun y => Int32.not_le.mpr z ((rank_le hL hj ho).mpr y)
          have z3 := Int32.not_le.mp z2
          rcases Nat.lt_trichotomy o j with w | w | w
          · rw [ahS_lt hL w hj] at c'
            exact of_decide_eq_false c' (Int32.le_of_lt z3)
          · rw [w] at z3; exact Int32.lt_irrefl z3
          · rw [ahS_gt hL w ho] at c'
            exact of_decide_eq_false c' z3
        rw [if_neg d, c_80 hL hQ hK hU ho, bd_t]
        by_cases e : -(clmS r o) = -(clmS r j)
        · have e2 : clmS r o = clmS r j := by rw [← Int32.neg_neg (a := clmS r o), e, Int32.neg_neg]
          rw [if_pos e]
          rcases Nat.lt_or_ge o j with w | w
          · rw [ahS_lt hL w hj, e2] at c'
            exact absurd (Int32.le_refl _) (of_decide_eq_false c')
          · rw [iteI_le_t w (by omega), nI_add]
        · rw [if_neg e, nI_add]
  · simp only [fn_78_L12, hQ.1.1, h9]
    rw [iteI_le_t (Nat.le_refl _) (by omega)]

