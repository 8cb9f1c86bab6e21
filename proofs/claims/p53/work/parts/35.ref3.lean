/-! the tallies' order, by a row -/
/-! it is a strict order -/
theorem bet1 {P : Pm} {r : Nat → Int32} {lo : Int32} {k o : Nat} : betS P r lo (nI 1) k o = true ↔ ∃ d, d ≤ P.1 ∧ (∀ p, p < d → (fstS P r lo k p).toInt = (fstS P r lo o p).toInt) ∧ ((d < P.1 ∧ (fstS P r lo o d).toInt < (fstS P r lo k d).toInt) ∨ (d = P.1 ∧ k < o)) := by
  have hle : lexS P r lo k o ≤ P.1 := srch_le _ _
  have heq : ∀ p, p < lexS P r lo k o → (fstS P r lo k p).toInt = (fstS P r lo o p).toInt := fun p hp => by
    have := srch_no hp
    rw [Bool.not_eq_false', decide_eq_true_eq] at this
    rw [this]
  unfold betS
  rw [if_pos rfl]
  rcases Nat.lt_or_ge (lexS P r lo k o) P.1 with c | c
  · rw [ble_f c]
    have hne := srch_yes c
    rw [Bool.not_eq_true', decide_eq_false_iff_not] at hne
    show decide _ = true ↔ _
    rw [decide_eq_true_eq, Int32.lt_iff_toInt_lt]
    constructor
    · intro q
      exact ⟨_, hle, heq, Or.inl ⟨c, q⟩⟩
    · rintro ⟨d, h1, h2, h3⟩
      have hn2 : ¬ (fstS P r lo k (lexS P r lo k o)).toInt = (fstS P r lo o (lexS P r lo k o)).toInt := fun e => hne (Int32.toInt_inj.mp e)
      rcases Nat.lt_trichotomy d (lexS P r lo k o) with g | g | g
      · have := heq d g
        rcases h3 with h3 | h3 <;> omega
      · subst g
        rcases h3 with h3 | h3
        · exact h3.2
        · omega
      · exact absurd (h2 _ g) hn2
  · rw [ble_t c]
    show decide _ = true ↔ _
    rw [decide_eq_true_eq]
    have c2 : lexS P r lo k o = P.1 := Nat.le_antisymm hle c
    constructor
    · intro q
      exact ⟨P.1, Nat.le_refl _, fun p hp => heq p (by omega), Or.inr ⟨rfl, q⟩⟩
    · rintro ⟨d, h1, h2, h3⟩
      rcases h3 with h3 | h3
      · have := heq d (by omega)
        omega
      · exact h3.2
theorem bet2 {P : Pm} {r : Nat → Int32} {lo t : Int32} {k o : Nat} (ht : ¬ t = nI 1) : betS P r lo t k o = true ↔ ((t = nI 2 ∧ (winsS P r lo o < winsS P r lo k ∨ (winsS P r lo k = winsS P r lo o ∧ ((ptsS P r lo o).toInt < (ptsS P r lo k).toInt ∨ ((ptsS P r lo k).toInt = (ptsS P r lo o).toInt ∧ k < o))))) ∨ (¬ t = nI 2 ∧ ((ptsS P r lo o).toInt < (ptsS P r lo k).toInt ∨ ((ptsS P r lo k).toInt = (ptsS P r lo o).toInt ∧ k < o)))) := by
  unfold betS
  rw [if_neg ht]
  have e1 : ptsS P r lo k = ptsS P r lo o ↔ (ptsS P r lo k).toInt = (ptsS P r lo o).toInt := Int32.toInt_inj.symm
  by_cases c2 : t = nI 2
  · by_cases c3 : winsS P r lo k = winsS P r lo o
    · rw [if_neg (fun q => q.2 c3)]
      by_cases c4 : ptsS P r lo k = ptsS P r lo o
      · rw [if_pos c4, decide_eq_true_eq]
        have := e1.mp c4
        simp only [c2, c3, true_and, not_true_eq_false, false_and, or_false]
        omega
      · rw [if_neg c4, decide_eq_true_eq, Int32.lt_iff_toInt_lt]
        have : ¬ (ptsS P r lo k).toInt = (ptsS P r lo o).toInt := fun e => c4 (e1.mpr e)
        simp only [c2, c3, true_and, not_true_eq_false, false_and, or_false]
        omega
    · rw [if_pos ⟨c2, c3⟩, decide_eq_true_eq]
      simp only [c2, true_and, not_true_eq_false, false_and, or_false]
      omega
  · rw [if_neg (fun q => c2 q.1)]
    by_cases c4 : ptsS P r lo k = ptsS P r lo o
    · rw [if_pos c4, decide_eq_true_eq]
      have := e1.mp c4
      simp only [c2, false_and, false_or, not_false_eq_true, true_and]
      omega
    · rw [if_neg c4, decide_eq_true_eq, Int32.lt_iff_toInt_lt]
      have : ¬ (ptsS P r lo k).toInt = (ptsS P r lo o).toInt := fun e => c4 (e1.mpr e)
      simp only [c2, false_and, false_or, not_false_eq_true, true_and]
      omega
theorem bet_sto (P : Pm) (r : Nat → Int32) (lo t : Int32) : Sto (betS P r lo t) P.1 := by
  by_cases ht : t = nI 1
  · subst ht
    refine ⟨fun a _ => ?_, fun a b c _ _ _ h1 h2 => ?_, fun a b _ _ hne => ?_⟩
    · cases h : betS P r lo (nI 1) a a with
      | false => rfl
      | true =>
        obtain ⟨d, h1, h2, h3⟩ := bet1.mp h
        rcases h3 with h3 | h3 <;> omega
    · obtain ⟨d, a1, a2, a3⟩ := bet1.mp h1
      obtain ⟨d', b1, b2, b3⟩ := bet1.mp h2
      refine bet1.mpr ?_
      rcases Nat.lt_trichotomy d d' with g | g | g
      · refine ⟨d, a1, fun p hp => (a2 p hp).trans (b2 p (by omega)), Or.inl ⟨by omega, ?_⟩⟩
        have := b2 d g
        rcases a3 with a3 | a3 <;> omega
      · subst g
        refine ⟨d, a1, fun p hp => (a2 p hp).trans (b2 p hp), ?_⟩
        rcases a3 with a3 | a3 <;> rcases b3 with b3 | b3 <;> first | (left; constructor <;> omega) | (right; constructor <;> omega) | omega
      · refine ⟨d', b1, fun p hp => (a2 p (by omega)).trans (b2 p hp), Or.inl ⟨by omega, ?_⟩⟩
        have := a2 d' g
        rcases b3 with b3 | b3 <;> omega
    · have hle : lexS P r lo a b ≤ P.1 := srch_le _ _
      have heq : ∀ p, p < lexS P r lo a b → (fstS P r lo a p).toInt = (fstS P r lo b p).toInt := fun p hp => by
        have := srch_no hp
        rw [Bool.not_eq_false', decide_eq_true_eq] at this
        rw [this]
      rcases Nat.lt_or_ge (lexS P r lo a b) P.1 with c | c
      · have hne2 := srch_yes c
        rw [Bool.not_eq_true', decide_eq_false_iff_not] at hne2
        have hn3 : ¬ (fstS P r lo a (lexS P r lo a b)).toInt = (fstS P r lo b (lexS P r lo a b)).toInt := fun e => hne2 (Int32.toInt_inj.mp e)
        rcases Int.lt_or_gt_of_ne hn3 with q | q
        · right; exact bet1.mpr ⟨_, hle, fun p hp => (heq p hp).symm, Or.inl ⟨c, q⟩⟩
        · left; exact bet1.mpr ⟨_, hle, heq, Or.inl ⟨c, q⟩⟩
      · rcases Nat.lt_or_gt_of_ne hne with q | q
        · left; exact bet1.mpr ⟨P.1, Nat.le_refl _, fun p hp => heq p (by omega), Or.inr ⟨rfl, q⟩⟩
        · right; exact bet1.mpr ⟨P.1, Nat.le_refl _, fun p hp => (heq p (by omega)).symm, Or.inr ⟨rfl, q⟩⟩
  · refine ⟨fun a _ => ?_, fun a b c _ _ _ h1 h2 => ?_, fun a b _ _ hne => ?_⟩
    · cases h : betS P r lo t a a with
      | false => rfl
      | true =>
        have := (bet2 ht).mp h
        omega
    · have h1 := (bet2 ht).mp h1
      have h2 := (bet2 ht).mp h2
      refine (bet2 ht).mpr ?_
      by_cases c2 : t = nI 2
      · simp only [c2, true_and, not_true_eq_false, false_and, or_false] at h1 h2 ⊢
        omega
      · simp only [c2, false_and, false_or, not_false_eq_true, true_and] at h1 h2 ⊢
        omega
    · rw [bet2 ht, bet2 ht]
      by_cases c2 : t = nI 2
      · simp only [c2, true_and, not_true_eq_false, false_and, or_false]
        omega
      · simp only [c2, false_and, false_or, not_false_eq_true, true_and]
        omega

