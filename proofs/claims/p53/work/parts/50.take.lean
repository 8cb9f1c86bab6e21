/-! the class's lines: the first; taking up; passing the turn on -/
theorem cnt_0 {p : Nat → Bool} {n : Nat} (h : ∀ j, j < n → p j = false) : cntN p n = 0 := by
  induction n with
  | zero => rfl
  | succ n ih => rw [cnt_f (h n (by omega)), ih (fun j hj => h j (by omega))]
theorem cnt_pos {p : Nat → Bool} {n a : Nat} (ha : a < n) (h : p a = true) : 0 < cntN p n := by
  induction n with
  | zero => omega
  | succ n ih =>
    by_cases c : a = n
    · subst c
      rw [cnt_t h]; omega
    · have := ih (by omega)
      cases hp : p n with
      | true => rw [cnt_t hp]; omega
      | false => rw [cnt_f hp]; exact this
theorem inLS_k {r : Nat → Int32} {k : Int32} {i : Nat} (h : inLS r k i = true) : rq r i 2 = k := by
  unfold inLS at h
  exact of_decide_eq_true (Bool.and_eq_true_iff.mp h).1
theorem c_77 {Y : Sm} {n q k : Nat} {pos : Int32} {P : Pm} {r : Nat → Int32} (hL : LN P r q) (h9 : r 9 = nI q) (hQ : CQ Y n r q) (hK : CK Y n P.1 r) (hU : CU Y n P.2.1 r) : fn_77 n (nI k) pos Y = some (inLineS r q (nI k) pos, Y) := by
  have hq := hL.2.1
  unfold fn_77
  have hp : ∀ j, j < q → fn_77_L2 n (nI k) pos (nI j) Y = if (inLS r (nI k) j && decide (nI (ahN r q j) = pos)) = true then some (.inr (nI j, Y)) else some (.inl (nI (j + 1), Y)) := fun j hj => by
    simp only [fn_77_L2, hQ.1.1, h9]
    rw [iteI_le_f hj (by omega), c_79 hQ hj hq, bd_t]
    cases hi : inLS r (nI k) j with
    | false => rw [if_pos (by decide), if_neg (by simp), nI_add]
    | true =>
      have e : (fun o => inLS r (nI k) o && ahS r o j) = fun o => inLS r (rq r j 2) o && ahS r o j := by rw [inLS_k hi]
      rw [if_neg (by decide), c_78 hL h9 hQ hK hU hj, bd_t, e]
      unfold ahN
      by_cases c : nI (cntN (fun o => inLS r (rq r j 2) o && ahS r o j) q) = pos
      · rw [if_pos c, if_pos (by rw [decide_eq_true c]; rfl)]
      · rw [if_neg c, if_neg (by rw [decide_eq_false c]; simp), nI_add]
  refine lp_srch (fun i => inLS r (nI k) i && decide (nI (ahN r q i) = pos)) q (fun j => (cond (Nat.ble q j) (-1 : Int32) (nI j), Y)) (by omega) (fun j hj h => ?_) (fun j hj h => ?_) ?_
  · rw [hp j hj]
    exact if_neg (by rw [h]; decide)
  · rw [hp j hj, ble_f hj]
    exact if_pos h
  · simp only [fn_77_L2, hQ.1.1, h9]
    rw [iteI_le_t (Nat.le_refl _) (by omega), ble_t (Nat.le_refl _)]
    rfl
theorem c_76 {Y : Sm} {n q k : Nat} {P : Pm} {r : Nat → Int32} (hL : LN P r q) (h9 : r 9 = nI q) (hQ : CQ Y n r q) (hK : CK Y n P.1 r) (hU : CU Y n P.2.1 r) : fn_76 n (nI k) Y = some (inLineS r q (nI k) (nI 0), Y) := by
  have hq := hL.2.1
  unfold fn_76
  have key := Ok_lp (F := fun s => fn_76_L4 n (nI k) s.1 s.2.1 s.2.2) (Q := fun x => x = (inLineS r q (nI k) (nI 0), Y)) (fun j s => s.2.1 = nI j ∧ s.2.2 = Y ∧ ((s.1 = (-1 : Int32) ∧ ∀ o, o < j → inLS r (nI k) o = false) ∨ ∃ b, b < j ∧ s.1 = nI b ∧ inLS r (nI k) b = true ∧ ∀ o, o < j → inLS r (nI k) o = true → ahS r o b = false)) q (N := FU) (FU_lt (by omega)) (s := ((-1 : Int32), nI 0, Y)) ?_ ?_ ?_
  · obtain ⟨x, e, ex⟩ := key
    rw [e, ex]
  · rintro j ⟨l2, l3, Z⟩ hj ⟨e3, eY, hI⟩
    have e3 : l3 = nI j := e3
    have eY : Z = Y := eY
    subst e3 eY
    have hI : (l2 = (-1 : Int32) ∧ ∀ o, o < j → inLS r (nI k) o = false) ∨ ∃ b, b < j ∧ l2 = nI b ∧ inLS r (nI k) b = true ∧ ∀ o, o < j → inLS r (nI k) o = true → ahS r o b = false := hI
    have e1 : (fn_76_L4 n (nI k) l2 (nI j) Z) = (if bI (inLS r (nI k) j) = nI 0 then some (.inl (l2, nI (j + 1), Z)) else (if l2 = (-1 : Int32) then some (.inl (nI j, nI (j + 1), Z)) else bd (fn_80 n (nI j) Z) fun v9 Y7 => bd (fn_80 n l2 Y7) fun v12 Y10 => (if v12 ≤ v9 then some (.inl (l2, nI (j + 1), Y10)) else some (.inl (nI j, nI (j + 1), Y10))))) := by
      simp only [fn_76_L4, hQ.1.1, h9]
      rw [iteI_le_f hj (by omega), c_79 hQ hj hq, bd_t]
      simp only [nI_add]
    show Ok (fn_76_L4 n (nI k) l2 (nI j) Z) _
    rw [e1]
    cases hi : inLS r (nI k) j with
    | false =>
      refine ⟨_, if_pos (by decide), rfl, rfl, ?_⟩
      rcases hI with ⟨a1, a2⟩ | ⟨b, b1, b2, b3, b4⟩
      · refine Or.inl ⟨a1, fun o ho => ?_⟩
        by_cases c : o = j
        · rw [c]; exact hi
        · exact a2 o (by omega)
      · refine Or.inr ⟨b, by omega, b2, b3, fun o ho hin => ?_⟩
        by_cases c : o = j
        · rw [c, hi] at hin; cases hin
        · exact b4 o (by omega) hin
    | true =>
      rw [if_neg (by decide)]
      rcases hI with ⟨a1, a2⟩ | ⟨b, b1, b2, b3, b4⟩
      · refine ⟨_, if_pos a1, rfl, rfl, Or.inr ⟨j, by omega, rfl, hi, fun o ho hin => ?_⟩⟩
        by_cases c : o = j
        · rw [c]; exact ahS_self
        · rw [a2 o (by omega)] at hin; cases hin
      · rw [if_neg (by rw [b2]; exact nI_ne_m1 (by omega)), c_80 hL hQ hK hU hj, bd_t, b2, c_80 hL hQ hK hU (by omega : b < q), bd_t]
        by_cases d : -(clmS r b) ≤ -(clmS r j)
        · refine ⟨_, if_pos d, rfl, rfl, Or.inr ⟨b, by omega, rfl, b3, fun o ho hin => ?_⟩⟩
          by_cases c : o = j
          · rw [c, ahS_gt hL b1 hj]
            exact decide_eq_false (Int32.not_lt.mpr ((rank_le hL (by omega) hj).mp d))
          · exact b4 o (by omega) hin
        · have d2 : clmS r b < clmS r j := Int32.not_le.mp (fun z => d ((rank_le hL (by omega) hj).mpr z))
          refine ⟨_, if_neg d, rfl, rfl, Or.inr ⟨j, by omega, rfl, hi, fun o ho hin => ?_⟩⟩
          by_cases c : o = j
          · rw [c]; exact ahS_self
          · have h4 := b4 o (by omega) hin
            rw [ahS_lt hL (by omega) hj]
            refine decide_eq_false (fun z => ?_)
            have z2 := Int32.lt_of_lt_of_le d2 z
            rcases Nat.lt_trichotomy o b with w | w | w
            · rw [ahS_lt hL w (by omega)] at h4
              exact of_decide_eq_false h4 (Int32.le_of_lt z2)
            · rw [w] at z2; exact Int32.lt_irrefl z2
            · rw [ahS_gt hL w (by omega)] at h4
              exact of_decide_eq_false h4 z2
  · rintro ⟨l2, l3, Z⟩ ⟨e3, eY, hI⟩
    have e3 : l3 = nI q := e3
    have eY : Z = Y := eY
    subst e3 eY
    refine ⟨.inr (l2, Z), ?_, ?_⟩
    · simp only [fn_76_L4, hQ.1.1, h9]
      rw [iteI_le_t (Nat.le_refl _) (by omega)]
    · show (l2, Z) = (inLineS r q (nI k) (nI 0), Z)
      congr 1
      have hI : (l2 = (-1 : Int32) ∧ ∀ o, o < q → inLS r (nI k) o = false) ∨ ∃ b, b < q ∧ l2 = nI b ∧ inLS r (nI k) b = true ∧ ∀ o, o < q → inLS r (nI k) o = true → ahS r o b = false := hI
      unfold inLineS
      rcases hI with ⟨a1, a2⟩ | ⟨b, b1, b2, b3, b4⟩
      · unfold sres
        rw [srch_none (fun i hi => by rw [a2 i hi]; rfl), ble_t (Nat.le_refl _), a1]
        rfl
      · have eb : srch (fun i => inLS r (nI k) i && decide (nI (ahN r q i) = nI 0)) q = b := by
          refine srch_eq b1 ?_ (fun i hi => ?_)
          · show (inLS r (nI k) b && decide (nI (ahN r q b) = nI 0)) = true
            have : ahN r q b = 0 := cnt_0 (fun o ho => by
              rw [inLS_k b3]
              cases hin : inLS r (nI k) o with
              | false => rfl
              | true => rw [b4 o ho hin]; rfl)
            rw [b3, this]
            rfl
          · show (inLS r (nI k) i && decide (nI (ahN r q i) = nI 0)) = false
            cases hin : inLS r (nI k) i with
            | false => rfl
            | true =>
              have h4 := b4 i (by omega) hin
              rw [ahS_lt hL hi b1] at h4
              have h5 := Int32.not_le.mp (of_decide_eq_false h4)
              have hp : 0 < ahN r q i := cnt_pos b1 (by
                show (inLS r (rq r i 2) b && ahS r b i) = true
                rw [inLS_k hin, b3, ahS_gt hL hi b1, decide_eq_true h5]
                rfl)
              have hle : ahN r q i ≤ q := cntN_le _ _
              rw [decide_eq_false (fun z => by
                have := (nI_eq (by omega) (by omega)).mp z
                omega)]
              rfl
        rw [sres_f (by rw [eb]; exact b1), eb, b2]
  · exact ⟨rfl, rfl, Or.inl ⟨rfl, fun o ho => by omega⟩⟩

