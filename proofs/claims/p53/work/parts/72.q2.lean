/-! queries: requests, lines, answers, numbers -/
theorem sres_c (p : Nat → Bool) (n : Nat) : sres p n = (-1 : Int32) ∨ ∃ j, j < n ∧ p j = true ∧ sres p n = nI j := by
  rcases Nat.lt_or_ge (srch p n) n with h | h
  · exact Or.inr ⟨_, h, srch_yes h, sres_f h⟩
  · exact Or.inl (sres_n h)
theorem c_158 {Y : Sm} {n : Nat} {r : Nat → Int32} (h : CQ Y 0 r n) (h9 : r 9 = nI n) (hn : n ≤ 40) (x : Int32) : fn_158 x Y = some (if sres (fun j => decide (rq r j 0 = x)) n = (-1 : Int32) then .inr 3 else .inl (sres (fun j => decide (rq r j 0 = x)) n), Y) := by
  have e : fn_38 3 x Y = _ := c_38 (n := 0) h h9 hn
  unfold fn_158
  rw [e, bd_t]
  by_cases q : sres (fun j => decide (rq r j 0 = x)) n = (-1 : Int32)
  · rw [if_pos q, if_pos q]
  · rw [if_neg q, if_neg q]
/-! ranks among some -/
theorem enumP (p : Nat → Bool) (n : Nat) : ∃ e : Nat → Nat, (∀ j, j < cntN p n → e j < n ∧ p (e j) = true) ∧ ∀ i j, i < cntN p n → j < cntN p n → e i = e j → i = j := by
  induction n with
  | zero => exact ⟨fun _ => 0, fun j hj => absurd hj (Nat.not_lt_zero _), fun i j hi => absurd hi (Nat.not_lt_zero _)⟩
  | succ n ih =>
    obtain ⟨e, h1, h2⟩ := ih
    cases hp : p n with
    | false =>
      rw [cnt_f hp]
      exact ⟨e, fun j hj => ⟨by have := (h1 j hj).1; omega, (h1 j hj).2⟩, h2⟩
    | true =>
      rw [cnt_t hp]
      refine ⟨fun j => if j = cntN p n then n else e j, fun j hj => ?_, fun i j hi hj hij => ?_⟩
      · show (if j = cntN p n then n else e j) < n + 1 ∧ p (if j = cntN p n then n else e j) = true
        by_cases c : j = cntN p n
        · rw [if_pos c]; exact ⟨by omega, hp⟩
        · rw [if_neg c]; exact ⟨by have := (h1 j (by omega)).1; omega, (h1 j (by omega)).2⟩
      · have hij : (if i = cntN p n then n else e i) = (if j = cntN p n then n else e j) := hij
        by_cases c : i = cntN p n
        · by_cases d : j = cntN p n
          · rw [c, d]
          · rw [if_pos c, if_neg d] at hij
            have := (h1 j (by omega)).1
            omega
        · by_cases d : j = cntN p n
          · rw [if_neg c, if_pos d] at hij
            have := (h1 i (by omega)).1
            omega
          · rw [if_neg c, if_neg d] at hij
            exact h2 i j (by omega) (by omega) hij
theorem rkP_surj {lt : Nat → Nat → Bool} {p : Nat → Bool} {n : Nat} (hS : Sto lt n) {q : Nat} (hq : q < cntN p n) : ∃ i, i < n ∧ p i = true ∧ cntN (fun o => p o && lt o i) n = q := by
  obtain ⟨e, h1, h2⟩ := enumP p n
  have a1 : ∀ j, j < cntN p n → (fun j => cntN (fun o => p o && lt o (e j)) n) j < cntN p n := fun j hj => by
    show cntN (fun o => p o && lt o (e j)) n < cntN p n
    exact cntN_lt (h1 j hj).1 (fun o _ ho => (Bool.and_eq_true_iff.mp ho).1) (by rw [hS.1 _ (h1 j hj).1, Bool.and_false]) (h1 j hj).2
  have a2 : ∀ i j, i < cntN p n → j < cntN p n → (fun j => cntN (fun o => p o && lt o (e j)) n) i = (fun j => cntN (fun o => p o && lt o (e j)) n) j → i = j := fun i j hi hj hij => by
    have hij : cntN (fun o => p o && lt o (e i)) n = cntN (fun o => p o && lt o (e j)) n := hij
    refine h2 i j hi hj ?_
    obtain ⟨i1, i2⟩ := h1 i hi
    obtain ⟨j1, j2⟩ := h1 j hj
    by_cases c : e i = e j
    · exact c
    · have key : ∀ a b, a < n → b < n → p a = true → lt a b = true → cntN (fun o => p o && lt o a) n < cntN (fun o => p o && lt o b) n := fun a b ha hb hp hab => by
        refine cntN_lt ha (fun o ho hpo => ?_) (by rw [hS.1 a ha, Bool.and_false]) (by rw [hp, hab]; rfl)
        obtain ⟨x1, x2⟩ := Bool.and_eq_true_iff.mp hpo
        rw [x1, hS.2.1 o a b ho ha hb x2 hab]
        rfl
      rcases hS.2.2 (e i) (e j) i1 j1 c with g | g
      · have := key _ _ i1 j1 i2 g
        omega
      · have := key _ _ j1 i1 j2 g
        omega
  obtain ⟨j, hj, ej⟩ := surj_of_inj (cntN p n) (fun j => cntN (fun o => p o && lt o (e j)) n) a1 a2 q hq
  exact ⟨e j, (h1 j hj).1, (h1 j hj).2, ej⟩
theorem ahS_sto {P : Pm} {r : Nat → Int32} {n : Nat} (hL : LN P r n) : Sto (ahS r) n := by
  have ser : ∀ a b, a < n → b < n → a ≠ b → (rq r a 0).toInt ≠ (rq r b 0).toInt := fun a b ha hb hne e => by
    rcases Nat.lt_or_gt_of_ne hne with g | g
    · have := Int32.lt_iff_toInt_lt.mp (ser_lt hL g hb)
      omega
    · have := Int32.lt_iff_toInt_lt.mp (ser_lt hL g ha)
      omega
  have iff : ∀ i o, ahS r i o = true ↔ ((clmS r o).toInt < (clmS r i).toInt ∨ ((clmS r i).toInt = (clmS r o).toInt ∧ (rq r i 0).toInt < (rq r o 0).toInt)) := fun i o => by
    unfold ahS
    by_cases e : clmS r i = clmS r o
    · rw [if_pos e, decide_eq_true_eq, Int32.lt_iff_toInt_lt, e]
      omega
    · rw [if_neg e, decide_eq_true_eq, Int32.lt_iff_toInt_lt]
      have : (clmS r i).toInt ≠ (clmS r o).toInt := fun q => e (Int32.toInt_inj.mp q)
      omega
  refine ⟨fun a _ => ahS_self, fun a b d _ _ _ h1 h2 => ?_, fun a b ha hb hne => ?_⟩
  · rw [iff] at *
    omega
  · rw [iff, iff]
    have := ser a b ha hb hne
    omega
theorem ahN_in {r : Nat → Int32} {n i : Nat} {k : Int32} (h : inLS r k i = true) : ahN r n i = cntN (fun o => inLS r k o && ahS r o i) n := by
  unfold ahN
  rw [inLS_k h]
/-- a place of a line is there iff it is less than the number of those that wait -/
theorem line_in {P : Pm} {r : Nat → Int32} {n : Nat} {k q : Int32} (hL : LN P r n) : inb q (cntN (inLS r k) n) = true ↔ ∃ i, i < n ∧ inLineS r n k q = nI i := by
  have hn := hL.2.1
  have hc := cntN_le (inLS r k) n
  constructor
  · intro hq
    obtain ⟨x, hx, rfl⟩ := inb_of hq (by omega)
    obtain ⟨i, hi, hp, e⟩ := rkP_surj (ahS_sto hL) hx
    have hs : srch (fun i => inLS r k i && decide (nI (ahN r n i) = nI x)) n < n := srch_lt hi (by rw [hp, ahN_in hp, e]; simp)
    refine ⟨_, hs, ?_⟩
    unfold inLineS
    exact sres_f hs
  · rintro ⟨i, hi, e⟩
    unfold inLineS at e
    rcases sres_c (fun i => inLS r k i && decide (nI (ahN r n i) = q)) n with g | ⟨j, hj, hp, g⟩
    · rw [g] at e
      exact absurd e (m1_ne_nI (by omega))
    · obtain ⟨p1, p2⟩ := Bool.and_eq_true_iff.mp hp
      have hq := of_decide_eq_true p2
      rw [ahN_in p1] at hq
      rw [← hq]
      exact inb_nI (cntN_lt hj (fun o _ ho => (Bool.and_eq_true_iff.mp ho).1) (by rw [(ahS_sto hL).1 j hj, Bool.and_false]) p1) (by omega)
theorem in_0' {x : Int32} {n : Nat} (hn2 : n < 2 ^ 31) : decide ((nI 0).toInt64 ≤ x.toInt64 ∧ x.toInt64 ≤ (nI n - nI 1).toInt64) = inb x n := by
  rcases Nat.eq_zero_or_pos n with rfl | h
  · rw [Bool.eq_iff_iff, inb_iff]
    simp only [decide_eq_true_eq, i64_le, Int32.le_iff_toInt_le]
    rw [nI_toInt (by omega), show (nI 0 - nI 1).toInt = -1 by decide]
    omega
  · rw [pk_sub h, in_0 h hn2]
