/-! queries: answers, numbers -/
theorem br_lt {ρ : Type} {a : Int32} {n : Nat} (hn : n < 2 ^ 31) {x y : ρ} : (if a < nI 0 then x else (if a < nI n then y else x)) = cond (inb a n) y x := by
  by_cases h1 : a < nI 0
  · rw [if_pos h1]
    have : inb a n = false := by
      rw [Bool.eq_false_iff]
      intro q
      have := (inb_iff.mp q).1
      have := Int32.lt_iff_toInt_lt.mp h1
      rw [nI_toInt (by omega)] at this
      omega
    rw [this, cnd_f]
  · rw [if_neg h1]
    have h1' : 0 ≤ a.toInt := by
      have := Int32.le_iff_toInt_le.mp (Int32.not_lt.mp h1)
      rw [nI_toInt (by omega)] at this
      omega
    by_cases h2 : a < nI n
    · rw [if_pos h2]
      have h2' := Int32.lt_iff_toInt_lt.mp h2
      rw [nI_toInt hn] at h2'
      rw [inb_iff.mpr ⟨h1', h2'⟩, cnd_t]
    · rw [if_neg h2]
      have : inb a n = false := by
        rw [Bool.eq_false_iff]
        intro q
        exact h2 (Int32.lt_iff_toInt_lt.mpr (by rw [nI_toInt hn]; exact (inb_iff.mp q).2))
      rw [this, cnd_f]
theorem sub60 {x y : Nat} (hy : y ≤ 59) (hx : x ≤ 59) : nI x - nI 1 - nI y + nI 60 = nI (x + 59 - y) := by
  have e : nI x - nI 1 - nI y + nI 60 = nI x + nI 60 - nI 1 - nI y := by
    simp only [Int32.sub_eq_add_neg]
    ac_rfl
  rw [e, nI_add, pk_sub (by omega), pk_sub (by omega)]
  congr 1
theorem c_12 {Y : Sm} {m x w : Nat} {r : Nat → Int32} (h : CL Y 0 r m) (hx : x ≤ 59) (hm : x < m) (hw : w < 6) : fn_12 0 (nI x) (nI w) Y = some (r (358 + 6 * ((m - 1 - x) % 60) + w), Y) := by
  obtain ⟨⟨h1, h2⟩, h4⟩ := h
  have hd : m % 60 < 60 := Nat.mod_lt _ (by omega)
  have e : (m % 60 + 59 - x) % 60 = (m - 1 - x) % 60 := by omega
  have hz : (m - 1 - x) % 60 < 60 := Nat.mod_lt _ (by omega)
  have hz2 : (m - 1 - x) % 60 ≤ m - 1 - x := Nat.mod_le _ _
  unfold fn_12
  rw [h1, sub60 hx (by omega), pk_rem (by omega) (by omega) (by omega), e, iteI_le_t (by omega) (by omega), pk_mul, nI_add, ck_in (by omega) (by omega), ix_nI (by omega), Nat.mul_comm, h4 _ w hz (by omega) hw]
theorem ok_14 {Y : Sm} {c : Nat} (a w : Int32) (h : RR Y c) : Cok (fn_306 a w) (fn_238 a w) Y c := by
  obtain ⟨P, tu, ro, u, pos, b, h⟩ := h
  obtain ⟨e0, t, n, m, s, hR, hG, _⟩ := h.cl
  have h3 := h.1.a8
  have hms := hG.2.1.2
  have e166 : ∀ W, fn_166 w.toInt64 (Int64.ofNat 0) ((nI 5)).toInt64 W = some (bI (inb w 6), W) := fun W => by
    rw [i64_0, r_isIn, show nI 5 = nI (6 - 1) from rfl, in_0 (by omega) (by omega)]
  have e60 : ∀ W, fn_166 a.toInt64 (Int64.ofNat 0) ((nI 59)).toInt64 W = some (bI (inb a 60), W) := fun W => by
    rw [i64_0, r_isIn, show nI 59 = nI (60 - 1) from rfl, in_0 (by omega) (by omega)]
  have e352 := hR.l.1.2
  have e118 : fn_118 a w Y = cond (inb w 6) (cond (inb a (if m ≤ 60 then m else 60)) (bd (fn_12 0 a w Y) fun v3 Y1 => some (.inl v3, Y1)) (some (.inr 3, Y))) (some (.inr 1, Y)) := by
    unfold fn_118
    rw [br_lt (by omega), e352, br_lt (by split <;> omega)]
  cases hb : inb w 6 with
  | false =>
    refine w_exc (F := fn_118 a w) (x := 1) (k := nI 1) h rfl (by decide) (fun _ => if_pos rfl) ⟨Y, ?_, QC.rf⟩ (fun W hq e => ⟨nI 0, sI W 48 0 0 (nI 1), ?_, QM.told, told_at⟩)
    · rw [e118, hb, cnd_f]
    · unfold fn_238
      rw [e166, hb, bd_t, g_is, cnd_f]
  | true =>
    obtain ⟨j, hj, rfl⟩ := inb_of hb (by omega)
    have e7 : ∀ W : Sm, ML W P (gI Y.1 52 0) → gI W.1 52 0 7 = nI m := fun W hW => by rw [hW.2.1]; exact hG.1.2.2.1
    have key : inb a (if m ≤ 60 then m else 60) = false → ∀ W : Sm, QF Y W → gI W.1 52 = gI Y.1 52 → MqS (fn_238 a (nI j)) W (nI 0) (nI 2) := fun hc W hq e => by
      refine ⟨sI (sI W 48 0 0 (nI 0)) 48 0 0 (nI 2), ?_, QM.told.tr QM.told, told_at⟩
      unfold fn_238 fn_238_J44 fn_238_J45
      rw [e166, hb, bd_t, g_is, cnd_t, e60]
      cases h60 : inb a 60 with
      | false => rw [g_if, cnd_f, g_may0]
      | true =>
        obtain ⟨x, hx, rfl⟩ := inb_of h60 (by omega)
        rw [g_if, cnd_t, e7 _ (h.mw hq e).told]
        have hmx : m ≤ x := by
          rcases Nat.lt_or_ge x m with g | g
          · rw [inb_nI (by split <;> omega) (by split <;> omega)] at hc
            cases hc
          · exact g
        rw [iteI_le_t hmx (by omega), g_may0]
    cases hc : inb a (if m ≤ 60 then m else 60) with
    | false =>
      refine w_exc (F := fn_118 a (nI j)) (x := 3) (k := nI 2) h rfl (by decide) (fun _ => (if_neg (by decide)).trans (if_pos rfl)) ⟨Y, ?_, QC.rf⟩ (fun W hq e => ⟨nI 0, key hc W hq e⟩)
      rw [e118, hb, cnd_t, hc, cnd_f]
    | true =>
      obtain ⟨x, hx, rfl⟩ := inb_of hc (by split <;> omega)
      have hx1 : x ≤ 59 ∧ x < m := by
        by_cases g : m ≤ 60
        · rw [if_pos g] at hx; omega
        · rw [if_neg g] at hx; omega
      have hz : (m - 1 - x) % 60 < 60 := Nat.mod_lt _ (by omega)
      refine w_val (F := fn_118 (nI x) (nI j)) (v := gI Y.1 52 0 (358 + 6 * ((m - 1 - x) % 60) + j)) h rfl ⟨Y, ?_, QC.rf⟩ (fun W hq e => ⟨sI (sI W 48 0 0 (nI 0)) 48 0 0 (nI 0), ?_, QM.told.tr QM.told, told_at⟩)
      · rw [e118, hb, cnd_t, hc, cnd_t, c_12 hR.l hx1.1 hx1.2 hj, bd_t]
      · unfold fn_238 fn_238_J45
        rw [e166, hb, bd_t, g_is, cnd_t, e60, inb_nI (by omega) (by omega), g_if, cnd_t, e7 _ (h.mw hq e).told, iteI_le_f (by omega) (by omega), g_may1]
        rw [e7 _ (h.mw hq e).told.told, pk_sub (by omega), pk_sub (by omega), pk_rem (by omega) (by omega) (by omega), pk_mul, nI_add, nI_add, ck_in (by omega) (by omega), ix_nI (by omega), (h.mw hq e).told.told.2.1]
def cntV (P : Pm) (r : Nat → Int32) (u j : Nat) : Int32 :=
  if j = 0 then nI P.1 else if j = 1 then nI P.2.1 else if j = 2 then r 0 else if j = 3 then r 1 else if j = 4 then P.2.2.1 0 else if j = 5 then P.2.2.1 1 else if j = 6 then P.2.2.1 2 else if j = 7 then P.2.2.1 3 else if j = 8 then P.2.2.1 4 else if j = 9 then (if r 8 = (-1 : Int32) then r 9 else r 9 - nI 1) else if j = 10 then r 7 else if j = 11 then r 6 else if j = 12 then r 2 else if j = 13 then r 4 else if j = 14 then r 5 else nI u
theorem cnt_case {j : Nat} (h : j < 16) : j = 0 ∨ j = 1 ∨ j = 2 ∨ j = 3 ∨ j = 4 ∨ j = 5 ∨ j = 6 ∨ j = 7 ∨ j = 8 ∨ j = 9 ∨ j = 10 ∨ j = 11 ∨ j = 12 ∨ j = 13 ∨ j = 14 ∨ j = 15 := by omega
theorem ite_y {c : Prop} [Decidable c] {a b : Int32} {Y : Sm} : (if c then some (a, Y) else some (b, Y)) = some (if c then a else b, Y) := ite_s
theorem ok_5 {Y : Sm} {c : Nat} (w : Int32) (h : RR Y c) : Sok (fn_109 w) (fn_226 w) Y c := by
  obtain ⟨P, tu, ro, u, pos, b, h⟩ := h
  obtain ⟨e0, t, n, m, s, hR, hG, _⟩ := h.cl
  have h3 := h.1.a8
  cases hb : inb w 16 with
  | false =>
    have g := fun j (hj : j < 16) => nI_n hb (by omega) hj
    have gJ : fn_109_J23 w Y = some ((-1 : Int32), Y) := by
      unfold fn_109_J23
      rw [if_neg (g 0 (by omega)), if_neg (g 1 (by omega)), if_neg (g 2 (by omega)), if_neg (g 3 (by omega)), if_neg (g 4 (by omega)), if_neg (g 5 (by omega)), if_neg (g 6 (by omega)), if_neg (g 7 (by omega)), if_neg (g 8 (by omega)), if_neg (g 9 (by omega)), if_neg (g 10 (by omega)), if_neg (g 11 (by omega)), if_neg (g 12 (by omega)), if_neg (g 13 (by omega)), if_neg (g 14 (by omega)), if_neg (g 15 (by omega))]
    refine s_q (v := (-1 : Int32)) h ⟨Y, ?_, QC.rf⟩ (fun W hq e => ⟨nI 0, sI W 48 0 0 (nI 0), ?_, QM.told, told_at⟩)
    · unfold fn_109
      by_cases c1 : w < nI 4
      · rw [if_pos c1, gJ]
      · rw [if_neg c1]
        by_cases c2 : nI 9 ≤ w
        · rw [if_pos c2, gJ]
        · exfalso
          have c1 := Int32.le_iff_toInt_le.mp (Int32.not_lt.mp c1)
          have c2 := Int32.lt_iff_toInt_lt.mp (Int32.not_le.mp c2)
          rw [nI_toInt (by omega)] at c1 c2
          have : inb w 16 = true := inb_iff.mpr ⟨by omega, by omega⟩
          rw [this] at hb
          cases hb
    · unfold fn_226
      rw [wr_t, if_neg (g 0 (by omega)), if_neg (g 1 (by omega)), if_neg (g 2 (by omega)), if_neg (g 3 (by omega)), if_neg (g 4 (by omega)), if_neg (g 5 (by omega)), if_neg (g 6 (by omega)), if_neg (g 7 (by omega)), if_neg (g 8 (by omega)), if_neg (g 9 (by omega)), if_neg (g 10 (by omega)), if_neg (g 11 (by omega)), if_neg (g 12 (by omega)), if_neg (g 13 (by omega)), if_neg (g 14 (by omega)), if_neg (g 15 (by omega))]
  | true =>
    obtain ⟨j, hj, rfl⟩ := inb_of hb (by omega)
    refine s_q (v := cntV P (gI Y.1 52 0) u j) h ⟨Y, ?_, QC.rf⟩ (fun W hq e => ⟨nI 0, sI W 48 0 0 (nI 0), ?_, QM.told, told_at⟩)
    · have p1 := h.cp.1.1
      have p2 := h.cp.1.2
      have p3 := fun j hj => h.cp.2.1 j hj
      have a := fun x hx => hR.a x hx
      have q1 : gI Y.1 12 3 1 = gI Y.1 52 0 9 := hR.q.1.1
      have q2 : gI Y.1 12 3 2 = gI Y.1 52 0 8 := hR.q.1.2
      have hu : gI Y.1 37 0 2 = nI u := h.2.2.1.2.2.1
      unfold fn_109 fn_109_J23
      rcases cnt_case hj with rfl | rfl | rfl | rfl | rfl | rfl | rfl | rfl | rfl | rfl | rfl | rfl | rfl | rfl | rfl | rfl
      · simp (disch := omega) only [ck_in, ix_nI, pk_mul, nI_add, pk_sub, iteI_le_t, iteI_le_f, iteI_lt_t, iteI_lt_f, iteI_eq_t, iteI_eq_f, bd_t, wr_t, ite_m1_f, ite_m1_t, ↓reduceIte, p1]; rfl
      · simp (disch := omega) only [ck_in, ix_nI, pk_mul, nI_add, pk_sub, iteI_le_t, iteI_le_f, iteI_lt_t, iteI_lt_f, iteI_eq_t, iteI_eq_f, bd_t, wr_t, ite_m1_f, ite_m1_t, ↓reduceIte, p2]; rfl
      · simp (disch := omega) only [ck_in, ix_nI, pk_mul, nI_add, pk_sub, iteI_le_t, iteI_le_f, iteI_lt_t, iteI_lt_f, iteI_eq_t, iteI_eq_f, bd_t, wr_t, ite_m1_f, ite_m1_t, ↓reduceIte, a 0]; rfl
      · simp (disch := omega) only [ck_in, ix_nI, pk_mul, nI_add, pk_sub, iteI_le_t, iteI_le_f, iteI_lt_t, iteI_lt_f, iteI_eq_t, iteI_eq_f, bd_t, wr_t, ite_m1_f, ite_m1_t, ↓reduceIte, a 1]; rfl
      · simp (disch := omega) only [ck_in, ix_nI, pk_mul, nI_add, pk_sub, iteI_le_t, iteI_le_f, iteI_lt_t, iteI_lt_f, iteI_eq_t, iteI_eq_f, bd_t, wr_t, ite_m1_f, ite_m1_t, ↓reduceIte, p3]; rfl
      · simp (disch := omega) only [ck_in, ix_nI, pk_mul, nI_add, pk_sub, iteI_le_t, iteI_le_f, iteI_lt_t, iteI_lt_f, iteI_eq_t, iteI_eq_f, bd_t, wr_t, ite_m1_f, ite_m1_t, ↓reduceIte, p3]; rfl
      · simp (disch := omega) only [ck_in, ix_nI, pk_mul, nI_add, pk_sub, iteI_le_t, iteI_le_f, iteI_lt_t, iteI_lt_f, iteI_eq_t, iteI_eq_f, bd_t, wr_t, ite_m1_f, ite_m1_t, ↓reduceIte, p3]; rfl
      · simp (disch := omega) only [ck_in, ix_nI, pk_mul, nI_add, pk_sub, iteI_le_t, iteI_le_f, iteI_lt_t, iteI_lt_f, iteI_eq_t, iteI_eq_f, bd_t, wr_t, ite_m1_f, ite_m1_t, ↓reduceIte, p3]; rfl
      · simp (disch := omega) only [ck_in, ix_nI, pk_mul, nI_add, pk_sub, iteI_le_t, iteI_le_f, iteI_lt_t, iteI_lt_f, iteI_eq_t, iteI_eq_f, bd_t, wr_t, ite_m1_f, ite_m1_t, ↓reduceIte, p3]; rfl
      · simp (disch := omega) only [ck_in, ix_nI, pk_mul, nI_add, pk_sub, iteI_le_t, iteI_le_f, iteI_lt_t, iteI_lt_f, iteI_eq_t, iteI_eq_f, bd_t, wr_t, ite_m1_f, ite_m1_t, ↓reduceIte, fn_41, q1, q2, ite_y]; rfl
      · simp (disch := omega) only [ck_in, ix_nI, pk_mul, nI_add, pk_sub, iteI_le_t, iteI_le_f, iteI_lt_t, iteI_lt_f, iteI_eq_t, iteI_eq_f, bd_t, wr_t, ite_m1_f, ite_m1_t, ↓reduceIte, a 7]; rfl
      · simp (disch := omega) only [ck_in, ix_nI, pk_mul, nI_add, pk_sub, iteI_le_t, iteI_le_f, iteI_lt_t, iteI_lt_f, iteI_eq_t, iteI_eq_f, bd_t, wr_t, ite_m1_f, ite_m1_t, ↓reduceIte, a 6]; rfl
      · simp (disch := omega) only [ck_in, ix_nI, pk_mul, nI_add, pk_sub, iteI_le_t, iteI_le_f, iteI_lt_t, iteI_lt_f, iteI_eq_t, iteI_eq_f, bd_t, wr_t, ite_m1_f, ite_m1_t, ↓reduceIte, a 2]; rfl
      · simp (disch := omega) only [ck_in, ix_nI, pk_mul, nI_add, pk_sub, iteI_le_t, iteI_le_f, iteI_lt_t, iteI_lt_f, iteI_eq_t, iteI_eq_f, bd_t, wr_t, ite_m1_f, ite_m1_t, ↓reduceIte, a 4]; rfl
      · simp (disch := omega) only [ck_in, ix_nI, pk_mul, nI_add, pk_sub, iteI_le_t, iteI_le_f, iteI_lt_t, iteI_lt_f, iteI_eq_t, iteI_eq_f, bd_t, wr_t, ite_m1_f, ite_m1_t, ↓reduceIte, a 5]; rfl
      · simp (disch := omega) only [ck_in, ix_nI, pk_mul, nI_add, pk_sub, iteI_le_t, iteI_le_f, iteI_lt_t, iteI_lt_f, iteI_eq_t, iteI_eq_f, bd_t, wr_t, ite_m1_f, ite_m1_t, ↓reduceIte, hu]; rfl
    · have hT := (h.mw hq e).told (v := nI 0)
      have e52 := hT.2.1
      have p1 := hT.1.1
      have p2 := hT.1.2.1
      have p3 := fun j hj => hT.1.2.2.2.1 j hj
      have hu : gI (sI W 48 0 0 (nI 0)).1 48 0 17 = nI u := by rw [gI_sIv, upd_ne (by omega)]; exact (h.q hq).2.2.1.2.2.2.1
      unfold fn_226
      rw [wr_t]
      rcases cnt_case hj with rfl | rfl | rfl | rfl | rfl | rfl | rfl | rfl | rfl | rfl | rfl | rfl | rfl | rfl | rfl | rfl
      · simp (disch := omega) only [ck_in, ix_nI, pk_mul, nI_add, pk_sub, iteI_le_t, iteI_le_f, iteI_lt_t, iteI_lt_f, iteI_eq_t, iteI_eq_f, bd_t, wr_t, ite_m1_f, ite_m1_t, ↓reduceIte, p1]; rfl
      · simp (disch := omega) only [ck_in, ix_nI, pk_mul, nI_add, pk_sub, iteI_le_t, iteI_le_f, iteI_lt_t, iteI_lt_f, iteI_eq_t, iteI_eq_f, bd_t, wr_t, ite_m1_f, ite_m1_t, ↓reduceIte, p2]; rfl
      · simp (disch := omega) only [ck_in, ix_nI, pk_mul, nI_add, pk_sub, iteI_le_t, iteI_le_f, iteI_lt_t, iteI_lt_f, iteI_eq_t, iteI_eq_f, bd_t, wr_t, ite_m1_f, ite_m1_t, ↓reduceIte, e52]; rfl
      · simp (disch := omega) only [ck_in, ix_nI, pk_mul, nI_add, pk_sub, iteI_le_t, iteI_le_f, iteI_lt_t, iteI_lt_f, iteI_eq_t, iteI_eq_f, bd_t, wr_t, ite_m1_f, ite_m1_t, ↓reduceIte, e52]; rfl
      · simp (disch := omega) only [ck_in, ix_nI, pk_mul, nI_add, pk_sub, iteI_le_t, iteI_le_f, iteI_lt_t, iteI_lt_f, iteI_eq_t, iteI_eq_f, bd_t, wr_t, ite_m1_f, ite_m1_t, ↓reduceIte]; rw [p3 0 (by omega)]; rfl
      · simp (disch := omega) only [ck_in, ix_nI, pk_mul, nI_add, pk_sub, iteI_le_t, iteI_le_f, iteI_lt_t, iteI_lt_f, iteI_eq_t, iteI_eq_f, bd_t, wr_t, ite_m1_f, ite_m1_t, ↓reduceIte]; rw [p3 1 (by omega)]; rfl
      · simp (disch := omega) only [ck_in, ix_nI, pk_mul, nI_add, pk_sub, iteI_le_t, iteI_le_f, iteI_lt_t, iteI_lt_f, iteI_eq_t, iteI_eq_f, bd_t, wr_t, ite_m1_f, ite_m1_t, ↓reduceIte]; rw [p3 2 (by omega)]; rfl
      · simp (disch := omega) only [ck_in, ix_nI, pk_mul, nI_add, pk_sub, iteI_le_t, iteI_le_f, iteI_lt_t, iteI_lt_f, iteI_eq_t, iteI_eq_f, bd_t, wr_t, ite_m1_f, ite_m1_t, ↓reduceIte]; rw [p3 3 (by omega)]; rfl
      · simp (disch := omega) only [ck_in, ix_nI, pk_mul, nI_add, pk_sub, iteI_le_t, iteI_le_f, iteI_lt_t, iteI_lt_f, iteI_eq_t, iteI_eq_f, bd_t, wr_t, ite_m1_f, ite_m1_t, ↓reduceIte]; rw [p3 4 (by omega)]; rfl
      · simp (disch := omega) only [ck_in, ix_nI, pk_mul, nI_add, pk_sub, iteI_le_t, iteI_le_f, iteI_lt_t, iteI_lt_f, iteI_eq_t, iteI_eq_f, bd_t, wr_t, ite_m1_f, ite_m1_t, ↓reduceIte, fn_181, e52, ite_y]; rfl
      · simp (disch := omega) only [ck_in, ix_nI, pk_mul, nI_add, pk_sub, iteI_le_t, iteI_le_f, iteI_lt_t, iteI_lt_f, iteI_eq_t, iteI_eq_f, bd_t, wr_t, ite_m1_f, ite_m1_t, ↓reduceIte, e52]; rfl
      · simp (disch := omega) only [ck_in, ix_nI, pk_mul, nI_add, pk_sub, iteI_le_t, iteI_le_f, iteI_lt_t, iteI_lt_f, iteI_eq_t, iteI_eq_f, bd_t, wr_t, ite_m1_f, ite_m1_t, ↓reduceIte, e52]; rfl
      · simp (disch := omega) only [ck_in, ix_nI, pk_mul, nI_add, pk_sub, iteI_le_t, iteI_le_f, iteI_lt_t, iteI_lt_f, iteI_eq_t, iteI_eq_f, bd_t, wr_t, ite_m1_f, ite_m1_t, ↓reduceIte, e52]; rfl
      · simp (disch := omega) only [ck_in, ix_nI, pk_mul, nI_add, pk_sub, iteI_le_t, iteI_le_f, iteI_lt_t, iteI_lt_f, iteI_eq_t, iteI_eq_f, bd_t, wr_t, ite_m1_f, ite_m1_t, ↓reduceIte, e52]; rfl
      · simp (disch := omega) only [ck_in, ix_nI, pk_mul, nI_add, pk_sub, iteI_le_t, iteI_le_f, iteI_lt_t, iteI_lt_f, iteI_eq_t, iteI_eq_f, bd_t, wr_t, ite_m1_f, ite_m1_t, ↓reduceIte, e52]; rfl
      · simp (disch := omega) only [ck_in, ix_nI, pk_mul, nI_add, pk_sub, iteI_le_t, iteI_le_f, iteI_lt_t, iteI_lt_f, iteI_eq_t, iteI_eq_f, bd_t, wr_t, ite_m1_f, ite_m1_t, ↓reduceIte, hu]; rfl
