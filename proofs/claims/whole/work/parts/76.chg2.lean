/-! changes: rows -/
theorem GR.of {P : Pm} {r r' : Nat → Int32} {t n m s : Nat} (h : GR P r t n m s) (e0 : r' 0 = r 0) (e9 : r' 9 = r 9) (e7 : r' 7 = r 7) (e6 : r' 6 = r 6) (e8 : r' 8 = r 8) (h1 : ∃ x, x < 3 ∧ r' 1 = nI x) (e2 : r' 2 = r 2) (h3 : r' 3 = nI 0 ∨ r' 3 = nI 1) (eo : ∀ p, p < P.1 → r' (10 + p) = r (10 + p)) (hB : BalI r' P.1 P.2.1) (er : ∀ j w, j < n → w < 6 → rq r' j w = rq r j w) (hA : AccI r' P.2.1) (ew : ∀ k, k < P.1 → r' (73 + k) = r (73 + k)) : GR P r' t n m s := by
  obtain ⟨⟨a1, a2, a3, a4⟩, a5, a6, a7, a8, a9, b1, b2, b3, b4, b5⟩ := h
  unfold GR
  rw [e0, e9, e7, e6, e2]
  refine ⟨⟨a1, a2, a3, a4⟩, a5, h1, a7, h3, ?_, hB, b2.cg er, ?_, hA, fun k hk => ?_⟩
  · refine ⟨fun k hk => ?_, fun p hp => ?_⟩
    · obtain ⟨p, hp, q⟩ := a9.1 k hk
      exact ⟨p, hp, (eo p hp).trans q⟩
    · obtain ⟨k, hk, q⟩ := a9.2 p hp
      exact ⟨k, hk, (eo p hp).trans q⟩
  · rw [e8]
    rcases b3 with b3 | ⟨i, hi, q⟩
    · exact Or.inl b3
    · exact Or.inr ⟨i, hi, (er i 0 hi (by omega)).trans q⟩
  · rw [ew k hk]; exact b5 k hk
theorem GR.tly {P : Pm} {r : Nat → Int32} {t n m s x : Nat} (hd : P.1 ≤ 5 ∧ P.2.1 ≤ 8) (h : GR P r t n m s) (hx : x < 3) : GR P (upd r 1 (nI x)) t n m s := by
  have e : ∀ q, q ≠ 1 → upd r 1 (nI x) q = r q := fun q hq => upd_ne hq
  refine h.of (e _ (by omega)) (e _ (by omega)) (e _ (by omega)) (e _ (by omega)) (e _ (by omega)) ⟨x, hx, upd_at _ _ _⟩ (e _ (by omega)) (by rw [e 3 (by omega)]; exact h.2.2.2.2.1) (fun p _ => e _ (by omega)) (h.2.2.2.2.2.2.1.cg (fun a p _ _ => e _ (by omega))) (fun j w _ _ => e _ (by omega)) (fun a ha => ?_) (fun k _ => e _ (by omega))
  rw [e _ (by omega), e _ (by omega), e _ (by omega)]
  exact h.2.2.2.2.2.2.2.2.2.1 a ha
theorem GR.man {P : Pm} {r : Nat → Int32} {t n m s k : Nat} {v : Int32} (hd : P.1 ≤ 5 ∧ P.2.1 ≤ 8) (h : GR P r t n m s) (hk : k < 5) : GR P (upd r (15 + k) v) t n m s := by
  have e : ∀ q, q ≠ 15 + k → upd r (15 + k) v q = r q := fun q hq => upd_ne hq
  refine h.of (e _ (by omega)) (e _ (by omega)) (e _ (by omega)) (e _ (by omega)) (e _ (by omega)) (by rw [e 1 (by omega)]; exact h.2.2.1) (e _ (by omega)) (by rw [e 3 (by omega)]; exact h.2.2.2.2.1) (fun p _ => e _ (by omega)) (h.2.2.2.2.2.2.1.cg (fun a p _ _ => e _ (by omega))) (fun j w _ _ => e _ (by omega)) (fun a ha => ?_) (fun k _ => e _ (by omega))
  rw [e _ (by omega), e _ (by omega), e _ (by omega)]
  exact h.2.2.2.2.2.2.2.2.2.1 a ha
/-- the model of another memory -/
theorem R6.msl {Y W : Sm} {c tu ro u pos : Nat} {P : Pm} {b : Bool} (h : R6 Y c P tu ro u pos b) (hm : MS Y W) : ML W P (gI Y.1 52 0) ∧ gI W.1 48 0 17 = nI u := by
  have e48 := hm 48 0 (by omega) (by omega)
  refine ⟨⟨h.1.1.cg (fun x _ _ => by rw [e48]) (hm 49 0 (by omega) (by omega)), hm 52 0 (by omega) (by omega), by rw [e48]; exact h.1.2.2.2.1⟩, by rw [e48]; exact h.2.2.1.2.2.2.1⟩
theorem MFr.told {Y Z : Sm} {v : Int32} (h : MFr (sI Y 48 0 0 v) Z) : MFr Y Z := by
  obtain ⟨a, b, d⟩ := h
  refine ⟨a, fun k i hk => ⟨(b k i hk).1.trans ?_, (b k i hk).2⟩, fun x h1 h2 => (d x h1 h2).trans ?_⟩
  · rw [gI_sIk (fun z => hk (by rw [z]; decide))]
  · rw [gI_sIv, upd_ne h1]
theorem UnR.told {Y Z : Sm} {v : Int32} {u : Nat} (h : UnR (sI Y 48 0 0 v) Z u) : UnR Y Z u := by
  unfold UnR at h ⊢
  rw [gI_sIk (by omega), gI_sIk (by omega)] at h
  exact h
theorem u17 {W : Sm} {u : Nat} {v : Int32} (h : gI W.1 48 0 17 = nI u) : gI (sI W 48 0 0 v).1 48 0 17 = nI u := by rw [gI_sIv, upd_ne (by omega)]; exact h
/-- state 0 behind the push -/
theorem CcS.a {Y A : Sm} {P : Pm} {r : Nat → Int32} {c u pos : Nat} (h : CcS Y A P r c u pos) : A.2 3 = A.2 0 ∧ ∃ t q m s, CR A 0 P r q m ∧ GR P r t q m s ∧ t ≤ 500 * (c + 1) ∧ s ≤ 40 + (c + 1) ∧ AnI r P.2.1 m := h.2.2.2.1
theorem ok_36 {Y : Sm} {c : Nat} (a : Int32) (h : RR Y c) : Cok (fn_324 a) (fn_224 a) Y c := by
  obtain ⟨P, tu, ro, u, pos, b, h⟩ := h
  have h3 := h.1.a8
  cases hb : inb a 3 with
  | false =>
    refine w_exc (F := fn_140 a) (x := 1) (k := nI 1) h rfl (by decide) (fun _ => if_pos rfl) ⟨Y, ?_, QC.rf⟩ (fun W hq e => ⟨nI 0, sI W 48 0 0 (nI 1), ?_, QM.told, told_at⟩)
    · unfold fn_140
      rw [c_156, hb, cnd_f, bx_r]
    · unfold fn_224
      rw [r_isTally, hb, bd_t, g_is, cnd_f]
  | true =>
    obtain ⟨x, hx, rfl⟩ := inb_of hb (by omega)
    refine w_chg (F := fn_140 (nI x)) (fun v r' => v = gI Y.1 52 0 1 ∧ r' = upd (gI Y.1 52 0) 1 (nI x)) h rfl (fun W hm => ?_) ?_
    · obtain ⟨hW, h17⟩ := h.msl hm
      obtain ⟨Z, eZ, z1, z2, z3, z4⟩ := r_puts (Y := sI W 48 0 0 (nI 0)) (v := nI x) (x := 1) (by omega) h.2.2.1.1.2 (u17 h17)
      rw [hW.told.2.1] at eZ z1
      refine ⟨_, _, Z, ⟨rfl, rfl⟩, ?_, (MFr.of z2 (fun x _ h2 => z3 x h2)).told, fun q _ => by rw [z1], z4.told, by rw [z3 0 (by omega), told_at]⟩
      unfold fn_224
      rw [r_isTally, hb, bd_t, g_is, cnd_t, eZ, bd_t]
    · rintro v r' ⟨rfl, rfl⟩
      obtain ⟨A, eA, cA, kA, gA⟩ := c_push h
      obtain ⟨a0, t, n, m, s, hR, hG, ht, hs⟩ := cA.a
      have G : ∀ k i, k ≠ 21 → gI (sI A 21 0 2 (nI x)).1 k i = gI A.1 k i := fun k i hk => by rw [gI_sIk hk]
      refine ⟨sI A 21 0 2 (nI x), ?_, cA.s h3.2.2.2 (Fr.sI (Or.inl (Or.inr (Or.inl ⟨rfl, by decide⟩)))) ⟨a0, t, n, m, s, ?_, hG.tly ⟨h3.2.1, h3.2.2.2⟩ hx, ht, hs.1, hs.2.cg (fun a _ => upd_ne (by omega))⟩⟩
      · unfold fn_140
        rw [c_156, hb, cnd_t, bx_l, eA, bd_t, wr_t, hR.a 1 (by omega)]
      · have e : ∀ q, q ≠ 1 → upd (gI Y.1 52 0) 1 (nI x) q = gI Y.1 52 0 q := fun q hq => upd_ne hq
        refine ⟨hR.p.cg (G _ _ (by omega)) (G _ _ (by omega)) (G _ _ (by omega)), fun j hj => ?_, hR.q.cg (G _ _ (by omega)) (G _ _ (by omega)) (G _ _ (by omega)) (G _ _ (by omega)) (G _ _ (by omega)) (G _ _ (by omega)) (G _ _ (by omega)) (e 8 (by omega)) (e 9 (by omega)) (fun j w _ _ => e _ (by omega)), hR.k.cg (G _ _ (by omega)) (G _ _ (by omega)) (G _ _ (by omega)) rfl (fun k _ => ⟨e _ (by omega), e _ (by omega), e _ (by omega), e _ (by omega)⟩), hR.u.cg (G _ _ (by omega)) (G _ _ (by omega)) (G _ _ (by omega)) (G _ _ (by omega)) (G _ _ (by omega)) (G _ _ (by omega)) (fun x _ _ => e _ (by omega)) h3.2.2.2, hR.b.cg (fun _ _ => G _ _ (by omega)) (fun a p _ _ => e _ (by omega)), hR.l.cg (G _ _ (by omega)) (G _ _ (by omega)) (fun x _ _ => e _ (by omega))⟩
        rw [gI_sIv]
        by_cases d : j = 1
        · rw [d, upd_at, upd_at]
        · rw [upd_ne (by omega), upd_ne d]
          exact hR.a j hj
theorem ok_37 {Y : Sm} {c : Nat} (a w : Int32) (h : RR Y c) : Cok (fn_325 a w) (fn_225 a w) Y c := by
  obtain ⟨P, tu, ro, u, pos, b, h⟩ := h
  have h3 := h.1.a8
  have e166 : ∀ W, fn_166 w.toInt64 (Int64.ofNat 0) ((nI 3)).toInt64 W = some (bI (inb w 4), W) := fun W => by
    rw [i64_0, r_isIn, show nI 3 = nI (4 - 1) from rfl, in_0 (by omega) (by omega)]
  cases hb : inb a P.1 with
  | false =>
    refine w_exc (F := fn_141 a w) (x := 0) (k := nI 1) h rfl (by decide) (fun _ => if_pos rfl) ⟨Y, ?_, QC.rf⟩ (fun W hq e => ⟨nI 0, sI W 48 0 0 (nI 1), ?_, QM.told, told_at⟩)
    · unfold fn_141
      rw [h.c155, hb, cnd_f, bx_r]
    · unfold fn_225
      rw [(h.mw hq e).cls, hb, bd_t, g_is, cnd_f]
  | true =>
    obtain ⟨k, hk, rfl⟩ := inb_of hb (by omega)
    cases hc : inb w 4 with
    | false =>
      refine w_exc (F := fn_141 (nI k) w) (x := 1) (k := nI 2) h rfl (by decide) (fun _ => (if_neg (by decide)).trans (if_pos rfl)) ⟨Y, ?_, QC.rf⟩ (fun W hq e => ⟨nI 0, sI (sI W 48 0 0 (nI 0)) 48 0 0 (nI 2), ?_, QM.told.tr QM.told, told_at⟩)
      · unfold fn_141
        rw [h.c155, hb, cnd_t, bx_l, br_le (by omega), hc, cnd_f]
      · unfold fn_225
        rw [(h.mw hq e).cls, hb, bd_t, g_is, cnd_t, e166, hc, bd_t, g_may, cnd_f]
    | true =>
      refine w_chg (F := fn_141 (nI k) w) (fun v r' => v = gI Y.1 52 0 (15 + k) ∧ r' = upd (gI Y.1 52 0) (15 + k) w) h rfl (fun W hm => ?_) ?_
      · obtain ⟨hW, h17⟩ := h.msl hm
        obtain ⟨Z, eZ, z1, z2, z3, z4⟩ := r_puts (Y := sI (sI W 48 0 0 (nI 0)) 48 0 0 (nI 0)) (v := w) (x := 15 + k) (by omega) h.2.2.1.1.2 (u17 (u17 h17))
        rw [hW.told.told.2.1] at eZ z1
        refine ⟨_, _, Z, ⟨rfl, rfl⟩, ?_, (MFr.of z2 (fun x _ h2 => z3 x h2)).told.told, fun q _ => by rw [z1], z4.told.told, by rw [z3 0 (by omega), told_at]⟩
        unfold fn_225
        rw [hW.cls, hb, bd_t, g_is, cnd_t, e166, hc, bd_t, g_may, cnd_t, nI_add, eZ, bd_t]
      · rintro v r' ⟨rfl, rfl⟩
        obtain ⟨A, eA, cA, kA, gA⟩ := c_push h
        obtain ⟨a0, t, n, m, s, hR, hG, ht, hs⟩ := cA.a
        have G : ∀ j i, j ≠ 23 → gI (sI A 23 0 k w).1 j i = gI A.1 j i := fun j i hk => by rw [gI_sIk hk]
        refine ⟨sI A 23 0 k w, ?_, cA.s h3.2.2.2 (Fr.sI (Or.inl (Or.inr (Or.inl ⟨rfl, by decide⟩)))) ⟨a0, t, n, m, s, ?_, hG.man ⟨h3.2.1, h3.2.2.2⟩ (by omega), ht, hs.1, hs.2.cg (fun a _ => upd_ne (by omega))⟩⟩
        · unfold fn_141
          rw [h.c155, hb, cnd_t, bx_l, br_le (by omega), hc, cnd_t, eA, bd_t, ck_in (by omega) (by omega), wr_t, ix_nI (by omega), (hR.k k hk).2.1]
        · have e : ∀ q, q ≠ 15 + k → upd (gI Y.1 52 0) (15 + k) w q = gI Y.1 52 0 q := fun q hq => upd_ne hq
          refine ⟨hR.p.cg (G _ _ (by omega)) (G _ _ (by omega)) (G _ _ (by omega)), hR.a.cg (G _ _ (by omega)) (fun x _ => e _ (by omega)), hR.q.cg (G _ _ (by omega)) (G _ _ (by omega)) (G _ _ (by omega)) (G _ _ (by omega)) (G _ _ (by omega)) (G _ _ (by omega)) (G _ _ (by omega)) (e 8 (by omega)) (e 9 (by omega)) (fun j w _ _ => e _ (by omega)), fun j hj => ?_, hR.u.cg (G _ _ (by omega)) (G _ _ (by omega)) (G _ _ (by omega)) (G _ _ (by omega)) (G _ _ (by omega)) (G _ _ (by omega)) (fun x _ _ => e _ (by omega)) h3.2.2.2, hR.b.cg (fun _ _ => G _ _ (by omega)) (fun a p _ _ => e _ (by omega)), hR.l.cg (G _ _ (by omega)) (G _ _ (by omega)) (fun x _ _ => e _ (by omega))⟩
          obtain ⟨q1, q2, q3, q4⟩ := hR.k j hj
          rw [G 22 _ (by omega), G 24 _ (by omega), gI_sIv, e (10 + j) (by omega), e (68 + j) (by omega), e (73 + j) (by omega)]
          refine ⟨q1, ?_, q3, q4⟩
          by_cases d : j = k
          · rw [d, upd_at, upd_at]
          · rw [upd_ne d, upd_ne (by omega)]
            exact q2
/-! paying back -/
theorem sI_sI {Y : Sm} {k i a b : Nat} {v w : Int32} : sI (sI Y k i a v) k i b w = sF Y k i (upd (upd (gI Y.1 k i) a v) b w) := by
  rw [sI_sF Y k i a v, sI_s]
def minS (a b : Int32) : Int32 := if b ≤ a then b else a
theorem min_c (a b : Int32) : (if b < a then b else a) = minS a b := by
  unfold minS
  by_cases h : b < a
  · rw [if_pos h, if_pos (Int32.le_of_lt h)]
  · rw [if_neg h]
    by_cases h2 : b ≤ a
    · rw [if_pos h2]
      exact Int32.le_antisymm (Int32.not_lt.mp h) h2
    · rw [if_neg h2]
def paidS (r : Nat → Int32) (a : Nat) : Int32 := minS (r (20 + a)) (r (28 + a))
def payS (r : Nat → Int32) (a : Nat) : Nat → Int32 := upd (upd r (20 + a) (r (20 + a) - paidS r a)) (28 + a) (r (28 + a) - paidS r a)
theorem payS_o {r : Nat → Int32} {a q : Nat} (h1 : q ≠ 20 + a) (h2 : q ≠ 28 + a) : payS r a q = r q := by
  unfold payS
  rw [upd_ne h2, upd_ne h1]
theorem payS_c {r : Nat → Int32} {a : Nat} : payS r a (20 + a) = r (20 + a) - paidS r a := by
  unfold payS
  rw [upd_ne (by omega), upd_at]
theorem payS_d {r : Nat → Int32} {a : Nat} : payS r a (28 + a) = r (28 + a) - paidS r a := by
  unfold payS
  rw [upd_at]
theorem paid_n {r : Nat → Int32} {a x d : Nat} (h1 : r (20 + a) = nI x) (h2 : r (28 + a) = nI d) (hx : x ≤ 999) (hd : d ≤ 99) : paidS r a = nI (if d ≤ x then d else x) := by
  unfold paidS minS
  rw [h1, h2]
  rcases Nat.lt_or_ge x d with w | w
  · rw [iteI_le_f w (by omega), if_neg (by omega)]
  · rw [iteI_le_t w (by omega), if_pos (by omega)]
theorem GR.pay {P : Pm} {r : Nat → Int32} {t n m s a : Nat} (hd : P.1 ≤ 5 ∧ P.2.1 ≤ 8) (h : GR P r t n m s) (ha : a < P.2.1) : GR P (payS r a) t n m s := by
  have e : ∀ q, q ≠ 20 + a → q ≠ 28 + a → payS r a q = r q := fun q => payS_o
  have hA := h.2.2.2.2.2.2.2.2.2.1
  refine h.of (e _ (by omega) (by omega)) (e _ (by omega) (by omega)) (e _ (by omega) (by omega)) (e _ (by omega) (by omega)) (e _ (by omega) (by omega)) (by rw [e 1 (by omega) (by omega)]; exact h.2.2.1) (e _ (by omega) (by omega)) (by rw [e 3 (by omega) (by omega)]; exact h.2.2.2.2.1) (fun p _ => e _ (by omega) (by omega)) (h.2.2.2.2.2.2.1.cg (fun a p _ _ => e _ (by omega) (by omega))) (fun j w _ _ => e _ (by omega) (by omega)) (fun a' ha' => ?_) (fun k _ => e _ (by omega) (by omega))
  by_cases d : a' = a
  · subst d
    obtain ⟨⟨x, hx, ex⟩, ⟨y, hy, ey⟩, hz⟩ := hA a' ha'
    have ep := paid_n ex ey hx hy
    rw [payS_c, payS_d, e (36 + a') (by omega) (by omega), ep, ex, ey, pk_sub (by split <;> omega), pk_sub (by split <;> omega)]
    exact ⟨⟨_, by omega, rfl⟩, ⟨_, by omega, rfl⟩, hz⟩
  · rw [e _ (by omega) (by omega), e _ (by omega) (by omega), e _ (by omega) (by omega)]
    exact hA a' ha'
theorem ok_35 {Y : Sm} {c : Nat} (a : Int32) (h : RR Y c) : Cok (fn_323 a) (fn_221 a) Y c := by
  obtain ⟨P, tu, ro, u, pos, b, h⟩ := h
  have h3 := h.1.a8
  cases hb : inb a P.2.1 with
  | false =>
    refine w_exc (F := fn_139 a) (x := 0) (k := nI 1) h rfl (by decide) (fun _ => if_pos rfl) ⟨Y, ?_, QC.rf⟩ (fun W hq e => ⟨nI 0, sI W 48 0 0 (nI 1), ?_, QM.told, told_at⟩)
    · unfold fn_139
      rw [h.c154, hb, cnd_f, bx_r]
    · unfold fn_221
      rw [(h.mw hq e).ask, hb, bd_t, g_is, cnd_f]
  | true =>
    obtain ⟨k, hk, rfl⟩ := inb_of hb (by omega)
    refine w_chg (F := fn_139 (nI k)) (fun v r' => v = paidS (gI Y.1 52 0) k ∧ r' = payS (gI Y.1 52 0) k) h rfl (fun W hm => ?_) ?_
    · obtain ⟨hW, h17⟩ := h.msl hm
      have hT := hW.told (v := nI 0)
      obtain ⟨Z, eZ, z1, z2, z3, z4⟩ := r_step (Y := sI W 48 0 0 (nI 0)) (v := paidS (gI Y.1 52 0) k) (r' := payS (gI Y.1 52 0) k) h.2.2.1.1.2 (u17 h17) rfl
      refine ⟨_, _, Z, ⟨rfl, rfl⟩, ?_, (MFr.of z2 (fun x _ h2 => z3 x h2)).told, fun q _ => by rw [z1], z4.told, by rw [z3 0 (by omega), told_at]⟩
      unfold fn_221
      rw [hW.ask, hb, bd_t, g_is, cnd_t, r_starts, bd_t, nI_add, nI_add, ck_in (by omega) (by omega), ck_in (by omega) (by omega), ix_nI (by omega), ix_nI (by omega)]
      have e7 : gI (sF (sI W 48 0 0 (nI 0)) 54 0 (cpy (gI (sI W 48 0 0 (nI 0)).1 52 0) (gI (sI W 48 0 0 (nI 0)).1 54 0))).1 52 0 = gI Y.1 52 0 := by rw [gI_sFk (by omega), hT.2.1]
      generalize sF (sI W 48 0 0 (nI 0)) 54 0 (cpy (gI (sI W 48 0 0 (nI 0)).1 52 0) (gI (sI W 48 0 0 (nI 0)).1 54 0)) = Y7 at e7 eZ ⊢
      rw [e7, r_lesser, bd_t, wr_t, wr_t, e7, gI_sIv, e7, upd_ne (by omega), sI_sI]
      show bd (fn_172 (paidS (gI Y.1 52 0) k) (sF Y7 52 0 (upd (upd (gI Y7.1 52 0) (20 + k) (gI Y.1 52 0 (20 + k) - paidS (gI Y.1 52 0) k)) (28 + k) (gI Y.1 52 0 (28 + k) - paidS (gI Y.1 52 0) k)))) _ = _
      rw [e7]
      show bd (fn_172 (paidS (gI Y.1 52 0) k) (sF Y7 52 0 (payS (gI Y.1 52 0) k))) _ = _
      rw [eZ, bd_t]
    · rintro v r' ⟨rfl, rfl⟩
      obtain ⟨A, eA, cA, kA, gA⟩ := c_push h
      obtain ⟨a0, t, n, m, s, hR, hG, ht, hs⟩ := cA.a
      have hu := hR.u k hk
      generalize hZ : sI (sI A 29 0 k (gI Y.1 52 0 (20 + k) - paidS (gI Y.1 52 0) k)) 30 0 k (gI Y.1 52 0 (28 + k) - paidS (gI Y.1 52 0) k) = Z
      have G : ∀ j i, j ≠ 29 → j ≠ 30 → gI Z.1 j i = gI A.1 j i := fun j i h1 h2 => by rw [← hZ, gI_sIk h2, gI_sIk h1]
      have e : ∀ q, q ≠ 20 + k → q ≠ 28 + k → payS (gI Y.1 52 0) k q = gI Y.1 52 0 q := fun q => payS_o
      have fZ : Fr SZ A Z := by
        rw [← hZ]
        exact (Fr.sI (Or.inl (Or.inr (Or.inl ⟨rfl, by decide⟩)))).tr (Fr.sI (Or.inl (Or.inr (Or.inl ⟨rfl, by decide⟩))))
      refine ⟨Z, ?_, cA.s h3.2.2.2 fZ ⟨by rw [fZ.1]; exact a0, t, n, m, s, ?_, hG.pay ⟨h3.2.1, h3.2.2.2⟩ hk, ht, hs.1, hs.2.cg (fun a _ => payS_o (by omega) (by omega))⟩⟩
      · unfold fn_139 fn_6
        rw [h.c154, hb, cnd_t, bx_l, eA, bd_t, ck_in (by omega) (by omega), ix_nI (by omega), hu.1, hu.2.1, min_c, wr_t, gI_sIk (by omega), hu.2.1, wr_t]
        rw [show minS (gI Y.1 52 0 (20 + k)) (gI Y.1 52 0 (28 + k)) = paidS (gI Y.1 52 0) k from rfl, hZ, bd_t]
      · refine ⟨?_, hR.a.cg (G _ _ (by omega) (by omega)) (fun x _ => e _ (by omega) (by omega)), hR.q.cg (G _ _ (by omega) (by omega)) (G _ _ (by omega) (by omega)) (G _ _ (by omega) (by omega)) (G _ _ (by omega) (by omega)) (G _ _ (by omega) (by omega)) (G _ _ (by omega) (by omega)) (G _ _ (by omega) (by omega)) (e 8 (by omega) (by omega)) (e 9 (by omega) (by omega)) (fun j w _ _ => e _ (by omega) (by omega)), hR.k.cg (G _ _ (by omega) (by omega)) (G _ _ (by omega) (by omega)) (G _ _ (by omega) (by omega)) (by rw [← hZ]; rfl) (fun j _ => ⟨e _ (by omega) (by omega), e _ (by omega) (by omega), e _ (by omega) (by omega), e _ (by omega) (by omega)⟩), fun j hj => ?_, hR.b.cg (fun _ _ => G _ _ (by omega) (by omega)) (fun a p _ _ => e _ (by omega) (by omega)), hR.l.cg (G _ _ (by omega) (by omega)) (G _ _ (by omega) (by omega)) (fun x _ _ => e _ (by omega) (by omega))⟩
        · rw [fZ.1]
          exact hR.p.cg (G _ _ (by omega) (by omega)) (G _ _ (by omega) (by omega)) (G _ _ (by omega) (by omega))
        · obtain ⟨q1, q2, q3, q4, q5, q6⟩ := hR.u j hj
          rw [G 31 _ (by omega) (by omega), G 32 _ (by omega) (by omega), G 33 _ (by omega) (by omega), G 34 _ (by omega) (by omega), e (36 + j) (by omega) (by omega), e (44 + j) (by omega) (by omega), e (52 + j) (by omega) (by omega), e (60 + j) (by omega) (by omega)]
          refine ⟨?_, ?_, q3, q4, q5, q6⟩
          · rw [← hZ, gI_sIk (by omega), gI_sIv]
            by_cases d : j = k
            · rw [d, upd_at, payS_c]
            · rw [upd_ne d, e _ (by omega) (by omega)]; exact q1
          · rw [← hZ, gI_sIv, gI_sIk (by omega)]
            by_cases d : j = k
            · rw [d, upd_at, payS_d]
            · rw [upd_ne d, e _ (by omega) (by omega)]; exact q2
