/-! queries: what both sides' guards do -/
theorem R6.cl {Y : Sm} {c tu ro u pos : Nat} {P : Pm} {b : Bool} (h : R6 Y c P tu ro u pos b) : Y.2 3 = Y.2 0 ∧ ∃ t n m s, CR Y 0 P (gI Y.1 52 0) n m ∧ GR P (gI Y.1 52 0) t n m s ∧ t ≤ 500 * c ∧ s ≤ 40 + c ∧ AnI (gI Y.1 52 0) P.2.1 m := h.2.1
theorem R6.cp {Y : Sm} {c tu ro u pos : Nat} {P : Pm} {b : Bool} (h : R6 Y c P tu ro u pos b) : CP Y (Y.2 0) P := by
  obtain ⟨e, t, n, m, s, hR, _⟩ := h.cl
  have := hR.p
  rw [show (0 + 3) = 3 from rfl, e] at this
  exact this
theorem R6.pn {Y : Sm} {c tu ro u pos : Nat} {P : Pm} {b : Bool} (h : R6 Y c P tu ro u pos b) : PN P (gI Y.1 52 0) := by
  obtain ⟨e, t, n, m, s, hR, hG, _⟩ := h.cl
  exact ⟨h.1.a8, hG.2.2.2.2.2.2.1, h.1.2.1⟩
/-- the model with a row -/
def ML (Y : Sm) (P : Pm) (r : Nat → Int32) : Prop := MP Y P ∧ gI Y.1 52 0 = r ∧ gI Y.1 48 0 19 = (-1 : Int32)
theorem R6.ml {Y : Sm} {c tu ro u pos : Nat} {P : Pm} {b : Bool} (h : R6 Y c P tu ro u pos b) : ML Y P (gI Y.1 52 0) := ⟨h.1.1, rfl, h.1.2.2.2.1⟩
theorem R6.mw {Y W : Sm} {c tu ro u pos : Nat} {P : Pm} {b : Bool} (h : R6 Y c P tu ro u pos b) (hq : QF Y W) (e : gI W.1 52 = gI Y.1 52) : ML W P (gI Y.1 52 0) := by
  have := (h.q hq).ml
  rw [e] at this
  exact this
theorem ML.told {Y : Sm} {P : Pm} {r : Nat → Int32} {v : Int32} (h : ML Y P r) : ML (sI Y 48 0 0 v) P r :=
  ⟨h.1.cg (fun x h1 _ => by rw [gI_sIv, upd_ne (by omega)]) (by rw [gI_sIk (by omega)]), by rw [gI_sIk (by omega)]; exact h.2.1, by rw [gI_sIv, upd_ne (by omega)]; exact h.2.2⟩
theorem told_at {Y : Sm} {v : Int32} : gI (sI Y 48 0 0 v).1 48 0 0 = v := by rw [gI_sIv, upd_at]
theorem c_154 {Y : Sm} {A : Nat} (h : gI Y.1 5 (Y.2 0) 3 = nI A) (hA : A < 2 ^ 31) (a : Int32) : fn_154 a Y = some (cond (inb a A) (.inl ()) (.inr 0), Y) := by
  unfold fn_154
  rw [h]
  by_cases h1 : a < nI 0
  · rw [if_pos h1]
    have : inb a A = false := by
      rw [Bool.eq_false_iff]
      intro q
      have := (inb_iff.mp q).1
      have := Int32.lt_iff_toInt_lt.mp h1
      rw [nI_toInt (by omega)] at this
      omega
    rw [this, cnd_f]
  · rw [if_neg h1]
    have h1' : 0 ≤ a.toInt := by
      have := Int32.le_iff_toInt_le.mp (Int32.not_lt.mp h1)
      rw [nI_toInt (by omega)] at this
      omega
    by_cases h2 : a < nI A
    · rw [if_pos h2]
      have h2' := Int32.lt_iff_toInt_lt.mp h2
      rw [nI_toInt hA] at h2'
      rw [inb_iff.mpr ⟨h1', h2'⟩, cnd_t]
    · rw [if_neg h2]
      have : inb a A = false := by
        rw [Bool.eq_false_iff]
        intro q
        exact h2 (Int32.lt_iff_toInt_lt.mpr (by rw [nI_toInt hA]; exact (inb_iff.mp q).2))
      rw [this, cnd_f]
theorem c_155 {Y : Sm} {A : Nat} (h : gI Y.1 5 (Y.2 0) 0 = nI A) (hA : A < 2 ^ 31) (a : Int32) : fn_155 a Y = some (cond (inb a A) (.inl ()) (.inr 0), Y) := by
  unfold fn_155
  rw [h]
  by_cases h1 : a < nI 0
  · rw [if_pos h1]
    have : inb a A = false := by
      rw [Bool.eq_false_iff]
      intro q
      have := (inb_iff.mp q).1
      have := Int32.lt_iff_toInt_lt.mp h1
      rw [nI_toInt (by omega)] at this
      omega
    rw [this, cnd_f]
  · rw [if_neg h1]
    have h1' : 0 ≤ a.toInt := by
      have := Int32.le_iff_toInt_le.mp (Int32.not_lt.mp h1)
      rw [nI_toInt (by omega)] at this
      omega
    by_cases h2 : a < nI A
    · rw [if_pos h2]
      have h2' := Int32.lt_iff_toInt_lt.mp h2
      rw [nI_toInt hA] at h2'
      rw [inb_iff.mpr ⟨h1', h2'⟩, cnd_t]
    · rw [if_neg h2]
      have : inb a A = false := by
        rw [Bool.eq_false_iff]
        intro q
        exact h2 (Int32.lt_iff_toInt_lt.mpr (by rw [nI_toInt hA]; exact (inb_iff.mp q).2))
      rw [this, cnd_f]
/-- 0 ≤ a ≤ n, as two branches -/
theorem br_le {ρ : Type} {a : Int32} {n : Nat} (hn : n < 2 ^ 31 - 1) {x y : ρ} : (if a < nI 0 then x else (if a ≤ nI n then y else x)) = cond (inb a (n + 1)) y x := by
  by_cases h1 : a < nI 0
  · rw [if_pos h1]
    have : inb a (n + 1) = false := by
      rw [Bool.eq_false_iff]
      intro q
      have := (inb_iff.mp q).1
      have := Int32.lt_iff_toInt_lt.mp h1
      rw [nI_toInt (by omega)] at this
      omega
    rw [this, cnd_f]
  · rw [if_neg h1]
    have h1' : 0 ≤ a.toInt := by
      have := Int32.le_iff_toInt_le.mp (Int32.not_lt.mp h1)
      rw [nI_toInt (by omega)] at this
      omega
    by_cases h2 : a ≤ nI n
    · rw [if_pos h2]
      have h2' := Int32.le_iff_toInt_le.mp h2
      rw [nI_toInt (by omega)] at h2'
      rw [inb_iff.mpr ⟨h1', by omega⟩, cnd_t]
    · rw [if_neg h2]
      have : inb a (n + 1) = false := by
        rw [Bool.eq_false_iff]
        intro q
        have := (inb_iff.mp q).2
        exact h2 (Int32.le_iff_toInt_le.mpr (by rw [nI_toInt (by omega)]; omega))
      rw [this, cnd_f]
theorem br_1 {ρ : Type} {a : Int32} {n : Nat} (hn : n < 2 ^ 31 - 1) {x y : ρ} : (if a < nI 1 then x else (if a ≤ nI n then y else x)) = cond (inb a (n + 1) && !decide (a = nI 0)) y x := by
  by_cases h0 : a = nI 0
  · rw [h0, if_pos (nI_lt (by omega) (by omega))]
    simp
  · have e : (a < nI 1) ↔ (a < nI 0) := by
      have hne : a.toInt ≠ 0 := fun q => h0 (Int32.toInt_inj.mp (by rw [q, nI_toInt (by omega)]; rfl))
      rw [Int32.lt_iff_toInt_lt, Int32.lt_iff_toInt_lt, nI_toInt (by omega), nI_toInt (by omega)]
      omega
    rw [decide_eq_false h0, Bool.not_false, Bool.and_true, ← br_le hn]
    by_cases h1 : a < nI 0
    · rw [if_pos h1, if_pos (e.mpr h1)]
    · rw [if_neg h1, if_neg (fun q => h1 (e.mp q))]
theorem c_156 (a : Int32) (Y : Sm) : fn_156 a Y = some (cond (inb a 3) (.inl ()) (.inr 1), Y) := by
  unfold fn_156
  rw [br_le (by omega)]
  cases inb a 3 <;> rfl
theorem c_157 {n : Nat} (hn : n < 2 ^ 31 - 1) (a : Int32) (Y : Sm) : fn_157 a (nI n) Y = some (cond (inb a (n + 1) && !decide (a = nI 0)) (.inl ()) (.inr 1), Y) := by
  unfold fn_157
  rw [br_1 hn]
  cases (inb a (n + 1) && !decide (a = nI 0)) <;> rfl
theorem g_is {ρ : Type} {b : Bool} {W : Sm} {A K : Sm → Option ρ} : bd (fn_164 (bI b) W) (fun v Z => if v = nI 0 then A Z else K Z) = cond b (K (sI W 48 0 0 (nI 0))) (A (sI W 48 0 0 (nI 1))) := by
  rw [r_is, bd_t, bI_0]
  cases b <;> rfl
theorem g_may {ρ : Type} {b : Bool} {W : Sm} {d : Int32} {A K : Sm → Option ρ} : bd (fn_165 (bI b) d W) (fun v Z => if v = nI 0 then A Z else K Z) = cond b (K (sI W 48 0 0 (nI 0))) (A (sI W 48 0 0 d)) := by
  rw [r_may, bd_t, bI_0]
  cases b <;> rfl
theorem g_is0 {ρ : Type} {W : Sm} {A K : Sm → Option ρ} : bd (fn_164 (nI 0) W) (fun v Z => if v = nI 0 then A Z else K Z) = A (sI W 48 0 0 (nI 1)) := g_is (b := false)
theorem g_is1 {ρ : Type} {W : Sm} {A K : Sm → Option ρ} : bd (fn_164 (nI 1) W) (fun v Z => if v = nI 0 then A Z else K Z) = K (sI W 48 0 0 (nI 0)) := g_is (b := true)
theorem g_may0 {ρ : Type} {W : Sm} {d : Int32} {A K : Sm → Option ρ} : bd (fn_165 (nI 0) d W) (fun v Z => if v = nI 0 then A Z else K Z) = A (sI W 48 0 0 d) := g_may (b := false)
theorem g_may1 {ρ : Type} {W : Sm} {d : Int32} {A K : Sm → Option ρ} : bd (fn_165 (nI 1) d W) (fun v Z => if v = nI 0 then A Z else K Z) = K (sI W 48 0 0 (nI 0)) := g_may (b := true)
theorem g_if {ρ : Type} {b : Bool} {W : Sm} {A K : Sm → Option ρ} : bd (some (bI b, W)) (fun v Z => if v = nI 0 then A Z else K Z) = cond b (K W) (A W) := by
  rw [bd_t, bI_0]
theorem ML.cls {Y : Sm} {P : Pm} {r : Nat → Int32} (h : ML Y P r) (a : Int32) : fn_209 a Y = some (bI (inb a P.1), Y) := r_isClass h.1.1 h.1.2.2.1.1 h.1.2.2.1.2.1 a
theorem ML.ask {Y : Sm} {P : Pm} {r : Nat → Int32} (h : ML Y P r) (a : Int32) : fn_208 a Y = some (bI (inb a P.2.1), Y) := r_isAsker h.1.2.1 h.1.2.2.1.2.2.1 h.1.2.2.1.2.2.2 a
theorem R6.c155 {Y : Sm} {c tu ro u pos : Nat} {P : Pm} {b : Bool} (h : R6 Y c P tu ro u pos b) (a : Int32) : fn_155 a Y = some (cond (inb a P.1) (.inl ()) (.inr 0), Y) := c_155 h.cp.1.1 (by have := h.1.a8; omega) a
theorem R6.c154 {Y : Sm} {c tu ro u pos : Nat} {P : Pm} {b : Bool} (h : R6 Y c P tu ro u pos b) (a : Int32) : fn_154 a Y = some (cond (inb a P.2.1) (.inl ()) (.inr 0), Y) := c_154 h.cp.1.2 (by have := h.1.a8; omega) a
/-- the poll -/
theorem R6.poll {Y : Sm} {c tu ro u pos : Nat} {P : Pm} {b : Bool} (h : R6 Y c P tu ro u pos b) (lo : Int32) : ∃ Z, fn_25 0 lo Y = some ((), Z) ∧ QC Y Z ∧ Fr (KS [39, 40, 41, 43, 45]) Y Z ∧ PoF Z P (gI Y.1 52 0) lo := by
  obtain ⟨e, t, n, m, s, hR, hG, _⟩ := h.cl
  obtain ⟨Z, e1, e2, e3⟩ := c_25 (n := 0) (lo := lo) (hR.pv h.1.a8) h.pn
  exact ⟨Z, e1, QC.kf e2 (by decide), e2, e3⟩
/-! the short queries -/
theorem ok_3 {Y : Sm} {c : Nat} (h : RR Y c) : Sok fn_107 fn_293 Y c := by
  obtain ⟨P, tu, ro, u, pos, b, h⟩ := h
  refine s_q h ⟨Y, rfl, QC.rf⟩ (fun W hq e => ⟨nI 0, sI W 48 0 0 (nI 0), ?_, QM.told, told_at⟩)
  have e2 := (h.q hq).2.2.2.2.1.2.1.1
  have e3 : gI W.1 0 0 4 = gI Y.1 0 0 4 := by rw [(hq.2.1 0 0 (QK_k (by decide))).1]
  unfold fn_293
  rw [wr_t, gI_sIv, upd_ne (by omega), ← e2, e3]
theorem ok_4 {Y : Sm} {c : Nat} (h : RR Y c) : Sok fn_108 fn_294 Y c := by
  obtain ⟨P, tu, ro, u, pos, b, h⟩ := h
  refine s_q h ⟨Y, rfl, QC.rf⟩ (fun W hq e => ⟨nI 0, sI W 48 0 0 (nI 0), ?_, QM.told, told_at⟩)
  have e2 := (h.q hq).2.2.2.2.1.2.1.2
  have e3 : gI W.1 0 0 5 = gI Y.1 0 0 5 := by rw [(hq.2.1 0 0 (QK_k (by decide))).1]
  unfold fn_294
  rw [wr_t, gI_sIv, upd_ne (by omega), ← e2, e3]
theorem ok_13 {Y : Sm} {c : Nat} (h : RR Y c) : Sok fn_117 fn_237 Y c := by
  obtain ⟨P, tu, ro, u, pos, b, h⟩ := h
  obtain ⟨e0, t, n, m, s, hR, hG, _⟩ := h.cl
  refine s_q (v := gI Y.1 52 0 8) h ⟨Y, ?_, QC.rf⟩ (fun W hq e => ⟨nI 0, sI W 48 0 0 (nI 0), ?_, QM.told, told_at⟩)
  · unfold fn_117
    rw [show 3 = 0 + 3 from rfl, hR.q.1.2]
  · unfold fn_237
    rw [wr_t, gI_sIk (by omega), e]
theorem ok_10 {Y : Sm} {c : Nat} (a : Int32) (h : RR Y c) : Cok (fn_303 a) (fn_234 a) Y c := by
  obtain ⟨P, tu, ro, u, pos, b, h⟩ := h
  obtain ⟨e0, t, n, m, s, hR, hG, _⟩ := h.cl
  have h3 := h.1.a8
  cases hb : inb a P.1 with
  | false =>
    refine w_exc (F := fn_114 a) (x := 0) (k := nI 1) h rfl (by decide) (fun _ => if_pos rfl) ⟨Y, ?_, QC.rf⟩ (fun W hq e => ⟨nI 0, sI W 48 0 0 (nI 1), ?_, QM.told, told_at⟩)
    · unfold fn_114
      rw [h.c155, hb, cnd_f, bx_r]
    · unfold fn_234
      rw [(h.mw hq e).cls, hb, bd_t, g_is, cnd_f]
  | true =>
    obtain ⟨k, hk, rfl⟩ := inb_of hb (by omega)
    refine w_val (F := fn_114 (nI k)) (v := gI Y.1 52 0 (10 + k)) h rfl ⟨Y, ?_, QC.rf⟩ (fun W hq e => ⟨sI W 48 0 0 (nI 0), ?_, QM.told, told_at⟩)
    · unfold fn_114
      rw [h.c155, hb, cnd_t, bx_l, ck_in (by omega) (by omega), ix_nI (by omega), (hR.k k hk).1]
    · unfold fn_234
      rw [(h.mw hq e).cls, hb, bd_t, g_is, cnd_t, nI_add, ck_in (by omega) (by omega), ix_nI (by omega), (h.mw hq e).told.2.1]
theorem ok_9 {Y : Sm} {c : Nat} (a p : Int32) (h : RR Y c) : Cok (fn_302 a p) (fn_233 a p) Y c := by
  obtain ⟨P, tu, ro, u, pos, b, h⟩ := h
  obtain ⟨e0, t, n, m, s, hR, hG, _⟩ := h.cl
  have h3 := h.1.a8
  cases hb : inb a P.2.1 with
  | false =>
    refine w_exc (F := fn_113 a p) (x := 0) (k := nI 1) h rfl (by decide) (fun _ => if_pos rfl) ⟨Y, ?_, QC.rf⟩ (fun W hq e => ⟨nI 0, sI W 48 0 0 (nI 1), ?_, QM.told, told_at⟩)
    · unfold fn_113
      rw [h.c154, hb, cnd_f, bx_r]
    · unfold fn_233 fn_233_J21 fn_233_J22
      rw [(h.mw hq e).ask, hb, g_if, cnd_f, g_is0]
  | true =>
    cases hc : inb p P.1 with
    | false =>
      refine w_exc (F := fn_113 a p) (x := 0) (k := nI 1) h rfl (by decide) (fun _ => if_pos rfl) ⟨Y, ?_, QC.rf⟩ (fun W hq e => ⟨nI 0, sI W 48 0 0 (nI 1), ?_, QM.told, told_at⟩)
      · unfold fn_113
        rw [h.c154, hb, cnd_t, bx_l, h.c155, hc, cnd_f, bx_r]
      · unfold fn_233 fn_233_J21 fn_233_J22
        rw [(h.mw hq e).ask, hb, g_if, cnd_t, (h.mw hq e).cls, hc, g_if, cnd_f, g_is0]
    | true =>
      obtain ⟨x, hx, rfl⟩ := inb_of hb (by omega)
      obtain ⟨k, hk, rfl⟩ := inb_of hc (by omega)
      refine w_val (F := fn_113 (nI x) (nI k)) (v := bal (gI Y.1 52 0) x k) h rfl ⟨Y, ?_, QC.rf⟩ (fun W hq e => ⟨sI W 48 0 0 (nI 0), ?_, QM.told, told_at⟩)
      · unfold fn_113
        rw [h.c154, hb, cnd_t, bx_l, h.c155, hc, cnd_t, bx_l, ck_in (by omega) (by omega), ck_in (by omega) (by omega), ix_nI (by omega), ix_nI (by omega), hR.b x k hx hk]
      · unfold fn_233 fn_233_J22
        rw [(h.mw hq e).ask, hb, g_if, cnd_t, (h.mw hq e).cls, hc, g_if, cnd_t, g_is1, r_onBallot (by omega) (by omega), bd_t, (h.mw hq e).told.2.1]
