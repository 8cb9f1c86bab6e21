/-! accounts; the output; the input -/
theorem ok_28 {Y : Sm} {c : Nat} (h : RR Y c) : Sok fn_132 fn_256 Y c := by
  obtain ⟨P, tu, ro, u, pos, b, h⟩ := h
  obtain ⟨e0, t, n, m, s, hR, hG, _⟩ := h.cl
  have h3 := h.1.a8
  refine s_q (v := sumN (fun _ => true) (fun a => gI Y.1 52 0 (28 + a)) P.2.1) h ⟨Y, ?_, QC.rf⟩ (fun W hq e => ⟨nI 0, sI W 48 0 0 (nI 0), ?_, QM.told, told_at⟩)
  · unfold fn_132
    refine lp_sum (fun _ => true) (fun a => gI Y.1 52 0 (28 + a)) P.2.1 (by omega) (fun j acc hj => ?_) (fun acc => ?_)
    · simp only [fn_132_L4, h.cp.1.2]
      simp (disch := omega) only [ck_in, ix_nI, pk_mul, nI_add, pk_sub, iteI_le_t, iteI_le_f, iteI_lt_t, iteI_lt_f, iteI_eq_t, iteI_eq_f, bd_t, wr_t, ite_m1_f, ite_m1_t, ↓reduceIte, (hR.u j hj).2.1, cnd_t]
    · simp only [fn_132_L4, h.cp.1.2]
      simp (disch := omega) only [ck_in, ix_nI, pk_mul, nI_add, pk_sub, iteI_le_t, iteI_le_f, iteI_lt_t, iteI_lt_f, iteI_eq_t, iteI_eq_f, bd_t, wr_t, ite_m1_f, ite_m1_t, ↓reduceIte]
  · have hT := (h.mw hq e).told (v := nI 0)
    unfold fn_256
    rw [wr_t]
    refine lp_sum (fun _ => true) (fun a => gI Y.1 52 0 (28 + a)) P.2.1 (by omega) (fun j acc hj => ?_) (fun acc => ?_)
    · simp only [fn_256_L9, hT.1.2.1]
      simp (disch := omega) only [ck_in, ix_nI, pk_mul, nI_add, pk_sub, iteI_le_t, iteI_le_f, iteI_lt_t, iteI_lt_f, iteI_eq_t, iteI_eq_f, bd_t, wr_t, ite_m1_f, ite_m1_t, ↓reduceIte, hT.2.1, cnd_t]
    · simp only [fn_256_L9, hT.1.2.1]
      simp (disch := omega) only [ck_in, ix_nI, pk_mul, nI_add, pk_sub, iteI_le_t, iteI_le_f, iteI_lt_t, iteI_lt_f, iteI_eq_t, iteI_eq_f, bd_t, wr_t, ite_m1_f, ite_m1_t, ↓reduceIte]
def bsN (g : Nat → Int32) : Nat → Nat
  | 0 => 0
  | j + 1 => if g (j + 1) ≤ g (bsN g j) then bsN g j else j + 1
theorem bsN_le (g : Nat → Int32) (j : Nat) : bsN g j ≤ j := by
  induction j with
  | zero => exact Nat.le_refl _
  | succ j ih =>
    unfold bsN
    split <;> omega
theorem ok_29 {Y : Sm} {c : Nat} (h : RR Y c) : Sok fn_133 fn_258 Y c := by
  obtain ⟨P, tu, ro, u, pos, b, h⟩ := h
  obtain ⟨e0, t, n, m, s, hR, hG, _⟩ := h.cl
  have h3 := h.1.a8
  refine s_q (v := nI (bsN (fun a => gI Y.1 52 0 (20 + a) - gI Y.1 52 0 (28 + a)) (P.2.1 - 1))) h ⟨Y, ?_, QC.rf⟩ (fun W hq e => ⟨nI 0, sI W 48 0 0 (nI 0), ?_, QM.told, told_at⟩)
  · unfold fn_133
    refine lp_run (fun j => (nI (bsN (fun a => gI Y.1 52 0 (20 + a) - gI Y.1 52 0 (28 + a)) j), nI (j + 1), Y)) (P.2.1 - 1) (FU_lt (by omega)) (fun j hj => ?_) ?_ rfl
    · have hb := bsN_le (fun a => gI Y.1 52 0 (20 + a) - gI Y.1 52 0 (28 + a)) j
      have u1 := hR.u (j + 1) (by omega)
      have u2 := hR.u (bsN (fun a => gI Y.1 52 0 (20 + a) - gI Y.1 52 0 (28 + a)) j) (by omega)
      simp only [fn_133_L4, h.cp.1.2, fn_3]
      simp (disch := omega) only [ck_in, ix_nI, pk_mul, nI_add, pk_sub, iteI_le_t, iteI_le_f, iteI_lt_t, iteI_lt_f, iteI_eq_t, iteI_eq_f, bd_t, wr_t, ite_m1_f, ite_m1_t, ↓reduceIte, u1.1, u1.2.1, u2.1, u2.2.1]
      show _ = some (Sum.inl (nI (if _ then _ else _), _, _))
      split <;> rfl
    · simp only [fn_133_L4, h.cp.1.2, fn_3]
      simp (disch := omega) only [ck_in, ix_nI, pk_mul, nI_add, pk_sub, iteI_le_t, iteI_le_f, iteI_lt_t, iteI_lt_f, iteI_eq_t, iteI_eq_f, bd_t, wr_t, ite_m1_f, ite_m1_t, ↓reduceIte]
  · have hT := (h.mw hq e).told (v := nI 0)
    unfold fn_258
    rw [wr_t]
    refine lp_run (fun j => (nI (bsN (fun a => gI Y.1 52 0 (20 + a) - gI Y.1 52 0 (28 + a)) j), nI (j + 1), sI W 48 0 0 (nI 0))) (P.2.1 - 1) (FU_lt (by omega)) (fun j hj => ?_) ?_ rfl
    · have hb := bsN_le (fun a => gI Y.1 52 0 (20 + a) - gI Y.1 52 0 (28 + a)) j
      simp only [fn_258_L9, hT.1.2.1, fn_257]
      simp (disch := omega) only [ck_in, ix_nI, pk_mul, nI_add, pk_sub, iteI_le_t, iteI_le_f, iteI_lt_t, iteI_lt_f, iteI_eq_t, iteI_eq_f, bd_t, wr_t, ite_m1_f, ite_m1_t, ↓reduceIte, hT.2.1]
      show _ = some (Sum.inl (nI (if _ then _ else _), _, _))
      split <;> rfl
    · simp only [fn_258_L9, hT.1.2.1, fn_257]
      simp (disch := omega) only [ck_in, ix_nI, pk_mul, nI_add, pk_sub, iteI_le_t, iteI_le_f, iteI_lt_t, iteI_lt_f, iteI_eq_t, iteI_eq_f, bd_t, wr_t, ite_m1_f, ite_m1_t, ↓reduceIte]
theorem w60 : ∀ w, w < 61 → (nI w).toInt64 - Int64.ofNat 1 = (nI w - nI 1).toInt64 := by decide +kernel
theorem ok_47 {Y : Sm} {c : Nat} (a : Int32) (h : RR Y c) : Sok (fn_151 a) (fn_299 a) Y c := by
  obtain ⟨P, tu, ro, u, pos, b, h⟩ := h
  obtain ⟨w, hw, o1, o2, o3⟩ := h.2.2.2.2.1.2.2
  have e151 : fn_151 a Y = cond (inb a w) (ck (inb a 64) (some (gI Y.1 20 0 (ix a) &&& nI 255, Y))) (some ((-1 : Int32), Y)) := by
    unfold fn_151
    rw [o1, br_lt (by omega)]
  have e299 : ∀ W, QF Y W → fn_299 a W = cond (inb a w) (ck (inb a 60) (some (gI W.1 65 0 (ix a), sI W 48 0 0 (nI 0)))) (some ((-1 : Int32), sI W 48 0 0 (nI 0))) := fun W hq => by
    have e41 : gI (sI W 48 0 0 (nI 0)).1 48 0 41 = nI w := by rw [gI_sIv, upd_ne (by omega), hq.2.2.1 41 (by omega)]; exact o2
    unfold fn_299
    rw [wr_t, e41, i64_0, w60 w (by omega), r_isIn, in_0' (by omega), g_if, gI_sIk (by omega)]
  cases hb : inb a w with
  | false =>
    refine s_q (v := (-1 : Int32)) h ⟨Y, by rw [e151, hb, cnd_f], QC.rf⟩ (fun W hq e => ⟨nI 0, sI W 48 0 0 (nI 0), by rw [e299 W hq, hb, cnd_f], QM.told, told_at⟩)
  | true =>
    obtain ⟨k, hk, rfl⟩ := inb_of hb (by omega)
    refine s_q (v := gI Y.1 65 0 k) h ⟨Y, ?_, QC.rf⟩ (fun W hq e => ⟨nI 0, sI W 48 0 0 (nI 0), ?_, QM.told, told_at⟩)
    · rw [e151, hb, cnd_t, ck_in (by omega) (by omega), ix_nI (by omega), o3 k hk]
    · rw [e299 W hq, hb, cnd_t, ck_in (by omega) (by omega), ix_nI (by omega), (hq.2.1 65 0 (QK_k (by decide))).1]
/-! only input, errors, output change -/
theorem R6.io {Y Z : Sm} {c tu ro u pos : Nat} {P : Pm} {b : Bool} (h : R6 Y c P tu ro u pos b) (hg : Z.2 = Y.2) (hk : ∀ k i, ¬ k ∈ [0, 1, 2, 20, 48, 60, 65] → gI Z.1 k i = gI Y.1 k i ∧ gJ Z.1 k i = gJ Y.1 k i) (h11 : gI Z.1 0 0 11 = gI Y.1 0 0 11) (h48 : ∀ x, (1 ≤ x ∧ x ≤ 7) ∨ (17 ≤ x ∧ x ≤ 19) → gI Z.1 48 0 x = gI Y.1 48 0 x) (hI : Io Z) : R6 Z c P tu ro u pos b := by
  obtain ⟨hK, h0, hU, hS, _, hN⟩ := h
  have hA := hK.a8
  have gc : ∀ n k i, CRk n k i → gI Z.1 k i = gI Y.1 k i := fun n k i hc => (hk k i (by
    unfold CRk S2 at hc
    simp only [List.mem_cons, List.mem_nil_iff, or_false] at *
    omega)).1
  have hs : ∀ n r, St Y n P r c → St Z n P r c := fun n r h => h.frk hA.2.2.2 (by rw [hg]) (by rw [hg]) (fun k i hc => gc n k i hc) (hk 25 n (by decide)).2
  refine ⟨hK.cg (fun x h1 h2 => h48 x (Or.inl ⟨h1, h2⟩)) (hk 49 0 (by decide)).1 (h48 19 (by omega)) (by rw [hg]) (by rw [hg]), ?_, ?_, ?_, hI, hN.cg (by rw [hg]) (hk 6 _ (by decide)).2 (hk 8 _ (by decide)).2 (hk 50 0 (by decide)).2 (hk 51 0 (by decide)).2⟩
  · rw [(hk 52 0 (by decide)).1]
    exact hs 0 _ h0
  · obtain ⟨p1, p2, p3, p4, p5⟩ := hU
    refine ⟨p1, by rw [(hk 37 0 (by decide)).1]; exact p2, by rw [(hk 37 0 (by decide)).1]; exact p3, (h48 17 (by omega)).trans p4, fun j hj => ?_⟩
    have er : rowH Z j = rowH Y j := by
      unfold rowH
      rw [(hk 57 0 (by decide)).1]
    rw [er]
    exact hs _ _ (p5 j hj)
  · obtain ⟨p1, p2, p3⟩ := hS
    refine ⟨h11.trans p1, (h48 18 (by omega)).trans p2, fun hb => ?_⟩
    rw [(hk 56 0 (by decide)).1]
    exact hs 2 _ (p3 hb)
theorem sI_o {Y : Sm} {K I j : Nat} {v : Int32} {k i : Nat} (h : k ≠ K) : gI (sI Y K I j v).1 k i = gI Y.1 k i := by rw [gI_sIk h]
theorem ok_1 {Y : Sm} {c : Nat} (a : Int32) (h : RR Y c) : Sok (fn_105 a) (fn_271 a) Y c := by
  obtain ⟨P, tu, ro, u, pos, b, h⟩ := h
  obtain ⟨⟨L, hL, i1, i2, i3⟩, hE, hO⟩ := h.2.2.2.2.1
  have e105 : fn_105 a Y = cond (inb a (L + 1)) (some (nI 1, sI Y 1 0 1 a)) (some (nI 0, Y)) := by
    unfold fn_105
    rw [i1, br_le (by omega)]
    cases inb a (L + 1) <;> rfl
  have e271 : ∀ W, gI W.1 48 0 23 = nI L → fn_271 a W = cond (inb a (L + 1)) (some (nI 1, sI (sI W 48 0 0 (nI 0)) 48 0 23 a)) (some (nI 0, sI W 48 0 0 (nI 0))) := fun W hW => by
    have e23 : gI (sI W 48 0 0 (nI 0)).1 48 0 23 = nI L := by rw [gI_sIv, upd_ne (by omega)]; exact hW
    unfold fn_271
    rw [wr_t, e23, i64_0, r_isIn, show nI L = nI (L + 1 - 1) from rfl, in_0 (by omega) (by omega), g_if]
    cases inb a (L + 1) <;> rfl
  cases hb : inb a (L + 1) with
  | false =>
    refine ⟨nI 0, Y, sI Y 48 0 0 (nI 0), by rw [e105, hb, cnd_f], by rw [e271 Y i2, hb, cnd_f], rfl, by rw [gI_sIk (by omega)], P, tu, ro, u, pos, b, (h.q QM.told.f).up (by omega)⟩
  | true =>
    obtain ⟨k, hk, rfl⟩ := inb_of hb (by omega)
    refine ⟨nI 1, sI Y 1 0 1 (nI k), sI (sI (sI Y 1 0 1 (nI k)) 48 0 0 (nI 0)) 48 0 23 (nI k), by rw [e105, hb, cnd_t], by rw [e271 _ (by rw [gI_sIk (by omega)]; exact i2), hb, cnd_t], by rw [gI_sIk (by omega)], by rw [gI_sIk (by omega), gI_sIk (by omega), gI_sIk (by omega)], P, tu, ro, u, pos, b, ?_⟩
    refine R6.up (c := c) (c' := c + 1) ?_ (by omega)
    refine h.io rfl (fun k' i hk' => ⟨?_, rfl⟩) ?_ (fun x hx => ?_) ⟨⟨k, by omega, ?_, ?_, fun j hj => ?_⟩, ?_, ?_⟩
    · simp only [List.mem_cons, List.mem_nil_iff, or_false, not_or] at hk'
      rw [gI_sIk (by omega), gI_sIk (by omega), gI_sIk (by omega)]
    · rw [gI_sIk (by omega), gI_sIk (by omega), gI_sIk (by omega)]
    · rw [gI_sIv, upd_ne (by omega), gI_sIv, upd_ne (by omega), gI_sIk (by omega)]
    · rw [gI_sIk (by omega), gI_sIk (by omega), gI_sIv, upd_at]
    · rw [gI_sIv, upd_at]
    · rw [gI_sIk (by omega), gI_sIk (by omega), gI_sIk (by omega), gI_sIk (by omega), gI_sIk (by omega), gI_sIk (by omega)]
      exact i3 j (by omega)
    · unfold IoE
      simp (disch := omega) only [gI_sIk, gI_sIv, upd_ne]
      exact hE
    · unfold IoO
      simp (disch := omega) only [gI_sIk, gI_sIv, upd_ne]
      exact hO
/-! feed -/
def by8 (w : Int32) (j : Nat) : Int32 := ((w >>> (nI (24 - 8 * j) &&& 31)).toInt8.toInt32).toInt8.toInt32
def lsF (j : Nat) : Int32 := if j = 0 then nI 24 else if j = 1 then nI 16 else if j = 2 then nI 8 else if j = 3 then nI 0 else (-8 : Int32)
theorem lsF_s : ∀ j, j < 4 → lsF j + (-8 : Int32) = lsF (j + 1) ∧ ¬ lsF j < nI 0 ∧ lsF j = nI (24 - 8 * j) := by decide
theorem c_17 {Y : Sm} {L : Nat} (a : Int32) (h1 : gI Y.1 1 0 1 = nI L) (hL : L + 4 ≤ 500) : fn_17 a Y = some ((), sI (sF Y 2 0 (fun q => if L ≤ q ∧ q < L + 4 then by8 a (q - L) else gI Y.1 2 0 q)) 1 0 1 (nI (L + 4))) := by
  unfold fn_17
  refine lp_run (fun j => (lsF j, sI (sF Y 2 0 (fun q => if L ≤ q ∧ q < L + j then by8 a (q - L) else gI Y.1 2 0 q)) 1 0 1 (nI (L + j)))) 4 (FU_lt (by omega)) (fun j hj => ?_) ?_ ?_
  · obtain ⟨l1, l2, l3⟩ := lsF_s j hj
    have e1 : gI (sI (sF Y 2 0 (fun q => if L ≤ q ∧ q < L + j then by8 a (q - L) else gI Y.1 2 0 q)) 1 0 1 (nI (L + j))).1 1 0 1 = nI (L + j) := by rw [gI_sIv, upd_at]
    simp only [fn_17_L3, e1]
    rw [if_neg l2, iteI_le_f (by omega) (by omega), ck_in (by omega) (by omega), ix_nI (by omega), wr_t, wr_t, l1]
    congr 3
    have e2 : gI (sI (sI (sF Y 2 0 (fun q => if L ≤ q ∧ q < L + j then by8 a (q - L) else gI Y.1 2 0 q)) 1 0 1 (nI (L + j))) 2 0 (L + j) (((a >>> (lsF j &&& 31)).toInt8.toInt32).toInt8.toInt32)).1 1 0 1 = nI (L + j) := by
      rw [gI_sIk (by omega)]; exact e1
    rw [e2, nI_add]
    have sw : ∀ (X : Sm) (v w : Int32) (p : Nat), sI (sI X 1 0 1 v) 2 0 p w = sI (sI X 2 0 p w) 1 0 1 v := fun X v w p => by
      have : (fun x y z => if x = 2 ∧ y = 0 ∧ z = p then w else if x = 1 ∧ y = 0 ∧ z = 1 then v else X.1.1 x y z) = (fun x y z => if x = 1 ∧ y = 0 ∧ z = 1 then v else if x = 2 ∧ y = 0 ∧ z = p then w else X.1.1 x y z) := by
        funext x y z
        by_cases g : x = 2 ∧ y = 0 ∧ z = p
        · rw [if_pos g, if_neg (by omega), if_pos g]
        · rw [if_neg g, if_neg g]
      exact congrArg (fun g => ((g, X.1.2), X.2)) this
    have ss : ∀ (X : Sm) (v w : Int32), sI (sI X 1 0 1 v) 1 0 1 w = sI X 1 0 1 w := fun X v w => by
      rw [sI_sF, sI_sF, sF_sF, gI_sFs, sI_sF]
      congr 1
      funext q
      by_cases g : q = 1
      · rw [g, upd_at, upd_at]
      · rw [upd_ne g, upd_ne g, upd_ne g]
    rw [sw, ss, sI_s]
    congr 2
    funext q
    by_cases g : q = L + j
    · subst g
      rw [upd_at, if_pos (by omega), l3, show L + j - L = j by omega]
      rfl
    · rw [upd_ne g]
      by_cases g2 : L ≤ q ∧ q < L + j
      · rw [if_pos g2, if_pos (by omega)]
      · rw [if_neg g2, if_neg (by omega)]
  · simp only [fn_17_L3]
    rw [if_pos (by decide)]
  · show _ = (nI 24, sI (sF Y 2 0 (fun q => if L ≤ q ∧ q < L + 0 then by8 a (q - L) else gI Y.1 2 0 q)) 1 0 1 (nI (L + 0)))
    have e : (fun q => if L ≤ q ∧ q < L + 0 then by8 a (q - L) else gI Y.1 2 0 q) = gI Y.1 2 0 := funext fun q => if_neg (by omega)
    rw [e, sF_self, Nat.add_zero, ← h1, sI_sF]
    congr 1
    have e2 : upd (gI Y.1 1 0) 1 (gI Y.1 1 0 1) = gI Y.1 1 0 := by
      funext q
      by_cases g : q = 1
      · rw [g, upd_at]
      · rw [upd_ne g]
    rw [e2, sF_self]
def argF (a b d e f : Int32) (i : Nat) : Int32 := if i = 0 then a else if i = 1 then b else if i = 2 then d else if i = 3 then e else f
def fedF (g : Nat → Int32) (L i : Nat) (A : Nat → Int32) : Nat → Int32 := fun q => if L ≤ q ∧ q < L + i then by8 (A ((q - L) / 4)) ((q - L) % 4) else g q
theorem c_17s {Y : Sm} {L i : Nat} {A : Nat → Int32} {g : Nat → Int32} (w : Int32) (hw : A i = w) (hL : L + 4 * i + 4 ≤ 500) : fn_17 w (sI (sF Y 2 0 (fedF g L (4 * i) A)) 1 0 1 (nI (L + 4 * i))) = some ((), sI (sF Y 2 0 (fedF g L (4 * (i + 1)) A)) 1 0 1 (nI (L + 4 * (i + 1)))) := by
  have e1 : gI (sI (sF Y 2 0 (fedF g L (4 * i) A)) 1 0 1 (nI (L + 4 * i))).1 1 0 1 = nI (L + 4 * i) := by rw [gI_sIv, upd_at]
  rw [c_17 w e1 hL, gI_sIk (by omega), gI_sFs]
  congr 2
  have sw : ∀ (X : Sm) (v : Int32) (f : Nat → Int32), sF (sI X 1 0 1 v) 2 0 f = sI (sF X 2 0 f) 1 0 1 v := fun X v f => by
    have : (fun x y z => if x = 2 ∧ y = 0 then f z else if x = 1 ∧ y = 0 ∧ z = 1 then v else X.1.1 x y z) = (fun x y z => if x = 1 ∧ y = 0 ∧ z = 1 then v else if x = 2 ∧ y = 0 then f z else X.1.1 x y z) := by
      funext x y z
      by_cases g : x = 2 ∧ y = 0
      · rw [if_pos g, if_neg (by omega), if_pos g]
      · rw [if_neg g, if_neg g]
    exact congrArg (fun g => ((g, X.1.2), X.2)) this
  have ss : ∀ (X : Sm) (v w : Int32), sI (sI X 1 0 1 v) 1 0 1 w = sI X 1 0 1 w := fun X v w => by
    rw [sI_sF, sI_sF, sF_sF, gI_sFs, sI_sF]
    congr 1
    funext q
    by_cases g : q = 1
    · rw [g, upd_at, upd_at]
    · rw [upd_ne g, upd_ne g, upd_ne g]
  rw [sw, ss, sF_sF, show L + 4 * i + 4 = L + 4 * (i + 1) by omega]
  congr 2
  funext q
  unfold fedF
  by_cases g : L + 4 * i ≤ q ∧ q < L + 4 * (i + 1)
  · rw [if_pos g, if_pos (by omega), show (q - L) / 4 = i by omega, hw, show (q - L) % 4 = q - (L + 4 * i) by omega]
  · rw [if_neg g]
    by_cases g2 : L ≤ q ∧ q < L + 4 * i
    · rw [if_pos g2, if_pos (by omega)]
    · rw [if_neg g2, if_neg (by omega)]
theorem r_fd {Y : Sm} {L : Nat} {a b d e f : Int32} (h : gI Y.1 48 0 23 = nI L) (hL : L + 20 ≤ 500) : lp (fun s => fn_270_L23 a b d e f s.1 s.2) FU (nI 0, Y) = some (nI (L + 20), sI (sF Y 60 0 (fedF (gI Y.1 60 0) L 20 (argF a b d e f))) 48 0 23 (nI (L + 20))) := by
  refine lp_run (fun j => (nI j, sI (sF Y 60 0 (fedF (gI Y.1 60 0) L j (argF a b d e f))) 48 0 23 (nI (L + j)))) 20 (FU_lt (by omega)) (fun j hj => ?_) ?_ ?_
  · have e1 : gI (sI (sF Y 60 0 (fedF (gI Y.1 60 0) L j (argF a b d e f))) 48 0 23 (nI (L + j))).1 48 0 23 = nI (L + j) := by rw [gI_sIv, upd_at]
    have key : ∀ w, argF a b d e f (j / 4) = w → fn_270_J76_d1 a b d e f (nI j) w (sI (sF Y 60 0 (fedF (gI Y.1 60 0) L j (argF a b d e f))) 48 0 23 (nI (L + j))) = some (.inl (nI (j + 1), sI (sF Y 60 0 (fedF (gI Y.1 60 0) L (j + 1) (argF a b d e f))) 48 0 23 (nI (L + (j + 1))))) := fun w hw => by
      have hm : j % 4 < 4 := Nat.mod_lt _ (by omega)
      unfold fn_270_J76_d1
      rw [e1, ck_in (by omega) (by omega), ix_nI (by omega), wr_t, gI_sIk (by omega), e1, wr_t, nI_add, pk_rem (by omega) (by omega) (by omega), pk_mul, pk_sub (by omega), nI_add]
      have sw : ∀ (X : Sm) (v w : Int32) (p : Nat), sI (sI X 48 0 23 v) 60 0 p w = sI (sI X 60 0 p w) 48 0 23 v := fun X v w p => by
        have : (fun x y z => if x = 60 ∧ y = 0 ∧ z = p then w else if x = 48 ∧ y = 0 ∧ z = 23 then v else X.1.1 x y z) = (fun x y z => if x = 48 ∧ y = 0 ∧ z = 23 then v else if x = 60 ∧ y = 0 ∧ z = p then w else X.1.1 x y z) := by
          funext x y z
          by_cases g : x = 60 ∧ y = 0 ∧ z = p
          · rw [if_pos g, if_neg (by omega), if_pos g]
          · rw [if_neg g, if_neg g]
        exact congrArg (fun g => ((g, X.1.2), X.2)) this
      have ss : ∀ (X : Sm) (v w : Int32), sI (sI X 48 0 23 v) 48 0 23 w = sI X 48 0 23 w := fun X v w => by
        rw [sI_sF, sI_sF, sF_sF, gI_sFs, sI_sF]
        congr 1
        funext q
        by_cases g : q = 23
        · rw [g, upd_at, upd_at]
        · rw [upd_ne g, upd_ne g, upd_ne g]
      rw [sw, ss, sI_s, show L + (j + 1) = L + j + 1 by omega]
      congr 5
      funext q
      unfold fedF
      by_cases g : q = L + j
      · subst g
        rw [upd_at, if_pos (by omega), show L + j - L = j by omega, hw]
        rfl
      · rw [upd_ne g]
        by_cases g2 : L ≤ q ∧ q < L + j
        · rw [if_pos g2, if_pos (by omega)]
        · rw [if_neg g2, if_neg (by omega)]
    simp only [fn_270_L23]
    rw [iteI_le_f (by omega) (by omega)]
    rcases Nat.lt_or_ge j 4 with g | g
    · rw [iteI_le_f (by omega) (by omega)]
      exact key a (by rw [show j / 4 = 0 by omega]; rfl)
    · rw [iteI_le_t (by omega) (by omega)]
      rcases Nat.lt_or_ge j 8 with g2 | g2
      · rw [iteI_le_f (by omega) (by omega)]
        exact key b (by rw [show j / 4 = 1 by omega]; rfl)
      · rw [iteI_le_t (by omega) (by omega)]
        rcases Nat.lt_or_ge j 12 with g3 | g3
        · rw [iteI_le_f (by omega) (by omega)]
          exact key d (by rw [show j / 4 = 2 by omega]; rfl)
        · rw [iteI_le_t (by omega) (by omega)]
          rcases Nat.lt_or_ge j 16 with g4 | g4
          · rw [iteI_le_f (by omega) (by omega)]
            exact key e (by rw [show j / 4 = 3 by omega]; rfl)
          · rw [iteI_le_t (by omega) (by omega)]
            exact key f (by rw [show j / 4 = 4 by omega]; rfl)
  · simp only [fn_270_L23]
    rw [iteI_le_t (by omega) (by omega), gI_sIv, upd_at]
  · show _ = (nI 0, sI (sF Y 60 0 (fedF (gI Y.1 60 0) L 0 (argF a b d e f))) 48 0 23 (nI (L + 0)))
    have e : fedF (gI Y.1 60 0) L 0 (argF a b d e f) = gI Y.1 60 0 := funext fun q => if_neg (by omega)
    rw [e, sF_self, Nat.add_zero, ← h, sI_sF]
    congr 1
    have e2 : upd (gI Y.1 48 0) 23 (gI Y.1 48 0 23) = gI Y.1 48 0 := by
      funext q
      by_cases g : q = 23
      · rw [g, upd_at]
      · rw [upd_ne g]
    rw [e2, sF_self]
theorem ok_0 {Y : Sm} {c : Nat} (a b d e f : Int32) (h : RR Y c) : Sok (fn_104 a b d e f) (fn_270 a b d e f) Y c := by
  obtain ⟨P, tu, ro, u, pos, b0, h⟩ := h
  obtain ⟨⟨L, hL, i1, i2, i3⟩, hE, hO⟩ := h.2.2.2.2.1
  rcases Nat.lt_or_ge 480 L with hb | hb
  · refine ⟨(-1 : Int32), Y, sI Y 48 0 0 (nI 0), ?_, ?_, rfl, by rw [gI_sIk (by omega)], P, tu, ro, u, pos, b0, (h.q QM.told.f).up (by omega)⟩
    · unfold fn_104
      rw [i1, iteI_le_f hb (by omega)]
    · unfold fn_270
      rw [wr_t, gI_sIv, upd_ne (by omega), i2, nI_add, iteI_le_f (by omega) (by omega)]
  · have e0 : Y = sI (sF Y 2 0 (fedF (gI Y.1 2 0) L (4 * 0) (argF a b d e f))) 1 0 1 (nI (L + 4 * 0)) := by
      have e : fedF (gI Y.1 2 0) L (4 * 0) (argF a b d e f) = gI Y.1 2 0 := funext fun q => if_neg (by omega)
      rw [e, sF_self, Nat.mul_zero, Nat.add_zero, ← i1, sI_sF]
      have e2 : upd (gI Y.1 1 0) 1 (gI Y.1 1 0 1) = gI Y.1 1 0 := by
        funext q
        by_cases g : q = 1
        · rw [g, upd_at]
        · rw [upd_ne g]
      rw [e2, sF_self]
    have k1 := c_17s (Y := Y) (g := gI Y.1 2 0) (L := L) (i := 0) (A := argF a b d e f) a rfl (by omega)
    have k2 := c_17s (Y := Y) (g := gI Y.1 2 0) (L := L) (i := 1) (A := argF a b d e f) b rfl (by omega)
    have k3 := c_17s (Y := Y) (g := gI Y.1 2 0) (L := L) (i := 2) (A := argF a b d e f) d rfl (by omega)
    have k4 := c_17s (Y := Y) (g := gI Y.1 2 0) (L := L) (i := 3) (A := argF a b d e f) e rfl (by omega)
    have k5 := c_17s (Y := Y) (g := gI Y.1 2 0) (L := L) (i := 4) (A := argF a b d e f) f rfl (by omega)
    rw [← e0] at k1
    generalize hZ : sI (sF Y 2 0 (fedF (gI Y.1 2 0) L (4 * (4 + 1)) (argF a b d e f))) 1 0 1 (nI (L + 4 * (4 + 1))) = Z1 at k5
    have z1 : gI Z1.1 1 0 1 = nI (L + 20) := by rw [← hZ, gI_sIv, upd_at]
    have z2 : gI Z1.1 2 0 = fedF (gI Y.1 2 0) L 20 (argF a b d e f) := by rw [← hZ, gI_sIk (by omega), gI_sFs]
    have zk : ∀ k, k ≠ 1 → k ≠ 2 → gI Z1.1 k = gI Y.1 k := fun k h1 h2 => by rw [← hZ, gI_sIk h1, gI_sFk h2]
    have zj : gJ Z1.1 = gJ Y.1 := by rw [← hZ, gJ_sI, gJ_sF]
    have zg : Z1.2 = Y.2 := by rw [← hZ, g_sI, g_sF]
    have e23 : gI (sI Z1 48 0 0 (nI 0)).1 48 0 23 = nI L := by rw [gI_sIv, upd_ne (by omega), zk 48 (by omega) (by omega)]; exact i2
    have kr := r_fd (Y := sI Z1 48 0 0 (nI 0)) (a := a) (b := b) (d := d) (e := e) (f := f) e23 (by omega)
    rw [gI_sIk (by omega), zk 60 (by omega) (by omega)] at kr
    generalize hX : sI (sF (sI Z1 48 0 0 (nI 0)) 60 0 (fedF (gI Y.1 60 0) L 20 (argF a b d e f))) 48 0 23 (nI (L + 20)) = Z2 at kr
    have x60 : gI Z2.1 60 0 = fedF (gI Y.1 60 0) L 20 (argF a b d e f) := by rw [← hX, gI_sIk (by omega), gI_sFs]
    have x48 : ∀ x, x ≠ 0 → x ≠ 23 → gI Z2.1 48 0 x = gI Y.1 48 0 x := fun x h1 h2 => by rw [← hX, gI_sIv, upd_ne h2, gI_sFk (by omega), gI_sIv, upd_ne h1, zk 48 (by omega) (by omega)]
    have x23 : gI Z2.1 48 0 23 = nI (L + 20) := by rw [← hX, gI_sIv, upd_at]
    have xk : ∀ k, k ≠ 48 → k ≠ 60 → gI Z2.1 k = gI Z1.1 k := fun k h1 h2 => by rw [← hX, gI_sIk h1, gI_sFk h2, gI_sIk h1]
    have xj : gJ Z2.1 = gJ Y.1 := by rw [← hX, gJ_sI, gJ_sF, gJ_sI, zj]
    refine ⟨nI (L + 20), Z1, Z2, ?_, ?_, zk 68 (by omega) (by omega), by rw [xk 68 (by omega) (by omega), zk 68 (by omega) (by omega)], P, tu, ro, u, pos, b0, ?_⟩
    · unfold fn_104
      rw [i1, iteI_le_t hb (by omega), k1, bd_t, k2, bd_t, k3, bd_t, k4, bd_t, k5, bd_t, z1]
    · unfold fn_270
      rw [wr_t, e23, nI_add, iteI_le_t (by omega) (by omega)]
      exact kr
    · refine (h.io (by rw [← hX, g_sI, g_sF, g_sI, zg]) (fun k i hk => ⟨?_, by rw [xj]⟩) ?_ (fun x hx => x48 x (by omega) (by omega)) ⟨⟨L + 20, by omega, ?_, x23, fun j hj => ?_⟩, ?_, ?_⟩).up (by omega)
      · simp only [List.mem_cons, List.mem_nil_iff, or_false, not_or] at hk
        rw [xk k (by omega) (by omega), zk k (by omega) (by omega)]
      · rw [xk 0 (by omega) (by omega), zk 0 (by omega) (by omega)]
      · rw [xk 1 (by omega) (by omega)]; exact z1
      · rw [xk 2 (by omega) (by omega), z2, x60]
        unfold fedF
        by_cases g : L ≤ j ∧ j < L + 20
        · rw [if_pos g, if_pos g]
          exact ⟨_, rfl, rfl⟩
        · rw [if_neg g, if_neg g]
          exact i3 j (by omega)
      · unfold IoE
        rw [xk 0 (by omega) (by omega), zk 0 (by omega) (by omega), x48 31 (by omega) (by omega), x48 32 (by omega) (by omega)]
        exact hE
      · unfold IoO
        rw [xk 0 (by omega) (by omega), zk 0 (by omega) (by omega), x48 41 (by omega) (by omega), xk 20 (by omega) (by omega), zk 20 (by omega) (by omega), xk 65 (by omega) (by omega), zk 65 (by omega) (by omega)]
        exact hO
