/-! the state of the class between the law's calls; its queries -/
/-- sums over classes and askers are the whole; manners -/
def XI (P : Pm) (r : Nat → Int32) (m : Nat) : Prop := (∃ x : Nat → Nat, (∀ k, k < P.1 → r (68 + k) = nI (x k)) ∧ sumQ x P.1 = m) ∧ (∃ y : Nat → Nat, (∀ a, a < P.2.1 → r (52 + a) = nI (y a)) ∧ sumQ y P.2.1 = m) ∧ ∀ k, k < P.1 → ∃ z, z ≤ 3 ∧ r (15 + k) = nI z
theorem XI.cg {P : Pm} {r r' : Nat → Int32} {m : Nat} (h : XI P r m) (h1 : ∀ k, k < P.1 → r' (68 + k) = r (68 + k)) (h2 : ∀ a, a < P.2.1 → r' (52 + a) = r (52 + a)) (h3 : ∀ k, k < P.1 → r' (15 + k) = r (15 + k)) : XI P r' m := by
  obtain ⟨⟨x, x1, x2⟩, ⟨y, y1, y2⟩, z⟩ := h
  exact ⟨⟨x, fun k hk => (h1 k hk).trans (x1 k hk), x2⟩, ⟨y, fun a ha => (h2 a ha).trans (y1 a ha), y2⟩, fun k hk => by rw [h3 k hk]; exact z k hk⟩
theorem sumQ_ge {f : Nat → Nat} {n j : Nat} (h : j < n) : f j ≤ sumQ f n := by
  induction n with
  | zero => exact absurd h (Nat.not_lt_zero _)
  | succ n ih =>
    show f j ≤ sumQ f n + f n
    rcases Nat.lt_or_eq_of_le (Nat.le_of_lt_succ h) with q | q
    · have := ih q
      omega
    · rw [q]
      omega
theorem XI.an {P : Pm} {r : Nat → Int32} {m : Nat} (h : XI P r m) : AnI r P.2.1 m := fun a ha => by
  obtain ⟨-, ⟨y, y1, y2⟩, -⟩ := h
  exact ⟨y a, by rw [← y2]; exact sumQ_ge ha, y1 a ha⟩
/-- the state -/
def S6 (Y : Sm) (P : Pm) (tu ro : Nat) (r : Nat → Int32) (t n m s u pos : Nat) : Prop :=
  ((0 < P.1 ∧ P.1 ≤ 5 ∧ 0 < P.2.1 ∧ P.2.1 ≤ 8) ∧ WI P ∧ SetI P tu ro) ∧ Y.2 3 = Y.2 0 ∧ CR Y 0 P r n m ∧ GR P r t n m s ∧ XI P r m ∧ (pos < 8 ∧ u ≤ 8 ∧ gI Y.1 37 0 1 = nI pos ∧ gI Y.1 37 0 2 = nI u)
section S6
variable {Y : Sm} {P : Pm} {tu ro t n m s u pos : Nat} {r : Nat → Int32}
theorem S6.h3 (h : S6 Y P tu ro r t n m s u pos) : 0 < P.1 ∧ P.1 ≤ 5 ∧ 0 < P.2.1 ∧ P.2.1 ≤ 8 := h.1.1
theorem S6.e0 (h : S6 Y P tu ro r t n m s u pos) : Y.2 3 = Y.2 0 := h.2.1
theorem S6.cr (h : S6 Y P tu ro r t n m s u pos) : CR Y 0 P r n m := h.2.2.1
theorem S6.gr (h : S6 Y P tu ro r t n m s u pos) : GR P r t n m s := h.2.2.2.1
theorem S6.cp (h : S6 Y P tu ro r t n m s u pos) : CP Y (Y.2 0) P := by rw [← h.e0]; exact h.cr.p
theorem S6.pn (h : S6 Y P tu ro r t n m s u pos) : PN P r := ⟨h.h3, h.gr.2.2.2.2.2.2.1, h.1.2.1⟩
theorem S6.c154 (h : S6 Y P tu ro r t n m s u pos) (a : Int32) : fn_154 a Y = some (cond (inb a P.2.1) (.inl ()) (.inr 0), Y) := c_154 h.cp.1.2 (by have := h.h3; omega) a
theorem S6.c155 (h : S6 Y P tu ro r t n m s u pos) (a : Int32) : fn_155 a Y = some (cond (inb a P.1) (.inl ()) (.inr 0), Y) := c_155 h.cp.1.1 (by have := h.h3; omega) a
theorem S6.k (h : S6 Y P tu ro r t n m s u pos) {k : Nat} (hk : k < P.1) : fn_155 (nI k) Y = some (.inl (), Y) := by rw [h.c155, inb_nI hk (by have := h.h3; omega), cnd_t]
theorem S6.a (h : S6 Y P tu ro r t n m s u pos) {k : Nat} (hk : k < P.2.1) : fn_154 (nI k) Y = some (.inl (), Y) := by rw [h.c154, inb_nI hk (by have := h.h3; omega), cnd_t]
theorem QC.crk {Y Z : Sm} {j q m : Nat} {P : Pm} {r : Nat → Int32} (hA : P.2.1 ≤ 8) (h : QC Y Z) (hj : j ≠ 1) (hc : CR Y j P r q m) : CR Z j P r q m := by
  have hne : ∀ k i, CRk j k i → ¬ (k ∈ [39, 40, 41, 43, 45, 46, 47] ∨ S2 1 k i) := fun k i hk hq => by
    refine QK_ne hj hk ?_
    rcases hq with q | q
    · exact Or.inl (by
        revert q
        simp only [List.mem_cons, List.not_mem_nil, or_false]
        omega)
    · exact Or.inr q
  exact hc.frk hA (h.1 _ (by omega)) (fun k i hk => (h.2 k i (hne k i hk)).1) (by
    have := h.2 25 j (hne 25 j (Or.inr (Or.inl ⟨rfl, by decide⟩)))
    exact this.2)
theorem QC.s6 {Z : Sm} (h : QC Y Z) (hs : S6 Y P tu ro r t n m s u pos) : S6 Z P tu ro r t n m s u pos := by
  have e37 : gI Z.1 37 0 = gI Y.1 37 0 := h.i (by
    intro q
    rcases q with q | q
    · exact absurd q (by decide)
    · rcases q with ⟨_, q⟩ | ⟨_, q⟩ | ⟨q, _⟩
      · exact absurd q (by decide)
      · exact absurd q (by decide)
      · exact absurd q (by decide))
  obtain ⟨a, b, c, d, e, f1, f2, f3, f4⟩ := hs
  exact ⟨a, by rw [h.1 3 (by omega), h.1 0 (by omega)]; exact b, h.crk a.1.2.2.2 (by omega) c, d, e, f1, f2, by rw [e37]; exact f3, by rw [e37]; exact f4⟩
theorem S6.poll (h : S6 Y P tu ro r t n m s u pos) (lo : Int32) : ∃ Z, fn_25 0 lo Y = some ((), Z) ∧ QC Y Z ∧ Fr (KS [39, 40, 41, 43, 45]) Y Z ∧ PoF Z P r lo := by
  obtain ⟨Z, e1, e2, e3⟩ := c_25 (n := 0) (lo := lo) (h.cr.pv h.h3) h.pn
  exact ⟨Z, e1, QC.kf e2 (by decide), e2, e3⟩
theorem q_prog (h : S6 Y P tu ro r t n m s u pos) : fn_117 Y = some (r 8, Y) := by
  unfold fn_117
  rw [show 3 = 0 + 3 from rfl, h.cr.q.1.2]
theorem q_ord (h : S6 Y P tu ro r t n m s u pos) {k : Nat} (hk : k < P.1) : fn_114 (nI k) Y = some (.inl (r (10 + k)), Y) := by
  have h3 := h.h3
  unfold fn_114
  rw [h.k hk, bx_l, ck_in (by omega) (by omega), ix_nI (by omega), (h.cr.k k hk).1]
theorem q_pts (h : S6 Y P tu ro r t n m s u pos) {k : Nat} (hk : k < P.1) : CqS (fn_119 (nI k)) Y (.inl (ptsS P r (-1 : Int32) k)) := by
  have h3 := h.h3
  obtain ⟨Z, eZ, qZ, _, pZ⟩ := h.poll (-1 : Int32)
  refine ⟨Z, ?_, qZ⟩
  unfold fn_119
  rw [h.k hk, bx_l, eZ, bd_t, ck_in (by omega) (by omega), ix_nI (by omega), pZ.pts h.pn hk]
theorem q_wins (h : S6 Y P tu ro r t n m s u pos) {k : Nat} (hk : k < P.1) : CqS (fn_122 (nI k)) Y (.inl (nI (winsS P r (-1 : Int32) k))) := by
  have h3 := h.h3
  obtain ⟨Z, eZ, qZ, _, pZ⟩ := h.poll (-1 : Int32)
  refine ⟨Z, ?_, qZ⟩
  unfold fn_122
  rw [h.k hk, bx_l, eZ, bd_t, ck_in (by omega) (by omega), ix_nI (by omega), pZ.2 k hk]
theorem q_chp (h : S6 Y P tu ro r t n m s u pos) : CqS fn_123 Y (cond (anyS P r (-1 : Int32)) (sres (fun k => decide (nI (winsS P r (-1 : Int32) k) = nI (P.1 - 1))) P.1) (-1 : Int32)) := by
  have h3 := h.h3
  have hN := h.pn
  obtain ⟨Z, eZ, qZ, fZ, pZ⟩ := h.poll (-1 : Int32)
  have e5 : gI Z.1 5 (Z.2 0) 0 = nI P.1 := by
    rw [fZ.1, fZ.gI (by unfold KS; decide)]
    exact h.cp.1.1
  refine ⟨Z, ?_, qZ⟩
  unfold fn_123
  rw [eZ, bd_t]
  cases ha : anyS P r (-1 : Int32) with
  | false => rw [if_pos ((pZ.any hN).mpr ha), cnd_f]
  | true =>
    rw [if_neg (fun q => by rw [(pZ.any hN).mp q] at ha; cases ha), cnd_t]
    refine lp_sres _ P.1 (by omega) (fun j hj hp => ?_) (fun j hj hp => ?_) ?_
    · simp only [fn_123_L26, e5]
      simp (disch := omega) only [ck_in, ix_nI, pk_mul, nI_add, pk_sub, iteI_le_t, iteI_le_f, iteI_lt_t, iteI_lt_f, iteI_eq_t, iteI_eq_f, bd_t, wr_t, ite_m1_f, ite_m1_t, ↓reduceIte, pZ.2 j hj]
      rw [if_neg (of_decide_eq_false hp)]
    · simp only [fn_123_L26, e5]
      simp (disch := omega) only [ck_in, ix_nI, pk_mul, nI_add, pk_sub, iteI_le_t, iteI_le_f, iteI_lt_t, iteI_lt_f, iteI_eq_t, iteI_eq_f, bd_t, wr_t, ite_m1_f, ite_m1_t, ↓reduceIte, pZ.2 j hj]
      rw [if_pos (of_decide_eq_true hp)]
    · simp only [fn_123_L26, e5]
      simp (disch := omega) only [ck_in, ix_nI, pk_mul, nI_add, pk_sub, iteI_le_t, iteI_le_f, iteI_lt_t, iteI_lt_f, iteI_eq_t, iteI_eq_f, bd_t, wr_t, ite_m1_f, ite_m1_t, ↓reduceIte]
theorem q_v46 (h : S6 Y P tu ro r t n m s u pos) (tl lo : Int32) : ∃ Z, fn_159_0_46 tl lo Y = some ((), Z) ∧ Fr (KS [39, 40, 41, 43, 45, 46]) Y Z ∧ OutOK P r lo tl (gI Z.1 46 0) := by
  have hN := h.pn
  obtain ⟨A, eA, _, fA, pA⟩ := h.poll lo
  generalize hB : sF A 46 0 (va_cpy (gI A.1 22 0) (gI A.1 46 0) 0 0 5) = B
  have fB : Fr (KS [46]) A B := by rw [← hB]; exact Fr.sF (by unfold KS; decide)
  obtain ⟨Z, eZ, fZ, _, z1, z2⟩ := c_30_46 (Y := B) (t := tl) (n := 0) rfl hN (pA.fr fB (by decide) (by decide) (by decide) (by decide) (by decide))
  refine ⟨Z, ?_, ((fA.up (KS.sub (by decide))).tr (fB.up (KS.sub (by decide)))).tr (fZ.up (KS.sub (by decide))), z1, fun ha p hp => ?_⟩
  · unfold fn_159_0_46 fn_44_22_46
    rw [eA, bd_t, wr_t, bd_t, sC_sF, hB, eZ, bd_t]
  · have h5 := h.h3
    rw [z2 ha, ← hB, gI_sFs, cp0 (by omega), fA.gI (by unfold KS; decide)]
    exact (h.cr.k p hp).1
theorem q_vot (h : S6 Y P tu ro r t n m s u pos) {k x : Nat} (hk : k < P.1) (hx : x < 3) : ∃ f Z, OutOK P r (-1 : Int32) (nI x) f ∧ fn_124 (nI x) (nI k) Y = some (.inl (f k), Z) ∧ QC Y Z := by
  have h3 := h.h3
  obtain ⟨Z, eZ, fZ, oZ⟩ := q_v46 h (nI x) (-1 : Int32)
  refine ⟨gI Z.1 46 0, Z, oZ, ?_, QC.kf fZ (by decide)⟩
  unfold fn_124
  rw [h.k hk, bx_l, c_156, inb_nI hx (by omega), cnd_t, bx_l, eZ, bd_t, ck_in (by omega) (by omega), ix_nI (by omega)]
theorem q_dbt (h : S6 Y P tu ro r t n m s u pos) : fn_132 Y = some (sumN (fun _ => true) (fun a => r (28 + a)) P.2.1, Y) := by
  have h3 := h.h3
  unfold fn_132
  refine lp_sum (fun _ => true) (fun a => r (28 + a)) P.2.1 (by omega) (fun j acc hj => ?_) (fun acc => ?_)
  · simp only [fn_132_L4, h.cp.1.2]
    simp (disch := omega) only [ck_in, ix_nI, pk_mul, nI_add, pk_sub, iteI_le_t, iteI_le_f, iteI_lt_t, iteI_lt_f, iteI_eq_t, iteI_eq_f, bd_t, wr_t, ite_m1_f, ite_m1_t, ↓reduceIte, (h.cr.u j hj).2.1, cnd_t]
  · simp only [fn_132_L4, h.cp.1.2]
    simp (disch := omega) only [ck_in, ix_nI, pk_mul, nI_add, pk_sub, iteI_le_t, iteI_le_f, iteI_lt_t, iteI_lt_f, iteI_eq_t, iteI_eq_f, bd_t, wr_t, ite_m1_f, ite_m1_t, ↓reduceIte]
theorem q_ask (h : S6 Y P tu ro r t n m s u pos) {x j : Nat} (hx : x < P.2.1) (hj : j < 10) : fn_111 (nI x) (nI j) Y = some (.inl (askV P r n x j), Y) := c_ask h.h3 h.e0 h.cr h.gr hx hj (h.a hx)
theorem q_knd (h : S6 Y P tu ro r t n m s u pos) {k j : Nat} (hk : k < P.1) (hj : j < 6) : fn_112 (nI k) (nI j) Y = some (.inl (kndV P r n k j), Y) := c_knd h.h3 h.e0 h.cr h.gr hk hj (h.k hk)
theorem q_cnt (h : S6 Y P tu ro r t n m s u pos) {j : Nat} (hj : j = 2 ∨ j = 3 ∨ j = 9 ∨ j = 10 ∨ j = 11 ∨ j = 12 ∨ j = 15) : fn_109 (nI j) Y = some (cntV P r u j, Y) := by
  have a := fun x hx => h.cr.a x hx
  have q1 : gI Y.1 12 3 1 = r 9 := h.cr.q.1.1
  have q2 : gI Y.1 12 3 2 = r 8 := h.cr.q.1.2
  have hu : gI Y.1 37 0 2 = nI u := h.2.2.2.2.2.2.2.2
  unfold fn_109 fn_109_J23
  rcases hj with rfl | rfl | rfl | rfl | rfl | rfl | rfl
  · simp (disch := omega) only [ck_in, ix_nI, pk_mul, nI_add, pk_sub, iteI_le_t, iteI_le_f, iteI_lt_t, iteI_lt_f, iteI_eq_t, iteI_eq_f, bd_t, wr_t, ite_m1_f, ite_m1_t, ↓reduceIte, a 0]; rfl
  · simp (disch := omega) only [ck_in, ix_nI, pk_mul, nI_add, pk_sub, iteI_le_t, iteI_le_f, iteI_lt_t, iteI_lt_f, iteI_eq_t, iteI_eq_f, bd_t, wr_t, ite_m1_f, ite_m1_t, ↓reduceIte, a 1]; rfl
  · simp (disch := omega) only [ck_in, ix_nI, pk_mul, nI_add, pk_sub, iteI_le_t, iteI_le_f, iteI_lt_t, iteI_lt_f, iteI_eq_t, iteI_eq_f, bd_t, wr_t, ite_m1_f, ite_m1_t, ↓reduceIte, fn_41, q1, q2, ite_y]; rfl
  · simp (disch := omega) only [ck_in, ix_nI, pk_mul, nI_add, pk_sub, iteI_le_t, iteI_le_f, iteI_lt_t, iteI_lt_f, iteI_eq_t, iteI_eq_f, bd_t, wr_t, ite_m1_f, ite_m1_t, ↓reduceIte, a 7]; rfl
  · simp (disch := omega) only [ck_in, ix_nI, pk_mul, nI_add, pk_sub, iteI_le_t, iteI_le_f, iteI_lt_t, iteI_lt_f, iteI_eq_t, iteI_eq_f, bd_t, wr_t, ite_m1_f, ite_m1_t, ↓reduceIte, a 6]; rfl
  · simp (disch := omega) only [ck_in, ix_nI, pk_mul, nI_add, pk_sub, iteI_le_t, iteI_le_f, iteI_lt_t, iteI_lt_f, iteI_eq_t, iteI_eq_f, bd_t, wr_t, ite_m1_f, ite_m1_t, ↓reduceIte, a 2]; rfl
  · simp (disch := omega) only [ck_in, ix_nI, pk_mul, nI_add, pk_sub, iteI_le_t, iteI_le_f, iteI_lt_t, iteI_lt_f, iteI_eq_t, iteI_eq_f, bd_t, wr_t, ite_m1_f, ite_m1_t, ↓reduceIte, hu]; rfl
theorem q_req (h : S6 Y P tu ro r t n m s u pos) {i : Nat} {x : Int32} (hi : i < n) (hx : sres (fun j => decide (rq r j 0 = x)) n = nI i) : fn_115 x (nI 1) Y = some (.inl (rq r i 2), Y) := by
  have h3 := h.h3
  have hn := h.gr.2.1.1
  have e158 := c_158 h.cr.q h.gr.1.2.1 hn x
  rw [hx, if_neg (nI_ne_m1 (by omega))] at e158
  obtain ⟨q0, q1, q2, q3, q4, q5⟩ := h.cr.q.2 i hi
  unfold fn_115
  rw [br_le (by omega), inb_nI (by omega : 1 < 5) (by omega), cnd_t, e158]
  simp (disch := omega) only [ck_in, ix_nI, pk_mul, nI_add, pk_sub, iteI_le_t, iteI_le_f, iteI_lt_t, iteI_lt_f, iteI_eq_t, iteI_eq_f, bd_t, wr_t, ite_m1_f, ite_m1_t, ↓reduceIte, bx_l]
  rw [show 3 = 0 + 3 from rfl, q2]
theorem q_lin (h : S6 Y P tu ro r t n m s u pos) {k : Nat} (hk : k < P.1) (hc : 0 < cntN (inLS r (nI k)) n) : ∃ i, i < n ∧ inLineS r n (nI k) (nI 0) = nI i ∧ fn_116 (nI k) (nI 0) Y = some (.inl (rq r i 0), Y) := by
  have h3 := h.h3
  have hn := h.gr.2.1.1
  have hcn := cntN_le (inLS r (nI k)) n
  have hL := LN_of h3 h.gr
  have e77 : fn_77 0 (nI k) (nI 0) Y = _ := c_77 (n := 0) (k := k) (pos := nI 0) hL h.gr.1.2.1 h.cr.q h.cr.k h.cr.u
  obtain ⟨i, hi, ei⟩ := (line_in (k := nI k) (q := nI 0) hL).mp (inb_nI hc (by omega))
  have e39 : fn_39 3 (inLineS r n (nI k) (nI 0)) Y = _ := c_39 (n := 0) h.cr.q h.gr.1.2.1 hn (inLineS_c r n (nI k) (nI 0))
  rw [ei, if_neg (nI_ne_m1 (by omega)), ix_nI (by omega)] at e39
  refine ⟨i, hi, ei, ?_⟩
  unfold fn_116
  rw [h.k hk, bx_l, e77, bd_t, ei, if_neg (nI_ne_m1 (by omega)), e39, bd_t]
end S6
