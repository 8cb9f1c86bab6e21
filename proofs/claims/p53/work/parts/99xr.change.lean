/-! the changes of the class, one by one -/
def u1 (u : Nat) : Nat := if u + 1 ≤ 8 then u + 1 else 8
section CH
variable {Y : Sm} {P : Pm} {tu ro t n m s u pos : Nat} {r : Nat → Int32}
theorem s_push (h : S6 Y P tu ro r t n m s u pos) : ∃ A, fn_14 0 Y = some ((), A) ∧ S6 A P tu ro r t n m s (u1 u) ((pos + 1) % 8) ∧ (∀ k, ¬ k ∈ [12, 14, 15, 16, 17, 18, 19, 21, 22, 23, 24, 25, 27, 29, 30, 31, 32, 33, 34, 35, 36, 37] → gI A.1 k = gI Y.1 k) := by
  have hA := h.h3
  obtain ⟨p1, p2, p3, p4⟩ := h.2.2.2.2.2
  obtain ⟨A, eA, fA, cA, a1, a2⟩ := c_14 hA p1 p3 p4 p2 h.gr.2.1.1 h.gr.2.2.2.2.1 h.cr
  have cA0 : CR A 0 P r n m := h.cr.frH hA.2.2.2 (by omega) fA
  have z : ∀ a, a ≠ (pos + 1) % 8 + 6 → A.2 a = Y.2 a := fun a ha => by rw [fA.1, g_sG, ug_ne (by omega)]
  refine ⟨A, eA, ⟨h.1, by rw [z _ (by omega), z 0 (by omega)]; exact h.e0, cA0, h.gr, h.2.2.2.2.1, Nat.mod_lt _ (by omega), by unfold u1; split <;> omega, a1, a2⟩, fun k hk => ?_⟩
  funext i
  refine (fA.gI (fun w => hk ?_)).trans (by rw [gI_sG])
  rcases w with w | w
  · unfold S2 at w
    simp only [List.mem_cons, List.mem_nil_iff, or_false] at *
    omega
  · rw [w.1]; decide
theorem s_step {Z : Sm} {r' : Nat → Int32} {t' n' m' s' : Nat} (h : S6 Y P tu ro r t n m s u pos) (hF : Fr (fun k i => SS 0 k i ∨ k = 46) Y Z) (hR : CR Z 0 P r' n' m') (hG : GR P r' t' n' m' s') (hX : XI P r' m') : S6 Z P tu ro r' t' n' m' s' u pos := by
  have e37 : gI Z.1 37 0 = gI Y.1 37 0 := hF.gI (fun w => by
    unfold SS at w
    simp only [List.mem_cons, List.mem_nil_iff, or_false] at w
    omega)
  obtain ⟨p1, p2, p3, p4⟩ := h.2.2.2.2.2
  exact ⟨h.1, by rw [hF.1]; exact h.e0, hR, hG, hX, p1, p2, by rw [e37]; exact p3, by rw [e37]; exact p4⟩
theorem c_tly (h : S6 Y P tu ro r t n m s u pos) {x : Nat} (hx : x < 3) : ∃ Z, fn_140 (nI x) Y = some (.inl (r 1), Z) ∧ S6 Z P tu ro (upd r 1 (nI x)) t n m s (u1 u) ((pos + 1) % 8) := by
  have h3 := h.h3
  obtain ⟨A, eA, hA, kA⟩ := s_push h
  have hR := hA.cr
  have G : ∀ k i, k ≠ 21 → gI (sI A 21 0 2 (nI x)).1 k i = gI A.1 k i := fun k i hk => by rw [gI_sIk hk]
  have e : ∀ q, q ≠ 1 → upd r 1 (nI x) q = r q := fun q hq => upd_ne hq
  refine ⟨sI A 21 0 2 (nI x), ?_, s_step hA (Fr.sI (Or.inl (Or.inr (Or.inl ⟨rfl, by decide⟩)))) ?_ (hA.gr.tly ⟨h3.2.1, h3.2.2.2⟩ hx) (hA.2.2.2.2.1.cg (fun _ _ => e _ (by omega)) (fun _ _ => e _ (by omega)) (fun _ _ => e _ (by omega)))⟩
  · unfold fn_140
    rw [c_156, inb_nI hx (by omega), cnd_t, bx_l, eA, bd_t, wr_t, hR.a 1 (by omega)]
  · refine ⟨hR.p.cg (G _ _ (by omega)) (G _ _ (by omega)) (G _ _ (by omega)), fun j hj => ?_, hR.q.cg (G _ _ (by omega)) (G _ _ (by omega)) (G _ _ (by omega)) (G _ _ (by omega)) (G _ _ (by omega)) (G _ _ (by omega)) (G _ _ (by omega)) (e 8 (by omega)) (e 9 (by omega)) (fun j w _ _ => e _ (by omega)), hR.k.cg (G _ _ (by omega)) (G _ _ (by omega)) (G _ _ (by omega)) rfl (fun k _ => ⟨e _ (by omega), e _ (by omega), e _ (by omega), e _ (by omega)⟩), hR.u.cg (G _ _ (by omega)) (G _ _ (by omega)) (G _ _ (by omega)) (G _ _ (by omega)) (G _ _ (by omega)) (G _ _ (by omega)) (fun x _ _ => e _ (by omega)) h3.2.2.2, hR.b.cg (fun _ _ => G _ _ (by omega)) (fun a p _ _ => e _ (by omega)), hR.l.cg (G _ _ (by omega)) (G _ _ (by omega)) (fun x _ _ => e _ (by omega))⟩
    rw [gI_sIv]
    by_cases d : j = 1
    · rw [d, upd_at, upd_at]
    · rw [upd_ne (by omega), upd_ne d]
      exact hR.a j hj
theorem c_mnr (h : S6 Y P tu ro r t n m s u pos) {k z : Nat} (hk : k < P.1) (hz : z ≤ 3) : ∃ Z, fn_141 (nI k) (nI z) Y = some (.inl (r (15 + k)), Z) ∧ S6 Z P tu ro (upd r (15 + k) (nI z)) t n m s (u1 u) ((pos + 1) % 8) := by
  have h3 := h.h3
  obtain ⟨A, eA, hA, kA⟩ := s_push h
  have hR := hA.cr
  have G : ∀ j i, j ≠ 23 → gI (sI A 23 0 k (nI z)).1 j i = gI A.1 j i := fun j i hk => by rw [gI_sIk hk]
  have e : ∀ q, q ≠ 15 + k → upd r (15 + k) (nI z) q = r q := fun q hq => upd_ne hq
  refine ⟨sI A 23 0 k (nI z), ?_, s_step hA (Fr.sI (Or.inl (Or.inr (Or.inl ⟨rfl, by decide⟩)))) ?_ (hA.gr.man ⟨h3.2.1, h3.2.2.2⟩ (by omega)) ?_⟩
  · unfold fn_141
    rw [h.k hk, bx_l, br_le (by omega), inb_nI (by omega : z < 4) (by omega), cnd_t, eA, bd_t, ck_in (by omega) (by omega), wr_t, ix_nI (by omega), (hR.k k hk).2.1]
  · refine ⟨hR.p.cg (G _ _ (by omega)) (G _ _ (by omega)) (G _ _ (by omega)), hR.a.cg (G _ _ (by omega)) (fun x _ => e _ (by omega)), hR.q.cg (G _ _ (by omega)) (G _ _ (by omega)) (G _ _ (by omega)) (G _ _ (by omega)) (G _ _ (by omega)) (G _ _ (by omega)) (G _ _ (by omega)) (e 8 (by omega)) (e 9 (by omega)) (fun j w _ _ => e _ (by omega)), fun j hj => ?_, hR.u.cg (G _ _ (by omega)) (G _ _ (by omega)) (G _ _ (by omega)) (G _ _ (by omega)) (G _ _ (by omega)) (G _ _ (by omega)) (fun x _ _ => e _ (by omega)) h3.2.2.2, hR.b.cg (fun _ _ => G _ _ (by omega)) (fun a p _ _ => e _ (by omega)), hR.l.cg (G _ _ (by omega)) (G _ _ (by omega)) (fun x _ _ => e _ (by omega))⟩
    obtain ⟨q1, q2, q3, q4⟩ := hR.k j hj
    rw [G 22 _ (by omega), G 24 _ (by omega), gI_sIv, e (10 + j) (by omega), e (68 + j) (by omega), e (73 + j) (by omega)]
    refine ⟨q1, ?_, q3, q4⟩
    by_cases d : j = k
    · rw [d, upd_at, upd_at]
    · rw [upd_ne d, upd_ne (by omega)]
      exact q2
  · obtain ⟨x1, x2, x3⟩ := hA.2.2.2.2.1
    have hX := XI.cg (r' := r) ⟨x1, x2, x3⟩ (fun _ _ => rfl) (fun _ _ => rfl) (fun _ _ => rfl)
    obtain ⟨⟨x, a1, a2⟩, ⟨y, b1, b2⟩, _⟩ := hX
    refine ⟨⟨x, fun j hj => (e _ (by omega)).trans (a1 j hj), a2⟩, ⟨y, fun j hj => (e _ (by omega)).trans (b1 j hj), b2⟩, fun j hj => ?_⟩
    by_cases d : j = k
    · exact ⟨z, hz, by rw [d, upd_at]⟩
    · rw [e _ (by omega)]
      exact x3 j hj
theorem c_pay (h : S6 Y P tu ro r t n m s u pos) {k : Nat} (hk : k < P.2.1) : ∃ Z, fn_139 (nI k) Y = some (.inl (paidS r k), Z) ∧ S6 Z P tu ro (payS r k) t n m s (u1 u) ((pos + 1) % 8) := by
  have h3 := h.h3
  obtain ⟨A, eA, hA, kA⟩ := s_push h
  have hR := hA.cr
  have hu := hR.u k hk
  generalize hZ : sI (sI A 29 0 k (r (20 + k) - paidS r k)) 30 0 k (r (28 + k) - paidS r k) = Z
  have G : ∀ j i, j ≠ 29 → j ≠ 30 → gI Z.1 j i = gI A.1 j i := fun j i h1 h2 => by rw [← hZ, gI_sIk h2, gI_sIk h1]
  have e : ∀ q, q ≠ 20 + k → q ≠ 28 + k → payS r k q = r q := fun q => payS_o
  have fZ : Fr (fun k i => SS 0 k i ∨ k = 46) A Z := by
    rw [← hZ]
    exact (Fr.sI (Or.inl (Or.inr (Or.inl ⟨rfl, by decide⟩)))).tr (Fr.sI (Or.inl (Or.inr (Or.inl ⟨rfl, by decide⟩))))
  refine ⟨Z, ?_, s_step hA fZ ?_ (hA.gr.pay ⟨h3.2.1, h3.2.2.2⟩ hk) (hA.2.2.2.2.1.cg (fun _ _ => e _ (by omega) (by omega)) (fun _ _ => e _ (by omega) (by omega)) (fun _ _ => e _ (by omega) (by omega)))⟩
  · unfold fn_139 fn_6
    rw [h.a hk, bx_l, eA, bd_t, ck_in (by omega) (by omega), ix_nI (by omega), hu.1, hu.2.1, min_c, wr_t, gI_sIk (by omega), hu.2.1, wr_t]
    rw [show minS (r (20 + k)) (r (28 + k)) = paidS r k from rfl, hZ, bd_t]
  · refine ⟨?_, hR.a.cg (G _ _ (by omega) (by omega)) (fun x _ => e _ (by omega) (by omega)), hR.q.cg (G _ _ (by omega) (by omega)) (G _ _ (by omega) (by omega)) (G _ _ (by omega) (by omega)) (G _ _ (by omega) (by omega)) (G _ _ (by omega) (by omega)) (G _ _ (by omega) (by omega)) (G _ _ (by omega) (by omega)) (e 8 (by omega) (by omega)) (e 9 (by omega) (by omega)) (fun j w _ _ => e _ (by omega) (by omega)), hR.k.cg (G _ _ (by omega) (by omega)) (G _ _ (by omega) (by omega)) (G _ _ (by omega) (by omega)) (by rw [← hZ]; rfl) (fun j _ => ⟨e _ (by omega) (by omega), e _ (by omega) (by omega), e _ (by omega) (by omega), e _ (by omega) (by omega)⟩), fun j hj => ?_, hR.b.cg (fun _ _ => G _ _ (by omega) (by omega)) (fun a p _ _ => e _ (by omega) (by omega)), hR.l.cg (G _ _ (by omega) (by omega)) (G _ _ (by omega) (by omega)) (fun x _ _ => e _ (by omega) (by omega))⟩
    · rw [fZ.1]
      exact hR.p.cg (G _ _ (by omega) (by omega)) (G _ _ (by omega) (by omega)) (G _ _ (by omega) (by omega))
    · obtain ⟨q1, q2, q3, q4, q5, q6⟩ := hR.u j hj
      rw [G 31 _ (by omega) (by omega), G 32 _ (by omega) (by omega), G 33 _ (by omega) (by omega), G 34 _ (by omega) (by omega), e (36 + j) (by omega) (by omega), e (44 + j) (by omega) (by omega), e (52 + j) (by omega) (by omega), e (60 + j) (by omega) (by omega)]
      refine ⟨?_, ?_, q3, q4, q5, q6⟩
      · rw [← hZ, gI_sIk (by omega), gI_sIv]
        by_cases d : j = k
        · rw [d, upd_at, payS_c]
        · rw [upd_ne d, e _ (by omega) (by omega)]; exact q1
      · rw [← hZ, gI_sIv, gI_sIk (by omega)]
        by_cases d : j = k
        · rw [d, upd_at, payS_d]
        · rw [upd_ne d, e _ (by omega) (by omega)]; exact q2
theorem c_cst (h : S6 Y P tu ro r t n m s u pos) {code : Int32} (hb : isB P.1 code = true) : ∃ a Z r', a < P.2.1 ∧ fn_137 code Y = some (.inl (nI a), Z) ∧ S6 Z P tu ro r' t n m s (u1 u) ((pos + 1) % 8) := by
  have h3 := h.h3
  obtain ⟨a, ha, ea⟩ := h.gr.2.2.2.1
  have e50 := c_50 (Y := Y) h3.2.1 code
  rw [bd_isB] at e50
  generalize hY1 : sF Y 46 0 (bdS P.1 P.1 code (nI 0) (gI Y.1 46 0)).2 = Y1 at e50
  have h1 : S6 Y1 P tu ro r t n m s u pos := QC.s6 (Y := Y) (by rw [← hY1]; exact QC.f46) h
  obtain ⟨A, eA, hA, kA⟩ := s_push h1
  obtain ⟨Z, eZ, fZ, rZ⟩ := c_82 (f := bRow P.1 code) h3 hA.cr hA.gr ea ha (fun p hp => by rw [kA 46 (by decide), ← hY1, gI_sFs, bd_row hb hp])
  refine ⟨a, Z, casS P r a (bRow P.1 code), ha, ?_, s_step hA (fZ.up (fun k i z => Or.inl z)) rZ (hA.gr.cas ⟨h3.2.1, h3.2.2.2⟩ ha (isB_ord h3.2.1 hb)) (hA.2.2.2.2.1.cg (fun _ _ => casS_o (by omega) (by omega) (by omega)) (fun _ _ => casS_o (by omega) (by omega) (by omega)) (fun _ _ => casS_o (by omega) (by omega) (by omega)))⟩
  unfold fn_137
  rw [h.cp.1.1, e50, hb, bd_t, bI_0, cnd_t, eA, bd_t, eZ, bd_t]
  have e21 : gI Z.1 21 0 3 = casS P r a (bRow P.1 code) 2 := rZ.a 2 (by omega)
  rw [e21, casS_o (by omega) (by omega) (by omega), ea]
theorem c_askn (h : S6 Y P tu ro r t n m s u pos) {x k l : Nat} (hx : x < P.2.1) (hk : k < P.1) (hl : 1 ≤ l ∧ l ≤ 20) (hn : n < 40) (hs : s < 9999) : ∃ Z, fn_135 (nI x) (nI k) (nI l) Y = some (.inl (nI s), Z) ∧ S6 Z P tu ro (comS r n x k l s) t (n + 1) m (s + 1) (u1 u) ((pos + 1) % 8) := by
  have h3 := h.h3
  have e12 : gI Y.1 12 3 1 = nI n := h.cr.q.1.1.trans h.gr.1.2.1
  have e7 : gI Y.1 21 0 7 = nI s := (h.cr.a 6 (by omega)).trans h.gr.1.2.2.2
  obtain ⟨A, eA, hA, kA⟩ := s_push h
  obtain ⟨Z, eZ, fZ, rZ⟩ := c_81 (a := x) (k := k) (l := l) h3 hA.cr hA.gr hn
  have hlb : (inb (nI l) 21 && !decide (nI l = nI 0)) = true := by
    rw [inb_nI (by omega) (by omega), decide_eq_false (fun q => by have := (nI_eq (by omega) (by omega)).mp q; omega)]
    rfl
  refine ⟨Z, ?_, s_step hA (fZ.up (fun k i z => Or.inl z)) rZ (hA.gr.com ⟨h3.2.1, h3.2.2.2⟩ hn (by omega) hx hk hl) (hA.2.2.2.2.1.cg (fun _ _ => comS_o (by omega) (by omega) (by omega)) (fun _ _ => comS_o (by omega) (by omega) (by omega)) (fun _ _ => comS_o (by omega) (by omega) (by omega)))⟩
  unfold fn_135
  rw [h.a hx, bx_l, h.k hk, bx_l, br_1 (by omega), hlb, cnd_t, e12, iteI_le_f hn (by omega), e7, iteI_lt_t (by omega) (by omega), eA, bd_t, eZ, bd_t]
theorem c_rn (h : S6 Y P tu ro r t n m s u pos) {k n' m' : Nat} {r' : Nat → Int32} (hk : 1 ≤ k ∧ k ≤ 500) (hs : s ≤ 1000) (ht : t + k ≤ 1000000) (hT : TkN P tu ro t s k n m r n' m' r') (hG' : GR P r' (t + k) n' m' s) : ∃ Z, fn_134 (nI k) Y = some (.inl (nI m' - nI m), Z) ∧ S6 Z P tu ro r' (t + k) n' m' s (u1 u) ((pos + 1) % 8) ∧ CR Z ((pos + 1) % 8 + 3) P r n m ∧ Z.2 ((pos + 1) % 8 + 3 + 3) = Z.2 0 := by
  have h3 := h.h3
  obtain ⟨p1, p2, p3, p4⟩ := h.2.2.2.2.2
  obtain ⟨A, Z, e, fA, fZ, c0, c1, d1, d2⟩ := c_run h3 h.1.2.1 h.1.2.2 hs ht hk p1 p3 p4 p2 h.gr hG' h.cr hT
  have z : ∀ a, a ≠ (pos + 1) % 8 + 6 → Z.2 a = Y.2 a := fun a ha => by rw [fZ.1, fA.1, g_sG, ug_ne (by omega)]
  refine ⟨Z, e, ⟨h.1, by rw [z _ (by omega), z 0 (by omega)]; exact h.e0, c0, hG', (hT.xi ⟨h3.2.1, h3.2.2.2⟩ h.2.2.2.2.1).1, Nat.mod_lt _ (by omega), by unfold u1; split <;> omega, d1, d2⟩, c1, ?_⟩
  rw [z 0 (by omega), fZ.1, fA.1, g_sG, ug_at]
  exact h.e0
theorem c_und (h : S6 Y P tu ro r t n m s u pos) {r0 : Nat → Int32} {t0 n0 m0 s0 : Nat} (hu : 1 ≤ u) (hR : CR Y (pos + 3) P r0 n0 m0) (hg : Y.2 (pos + 3 + 3) = Y.2 0) (hG : GR P r0 t0 n0 m0 s0) (hX : XI P r0 m0) : ∃ Z, fn_142 Y = some (.inl (nI (u - 1)), Z) ∧ S6 Z P tu ro r0 t0 n0 m0 s0 (u - 1) ((pos + 7) % 8) := by
  have h3 := h.h3
  obtain ⟨p1, p2, p3, p4⟩ := h.2.2.2.2.2
  obtain ⟨Z, e, f, c, d1, d2⟩ := c_undo1 h3 p1 p3 p4 ⟨hu, p2⟩ hG.2.1.1 hG.2.2.2.2.1 hR
  refine ⟨Z, e, h.1, ?_, c, hG, hX, Nat.mod_lt _ (by omega), by omega, d1, d2⟩
  rw [f.1, g_sG, ug_at, ug_ne (by omega)]
  exact hg
theorem c_sav (h : S6 Y P tu ro r t n m s u pos) : ∃ Z, fn_152 Y = some (r 0, Z) ∧ S6 Z P tu ro r t n m s u pos ∧ CR Z 2 P r n m ∧ gI Z.1 0 0 11 = nI 1 ∧ Z.2 5 = Z.2 0 := by
  have h3 := h.h3
  obtain ⟨p1, p2, p3, p4⟩ := h.2.2.2.2.2
  obtain ⟨A, e, f, c0, c2⟩ := c_save h3 h.gr.2.1.1 h.gr.2.2.2.2.1 h.cr
  have e37 : gI A.1 37 0 = gI Y.1 37 0 := (f.gI (fun w => by
    unfold S2 at w
    simp only [List.mem_cons, List.mem_nil_iff, or_false] at w
    omega)).trans (by rw [gI_sG])
  have z : ∀ a, a ≠ 5 → A.2 a = Y.2 a := fun a ha => by rw [f.1, g_sG, ug_ne ha]
  refine ⟨_, e, ⟨h.1, ?_, c0, h.gr, h.2.2.2.2.1, p1, p2, by rw [gI_sIk (by omega), e37]; exact p3, by rw [gI_sIk (by omega), e37]; exact p4⟩, c2, by rw [gI_sIv, upd_at], ?_⟩
  · show A.2 3 = A.2 0
    rw [z 3 (by omega), z 0 (by omega)]; exact h.e0
  · show A.2 5 = A.2 0
    rw [z 0 (by omega), f.1, g_sG, ug_at]; exact h.e0
theorem c_bck (h : S6 Y P tu ro r t n m s u pos) {r0 : Nat → Int32} {t0 n0 m0 s0 : Nat} (h11 : gI Y.1 0 0 11 = nI 1) (hR : CR Y 2 P r0 n0 m0) (hg : Y.2 5 = Y.2 0) (hG : GR P r0 t0 n0 m0 s0) (hX : XI P r0 m0) : ∃ Z, fn_153 Y = some (.inl (r0 0), Z) ∧ S6 Z P tu ro r0 t0 n0 m0 s0 0 pos := by
  have h3 := h.h3
  obtain ⟨p1, p2, p3, p4⟩ := h.2.2.2.2.2
  obtain ⟨A, e, f, c0, c2⟩ := c_back1 h3 hG.2.1.1 hG.2.2.2.2.1 h11 hR
  have e37 : gI A.1 37 0 = gI Y.1 37 0 := (f.gI (fun w => by
    unfold S2 at w
    simp only [List.mem_cons, List.mem_nil_iff, or_false] at w
    omega)).trans (by rw [gI_sG])
  refine ⟨_, e, h.1, ?_, c0, hG, hX, p1, by omega, by rw [gI_sIv, upd_ne (by omega), e37]; exact p3, by rw [gI_sIv, upd_at]⟩
  show A.2 3 = A.2 0
  rw [f.1, g_sG, ug_at, ug_ne (by omega)]
  exact hg
end CH
theorem bcd_isB : ∀ C, C < 6 → ∀ a, a < C → (isB C (nI (bcd C a 1 C)) = true ∧ isB C (nI (bcd C a (C - 1) C)) = true) := by decide +kernel
