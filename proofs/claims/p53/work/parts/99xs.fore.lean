/-! forecasts from a row, whatever else the state holds -/
section FO
variable {Y : Sm} {P : Pm} {tu ro t n m s u pos : Nat} {r : Nat → Int32}
theorem s_try (h : S6 Y P tu ro r t n m s u pos) : ∃ Z, fn_72 1 0 Y = some ((), Z) ∧ QC Y Z ∧ CR Z 1 P r n m := by
  obtain ⟨Z, e, f, c⟩ := c_72 (i0 := 1) (i1 := 0) (by omega) h.h3 h.gr.2.1.1 h.gr.2.2.2.2.1 h.cr
  exact ⟨Z, e, QC.s2 f, c⟩
theorem q_ans (h : S6 Y P tu ro r t n m s u pos) {k n' m' : Nat} {r' : Nat → Int32} {w : Int32} (hT : TkN P tu ro t s k n m r n' m' r') (hk : 1 ≤ k ∧ k ≤ 500) (hw : AsK w P.2.1) (hs : s ≤ 1000) (ht : t + k ≤ 1000000) : ∃ Z, fn_144 (nI k) w Y = some (.inl (ansO r' w - ansO r w), Z) ∧ QC Y Z := by
  have h3 := h.h3
  obtain ⟨Z, eZ, qZ, cZ⟩ := s_try h
  obtain ⟨Z2, e2, f2, v2, c2⟩ := c_val h3 h.1.2.1 h.1.2.2 hs ht (by omega) hw cZ hT
  have q2 := qZ.tr (QC.s1 f2)
  have hR2 := (q2.s6 h).cr
  have hb : (inb (nI k) 501 && !decide (nI k = nI 0)) = true := by
    rw [inb_nI (by omega) (by omega), decide_eq_false (fun q => by have := (nI_eq (by omega) (by omega)).mp q; omega)]
    rfl
  have e10 : fn_144_J10 (nI k) w Y = some (.inl (ansO r' w - ansO r w), Z2) := by
    unfold fn_144_J10
    rw [c_157 (by omega), hb, cnd_t, bx_l, eZ, bd_t, e2, bd_t, v2, bd_t, c_75 hR2 hw h3.2.2.2, bd_t]
  refine ⟨Z2, ?_, q2⟩
  unfold fn_144
  by_cases hm : w = (-1 : Int32)
  · rw [if_pos hm]
    exact e10
  · rw [if_neg hm]
    rcases hw with hw | ⟨x, hx, rfl⟩
    · exact absurd hw hm
    · rw [h.a hx, bx_l]
      exact e10
theorem unt_ex (h3 : 0 < P.1 ∧ P.1 ≤ 5 ∧ 0 < P.2.1 ∧ P.2.1 ≤ 8) (hG : GR P r t n m s) (go : (Nat → Int32) → Nat → Bool) : ∀ l, ∃ j R N M, Unt P tu ro t s n m l r go j R N M
  | 0 => ⟨0, fun _ => r, fun _ => n, fun _ => m, ⟨rfl, rfl, rfl⟩, Chn.z hG, Nat.le_refl _, fun i hi => absurd hi (Nat.not_lt_zero i), fun hi => absurd hi (Nat.not_lt_zero 0)⟩
  | l + 1 => by
    obtain ⟨j, R, N, M, h0, hc, hj, hg, hg2⟩ := unt_ex h3 hG go l
    by_cases c : j < l
    · exact ⟨j, R, N, M, h0, hc, by omega, hg, fun _ => hg2 c⟩
    · have ej : j = l := by omega
      subst ej
      cases hgo : go (R j) (N j) with
      | false => exact ⟨j, R, N, M, h0, hc, by omega, hg, fun _ => hgo⟩
      | true =>
        obtain ⟨n2, m2, r2, hk, hG2⟩ := TkR.ex (tu := tu) (ro := ro) h3 (hc.1 j (Nat.le_refl _))
        refine ⟨j + 1, fun i => if i ≤ j then R i else r2, fun i => if i ≤ j then N i else n2, fun i => if i ≤ j then M i else m2, ?_, hc.snoc hG2 hk, Nat.le_refl _, fun i hi => ?_, fun hi => absurd hi (Nat.lt_irrefl _)⟩
        · exact ⟨(if_pos (Nat.zero_le _)).trans h0.1, (if_pos (Nat.zero_le _)).trans h0.2.1, (if_pos (Nat.zero_le _)).trans h0.2.2⟩
        · show go (if i ≤ j then R i else r2) (if i ≤ j then N i else n2) = true
          rw [if_pos (by omega), if_pos (by omega)]
          by_cases d : i = j
          · rw [d]; exact hgo
          · exact hg i (by omega)
theorem q_emp {j : Nat} {R : Nat → Nat → Int32} {N M : Nat → Nat} (hs : s ≤ 1000) (ht : t + 1001 ≤ 1000000) (hU : Unt P tu ro t s n m 1000 r goE j R N M) (h : S6 Y P tu ro r t n m s u pos) : CqS fn_149 Y (if 0 < N j then (-1 : Int32) else nI j) := by
  have h3 := h.h3
  obtain ⟨⟨r0, n0, m0⟩, hch, hj, hg, hg2⟩ := hU
  obtain ⟨Z, eZ, qZ, cZ⟩ := s_try h
  rw [← r0, ← n0, ← m0] at cZ
  have key := Ok_lp (F := fun s => fn_149_L13 s.1 s.2) (Q := fun x => ∃ Z2, x = (if 0 < N j then (-1 : Int32) else nI j, Z2) ∧ QC Z Z2) (fun i x => (i ≤ j ∧ x.1 = nI i ∧ QC Z x.2 ∧ CR x.2 1 P (R i) (N i) (M i)) ∨ (i = 1001 ∧ j = 1000 ∧ 0 < N j ∧ x.1 = nI 1001 ∧ QC Z x.2)) 1001 (N := FU) (FU_lt (by omega)) (s := (nI 0, Z)) ?_ ?_ ?_
  · obtain ⟨x, ex, Z2, rfl, q2⟩ := key
    refine ⟨Z2, ?_, qZ.tr q2⟩
    unfold fn_149
    rw [eZ, bd_t, ex]
  · rintro i ⟨l, W⟩ hi (⟨hij, el, hq, hW⟩ | ⟨z, _⟩)
    · have el : l = nI i := el
      subst el
      have hW : CR W 1 P (R i) (N i) (M i) := hW
      have hq : QC Z W := hq
      have hGi := hch.1 i hij
      have hn := hGi.2.1.1
      have e12 : gI W.1 12 4 1 = nI (N i) := hW.q.1.1.trans hGi.1.2.1
      rcases Nat.lt_or_ge 0 (N i) with g | g
      · by_cases d : i = j
        · subst d
          have hi2 : i = 1000 := by
            rcases Nat.lt_or_ge i 1000 with w | w
            · have := hg2 w
              unfold goE at this
              rw [decide_eq_true g] at this
              cases this
            · omega
          obtain ⟨n2, m2, r2, hk2, _⟩ := TkR.ex (tu := tu) (ro := ro) h3 hGi
          have hm : M i + 1 ≤ 1001 := by have := hGi.2.1; omega
          have hb : (M i + 1) * (t + i) ≤ 1001 * 1000000 := Nat.mul_le_mul hm (by omega)
          obtain ⟨Z2, e2, f2, _⟩ := c_86 h3 h.1.2.1 h.1.2.2 hGi (by omega) (by omega) hW hk2
          refine ⟨.inl (nI (i + 1), Z2), ?_, Or.inr ⟨by omega, hi2, g, by rw [hi2], hq.tr (QC.s1 f2)⟩⟩
          simp only [fn_149_L13]
          rw [iteI_lt_f (by omega) (by omega), e12, iteI_eq_f (by omega) (by omega) (by omega), e2, bd_t, nI_add]
        · obtain ⟨Z2, e2, f2, c2⟩ := c_step h3 h.1.2.1 h.1.2.2 hs (by omega) hch (by omega : i < j) hW
          refine ⟨.inl (nI (i + 1), Z2), ?_, Or.inl ⟨by omega, rfl, hq.tr (QC.s1 f2), c2⟩⟩
          simp only [fn_149_L13]
          rw [iteI_lt_f (by omega) (by omega), e12, iteI_eq_f (by omega) (by omega) (by omega), e2, bd_t, nI_add]
      · have hij2 : i = j := by
          by_cases d : i = j
          · exact d
          · have := hg i (by omega)
            unfold goE at this
            rw [decide_eq_false (by omega)] at this
            cases this
        subst hij2
        refine ⟨.inr (nI i, W), ?_, W, by rw [if_neg (by omega)], hq⟩
        simp only [fn_149_L13]
        rw [iteI_lt_f (by omega) (by omega), e12, iteI_eq_t (by omega)]
    · omega
  · rintro ⟨l, W⟩ (⟨hij, _⟩ | ⟨_, hj2, g, el, hq⟩)
    · omega
    · have el : l = nI 1001 := el
      subst el
      refine ⟨.inr ((-1 : Int32), W), ?_, W, by rw [if_pos g], hq⟩
      simp only [fn_149_L13]
      rw [iteI_lt_t (by omega) (by omega)]
  · exact Or.inl ⟨Nat.zero_le _, rfl, QC.rf, cZ⟩
theorem mxN_bi (xf : Nat → Nat) : ∀ j, mxN xf j = xf (biN xf j) ∧ biN xf j ≤ j ∧ ∀ i, i ≤ j → xf i ≤ xf (biN xf j)
  | 0 => ⟨rfl, Nat.le_refl _, fun i hi => by rw [show i = 0 by omega]; exact Nat.le_refl _⟩
  | j + 1 => by
    obtain ⟨h1, h2, h3⟩ := mxN_bi xf j
    unfold mxN biN
    by_cases c : mxN xf j < xf (j + 1)
    · rw [if_pos c, if_pos c]
      refine ⟨rfl, Nat.le_refl _, fun i hi => ?_⟩
      by_cases d : i = j + 1
      · rw [d]; exact Nat.le_refl _
      · have := h3 i (by omega)
        omega
    · rw [if_neg c, if_neg c]
      refine ⟨h1, by omega, fun i hi => ?_⟩
      by_cases d : i = j + 1
      · rw [d]; omega
      · exact h3 i (by omega)
theorem q_bst (h : S6 Y P tu ro r t n m s u pos) {k : Nat} {rf : Nat → Nat → Int32} {nf mf : Nat → Nat} (hT : ∀ j, j < 3 → TkN P tu ro t s k n m (upd r 1 (nI j)) (nf j) (mf j) (rf j) ∧ GR P (rf j) (t + k) (nf j) (mf j) s) (hk : 1 ≤ k ∧ k ≤ 500) (hs : s ≤ 1000) (ht : t + k ≤ 1000000) : ∃ b, b < 3 ∧ (∀ j, j < 3 → mf j ≤ mf b) ∧ CqS (fn_146 (nI k)) Y (.inl (nI b)) := by
  have h3 := h.h3
  have hG := h.gr
  have hb2 : (inb (nI k) 501 && !decide (nI k = nI 0)) = true := by
    rw [inb_nI (by omega) (by omega), decide_eq_false (fun q => by have := (nI_eq (by omega) (by omega)).mp q; omega)]
    rfl
  have hA : AsK (-1 : Int32) P.2.1 := Or.inl rfl
  have ctl : ∀ (X : Sm) (j : Nat), CR X 1 P r n m → CR (sI X 21 1 2 (nI j)) 1 P (upd r 1 (nI j)) n m := fun X j hX => by
    have G : ∀ k i, k ≠ 21 → gI (sI X 21 1 2 (nI j)).1 k i = gI X.1 k i := fun k i hk => by rw [gI_sIk hk]
    have e : ∀ q, q ≠ 1 → upd r 1 (nI j) q = r q := fun q hq => upd_ne hq
    refine ⟨hX.p.cg (G _ _ (by omega)) (G _ _ (by omega)) (G _ _ (by omega)), fun y hy => ?_, hX.q.cg (G _ _ (by omega)) (G _ _ (by omega)) (G _ _ (by omega)) (G _ _ (by omega)) (G _ _ (by omega)) (G _ _ (by omega)) (G _ _ (by omega)) (e 8 (by omega)) (e 9 (by omega)) (fun j w _ _ => e _ (by omega)), hX.k.cg (G _ _ (by omega)) (G _ _ (by omega)) (G _ _ (by omega)) rfl (fun k _ => ⟨e _ (by omega), e _ (by omega), e _ (by omega), e _ (by omega)⟩), hX.u.cg (G _ _ (by omega)) (G _ _ (by omega)) (G _ _ (by omega)) (G _ _ (by omega)) (G _ _ (by omega)) (G _ _ (by omega)) (fun x _ _ => e _ (by omega)) h3.2.2.2, hX.b.cg (fun _ _ => G _ _ (by omega)) (fun a p _ _ => e _ (by omega)), hX.l.cg (G _ _ (by omega)) (G _ _ (by omega)) (fun x _ _ => e _ (by omega))⟩
    rw [gI_sIv]
    by_cases d : y = 1
    · rw [d, upd_at, upd_at]
    · rw [upd_ne (by omega), upd_ne d]
      exact hX.a y hy
  have hxb0 : ∀ j, j < 3 → 0 ≤ mf j ∧ mf j ≤ 1000 := fun j hj => ⟨Nat.zero_le _, by have := (hT j hj).2.2.1; omega⟩
  obtain ⟨_, b2, b3⟩ := mxN_bi mf 2
  refine ⟨biN mf 2, by omega, fun j hj => b3 j (by omega), ?_⟩
  have key := Ok_lp (F := fun s => fn_146_L15_1 (nI k) s.1 s.2.1 s.2.2.1 s.2.2.2) (Q := fun x => ∃ Z3, x = (.inl (biI (nI 0) nI mf 3), Z3) ∧ QC Y Z3) (fun j x => x.1 = mxI mf 0 j ∧ x.2.1 = biI (nI 0) nI mf j ∧ x.2.2.1 = nI j ∧ QC Y x.2.2.2) 3 (N := FU) (FU_lt (by omega)) (s := ((-1 : Int32), nI 0, nI 0, Y)) ?_ ?_ ?_
  · obtain ⟨x, ex, Z3, rfl, q3⟩ := key
    refine ⟨Z3, ?_, q3⟩
    unfold fn_146
    rw [c_157 (by omega), hb2, cnd_t, bx_l, ex]
    rfl
  · rintro j ⟨l1, l2, l3, X⟩ hj ⟨E1, E2, E3, qX⟩
    have E1 : l1 = _ := E1
    have E2 : l2 = _ := E2
    have E3 : l3 = nI j := E3
    subst E1 E2 E3
    have qX : QC Y X := qX
    have h' := qX.s6 h
    obtain ⟨A1, eA1, qA1, cA1⟩ := s_try h'
    obtain ⟨A3, eA3, fA3, vA3, cA3⟩ := c_val h3 h.1.2.1 h.1.2.2 hs ht (by omega) hA (ctl A1 j cA1) (hT j hj).1
    have v8 : gI A3.1 21 1 8 = nI (mf j) := (cA3.a 7 (by omega)).trans (hT j hj).2.1.2.2.1
    have fS : Fr (SS 1) A1 (sI A1 21 1 2 (nI j)) := Fr.sI (Or.inr (Or.inl ⟨rfl, by decide⟩))
    have q3 : QC Y A3 := (qX.tr qA1).tr ((QC.s1 fS).tr (QC.s1 fA3))
    refine ⟨.inl (mxI mf 0 (j + 1), biI (nI 0) nI mf (j + 1), nI (j + 1), A3), ?_, rfl, rfl, rfl, q3⟩
    simp only [fn_146_L15_1]
    rw [iteI_lt_f (by omega) (by omega), eA1, bd_t, wr_t, eA3, bd_t, v8, nI_add, ite_le_lt]
    exact mx_step (b := 0) hxb0 hj (nI 0) nI (fun y x => some (Sum.inl (x, y, nI (j + 1), A3)))
  · rintro ⟨l1, l2, l3, X⟩ ⟨E1, E2, E3, qX⟩
    have E1 : l1 = _ := E1
    have E2 : l2 = _ := E2
    have E3 : l3 = nI 3 := E3
    subst E1 E2 E3
    have qX : QC Y X := qX
    refine ⟨.inr (.inl _, X), ?_, X, rfl, qX⟩
    simp only [fn_146_L15_1]
    rw [iteI_lt_t (by omega) (by omega)]
  · exact ⟨rfl, rfl, rfl, QC.rf⟩
end FO
