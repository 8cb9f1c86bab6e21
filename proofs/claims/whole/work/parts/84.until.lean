/-! forecasts: ticks until something is so -/
def Chn (P : Pm) (tu ro t s j : Nat) (R : Nat → Nat → Int32) (N M : Nat → Nat) : Prop := (∀ i, i ≤ j → GR P (R i) (t + i) (N i) (M i) s) ∧ ∀ i, i < j → TkR P (-1 : Int32) (t + i) tu ro (N i) (M i) (N (i + 1)) (M (i + 1)) (R i) (R (i + 1))
theorem Chn.z {P : Pm} {tu ro t s n m : Nat} {r : Nat → Int32} (h : GR P r t n m s) : Chn P tu ro t s 0 (fun _ => r) (fun _ => n) (fun _ => m) := ⟨fun i hi => by
  obtain rfl : i = 0 := by omega
  exact h, fun i hi => by omega⟩
theorem Chn.snoc {P : Pm} {tu ro t s j n2 m2 : Nat} {R : Nat → Nat → Int32} {N M : Nat → Nat} {r2 : Nat → Int32} (h : Chn P tu ro t s j R N M) (hG : GR P r2 (t + (j + 1)) n2 m2 s) (hk : TkR P (-1 : Int32) (t + j) tu ro (N j) (M j) n2 m2 (R j) r2) : Chn P tu ro t s (j + 1) (fun i => if i ≤ j then R i else r2) (fun i => if i ≤ j then N i else n2) (fun i => if i ≤ j then M i else m2) := by
  obtain ⟨h1, h2⟩ := h
  refine ⟨fun i hi => ?_, fun i hi => ?_⟩
  · show GR P (if i ≤ j then R i else r2) (t + i) (if i ≤ j then N i else n2) (if i ≤ j then M i else m2) s
    by_cases c : i ≤ j
    · rw [if_pos c, if_pos c, if_pos c]; exact h1 i c
    · rw [if_neg c, if_neg c, if_neg c, show i = j + 1 by omega]; exact hG
  · show TkR P (-1 : Int32) (t + i) tu ro (if i ≤ j then N i else n2) (if i ≤ j then M i else m2) (if i + 1 ≤ j then N (i + 1) else n2) (if i + 1 ≤ j then M (i + 1) else m2) (if i ≤ j then R i else r2) (if i + 1 ≤ j then R (i + 1) else r2)
    rw [if_pos (show i ≤ j by omega), if_pos (show i ≤ j by omega), if_pos (show i ≤ j by omega)]
    by_cases c : i + 1 ≤ j
    · rw [if_pos c, if_pos c, if_pos c]; exact h2 i (by omega)
    · rw [if_neg c, if_neg c, if_neg c, show i = j by omega]; exact hk
/-- what is told of the road: it stops at j -/
def Unt (P : Pm) (tu ro t s n m lim : Nat) (r : Nat → Int32) (go : (Nat → Int32) → Nat → Bool) (j : Nat) (R : Nat → Nat → Int32) (N M : Nat → Nat) : Prop := (R 0 = r ∧ N 0 = n ∧ M 0 = m) ∧ Chn P tu ro t s j R N M ∧ j ≤ lim ∧ (∀ i, i < j → go (R i) (N i) = true) ∧ (j < lim → go (R j) (N j) = false)
theorem r_until {W0 : Sm} {P : Pm} {tu ro t s n m lim : Nat} {r : Nat → Int32} {go : (Nat → Int32) → Nat → Bool} {F : Int32 × Sm → Option ((Int32 × Sm) ⊕ ((Int32 × Sm) ⊕ (Int32 × Sm)))} (hM : ML W0 P r) (hS : SetI P tu ro) (hl : lim < 100000) (ht : t + lim < 2 ^ 31) (hG : GR P r t n m s) (h1 : ∀ j W q n' m', j < lim → ML W P q → GR P q (t + j) n' m' s → F (nI j, W) = cond (go q n') (bd (fn_205 W) fun _ Y => some (.inl (nI (j + 1), Y))) (some (.inr (.inl (nI j, W))))) (h2 : ∀ W q n' m', ML W P q → GR P q (t + lim) n' m' s → F (nI lim, W) = some (.inr (.inl (nI lim, W)))) : ∃ j R N M f, lp F FU (nI 0, W0) = some (.inl (nI j, sF (sF W0 58 0 f) 52 0 (R j))) ∧ Unt P tu ro t s n m lim r go j R N M := by
  have key := Ok_lp (F := F) (Q := fun x => ∃ j R N M f, x = .inl (nI j, sF (sF W0 58 0 f) 52 0 (R j)) ∧ Unt P tu ro t s n m lim r go j R N M) (fun j x => x.1 = nI j ∧ ∃ R N M f, x.2 = sF (sF W0 58 0 f) 52 0 (R j) ∧ (R 0 = r ∧ N 0 = n ∧ M 0 = m) ∧ Chn P tu ro t s j R N M ∧ ∀ i, i < j → go (R i) (N i) = true) lim (N := FU) (FU_lt (by omega)) (s := (nI 0, W0)) ?_ ?_ ?_
  · obtain ⟨x, e, j, R, N, M, f, ex, h⟩ := key
    exact ⟨j, R, N, M, f, by rw [e, ex], h⟩
  · rintro j ⟨l, W⟩ hj ⟨e, R, N, M, f, eW, h0, hc, hg⟩
    have e : l = nI j := e
    subst e
    have eW : W = sF (sF W0 58 0 f) 52 0 (R j) := eW
    have hMW : ML W P (R j) := by
      rw [eW]
      exact ⟨(hM.1.sF (by omega) (by omega)).sF (by omega) (by omega), gI_sFs _ _ _ _, by rw [gI_sFk (by omega), gI_sFk (by omega)]; exact hM.2.2⟩
    have hGj := hc.1 j (Nat.le_refl _)
    have ef := h1 j W (R j) (N j) (M j) hj hMW hGj
    cases hgo : go (R j) (N j) with
    | false =>
      rw [hgo, cnd_f] at ef
      exact ⟨_, ef, j, R, N, M, f, by rw [eW], h0, hc, by omega, hg, fun _ => hgo⟩
    | true =>
      rw [hgo, cnd_t] at ef
      obtain ⟨f2, r2, n2, m2, e2, hk2, hG2⟩ := r_ticks hMW.1 hS (by omega : t + j < 2 ^ 31) (by rw [hMW.2.1]; exact hGj)
      rw [hMW.2.1, hMW.2.2] at hk2
      rw [e2, bd_t] at ef
      have eF : sF (sF W 58 0 f2) 52 0 r2 = sF (sF W0 58 0 f2) 52 0 r2 := by
        rw [eW]
        have : (fun a b c => if a = 52 ∧ b = 0 then r2 c else (if a = 58 ∧ b = 0 then f2 c else (if a = 52 ∧ b = 0 then R j c else (if a = 58 ∧ b = 0 then f c else W0.1.1 a b c)))) = (fun a b c => if a = 52 ∧ b = 0 then r2 c else (if a = 58 ∧ b = 0 then f2 c else W0.1.1 a b c)) := by
          funext a b c
          by_cases z : a = 52 ∧ b = 0
          · rw [if_pos z, if_pos z]
          · rw [if_neg z, if_neg z]
            by_cases z2 : a = 58 ∧ b = 0
            · rw [if_pos z2, if_neg z, if_pos z2]
            · rw [if_neg z2, if_neg z, if_neg z2, if_neg z2]
        exact congrArg (fun g => ((g, W0.1.2), W0.2)) this
      rw [eF] at ef
      refine ⟨_, ef, rfl, fun i => if i ≤ j then R i else r2, fun i => if i ≤ j then N i else n2, fun i => if i ≤ j then M i else m2, f2, ?_, ⟨?_, ?_, ?_⟩, hc.snoc hG2 hk2, fun i hi => ?_⟩
      · show sF (sF W0 58 0 f2) 52 0 r2 = sF (sF W0 58 0 f2) 52 0 (if j + 1 ≤ j then R (j + 1) else r2)
        rw [if_neg (by omega)]
      · exact (if_pos (Nat.zero_le _)).trans h0.1
      · exact (if_pos (Nat.zero_le _)).trans h0.2.1
      · exact (if_pos (Nat.zero_le _)).trans h0.2.2
      · show go (if i ≤ j then R i else r2) (if i ≤ j then N i else n2) = true
        rw [if_pos (by omega), if_pos (by omega)]
        by_cases c : i = j
        · rw [c]; exact hgo
        · exact hg i (by omega)
  · rintro ⟨l, W⟩ ⟨e, R, N, M, f, eW, h0, hc, hg⟩
    have e : l = nI lim := e
    subst e
    have eW : W = sF (sF W0 58 0 f) 52 0 (R lim) := eW
    have hMW : ML W P (R lim) := by
      rw [eW]
      exact ⟨(hM.1.sF (by omega) (by omega)).sF (by omega) (by omega), gI_sFs _ _ _ _, by rw [gI_sFk (by omega), gI_sFk (by omega)]; exact hM.2.2⟩
    exact ⟨_, h2 W (R lim) (N lim) (M lim) hMW (hc.1 lim (Nat.le_refl _)), lim, R, N, M, f, by rw [eW], h0, hc, Nat.le_refl _, hg, fun z => by omega⟩
  · refine ⟨rfl, fun _ => r, fun _ => n, fun _ => m, gI W0.1 58 0, ?_, ⟨rfl, rfl, rfl⟩, Chn.z hG, fun i hi => by omega⟩
    show W0 = sF (sF W0 58 0 (gI W0.1 58 0)) 52 0 r
    rw [sF_self, ← hM.2.1, sF_self]
/-- one tick of the class along the road -/
theorem c_step {W : Sm} {P : Pm} {tu ro t s j i : Nat} {R : Nat → Nat → Int32} {N M : Nat → Nat} (h3 : 0 < P.1 ∧ P.1 ≤ 5 ∧ 0 < P.2.1 ∧ P.2.1 ≤ 8) (hW : WI P) (hS : SetI P tu ro) (hs : s ≤ 1000) (ht : t + j ≤ 1000000) (hc : Chn P tu ro t s j R N M) (hi : i < j) (hR : CR W 1 P (R i) (N i) (M i)) : ∃ Z, fn_86 1 W = some ((), Z) ∧ Fr (SS 1) W Z ∧ CR Z 1 P (R (i + 1)) (N (i + 1)) (M (i + 1)) := by
  have hG := hc.1 i (by omega)
  have hm : M i + 1 ≤ 1001 := by have := hG.2.1; omega
  have hb : (M i + 1) * (t + i) ≤ 1001 * 1000000 := Nat.mul_le_mul hm (by omega)
  exact c_86 h3 hW hS hG (by omega) (by omega) hR (hc.2 i hi)
/-- a tick more, with no road told -/
theorem c_more {W Y : Sm} {P : Pm} {tu ro t n m s : Nat} {r : Nat → Int32} (hM : ML Y P r) (h3 : 0 < P.1 ∧ P.1 ≤ 5 ∧ 0 < P.2.1 ∧ P.2.1 ≤ 8) (hW : WI P) (hS : SetI P tu ro) (hs : s ≤ 1000) (ht : t ≤ 1000000) (hG : GR P r t n m s) (hR : CR W 1 P r n m) : ∃ Z, fn_86 1 W = some ((), Z) ∧ Fr (SS 1) W Z := by
  obtain ⟨f2, r2, n2, m2, e2, hk2, hG2⟩ := r_ticks hM.1 hS (by omega : t < 2 ^ 31) (by rw [hM.2.1]; exact hG)
  rw [hM.2.1, hM.2.2] at hk2
  have hm : m + 1 ≤ 1001 := by have := hG.2.1; omega
  have hb : (m + 1) * t ≤ 1001 * 1000000 := Nat.mul_le_mul hm ht
  obtain ⟨Z, e, f, _⟩ := c_86 h3 hW hS hG (by omega) (by omega) hR hk2
  exact ⟨Z, e, f⟩
theorem ML.row {W : Sm} {P : Pm} {r r1 : Nat → Int32} (h : ML W P r) : ML (sF W 52 0 r1) P r1 := ⟨h.1.sF (by omega) (by omega), gI_sFs _ _ _ _, by rw [gI_sFk (by omega)]; exact h.2.2⟩
theorem ML.s55 {W : Sm} {P : Pm} {r f : Nat → Int32} (h : ML W P r) : ML (sF W 55 0 f) P r := ⟨h.1.sF (by omega) (by omega), by rw [gI_sFk (by omega)]; exact h.2.1, by rw [gI_sFk (by omega)]; exact h.2.2⟩
/-! emptyIn -/
def goE (_r : Nat → Int32) (n : Nat) : Bool := decide (0 < n)
theorem ok_45 {Y : Sm} {c : Nat} (hc : c < 600) (h : RR Y c) : Sok fn_149 fn_267 Y c := by
  obtain ⟨P, tu, ro, u, pos, b, h⟩ := h
  have h3 := h.1.a8
  obtain ⟨e0, t, n, m, s, hR, hG, ht, hs, hN⟩ := h.cl
  refine s_qT (fun v => ∃ j R N M, Unt P tu ro t s n m 1000 (gI Y.1 52 0) goE j R N M ∧ v = (if 0 < N j then (-1 : Int32) else nI j)) h (fun W hq e => ?_) ?_
  · have hT := (h.mw hq e).told (v := nI 0)
    have k1 : ∀ j W q n' m', j < 1000 → ML W P q → GR P q (t + j) n' m' s → fn_267_L11 (nI j) W = cond (goE q n') (bd (fn_205 W) fun _ Y => some (.inl (nI (j + 1), Y))) (some (.inr (.inl (nI j, W)))) := fun j W q n' m' hj hW hGq => by
      have hn := hGq.2.1.1
      simp only [fn_267_L11]
      rw [iteI_le_f hj (by omega), hW.2.1, hGq.1.2.1, nI_add]
      unfold goE
      rcases Nat.lt_or_ge 0 n' with g | g
      · rw [iteI_le_f g (by omega), decide_eq_true g, cnd_t]
      · rw [iteI_le_t g (by omega), decide_eq_false (by omega), cnd_f]
    have k2 : ∀ W q n' m', ML W P q → GR P q (t + 1000) n' m' s → fn_267_L11 (nI 1000) W = some (.inr (.inl (nI 1000, W))) := fun W q n' m' hW hGq => by
      simp only [fn_267_L11]
      rw [iteI_le_t (by omega) (by omega)]
    obtain ⟨j, R, N, M, f, el, hU⟩ := r_until (F := fun s => fn_267_L11 s.1 s.2) (lim := 1000) (go := goE) (hT.s55 (f := cpy (gI Y.1 52 0) (gI W.1 55 0))) h.1.2.2.1 (by omega) (by omega) hG k1 k2
    · have hGj := hU.2.1.1 j (Nat.le_refl _)
      obtain ⟨Z, eZ, qZ, z48⟩ := r_back (W := sI W 48 0 0 (nI 0)) (r := gI Y.1 52 0) (X := sF (sF (sF (sI W 48 0 0 (nI 0)) 55 0 (cpy (gI Y.1 52 0) (gI W.1 55 0))) 58 0 f) 52 0 (R j)) hT.2.1 ⟨f, R j, by rw [gI_sIk (by omega)]⟩ (if 0 < N j then (-1 : Int32) else nI j)
      refine ⟨_, ⟨j, R, N, M, hU, rfl⟩, nI 0, Z, ?_, QM.told.tr qZ, by rw [z48, gI_sIv, upd_at]⟩
      unfold fn_267
      rw [wr_t, r_176, bd_t, hT.2.1, gI_sIk (by omega), el, exd_l]
      unfold fn_267_J39
      have hn := hGj.2.1.1
      rw [gI_sFs, hGj.1.2.1]
      rcases Nat.lt_or_ge 0 (N j) with g | g
      · rw [iteI_le_f g (by omega)]
        rw [if_pos g] at eZ ⊢
        rw [eZ, bd_t]
      · rw [iteI_le_t g (by omega)]
        rw [if_neg (by omega)] at eZ ⊢
        rw [eZ, bd_t]
  · rintro v ⟨j, R, N, M, ⟨⟨r0, n0, m0⟩, hch, hj, hg, hg2⟩, rfl⟩
    obtain ⟨Z, eZ, qZ, cZ⟩ := h.try hR hG
    rw [← r0, ← n0, ← m0] at cZ
    have key := Ok_lp (F := fun s => fn_149_L13 s.1 s.2) (Q := fun x => ∃ Z2, x = (if 0 < N j then (-1 : Int32) else nI j, Z2) ∧ QC Z Z2) (fun i x => (i ≤ j ∧ x.1 = nI i ∧ QC Z x.2 ∧ CR x.2 1 P (R i) (N i) (M i)) ∨ (i = 1001 ∧ j = 1000 ∧ 0 < N j ∧ x.1 = nI 1001 ∧ QC Z x.2)) 1001 (N := FU) (FU_lt (by omega)) (s := (nI 0, Z)) ?_ ?_ ?_
    · obtain ⟨x, ex, Z2, rfl, q2⟩ := key
      refine ⟨Z2, ?_, qZ.tr q2⟩
      unfold fn_149
      rw [eZ, bd_t, ex]
    · rintro i ⟨l, W⟩ hi (⟨hij, el, hq, hW⟩ | ⟨z, _⟩)
      · have el : l = nI i := el
        subst el
        have hW : CR W 1 P (R i) (N i) (M i) := hW
        have hq : QC Z W := hq
        have hGi := hch.1 i hij
        have hn := hGi.2.1.1
        have e12 : gI W.1 12 4 1 = nI (N i) := hW.q.1.1.trans hGi.1.2.1
        rcases Nat.lt_or_ge 0 (N i) with g | g
        · by_cases d : i = j
          · subst d
            have hi2 : i = 1000 := by
              rcases Nat.lt_or_ge i 1000 with w | w
              · have := hg2 w
                unfold goE at this
                rw [decide_eq_true g] at this
                cases this
              · omega
            obtain ⟨Z2, e2, f2⟩ := c_more (h.ml.row (r1 := R i)) h3 h.1.2.1 h.1.2.2.1 (by omega) (by omega) hGi hW
            refine ⟨.inl (nI (i + 1), Z2), ?_, Or.inr ⟨by omega, hi2, g, by rw [hi2], hq.tr (QC.s1 f2)⟩⟩
            simp only [fn_149_L13]
            rw [iteI_lt_f (by omega) (by omega), e12, iteI_eq_f (by omega) (by omega) (by omega), e2, bd_t, nI_add]
          · obtain ⟨Z2, e2, f2, c2⟩ := c_step h3 h.1.2.1 h.1.2.2.1 (by omega) (by omega) hch (by omega : i < j) hW
            refine ⟨.inl (nI (i + 1), Z2), ?_, Or.inl ⟨by omega, rfl, hq.tr (QC.s1 f2), c2⟩⟩
            simp only [fn_149_L13]
            rw [iteI_lt_f (by omega) (by omega), e12, iteI_eq_f (by omega) (by omega) (by omega), e2, bd_t, nI_add]
        · have hij2 : i = j := by
            by_cases d : i = j
            · exact d
            · have := hg i (by omega)
              unfold goE at this
              rw [decide_eq_false (by omega)] at this
              cases this
          subst hij2
          refine ⟨.inr (nI i, W), ?_, W, by rw [if_neg (by omega)], hq⟩
          simp only [fn_149_L13]
          rw [iteI_lt_f (by omega) (by omega), e12, iteI_eq_t (by omega)]
      · omega
    · rintro ⟨l, W⟩ (⟨hij, _⟩ | ⟨_, hj2, g, el, hq⟩)
      · omega
      · have el : l = nI 1001 := el
        subst el
        refine ⟨.inr ((-1 : Int32), W), ?_, W, by rw [if_pos g], hq⟩
        simp only [fn_149_L13]
        rw [iteI_lt_t (by omega) (by omega)]
    · exact Or.inl ⟨Nat.zero_le _, rfl, QC.rf, cZ⟩
/-! silentIn -/
def goS (P : Pm) (a : Nat) (r : Nat → Int32) (_n : Nat) : Bool := decide (r (36 + a) < P.2.2.1 4)
theorem ok_44 {Y : Sm} {c : Nat} (hc : c < 600) (a : Int32) (h : RR Y c) : Cok (fn_332 a) (fn_266 a) Y c := by
  obtain ⟨P, tu, ro, u, pos, b, h⟩ := h
  have h3 := h.1.a8
  obtain ⟨e0, t, n, m, s, hR, hG, ht, hs, hN⟩ := h.cl
  cases hb : inb a P.2.1 with
  | false =>
    refine w_exc (F := fn_148 a) (x := 0) (k := nI 1) h rfl (by decide) (fun _ => if_pos rfl) ⟨Y, ?_, QC.rf⟩ (fun W hq e => ⟨nI 0, sI W 48 0 0 (nI 1), ?_, QM.told, told_at⟩)
    · unfold fn_148
      rw [h.c154, hb, cnd_f, bx_r]
    · unfold fn_266
      rw [(h.mw hq e).ask, hb, bd_t, g_is, cnd_f]
  | true =>
  obtain ⟨a, ha, rfl⟩ := inb_of hb (by omega)
  refine w_valT (F := fn_148 (nI a)) (fun v => ∃ j R N M, Unt P tu ro t s n m 1000 (gI Y.1 52 0) (goS P a) j R N M ∧ v = (if goS P a (R j) (N j) = true then (-1 : Int32) else nI j)) h rfl (fun W hq e => ?_) ?_
  · have hT := (h.mw hq e).told (v := nI 0)
    have k1 : ∀ j W q n' m', j < 1000 → ML W P q → GR P q (t + j) n' m' s → fn_266_L20 (nI a) (nI j) W = cond (goS P a q n') (bd (fn_205 W) fun _ Y => some (.inl (nI (j + 1), Y))) (some (.inr (.inl (nI j, W)))) := fun j W q n' m' hj hW hGq => by
      simp only [fn_266_L20]
      rw [iteI_le_f hj (by omega), hW.counts ha, bd_t, bI_0, nI_add]
      rfl
    have k2 : ∀ W q n' m', ML W P q → GR P q (t + 1000) n' m' s → fn_266_L20 (nI a) (nI 1000) W = some (.inr (.inl (nI 1000, W))) := fun W q n' m' hW hGq => by
      simp only [fn_266_L20]
      rw [iteI_le_t (by omega) (by omega)]
    obtain ⟨j, R, N, M, f, el, hU⟩ := r_until (F := fun s => fn_266_L20 (nI a) s.1 s.2) (lim := 1000) (go := goS P a) (hT.s55 (f := cpy (gI Y.1 52 0) (gI W.1 55 0))) h.1.2.2.1 (by omega) (by omega) hG k1 k2
    · have hGj := hU.2.1.1 j (Nat.le_refl _)
      have hX : ML (sF (sF (sF (sI W 48 0 0 (nI 0)) 55 0 (cpy (gI Y.1 52 0) (gI W.1 55 0))) 58 0 f) 52 0 (R j)) P (R j) := ⟨((hT.1.sF (by omega) (by omega)).sF (by omega) (by omega)).sF (by omega) (by omega), gI_sFs _ _ _ _, by rw [gI_sFk (by omega), gI_sFk (by omega), gI_sFk (by omega)]; exact hT.2.2⟩
      obtain ⟨Z, eZ, qZ, z48⟩ := r_back (W := sI W 48 0 0 (nI 0)) (r := gI Y.1 52 0) (X := sF (sF (sF (sI W 48 0 0 (nI 0)) 55 0 (cpy (gI Y.1 52 0) (gI W.1 55 0))) 58 0 f) 52 0 (R j)) hT.2.1 ⟨f, R j, by rw [gI_sIk (by omega)]⟩ (if goS P a (R j) (N j) = true then (-1 : Int32) else nI j)
      refine ⟨_, ⟨j, R, N, M, hU, rfl⟩, Z, ?_, QM.told.tr qZ, by rw [z48, gI_sIv, upd_at]⟩
      unfold fn_266
      rw [(h.mw hq e).ask, hb, bd_t, g_is, cnd_t, r_176, bd_t, hT.2.1, gI_sIk (by omega), el, exd_l]
      unfold fn_266_J46
      rw [hX.counts ha, bd_t, bI_0]
      show cond (goS P a (R j) (N j)) _ _ = _
      cases g : goS P a (R j) (N j) with
      | true =>
        rw [g, if_pos rfl] at eZ
        rw [cnd_t, eZ, bd_t, if_pos rfl]
      | false =>
        rw [g, if_neg (by decide)] at eZ
        rw [cnd_f, eZ, bd_t, if_neg (by decide)]
  · rintro v ⟨j, R, N, M, ⟨⟨r0, n0, m0⟩, hch, hj, hg, hg2⟩, rfl⟩
    obtain ⟨Z, eZ, qZ, cZ⟩ := h.try hR hG
    rw [← r0, ← n0, ← m0] at cZ
    have key := Ok_lp (F := fun s => fn_148_L18_1 (nI a) s.1 s.2) (Q := fun x => ∃ Z2, x = (.inl (if goS P a (R j) (N j) = true then (-1 : Int32) else nI j), Z2) ∧ QC Z Z2) (fun i x => (i ≤ j ∧ x.1 = nI i ∧ QC Z x.2 ∧ CR x.2 1 P (R i) (N i) (M i)) ∨ (i = 1001 ∧ j = 1000 ∧ goS P a (R j) (N j) = true ∧ x.1 = nI 1001 ∧ QC Z x.2)) 1001 (N := FU) (FU_lt (by omega)) (s := (nI 0, Z)) ?_ ?_ ?_
    · obtain ⟨x, ex, Z2, rfl, q2⟩ := key
      refine ⟨Z2, ?_, qZ.tr q2⟩
      unfold fn_148
      rw [h.c154, hb, cnd_t, bx_l, eZ, bd_t, ex]
    · rintro i ⟨l, W⟩ hi (⟨hij, el, hq, hW⟩ | ⟨z, _⟩)
      · have el : l = nI i := el
        subst el
        have hW : CR W 1 P (R i) (N i) (M i) := hW
        have hq : QC Z W := hq
        have hGi := hch.1 i hij
        have e73 : fn_73 1 (nI a) W = some (bI (goS P a (R i) (N i)), W) := c_73 (hW.pv h3) ha
        cases g : goS P a (R i) (N i) with
        | true =>
          rw [g] at e73
          by_cases d : i = j
          · subst d
            have hi2 : i = 1000 := by
              rcases Nat.lt_or_ge i 1000 with w | w
              · have := hg2 w
                rw [g] at this
                cases this
              · omega
            obtain ⟨Z2, e2, f2⟩ := c_more (h.ml.row (r1 := R i)) h3 h.1.2.1 h.1.2.2.1 (by omega) (by omega) hGi hW
            refine ⟨.inl (nI (i + 1), Z2), ?_, Or.inr ⟨by omega, hi2, g, by rw [hi2], hq.tr (QC.s1 f2)⟩⟩
            simp only [fn_148_L18_1]
            rw [iteI_lt_f (by omega) (by omega), e73, bd_t, bI_0, cnd_t, e2, bd_t, nI_add]
          · obtain ⟨Z2, e2, f2, c2⟩ := c_step h3 h.1.2.1 h.1.2.2.1 (by omega) (by omega) hch (by omega : i < j) hW
            refine ⟨.inl (nI (i + 1), Z2), ?_, Or.inl ⟨by omega, rfl, hq.tr (QC.s1 f2), c2⟩⟩
            simp only [fn_148_L18_1]
            rw [iteI_lt_f (by omega) (by omega), e73, bd_t, bI_0, cnd_t, e2, bd_t, nI_add]
        | false =>
          rw [g] at e73
          have hij2 : i = j := by
            by_cases d : i = j
            · exact d
            · have := hg i (by omega)
              rw [g] at this
              cases this
          subst hij2
          refine ⟨.inr (.inl (nI i), W), ?_, W, by rw [g, if_neg (by decide)], hq⟩
          simp only [fn_148_L18_1]
          rw [iteI_lt_f (by omega) (by omega), e73, bd_t, bI_0, cnd_f]
      · omega
    · rintro ⟨l, W⟩ (⟨hij, _⟩ | ⟨_, hj2, g, el, hq⟩)
      · omega
      · have el : l = nI 1001 := el
        subst el
        refine ⟨.inr (.inl (-1 : Int32), W), ?_, W, by rw [g, if_pos rfl], hq⟩
        simp only [fn_148_L18_1]
        rw [iteI_lt_t (by omega) (by omega)]
    · exact Or.inl ⟨Nat.zero_le _, rfl, QC.rf, cZ⟩
/-! answeredIn -/
def goA (x : Int32) (r : Nat → Int32) (n : Nat) : Bool := !decide (sres (fun j => decide (rq r j 0 = x)) n = (-1 : Int32))
theorem goA_t {x : Int32} {r : Nat → Int32} {n : Nat} (h : goA x r n = true) : ¬ sres (fun j => decide (rq r j 0 = x)) n = (-1 : Int32) := by
  unfold goA at h
  rw [Bool.not_eq_true'] at h
  exact of_decide_eq_false h
theorem goA_f {x : Int32} {r : Nat → Int32} {n : Nat} (h : goA x r n = false) : sres (fun j => decide (rq r j 0 = x)) n = (-1 : Int32) := by
  unfold goA at h
  rw [Bool.not_eq_false'] at h
  exact of_decide_eq_true h
theorem ok_39 {Y : Sm} {c : Nat} (hc : c < 600) (a w : Int32) (h : RR Y c) : Cok (fn_327 a w) (fn_259 a w) Y c := by
  obtain ⟨P, tu, ro, u, pos, b, h⟩ := h
  have h3 := h.1.a8
  obtain ⟨e0, t, n, m, s, hR, hG, ht, hs, hN⟩ := h.cl
  have hn40 := hG.2.1.1
  have e158 := c_158 hR.q hG.1.2.1 hn40 a
  cases hb : (inb w 501 && !decide (w = nI 0)) with
  | false =>
    refine w_exc (F := fn_143 a w) (x := 1) (k := nI 1) h rfl (by decide) (fun _ => if_pos rfl) ⟨Y, ?_, QC.rf⟩ (fun W hq e => ⟨nI 0, sI W 48 0 0 (nI 1), ?_, QM.told, told_at⟩)
    · unfold fn_143
      rw [c_157 (by omega), hb, cnd_f, bx_r]
    · unfold fn_259
      rw [r_areTicks, hb, bd_t, g_is, cnd_f]
  | true =>
  obtain ⟨k, hk, rfl⟩ := tk_in hb (by omega)
  cases hgo : goA a (gI Y.1 52 0) n with
  | false =>
    have es := goA_f hgo
    rw [es, if_pos rfl] at e158
    refine w_exc (F := fn_143 a (nI k)) (x := 3) (k := nI 2) h rfl (by decide) (fun _ => (if_neg (by decide)).trans (if_pos rfl)) ⟨Y, ?_, QC.rf⟩ (fun W hq e => ⟨nI 0, sI (sI W 48 0 0 (nI 0)) 48 0 0 (nI 2), ?_, QM.told.tr QM.told, told_at⟩)
    · unfold fn_143
      rw [c_157 (by omega), hb, cnd_t, bx_l, e158, bx_r]
    · unfold fn_259 fn_259_J26
      rw [r_areTicks, hb, bd_t, g_is, cnd_t, (h.mw hq e).told.idx hG, bd_t, es, if_pos rfl, g_may0]
  | true =>
  have es := goA_t hgo
  rw [if_neg es] at e158
  refine w_valT (F := fn_143 a (nI k)) (fun v => ∃ j R N M, Unt P tu ro t s n m k (gI Y.1 52 0) (goA a) j R N M ∧ v = (if goA a (R j) (N j) = true then (-1 : Int32) else nI j)) h rfl (fun W hq e => ?_) ?_
  · have hT := ((h.mw hq e).told (v := nI 0)).told (v := nI 0)
    have k1 : ∀ j W q n' m', j < k → ML W P q → GR P q (t + j) n' m' s → fn_259_L41 a (nI k) (nI j) W = cond (goA a q n') (bd (fn_205 W) fun _ Y => some (.inl (nI (j + 1), Y))) (some (.inr (.inl (nI j, W)))) := fun j W q n' m' hj hW hGq => by
      simp only [fn_259_L41]
      rw [iteI_le_f hj (by omega), hW.idx hGq, bd_t, nI_add]
      cases g : goA a q n' with
      | true => rw [if_neg (goA_t g), cnd_t]
      | false => rw [if_pos (goA_f g), cnd_f]
    have k2 : ∀ W q n' m', ML W P q → GR P q (t + k) n' m' s → fn_259_L41 a (nI k) (nI k) W = some (.inr (.inl (nI k, W))) := fun W q n' m' hW hGq => by
      simp only [fn_259_L41]
      rw [iteI_le_t (by omega) (by omega)]
    obtain ⟨j, R, N, M, f, el, hU⟩ := r_until (F := fun s => fn_259_L41 a (nI k) s.1 s.2) (lim := k) (go := goA a) (hT.s55 (f := cpy (gI Y.1 52 0) (gI W.1 55 0))) h.1.2.2.1 (by omega) (by omega) hG k1 k2
    · have hGj := hU.2.1.1 j (Nat.le_refl _)
      have hX : ML (sF (sF (sF (sI (sI W 48 0 0 (nI 0)) 48 0 0 (nI 0)) 55 0 (cpy (gI Y.1 52 0) (gI W.1 55 0))) 58 0 f) 52 0 (R j)) P (R j) := ⟨((hT.1.sF (by omega) (by omega)).sF (by omega) (by omega)).sF (by omega) (by omega), gI_sFs _ _ _ _, by rw [gI_sFk (by omega), gI_sFk (by omega), gI_sFk (by omega)]; exact hT.2.2⟩
      obtain ⟨Z, eZ, qZ, z48⟩ := r_back (W := sI (sI W 48 0 0 (nI 0)) 48 0 0 (nI 0)) (r := gI Y.1 52 0) (X := sF (sF (sF (sI (sI W 48 0 0 (nI 0)) 48 0 0 (nI 0)) 55 0 (cpy (gI Y.1 52 0) (gI W.1 55 0))) 58 0 f) 52 0 (R j)) hT.2.1 ⟨f, R j, by rw [gI_sIk (by omega), gI_sIk (by omega)]⟩ (if goA a (R j) (N j) = true then (-1 : Int32) else nI j)
      refine ⟨_, ⟨j, R, N, M, hU, rfl⟩, Z, ?_, (QM.told.tr QM.told).tr qZ, by rw [z48, gI_sIv, upd_at]⟩
      unfold fn_259 fn_259_J26
      rw [r_areTicks, hb, bd_t, g_is, cnd_t, (h.mw hq e).told.idx hG, bd_t, if_neg es, g_may1, r_176, bd_t, hT.2.1, gI_sIk (by omega), gI_sIk (by omega), el, exd_l]
      unfold fn_259_J66 fn_259_J80
      rw [hX.idx hGj, bd_t]
      cases g : goA a (R j) (N j) with
      | true =>
        rw [g, if_pos rfl] at eZ
        rw [if_neg (goA_t g), if_neg (by decide), eZ, bd_t, if_pos rfl]
      | false =>
        rw [g, if_neg (by decide)] at eZ
        rw [if_pos (goA_f g), if_pos rfl, eZ, bd_t, if_neg (by decide)]
  · rintro v ⟨j, R, N, M, ⟨⟨r0, n0, m0⟩, hch, hj, hg, hg2⟩, rfl⟩
    have hj1 : 1 ≤ j := by
      rcases Nat.eq_zero_or_pos j with z | z
      · subst z
        have := hg2 (by omega)
        rw [r0, n0, hgo] at this
        cases this
      · exact z
    obtain ⟨Z, eZ, qZ, cZ⟩ := h.try hR hG
    rw [← r0, ← n0, ← m0] at cZ
    have key := Ok_lp (F := fun s => fn_143_L27_2 a (nI k) s.1 s.2) (Q := fun x => ∃ Z2, x = (.inl (if goA a (R j) (N j) = true then (-1 : Int32) else nI j), Z2) ∧ QC Z Z2) (fun i x => x.1 = nI (i + 1) ∧ QC Z x.2 ∧ i ≤ j ∧ CR x.2 1 P (R i) (N i) (M i) ∧ (i = j → goA a (R j) (N j) = true)) k (N := FU) (FU_lt (by omega)) (s := (nI 1, Z)) ?_ ?_ ?_
    · obtain ⟨x, ex, Z2, rfl, q2⟩ := key
      refine ⟨Z2, ?_, qZ.tr q2⟩
      unfold fn_143
      rw [c_157 (by omega), hb, cnd_t, bx_l, e158, bx_l, eZ, bd_t, ex]
    · rintro i ⟨l, W⟩ hi ⟨el, hq, hij, hW, hij2⟩
      have el : l = nI (i + 1) := el
      subst el
      have hW : CR W 1 P (R i) (N i) (M i) := hW
      have hq : QC Z W := hq
      have hlt : i < j := by
        by_cases d : i = j
        · have := hij2 d
          rw [hg2 (by omega)] at this
          cases this
        · omega
      obtain ⟨Z2, e2, f2, c2⟩ := c_step h3 h.1.2.1 h.1.2.2.1 (by omega) (by omega) hch hlt hW
      have hG1 := hch.1 (i + 1) (by omega)
      have hn1 := hG1.2.1.1
      have e38 : fn_38 4 a Z2 = _ := c_38 (n := 1) c2.q hG1.1.2.1 hn1
      cases g : goA a (R (i + 1)) (N (i + 1)) with
      | true =>
        refine ⟨.inl (nI (i + 1 + 1), Z2), ?_, rfl, hq.tr (QC.s1 f2), hlt, c2, fun d => by rw [← d]; exact g⟩
        simp only [fn_143_L27_2]
        rw [iteI_lt_f (by omega) (by omega), e2, bd_t, e38, bd_t, if_neg (goA_t g), nI_add]
      | false =>
        have ej : i + 1 = j := by
          by_cases d : i + 1 = j
          · exact d
          · have := hg (i + 1) (by omega)
            rw [g] at this
            cases this
        refine ⟨.inr (.inl (nI (i + 1)), Z2), ?_, Z2, by rw [← ej, g, if_neg (by decide)], hq.tr (QC.s1 f2)⟩
        simp only [fn_143_L27_2]
        rw [iteI_lt_f (by omega) (by omega), e2, bd_t, e38, bd_t, if_pos (goA_f g)]
    · rintro ⟨l, W⟩ ⟨el, hq, hij, hW, hij2⟩
      have el : l = nI (k + 1) := el
      subst el
      have ej : k = j := by omega
      refine ⟨.inr (.inl (-1 : Int32), W), ?_, W, by rw [hij2 ej, if_pos rfl], hq⟩
      simp only [fn_143_L27_2]
      rw [iteI_lt_t (by omega) (by omega)]
    · exact ⟨rfl, QC.rf, Nat.zero_le _, cZ, fun d => by omega⟩
