/-! the middle order, the best ballot -/
theorem pm_vl : ∀ C, C < 6 → ∀ i, i < nC C → vlN (pm C i) C = eC C i := by decide +kernel
def fI (C i : Nat) : Nat → Int32 := fun q => nI (pm C i q)
theorem OrdI.cg {f f' : Nat → Int32} {C : Nat} (h : OrdI f C) (e : ∀ q, q < C → f' q = f q) : OrdI f' C := by
  refine ⟨fun k hk => ?_, fun p hp => ?_⟩
  · obtain ⟨p, hp, q⟩ := h.1 k hk
    exact ⟨p, hp, (e p hp).trans q⟩
  · rw [e p hp]; exact h.2 p hp
theorem fI_ord {C i : Nat} (hC : C ≤ 5) (hi : i < nC C) : OrdI (fI C i) C := by
  obtain ⟨h1, h2⟩ := eC_isB C (by omega) i hi
  exact (isB_ord hC h1).cg (fun q hq => (h2 q hq).symm)
theorem r_252 {W : Sm} {P : Pm} (hM : MP W P) : fn_252 W = some (nI (10 ^ P.1), W) := by
  have h3 := hM.2.2.1
  unfold fn_252
  refine lp_run (fun j => (nI (10 ^ j), nI j, W)) P.1 (FU_lt (by omega)) (fun j hj => ?_) ?_ rfl
  · simp only [fn_252_L4, hM.1]
    rw [iteI_le_f hj (by omega), pk_mul, nI_add]
    rfl
  · simp only [fn_252_L4, hM.1]
    rw [iteI_le_t (Nat.le_refl _) (by omega)]
def mnN (xf : Nat → Nat) : Nat → Nat
  | 0 => xf 0
  | j + 1 => if xf (j + 1) < mnN xf j then xf (j + 1) else mnN xf j
def miN (xf : Nat → Nat) : Nat → Nat
  | 0 => 0
  | j + 1 => if xf (j + 1) < mnN xf j then j + 1 else miN xf j
theorem mnN_b {xf : Nat → Nat} {b : Nat} (h : ∀ j, xf j ≤ b) : ∀ j, mnN xf j ≤ b := by
  intro j
  induction j with
  | zero => exact h 0
  | succ j ih =>
    unfold mnN
    by_cases c : xf (j + 1) < mnN xf j
    · rw [if_pos c]; exact h _
    · rw [if_neg c]; exact ih
theorem miN_le (xf : Nat → Nat) : ∀ j, miN xf j ≤ j := by
  intro j
  induction j with
  | zero => exact Nat.le_refl _
  | succ j ih =>
    unfold miN
    by_cases c : xf (j + 1) < mnN xf j
    · rw [if_pos c]; exact Nat.le_refl _
    · rw [if_neg c]; omega
theorem c_adv {X : Sm} {C i : Nat} (h0 : 0 < C) (hC : C ≤ 5) (hi : i < nC C) (h : ∀ q, q < C → gI X.1 46 0 q = fI C i q) : ∃ f', fn_47 (nI C) X = some (bI (decide (i + 1 < nC C)), sF X 46 0 f') ∧ (i + 1 < nC C → ∀ q, q < C → f' q = fI C (i + 1) q) := by
  obtain ⟨f', e, h2⟩ := c_47 (Y := X) (f := gI X.1 46 0) (g := pm C i) h0 hC h (fun q hq => by have := pm_lt C (by omega) i hi q hq; omega)
  obtain ⟨a1, a2⟩ := pm_adv C (by omega) i hi
  rw [sF_self, a1] at e
  refine ⟨f', e, fun hi1 q hq => ?_⟩
  rw [h2 q hq, a2 q hq hi1]
  rfl
theorem bI_ne0 {b : Bool} : (bI b = nI 0) ↔ b = false := by cases b <;> decide
theorem ok_25 {Y : Sm} {c : Nat} (a : Int32) (h : RR Y c) : Cok (fn_315 a) (fn_253 a) Y c := by
  obtain ⟨P, tu, ro, u, pos, b, h⟩ := h
  have h3 := h.1.a8
  have hN := h.pn
  obtain ⟨e0, t, n, m, s, hR, hG, _⟩ := h.cl
  have hB := hN.2.1
  have hC5 := h3.2.1
  cases hb : inb a P.1 with
  | false =>
    refine w_exc (F := fn_129 a) (x := 0) (k := nI 1) h rfl (by decide) (fun _ => if_pos rfl) ⟨Y, ?_, QC.rf⟩ (fun W hq e => ⟨nI 0, sI W 48 0 0 (nI 1), ?_, QM.told, told_at⟩)
    · unfold fn_129
      rw [h.c155, hb, cnd_f, bx_r]
    · unfold fn_253
      rw [(h.mw hq e).cls, hb, bd_t, g_is, cnd_f]
  | true =>
  obtain ⟨x, hx, rfl⟩ := inb_of hb (by omega)
  obtain ⟨w, hw⟩ := WI_w h.1.2.1
  have hw2 := fun a ha => (hw a ha).2
  have hNC := nC_pos P.1 (by omega) h3.1
  have hNl := nC_le P.1 (by omega)
  generalize hxf : (fun i => dsN P.1 P.2.1 (hdS P (gI Y.1 52 0) (-1 : Int32)) w (fun a => plx (fI P.1 i) (bal (gI Y.1 52 0) a) P.1)) = xf
  have xfi : ∀ i, dsN P.1 P.2.1 (hdS P (gI Y.1 52 0) (-1 : Int32)) w (fun a => plx (fI P.1 i) (bal (gI Y.1 52 0) a) P.1) = xf i := fun i => by rw [← hxf]
  have xfb : ∀ i, xf i ≤ 20000 := fun i => by rw [← xfi]; exact ds_le hC5 h3.2.2.2 (fun a ha => (hw a ha).1.2)
  have mb := mnN_b xfb
  have mi := miN_le xf (nC P.1 - 1)
  have hpm := pm_lt P.1 (by omega) (miN xf (nC P.1 - 1)) (by omega) x hx
  refine w_val (F := fn_129 (nI x)) (v := nI (pm P.1 (miN xf (nC P.1 - 1)) x)) h rfl ?_ (fun W hq e => ?_)
  · obtain ⟨Z, eZ, qZ, fZ, pZ⟩ := h.poll (-1 : Int32)
    have key := Ok_lp (F := fun s => fn_129_L31_1 (nI x) s.1 s.2.1 s.2.2.1 s.2.2.2) (Q := fun y => ∃ Z2, y = (.inl (nI (pm P.1 (miN xf (nC P.1 - 1)) x)), Z2) ∧ QC Z Z2) (fun i y => y.1 = (if i = 0 then (-1 : Int32) else nI (mnN xf (i - 1))) ∧ y.2.1 = bI (decide (i < nC P.1)) ∧ y.2.2.1 = nI i ∧ Fr (KS [46, 47]) Z y.2.2.2 ∧ (i < nC P.1 → ∀ q, q < P.1 → gI y.2.2.2.1 46 0 q = fI P.1 i q) ∧ (0 < i → ∀ q, q < P.1 → gI y.2.2.2.1 47 0 q = fI P.1 (miN xf (i - 1)) q)) (nC P.1) (N := FU) (FU_lt (by omega)) (s := ((-1 : Int32), nI 1, nI 0, sF Z 46 0 (fun q => if q < 5 then nI q else gI Z.1 46 0 q))) ?_ ?_ ?_
    · obtain ⟨y, ey, Z2, rfl, q2⟩ := key
      refine ⟨Z2, ?_, qZ.tr q2⟩
      unfold fn_129
      rw [h.c155, hb, cnd_t, bx_l, eZ, bd_t, c_43, bd_t, ey]
    · rintro i ⟨l1, l2, l3, X⟩ hi ⟨E1, E2, E3, fX, g46, g47⟩
      have E1 : l1 = _ := E1
      have E2 : l2 = _ := E2
      have E3 : l3 = nI i := E3
      subst E1 E2 E3
      have fX : Fr (KS [46, 47]) Z X := fX
      have g46 : ∀ q, q < P.1 → gI X.1 46 0 q = fI P.1 i q := g46 hi
      have g47 : 0 < i → ∀ q, q < P.1 → gI X.1 47 0 q = fI P.1 (miN xf (i - 1)) q := g47
      have pX : PoF X P (gI Y.1 52 0) (-1 : Int32) := pZ.fr fX (by decide) (by decide) (by decide) (by decide) (by decide)
      have e29 := c_29 hN pX hw2 g46 (fI_ord hC5 hi)
      rw [xfi] at e29
      have e5 : ∀ V, Fr (KS [46, 47]) Z V → gI V.1 5 (V.2 0) 0 = nI P.1 := fun V fV => by
        rw [fV.1, fZ.1, fV.gI (by unfold KS; decide), fZ.gI (by unfold KS; decide)]
        exact h.cp.1.1
      have hi1 : (if i = nC P.1 then 0 else 1) = 1 := if_neg (by omega)
      -- the row is copied, then the next order
      obtain ⟨f2, e47', h47'⟩ := c_adv (X := sF X 47 0 (va_cpy (gI X.1 46 0) (gI X.1 47 0) 0 0 5)) h3.1 hC5 hi (fun q hq => by rw [gI_sFk (by omega)]; exact g46 q hq)
      have kc : fn_129_J66_1_d1 (nI x) (nI i) (nI (xf i)) X = some (.inl (nI (xf i), bI (decide (i + 1 < nC P.1)), nI (i + 1), sF (sF X 47 0 (va_cpy (gI X.1 46 0) (gI X.1 47 0) 0 0 5)) 46 0 f2)) := by
        unfold fn_129_J66_1_d1 fn_44_46_47
        rw [wr_t, bd_t, sC_sF, e5 _ (fX.tr (Fr.sF (by unfold KS; decide))), e47', bd_t, nI_add]
      generalize hV : sF (sF X 47 0 (va_cpy (gI X.1 46 0) (gI X.1 47 0) 0 0 5)) 46 0 f2 = V at kc
      have fV : Fr (KS [46, 47]) Z V := by
        rw [← hV]
        exact fX.tr ((Fr.sF (by unfold KS; decide)).tr (Fr.sF (by unfold KS; decide)))
      have v46 : i + 1 < nC P.1 → ∀ q, q < P.1 → gI V.1 46 0 q = fI P.1 (i + 1) q := fun hi1 q hq => by
        rw [← hV, gI_sFs]
        exact h47' hi1 q hq
      have v47 : ∀ q, q < P.1 → gI V.1 47 0 q = fI P.1 i q := fun q hq => by
        rw [← hV, gI_sFk (by omega), gI_sFs, cp0 (by omega)]
        exact g46 q hq
      have hd : bI (decide (i < nC P.1)) = nI 1 := by rw [decide_eq_true hi]; rfl
      have es : (i + 1 = 0) = False := by simp
      by_cases hz : i = 0
      · refine ⟨.inl (nI (xf i), bI (decide (i + 1 < nC P.1)), nI (i + 1), V), ?_, ?_, rfl, rfl, fV, v46, fun _ q hq => ?_⟩
        · simp only [fn_129_L31_1]
          rw [hd, if_neg (by decide), iteI_le_f (by omega) (by omega), e29, bd_t, if_pos hz, if_pos rfl]
          exact kc
        · rw [if_neg (by omega), show i + 1 - 1 = i by omega, hz]
          rfl
        · show gI V.1 47 0 q = fI P.1 (miN xf (i + 1 - 1)) q
          rw [v47 q hq, show i + 1 - 1 = i by omega, hz]
          rfl
      · obtain ⟨i, rfl⟩ : ∃ j, i = j + 1 := ⟨i - 1, by omega⟩
        have m1 : (if i + 1 = 0 then (-1 : Int32) else nI (mnN xf (i + 1 - 1))) = nI (mnN xf i) := if_neg (by omega)
        have m2 : (if i + 1 + 1 = 0 then (-1 : Int32) else nI (mnN xf (i + 1 + 1 - 1))) = nI (mnN xf (i + 1)) := if_neg (by omega)
        have b1 := mb i
        have b2 := xfb (i + 1)
        by_cases g : xf (i + 1) < mnN xf i
        · have s1 : mnN xf (i + 1) = xf (i + 1) := if_pos g
          have s2 : miN xf (i + 1) = i + 1 := if_pos g
          refine ⟨.inl (nI (xf (i + 1)), bI (decide (i + 1 + 1 < nC P.1)), nI (i + 1 + 1), V), ?_, ?_, rfl, rfl, fV, v46, fun _ q hq => ?_⟩
          · simp only [fn_129_L31_1]
            rw [hd, if_neg (by decide), iteI_le_f (by omega) (by omega), e29, bd_t, m1, if_neg (nI_ne_m1 (by omega)), iteI_le_f g (by omega)]
            exact kc
          · rw [m2, s1]
          · show gI V.1 47 0 q = fI P.1 (miN xf (i + 1)) q
            rw [v47 q hq, s2]
        · have s1 : mnN xf (i + 1) = mnN xf i := if_neg g
          have s2 : miN xf (i + 1) = miN xf i := if_neg g
          obtain ⟨f', e47, h47⟩ := c_adv (X := X) h3.1 hC5 hi g46
          refine ⟨.inl (nI (mnN xf i), bI (decide (i + 1 + 1 < nC P.1)), nI (i + 1 + 1), sF X 46 0 f'), ?_, ?_, rfl, rfl, fX.tr (Fr.sF (by unfold KS; decide)), fun hi1 q hq => ?_, fun _ q hq => ?_⟩
          · simp only [fn_129_L31_1]
            rw [hd, if_neg (by decide), iteI_le_f (by omega) (by omega), e29, bd_t, m1, if_neg (nI_ne_m1 (by omega)), iteI_le_t (by omega) (by omega), e5 _ fX, e47, bd_t, nI_add]
          · rw [m2, s1]
          · show gI (sF X 46 0 f').1 46 0 q = _
            rw [gI_sFs]
            exact h47 hi1 q hq
          · show gI (sF X 46 0 f').1 47 0 q = fI P.1 (miN xf (i + 1)) q
            rw [gI_sFk (by omega), s2]
            exact g47 (by omega) q hq
    · rintro ⟨l1, l2, l3, X⟩ ⟨E1, E2, E3, fX, g46, g47⟩
      have E1 : l1 = _ := E1
      have E2 : l2 = _ := E2
      have E3 : l3 = nI (nC P.1) := E3
      subst E1 E2 E3
      have fX : Fr (KS [46, 47]) Z X := fX
      have g47 : ∀ q, q < P.1 → gI X.1 47 0 q = fI P.1 (miN xf (nC P.1 - 1)) q := g47 hNC
      refine ⟨.inr (.inl (nI (pm P.1 (miN xf (nC P.1 - 1)) x)), X), ?_, X, rfl, QC.kf fX (by decide)⟩
      simp only [fn_129_L31_1]
      rw [decide_eq_false (Nat.lt_irrefl _), bI_f, if_pos rfl, ck_in (by omega) (by omega), ix_nI (by omega), g47 x hx]
      rfl
    · refine ⟨rfl, ?_, rfl, Fr.sF (by unfold KS; decide), fun _ q hq => ?_, fun z => by omega⟩
      · rw [decide_eq_true hNC]; rfl
      · show gI (sF Z 46 0 (fun q => if q < 5 then nI q else gI Z.1 46 0 q)).1 46 0 q = _
        rw [gI_sFs, if_pos (by omega)]
        unfold fI
        rw [pm_0 P.1 (by omega) q hq]
  · have hT := (h.mw hq e).told (v := nI 0)
    have h10 : 10 ^ P.1 ≤ 10 ^ 5 := Nat.pow_le_pow_right (by omega) hC5
    have key := Ok_lp (F := fun s => fn_253_L21 (nI x) s.1 s.2.1 s.2.2.1 s.2.2.2) (Q := fun y => ∃ X, y = .inl (nI (eC P.1 (miN xf (nC P.1 - 1))), X) ∧ QE (sI W 48 0 0 (nI 0)) X) (fun cd y => y.1 = (if rkC P.1 cd = 0 then (-1 : Int32) else nI (eC P.1 (miN xf (rkC P.1 cd - 1)))) ∧ y.2.1 = (if rkC P.1 cd = 0 then nI 0 else nI (mnN xf (rkC P.1 cd - 1))) ∧ y.2.2.1 = nI cd ∧ QE (sI W 48 0 0 (nI 0)) y.2.2.2) (10 ^ P.1) (N := FU) (FU_lt (by omega)) (s := ((-1 : Int32), nI 0, nI 0, sI W 48 0 0 (nI 0))) ?_ ?_ ?_
    · obtain ⟨y, ey, X, rfl, qX⟩ := key
      have hX := qX.ml hT
      obtain ⟨i1, i2⟩ := eC_isB P.1 (by omega) (miN xf (nC P.1 - 1)) (by omega)
      refine ⟨sF X 58 0 (bdS P.1 P.1 (nI (eC P.1 (miN xf (nC P.1 - 1)))) (nI 0) (gI X.1 58 0)).2, ?_, QM.told.tr (qX.1.tr (QM.sF (Or.inr (Or.inr (Or.inl rfl))))), by rw [gI_sFk (by omega), qX.2.1, gI_sIv, upd_at]⟩
      unfold fn_253
      rw [(h.mw hq e).cls, hb, bd_t, g_is, cnd_t, ey, exd_l]
      unfold fn_253_J69
      rw [r_214 hX.1, bd_t, ck_in (by omega) (by omega), ix_nI (by omega), gI_sFs, bd_row i1 hx, i2 x hx]
    · rintro cd ⟨l1, l2, l3, X⟩ hcd ⟨E1, E2, E3, qX⟩
      have E1 : l1 = _ := E1
      have E2 : l2 = _ := E2
      have E3 : l3 = nI cd := E3
      subst E1 E2 E3
      have qX : QE (sI W 48 0 0 (nI 0)) X := qX
      have hX := qX.ml hT
      have e214 := r_214 hX.1 (nI cd)
      rw [bd_isB] at e214
      cases hi : isB P.1 (nI cd) with
      | false =>
        rw [hi] at e214
        refine ⟨.inl ((if rkC P.1 cd = 0 then (-1 : Int32) else nI (eC P.1 (miN xf (rkC P.1 cd - 1)))), (if rkC P.1 cd = 0 then nI 0 else nI (mnN xf (rkC P.1 cd - 1))), nI (cd + 1), sF X 58 0 (bdS P.1 P.1 (nI cd) (nI 0) (gI X.1 58 0)).2), ?_, ?_, ?_, rfl, qX.tr QE.s58⟩
        rotate_left
        · rw [rkC_no h3.1 hC5 hi]
        · rw [rkC_no h3.1 hC5 hi]
        · simp only [fn_253_L21]
          rw [r_252 hX.1, bd_t, iteI_le_f hcd (by omega), e214, bd_t, bI_0, cnd_f, nI_add]
      | true =>
        rw [hi] at e214
        obtain ⟨r1, r2, r3⟩ := rkC_yes h3.1 hC5 (by omega) hi
        have hX2 : ML (sF X 58 0 (bdS P.1 P.1 (nI cd) (nI 0) (gI X.1 58 0)).2) P (gI Y.1 52 0) := QE.s58.ml hX
        have e251 := r_251 (f := fI P.1 (rkC P.1 cd)) hX2 hB hw2 (fun p hp => by
          rw [gI_sFs, bd_row hi hp]
          have z := (eC_isB P.1 (by omega) _ r1).2 p hp
          rw [r2] at z
          exact z) (fI_ord hC5 r1)
        rw [xfi] at e251
        generalize rkC P.1 cd = i at r1 r2 r3 e251
        by_cases hz : i = 0
        · subst hz
          refine ⟨.inl (nI cd, nI (xf 0), nI (cd + 1), sF X 58 0 (bdS P.1 P.1 (nI cd) (nI 0) (gI X.1 58 0)).2), ?_, ?_, ?_, rfl, qX.tr QE.s58⟩
          · simp only [fn_253_L21]
            rw [r_252 hX.1, bd_t, iteI_le_f hcd (by omega), e214, bd_t, bI_0, cnd_t, if_pos True.intro, if_pos rfl, e251, bd_t, nI_add]
          · rw [r3, if_neg (by omega)]
            show nI cd = nI (eC P.1 0)
            rw [r2]
          · rw [r3, if_neg (by omega)]
            rfl
        · obtain ⟨i, rfl⟩ : ∃ j, i = j + 1 := ⟨i - 1, by omega⟩
          have b1 := mb i
          have b2 := xfb (i + 1)
          have hec := eC_lt P.1 (by omega) (miN xf i) (by have := miN_le xf i; omega)
          by_cases g : xf (i + 1) < mnN xf i
          · have s1 : mnN xf (i + 1) = xf (i + 1) := if_pos g
            have s2 : miN xf (i + 1) = i + 1 := if_pos g
            refine ⟨.inl (nI cd, nI (xf (i + 1)), nI (cd + 1), sF X 58 0 (bdS P.1 P.1 (nI cd) (nI 0) (gI X.1 58 0)).2), ?_, ?_, ?_, rfl, qX.tr QE.s58⟩
            · simp only [fn_253_L21]
              rw [r_252 hX.1, bd_t, iteI_le_f hcd (by omega), e214, bd_t, bI_0, cnd_t, if_neg (show ¬ i + 1 = 0 by omega), if_neg (show ¬ i + 1 = 0 by omega), show i + 1 - 1 = i by omega, if_neg (nI_ne_m1 (by omega)), e251, bd_t, iteI_lt_t g (by omega), e251, bd_t, nI_add]
            · rw [r3, if_neg (by omega), show i + 1 + 1 - 1 = i + 1 by omega, s2, r2]
            · rw [r3, if_neg (by omega), show i + 1 + 1 - 1 = i + 1 by omega, s1]
          · have s1 : mnN xf (i + 1) = mnN xf i := if_neg g
            have s2 : miN xf (i + 1) = miN xf i := if_neg g
            refine ⟨.inl (nI (eC P.1 (miN xf i)), nI (mnN xf i), nI (cd + 1), sF X 58 0 (bdS P.1 P.1 (nI cd) (nI 0) (gI X.1 58 0)).2), ?_, ?_, ?_, rfl, qX.tr QE.s58⟩
            · simp only [fn_253_L21]
              rw [r_252 hX.1, bd_t, iteI_le_f hcd (by omega), e214, bd_t, bI_0, cnd_t, if_neg (show ¬ i + 1 = 0 by omega), if_neg (show ¬ i + 1 = 0 by omega), show i + 1 - 1 = i by omega, if_neg (nI_ne_m1 (by omega)), e251, bd_t, iteI_lt_f (by omega) (by omega), nI_add]
            · rw [r3, if_neg (by omega), show i + 1 + 1 - 1 = i + 1 by omega, s2]
            · rw [r3, if_neg (by omega), show i + 1 + 1 - 1 = i + 1 by omega, s1]
    · rintro ⟨l1, l2, l3, X⟩ ⟨E1, E2, E3, qX⟩
      have E1 : l1 = _ := E1
      have E2 : l2 = _ := E2
      have E3 : l3 = nI (10 ^ P.1) := E3
      subst E1 E2 E3
      have qX : QE (sI W 48 0 0 (nI 0)) X := qX
      have hX := qX.ml hT
      rw [rkC_end hC5, if_neg (by omega)]
      refine ⟨.inr (.inl (nI (eC P.1 (miN xf (nC P.1 - 1))), X)), ?_, X, rfl, qX⟩
      simp only [fn_253_L21]
      rw [r_252 hX.1, bd_t, iteI_le_t (Nat.le_refl _) (by omega)]
    · refine ⟨?_, ?_, rfl, QE.rf⟩
      · rw [rkC_0, if_pos rfl]
      · rw [rkC_0, if_pos rfl]
