/-! the best ballot -/
theorem c_vl2 {Z : Sm} {P : Pm} {r1 : Nat → Int32} {tu ro t s k n m x : Nat} {A : Int32} (h3 : 0 < P.1 ∧ P.1 ≤ 5 ∧ 0 < P.2.1 ∧ P.2.1 ≤ 8) (hW : WI P) (hS : SetI P tu ro) (hs : s ≤ 1000) (ht : t + k ≤ 1000000) (hk : k < 1000000) (hA : AsK A P.2.1) (hR : CR Z 1 P r1 n m) (hV : Vl P tu ro t s k A r1 n m x) : ∃ Z2, fn_85 1 (nI k) Z = some ((), Z2) ∧ Fr (SS 1) Z Z2 ∧ fn_75 1 A Z2 = some (nI x, Z2) := by
  obtain ⟨⟨r', n', m', hT⟩, hV⟩ := hV
  obtain ⟨Z2, e, f, v, _⟩ := c_val h3 hW hS hs ht hk hA hR hT
  rw [hV r' n' m' hT] at v
  exact ⟨Z2, e, f, v⟩
theorem c_49 {Y : Sm} {C i : Nat} (hC : C ≤ 5) (hi : i < nC C) (h : ∀ q, q < C → gI Y.1 46 0 q = fI C i q) : fn_49 (nI C) Y = some (nI (eC C i), Y) := by
  have hv : ∀ j, j ≤ C → vlN (pm C i) j < 10 ^ j := fun j hj => vlN_lt (fun q hq => by have := pm_lt C (by omega) i hi q (by omega); omega)
  unfold fn_49
  refine lp_run (fun j => (nI (vlN (pm C i) j), nI j, Y)) C (FU_lt (by omega)) (fun j hj => ?_) ?_ rfl
  · have h10 : 10 ^ j ≤ 10 ^ 5 := Nat.pow_le_pow_right (by omega) (by omega)
    have := hv j (by omega)
    have := pm_lt C (by omega) i hi j hj
    simp only [fn_49_L4]
    rw [iteI_le_f hj (by omega), iteI_le_f (show j < 5 by omega) (by omega), ck_in (by omega) (by omega), ix_nI (by omega), h j hj, pk_mul]
    unfold fI
    rw [nI_add, nI_add, Nat.mul_comm]
    rfl
  · simp only [fn_49_L4]
    rw [iteI_le_t (Nat.le_refl _) (by omega), pm_vl C (by omega) i hi]
theorem ok_43 {Y : Sm} {c : Nat} (hc : c < 600) (w : Int32) (h : RR Y c) : Cok (fn_331 w) (fn_265 w) Y c := by
  obtain ⟨P, tu, ro, u, pos, b, h⟩ := h
  have h3 := h.1.a8
  have hC5 := h3.2.1
  obtain ⟨e0, t, n, m, s, hR, hG, ht, hs, hN⟩ := h.cl
  have hms := hG.2.1.2
  have hNC := nC_pos P.1 (by omega) h3.1
  have hNl := nC_le P.1 (by omega)
  have e166 : ∀ W, fn_166 w.toInt64 (Int64.ofNat 1) ((nI 100)).toInt64 W = some (bI (inb w 101 && !decide (w = nI 0)), W) := fun W => by
    rw [i64_1, r_isIn, in_1 (by omega)]
  cases hb2 : (inb w 101 && !decide (w = nI 0)) with
  | false =>
    refine w_exc (F := fn_147 w) (x := 1) (k := nI 1) h rfl (by decide) (fun _ => if_pos rfl) ⟨Y, ?_, QC.rf⟩ (fun W hq e => ⟨nI 0, sI W 48 0 0 (nI 1), ?_, QM.told, told_at⟩)
    · unfold fn_147
      rw [c_157 (by omega), hb2, cnd_f, bx_r]
    · unfold fn_265
      rw [e166, hb2, bd_t, g_is, cnd_f]
  | true =>
  obtain ⟨k, hk, rfl⟩ := tk_in hb2 (by omega)
  obtain ⟨a, ha, e2⟩ := hG.2.2.2.1
  have hA : AsK (nI a) P.2.1 := Or.inr ⟨a, ha, rfl⟩
  obtain ⟨x0, hx0, ex0⟩ := hN a ha
  have hi52 : ∀ i q, q ≠ 3 → q ≠ 36 + a → ¬ (78 + 5 * a ≤ q ∧ q < 78 + 5 * a + P.1) → casS P (gI Y.1 52 0) a (fI P.1 i) q = gI Y.1 52 0 q := fun i q => casS_o
  have ea : ∀ i, ansO (casS P (gI Y.1 52 0) a (fI P.1 i)) (nI a) = nI x0 := fun i => by
    unfold ansO
    rw [if_neg (nI_ne_m1 (by omega)), ix_nI (by omega), hi52 i _ (by omega) (by omega) (by omega)]
    exact ex0
  have hGc : ∀ i, i < nC P.1 → GR P (casS P (gI Y.1 52 0) a (fI P.1 i)) t n m s := fun i hi => hG.cas ⟨h3.2.1, h3.2.2.2⟩ ha (fI_ord hC5 hi)
  obtain ⟨Z0, eZ0, qZ0, cZ0⟩ := h.try hR hG
  have hx : ∀ i, ∃ x, i < nC P.1 → x0 ≤ x ∧ x ≤ 1000 ∧ Vl P tu ro t s k (nI a) (casS P (gI Y.1 52 0) a (fI P.1 i)) n m x := fun i => by
    by_cases g : i < nC P.1
    · have c46 : CR (sF Z0 46 0 (fI P.1 i)) 1 P (gI Y.1 52 0) n m := cZ0.fr h3.2.2.2 (Fr.sF (show KS [46] 46 0 by unfold KS; decide)) (by decide)
      obtain ⟨Z1, _, _, c1⟩ := c_82 (f := fI P.1 i) h3 c46 hG e2 ha (fun p _ => by rw [gI_sFs])
      obtain ⟨x, y1, y2, y3⟩ := vl_ex (k := k) h.ml h.1.2.1 h.1.2.2.1 (by omega) (by omega) (by omega) hA c1 (hGc i g) (hN.cg (fun a' _ => hi52 i _ (by omega) (by omega) (by omega))) (ea i) hx0
      exact ⟨x, fun _ => ⟨y1, y2, y3⟩⟩
    · exact ⟨0, fun g1 => absurd g1 g⟩
  obtain ⟨xf, hxf⟩ := Classical.axiomOfChoice hx
  have hxb : ∀ j, j < nC P.1 → x0 ≤ xf j ∧ xf j ≤ 1000 := fun j hj => ⟨(hxf j hj).1, (hxf j hj).2.1⟩
  have hxb0 : ∀ j, j < nC P.1 → 0 ≤ xf j ∧ xf j ≤ 1000 := fun j hj => ⟨Nat.zero_le _, (hxf j hj).2.1⟩
  refine w_val (F := fn_147 (nI k)) (v := biI (-1 : Int32) (fun i => nI (eC P.1 i)) xf (nC P.1)) h rfl ?_ (fun W hq e => ?_)
  · have key := Ok_lp (F := fun s => fn_147_L24_1 (nI k) s.1 s.2.1 s.2.2.1 s.2.2.2.1 s.2.2.2.2) (Q := fun x => ∃ Z3, x = (.inl (biI (-1 : Int32) (fun i => nI (eC P.1 i)) xf (nC P.1)), Z3) ∧ QC Y Z3) (fun i x => x.1 = mxI xf 0 i ∧ x.2.1 = biI (-1 : Int32) (fun i => nI (eC P.1 i)) xf i ∧ x.2.2.1 = bI (decide (i < nC P.1)) ∧ x.2.2.2.1 = nI i ∧ QC Y x.2.2.2.2 ∧ (i < nC P.1 → ∀ q, q < P.1 → gI x.2.2.2.2.1 46 0 q = fI P.1 i q)) (nC P.1) (N := FU) (FU_lt (by omega)) (s := ((-1 : Int32), (-1 : Int32), nI 1, nI 0, sF Y 46 0 (fun q => if q < 5 then nI q else gI Y.1 46 0 q))) ?_ ?_ ?_
    · obtain ⟨x, ex, Z3, rfl, q3⟩ := key
      refine ⟨Z3, ?_, q3⟩
      unfold fn_147
      rw [c_157 (by omega), hb2, cnd_t, bx_l, c_43, bd_t, ex]
    · rintro i ⟨l1, l2, l3, l4, X⟩ hi ⟨E1, E2, E3, E4, qX, g46⟩
      have E1 : l1 = _ := E1
      have E2 : l2 = _ := E2
      have E3 : l3 = bI (decide (i < nC P.1)) := E3
      have E4 : l4 = nI i := E4
      subst E1 E2 E3 E4
      have qX : QC Y X := qX
      have g46 : ∀ q, q < P.1 → gI X.1 46 0 q = fI P.1 i q := g46 hi
      have h' := h.q qX.f
      have x52 : gI X.1 52 0 = gI Y.1 52 0 := qX.m (by omega)
      obtain ⟨_, t', n', m', s', hR', hG', _⟩ := h'.cl
      rw [x52] at hR' hG'
      have en : n' = n := (nI_eq (by have := hG'.2.1; omega) (by have := hG.2.1; omega)).mp (hG'.1.2.1.symm.trans hG.1.2.1)
      have em : m' = m := (nI_eq (by have := hG'.2.1; omega) (by have := hG.2.1; omega)).mp (hG'.1.2.2.1.symm.trans hG.1.2.2.1)
      subst en em
      obtain ⟨A1, eA1, fA1, cA1⟩ := c_72 (i0 := 1) (i1 := 0) (by omega) h3 hG.2.1.1 hG.2.2.2.2.1 hR'
      have a46 : gI A1.1 46 0 = gI X.1 46 0 := (fA1.gI (by unfold S2; simp only [List.mem_cons, List.mem_nil_iff, or_false]; omega)).trans (by rw [gI_sG])
      obtain ⟨A2, eA2, fA2, cA2⟩ := c_82 (f := fI P.1 i) h3 cA1 hG e2 ha (fun p hp => by rw [a46]; exact g46 p hp)
      obtain ⟨y1, y2, hVj⟩ := hxf i hi
      obtain ⟨A3, eA3, fA3, vA3⟩ := c_vl2 h3 h.1.2.1 h.1.2.2.1 (by omega) (by omega) (by omega) hA cA2 hVj
      have q3 : QC Y A3 := (qX.tr (QC.s2 fA1)).tr ((QC.s1 fA2).tr (QC.s1 fA3))
      have n46 : ¬ SS 1 46 0 := by unfold SS; simp only [List.mem_cons, List.mem_nil_iff, or_false]; omega
      have b46 : ∀ q, q < P.1 → gI A3.1 46 0 q = fI P.1 i q := fun q hq => by
        rw [fA3.gI n46, fA2.gI n46, a46]; exact g46 q hq
      have h4 := h.q q3.f
      have eC3 : gI A3.1 5 (A3.2 0) 0 = nI P.1 := h4.cp.1.1
      obtain ⟨_, t4, n4, m4, s4, hR4, _⟩ := h4.cl
      have e21 : gI A3.1 21 0 3 = nI a := (hR4.a 2 (by omega)).trans (by rw [q3.m (by omega)]; exact e2)
      obtain ⟨f', e47, h47⟩ := c_adv (X := A3) h3.1 hC5 hi b46
      refine ⟨.inl (mxI xf 0 (i + 1), biI (-1 : Int32) (fun i => nI (eC P.1 i)) xf (i + 1), bI (decide (i + 1 < nC P.1)), nI (i + 1), sF A3 46 0 f'), ?_, rfl, rfl, rfl, rfl, q3.tr QC.f46, fun hi1 q hq => ?_⟩
      · simp only [fn_147_L24_1]
        rw [decide_eq_true hi, bI_t, if_neg (by decide), iteI_le_f (by omega) (by omega), eA1, bd_t, eA2, bd_t, eA3, bd_t, e21, vA3, bd_t, ite_le_lt, eC3, e47, bd_t, c_49 hC5 hi b46, bd_t, eC3, e47, bd_t, nI_add]
        exact mx_step (b := 0) hxb0 hi (-1 : Int32) (fun i => nI (eC P.1 i)) (fun y x => some (Sum.inl (x, y, bI (decide (i + 1 < nC P.1)), nI (i + 1), sF A3 46 0 f')))
      · show gI (sF A3 46 0 f').1 46 0 q = _
        rw [gI_sFs]
        exact h47 hi1 q hq
    · rintro ⟨l1, l2, l3, l4, X⟩ ⟨E1, E2, E3, E4, qX, _⟩
      have E1 : l1 = _ := E1
      have E2 : l2 = _ := E2
      have E3 : l3 = bI (decide (nC P.1 < nC P.1)) := E3
      have E4 : l4 = nI (nC P.1) := E4
      subst E1 E2 E3 E4
      have qX : QC Y X := qX
      refine ⟨.inr (.inl _, X), ?_, X, rfl, qX⟩
      simp only [fn_147_L24_1]
      rw [decide_eq_false (Nat.lt_irrefl _), bI_f, if_pos rfl]
    · refine ⟨rfl, rfl, ?_, rfl, QC.f46, fun _ q hq => ?_⟩
      · rw [decide_eq_true hNC]; rfl
      · show gI (sF Y 46 0 (fun q => if q < 5 then nI q else gI Y.1 46 0 q)).1 46 0 q = _
        rw [gI_sFs, if_pos (by omega)]
        unfold fI
        rw [pm_0 P.1 (by omega) q hq]
  · have hT := (h.mw hq e).told (v := nI 0)
    have h10 : 10 ^ P.1 ≤ 10 ^ 5 := Nat.pow_le_pow_right (by omega) hC5
    have key := Ok_lp (F := fun s => fn_265_L25 (nI k) s.1 s.2.1 s.2.2.1 s.2.2.2) (Q := fun x => ∃ Z3, x = (biI (-1 : Int32) (fun i => nI (eC P.1 i)) xf (nC P.1), Z3) ∧ QE (sI W 48 0 0 (nI 0)) Z3) (fun cd x => x.1 = biI (-1 : Int32) (fun i => nI (eC P.1 i)) xf (rkC P.1 cd) ∧ x.2.1 = mxI xf x0 (rkC P.1 cd) ∧ x.2.2.1 = nI cd ∧ QE (sI W 48 0 0 (nI 0)) x.2.2.2) (10 ^ P.1) (N := FU) (FU_lt (by omega)) (s := ((-1 : Int32), (-1 : Int32), nI 0, sI W 48 0 0 (nI 0))) ?_ ?_ ?_
    · obtain ⟨x, ex, Z3, rfl, q3⟩ := key
      refine ⟨Z3, ?_, QM.told.tr q3.1, by rw [q3.2.1, gI_sIv, upd_at]⟩
      unfold fn_265
      rw [e166, hb2, bd_t, g_is, cnd_t, ex]
    · rintro cd ⟨l1, l2, l3, X⟩ hcd ⟨E1, E2, E3, qX⟩
      have E1 : l1 = _ := E1
      have E2 : l2 = _ := E2
      have E3 : l3 = nI cd := E3
      subst E1 E2 E3
      have qX : QE (sI W 48 0 0 (nI 0)) X := qX
      have hX := qX.ml hT
      have e214 := r_214 hX.1 (nI cd)
      rw [bd_isB] at e214
      cases hi : isB P.1 (nI cd) with
      | false =>
        rw [hi] at e214
        refine ⟨.inl (biI (-1 : Int32) (fun i => nI (eC P.1 i)) xf (rkC P.1 cd), mxI xf x0 (rkC P.1 cd), nI (cd + 1), sF X 58 0 (bdS P.1 P.1 (nI cd) (nI 0) (gI X.1 58 0)).2), ?_, ?_, ?_, rfl, qX.tr QE.s58⟩
        rotate_left
        · rw [rkC_no h3.1 hC5 hi]
        · rw [rkC_no h3.1 hC5 hi]
        · simp only [fn_265_L25]
          rw [r_252 hX.1, bd_t, iteI_le_f hcd (by omega), e214, bd_t, bI_f, if_pos rfl, nI_add]
      | true =>
        rw [hi] at e214
        obtain ⟨r1, r2, r3⟩ := rkC_yes h3.1 hC5 (by omega) hi
        have z := (eC_isB P.1 (by omega) _ r1).2
        rw [r2] at z
        rw [r3]
        generalize rkC P.1 cd = i at r1 r2 z ⊢
        generalize hX1 : sF X 58 0 (bdS P.1 P.1 (nI cd) (nI 0) (gI X.1 58 0)).2 = X1 at e214
        have hM1 : ML X1 P (gI Y.1 52 0) := by rw [← hX1]; exact QE.s58.ml hX
        have q1 : QE (sI W 48 0 0 (nI 0)) X1 := by rw [← hX1]; exact qX.tr QE.s58
        have f58 : ∀ p, p < P.1 → gI X1.1 58 0 p = fI P.1 i p := fun p hp => by
          rw [← hX1, gI_sFs, bd_row hi hp]
          exact z p hp
        obtain ⟨y1, y2, hVj⟩ := hxf i r1
        obtain ⟨X2, eX2, qX2⟩ := r_vl hM1 h.1.2.2.1 (by omega) (by omega) hA (hGc i r1) (fun q hq => hi52 i q (by omega) (by omega) (by omega)) hVj (ea i) y1
        have e215 : fn_215 (sF X1 55 0 (cpy (gI Y.1 52 0) (gI X1.1 55 0))) = some (nI a, sF (sF X1 55 0 (cpy (gI Y.1 52 0) (gI X1.1 55 0))) 52 0 (casS P (gI Y.1 52 0) a (fI P.1 i))) := by
          rw [r_215 (f := gI X1.1 58 0) (hM1.1.sF (by omega) (by omega)) (by rw [gI_sFk (by omega)]; exact hM1.2.1) (by rw [gI_sFk (by omega)]) e2 (by omega), casS_cg f58]
        refine ⟨.inl (biI (-1 : Int32) (fun i => nI (eC P.1 i)) xf (i + 1), mxI xf x0 (i + 1), nI (cd + 1), X2), ?_, rfl, rfl, rfl, q1.tr qX2⟩
        simp only [fn_265_L25]
        rw [r_252 hX.1, bd_t, iteI_le_f hcd (by omega), e214, bd_t, bI_t, if_neg (by decide), r_176, bd_t, hM1.2.1, e215, bd_t]
        have key2 : ∀ (o : Option (Int32 × Sm)) (K : Int32 → Sm → Option ((Int32 × Int32 × Int32 × Sm) ⊕ (Int32 × Sm))) (v : Int32) (X2 : Sm), (bd o fun v Y3 => bd (fn_177 v Y3) fun v2 Y6 => some (v2, Y6)) = some (v, X2) → (bd o fun v Y3 => bd (fn_177 v Y3) K) = K v X2 := fun o K v X2 hk => by
          obtain ⟨v1, Y3, e1, hk⟩ := bd_some hk
          obtain ⟨v2, Y6, e2, hk⟩ := bd_some hk
          rw [e1, bd_t, e2, bd_t]
          have := Option.some.inj hk
          obtain ⟨rfl, rfl⟩ := Prod.mk.inj this
          rfl
        rw [key2 _ _ _ _ eX2, nI_add]
        have st := mx_step (b := x0) hxb r1 (-1 : Int32) (fun i => nI (eC P.1 i)) (fun y x => (some (Sum.inl (y, x, nI (cd + 1), X2)) : Option ((Int32 × Int32 × Int32 × Sm) ⊕ (Int32 × Sm))))
        rw [r2] at st
        exact st
    · rintro ⟨l1, l2, l3, X⟩ ⟨E1, E2, E3, qX⟩
      have E1 : l1 = _ := E1
      have E2 : l2 = _ := E2
      have E3 : l3 = nI (10 ^ P.1) := E3
      subst E1 E2 E3
      have qX : QE (sI W 48 0 0 (nI 0)) X := qX
      have hX := qX.ml hT
      rw [rkC_end hC5]
      refine ⟨.inr (_, X), ?_, X, rfl, qX⟩
      simp only [fn_265_L25]
      rw [r_252 hX.1, bd_t, iteI_le_t (Nat.le_refl _) (by omega)]
    · refine ⟨?_, ?_, rfl, QE.rf⟩
      · rw [rkC_0]; rfl
      · rw [rkC_0]; rfl
