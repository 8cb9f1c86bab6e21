/-! distance, differences, decisive askers -/
theorem ord_i {f : Nat → Int32} {C : Nat} (hC : C ≤ 5) (h : OrdI f C) : ∃ b : Nat → Nat, (∀ p, p < C → b p < C ∧ f p = nI (b p)) ∧ (∀ p q, p < C → q < C → b p = b q → p = q) ∧ (∀ k, k < C → srch (fun p => decide (f p = nI k)) C < C ∧ b (srch (fun p => decide (f p = nI k)) C) = k) ∧ ∀ p, p < C → srch (fun q => decide (f q = nI (b p))) C = p := by
  obtain ⟨h1, h2⟩ := h
  have hb : ∃ b : Nat → Nat, ∀ p, p < C → b p < C ∧ f p = nI (b p) := ⟨fun p => ix (f p), fun p hp => by
    obtain ⟨k, hk, e⟩ := h2 p hp
    show ix (f p) < C ∧ f p = nI (ix (f p))
    rw [e, ix_nI (by omega)]
    exact ⟨hk, rfl⟩⟩
  obtain ⟨b, hb⟩ := hb
  have hs : ∀ k, k < C → srch (fun p => decide (f p = nI k)) C < C ∧ b (srch (fun p => decide (f p = nI k)) C) = k := fun k hk => by
    obtain ⟨p, hp, e⟩ := h1 k hk
    have hl : srch (fun p => decide (f p = nI k)) C < C := srch_lt hp (decide_eq_true e)
    have hy := of_decide_eq_true (srch_yes hl)
    refine ⟨hl, ?_⟩
    rw [(hb _ hl).2] at hy
    exact (nI_eq (by have := (hb _ hl).1; omega) (by omega)).mp hy
  have hi : ∀ p q, p < C → q < C → b p = b q → p = q := fun p q hp hq e =>
    inj_of_surj (g := fun k => srch (fun p => decide (f p = nI k)) C) (fun k hk => (hs k hk).1) (fun k hk => (hs k hk).2) (fun p hp => (hb p hp).1) p q hp hq e
  refine ⟨b, hb, hi, hs, fun p hp => ?_⟩
  obtain ⟨a1, a2⟩ := hs (b p) (hb p hp).1
  exact hi _ _ a1 hp a2
/-- the place in one order of what stands in the other -/
def plx (f g : Nat → Int32) (C q : Nat) : Nat := srch (fun p => decide (g p = f q)) C
theorem plx_inv {f g : Nat → Int32} {C : Nat} (hC : C ≤ 5) (hf : OrdI f C) (hg : OrdI g C) : Inv2 (plx f g C) (plx g f C) C := by
  obtain ⟨a, a1, a2, a3, a4⟩ := ord_i hC hf
  obtain ⟨b, b1, b2, b3, b4⟩ := ord_i hC hg
  refine ⟨fun p hp => ?_, fun p hp => ?_⟩
  · unfold plx
    rw [(a1 p hp).2]
    obtain ⟨s1, s2⟩ := b3 (a p) (a1 p hp).1
    refine ⟨s1, ?_⟩
    rw [(b1 _ s1).2, s2]
    exact a4 p hp
  · unfold plx
    rw [(b1 p hp).2]
    obtain ⟨s1, s2⟩ := a3 (b p) (b1 p hp).1
    refine ⟨s1, ?_⟩
    rw [(a1 _ s1).2, s2]
    exact b4 p hp
/-- the class's two loops -/
theorem c_ivin {Y : Sm} {F : Int32 × Int32 × Sm → Option ((Int32 × Int32 × Sm) ⊕ ((Int32 × Int32 × Sm) ⊕ (Int32 × Sm)))} {x : Nat → Nat} {p acc : Nat} (hp : p < 5) (ha : acc < 1000) (h1 : ∀ q a, q < p → a < 2000 → F (nI a, nI q, Y) = some (.inl (nI (cond (decide (x p < x q)) (a + 1) a), nI (q + 1), Y))) (h2 : ∀ a, F (nI a, nI p, Y) = some (.inr (.inl (nI a, nI p + nI 1, Y)))) : lp F FU (nI acc, nI 0, Y) = some (.inl (nI (acc + cntN (fun q => decide (x p < x q)) p), nI (p + 1), Y)) := by
  have e := lp_run (F := F) (r := .inl (nI (acc + cntN (fun q => decide (x p < x q)) p), nI (p + 1), Y)) (fun q => (nI (acc + cntN (fun q => decide (x p < x q)) q), nI q, Y)) p (FU_lt (by omega)) (fun q hq => ?_) (by rw [h2, nI_add]) (s := (nI acc, nI 0, Y)) rfl
  · exact e
  · have := cntN_le (fun q => decide (x p < x q)) q
    rw [h1 q _ hq (by omega)]
    show some (Sum.inl (nI (cond (decide (x p < x q)) _ _), _, _)) = some (Sum.inl (nI (acc + cond (decide (x p < x q)) _ _), _, _))
    cases decide (x p < x q) <;> rfl
theorem c_ivout {Y : Sm} {F : Int32 × Int32 × Sm → Option ((Int32 × Int32 × Sm) ⊕ (Int32 × Sm))} {x : Nat → Nat} {C : Nat} (hC : C ≤ 5) (h1 : ∀ p a, p < C → a < 1000 → F (nI a, nI p, Y) = some (.inl (nI (a + cntN (fun q => decide (x p < x q)) p), nI (p + 1), Y))) (h2 : ∀ a, F (nI a, nI C, Y) = some (.inr (nI a, Y))) : lp F FU (nI 0, nI 0, Y) = some (nI (invA x C), Y) := by
  rw [← inv_c]
  refine lp_run (fun p => (nI (sumQ (fun p => cntN (fun q => decide (x p < x q)) p) p), nI p, Y)) C (FU_lt (by omega)) (fun p hp => ?_) (h2 _) rfl
  have hb : sumQ (fun p => cntN (fun q => decide (x p < x q)) p) p ≤ invA x C := by
    rw [← inv_c]
    exact sumQ_le (by omega)
  have := invA_le x C hC
  rw [h1 p _ hp (by omega)]
  rfl
theorem m_ivin {Y : Sm} {F : Int32 × Int32 × Sm → Option ((Int32 × Int32 × Sm) ⊕ ((Int32 × Int32 × Sm) ⊕ (Int32 × Sm)))} {x : Nat → Nat} {p C acc : Nat} (hC : C ≤ 5) (hp : p < C) (ha : acc < 1000) (h1 : ∀ q a, p < q → q < C → a < 2000 → F (nI a, nI q, Y) = some (.inl (nI (cond (decide (x q < x p)) (a + 1) a), nI (q + 1), Y))) (h2 : ∀ a, F (nI a, nI C, Y) = some (.inr (.inl (nI a, nI p + nI 1, Y)))) : lp F FU (nI acc, nI (p + 1), Y) = some (.inl (nI (acc + cntN (fun q => decide (p < q) && decide (x q < x p)) C), nI (p + 1), Y)) := by
  have e0 : cntN (fun q => decide (p < q) && decide (x q < x p)) (p + 1) = 0 := cnt_0 (fun j hj => by
    rw [decide_eq_false (by omega)]
    rfl)
  have eC : p + 1 + (C - (p + 1)) = C := by omega
  have e := lp_run (F := F) (r := .inl (nI (acc + cntN (fun q => decide (p < q) && decide (x q < x p)) C), nI (p + 1), Y)) (fun j => (nI (acc + cntN (fun q => decide (p < q) && decide (x q < x p)) (p + 1 + j)), nI (p + 1 + j), Y)) (C - (p + 1)) (N := FU) (FU_lt (by omega)) (fun j hj => ?_) (by rw [eC, h2, nI_add]) (s := (nI acc, nI (p + 1), Y)) (by
    show _ = (nI (acc + cntN (fun q => decide (p < q) && decide (x q < x p)) (p + 1 + 0)), nI (p + 1 + 0), Y)
    rw [e0]
    rfl)
  · exact e
  · have := cntN_le (fun q => decide (p < q) && decide (x q < x p)) (p + 1 + j)
    rw [h1 (p + 1 + j) _ (by omega) (by omega) (by omega)]
    show some (Sum.inl (nI (cond (decide (x (p + 1 + j) < x p)) _ _), _, _)) = some (Sum.inl (nI (acc + cond (decide (p < p + 1 + j) && decide (x (p + 1 + j) < x p)) _ _), _, _))
    rw [decide_eq_true (show p < p + 1 + j by omega), Bool.true_and]
    cases decide (x (p + 1 + j) < x p) <;> rfl
theorem m_ivout {Y : Sm} {F : Int32 × Int32 × Sm → Option ((Int32 × Int32 × Sm) ⊕ (Int32 × Sm))} {x : Nat → Nat} {C : Nat} (hC : C ≤ 5) (h1 : ∀ p a, p < C → a < 1000 → F (nI a, nI p, Y) = some (.inl (nI (a + cntN (fun q => decide (p < q) && decide (x q < x p)) C), nI (p + 1), Y))) (h2 : ∀ a, F (nI a, nI C, Y) = some (.inr (nI a, Y))) : lp F FU (nI 0, nI 0, Y) = some (nI (invA x C), Y) := by
  rw [← inv_m]
  refine lp_run (fun p => (nI (sumQ (fun p => cntN (fun q => decide (p < q) && decide (x q < x p)) C) p), nI p, Y)) C (FU_lt (by omega)) (fun p hp => ?_) (h2 _) rfl
  have hb : sumQ (fun p => cntN (fun q => decide (p < q) && decide (x q < x p)) C) p ≤ invA x C := by
    rw [← inv_m]
    exact sumQ_le (by omega)
  have := invA_le x C hC
  rw [h1 p _ hp (by omega)]
  rfl
theorem iteI_cnt {ρ : Type} {a b : Nat} {u v : ρ} (ha : a < 2 ^ 31) (hb : b < 2 ^ 31) : (if nI a ≤ nI b then u else v) = cond (decide (b < a)) v u := by
  by_cases h : b < a
  · rw [iteI_le_f h ha, decide_eq_true h]; rfl
  · rw [iteI_le_t (by omega) hb, decide_eq_false h]; rfl
/-- a ballot against the order -/
theorem c_4627 {Y : Sm} {i1 C : Nat} {f g : Nat → Int32} (hC : C ≤ 5) (h1 : ∀ p, p < C → gI Y.1 27 i1 p = f p) (h2 : ∀ p, p < C → gI Y.1 22 0 p = g p) (hf : OrdI f C) (hg : OrdI g C) : fn_46_27_22 i1 0 (nI C) Y = some (nI (invA (plx f g C) C), Y) := by
  obtain ⟨a, a1, a2, a3, a4⟩ := ord_i hC hf
  obtain ⟨b, b1, b2, b3, b4⟩ := ord_i hC hg
  have pl : ∀ q, q < C → fn_45_22 0 (nI C) (f q) Y = some (nI (plx f g C q), Y) ∧ plx f g C q < C := fun q hq => by
    unfold plx
    rw [(a1 q hq).2]
    obtain ⟨s1, s2⟩ := b3 (a q) (a1 q hq).1
    exact ⟨c_45 hC h2 s1, s1⟩
  unfold fn_46_27_22
  refine c_ivout hC (fun p c0 hp hc0 => ?_) (fun c0 => ?_)
  · simp only [fn_46_27_22_L5]
    rw [iteI_le_f hp (by omega), iteI_le_f (by omega) (by omega)]
    refine c_ivin (by omega) hc0 (fun q c1 hq hc1 => ?_) (fun c1 => ?_)
    · obtain ⟨p1, p2⟩ := pl p hp
      obtain ⟨q1, q2⟩ := pl q (by omega)
      simp only [fn_46_27_22_L21_d1]
      rw [iteI_le_f hq (by omega), ck_in (by omega) (by omega), ix_nI (by omega), h1 q (by omega), q1, bd_t, ck_in (by omega) (by omega), ix_nI (by omega), h1 p hp, p1, bd_t, iteI_cnt (by omega) (by omega), nI_add, nI_add]
      cases decide (plx f g C p < plx f g C q) <;> rfl
    · simp only [fn_46_27_22_L21_d1]
      rw [iteI_le_t (by omega) (by omega)]
  · simp only [fn_46_27_22_L5]
    rw [iteI_le_t (by omega) (by omega)]
theorem r_249 {W : Sm} {P : Pm} {r f : Nat → Int32} {a : Nat} (hM : MP W P) (e52 : gI W.1 52 0 = r) (hB : BalI r P.1 P.2.1) (ha : a < P.2.1) (h58 : ∀ p, p < P.1 → gI W.1 58 0 p = f p) (hf : OrdI f P.1) : fn_249 (nI a) W = some (nI (invA (plx f (bal r a) P.1) P.1), W) := by
  have h3 := hM.2.2.1
  have hC := h3.2.1
  obtain ⟨b, b1, b2, b3, b4⟩ := ord_i hC hf
  have hb : OrdI (bal r a) P.1 := hB a ha
  have pl : ∀ q, q < P.1 → fn_192 (nI a) (f q) W = some (nI (plx f (bal r a) P.1 q), W) ∧ plx f (bal r a) P.1 q < P.1 := fun q hq => by
    have e := r_placeOf hM (by rw [e52]; exact hB) ha (b1 q hq).1
    rw [e52] at e
    rw [(b1 q hq).2]
    refine ⟨?_, ?_⟩
    · rw [e]
      unfold plx
      rw [(b1 q hq).2]
      rfl
    · unfold plx
      rw [(b1 q hq).2]
      exact plc_lt hB ha (b1 q hq).1
  unfold fn_249
  refine m_ivout hC (fun p c0 hp hc0 => ?_) (fun c0 => ?_)
  · simp only [fn_249_L4, hM.1]
    rw [iteI_le_f hp (by omega), nI_add]
    refine m_ivin hC hp hc0 (fun q c1 hpq hq hc1 => ?_) (fun c1 => ?_)
    · obtain ⟨p1, p2⟩ := pl p hp
      obtain ⟨q1, q2⟩ := pl q (by omega)
      simp only [fn_249_L17_d1, hM.1]
      rw [iteI_le_f hq (by omega), ck_in (by omega) (by omega), ix_nI (by omega), h58 p hp, p1, bd_t, ck_in (by omega) (by omega), ix_nI (by omega), h58 q (by omega), q1, bd_t, iteI_cnt (by omega) (by omega), nI_add, nI_add]
      cases decide (plx f (bal r a) P.1 q < plx f (bal r a) P.1 p) <;> rfl
    · simp only [fn_249_L17_d1, hM.1]
      rw [iteI_le_t (by omega) (by omega)]
  · simp only [fn_249_L4, hM.1]
    rw [iteI_le_t (by omega) (by omega)]
theorem ok_24 {Y : Sm} {c : Nat} (a : Int32) (h : RR Y c) : Cok (fn_314 a) (fn_250 a) Y c := by
  obtain ⟨P, tu, ro, u, pos, b, h⟩ := h
  obtain ⟨e0, t, n, m, s, hR, hG, _⟩ := h.cl
  have h3 := h.1.a8
  cases hb : inb a P.2.1 with
  | false =>
    refine w_exc (F := fn_128 a) (x := 0) (k := nI 1) h rfl (by decide) (fun _ => if_pos rfl) ⟨Y, ?_, QC.rf⟩ (fun W hq e => ⟨nI 0, sI W 48 0 0 (nI 1), ?_, QM.told, told_at⟩)
    · unfold fn_128
      rw [h.c154, hb, cnd_f, bx_r]
    · unfold fn_250
      rw [(h.mw hq e).ask, hb, bd_t, g_is, cnd_f]
  | true =>
    obtain ⟨x, hx, rfl⟩ := inb_of hb (by omega)
    have ho : OrdI (fun p => gI Y.1 52 0 (10 + p)) P.1 := hG.2.2.2.2.2.1
    have hl : OrdI (bal (gI Y.1 52 0) x) P.1 := hG.2.2.2.2.2.2.1 x hx
    refine w_val (F := fn_128 (nI x)) (v := nI (invA (plx (bal (gI Y.1 52 0) x) (fun p => gI Y.1 52 0 (10 + p)) P.1) P.1)) h rfl ⟨Y, ?_, QC.rf⟩ (fun W hq e => ?_)
    · unfold fn_128
      rw [h.c154, hb, cnd_t, bx_l, ck_in (by omega) (by omega), ix_nI (by omega), h.cp.1.1, c_4627 h3.2.1 (fun p hp => hR.b x p hx hp) (fun p hp => (hR.k p hp).1) hl ho, bd_t]
    · have hT := (h.mw hq e).told (v := nI 0)
      generalize hF : (fun q => if q < P.1 then gI Y.1 52 0 (10 + q) else gI W.1 58 0 q) = F58
      refine ⟨sF (sI W 48 0 0 (nI 0)) 58 0 F58, ?_, QM.told.tr (QM.sF (Or.inr (Or.inr (Or.inl rfl)))), by rw [gI_sFk (by omega)]; exact told_at⟩
      have hM2 : MP (sF (sI W 48 0 0 (nI 0)) 58 0 F58) P := hT.1.sF (by omega) (by omega)
      have e249 := r_249 (f := fun p => gI Y.1 52 0 (10 + p)) (a := x) hM2 (by rw [gI_sFk (by omega)]; exact hT.2.1) hG.2.2.2.2.2.2.1 hx (fun p hp => by rw [gI_sFs, ← hF]; exact if_pos hp) ho
      rw [invA_inv (plx_inv h3.2.1 hl ho)] at e249
      unfold fn_250
      rw [(h.mw hq e).ask, hb, bd_t, g_is, cnd_t]
      refine lp_run (fun j => (nI j, sF (sI W 48 0 0 (nI 0)) 58 0 (fun q => if q < j then gI Y.1 52 0 (10 + q) else gI W.1 58 0 q))) P.1 (FU_lt (by omega)) (fun j hj => ?_) ?_ ?_
      · have hMj : MP (sF (sI W 48 0 0 (nI 0)) 58 0 (fun q => if q < j then gI Y.1 52 0 (10 + q) else gI W.1 58 0 q)) P := hT.1.sF (by omega) (by omega)
        have e52 : gI (sF (sI W 48 0 0 (nI 0)) 58 0 (fun q => if q < j then gI Y.1 52 0 (10 + q) else gI W.1 58 0 q)).1 52 0 = gI Y.1 52 0 := by rw [gI_sFk (by omega)]; exact hT.2.1
        simp only [fn_250_L16, hMj.1]
        rw [iteI_le_f hj (by omega), nI_add, ck_in (by omega) (by omega), ck_in (by omega) (by omega), ix_nI (by omega), ix_nI (by omega), e52, wr_t, sI_s, nI_add]
        congr 4
        funext q
        by_cases d : q = j
        · rw [d, upd_at, if_pos (by omega)]
        · rw [upd_ne d]
          by_cases d2 : q < j
          · rw [if_pos d2, if_pos (by omega)]
          · rw [if_neg d2, if_neg (by omega)]
      · simp only [fn_250_L16, hF, hM2.1]
        rw [iteI_le_t (by omega) (by omega), e249, bd_t]
      · show _ = (nI 0, sF (sI W 48 0 0 (nI 0)) 58 0 (fun q => if q < 0 then gI Y.1 52 0 (10 + q) else gI W.1 58 0 q))
        have : (fun q => if q < 0 then gI Y.1 52 0 (10 + q) else gI W.1 58 0 q) = gI (sI W 48 0 0 (nI 0)).1 58 0 := by
          funext q
          rw [if_neg (by omega), gI_sIk (by omega)]
        rw [this, sF_self]
/-! two tallies -/
theorem c_4547 {Y : Sm} {k C : Nat} {f : Nat → Int32} (hC : C ≤ 5) (h : ∀ p, p < C → gI Y.1 47 0 p = f p) (hk : srch (fun p => decide (f p = nI k)) C < C) : fn_45_47 (nI C) (nI k) Y = some (nI (srch (fun p => decide (f p = nI k)) C), Y) := by
  unfold fn_45_47
  refine lp_find (fun p => decide (f p = nI k)) C (fun j => (nI j, Y)) (by omega) hk (fun j hj hp => ?_) (fun j hj hp => ?_)
  · have hp := of_decide_eq_false hp
    simp (disch := omega) only [fn_45_47_L2, ck_in, ix_nI, pk_mul, nI_add, pk_sub, iteI_le_t, iteI_le_f, iteI_lt_t, iteI_lt_f, iteI_eq_t, iteI_eq_f, bd_t, wr_t, ite_m1_f, ite_m1_t, ↓reduceIte, h j hj, if_neg hp]
  · have hp := of_decide_eq_true hp
    simp (disch := omega) only [fn_45_47_L2, ck_in, ix_nI, pk_mul, nI_add, pk_sub, iteI_le_t, iteI_le_f, iteI_lt_t, iteI_lt_f, iteI_eq_t, iteI_eq_f, bd_t, wr_t, ite_m1_f, ite_m1_t, ↓reduceIte, h j hj, if_pos hp]
theorem c_4646 {Y : Sm} {C : Nat} {f g : Nat → Int32} (hC : C ≤ 5) (h1 : ∀ p, p < C → gI Y.1 46 0 p = f p) (h2 : ∀ p, p < C → gI Y.1 47 0 p = g p) (hf : OrdI f C) (hg : OrdI g C) : fn_46_46_47 (nI C) Y = some (nI (invA (plx f g C) C), Y) := by
  obtain ⟨a, a1, a2, a3, a4⟩ := ord_i hC hf
  obtain ⟨b, b1, b2, b3, b4⟩ := ord_i hC hg
  have pl : ∀ q, q < C → fn_45_47 (nI C) (f q) Y = some (nI (plx f g C q), Y) ∧ plx f g C q < C := fun q hq => by
    unfold plx
    rw [(a1 q hq).2]
    obtain ⟨s1, s2⟩ := b3 (a q) (a1 q hq).1
    exact ⟨c_4547 hC h2 s1, s1⟩
  unfold fn_46_46_47
  refine c_ivout hC (fun p c0 hp hc0 => ?_) (fun c0 => ?_)
  · simp only [fn_46_46_47_L5]
    rw [iteI_le_f hp (by omega), iteI_le_f (by omega) (by omega)]
    refine c_ivin (by omega) hc0 (fun q c1 hq hc1 => ?_) (fun c1 => ?_)
    · obtain ⟨p1, p2⟩ := pl p hp
      obtain ⟨q1, q2⟩ := pl q (by omega)
      simp only [fn_46_46_47_L21_d1]
      rw [iteI_le_f hq (by omega), ck_in (by omega) (by omega), ix_nI (by omega), h1 q (by omega), q1, bd_t, ck_in (by omega) (by omega), ix_nI (by omega), h1 p hp, p1, bd_t, iteI_cnt (by omega) (by omega), nI_add, nI_add]
      cases decide (plx f g C p < plx f g C q) <;> rfl
    · simp only [fn_46_46_47_L21_d1]
      rw [iteI_le_t (by omega) (by omega)]
  · simp only [fn_46_46_47_L5]
    rw [iteI_le_t (by omega) (by omega)]
/-- both orders of the class -/
theorem c_two {Y : Sm} {c tu ro u pos : Nat} {P : Pm} {b : Bool} (h : R6 Y c P tu ro u pos b) (t1 t2 lo1 lo2 : Int32) : ∃ A Z, fn_159_0_46 t1 lo1 Y = some ((), A) ∧ fn_159_0_47 t2 lo2 A = some ((), Z) ∧ QC Y A ∧ QC Y Z ∧ Fr (KS [39, 40, 41, 43, 45, 46, 47]) Y Z ∧ OutOK P (gI Y.1 52 0) lo1 t1 (gI Z.1 46 0) ∧ OutOK P (gI Y.1 52 0) lo2 t2 (gI Z.1 47 0) := by
  obtain ⟨A, eA, fA, oA⟩ := c_v46 h t1 lo1
  have qA := QC.kf fA (by decide)
  obtain ⟨Z, eZ, fZ, oZ⟩ := c_v47 (h.q qA.f) t2 lo2
  rw [qA.m (by omega)] at oZ
  refine ⟨A, Z, eA, eZ, qA, qA.tr (QC.kf fZ (by decide)), (fA.up (KS.sub (by decide))).tr (fZ.up (KS.sub (by decide))), ?_, oZ⟩
  rw [fZ.gI (by unfold KS; decide)]
  exact oA
theorem ML.cgM {W Z : Sm} {P : Pm} {r : Nat → Int32} (h : ML W P r) (hq : QM W Z) (e : gI Z.1 52 0 = gI W.1 52 0) : ML Z P r :=
  ⟨h.1.cg (fun x h1 _ => hq.2.2.1 x (by omega)) (hq.2.1 49 0 (by decide)).1, e.trans h.2.1, (hq.2.2.1 19 (by omega)).trans h.2.2⟩
/-- the outcome is kept -/
theorem r_keep {W : Sm} {P : Pm} {l2 : Int32} (hM : MP W P) : lp (fun s => fn_247_L35 l2 s.1 s.2) FU (nI 0, W) = some (.inl (sF W 59 0 (fun q => if q < P.1 then gI W.1 58 0 q else gI W.1 59 0 q))) := by
  have h3 := hM.2.2.1
  refine lp_run (fun j => (nI j, sF W 59 0 (fun q => if q < j then gI W.1 58 0 q else gI W.1 59 0 q))) P.1 (FU_lt (by omega)) (fun j hj => ?_) ?_ ?_
  · have hMj : MP (sF W 59 0 (fun q => if q < j then gI W.1 58 0 q else gI W.1 59 0 q)) P := hM.sF (by omega) (by omega)
    simp only [fn_247_L35, hMj.1]
    rw [iteI_le_f hj (by omega), ck_in (by omega) (by omega), ix_nI (by omega), gI_sFk (by omega), wr_t, sI_s, nI_add]
    congr 4
    funext q
    by_cases d : q = j
    · rw [d, upd_at, if_pos (by omega)]
    · rw [upd_ne d]
      by_cases d2 : q < j
      · rw [if_pos d2, if_pos (by omega)]
      · rw [if_neg d2, if_neg (by omega)]
  · have hMj : MP (sF W 59 0 (fun q => if q < P.1 then gI W.1 58 0 q else gI W.1 59 0 q)) P := hM.sF (by omega) (by omega)
    simp only [fn_247_L35, hMj.1]
    rw [iteI_le_t (by omega) (by omega)]
  · show _ = (nI 0, sF W 59 0 (fun q => if q < 0 then gI W.1 58 0 q else gI W.1 59 0 q))
    have : (fun q => if q < 0 then gI W.1 58 0 q else gI W.1 59 0 q) = gI W.1 59 0 := by
      funext q
      rw [if_neg (by omega)]
    rw [this, sF_self]
theorem r_keep8 {W : Sm} {P : Pm} {l1 : Int32} (hM : MP W P) : lp (fun s => fn_248_L34 l1 s.1 s.2) FU (nI 0, W) = some (.inl (sF W 59 0 (fun q => if q < P.1 then gI W.1 58 0 q else gI W.1 59 0 q))) := r_keep (l2 := l1) hM
theorem r_246 {W : Sm} {k C : Nat} {f : Nat → Int32} (hC : C ≤ 5) (h : ∀ p, p < C → gI W.1 58 0 p = f p) (hk : srch (fun p => decide (f p = nI k)) C < C) : fn_246 (nI k) W = some (nI (srch (fun p => decide (f p = nI k)) C), W) := by
  unfold fn_246
  refine lp_find (fun p => decide (f p = nI k)) C (fun j => (nI j, W)) (by omega) hk (fun j hj hp => ?_) (fun j hj hp => ?_)
  · have hp := of_decide_eq_false hp
    simp (disch := omega) only [fn_246_L2, ck_in, ix_nI, pk_mul, nI_add, pk_sub, iteI_le_t, iteI_le_f, iteI_lt_t, iteI_lt_f, iteI_eq_t, iteI_eq_f, bd_t, wr_t, ite_m1_f, ite_m1_t, ↓reduceIte, h j hj, if_neg hp]
  · have hp := of_decide_eq_true hp
    simp (disch := omega) only [fn_246_L2, ck_in, ix_nI, pk_mul, nI_add, pk_sub, iteI_le_t, iteI_le_f, iteI_lt_t, iteI_lt_f, iteI_eq_t, iteI_eq_f, bd_t, wr_t, ite_m1_f, ite_m1_t, ↓reduceIte, h j hj, if_pos hp]
theorem r_L71 {W : Sm} {P : Pm} {f g : Nat → Int32} (hM : MP W P) (h1 : ∀ p, p < P.1 → gI W.1 59 0 p = f p) (h2 : ∀ p, p < P.1 → gI W.1 58 0 p = g p) (hf : OrdI f P.1) (hg : OrdI g P.1) : lp (fun s => fn_247_L71 s.1 s.2.1 s.2.2) FU (nI 0, nI 0, W) = some (nI (invA (plx f g P.1) P.1), W) := by
  have h3 := hM.2.2.1
  have hC := h3.2.1
  obtain ⟨a, a1, a2, a3, a4⟩ := ord_i hC hf
  obtain ⟨b, b1, b2, b3, b4⟩ := ord_i hC hg
  have pl : ∀ q, q < P.1 → fn_246 (f q) W = some (nI (plx f g P.1 q), W) ∧ plx f g P.1 q < P.1 := fun q hq => by
    unfold plx
    rw [(a1 q hq).2]
    obtain ⟨s1, s2⟩ := b3 (a q) (a1 q hq).1
    exact ⟨r_246 hC h2 s1, s1⟩
  refine m_ivout hC (fun p c0 hp hc0 => ?_) (fun c0 => ?_)
  · simp only [fn_247_L71, hM.1]
    rw [iteI_le_f hp (by omega), nI_add]
    refine m_ivin hC hp hc0 (fun q c1 hpq hq hc1 => ?_) (fun c1 => ?_)
    · obtain ⟨p1, p2⟩ := pl p hp
      obtain ⟨q1, q2⟩ := pl q (by omega)
      simp only [fn_247_L86_d1, hM.1]
      rw [iteI_le_f hq (by omega), ck_in (by omega) (by omega), ix_nI (by omega), h1 p hp, p1, bd_t, ck_in (by omega) (by omega), ix_nI (by omega), h1 q (by omega), q1, bd_t, iteI_cnt (by omega) (by omega), nI_add, nI_add]
      cases decide (plx f g P.1 q < plx f g P.1 p) <;> rfl
    · simp only [fn_247_L86_d1, hM.1]
      rw [iteI_le_t (by omega) (by omega)]
  · simp only [fn_247_L71, hM.1]
    rw [iteI_le_t (by omega) (by omega)]
theorem plx_cg {f f' g g' : Nat → Int32} {C : Nat} (h1 : ∀ p, p < C → f p = f' p) (h2 : ∀ p, p < C → g p = g' p) {q : Nat} (hq : q < C) : plx f g C q = plx f' g' C q := by
  unfold plx
  exact srch_cg (fun p hp => by rw [h1 q hq, h2 p hp])
theorem ok_23 {Y : Sm} {c : Nat} (a p : Int32) (h : RR Y c) : Cok (fn_313 a p) (fn_247 a p) Y c := by
  obtain ⟨P, tu, ro, u, pos, b, h⟩ := h
  obtain ⟨e0, t, n, m, s, hR, hG, _⟩ := h.cl
  have h3 := h.1.a8
  have hB := hG.2.2.2.2.2.2.1
  cases hb : inb a 3 with
  | false =>
    refine w_exc (F := fn_127 a p) (x := 1) (k := nI 1) h rfl (by decide) (fun _ => if_pos rfl) ⟨Y, ?_, QC.rf⟩ (fun W hq e => ⟨nI 0, sI W 48 0 0 (nI 1), ?_, QM.told, told_at⟩)
    · unfold fn_127
      rw [c_156, hb, cnd_f, bx_r]
    · unfold fn_247 fn_247_J19 fn_247_J20
      rw [r_isTally, hb, g_if, cnd_f, g_is0]
  | true =>
    cases hc : inb p 3 with
    | false =>
      refine w_exc (F := fn_127 a p) (x := 1) (k := nI 1) h rfl (by decide) (fun _ => if_pos rfl) ⟨Y, ?_, QC.rf⟩ (fun W hq e => ⟨nI 0, sI W 48 0 0 (nI 1), ?_, QM.told, told_at⟩)
      · unfold fn_127
        rw [c_156, hb, cnd_t, bx_l, c_156, hc, cnd_f, bx_r]
      · unfold fn_247 fn_247_J19 fn_247_J20
        rw [r_isTally, hb, g_if, cnd_t, r_isTally, hc, g_if, cnd_f, g_is0]
    | true =>
      obtain ⟨A, Z, eA, eZ, qA, qZ, fZ, o1, o2⟩ := c_two h a p (-1 : Int32) (-1 : Int32)
      have ho : OrdI (fun p => gI Y.1 52 0 (10 + p)) P.1 := hG.2.2.2.2.2.1
      have e5 : gI Z.1 5 (Z.2 0) 0 = nI P.1 := by
        rw [fZ.1, fZ.gI (by unfold KS; decide)]
        exact h.cp.1.1
      refine w_val (F := fn_127 a p) (v := nI (invA (plx (gI Z.1 46 0) (gI Z.1 47 0) P.1) P.1)) h rfl ⟨Z, ?_, qZ⟩ (fun W hq e => ?_)
      · unfold fn_127
        rw [c_156, hb, cnd_t, bx_l, c_156, hc, cnd_t, bx_l, eA, bd_t, eZ, bd_t, e5, c_4646 h3.2.1 (fun _ _ => rfl) (fun _ _ => rfl) (o1.ord ho) (o2.ord ho), bd_t]
      · have hT := (h.mw hq e).told (v := nI 0)
        obtain ⟨f1, ef1, of1⟩ := hT.tal hB a
        have hM1 : ML (sF (sI W 48 0 0 (nI 0)) 58 0 f1) P (gI Y.1 52 0) := hT.cgM (QM.sF (Or.inr (Or.inr (Or.inl rfl)))) (by rw [gI_sFk (by omega)])
        generalize hX : sF (sF (sI W 48 0 0 (nI 0)) 58 0 f1) 59 0 (fun q => if q < P.1 then gI (sF (sI W 48 0 0 (nI 0)) 58 0 f1).1 58 0 q else gI (sF (sI W 48 0 0 (nI 0)) 58 0 f1).1 59 0 q) = X
        have qX : QM (sF (sI W 48 0 0 (nI 0)) 58 0 f1) X := by rw [← hX]; exact QM.sF (Or.inr (Or.inr (Or.inr rfl)))
        have hMX : ML X P (gI Y.1 52 0) := hM1.cgM qX (by rw [← hX, gI_sFk (by omega)])
        obtain ⟨f2, ef2, of2⟩ := hMX.tal hB p
        refine ⟨sF X 58 0 f2, ?_, (QM.told.tr ((QM.sF (Or.inr (Or.inr (Or.inl rfl)))).tr qX)).tr (QM.sF (Or.inr (Or.inr (Or.inl rfl)))), by rw [gI_sFk (by omega), ← hX, gI_sFk (by omega), gI_sFk (by omega)]; exact told_at⟩
        have e71 := r_L71 (W := sF X 58 0 f2) (P := P) (f := f1) (g := f2) (hMX.1.sF (by omega) (by omega)) (fun p hp => by rw [gI_sFk (by omega), ← hX, gI_sFs, gI_sFs]; exact if_pos hp) (fun p hp => by rw [gI_sFs]) (of1.ord ho) (of2.ord ho)
        rw [invA_cg (y := plx (gI Z.1 46 0) (gI Z.1 47 0) P.1) (fun q hq => plx_cg (fun p hp => of1.uniq o1 hp) (fun p hp => of2.uniq o2 hp) hq)] at e71
        unfold fn_247 fn_247_J20
        rw [r_isTally, hb, g_if, cnd_t, r_isTally, hc, g_if, cnd_t, g_is1, ef1, bd_t, r_keep hM1.1, exd_l, hX]
        unfold fn_247_J61
        rw [ef2, bd_t, e71]
theorem ok_21 {Y : Sm} {c : Nat} (a : Int32) (h : RR Y c) : Cokb (fn_312 a) (fn_248 a) Y c := by
  obtain ⟨P, tu, ro, u, pos, b, h⟩ := h
  obtain ⟨e0, t, n, m, s, hR, hG, _⟩ := h.cl
  have h3 := h.1.a8
  have hB := hG.2.2.2.2.2.2.1
  have ho : OrdI (fun p => gI Y.1 52 0 (10 + p)) P.1 := hG.2.2.2.2.2.1
  cases hb : inb a P.2.1 with
  | false =>
    refine w_excb (F := fn_125 a) (x := 0) (k := nI 1) h rfl (by decide) (fun _ => if_pos rfl) ⟨Y, ?_, QC.rf⟩ (fun W hq e => ⟨false, sI W 48 0 0 (nI 1), ?_, QM.told, told_at⟩)
    · unfold fn_125
      rw [h.c154, hb, cnd_f, bx_r]
    · unfold fn_248
      rw [(h.mw hq e).ask, hb, bd_t, g_is, cnd_f]
      rfl
  | true =>
    obtain ⟨x, hx, rfl⟩ := inb_of hb (by omega)
    have e73 := c_73 (hR.pv h3) hx
    cases hd : decide (gI Y.1 52 0 (36 + x) < P.2.2.1 4) with
    | false =>
      refine w_valb (F := fn_125 (nI x)) (v := false) h rfl ⟨Y, ?_, QC.rf⟩ (fun W hq e => ⟨sI W 48 0 0 (nI 0), ?_, QM.told, told_at⟩)
      · unfold fn_125
        rw [h.c154, hb, cnd_t, bx_l, e73, hd, bd_t, bI_0, cnd_f]
        rfl
      · unfold fn_248
        rw [(h.mw hq e).ask, hb, bd_t, g_is, cnd_t, (h.mw hq e).told.counts hx, hd, bd_t, bI_0, cnd_f]
        rfl
    | true =>
      obtain ⟨A, Z, eA, eZ, qA, qZ, fZ, o1, o2⟩ := c_two h (gI Y.1 52 0 1) (gI Y.1 52 0 1) (-1 : Int32) (nI x)
      have e5 : gI Z.1 5 (Z.2 0) 0 = nI P.1 := by
        rw [fZ.1, fZ.gI (by unfold KS; decide)]
        exact h.cp.1.1
      have e21 : gI Y.1 21 0 2 = gI Y.1 52 0 1 := hR.a 1 (by omega)
      have a21 : gI A.1 21 0 2 = gI Y.1 52 0 1 := by
        rw [qA.i (by
          unfold S2
          simp only [List.mem_cons, List.mem_nil_iff, or_false]
          omega)]
        exact e21
      have hinv := plx_inv h3.2.1 (o1.ord ho) (o2.ord ho)
      have hile := invA_le (plx (gI Z.1 46 0) (gI Z.1 47 0) P.1) P.1 h3.2.1
      refine w_valb (F := fn_125 (nI x)) (v := decide (0 < invA (plx (gI Z.1 46 0) (gI Z.1 47 0) P.1) P.1)) h rfl ⟨Z, ?_, qZ⟩ (fun W hq e => ?_)
      · unfold fn_125
        rw [h.c154, hb, cnd_t, bx_l, e73, hd, bd_t, bI_0, cnd_t, e21, eA, bd_t, a21, eZ, bd_t, e5, c_4646 h3.2.1 (fun _ _ => rfl) (fun _ _ => rfl) (o1.ord ho) (o2.ord ho), bd_t, iteI_cnt (by omega) (by omega)]
        cases decide (0 < invA (plx (gI Z.1 46 0) (gI Z.1 47 0) P.1) P.1) <;> rfl
      · have hT := (h.mw hq e).told (v := nI 0)
        obtain ⟨f1, ef1, of1⟩ := hT.tal hB (gI Y.1 52 0 1)
        have hM1 : ML (sF (sI W 48 0 0 (nI 0)) 58 0 f1) P (gI Y.1 52 0) := hT.cgM (QM.sF (Or.inr (Or.inr (Or.inl rfl)))) (by rw [gI_sFk (by omega)])
        generalize hX : sF (sF (sI W 48 0 0 (nI 0)) 58 0 f1) 59 0 (fun q => if q < P.1 then gI (sF (sI W 48 0 0 (nI 0)) 58 0 f1).1 58 0 q else gI (sF (sI W 48 0 0 (nI 0)) 58 0 f1).1 59 0 q) = X
        have qX : QM (sF (sI W 48 0 0 (nI 0)) 58 0 f1) X := by rw [← hX]; exact QM.sF (Or.inr (Or.inr (Or.inr rfl)))
        have hMX : ML X P (gI Y.1 52 0) := hM1.cgM qX (by rw [← hX, gI_sFk (by omega)])
        have hMP : MP (sI X 48 0 19 (nI x)) P := hMX.1.cg (fun y h1 _ => by rw [gI_sIv, upd_ne (by omega)]) (by rw [gI_sIk (by omega)])
        have x52 : gI (sI X 48 0 19 (nI x)).1 52 0 = gI Y.1 52 0 := by rw [gI_sIk (by omega)]; exact hMX.2.1
        have et := r_tallies hMP (by rw [x52]; exact hB) (gI Y.1 52 0 1)
        rw [x52, gI_sIv, upd_at] at et
        have of2 : OutOK P (gI Y.1 52 0) (nI x) (gI Y.1 52 0 1) (outS P (gI Y.1 52 0) (nI x) (gI Y.1 52 0 1) (gI (sI X 48 0 19 (nI x)).1 58 0) P.1) := outc_ok P (gI Y.1 52 0) (nI x) (gI Y.1 52 0 1) (gI (sI X 48 0 19 (nI x)).1 58 0)
        generalize outS P (gI Y.1 52 0) (nI x) (gI Y.1 52 0 1) (gI (sI X 48 0 19 (nI x)).1 58 0) P.1 = f2 at et of2
        generalize hV : sI (sF (sI X 48 0 19 (nI x)) 58 0 f2) 48 0 19 (-1 : Int32) = V
        have q1 : QM W X := QM.told.tr ((QM.sF (Or.inr (Or.inr (Or.inl rfl)))).tr qX)
        have v58 : gI V.1 58 0 = f2 := by rw [← hV, gI_sIk (by omega), gI_sFs]
        have v59 : gI V.1 59 0 = gI X.1 59 0 := by rw [← hV, gI_sIk (by omega), gI_sFk (by omega), gI_sIk (by omega)]
        have v48 : ∀ y, y ≠ 19 → gI V.1 48 0 y = gI X.1 48 0 y := fun y hy => by rw [← hV, gI_sIv, upd_ne hy, gI_sFk (by omega), gI_sIv, upd_ne hy]
        have qV : QM W V := by
          refine q1.tr ⟨by rw [← hV]; rfl, fun k i hk => ⟨?_, by rw [← hV]; rfl⟩, fun y hy => ?_, fun q _ => ?_⟩
          · simp only [List.mem_cons, List.mem_nil_iff, or_false, not_or] at hk
            rw [← hV, gI_sIk (by omega), gI_sFk (by omega), gI_sIk (by omega)]
          · by_cases d : y = 19
            · rw [d, ← hV, gI_sIv, upd_at]; exact hMX.2.2.symm
            · exact v48 y d
          · rw [← hV, gI_sIk (by omega), gI_sFk (by omega), gI_sIk (by omega)]
        have hMV : MP V P := hMX.1.cg (fun y h1 _ => v48 y (by omega)) (by rw [← hV, gI_sIk (by omega), gI_sFk (by omega), gI_sIk (by omega)])
        refine ⟨V, ?_, qV, by rw [v48 0 (by omega), ← hX, gI_sFk (by omega), gI_sFk (by omega)]; exact told_at⟩
        unfold fn_248
        rw [(h.mw hq e).ask, hb, bd_t, g_is, cnd_t, hT.counts hx, hd, bd_t, bI_0, cnd_t, hT.2.1, ef1, bd_t, r_keep8 hM1.1, exd_l, hX]
        unfold fn_248_J60
        rw [wr_t, x52, et, bd_t, wr_t, hV]
        have sr := lp_srch (F := fun s => fn_248_L82 s.1 s.2) (Y := V) (fun q => !decide (f2 q = f1 q)) P.1 (fun j => (bI (!Nat.ble P.1 j), V)) (by omega) (fun j hj hp => ?_) (fun j hj hp => ?_) ?_
        · rw [sr]
          congr 3
          have key : (∀ q, q < P.1 → f2 q = f1 q) ↔ invA (plx (gI Z.1 46 0) (gI Z.1 47 0) P.1) P.1 = 0 := by
            rw [invA_0 (fun p hp => (hinv.1 p hp).1) (fun p q hp hq e => by rw [← (hinv.1 p hp).2, e, (hinv.1 q hq).2])]
            obtain ⟨ba, ba1, ba2, ba3, ba4⟩ := ord_i h3.2.1 (o1.ord ho)
            obtain ⟨bb, bb1, bb2, bb3, bb4⟩ := ord_i h3.2.1 (o2.ord ho)
            constructor
            · intro hq p hp
              have e1 : gI Z.1 47 0 p = gI Z.1 46 0 p := by rw [← o2.uniq of2 hp |>.symm, ← of1.uniq o1 hp]; exact hq p hp
              have e2 : plx (gI Z.1 46 0) (gI Z.1 47 0) P.1 p = srch (fun q => decide (gI Z.1 47 0 q = gI Z.1 47 0 p)) P.1 := by
                unfold plx
                rw [e1]
              rw [e2, (bb1 p hp).2]
              exact bb4 p hp
            · intro hq p hp
              have e1 := hq p hp
              have hl := (hinv.1 p hp).1
              have e3 := of_decide_eq_true (srch_yes (p := fun q => decide (gI Z.1 47 0 q = gI Z.1 46 0 p)) (n := P.1) hl)
              have e4 : srch (fun q => decide (gI Z.1 47 0 q = gI Z.1 46 0 p)) P.1 = p := e1
              rw [e4] at e3
              rw [of2.uniq o2 hp, of1.uniq o1 hp]
              exact e3
          by_cases g : ∀ q, q < P.1 → f2 q = f1 q
          · rw [key.mp g, srch_none (fun j hj => by rw [g j hj]; simp), nbl]
            rfl
          · have g0 : invA (plx (gI Z.1 46 0) (gI Z.1 47 0) P.1) P.1 ≠ 0 := fun z => g (key.mpr z)
            rw [decide_eq_true (Nat.pos_of_ne_zero g0)]
            rcases Nat.lt_or_ge (srch (fun q => !decide (f2 q = f1 q)) P.1) P.1 with w | w
            · rw [ble_f w]; rfl
            · exact absurd (fun q hq => by
                have := srch_no (p := fun q => !decide (f2 q = f1 q)) (n := P.1) (j := q) (by omega)
                rw [Bool.not_eq_false'] at this
                exact of_decide_eq_true this) g
        · have ej : gI X.1 59 0 j = f1 j := by rw [← hX, gI_sFs, gI_sFs]; exact if_pos hj
          rw [Bool.not_eq_false'] at hp
          simp only [fn_248_L82, hMV.1]
          rw [iteI_le_f hj (by omega), ck_in (by omega) (by omega), ix_nI (by omega), v58, v59, ej, if_pos (of_decide_eq_true hp), nI_add]
        · have ej : gI X.1 59 0 j = f1 j := by rw [← hX, gI_sFs, gI_sFs]; exact if_pos hj
          rw [Bool.not_eq_true'] at hp
          simp only [fn_248_L82, hMV.1]
          rw [iteI_le_f hj (by omega), ck_in (by omega) (by omega), ix_nI (by omega), v58, v59, ej, if_neg (of_decide_eq_false hp), ble_f hj]
          rfl
        · simp only [fn_248_L82, hMV.1]
          rw [iteI_le_t (by omega) (by omega), nbl]
          rfl
