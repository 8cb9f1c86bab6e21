/-! the class's tick: taking up, passing the turn -/
theorem c_90 {Y : Sm} {n q m : Nat} {P : Pm} {r : Nat → Int32} (hL : LN P r q) (ho : OrdI (fun p => r (10 + p)) P.1) (h9 : r 9 = nI q) (h : CR Y n P r q m) : ∃ Z, fn_90 n Y = some ((), Z) ∧ Fr (SS n) Y Z ∧ CR Z n P (takS r q P.1) q m := by
  have h3 := hL.1
  have hq := hL.2.1
  unfold fn_90
  have hstep : ∀ j, j < P.1 → fn_90_L2 n (nI j) Y = if (!hasS (r 4) (r (10 + j)) && !Nat.ble q (lineN r q (r (10 + j)) (nI 0))) = true then some (.inr (.inl (inLineS r q (r (10 + j)) (nI 0), Y))) else some (.inl (nI (j + 1), Y)) := fun j hj => by
    obtain ⟨k, hk, ek⟩ := ho.2 j hj
    have ek : r (10 + j) = nI k := ek
    have e22 : gI Y.1 22 n j = nI k := (h.k j hj).1.trans ek
    simp only [fn_90_L2, h.p.1.1]
    simp (disch := omega) only [ck_in, ix_nI, pk_mul, nI_add, pk_sub, iteI_le_t, iteI_le_f, iteI_lt_t, iteI_lt_f, iteI_eq_t, iteI_eq_f, bd_t, wr_t, ite_m1_f, ite_m1_t, ↓reduceIte, e22]
    rw [c_74 h.a (by omega), ek, bd_t]
    cases hh : hasS (r 4) (nI k) with
    | true =>
      rw [if_neg (by decide), if_neg (by simp)]
      unfold fn_90_J40_d1
      rw [if_pos rfl, nI_add]
    | false =>
      rw [if_pos (by decide), e22, c_76 hL h9 h.q h.k h.u, bd_t, inLineS_eq]
      unfold fn_90_J40_d1
      rcases Nat.lt_or_ge (lineN r q (nI k) (nI 0)) q with c | c
      · rw [ble_f c, cnd_f, if_neg (nI_ne_m1 (by omega)), if_pos (by decide)]
      · rw [ble_t c, cnd_t, if_pos rfl, if_neg (by decide), nI_add]
  have e : lp (fun s => fn_90_L2 n s.1 s.2) FU (nI 0, Y) = some ((fun j => cond (Nat.ble P.1 j) (Sum.inr ((), Y)) (Sum.inl (inLineS r q (r (10 + j)) (nI 0), Y))) (nxtN r q P.1)) := by
    refine lp_srch (fun j => !hasS (r 4) (r (10 + j)) && !Nat.ble q (lineN r q (r (10 + j)) (nI 0))) P.1 (fun j => cond (Nat.ble P.1 j) (Sum.inr ((), Y)) (Sum.inl (inLineS r q (r (10 + j)) (nI 0), Y))) (by omega) (fun j hj hp => ?_) (fun j hj hp => ?_) ?_
    · rw [hstep j hj]
      exact if_neg (by rw [hp]; decide)
    · rw [hstep j hj, ble_f hj, cnd_f]
      exact if_pos hp
    · simp only [fn_90_L2, h.p.1.1]
      rw [iteI_le_t (Nat.le_refl _) (by omega), nbl, cnd_t]
  rw [e]
  unfold takS
  rcases Nat.lt_or_ge (nxtN r q P.1) P.1 with c | c
  · have hy := srch_yes (p := fun j => !hasS (r 4) (r (10 + j)) && !Nat.ble q (lineN r q (r (10 + j)) (nI 0))) c
    have hb : Nat.ble q (lineN r q (r (10 + nxtN r q P.1)) (nI 0)) = false := by
      have := (Bool.and_eq_true_iff.mp hy).2
      rwa [Bool.not_eq_true'] at this
    have hl : lineN r q (r (10 + nxtN r q P.1)) (nI 0) < q := by
      rcases Nat.lt_or_ge (lineN r q (r (10 + nxtN r q P.1)) (nI 0)) q with z | z
      · exact z
      · rw [ble_t z] at hb; cases hb
    generalize hi : lineN r q (r (10 + nxtN r q P.1)) (nI 0) = i at hb hl ⊢
    refine ⟨sI Y 12 (n + 3) 2 (rq r i 0), ?_, Fr.sI (Or.inr (Or.inr (Or.inl ⟨rfl, by decide⟩))), ?_⟩
    · simp only [ble_f c, cnd_f, exd_l, inLineS_eq]
      unfold fn_90_J46
      rw [hi, hb, cnd_f, c_39 h.q h9 hq (Or.inr ⟨i, hl, rfl⟩), bd_t, if_neg (nI_ne_m1 (by omega)), ix_nI (by omega), wr_t]
    · rw [ble_f c, cnd_f]
      have e : ∀ x, x ≠ 8 → upd r 8 (rq r i 0) x = r x := fun x hx => upd_ne hx
      have g : ∀ k i', ¬ (k = 12 ∧ i' = n + 3) → gI (sI Y 12 (n + 3) 2 (rq r i 0)).1 k i' = gI Y.1 k i' := fun k i' hk => by rw [sI_sF, gI_sF, if_neg hk]
      refine ⟨h.p.cg (g _ _ (by omega)) (g _ _ (by omega)) (g _ _ (by omega)), h.a.cg (g _ _ (by omega)) (fun x hx => e x (by omega)), ⟨⟨?_, ?_⟩, fun j hj => ?_⟩, h.k.cg (g _ _ (by omega)) (g _ _ (by omega)) (g _ _ (by omega)) rfl (fun k _ => ⟨e _ (by omega), e _ (by omega), e _ (by omega), e _ (by omega)⟩), h.u.cg (g _ _ (by omega)) (g _ _ (by omega)) (g _ _ (by omega)) (g _ _ (by omega)) (g _ _ (by omega)) (g _ _ (by omega)) (fun x _ _ => e x (by omega)) h3.2.2.2, h.b.cg (fun a _ => g _ _ (by omega)) (fun a p _ _ => e _ (by omega)), h.l.cg (g _ _ (by omega)) (g _ _ (by omega)) (fun x _ _ => e x (by omega))⟩
      · rw [gI_sIv, upd_ne (by omega), e 9 (by omega)]; exact h.q.1.1
      · rw [gI_sIv, upd_at, upd_at]
      · have er : ∀ w, w < 6 → rq (upd r 8 (rq r i 0)) j w = rq r j w := fun w _ => e _ (by omega)
        rw [er 0 (by omega), er 1 (by omega), er 2 (by omega), er 3 (by omega), er 4 (by omega), er 5 (by omega), g _ _ (by omega), g _ _ (by omega), g _ _ (by omega), g _ _ (by omega), g _ _ (by omega), g _ _ (by omega)]
        exact h.q.2 j hj
  · refine ⟨Y, ?_, Fr.rf, ?_⟩
    · simp only [ble_t c, cnd_t, exd_r]
    · rw [ble_t c, cnd_t]; exact h

