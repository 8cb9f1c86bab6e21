/-! a state begins, on both sides -/
theorem c_43_22 (i : Nat) (Y : Sm) : fn_43_22 i Y = some ((), sF Y 22 i (fun q => if q < 5 then nI q else gI Y.1 22 i q)) := by
  unfold fn_43_22
  refine lp_run (fun j => (nI j, sF Y 22 i (fun q => if q < j then nI q else gI Y.1 22 i q))) 5 (FU_lt (by omega)) (fun j hj => ?_) ?_ ?_
  · simp only [fn_43_22_L2]
    rw [iteI_le_f hj (by omega), ck_in hj (by omega), ix_nI (by omega), wr_t, sI_s, nI_add]
    congr 4
    funext q
    by_cases d : q = j
    · rw [d, upd_at, if_pos (by omega)]
    · rw [upd_ne d]
      by_cases d2 : q < j
      · rw [if_pos d2, if_pos (by omega)]
      · rw [if_neg d2, if_neg (by omega)]
  · simp only [fn_43_22_L2]
    rw [iteI_le_t (Nat.le_refl _) (by omega)]
  · show _ = (nI 0, sF Y 22 i (fun q => if q < 0 then nI q else gI Y.1 22 i q))
    have : (fun q => if q < 0 then nI q else gI Y.1 22 i q) = gI Y.1 22 i := funext fun q => if_neg (by omega)
    rw [this, sF_self]
theorem c_43_27 (i : Nat) (Y : Sm) : fn_43_27 i Y = some ((), sF Y 27 i (fun q => if q < 5 then nI q else gI Y.1 27 i q)) := by
  unfold fn_43_27
  refine lp_run (fun j => (nI j, sF Y 27 i (fun q => if q < j then nI q else gI Y.1 27 i q))) 5 (FU_lt (by omega)) (fun j hj => ?_) ?_ ?_
  · simp only [fn_43_27_L2]
    rw [iteI_le_f hj (by omega), ck_in hj (by omega), ix_nI (by omega), wr_t, sI_s, nI_add]
    congr 4
    funext q
    by_cases d : q = j
    · rw [d, upd_at, if_pos (by omega)]
    · rw [upd_ne d]
      by_cases d2 : q < j
      · rw [if_pos d2, if_pos (by omega)]
      · rw [if_neg d2, if_neg (by omega)]
  · simp only [fn_43_27_L2]
    rw [iteI_le_t (Nat.le_refl _) (by omega)]
  · show _ = (nI 0, sF Y 27 i (fun q => if q < 0 then nI q else gI Y.1 27 i q))
    have : (fun q => if q < 0 then nI q else gI Y.1 27 i q) = gI Y.1 27 i := funext fun q => if_neg (by omega)
    rw [this, sF_self]
def K0 (l : List Nat) (k i : Nat) : Prop := i = 0 ∧ k ∈ l
theorem c_l63 (Y : Sm) (d : Nat) : ∃ Z, lp (fun s => fn_71_L63 0 d s.1 s.2) FU (nI 0, Y) = some (.inl Z) ∧ Fr (K0 [23, 24, 25]) Y Z ∧ ∀ q, q < 5 → gI Z.1 23 0 q = gI Y.1 7 d q ∧ gI Z.1 24 0 q = nI 0 ∧ gJ Z.1 25 0 q = Int64.ofNat 0 := by
  have key := Ok_lp (F := fun s => fn_71_L63 0 d s.1 s.2) (Q := fun x => ∃ Z, x = .inl Z ∧ Fr (K0 [23, 24, 25]) Y Z ∧ ∀ q, q < 5 → gI Z.1 23 0 q = gI Y.1 7 d q ∧ gI Z.1 24 0 q = nI 0 ∧ gJ Z.1 25 0 q = Int64.ofNat 0) (fun j s => s.1 = nI j ∧ Fr (K0 [23, 24, 25]) Y s.2 ∧ ∀ q, q < j → gI s.2.1 23 0 q = gI Y.1 7 d q ∧ gI s.2.1 24 0 q = nI 0 ∧ gJ s.2.1 25 0 q = Int64.ofNat 0) 5 (N := FU) (FU_lt (by omega)) (s := (nI 0, Y)) ?_ ?_ ?_
  · obtain ⟨x, ex, Z, rfl, hZ⟩ := key
    exact ⟨Z, ex, hZ⟩
  · rintro j ⟨l, X⟩ hj ⟨E, hF, h⟩
    have E : l = nI j := E
    subst E
    have hF : Fr (K0 [23, 24, 25]) Y X := hF
    have x7 : gI X.1 7 d j = gI Y.1 7 d j := by rw [hF.gI (fun q => absurd q.2 (by decide))]
    have m : ∀ k, k ∈ [23, 24, 25] → K0 [23, 24, 25] k 0 := fun k hk => ⟨rfl, hk⟩
    refine ⟨.inl (nI (j + 1), sJ (sI (sI X 23 0 j (gI Y.1 7 d j)) 24 0 j (nI 0)) 25 0 j (Int64.ofNat 0)), ?_, rfl, hF.tr (((Fr.sI (m 23 (by decide))).tr (Fr.sI (m 24 (by decide)))).tr (Fr.sJ (m 25 (by decide)))), fun q hq => ?_⟩
    · simp only [fn_71_L63]
      rw [iteI_le_f hj (by omega), ck_in hj (by omega), ix_nI (by omega), x7, wr_t, wr_t, wr_t, nI_add]
    · show gI (sJ (sI (sI X 23 0 j (gI Y.1 7 d j)) 24 0 j (nI 0)) 25 0 j (Int64.ofNat 0)).1 23 0 q = _ ∧ gI (sJ (sI (sI X 23 0 j (gI Y.1 7 d j)) 24 0 j (nI 0)) 25 0 j (Int64.ofNat 0)).1 24 0 q = _ ∧ gJ (sJ (sI (sI X 23 0 j (gI Y.1 7 d j)) 24 0 j (nI 0)) 25 0 j (Int64.ofNat 0)).1 25 0 q = _
      rw [gI_sJ, gI_sIk (by omega), gI_sIv, gI_sIv, gI_sIk (by omega), gJ_sJ, gJ_sI, gJ_sI]
      by_cases c : q = j
      · rw [c, upd_at, upd_at, if_pos ⟨rfl, rfl, rfl⟩]
        exact ⟨rfl, rfl, rfl⟩
      · rw [upd_ne c, upd_ne c, if_neg (fun z => c z.2.2)]
        exact h q (by omega)
  · rintro ⟨l, X⟩ ⟨E, hF, h⟩
    have E : l = nI 5 := E
    subst E
    refine ⟨.inr (.inl X), ?_, X, rfl, hF, h⟩
    simp only [fn_71_L63]
    rw [iteI_le_t (Nat.le_refl _) (by omega)]
  · exact ⟨rfl, Fr.rf, fun q hq => absurd hq (Nat.not_lt_zero _)⟩
theorem c_l102 (Y : Sm) (d : Nat) : ∃ Z, lp (fun s => fn_71_L102 0 d s.1 s.2) FU (nI 0, Y) = some (.inl Z) ∧ Fr (K27 0) Y Z ∧ ∀ a p, a < 8 → p < 5 → gI Z.1 27 a p = nI p := by
  have key := Ok_lp (F := fun s => fn_71_L102 0 d s.1 s.2) (Q := fun x => ∃ Z, x = .inl Z ∧ Fr (K27 0) Y Z ∧ ∀ a p, a < 8 → p < 5 → gI Z.1 27 a p = nI p) (fun j s => s.1 = nI j ∧ Fr (K27 0) Y s.2 ∧ ∀ a p, a < j → p < 5 → gI s.2.1 27 a p = nI p) 8 (N := FU) (FU_lt (by omega)) (s := (nI 0, Y)) ?_ ?_ ?_
  · obtain ⟨x, ex, Z, rfl, hZ⟩ := key
    exact ⟨Z, ex, hZ⟩
  · rintro j ⟨l, X⟩ hj ⟨E, hF, h⟩
    have E : l = nI j := E
    subst E
    have hF : Fr (K27 0) Y X := hF
    refine ⟨.inl (nI (j + 1), sF X 27 j (fun q => if q < 5 then nI q else gI X.1 27 j q)), ?_, rfl, hF.tr (Fr.sF ⟨rfl, by omega, by omega⟩), fun a p ha hp => ?_⟩
    · simp only [fn_71_L102]
      rw [iteI_le_f hj (by omega), ck_in hj (by omega), ix_nI (by omega), show 8 * 0 + j = j by omega, c_43_27, bd_t, nI_add]
    · show gI (sF X 27 j (fun q => if q < 5 then nI q else gI X.1 27 j q)).1 27 a p = _
      rw [gI_sF]
      by_cases c : a = j
      · rw [if_pos ⟨rfl, c⟩, if_pos hp]
      · rw [if_neg (fun z => c z.2)]
        exact h a p (by omega) hp
  · rintro ⟨l, X⟩ ⟨E, hF, h⟩
    have E : l = nI 8 := E
    subst E
    refine ⟨.inr (.inl X), ?_, X, rfl, hF, h⟩
    simp only [fn_71_L102]
    rw [iteI_le_t (Nat.le_refl _) (by omega)]
  · exact ⟨rfl, Fr.rf, fun a p ha => absurd ha (Nat.not_lt_zero _)⟩
theorem c_1 (Y : Sm) (d : Nat) : ∃ Z, fn_1 0 d Y = some ((), Z) ∧ Fr (K0 [29, 30, 31, 32, 33, 34]) Y Z ∧ ∀ a, a < 8 → gI Z.1 29 0 a = gI Y.1 9 d a ∧ gI Z.1 30 0 a = nI 0 ∧ gI Z.1 31 0 a = nI 0 ∧ gI Z.1 34 0 a = nI 0 ∧ gI Z.1 32 0 a = nI 0 ∧ gI Z.1 33 0 a = nI 0 := by
  unfold fn_1
  have key := Ok_lp (F := fun s => fn_1_L2 0 d s.1 s.2) (Q := fun x => ∃ Z, x = ((), Z) ∧ Fr (K0 [29, 30, 31, 32, 33, 34]) Y Z ∧ ∀ a, a < 8 → gI Z.1 29 0 a = gI Y.1 9 d a ∧ gI Z.1 30 0 a = nI 0 ∧ gI Z.1 31 0 a = nI 0 ∧ gI Z.1 34 0 a = nI 0 ∧ gI Z.1 32 0 a = nI 0 ∧ gI Z.1 33 0 a = nI 0) (fun j s => s.1 = nI j ∧ Fr (K0 [29, 30, 31, 32, 33, 34]) Y s.2 ∧ ∀ a, a < j → gI s.2.1 29 0 a = gI Y.1 9 d a ∧ gI s.2.1 30 0 a = nI 0 ∧ gI s.2.1 31 0 a = nI 0 ∧ gI s.2.1 34 0 a = nI 0 ∧ gI s.2.1 32 0 a = nI 0 ∧ gI s.2.1 33 0 a = nI 0) 8 (N := FU) (FU_lt (by omega)) (s := (nI 0, Y)) ?_ ?_ ?_
  · obtain ⟨x, ex, Z, rfl, hZ⟩ := key
    exact ⟨Z, ex, hZ⟩
  · rintro j ⟨l, X⟩ hj ⟨E, hF, h⟩
    have E : l = nI j := E
    subst E
    have hF : Fr (K0 [29, 30, 31, 32, 33, 34]) Y X := hF
    have x9 : gI X.1 9 d j = gI Y.1 9 d j := by rw [hF.gI (fun q => absurd q.2 (by decide))]
    have m : ∀ k, k ∈ [29, 30, 31, 32, 33, 34] → K0 [29, 30, 31, 32, 33, 34] k 0 := fun k hk => ⟨rfl, hk⟩
    generalize hU : sI (sI (sI (sI (sI (sI X 29 0 j (gI Y.1 9 d j)) 30 0 j (nI 0)) 31 0 j (nI 0)) 32 0 j (nI 0)) 33 0 j (nI 0)) 34 0 j (nI 0) = U
    refine ⟨.inl (nI (j + 1), U), ?_, rfl, ?_, fun a ha => ?_⟩
    · simp only [fn_1_L2]
      rw [iteI_le_f hj (by omega), ck_in hj (by omega), ix_nI (by omega), x9, wr_t, wr_t, wr_t, wr_t, wr_t, wr_t, nI_add, hU]
    · rw [← hU]
      exact hF.tr ((((((Fr.sI (m 29 (by decide))).tr (Fr.sI (m 30 (by decide)))).tr (Fr.sI (m 31 (by decide)))).tr (Fr.sI (m 32 (by decide)))).tr (Fr.sI (m 33 (by decide)))).tr (Fr.sI (m 34 (by decide))))
    · show gI U.1 29 0 a = _ ∧ gI U.1 30 0 a = _ ∧ gI U.1 31 0 a = _ ∧ gI U.1 34 0 a = _ ∧ gI U.1 32 0 a = _ ∧ gI U.1 33 0 a = _
      have u29 : gI U.1 29 0 = upd (gI X.1 29 0) j (gI Y.1 9 d j) := by rw [← hU, gI_sIk (by omega), gI_sIk (by omega), gI_sIk (by omega), gI_sIk (by omega), gI_sIk (by omega), gI_sIv]
      have u30 : gI U.1 30 0 = upd (gI X.1 30 0) j (nI 0) := by rw [← hU, gI_sIk (by omega), gI_sIk (by omega), gI_sIk (by omega), gI_sIk (by omega), gI_sIv, gI_sIk (by omega)]
      have u31 : gI U.1 31 0 = upd (gI X.1 31 0) j (nI 0) := by rw [← hU, gI_sIk (by omega), gI_sIk (by omega), gI_sIk (by omega), gI_sIv, gI_sIk (by omega), gI_sIk (by omega)]
      have u32 : gI U.1 32 0 = upd (gI X.1 32 0) j (nI 0) := by rw [← hU, gI_sIk (by omega), gI_sIk (by omega), gI_sIv, gI_sIk (by omega), gI_sIk (by omega), gI_sIk (by omega)]
      have u33 : gI U.1 33 0 = upd (gI X.1 33 0) j (nI 0) := by rw [← hU, gI_sIk (by omega), gI_sIv, gI_sIk (by omega), gI_sIk (by omega), gI_sIk (by omega), gI_sIk (by omega)]
      have u34 : gI U.1 34 0 = upd (gI X.1 34 0) j (nI 0) := by rw [← hU, gI_sIv, gI_sIk (by omega), gI_sIk (by omega), gI_sIk (by omega), gI_sIk (by omega), gI_sIk (by omega)]
      rw [u29, u30, u31, u32, u33, u34]
      by_cases c : a = j
      · rw [c, upd_at, upd_at, upd_at, upd_at, upd_at, upd_at]
        exact ⟨rfl, rfl, rfl, rfl, rfl, rfl⟩
      · rw [upd_ne c, upd_ne c, upd_ne c, upd_ne c, upd_ne c, upd_ne c]
        exact h a (by omega)
  · rintro ⟨l, X⟩ ⟨E, hF, h⟩
    have E : l = nI 8 := E
    subst E
    refine ⟨.inr ((), X), ?_, X, rfl, hF, h⟩
    simp only [fn_1_L2]
    rw [iteI_le_t (Nat.le_refl _) (by omega)]
  · exact ⟨rfl, Fr.rf, fun q hq => absurd hq (Nat.not_lt_zero _)⟩
theorem c_35 {Y : Sm} {i0 i1 : Nat} (hne : i1 ≠ i0) : ∃ Z, fn_35 i0 i1 Y = some ((), Z) ∧ Fr (fun k i => i = i0 ∧ k ∈ [12, 14, 15, 16, 17, 18, 19]) Y Z ∧ (gI Z.1 12 i0 1 = gI Y.1 12 i1 1 ∧ gI Z.1 12 i0 2 = gI Y.1 12 i1 2) ∧ ∀ j, j < 40 → gI Z.1 19 i0 j = gI Y.1 19 i1 j ∧ gI Z.1 14 i0 j = gI Y.1 14 i1 j ∧ gI Z.1 15 i0 j = gI Y.1 15 i1 j ∧ gI Z.1 16 i0 j = gI Y.1 16 i1 j ∧ gI Z.1 17 i0 j = gI Y.1 17 i1 j ∧ gI Z.1 18 i0 j = gI Y.1 18 i1 j := by
  have m : ∀ k, k ∈ [12, 14, 15, 16, 17, 18, 19] → (i0 = i0 ∧ k ∈ [12, 14, 15, 16, 17, 18, 19]) := fun k hk => ⟨rfl, hk⟩
  unfold fn_35
  simp only [sC_sF]
  rw [wr_t, wr_t]
  have e2 : gI (sI Y 12 i0 1 (gI Y.1 12 i1 1)).1 12 i1 2 = gI Y.1 12 i1 2 := by
    rw [gI_sI, if_neg (fun q => hne q.2.1)]
  rw [e2]
  generalize hA : sI (sI Y 12 i0 1 (gI Y.1 12 i1 1)) 12 i0 2 (gI Y.1 12 i1 2) = A
  have a12 : gI A.1 12 i0 1 = gI Y.1 12 i1 1 ∧ gI A.1 12 i0 2 = gI Y.1 12 i1 2 := by
    rw [← hA, gI_sIv, upd_ne (by omega), gI_sIv, upd_at, upd_at]
    exact ⟨rfl, rfl⟩
  have ao : ∀ k, k ≠ 12 → gI A.1 k = gI Y.1 k := fun k hk => by rw [← hA, gI_sIk hk, gI_sIk hk]
  have fA : Fr (fun k i => i = i0 ∧ k ∈ [12, 14, 15, 16, 17, 18, 19]) Y A := by
    rw [← hA]
    exact (Fr.sI (m 12 (by decide))).tr (Fr.sI (m 12 (by decide)))
  simp only [wr_t]
  generalize hB : sF A 14 i0 (va_cpy (gI A.1 14 i1) (gI A.1 14 i0) 0 0 40) = B
  generalize hC : sF B 15 i0 (va_cpy (gI B.1 15 i1) (gI B.1 15 i0) 0 0 40) = C
  generalize hD : sF C 16 i0 (va_cpy (gI C.1 16 i1) (gI C.1 16 i0) 0 0 40) = D
  generalize hE : sF D 17 i0 (va_cpy (gI D.1 17 i1) (gI D.1 17 i0) 0 0 40) = E
  generalize hF : sF E 18 i0 (va_cpy (gI E.1 18 i1) (gI E.1 18 i0) 0 0 40) = F
  generalize hG : sF F 19 i0 (va_cpy (gI F.1 19 i1) (gI F.1 19 i0) 0 0 40) = G
  have b : ∀ k, k ≠ 14 → gI B.1 k = gI A.1 k := fun k hk => by rw [← hB]; funext i; rw [gI_sFk hk]
  have c : ∀ k, k ≠ 15 → gI C.1 k = gI B.1 k := fun k hk => by rw [← hC]; funext i; rw [gI_sFk hk]
  have d : ∀ k, k ≠ 16 → gI D.1 k = gI C.1 k := fun k hk => by rw [← hD]; funext i; rw [gI_sFk hk]
  have e : ∀ k, k ≠ 17 → gI E.1 k = gI D.1 k := fun k hk => by rw [← hE]; funext i; rw [gI_sFk hk]
  have f : ∀ k, k ≠ 18 → gI F.1 k = gI E.1 k := fun k hk => by rw [← hF]; funext i; rw [gI_sFk hk]
  have g : ∀ k, k ≠ 19 → gI G.1 k = gI F.1 k := fun k hk => by rw [← hG]; funext i; rw [gI_sFk hk]
  refine ⟨G, rfl, ?_, ?_, fun j hj => ⟨?_, ?_, ?_, ?_, ?_, ?_⟩⟩
  · rw [← hG, ← hF, ← hE, ← hD, ← hC, ← hB]
    exact (((((fA.tr (Fr.sF (m 14 (by decide)))).tr (Fr.sF (m 15 (by decide)))).tr (Fr.sF (m 16 (by decide)))).tr (Fr.sF (m 17 (by decide)))).tr (Fr.sF (m 18 (by decide)))).tr (Fr.sF (m 19 (by decide)))
  · rw [g 12 (by omega), f 12 (by omega), e 12 (by omega), d 12 (by omega), c 12 (by omega), b 12 (by omega)]
    exact a12
  · rw [← hG, gI_sFs, cp0 hj, f 19 (by omega), e 19 (by omega), d 19 (by omega), c 19 (by omega), b 19 (by omega), ao 19 (by omega)]
  · rw [g 14 (by omega), f 14 (by omega), e 14 (by omega), d 14 (by omega), c 14 (by omega), ← hB, gI_sFs, cp0 hj, ao 14 (by omega)]
  · rw [g 15 (by omega), f 15 (by omega), e 15 (by omega), d 15 (by omega), ← hC, gI_sFs, cp0 hj, b 15 (by omega), ao 15 (by omega)]
  · rw [g 16 (by omega), f 16 (by omega), e 16 (by omega), ← hD, gI_sFs, cp0 hj, c 16 (by omega), b 16 (by omega), ao 16 (by omega)]
  · rw [g 17 (by omega), f 17 (by omega), ← hE, gI_sFs, cp0 hj, d 17 (by omega), c 17 (by omega), b 17 (by omega), ao 17 (by omega)]
  · rw [g 18 (by omega), ← hF, gI_sFs, cp0 hj, e 18 (by omega), d 18 (by omega), c 18 (by omega), b 18 (by omega), ao 18 (by omega)]
/-- what a fresh row is made of -/
def Rw (X : Sm) (d : Nat) (P : Pm) (r : Nat → Int32) (n : Nat) : Prop := (CP X d P ∧ r 0 = nI 0 ∧ gI X.1 5 d 7 = r 1 ∧ r 2 = nI 0 ∧ r 3 = nI 0 ∧ r 4 = nI 0 ∧ r 5 = nI 0 ∧ r 6 = nI n ∧ r 7 = nI 0 ∧ r 8 = (-1 : Int32) ∧ r 9 = nI n) ∧ (gI X.1 12 d 1 = nI n ∧ gI X.1 12 d 2 = (-1 : Int32)) ∧ (∀ k, k < P.1 → r (10 + k) = nI k ∧ gI X.1 7 d k = r (15 + k) ∧ r (68 + k) = nI 0 ∧ r (73 + k) = nI 0) ∧ (∀ a, a < P.2.1 → gI X.1 9 d a = r (20 + a) ∧ r (28 + a) = nI 0 ∧ r (36 + a) = nI 0 ∧ r (44 + a) = nI 0 ∧ r (52 + a) = nI 0 ∧ r (60 + a) = nI 0) ∧ (∀ a p, a < P.2.1 → p < P.1 → bal r a p = nI p) ∧ ∀ j, j < n → gI X.1 19 d j = rq r j 0 ∧ gI X.1 14 d j = rq r j 1 ∧ gI X.1 15 d j = rq r j 2 ∧ gI X.1 16 d j = rq r j 3 ∧ gI X.1 17 d j = rq r j 4 ∧ gI X.1 18 d j = rq r j 5
theorem c_71 {X : Sm} {d n : Nat} {P : Pm} {r : Nat → Int32} (h3 : 0 < P.1 ∧ P.1 ≤ 5 ∧ 0 < P.2.1 ∧ P.2.1 ≤ 8) (hd : d < 3) (hn : n ≤ 40) (h : Rw X d P r n) : ∃ Z, fn_71 0 d X = some ((), Z) ∧ Fr (S2 0) (sG X 3 d) Z ∧ CR Z 0 P r n 0 := by
  obtain ⟨⟨hP, r0, r1, r2, r3, r4, r5, r6, r7, r8, r9⟩, ⟨q1, q2⟩, hK, hA, hB, hQ⟩ := h
  have m21 : S2 0 21 0 := Or.inl ⟨rfl, by decide⟩
  unfold fn_71
  rw [wr_t, wr_t, wr_t, wr_t, wr_t, wr_t, wr_t, wr_t, wr_t, c_43_22, bd_t]
  have e57 : gI (sI (sG X (0 + 3) d) 21 0 1 (nI 0)).1 5 d 7 = r 1 := by rw [gI_sIk (by omega), gI_sG]; exact r1
  have e121 : gI (sI (sI (sI (sI (sI (sI (sG X (0 + 3) d) 21 0 1 (nI 0)) 21 0 2 (r 1)) 21 0 3 (nI 0)) 21 0 4 (nI 0)) 21 0 5 (nI 0)) 21 0 6 (nI 0)).1 12 d 1 = nI n := by
    rw [gI_sIk (by omega), gI_sIk (by omega), gI_sIk (by omega), gI_sIk (by omega), gI_sIk (by omega), gI_sIk (by omega), gI_sG]; exact q1
  rw [e57, e121]
  generalize hU : sI (sI (sI (sI (sI (sI (sI (sI (sG X (0 + 3) d) 21 0 1 (nI 0)) 21 0 2 (r 1)) 21 0 3 (nI 0)) 21 0 4 (nI 0)) 21 0 5 (nI 0)) 21 0 6 (nI 0)) 21 0 7 (nI n)) 21 0 8 (nI 0) = U
  have fU : Fr (S2 0) (sG X 3 d) U := by
    rw [← hU]
    exact (((((((Fr.sI m21).tr (Fr.sI m21)).tr (Fr.sI m21)).tr (Fr.sI m21)).tr (Fr.sI m21)).tr (Fr.sI m21)).tr (Fr.sI m21)).tr (Fr.sI m21)
  have u21 : ∀ x, x < 8 → gI U.1 21 0 (x + 1) = r x := fun x hx => by
    have hx' : x = 0 ∨ x = 1 ∨ x = 2 ∨ x = 3 ∨ x = 4 ∨ x = 5 ∨ x = 6 ∨ x = 7 := by omega
    rw [← hU]
    simp (disch := omega) only [gI_sIv]
    rcases hx' with rfl | rfl | rfl | rfl | rfl | rfl | rfl | rfl
    · rw [r0]; rfl
    · rfl
    · rw [r2]; rfl
    · rw [r3]; rfl
    · rw [r4]; rfl
    · rw [r5]; rfl
    · rw [r6]; rfl
    · rw [r7]; rfl
  generalize hV : sF U 22 0 (fun q => if q < 5 then nI q else gI U.1 22 0 q) = V
  have fV : Fr (S2 0) U V := by rw [← hV]; exact Fr.sF (Or.inl ⟨rfl, by decide⟩)
  have v22 : ∀ q, q < 5 → gI V.1 22 0 q = nI q := fun q hq => by rw [← hV, gI_sFs, if_pos hq]
  obtain ⟨Z1, e1, f1, h1⟩ := c_l63 V d
  obtain ⟨Z2, e2, f2, h2⟩ := c_l102 Z1 d
  obtain ⟨Z3, e3, f3, h3'⟩ := c_1 Z2 d
  rw [e1, exd_l]
  unfold fn_71_J100
  rw [e2, exd_l]
  unfold fn_71_J123 fn_9
  obtain ⟨Z4, e4, f4, h4, h4'⟩ := c_35 (Y := Z3) (i0 := 0 + 3) (i1 := d) (by omega)
  rw [e3, bd_t, e4, bd_t, wr_t, wr_t, bd_t]
  have f1' : Fr (S2 0) V Z1 := f1.up (fun k i hk => Or.inl ⟨hk.1, by
    have := hk.2
    simp only [List.mem_cons, List.mem_nil_iff, or_false] at *
    omega⟩)
  have f2' : Fr (S2 0) Z1 Z2 := f2.up (fun k i hk => Or.inr (Or.inr hk))
  have f3' : Fr (S2 0) Z2 Z3 := f3.up (fun k i hk => Or.inl ⟨hk.1, by
    have := hk.2
    simp only [List.mem_cons, List.mem_nil_iff, or_false] at *
    omega⟩)
  have fA : Fr (S2 0) (sG X 3 d) Z3 := (((fU.tr fV).tr f1').tr f2').tr f3'
  -- what the draft holds is still there
  have gd : ∀ k, k ∈ [5, 7, 9, 10, 11, 12, 14, 15, 16, 17, 18, 19] → gI Z3.1 k d = gI X.1 k d := fun k hk => (fA.gI (fun q => by
    unfold S2 at q
    simp only [List.mem_cons, List.mem_nil_iff, or_false] at *
    omega)).trans (by rw [gI_sG])
  have gd9 : ∀ a, gI Z2.1 9 d a = gI X.1 9 d a := fun a => by
    rw [((((fU.tr fV).tr f1').tr f2').gI (k := 9) (i := d) (fun q => by
      unfold S2 at q
      simp only [List.mem_cons, List.mem_nil_iff, or_false] at *
      omega)), gI_sG]
  have gd7 : ∀ k, gI V.1 7 d k = gI X.1 7 d k := fun k => by
    rw [((fU.tr fV).gI (k := 7) (i := d) (fun q => by
      unfold S2 at q
      simp only [List.mem_cons, List.mem_nil_iff, or_false] at *
      omega)), gI_sG]
  have f4' : Fr (S2 0) Z3 Z4 := f4.up (fun k i hk => Or.inr (Or.inl hk))
  have m35 : S2 0 35 0 := Or.inl ⟨rfl, by decide⟩
  generalize hT : sI (sI Z4 35 0 1 (nI 0)) 35 0 2 (nI 0) = T
  have fT : Fr (S2 0) Z4 T := by rw [← hT]; exact (Fr.sI m35).tr (Fr.sI m35)
  have fX : Fr (S2 0) (sG X 3 d) T := (fA.tr f4').tr fT
  have t4 : ∀ k, k ≠ 35 → gI T.1 k = gI Z4.1 k := fun k hk => by rw [← hT, gI_sIk hk, gI_sIk hk]
  have tj : gJ T.1 = gJ Z4.1 := by rw [← hT]; rfl
  have a4 : ∀ k i, i ≠ 3 → gI Z4.1 k i = gI Z3.1 k i ∧ gJ Z4.1 k i = gJ Z3.1 k i := fun k i hi => f4.2 k i (fun q => hi q.1)
  have a3 : ∀ k i, ¬ k ∈ [29, 30, 31, 32, 33, 34] → gI Z3.1 k i = gI Z2.1 k i ∧ gJ Z3.1 k i = gJ Z2.1 k i := fun k i hk => f3.2 k i (fun q => hk q.2)
  have a2 : ∀ k i, k ≠ 27 → gI Z2.1 k i = gI Z1.1 k i ∧ gJ Z2.1 k i = gJ Z1.1 k i := fun k i hk => f2.2 k i (fun q => hk q.1)
  have a1 : ∀ k i, ¬ k ∈ [23, 24, 25] → gI Z1.1 k i = gI V.1 k i := fun k i hk => f1.gI (fun q => hk q.2)
  have xd : ∀ k, k ∈ [5, 10, 11] → gI T.1 k d = gI X.1 k d := fun k hk => (fX.gI (fun q => by
    unfold S2 at q
    simp only [List.mem_cons, List.mem_nil_iff, or_false] at *
    omega)).trans (by rw [gI_sG])
  have t3 : T.2 (0 + 3) = d := by rw [fX.1, g_sG, ug_at]
  refine ⟨T, rfl, fX, ?_, fun x hx => ?_, ⟨⟨?_, ?_⟩, fun j hj => ?_⟩, fun k hk => ?_, fun a ha => ?_, fun a p ha hp => ?_, ⟨⟨?_, ?_⟩, fun j w _ hm _ => absurd hm (Nat.not_lt_zero _)⟩⟩
  · rw [t3]
    exact hP.cg (xd 5 (by decide)) (xd 11 (by decide)) (xd 10 (by decide))
  · rw [t4 21 (by omega), (a4 21 0 (by omega)).1, (a3 21 0 (by decide)).1, (a2 21 0 (by omega)).1, a1 21 0 (by decide), ← hV, gI_sFk (by omega)]
    exact u21 x hx
  · rw [t4 12 (by omega), h4.1, gd 12 (by decide), q1, r9]
  · rw [t4 12 (by omega), h4.2, gd 12 (by decide), q2, r8]
  · obtain ⟨b1, b2, b3, b4, b5, b6⟩ := h4' j (by omega)
    rw [t4 19 (by omega), t4 14 (by omega), t4 15 (by omega), t4 16 (by omega), t4 17 (by omega), t4 18 (by omega), b1, b2, b3, b4, b5, b6, gd 19 (by decide), gd 14 (by decide), gd 15 (by decide), gd 16 (by decide), gd 17 (by decide), gd 18 (by decide)]
    exact hQ j hj
  · obtain ⟨b1, b2, b3, b4⟩ := hK k hk
    obtain ⟨c1, c2, c3⟩ := h1 k (by omega)
    rw [t4 22 (by omega), (a4 22 0 (by omega)).1, (a3 22 0 (by decide)).1, (a2 22 0 (by omega)).1, a1 22 0 (by decide), v22 k (by omega), b1, t4 23 (by omega), (a4 23 0 (by omega)).1, (a3 23 0 (by decide)).1, (a2 23 0 (by omega)).1, c1, gd7, b2, t4 24 (by omega), (a4 24 0 (by omega)).1, (a3 24 0 (by decide)).1, (a2 24 0 (by omega)).1, c2, b3, tj, (a4 25 0 (by omega)).2, (a3 25 0 (by decide)).2, (a2 25 0 (by omega)).2, c3, b4]
    exact ⟨rfl, rfl, rfl, by decide⟩
  · obtain ⟨b1, b2, b3, b4, b5, b6⟩ := hA a ha
    obtain ⟨c1, c2, c3, c4, c5, c6⟩ := h3' a (by omega)
    rw [t4 29 (by omega), (a4 29 0 (by omega)).1, t4 30 (by omega), (a4 30 0 (by omega)).1, t4 31 (by omega), (a4 31 0 (by omega)).1, t4 34 (by omega), (a4 34 0 (by omega)).1, t4 32 (by omega), (a4 32 0 (by omega)).1, t4 33 (by omega), (a4 33 0 (by omega)).1, c1, c2, c3, c4, c5, c6, gd9, b1, b2, b3, b4, b5, b6]
    exact ⟨rfl, rfl, rfl, rfl, rfl, rfl⟩
  · have e27 : gI T.1 27 a p = gI Z2.1 27 a p := by
      rw [t4 27 (by omega), (f4.gI (k := 27) (i := a) (fun q => absurd q.2 (by decide))), (a3 27 a (by decide)).1]
    rw [show 8 * 0 + a = a by omega, e27, h2 a p (by omega) (by omega), hB a p ha hp]
  · rw [← hT, gI_sIv, upd_ne (by omega), gI_sIv, upd_at]
  · rw [← hT, gI_sIv, upd_at]
    rfl

