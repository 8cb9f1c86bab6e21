/-! a state of the class copied into another -/
theorem cp0 {f g : Nat → Int32} {n j : Nat} (h : j < n) : va_cpy f g 0 0 n j = f j := (if_pos ⟨Nat.zero_le _, by omega⟩).trans (by rw [Nat.zero_add, Nat.sub_zero])
theorem cp0J {f g : Nat → Int64} {n j : Nat} (h : j < n) : va_cpy f g 0 0 n j = f j := (if_pos ⟨Nat.zero_le _, by omega⟩).trans (by rw [Nat.zero_add, Nat.sub_zero])
theorem gI_sFi {Y : Sm} {k i i' : Nat} {f : Nat → Int32} (h : i' ≠ i) : gI (sF Y k i f).1 k i' = gI Y.1 k i' := by
  rw [gI_sF, if_neg (fun q => h q.2)]
def S2 (n k i : Nat) : Prop := (i = n ∧ k ∈ [21, 22, 23, 24, 25, 29, 30, 31, 32, 33, 34, 35, 36]) ∨ (i = n + 3 ∧ k ∈ [12, 14, 15, 16, 17, 18, 19]) ∨ (k = 27 ∧ 8 * n ≤ i ∧ i < 8 * n + 8)
def K27 (n k i : Nat) : Prop := k = 27 ∧ 8 * n ≤ i ∧ i < 8 * n + 8
theorem c_72l {Y : Sm} {i0 i1 : Nat} (hne : i0 ≠ i1) : ∃ Z, lp (fun s => fn_72_L121 i0 i1 s.1 s.2) FU (nI 0, Y) = some (.inl Z) ∧ Fr (K27 i0) Y Z ∧ ∀ a p, a < 8 → p < 5 → gI Z.1 27 (8 * i0 + a) p = gI Y.1 27 (8 * i1 + a) p := by
  have key := Ok_lp (F := fun s => fn_72_L121 i0 i1 s.1 s.2) (Q := fun x => ∃ Z, x = .inl Z ∧ Fr (K27 i0) Y Z ∧ ∀ a p, a < 8 → p < 5 → gI Z.1 27 (8 * i0 + a) p = gI Y.1 27 (8 * i1 + a) p) (fun j s => s.1 = nI j ∧ Fr (K27 i0) Y s.2 ∧ ∀ a p, a < j → p < 5 → gI s.2.1 27 (8 * i0 + a) p = gI Y.1 27 (8 * i1 + a) p) 8 (N := FU) (FU_lt (by omega)) (s := (nI 0, Y)) ?_ ?_ ?_
  · obtain ⟨x, e, Z, e2, h1⟩ := key
    exact ⟨Z, by rw [e, e2], h1⟩
  · rintro j ⟨l, W⟩ hj ⟨e, hF, h1⟩
    have e : l = nI j := e
    subst e
    have hF : Fr (K27 i0) Y W := hF
    refine ⟨.inl (nI (j + 1), sF W 27 (8 * i0 + j) (va_cpy (gI W.1 27 (8 * i1 + j)) (gI W.1 27 (8 * i0 + j)) 0 0 5)), ?_, rfl, hF.tr (Fr.sF ⟨rfl, by omega, by omega⟩), fun a p ha hp => ?_⟩
    · simp only [fn_72_L121, fn_44_27_27, sC_sF]
      simp (disch := omega) only [ck_in, ix_nI, pk_mul, nI_add, pk_sub, iteI_le_t, iteI_le_f, iteI_lt_t, iteI_lt_f, iteI_eq_t, iteI_eq_f, bd_t, wr_t, ite_m1_f, ite_m1_t, ↓reduceIte]
    · show gI (sF W 27 (8 * i0 + j) _).1 27 (8 * i0 + a) p = _
      by_cases c : a = j
      · subst c
        rw [gI_sFs, cp0 hp, hF.gI (k := 27) (i := 8 * i1 + a) (fun z => by have := z.2; omega)]
      · rw [gI_sFi (by omega)]
        exact h1 a p (by omega) hp
  · rintro ⟨l, W⟩ ⟨e, hF, h1⟩
    have e : l = nI 8 := e
    subst e
    refine ⟨.inr (.inl W), ?_, W, rfl, hF, h1⟩
    simp only [fn_72_L121]
    simp (disch := omega) only [ck_in, ix_nI, pk_mul, nI_add, pk_sub, iteI_le_t, iteI_le_f, iteI_lt_t, iteI_lt_f, iteI_eq_t, iteI_eq_f, bd_t, wr_t, ite_m1_f, ite_m1_t, ↓reduceIte]
  · exact ⟨rfl, Fr.rf, fun a p ha hp => by omega⟩
theorem sD2_J {Y : Sm} {i1 i0 n k' i' : Nat} (h : ¬ (k' = 25 ∧ i' = i0)) : gJ (sD2 Y 25 i1 0 25 i0 0 n).1 k' i' = gJ Y.1 k' i' := by rw [gJ_sD2, if_neg h]
theorem Fr.sD2 {S : Nat → Nat → Prop} {Y : Sm} {ks is sp kd id dp n : Nat} (h : S kd id) : Fr S Y (sD2 Y ks is sp kd id dp n) := ⟨rfl, fun k' i' hn => ⟨rfl, by rw [gJ_sD2, if_neg (fun q => hn (by rw [q.1, q.2]; exact h))]⟩⟩
/-- the first stage: the fields and the rows of the classes -/
theorem c_72a {Y : Sm} {i0 i1 : Nat} (hne : i0 ≠ i1) (hb : bz (gI Y.1 21 i1 4) = true) : ∃ B, (fn_72 i0 i1 Y = exd (lp (fun s => fn_72_L121 i0 i1 s.1 s.2) FU (nI 0, B)) fun s9 => fn_72_J148 i0 i1 s9) ∧ Fr (S2 i0) (sG Y (i0 + 3) (Y.2 (i1 + 3))) B ∧ (∀ x, x < 8 → gI B.1 21 i0 (x + 1) = gI Y.1 21 i1 (x + 1)) ∧ (∀ k, k < 5 → gI B.1 22 i0 k = gI Y.1 22 i1 k ∧ gI B.1 23 i0 k = gI Y.1 23 i1 k ∧ gI B.1 24 i0 k = gI Y.1 24 i1 k ∧ gJ B.1 25 i0 k = gJ Y.1 25 i1 k) := by
  have m21 : S2 i0 21 i0 := Or.inl ⟨rfl, by decide⟩
  have m22 : S2 i0 22 i0 := Or.inl ⟨rfl, by decide⟩
  have m23 : S2 i0 23 i0 := Or.inl ⟨rfl, by decide⟩
  have m24 : S2 i0 24 i0 := Or.inl ⟨rfl, by decide⟩
  have m25 : S2 i0 25 i0 := Or.inl ⟨rfl, by decide⟩
  have hne2 : i1 ≠ i0 := fun z => hne z.symm
  let A := sI (sI (sI (sI (sI (sI (sI (sI (sG Y (i0 + 3) (Y.2 (i1 + 3))) 21 i0 1 (gI Y.1 21 i1 1)) 21 i0 2 (gI Y.1 21 i1 2)) 21 i0 3 (gI Y.1 21 i1 3)) 21 i0 4 (gI Y.1 21 i1 4)) 21 i0 5 (gI Y.1 21 i1 5)) 21 i0 6 (gI Y.1 21 i1 6)) 21 i0 7 (gI Y.1 21 i1 7)) 21 i0 8 (gI Y.1 21 i1 8)
  refine ⟨sD2 (sF (sF (sF A 22 i0 (va_cpy (gI A.1 22 i1) (gI A.1 22 i0) 0 0 5)) 23 i0 (va_cpy (gI A.1 23 i1) (gI A.1 23 i0) 0 0 5)) 24 i0 (va_cpy (gI A.1 24 i1) (gI A.1 24 i0) 0 0 5)) 25 i1 0 25 i0 0 5, ?_, ?_, fun x hx => ?_, fun k hk => ⟨?_, ?_, ?_, ?_⟩⟩
  · unfold fn_72
    simp only [wr_t, fn_44_22_22, fn_44_23_23, fn_44_24_24, bd_t, sC_sF, gI_sG]
    simp (disch := assumption) only [gI_sIi, gI_sG]
    rw [ck_t hb]
    simp (disch := omega) only [gI_sFk]
    rfl
  · exact (Fr.sI m21).tr ((Fr.sI m21).tr ((Fr.sI m21).tr ((Fr.sI m21).tr ((Fr.sI m21).tr ((Fr.sI m21).tr ((Fr.sI m21).tr ((Fr.sI m21).tr ((Fr.sF m22).tr ((Fr.sF m23).tr ((Fr.sF m24).tr (Fr.sD2 m25)))))))))))
  · rw [gI_sD2, gI_sFk (by omega), gI_sFk (by omega), gI_sFk (by omega)]
    show gI A.1 21 i0 (x + 1) = _
    have hx' : x = 0 ∨ x = 1 ∨ x = 2 ∨ x = 3 ∨ x = 4 ∨ x = 5 ∨ x = 6 ∨ x = 7 := by omega
    rcases hx' with rfl | rfl | rfl | rfl | rfl | rfl | rfl | rfl <;> simp (disch := omega) only [A, gI_sIv, upd_ne, upd_at, iteN_t, iteN_f, ↓reduceIte]
  · rw [gI_sD2, gI_sFk (by omega), gI_sFk (by omega), gI_sFs, cp0 hk]
    simp (disch := omega) only [A, gI_sIk, gI_sG]
  · rw [gI_sD2, gI_sFk (by omega), gI_sFs, cp0 hk]
    simp (disch := omega) only [A, gI_sIk, gI_sG]
  · rw [gI_sD2, gI_sFs, cp0 hk]
    simp (disch := omega) only [A, gI_sIk, gI_sG]
  · rw [gJ_sD2, if_pos ⟨rfl, rfl⟩, cp0J hk]
    rfl

